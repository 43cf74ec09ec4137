abbrev dlX5_counted : List (Nat × Instr × Nat) := [(0, .iload_n 1, 1), (1, .bipush (-2), 2), (3, .if_icmp .ne 16, 3), (6, .aload_n 0, 1), (7, .dup, 1), (8, .getfield 53, 3), (11, .iconst 1, 1), (12, .iadd, 1), (13, .putfield 53, 3), (16, .goto 38, 3), (19, .iload_n 1, 1), (20, .bipush (-3), 2), (22, .if_icmp .ne 16, 3), (25, .aload_n 0, 1), (26, .dup, 1), (27, .getfield 57, 3), (30, .iconst 1, 1), (31, .iadd, 1), (32, .putfield 57, 3), (35, .goto 19, 3), (38, .iload_n 1, 1), (39, .bipush (-4), 2), (41, .if_icmp .ne 13, 3), (44, .aload_n 0, 1), (45, .dup, 1), (46, .getfield 60, 3), (49, .iconst 1, 1), (50, .iadd, 1), (51, .putfield 60, 3), (54, .iload_n 1, 1), (55, .ireturn, 1)]
theorem DX5_counted : zD cX5_counted dlX5_counted = true := by decide +kernel
theorem hd5_counted : yX5_counted.cls = RX5 ∧ yX5_counted.cls ≠ "java/lang/invoke/MethodHandle" ∧ yX5_counted.cls ≠ "java/lang/invoke/VarHandle" ∧ (parseMethodDescriptor yX5_counted.desc).map (fun d => d.parameters.length) = some 1 := by decide +kernel
abbrev rm5_counted : Room := { frames := 0, cells := 0, slots := 0, locals := 0 }
theorem in5_counted_5 : ∀ w ∈ wsX50, w ∈ wsX5_counted := fun w h => List.mem_cons_of_mem _ (List.mem_append_right _ h)
set_option maxHeartbeats 4000000 in
set_option maxRecDepth 100000 in
theorem c5_counted {l : Launch} {D : va_G} {cI cZ cB : ClassId} {q : Nat → Nat} {qw : Nat → Nat} {qt : Nat → Nat} {qi : Nat → Nat} {qj : Nat → Nat} {qb : Nat → Nat} {qx : Nat → Nat} {sz : Nat} {kept0 : Int32} {kept1 : Int32} {fabove : Int64} {fbelow : Int64} {bads : Int32} {noes : Int32} {fulls : Int32} {a_answer : Int32} {r : Int32} {d_bads : Int32} {d_noes : Int32} {d_fulls : Int32} (hf : f5_counted bads noes fulls a_answer = some (r, d_bads, d_noes, d_fulls)) : Met l yX5_counted wsX5_counted rm5_counted (zPm D cI cZ cB [.ref (q 0), .int a_answer] sz (cHG q (qw 0) (qt 0) (qi 0) (qj 0) (qb 0) (qx 0) kept0 kept1 fabove fbelow bads noes fulls)) (zQm D (some (.int r)) (cHG q (qw 0) (qt 0) (qi 0) (qj 0) (qb 0) (qx 0) kept0 kept1 fabove fbelow d_bads d_noes d_fulls) (va_A (cHG q (qw 0) (qt 0) (qi 0) (qj 0) (qb 0) (qx 0) kept0 kept1 fabove fbelow bads noes fulls) sz)) 0 0 (va_A (cHG q (qw 0) (qt 0) (qi 0) (qj 0) (qb 0) (qx 0) kept0 kept1 fabove fbelow bads noes fulls) sz) := by
  unfold f5_counted at hf
  refine z_mutI RX5 (by decide +kernel) rfl rfl (Nat.le_of_ble_eq_true rfl) ?_
  intro p e s m args below meth c Q A ls hx hb hml hown hts hK hP hD hS hA hret hl
  have hl : lv_has ls 2 [(0, .ref (q 0)), (1, .int a_answer)] := hl
  refine lv_iload_n hx hb (zD_g DX5_counted 0 rfl) rfl (lv_at hl 1 rfl) ?_
  refine lv_bipush (v := (-2 : Int32)) hx hb (zD_g DX5_counted 1 rfl) (by decide) ?_
  refine lv_icmp_ne (tgt := 19) hx hb (zD_g DX5_counted 2 rfl) (by decide) (fun c1 => ?_) (fun c1 => ?_)
  · replace hf := z_f c1 hf
    refine lv_iload_n hx hb (zD_g DX5_counted 10 rfl) rfl (lv_at hl 1 rfl) ?_
    refine lv_bipush (v := (-3 : Int32)) hx hb (zD_g DX5_counted 11 rfl) (by decide) ?_
    refine lv_icmp_ne (tgt := 38) hx hb (zD_g DX5_counted 12 rfl) (by decide) (fun c2 => ?_) (fun c2 => ?_)
    · replace hf := z_f c2 hf
      refine lv_iload_n hx hb (zD_g DX5_counted 20 rfl) rfl (lv_at hl 1 rfl) ?_
      refine lv_bipush (v := (-4 : Int32)) hx hb (zD_g DX5_counted 21 rfl) (by decide) ?_
      refine lv_icmp_ne (tgt := 54) hx hb (zD_g DX5_counted 22 rfl) (by decide) (fun c3 => ?_) (fun c3 => ?_)
      · replace hf := z_f c3 hf
        refine lv_iload_n hx hb (zD_g DX5_counted 29 rfl) rfl (lv_at hl 1 rfl) ?_
        cases hf
        exact hret _ _ _ _ hP hD hS (zD_g DX5_counted 30 rfl)
      · replace hf := z_t c3 hf
        refine lv_aload_n hx hb (zD_g DX5_counted 23 rfl) rfl (lv_at hl 0 rfl) ?_
        refine lv_dup hx hb (zD_g DX5_counted 24 rfl) rfl ?_
        refine va_get (D := D) (ci := 4) (v := .int fulls) (C := RX5) (T := TX5) (N := 13) hx hb hts in5_counted_5 hown hK.1 hP 0 rfl rfl 12 (by decide) (hts _ (List.mem_of_getElem? (i := 3) rfl)) (fun _ h9 => h9) rfl (zD_g DX5_counted 25 rfl) ?_
        refine lv_iconst (v := (1 : Int32)) hx hb (zD_g DX5_counted 26 rfl) (by decide) ?_
        refine lv_iadd hx hb (zD_g DX5_counted 27 rfl) ?_
        refine lv_topi (fun x4 ex4 => ?_)
        replace hf := zl_s hf x4 ex4
        refine z_put (D := D) (ci := 4) (v := .int x4) (ty := .int) (C := RX5) (T := TX5) (N := 13) (ws' := (cHG q (qw 0) (qt 0) (qi 0) (qj 0) (qb 0) (qx 0) kept0 kept1 fabove fbelow bads noes x4)) hx hb hts in5_counted_5 tyX5 tyX5_ok nmX5 hown hK.1 hP hD hS 0 rfl rfl 12 (by decide) (hts _ (List.mem_of_getElem? (i := 3) rfl)) (fun _ h9 => h9) rfl (tyX5_ok 12 (by decide)) rfl rfl (Nat.le_of_ble_eq_true rfl) rfl (zD_g DX5_counted 28 rfl) (fun H locs hP hD hS => ?_)
        refine lv_iload_n hx hb (zD_g DX5_counted 29 rfl) rfl (lv_at hl 1 rfl) ?_
        cases hf
        exact hret _ _ _ _ hP hD hS (zD_g DX5_counted 30 rfl)
    · replace hf := z_t c2 hf
      refine lv_aload_n hx hb (zD_g DX5_counted 13 rfl) rfl (lv_at hl 0 rfl) ?_
      refine lv_dup hx hb (zD_g DX5_counted 14 rfl) rfl ?_
      refine va_get (D := D) (ci := 4) (v := .int noes) (C := RX5) (T := TX5) (N := 13) hx hb hts in5_counted_5 hown hK.1 hP 0 rfl rfl 11 (by decide) (hts _ (List.mem_of_getElem? (i := 2) rfl)) (fun _ h9 => h9) rfl (zD_g DX5_counted 15 rfl) ?_
      refine lv_iconst (v := (1 : Int32)) hx hb (zD_g DX5_counted 16 rfl) (by decide) ?_
      refine lv_iadd hx hb (zD_g DX5_counted 17 rfl) ?_
      refine lv_topi (fun x5 ex5 => ?_)
      replace hf := zl_s hf x5 ex5
      refine z_put (D := D) (ci := 4) (v := .int x5) (ty := .int) (C := RX5) (T := TX5) (N := 13) (ws' := (cHG q (qw 0) (qt 0) (qi 0) (qj 0) (qb 0) (qx 0) kept0 kept1 fabove fbelow bads x5 fulls)) hx hb hts in5_counted_5 tyX5 tyX5_ok nmX5 hown hK.1 hP hD hS 0 rfl rfl 11 (by decide) (hts _ (List.mem_of_getElem? (i := 2) rfl)) (fun _ h9 => h9) rfl (tyX5_ok 11 (by decide)) rfl rfl (Nat.le_of_ble_eq_true rfl) rfl (zD_g DX5_counted 18 rfl) (fun H locs hP hD hS => ?_)
      refine lv_goto (tgt := 54) hx hb (zD_g DX5_counted 19 rfl) (by decide) ?_
      refine lv_iload_n hx hb (zD_g DX5_counted 29 rfl) rfl (lv_at hl 1 rfl) ?_
      cases hf
      exact hret _ _ _ _ hP hD hS (zD_g DX5_counted 30 rfl)
  · replace hf := z_t c1 hf
    refine lv_aload_n hx hb (zD_g DX5_counted 3 rfl) rfl (lv_at hl 0 rfl) ?_
    refine lv_dup hx hb (zD_g DX5_counted 4 rfl) rfl ?_
    refine va_get (D := D) (ci := 4) (v := .int bads) (C := RX5) (T := TX5) (N := 13) hx hb hts in5_counted_5 hown hK.1 hP 0 rfl rfl 10 (by decide) (hts _ (List.mem_of_getElem? (i := 1) rfl)) (fun _ h9 => h9) rfl (zD_g DX5_counted 5 rfl) ?_
    refine lv_iconst (v := (1 : Int32)) hx hb (zD_g DX5_counted 6 rfl) (by decide) ?_
    refine lv_iadd hx hb (zD_g DX5_counted 7 rfl) ?_
    refine lv_topi (fun x6 ex6 => ?_)
    replace hf := zl_s hf x6 ex6
    refine z_put (D := D) (ci := 4) (v := .int x6) (ty := .int) (C := RX5) (T := TX5) (N := 13) (ws' := (cHG q (qw 0) (qt 0) (qi 0) (qj 0) (qb 0) (qx 0) kept0 kept1 fabove fbelow x6 noes fulls)) hx hb hts in5_counted_5 tyX5 tyX5_ok nmX5 hown hK.1 hP hD hS 0 rfl rfl 10 (by decide) (hts _ (List.mem_of_getElem? (i := 1) rfl)) (fun _ h9 => h9) rfl (tyX5_ok 10 (by decide)) rfl rfl (Nat.le_of_ble_eq_true rfl) rfl (zD_g DX5_counted 8 rfl) (fun H locs hP hD hS => ?_)
    refine lv_goto (tgt := 54) hx hb (zD_g DX5_counted 9 rfl) (by decide) ?_
    refine lv_iload_n hx hb (zD_g DX5_counted 29 rfl) rfl (lv_at hl 1 rfl) ?_
    cases hf
    exact hret _ _ _ _ hP hD hS (zD_g DX5_counted 30 rfl)
abbrev dlX5_thing : List (Nat × Instr × Nat) := [(0, .aload_n 0, 1), (1, .aload_n 0, 1), (2, .getfield 10, 3), (5, .iload_n 1, 1), (6, .iload_n 2, 1), (7, .iload_n 3, 1), (8, .iload 4, 2), (10, .invokevirtual 63, 3), (13, .invokevirtual 67, 3), (16, .ireturn, 1)]
theorem DX5_thing : zD cX5_thing dlX5_thing = true := by decide +kernel
set_option maxRecDepth 20000 in
theorem ggX5_thing_X4_addThing : GoodIn wsX5_thing wsX4_addThing := goodIn_r _ [6, 7, 8, 9, 10, 11, 12, 13, 14, 15, 16, 17, 18, 5, 19, 20, 21, 42, 43, 44, 45, 46, 47, 48, 49, 50, 51, 52, 53, 54, 55, 56, 57, 58, 59, 60, 61, 62] (by decide +kernel) (by decide +kernel)
set_option maxRecDepth 20000 in
theorem gX5_thing_X4_addThing : GoodIn wsX5_thing (wsV RX5 63 RX4 yX4_addThing wsX4_addThing) := goodIn_app (goodIn_of _ (by decide +kernel)) ggX5_thing_X4_addThing
set_option maxRecDepth 20000 in
theorem ggX5_thing_X5_counted : GoodIn wsX5_thing wsX5_counted := goodIn_r _ [25, 26, 27, 28, 29, 30, 31, 32, 33, 34, 35, 36, 37, 38, 39, 40, 41] (by decide +kernel) (by decide +kernel)
set_option maxRecDepth 20000 in
theorem gX5_thing_X5_counted : GoodIn wsX5_thing (wsV RX5 67 RX5 yX5_counted wsX5_counted) := goodIn_app (goodIn_of _ (by decide +kernel)) ggX5_thing_X5_counted
theorem hd5_thing : yX5_thing.cls = RX5 ∧ yX5_thing.cls ≠ "java/lang/invoke/MethodHandle" ∧ yX5_thing.cls ≠ "java/lang/invoke/VarHandle" ∧ (parseMethodDescriptor yX5_thing.desc).map (fun d => d.parameters.length) = some 4 := by decide +kernel
abbrev rm5_thing : Room := { frames := 2, cells := 0, slots := 0, locals := 46 }
theorem in5_thing_5 : ∀ w ∈ wsX50, w ∈ wsX5_thing := fun w h => List.mem_cons_of_mem _ (List.mem_append_left _ (List.mem_append_left _ (List.mem_append_right _ h)))
set_option maxHeartbeats 4000000 in
set_option maxRecDepth 100000 in
theorem c5_thing {l : Launch} {D : va_G} {cI cZ cB : ClassId} {q : Nat → Nat} {qw : Nat → Nat} {qt : Nat → Nat} {qi : Nat → Nat} {qj : Nat → Nat} {qb : Nat → Nat} {qx : Nat → Nat} {sz : Nat} {kept0 : Int32} {kept1 : Int32} {fabove : Int64} {fbelow : Int64} {bads : Int32} {noes : Int32} {fulls : Int32} {w_things : Int32} {w_gifts : Int32} {w_days : Int32} {w_size : Nat → Int32} {w_weight : Nat → Int32} {w_sound : Nat → Int32} {w_harm : Nat → Int32} {w_in_ : Nat → Int32} {w_kind : Nat → Int32} {w_owner : Nat → Int32} {w_empty : Nat → Int32} {w_room : Nat → Int32} {w_told : Nat → Int32} {w_gate : Nat → Int32} {w_ear : Nat → Int32} {w_scale : Nat → Int32} {w_lost : Nat → Int32} {w_watch : Nat → Int32} {w_moments : Int32} {w_kept : Nat → Int32} {a_size : Int32} {a_weight : Int32} {a_sound : Int32} {a_harm : Int32} {r : Int32} {d_bads : Int32} {d_noes : Int32} {d_fulls : Int32} {d_w_things : Int32} {d_w_size : Nat → Int32} {d_w_weight : Nat → Int32} {d_w_sound : Nat → Int32} {d_w_harm : Nat → Int32} {d_w_in_ : Nat → Int32} {d_w_moments : Int32} (hf : f5_thing bads noes fulls w_things w_size w_weight w_sound w_harm w_in_ w_moments a_size a_weight a_sound a_harm = some (r, d_bads, d_noes, d_fulls, d_w_things, d_w_size, d_w_weight, d_w_sound, d_w_harm, d_w_in_, d_w_moments)) : Met l yX5_thing wsX5_thing rm5_thing (zPm D cI cZ cB [.ref (q 0), .int a_size, .int a_weight, .int a_sound, .int a_harm] sz (zcat [(cHG q (qw 0) (qt 0) (qi 0) (qj 0) (qb 0) (qx 0) kept0 kept1 fabove fbelow bads noes fulls), (cWar cI qw w_things w_gifts w_days w_size w_weight w_sound w_harm w_in_ w_kind w_owner w_empty w_room w_told w_gate w_ear w_scale w_lost w_watch w_moments w_kept)])) (zQm D (some (.int r)) (zcat [(cHG q (qw 0) (qt 0) (qi 0) (qj 0) (qb 0) (qx 0) kept0 kept1 fabove fbelow d_bads d_noes d_fulls), (cWar cI qw d_w_things w_gifts w_days d_w_size d_w_weight d_w_sound d_w_harm d_w_in_ w_kind w_owner w_empty w_room w_told w_gate w_ear w_scale w_lost w_watch d_w_moments w_kept)]) (va_A (zcat [(cHG q (qw 0) (qt 0) (qi 0) (qj 0) (qb 0) (qx 0) kept0 kept1 fabove fbelow bads noes fulls), (cWar cI qw w_things w_gifts w_days w_size w_weight w_sound w_harm w_in_ w_kind w_owner w_empty w_room w_told w_gate w_ear w_scale w_lost w_watch w_moments w_kept)]) sz)) 0 0 (va_A (zcat [(cHG q (qw 0) (qt 0) (qi 0) (qj 0) (qb 0) (qx 0) kept0 kept1 fabove fbelow bads noes fulls), (cWar cI qw w_things w_gifts w_days w_size w_weight w_sound w_harm w_in_ w_kind w_owner w_empty w_room w_told w_gate w_ear w_scale w_lost w_watch w_moments w_kept)]) sz) := by
  unfold f5_thing at hf
  refine z_mutI RX5 (by decide +kernel) rfl rfl (Nat.le_of_ble_eq_true rfl) ?_
  intro p e s m args below meth c Q A ls hx hb hml hown hts hK hP hD hS hA hret hl
  have hl : lv_has ls 5 [(0, .ref (q 0)), (1, .int a_size), (2, .int a_weight), (3, .int a_sound), (4, .int a_harm)] := hl
  refine lv_aload_n hx hb (zD_g DX5_thing 0 rfl) rfl (lv_at hl 0 rfl) ?_
  refine lv_aload_n hx hb (zD_g DX5_thing 1 rfl) rfl (lv_at hl 0 rfl) ?_
  refine va_get (D := D) (ci := 4) (v := .ref (qw 0)) (C := RX5) (T := TX5) (N := 13) hx hb hts in5_thing_5 hown hK.1 hP 0 rfl rfl 0 (by decide) (hts _ (List.mem_of_getElem? (i := 1) rfl)) (fun _ h9 => h9) rfl (zD_g DX5_thing 2 rfl) ?_
  refine lv_iload_n hx hb (zD_g DX5_thing 3 rfl) rfl (lv_at hl 1 rfl) ?_
  refine lv_iload_n hx hb (zD_g DX5_thing 4 rfl) rfl (lv_at hl 2 rfl) ?_
  refine lv_iload_n hx hb (zD_g DX5_thing 5 rfl) rfl (lv_at hl 3 rfl) ?_
  refine lv_iload hx hb (zD_g DX5_thing 6 rfl) (lv_at hl 4 rfl) ?_
  obtain ⟨r1, w_things_2, w_size_3, w_weight_4, w_sound_5, w_harm_6, w_in_7, w_moments_8, hc9, hf⟩ := zb8_s hf
  refine z_VB (As := [.int a_size, .int a_weight, .int a_sound, .int a_harm]) (rest := [.ref (q 0)]) (cs' := [(cWar cI qw w_things_2 w_gifts w_days w_size_3 w_weight_4 w_sound_5 w_harm_6 w_in_7 w_kind w_owner w_empty w_room w_told w_gate w_ear w_scale w_lost w_watch w_moments_8 w_kept)]) (ws' := (zcat [(cHG q (qw 0) (qt 0) (qi 0) (qj 0) (qb 0) (qx 0) kept0 kept1 fabove fbelow bads noes fulls), (cWar cI qw w_things_2 w_gifts w_days w_size_3 w_weight_4 w_sound_5 w_harm_6 w_in_7 w_kind w_owner w_empty w_room w_told w_gate w_ear w_scale w_lost w_watch w_moments_8 w_kept)])) ⟨hx, hb, hml, hown, hts⟩ hK (c4_addThing (things := w_things) (gifts := w_gifts) (days := w_days) (size := w_size) (weight := w_weight) (sound := w_sound) (harm := w_harm) (in_ := w_in_) (kind := w_kind) (owner := w_owner) (empty := w_empty) (room := w_room) (told := w_told) (gate := w_gate) (ear := w_ear) (scale := w_scale) (lost := w_lost) (watch := w_watch) (moments := w_moments) (kept := w_kept) (q := qw) hc9) (cwV 4 hts gX5_thing_X4_addThing rfl rfl rfl hd4_addThing ⟨Nat.le_of_ble_eq_true rfl, Nat.le_of_ble_eq_true rfl⟩) hP hD hS hA 2 [1] [0] [0, 1] (by decide +kernel) rfl rfl rfl rfl rfl rfl rfl rfl rfl hl.1 rfl rfl (Nat.le_of_ble_eq_true rfl) (zD_g DX5_thing 7 rfl) ⟨Nat.zero_le _, Nat.zero_le _⟩ (fun H locs hP hD hS => ?_)
  obtain ⟨r10, bads_11, noes_12, fulls_13, hc14, hf⟩ := zb4_s hf
  refine z_VB (As := [.int r1]) (rest := []) (cs' := [(cHG q (qw 0) (qt 0) (qi 0) (qj 0) (qb 0) (qx 0) kept0 kept1 fabove fbelow bads_11 noes_12 fulls_13)]) (ws' := (zcat [(cHG q (qw 0) (qt 0) (qi 0) (qj 0) (qb 0) (qx 0) kept0 kept1 fabove fbelow bads_11 noes_12 fulls_13), (cWar cI qw w_things_2 w_gifts w_days w_size_3 w_weight_4 w_sound_5 w_harm_6 w_in_7 w_kind w_owner w_empty w_room w_told w_gate w_ear w_scale w_lost w_watch w_moments_8 w_kept)])) ⟨hx, hb, hml, hown, hts⟩ hK (c5_counted (kept0 := kept0) (kept1 := kept1) (fabove := fabove) (fbelow := fbelow) (bads := bads) (noes := noes) (fulls := fulls) (q := q) (qw := qw) (qt := qt) (qi := qi) (qj := qj) (qb := qb) (qx := qx) hc14) (cwV 1 hts gX5_thing_X5_counted rfl rfl rfl hd5_counted ⟨Nat.le_of_ble_eq_true rfl, Nat.le_of_ble_eq_true rfl⟩) hP hD hS hA 2 [0] [1] [1, 0] (by decide +kernel) rfl rfl rfl rfl rfl rfl rfl rfl rfl hl.1 rfl rfl (Nat.le_of_ble_eq_true rfl) (zD_g DX5_thing 8 rfl) ⟨Nat.zero_le _, Nat.zero_le _⟩ (fun H locs hP hD hS => ?_)
  cases hf
  exact hret _ _ _ _ hP hD hS (zD_g DX5_thing 9 rfl)
abbrev dlX5_gift : List (Nat × Instr × Nat) := [(0, .aload_n 0, 1), (1, .aload_n 0, 1), (2, .getfield 10, 3), (5, .iload_n 1, 1), (6, .iload_n 2, 1), (7, .iload_n 3, 1), (8, .iload 4, 2), (10, .invokevirtual 71, 3), (13, .invokevirtual 67, 3), (16, .ireturn, 1)]
theorem DX5_gift : zD cX5_gift dlX5_gift = true := by decide +kernel
set_option maxRecDepth 20000 in
theorem ggX5_gift_X4_addGift : GoodIn wsX5_gift wsX4_addGift := goodIn_r _ [6, 7, 8, 9, 10, 11, 12, 13, 14, 15, 16, 17, 18, 19, 20, 21, 5, 22, 23, 24, 45, 46, 47, 48, 49, 50, 51, 52, 53, 54, 55, 56, 57, 58, 59, 60, 61, 62, 63, 64, 65] (by decide +kernel) (by decide +kernel)
set_option maxRecDepth 20000 in
theorem gX5_gift_X4_addGift : GoodIn wsX5_gift (wsV RX5 71 RX4 yX4_addGift wsX4_addGift) := goodIn_app (goodIn_of _ (by decide +kernel)) ggX5_gift_X4_addGift
set_option maxRecDepth 20000 in
theorem ggX5_gift_X5_counted : GoodIn wsX5_gift wsX5_counted := goodIn_r _ [28, 29, 30, 31, 32, 33, 34, 35, 36, 37, 38, 39, 40, 41, 42, 43, 44] (by decide +kernel) (by decide +kernel)
set_option maxRecDepth 20000 in
theorem gX5_gift_X5_counted : GoodIn wsX5_gift (wsV RX5 67 RX5 yX5_counted wsX5_counted) := goodIn_app (goodIn_of _ (by decide +kernel)) ggX5_gift_X5_counted
theorem hd5_gift : yX5_gift.cls = RX5 ∧ yX5_gift.cls ≠ "java/lang/invoke/MethodHandle" ∧ yX5_gift.cls ≠ "java/lang/invoke/VarHandle" ∧ (parseMethodDescriptor yX5_gift.desc).map (fun d => d.parameters.length) = some 4 := by decide +kernel
abbrev rm5_gift : Room := { frames := 3, cells := 0, slots := 0, locals := 66 }
theorem in5_gift_5 : ∀ w ∈ wsX50, w ∈ wsX5_gift := fun w h => List.mem_cons_of_mem _ (List.mem_append_left _ (List.mem_append_left _ (List.mem_append_right _ h)))
set_option maxHeartbeats 4000000 in
set_option maxRecDepth 100000 in
theorem c5_gift {l : Launch} {D : va_G} {cI cZ cB : ClassId} {q : Nat → Nat} {qw : Nat → Nat} {qt : Nat → Nat} {qi : Nat → Nat} {qj : Nat → Nat} {qb : Nat → Nat} {qx : Nat → Nat} {sz : Nat} {kept0 : Int32} {kept1 : Int32} {fabove : Int64} {fbelow : Int64} {bads : Int32} {noes : Int32} {fulls : Int32} {w_things : Int32} {w_gifts : Int32} {w_days : Int32} {w_size : Nat → Int32} {w_weight : Nat → Int32} {w_sound : Nat → Int32} {w_harm : Nat → Int32} {w_in_ : Nat → Int32} {w_kind : Nat → Int32} {w_owner : Nat → Int32} {w_empty : Nat → Int32} {w_room : Nat → Int32} {w_told : Nat → Int32} {w_gate : Nat → Int32} {w_ear : Nat → Int32} {w_scale : Nat → Int32} {w_lost : Nat → Int32} {w_watch : Nat → Int32} {w_moments : Int32} {w_kept : Nat → Int32} {a_kind : Int32} {a_city : Int32} {a_empty : Int32} {a_room : Int32} {r : Int32} {d_bads : Int32} {d_noes : Int32} {d_fulls : Int32} {d_w_gifts : Int32} {d_w_kind : Nat → Int32} {d_w_owner : Nat → Int32} {d_w_empty : Nat → Int32} {d_w_room : Nat → Int32} {d_w_told : Nat → Int32} {d_w_moments : Int32} (hf : f5_gift bads noes fulls w_gifts w_kind w_owner w_empty w_room w_told w_moments a_kind a_city a_empty a_room = some (r, d_bads, d_noes, d_fulls, d_w_gifts, d_w_kind, d_w_owner, d_w_empty, d_w_room, d_w_told, d_w_moments)) : Met l yX5_gift wsX5_gift rm5_gift (zPm D cI cZ cB [.ref (q 0), .int a_kind, .int a_city, .int a_empty, .int a_room] sz (zcat [(cHG q (qw 0) (qt 0) (qi 0) (qj 0) (qb 0) (qx 0) kept0 kept1 fabove fbelow bads noes fulls), (cWar cI qw w_things w_gifts w_days w_size w_weight w_sound w_harm w_in_ w_kind w_owner w_empty w_room w_told w_gate w_ear w_scale w_lost w_watch w_moments w_kept)])) (zQm D (some (.int r)) (zcat [(cHG q (qw 0) (qt 0) (qi 0) (qj 0) (qb 0) (qx 0) kept0 kept1 fabove fbelow d_bads d_noes d_fulls), (cWar cI qw w_things d_w_gifts w_days w_size w_weight w_sound w_harm w_in_ d_w_kind d_w_owner d_w_empty d_w_room d_w_told w_gate w_ear w_scale w_lost w_watch d_w_moments w_kept)]) (va_A (zcat [(cHG q (qw 0) (qt 0) (qi 0) (qj 0) (qb 0) (qx 0) kept0 kept1 fabove fbelow bads noes fulls), (cWar cI qw w_things w_gifts w_days w_size w_weight w_sound w_harm w_in_ w_kind w_owner w_empty w_room w_told w_gate w_ear w_scale w_lost w_watch w_moments w_kept)]) sz)) 0 0 (va_A (zcat [(cHG q (qw 0) (qt 0) (qi 0) (qj 0) (qb 0) (qx 0) kept0 kept1 fabove fbelow bads noes fulls), (cWar cI qw w_things w_gifts w_days w_size w_weight w_sound w_harm w_in_ w_kind w_owner w_empty w_room w_told w_gate w_ear w_scale w_lost w_watch w_moments w_kept)]) sz) := by
  unfold f5_gift at hf
  refine z_mutI RX5 (by decide +kernel) rfl rfl (Nat.le_of_ble_eq_true rfl) ?_
  intro p e s m args below meth c Q A ls hx hb hml hown hts hK hP hD hS hA hret hl
  have hl : lv_has ls 5 [(0, .ref (q 0)), (1, .int a_kind), (2, .int a_city), (3, .int a_empty), (4, .int a_room)] := hl
  refine lv_aload_n hx hb (zD_g DX5_gift 0 rfl) rfl (lv_at hl 0 rfl) ?_
  refine lv_aload_n hx hb (zD_g DX5_gift 1 rfl) rfl (lv_at hl 0 rfl) ?_
  refine va_get (D := D) (ci := 4) (v := .ref (qw 0)) (C := RX5) (T := TX5) (N := 13) hx hb hts in5_gift_5 hown hK.1 hP 0 rfl rfl 0 (by decide) (hts _ (List.mem_of_getElem? (i := 1) rfl)) (fun _ h9 => h9) rfl (zD_g DX5_gift 2 rfl) ?_
  refine lv_iload_n hx hb (zD_g DX5_gift 3 rfl) rfl (lv_at hl 1 rfl) ?_
  refine lv_iload_n hx hb (zD_g DX5_gift 4 rfl) rfl (lv_at hl 2 rfl) ?_
  refine lv_iload_n hx hb (zD_g DX5_gift 5 rfl) rfl (lv_at hl 3 rfl) ?_
  refine lv_iload hx hb (zD_g DX5_gift 6 rfl) (lv_at hl 4 rfl) ?_
  obtain ⟨r1, w_gifts_2, w_kind_3, w_owner_4, w_empty_5, w_room_6, w_told_7, w_moments_8, hc9, hf⟩ := zb8_s hf
  refine z_VB (As := [.int a_kind, .int a_city, .int a_empty, .int a_room]) (rest := [.ref (q 0)]) (cs' := [(cWar cI qw w_things w_gifts_2 w_days w_size w_weight w_sound w_harm w_in_ w_kind_3 w_owner_4 w_empty_5 w_room_6 w_told_7 w_gate w_ear w_scale w_lost w_watch w_moments_8 w_kept)]) (ws' := (zcat [(cHG q (qw 0) (qt 0) (qi 0) (qj 0) (qb 0) (qx 0) kept0 kept1 fabove fbelow bads noes fulls), (cWar cI qw w_things w_gifts_2 w_days w_size w_weight w_sound w_harm w_in_ w_kind_3 w_owner_4 w_empty_5 w_room_6 w_told_7 w_gate w_ear w_scale w_lost w_watch w_moments_8 w_kept)])) ⟨hx, hb, hml, hown, hts⟩ hK (c4_addGift (things := w_things) (gifts := w_gifts) (days := w_days) (size := w_size) (weight := w_weight) (sound := w_sound) (harm := w_harm) (in_ := w_in_) (kind := w_kind) (owner := w_owner) (empty := w_empty) (room := w_room) (told := w_told) (gate := w_gate) (ear := w_ear) (scale := w_scale) (lost := w_lost) (watch := w_watch) (moments := w_moments) (kept := w_kept) (q := qw) hc9) (cwV 4 hts gX5_gift_X4_addGift rfl rfl rfl hd4_addGift ⟨Nat.le_of_ble_eq_true rfl, Nat.le_of_ble_eq_true rfl⟩) hP hD hS hA 2 [1] [0] [0, 1] (by decide +kernel) rfl rfl rfl rfl rfl rfl rfl rfl rfl hl.1 rfl rfl (Nat.le_of_ble_eq_true rfl) (zD_g DX5_gift 7 rfl) ⟨Nat.zero_le _, Nat.zero_le _⟩ (fun H locs hP hD hS => ?_)
  obtain ⟨r10, bads_11, noes_12, fulls_13, hc14, hf⟩ := zb4_s hf
  refine z_VB (As := [.int r1]) (rest := []) (cs' := [(cHG q (qw 0) (qt 0) (qi 0) (qj 0) (qb 0) (qx 0) kept0 kept1 fabove fbelow bads_11 noes_12 fulls_13)]) (ws' := (zcat [(cHG q (qw 0) (qt 0) (qi 0) (qj 0) (qb 0) (qx 0) kept0 kept1 fabove fbelow bads_11 noes_12 fulls_13), (cWar cI qw w_things w_gifts_2 w_days w_size w_weight w_sound w_harm w_in_ w_kind_3 w_owner_4 w_empty_5 w_room_6 w_told_7 w_gate w_ear w_scale w_lost w_watch w_moments_8 w_kept)])) ⟨hx, hb, hml, hown, hts⟩ hK (c5_counted (kept0 := kept0) (kept1 := kept1) (fabove := fabove) (fbelow := fbelow) (bads := bads) (noes := noes) (fulls := fulls) (q := q) (qw := qw) (qt := qt) (qi := qi) (qj := qj) (qb := qb) (qx := qx) hc14) (cwV 1 hts gX5_gift_X5_counted rfl rfl rfl hd5_counted ⟨Nat.le_of_ble_eq_true rfl, Nat.le_of_ble_eq_true rfl⟩) hP hD hS hA 2 [0] [1] [1, 0] (by decide +kernel) rfl rfl rfl rfl rfl rfl rfl rfl rfl hl.1 rfl rfl (Nat.le_of_ble_eq_true rfl) (zD_g DX5_gift 8 rfl) ⟨Nat.zero_le _, Nat.zero_le _⟩ (fun H locs hP hD hS => ?_)
  cases hf
  exact hret _ _ _ _ hP hD hS (zD_g DX5_gift 9 rfl)
abbrev dlX5_put : List (Nat × Instr × Nat) := [(0, .aload_n 0, 1), (1, .aload_n 0, 1), (2, .getfield 10, 3), (5, .iload_n 1, 1), (6, .iload_n 2, 1), (7, .invokevirtual 74, 3), (10, .invokevirtual 67, 3), (13, .ireturn, 1)]
theorem DX5_put : zD cX5_put dlX5_put = true := by decide +kernel
set_option maxRecDepth 20000 in
theorem ggX5_put_X4_putIn : GoodIn wsX5_put wsX4_putIn := goodIn_r _ [6, 7, 8, 9, 10, 5, 11, 12, 13, 14, 15, 16, 17, 18, 19, 20, 21, 22, 23, 24, 25, 26, 27, 28, 29, 30, 31, 32, 33, 34, 35, 36, 37, 38, 39, 40, 41, 42, 43, 44, 45, 46, 47, 48, 49, 50, 51, 72, 73, 74, 75, 76, 77, 78, 79, 80, 81, 82, 83, 84, 85, 86, 87, 88, 89, 90, 91, 92] (by decide +kernel) (by decide +kernel)
set_option maxRecDepth 20000 in
theorem gX5_put_X4_putIn : GoodIn wsX5_put (wsV RX5 74 RX4 yX4_putIn wsX4_putIn) := goodIn_app (goodIn_of _ (by decide +kernel)) ggX5_put_X4_putIn
set_option maxRecDepth 20000 in
theorem ggX5_put_X5_counted : GoodIn wsX5_put wsX5_counted := goodIn_r _ [55, 56, 57, 58, 59, 60, 61, 62, 63, 64, 65, 66, 67, 68, 69, 70, 71] (by decide +kernel) (by decide +kernel)
set_option maxRecDepth 20000 in
theorem gX5_put_X5_counted : GoodIn wsX5_put (wsV RX5 67 RX5 yX5_counted wsX5_counted) := goodIn_app (goodIn_of _ (by decide +kernel)) ggX5_put_X5_counted
theorem hd5_put : yX5_put.cls = RX5 ∧ yX5_put.cls ≠ "java/lang/invoke/MethodHandle" ∧ yX5_put.cls ≠ "java/lang/invoke/VarHandle" ∧ (parseMethodDescriptor yX5_put.desc).map (fun d => d.parameters.length) = some 2 := by decide +kernel
abbrev rm5_put : Room := { frames := 4, cells := 0, slots := 0, locals := 127 }
theorem in5_put_5 : ∀ w ∈ wsX50, w ∈ wsX5_put := fun w h => List.mem_cons_of_mem _ (List.mem_append_left _ (List.mem_append_left _ (List.mem_append_right _ h)))
set_option maxHeartbeats 4000000 in
set_option maxRecDepth 100000 in
theorem c5_put {l : Launch} {D : va_G} {cI cZ cB : ClassId} {q : Nat → Nat} {qw : Nat → Nat} {qt : Nat → Nat} {qi : Nat → Nat} {qj : Nat → Nat} {qb : Nat → Nat} {qx : Nat → Nat} {sz : Nat} {kept0 : Int32} {kept1 : Int32} {fabove : Int64} {fbelow : Int64} {bads : Int32} {noes : Int32} {fulls : Int32} {w_things : Int32} {w_gifts : Int32} {w_days : Int32} {w_size : Nat → Int32} {w_weight : Nat → Int32} {w_sound : Nat → Int32} {w_harm : Nat → Int32} {w_in_ : Nat → Int32} {w_kind : Nat → Int32} {w_owner : Nat → Int32} {w_empty : Nat → Int32} {w_room : Nat → Int32} {w_told : Nat → Int32} {w_gate : Nat → Int32} {w_ear : Nat → Int32} {w_scale : Nat → Int32} {w_lost : Nat → Int32} {w_watch : Nat → Int32} {w_moments : Int32} {w_kept : Nat → Int32} {a_thing : Int32} {a_gift : Int32} {r : Int32} {d_bads : Int32} {d_noes : Int32} {d_fulls : Int32} {d_w_in_ : Nat → Int32} {d_w_moments : Int32} {d_w_kept : Nat → Int32} (hf : f5_put bads noes fulls w_things w_gifts w_days w_size w_in_ w_owner w_room w_lost w_moments w_kept a_thing a_gift = some (r, d_bads, d_noes, d_fulls, d_w_in_, d_w_moments, d_w_kept)) : Met l yX5_put wsX5_put rm5_put (zPm D cI cZ cB [.ref (q 0), .int a_thing, .int a_gift] sz (zcat [(cHG q (qw 0) (qt 0) (qi 0) (qj 0) (qb 0) (qx 0) kept0 kept1 fabove fbelow bads noes fulls), (cWar cI qw w_things w_gifts w_days w_size w_weight w_sound w_harm w_in_ w_kind w_owner w_empty w_room w_told w_gate w_ear w_scale w_lost w_watch w_moments w_kept)])) (zQm D (some (.int r)) (zcat [(cHG q (qw 0) (qt 0) (qi 0) (qj 0) (qb 0) (qx 0) kept0 kept1 fabove fbelow d_bads d_noes d_fulls), (cWar cI qw w_things w_gifts w_days w_size w_weight w_sound w_harm d_w_in_ w_kind w_owner w_empty w_room w_told w_gate w_ear w_scale w_lost w_watch d_w_moments d_w_kept)]) (va_A (zcat [(cHG q (qw 0) (qt 0) (qi 0) (qj 0) (qb 0) (qx 0) kept0 kept1 fabove fbelow bads noes fulls), (cWar cI qw w_things w_gifts w_days w_size w_weight w_sound w_harm w_in_ w_kind w_owner w_empty w_room w_told w_gate w_ear w_scale w_lost w_watch w_moments w_kept)]) sz)) 0 0 (va_A (zcat [(cHG q (qw 0) (qt 0) (qi 0) (qj 0) (qb 0) (qx 0) kept0 kept1 fabove fbelow bads noes fulls), (cWar cI qw w_things w_gifts w_days w_size w_weight w_sound w_harm w_in_ w_kind w_owner w_empty w_room w_told w_gate w_ear w_scale w_lost w_watch w_moments w_kept)]) sz) := by
  unfold f5_put at hf
  refine z_mutI RX5 (by decide +kernel) rfl rfl (Nat.le_of_ble_eq_true rfl) ?_
  intro p e s m args below meth c Q A ls hx hb hml hown hts hK hP hD hS hA hret hl
  have hl : lv_has ls 3 [(0, .ref (q 0)), (1, .int a_thing), (2, .int a_gift)] := hl
  refine lv_aload_n hx hb (zD_g DX5_put 0 rfl) rfl (lv_at hl 0 rfl) ?_
  refine lv_aload_n hx hb (zD_g DX5_put 1 rfl) rfl (lv_at hl 0 rfl) ?_
  refine va_get (D := D) (ci := 4) (v := .ref (qw 0)) (C := RX5) (T := TX5) (N := 13) hx hb hts in5_put_5 hown hK.1 hP 0 rfl rfl 0 (by decide) (hts _ (List.mem_of_getElem? (i := 1) rfl)) (fun _ h9 => h9) rfl (zD_g DX5_put 2 rfl) ?_
  refine lv_iload_n hx hb (zD_g DX5_put 3 rfl) rfl (lv_at hl 1 rfl) ?_
  refine lv_iload_n hx hb (zD_g DX5_put 4 rfl) rfl (lv_at hl 2 rfl) ?_
  obtain ⟨r1, w_in_2, w_moments_3, w_kept_4, hc5, hf⟩ := zb4_s hf
  refine z_VB (As := [.int a_thing, .int a_gift]) (rest := [.ref (q 0)]) (cs' := [(cWar cI qw w_things w_gifts w_days w_size w_weight w_sound w_harm w_in_2 w_kind w_owner w_empty w_room w_told w_gate w_ear w_scale w_lost w_watch w_moments_3 w_kept_4)]) (ws' := (zcat [(cHG q (qw 0) (qt 0) (qi 0) (qj 0) (qb 0) (qx 0) kept0 kept1 fabove fbelow bads noes fulls), (cWar cI qw w_things w_gifts w_days w_size w_weight w_sound w_harm w_in_2 w_kind w_owner w_empty w_room w_told w_gate w_ear w_scale w_lost w_watch w_moments_3 w_kept_4)])) ⟨hx, hb, hml, hown, hts⟩ hK (c4_putIn (things := w_things) (gifts := w_gifts) (days := w_days) (size := w_size) (weight := w_weight) (sound := w_sound) (harm := w_harm) (in_ := w_in_) (kind := w_kind) (owner := w_owner) (empty := w_empty) (room := w_room) (told := w_told) (gate := w_gate) (ear := w_ear) (scale := w_scale) (lost := w_lost) (watch := w_watch) (moments := w_moments) (kept := w_kept) (q := qw) hc5) (cwV 2 hts gX5_put_X4_putIn rfl rfl rfl hd4_putIn ⟨Nat.le_of_ble_eq_true rfl, Nat.le_of_ble_eq_true rfl⟩) hP hD hS hA 2 [1] [0] [0, 1] (by decide +kernel) rfl rfl rfl rfl rfl rfl rfl rfl rfl hl.1 rfl rfl (Nat.le_of_ble_eq_true rfl) (zD_g DX5_put 5 rfl) ⟨Nat.zero_le _, Nat.zero_le _⟩ (fun H locs hP hD hS => ?_)
  obtain ⟨r6, bads_7, noes_8, fulls_9, hc10, hf⟩ := zb4_s hf
  refine z_VB (As := [.int r1]) (rest := []) (cs' := [(cHG q (qw 0) (qt 0) (qi 0) (qj 0) (qb 0) (qx 0) kept0 kept1 fabove fbelow bads_7 noes_8 fulls_9)]) (ws' := (zcat [(cHG q (qw 0) (qt 0) (qi 0) (qj 0) (qb 0) (qx 0) kept0 kept1 fabove fbelow bads_7 noes_8 fulls_9), (cWar cI qw w_things w_gifts w_days w_size w_weight w_sound w_harm w_in_2 w_kind w_owner w_empty w_room w_told w_gate w_ear w_scale w_lost w_watch w_moments_3 w_kept_4)])) ⟨hx, hb, hml, hown, hts⟩ hK (c5_counted (kept0 := kept0) (kept1 := kept1) (fabove := fabove) (fbelow := fbelow) (bads := bads) (noes := noes) (fulls := fulls) (q := q) (qw := qw) (qt := qt) (qi := qi) (qj := qj) (qb := qb) (qx := qx) hc10) (cwV 1 hts gX5_put_X5_counted rfl rfl rfl hd5_counted ⟨Nat.le_of_ble_eq_true rfl, Nat.le_of_ble_eq_true rfl⟩) hP hD hS hA 2 [0] [1] [1, 0] (by decide +kernel) rfl rfl rfl rfl rfl rfl rfl rfl rfl hl.1 rfl rfl (Nat.le_of_ble_eq_true rfl) (zD_g DX5_put 6 rfl) ⟨Nat.zero_le _, Nat.zero_le _⟩ (fun H locs hP hD hS => ?_)
  cases hf
  exact hret _ _ _ _ hP hD hS (zD_g DX5_put 7 rfl)
abbrev dlX5_out : List (Nat × Instr × Nat) := [(0, .aload_n 0, 1), (1, .aload_n 0, 1), (2, .getfield 10, 3), (5, .iload_n 1, 1), (6, .invokevirtual 78, 3), (9, .invokevirtual 67, 3), (12, .ireturn, 1)]
theorem DX5_out : zD cX5_out dlX5_out = true := by decide +kernel
set_option maxRecDepth 20000 in
theorem ggX5_out_X4_takeOut : GoodIn wsX5_out wsX4_takeOut := goodIn_r _ [6, 7, 8, 9, 10, 5, 11, 12, 13, 14, 15, 16, 17, 18, 19, 20, 21, 22, 23, 24, 25, 26, 27, 28, 29, 30, 31, 32, 33, 34, 55, 56, 57, 58, 59, 60, 61, 62, 63, 64, 65, 66, 67, 68, 69, 70, 71, 72, 73, 74, 75] (by decide +kernel) (by decide +kernel)
set_option maxRecDepth 20000 in
theorem gX5_out_X4_takeOut : GoodIn wsX5_out (wsV RX5 78 RX4 yX4_takeOut wsX4_takeOut) := goodIn_app (goodIn_of _ (by decide +kernel)) ggX5_out_X4_takeOut
set_option maxRecDepth 20000 in
theorem ggX5_out_X5_counted : GoodIn wsX5_out wsX5_counted := goodIn_r _ [38, 39, 40, 41, 42, 43, 44, 45, 46, 47, 48, 49, 50, 51, 52, 53, 54] (by decide +kernel) (by decide +kernel)
set_option maxRecDepth 20000 in
theorem gX5_out_X5_counted : GoodIn wsX5_out (wsV RX5 67 RX5 yX5_counted wsX5_counted) := goodIn_app (goodIn_of _ (by decide +kernel)) ggX5_out_X5_counted
theorem hd5_out : yX5_out.cls = RX5 ∧ yX5_out.cls ≠ "java/lang/invoke/MethodHandle" ∧ yX5_out.cls ≠ "java/lang/invoke/VarHandle" ∧ (parseMethodDescriptor yX5_out.desc).map (fun d => d.parameters.length) = some 1 := by decide +kernel
abbrev rm5_out : Room := { frames := 4, cells := 0, slots := 0, locals := 127 }
theorem in5_out_5 : ∀ w ∈ wsX50, w ∈ wsX5_out := fun w h => List.mem_cons_of_mem _ (List.mem_append_left _ (List.mem_append_left _ (List.mem_append_right _ h)))
set_option maxHeartbeats 4000000 in
set_option maxRecDepth 100000 in
theorem c5_out {l : Launch} {D : va_G} {cI cZ cB : ClassId} {q : Nat → Nat} {qw : Nat → Nat} {qt : Nat → Nat} {qi : Nat → Nat} {qj : Nat → Nat} {qb : Nat → Nat} {qx : Nat → Nat} {sz : Nat} {kept0 : Int32} {kept1 : Int32} {fabove : Int64} {fbelow : Int64} {bads : Int32} {noes : Int32} {fulls : Int32} {w_things : Int32} {w_gifts : Int32} {w_days : Int32} {w_size : Nat → Int32} {w_weight : Nat → Int32} {w_sound : Nat → Int32} {w_harm : Nat → Int32} {w_in_ : Nat → Int32} {w_kind : Nat → Int32} {w_owner : Nat → Int32} {w_empty : Nat → Int32} {w_room : Nat → Int32} {w_told : Nat → Int32} {w_gate : Nat → Int32} {w_ear : Nat → Int32} {w_scale : Nat → Int32} {w_lost : Nat → Int32} {w_watch : Nat → Int32} {w_moments : Int32} {w_kept : Nat → Int32} {a_thing : Int32} {r : Int32} {d_bads : Int32} {d_noes : Int32} {d_fulls : Int32} {d_w_in_ : Nat → Int32} {d_w_moments : Int32} {d_w_kept : Nat → Int32} (hf : f5_out bads noes fulls w_things w_days w_in_ w_owner w_lost w_moments w_kept a_thing = some (r, d_bads, d_noes, d_fulls, d_w_in_, d_w_moments, d_w_kept)) : Met l yX5_out wsX5_out rm5_out (zPm D cI cZ cB [.ref (q 0), .int a_thing] sz (zcat [(cHG q (qw 0) (qt 0) (qi 0) (qj 0) (qb 0) (qx 0) kept0 kept1 fabove fbelow bads noes fulls), (cWar cI qw w_things w_gifts w_days w_size w_weight w_sound w_harm w_in_ w_kind w_owner w_empty w_room w_told w_gate w_ear w_scale w_lost w_watch w_moments w_kept)])) (zQm D (some (.int r)) (zcat [(cHG q (qw 0) (qt 0) (qi 0) (qj 0) (qb 0) (qx 0) kept0 kept1 fabove fbelow d_bads d_noes d_fulls), (cWar cI qw w_things w_gifts w_days w_size w_weight w_sound w_harm d_w_in_ w_kind w_owner w_empty w_room w_told w_gate w_ear w_scale w_lost w_watch d_w_moments d_w_kept)]) (va_A (zcat [(cHG q (qw 0) (qt 0) (qi 0) (qj 0) (qb 0) (qx 0) kept0 kept1 fabove fbelow bads noes fulls), (cWar cI qw w_things w_gifts w_days w_size w_weight w_sound w_harm w_in_ w_kind w_owner w_empty w_room w_told w_gate w_ear w_scale w_lost w_watch w_moments w_kept)]) sz)) 0 0 (va_A (zcat [(cHG q (qw 0) (qt 0) (qi 0) (qj 0) (qb 0) (qx 0) kept0 kept1 fabove fbelow bads noes fulls), (cWar cI qw w_things w_gifts w_days w_size w_weight w_sound w_harm w_in_ w_kind w_owner w_empty w_room w_told w_gate w_ear w_scale w_lost w_watch w_moments w_kept)]) sz) := by
  unfold f5_out at hf
  refine z_mutI RX5 (by decide +kernel) rfl rfl (Nat.le_of_ble_eq_true rfl) ?_
  intro p e s m args below meth c Q A ls hx hb hml hown hts hK hP hD hS hA hret hl
  have hl : lv_has ls 2 [(0, .ref (q 0)), (1, .int a_thing)] := hl
  refine lv_aload_n hx hb (zD_g DX5_out 0 rfl) rfl (lv_at hl 0 rfl) ?_
  refine lv_aload_n hx hb (zD_g DX5_out 1 rfl) rfl (lv_at hl 0 rfl) ?_
  refine va_get (D := D) (ci := 4) (v := .ref (qw 0)) (C := RX5) (T := TX5) (N := 13) hx hb hts in5_out_5 hown hK.1 hP 0 rfl rfl 0 (by decide) (hts _ (List.mem_of_getElem? (i := 1) rfl)) (fun _ h9 => h9) rfl (zD_g DX5_out 2 rfl) ?_
  refine lv_iload_n hx hb (zD_g DX5_out 3 rfl) rfl (lv_at hl 1 rfl) ?_
  obtain ⟨r1, w_in_2, w_moments_3, w_kept_4, hc5, hf⟩ := zb4_s hf
  refine z_VB (As := [.int a_thing]) (rest := [.ref (q 0)]) (cs' := [(cWar cI qw w_things w_gifts w_days w_size w_weight w_sound w_harm w_in_2 w_kind w_owner w_empty w_room w_told w_gate w_ear w_scale w_lost w_watch w_moments_3 w_kept_4)]) (ws' := (zcat [(cHG q (qw 0) (qt 0) (qi 0) (qj 0) (qb 0) (qx 0) kept0 kept1 fabove fbelow bads noes fulls), (cWar cI qw w_things w_gifts w_days w_size w_weight w_sound w_harm w_in_2 w_kind w_owner w_empty w_room w_told w_gate w_ear w_scale w_lost w_watch w_moments_3 w_kept_4)])) ⟨hx, hb, hml, hown, hts⟩ hK (c4_takeOut (things := w_things) (gifts := w_gifts) (days := w_days) (size := w_size) (weight := w_weight) (sound := w_sound) (harm := w_harm) (in_ := w_in_) (kind := w_kind) (owner := w_owner) (empty := w_empty) (room := w_room) (told := w_told) (gate := w_gate) (ear := w_ear) (scale := w_scale) (lost := w_lost) (watch := w_watch) (moments := w_moments) (kept := w_kept) (q := qw) hc5) (cwV 1 hts gX5_out_X4_takeOut rfl rfl rfl hd4_takeOut ⟨Nat.le_of_ble_eq_true rfl, Nat.le_of_ble_eq_true rfl⟩) hP hD hS hA 2 [1] [0] [0, 1] (by decide +kernel) rfl rfl rfl rfl rfl rfl rfl rfl rfl hl.1 rfl rfl (Nat.le_of_ble_eq_true rfl) (zD_g DX5_out 4 rfl) ⟨Nat.zero_le _, Nat.zero_le _⟩ (fun H locs hP hD hS => ?_)
  obtain ⟨r6, bads_7, noes_8, fulls_9, hc10, hf⟩ := zb4_s hf
  refine z_VB (As := [.int r1]) (rest := []) (cs' := [(cHG q (qw 0) (qt 0) (qi 0) (qj 0) (qb 0) (qx 0) kept0 kept1 fabove fbelow bads_7 noes_8 fulls_9)]) (ws' := (zcat [(cHG q (qw 0) (qt 0) (qi 0) (qj 0) (qb 0) (qx 0) kept0 kept1 fabove fbelow bads_7 noes_8 fulls_9), (cWar cI qw w_things w_gifts w_days w_size w_weight w_sound w_harm w_in_2 w_kind w_owner w_empty w_room w_told w_gate w_ear w_scale w_lost w_watch w_moments_3 w_kept_4)])) ⟨hx, hb, hml, hown, hts⟩ hK (c5_counted (kept0 := kept0) (kept1 := kept1) (fabove := fabove) (fbelow := fbelow) (bads := bads) (noes := noes) (fulls := fulls) (q := q) (qw := qw) (qt := qt) (qi := qi) (qj := qj) (qb := qb) (qx := qx) hc10) (cwV 1 hts gX5_out_X5_counted rfl rfl rfl hd5_counted ⟨Nat.le_of_ble_eq_true rfl, Nat.le_of_ble_eq_true rfl⟩) hP hD hS hA 2 [0] [1] [1, 0] (by decide +kernel) rfl rfl rfl rfl rfl rfl rfl rfl rfl hl.1 rfl rfl (Nat.le_of_ble_eq_true rfl) (zD_g DX5_out 5 rfl) ⟨Nat.zero_le _, Nat.zero_le _⟩ (fun H locs hP hD hS => ?_)
  cases hf
  exact hret _ _ _ _ hP hD hS (zD_g DX5_out 6 rfl)
abbrev dlX5_city : List (Nat × Instr × Nat) := [(0, .aload_n 0, 1), (1, .aload_n 0, 1), (2, .getfield 10, 3), (5, .iload_n 1, 1), (6, .iload_n 2, 1), (7, .iload_n 3, 1), (8, .invokevirtual 81, 3), (11, .invokevirtual 67, 3), (14, .ireturn, 1)]
theorem DX5_city : zD cX5_city dlX5_city = true := by decide +kernel
set_option maxRecDepth 20000 in
theorem ggX5_city_X4_setMeasure : GoodIn wsX5_city wsX4_setMeasure := goodIn_r _ [6, 7, 8, 9, 10, 11, 12, 13, 14, 15, 16, 17, 5, 18, 39, 40, 41, 42, 43, 44, 45, 46, 47, 48, 49, 50, 51, 52, 53, 54, 55, 56, 57] (by decide +kernel) (by decide +kernel)
set_option maxRecDepth 20000 in
theorem gX5_city_X4_setMeasure : GoodIn wsX5_city (wsV RX5 81 RX4 yX4_setMeasure wsX4_setMeasure) := goodIn_app (goodIn_of _ (by decide +kernel)) ggX5_city_X4_setMeasure
set_option maxRecDepth 20000 in
theorem ggX5_city_X5_counted : GoodIn wsX5_city wsX5_counted := goodIn_r _ [22, 23, 24, 25, 26, 27, 28, 29, 30, 31, 32, 33, 34, 35, 36, 37, 38] (by decide +kernel) (by decide +kernel)
set_option maxRecDepth 20000 in
theorem gX5_city_X5_counted : GoodIn wsX5_city (wsV RX5 67 RX5 yX5_counted wsX5_counted) := goodIn_app (goodIn_of _ (by decide +kernel)) ggX5_city_X5_counted
theorem hd5_city : yX5_city.cls = RX5 ∧ yX5_city.cls ≠ "java/lang/invoke/MethodHandle" ∧ yX5_city.cls ≠ "java/lang/invoke/VarHandle" ∧ (parseMethodDescriptor yX5_city.desc).map (fun d => d.parameters.length) = some 3 := by decide +kernel
abbrev rm5_city : Room := { frames := 3, cells := 0, slots := 0, locals := 68 }
theorem in5_city_5 : ∀ w ∈ wsX50, w ∈ wsX5_city := fun w h => List.mem_cons_of_mem _ (List.mem_append_left _ (List.mem_append_right _ h))
set_option maxHeartbeats 4000000 in
set_option maxRecDepth 100000 in
theorem c5_city {l : Launch} {D : va_G} {cI cZ cB : ClassId} {q : Nat → Nat} {qw : Nat → Nat} {qt : Nat → Nat} {qi : Nat → Nat} {qj : Nat → Nat} {qb : Nat → Nat} {qx : Nat → Nat} {sz : Nat} {kept0 : Int32} {kept1 : Int32} {fabove : Int64} {fbelow : Int64} {bads : Int32} {noes : Int32} {fulls : Int32} {w_things : Int32} {w_gifts : Int32} {w_days : Int32} {w_size : Nat → Int32} {w_weight : Nat → Int32} {w_sound : Nat → Int32} {w_harm : Nat → Int32} {w_in_ : Nat → Int32} {w_kind : Nat → Int32} {w_owner : Nat → Int32} {w_empty : Nat → Int32} {w_room : Nat → Int32} {w_told : Nat → Int32} {w_gate : Nat → Int32} {w_ear : Nat → Int32} {w_scale : Nat → Int32} {w_lost : Nat → Int32} {w_watch : Nat → Int32} {w_moments : Int32} {w_kept : Nat → Int32} {a_city : Int32} {a_what : Int32} {a_n : Int32} {r : Int32} {d_bads : Int32} {d_noes : Int32} {d_fulls : Int32} {d_w_gate : Nat → Int32} {d_w_ear : Nat → Int32} {d_w_scale : Nat → Int32} (hf : f5_city bads noes fulls w_gate w_ear w_scale a_city a_what a_n = some (r, d_bads, d_noes, d_fulls, d_w_gate, d_w_ear, d_w_scale)) : Met l yX5_city wsX5_city rm5_city (zPm D cI cZ cB [.ref (q 0), .int a_city, .int a_what, .int a_n] sz (zcat [(cHG q (qw 0) (qt 0) (qi 0) (qj 0) (qb 0) (qx 0) kept0 kept1 fabove fbelow bads noes fulls), (cWar cI qw w_things w_gifts w_days w_size w_weight w_sound w_harm w_in_ w_kind w_owner w_empty w_room w_told w_gate w_ear w_scale w_lost w_watch w_moments w_kept)])) (zQm D (some (.int r)) (zcat [(cHG q (qw 0) (qt 0) (qi 0) (qj 0) (qb 0) (qx 0) kept0 kept1 fabove fbelow d_bads d_noes d_fulls), (cWar cI qw w_things w_gifts w_days w_size w_weight w_sound w_harm w_in_ w_kind w_owner w_empty w_room w_told d_w_gate d_w_ear d_w_scale w_lost w_watch w_moments w_kept)]) (va_A (zcat [(cHG q (qw 0) (qt 0) (qi 0) (qj 0) (qb 0) (qx 0) kept0 kept1 fabove fbelow bads noes fulls), (cWar cI qw w_things w_gifts w_days w_size w_weight w_sound w_harm w_in_ w_kind w_owner w_empty w_room w_told w_gate w_ear w_scale w_lost w_watch w_moments w_kept)]) sz)) 0 0 (va_A (zcat [(cHG q (qw 0) (qt 0) (qi 0) (qj 0) (qb 0) (qx 0) kept0 kept1 fabove fbelow bads noes fulls), (cWar cI qw w_things w_gifts w_days w_size w_weight w_sound w_harm w_in_ w_kind w_owner w_empty w_room w_told w_gate w_ear w_scale w_lost w_watch w_moments w_kept)]) sz) := by
  unfold f5_city at hf
  refine z_mutI RX5 (by decide +kernel) rfl rfl (Nat.le_of_ble_eq_true rfl) ?_
  intro p e s m args below meth c Q A ls hx hb hml hown hts hK hP hD hS hA hret hl
  have hl : lv_has ls 4 [(0, .ref (q 0)), (1, .int a_city), (2, .int a_what), (3, .int a_n)] := hl
  refine lv_aload_n hx hb (zD_g DX5_city 0 rfl) rfl (lv_at hl 0 rfl) ?_
  refine lv_aload_n hx hb (zD_g DX5_city 1 rfl) rfl (lv_at hl 0 rfl) ?_
  refine va_get (D := D) (ci := 4) (v := .ref (qw 0)) (C := RX5) (T := TX5) (N := 13) hx hb hts in5_city_5 hown hK.1 hP 0 rfl rfl 0 (by decide) (hts _ (List.mem_of_getElem? (i := 1) rfl)) (fun _ h9 => h9) rfl (zD_g DX5_city 2 rfl) ?_
  refine lv_iload_n hx hb (zD_g DX5_city 3 rfl) rfl (lv_at hl 1 rfl) ?_
  refine lv_iload_n hx hb (zD_g DX5_city 4 rfl) rfl (lv_at hl 2 rfl) ?_
  refine lv_iload_n hx hb (zD_g DX5_city 5 rfl) rfl (lv_at hl 3 rfl) ?_
  obtain ⟨r1, w_gate_2, w_ear_3, w_scale_4, hc5, hf⟩ := zb4_s hf
  refine z_VB (As := [.int a_city, .int a_what, .int a_n]) (rest := [.ref (q 0)]) (cs' := [(cWar cI qw w_things w_gifts w_days w_size w_weight w_sound w_harm w_in_ w_kind w_owner w_empty w_room w_told w_gate_2 w_ear_3 w_scale_4 w_lost w_watch w_moments w_kept)]) (ws' := (zcat [(cHG q (qw 0) (qt 0) (qi 0) (qj 0) (qb 0) (qx 0) kept0 kept1 fabove fbelow bads noes fulls), (cWar cI qw w_things w_gifts w_days w_size w_weight w_sound w_harm w_in_ w_kind w_owner w_empty w_room w_told w_gate_2 w_ear_3 w_scale_4 w_lost w_watch w_moments w_kept)])) ⟨hx, hb, hml, hown, hts⟩ hK (c4_setMeasure (things := w_things) (gifts := w_gifts) (days := w_days) (size := w_size) (weight := w_weight) (sound := w_sound) (harm := w_harm) (in_ := w_in_) (kind := w_kind) (owner := w_owner) (empty := w_empty) (room := w_room) (told := w_told) (gate := w_gate) (ear := w_ear) (scale := w_scale) (lost := w_lost) (watch := w_watch) (moments := w_moments) (kept := w_kept) (q := qw) hc5) (cwV 3 hts gX5_city_X4_setMeasure rfl rfl rfl hd4_setMeasure ⟨Nat.le_of_ble_eq_true rfl, Nat.le_of_ble_eq_true rfl⟩) hP hD hS hA 2 [1] [0] [0, 1] (by decide +kernel) rfl rfl rfl rfl rfl rfl rfl rfl rfl hl.1 rfl rfl (Nat.le_of_ble_eq_true rfl) (zD_g DX5_city 6 rfl) ⟨Nat.zero_le _, Nat.zero_le _⟩ (fun H locs hP hD hS => ?_)
  obtain ⟨r6, bads_7, noes_8, fulls_9, hc10, hf⟩ := zb4_s hf
  refine z_VB (As := [.int r1]) (rest := []) (cs' := [(cHG q (qw 0) (qt 0) (qi 0) (qj 0) (qb 0) (qx 0) kept0 kept1 fabove fbelow bads_7 noes_8 fulls_9)]) (ws' := (zcat [(cHG q (qw 0) (qt 0) (qi 0) (qj 0) (qb 0) (qx 0) kept0 kept1 fabove fbelow bads_7 noes_8 fulls_9), (cWar cI qw w_things w_gifts w_days w_size w_weight w_sound w_harm w_in_ w_kind w_owner w_empty w_room w_told w_gate_2 w_ear_3 w_scale_4 w_lost w_watch w_moments w_kept)])) ⟨hx, hb, hml, hown, hts⟩ hK (c5_counted (kept0 := kept0) (kept1 := kept1) (fabove := fabove) (fbelow := fbelow) (bads := bads) (noes := noes) (fulls := fulls) (q := q) (qw := qw) (qt := qt) (qi := qi) (qj := qj) (qb := qb) (qx := qx) hc10) (cwV 1 hts gX5_city_X5_counted rfl rfl rfl hd5_counted ⟨Nat.le_of_ble_eq_true rfl, Nat.le_of_ble_eq_true rfl⟩) hP hD hS hA 2 [0] [1] [1, 0] (by decide +kernel) rfl rfl rfl rfl rfl rfl rfl rfl rfl hl.1 rfl rfl (Nat.le_of_ble_eq_true rfl) (zD_g DX5_city 7 rfl) ⟨Nat.zero_le _, Nat.zero_le _⟩ (fun H locs hP hD hS => ?_)
  cases hf
  exact hret _ _ _ _ hP hD hS (zD_g DX5_city 8 rfl)
abbrev dlX5_watch : List (Nat × Instr × Nat) := [(0, .aload_n 0, 1), (1, .aload_n 0, 1), (2, .getfield 10, 3), (5, .iload_n 1, 1), (6, .iload_n 2, 1), (7, .iload_n 3, 1), (8, .invokevirtual 85, 3), (11, .invokevirtual 67, 3), (14, .ireturn, 1)]
theorem DX5_watch : zD cX5_watch dlX5_watch = true := by decide +kernel
set_option maxRecDepth 20000 in
theorem ggX5_watch_X4_setWatch : GoodIn wsX5_watch wsX4_setWatch := goodIn_r _ [6, 7, 8, 9, 10, 11, 12, 13, 14, 15, 16, 17, 5, 18, 39, 40, 41, 42, 43, 44, 45, 46, 47, 48, 49, 50, 51, 52, 53, 54, 55, 56, 57] (by decide +kernel) (by decide +kernel)
set_option maxRecDepth 20000 in
theorem gX5_watch_X4_setWatch : GoodIn wsX5_watch (wsV RX5 85 RX4 yX4_setWatch wsX4_setWatch) := goodIn_app (goodIn_of _ (by decide +kernel)) ggX5_watch_X4_setWatch
set_option maxRecDepth 20000 in
theorem ggX5_watch_X5_counted : GoodIn wsX5_watch wsX5_counted := goodIn_r _ [22, 23, 24, 25, 26, 27, 28, 29, 30, 31, 32, 33, 34, 35, 36, 37, 38] (by decide +kernel) (by decide +kernel)
set_option maxRecDepth 20000 in
theorem gX5_watch_X5_counted : GoodIn wsX5_watch (wsV RX5 67 RX5 yX5_counted wsX5_counted) := goodIn_app (goodIn_of _ (by decide +kernel)) ggX5_watch_X5_counted
theorem hd5_watch : yX5_watch.cls = RX5 ∧ yX5_watch.cls ≠ "java/lang/invoke/MethodHandle" ∧ yX5_watch.cls ≠ "java/lang/invoke/VarHandle" ∧ (parseMethodDescriptor yX5_watch.desc).map (fun d => d.parameters.length) = some 3 := by decide +kernel
abbrev rm5_watch : Room := { frames := 3, cells := 0, slots := 0, locals := 68 }
theorem in5_watch_5 : ∀ w ∈ wsX50, w ∈ wsX5_watch := fun w h => List.mem_cons_of_mem _ (List.mem_append_left _ (List.mem_append_right _ h))
set_option maxHeartbeats 4000000 in
set_option maxRecDepth 100000 in
theorem c5_watch {l : Launch} {D : va_G} {cI cZ cB : ClassId} {q : Nat → Nat} {qw : Nat → Nat} {qt : Nat → Nat} {qi : Nat → Nat} {qj : Nat → Nat} {qb : Nat → Nat} {qx : Nat → Nat} {sz : Nat} {kept0 : Int32} {kept1 : Int32} {fabove : Int64} {fbelow : Int64} {bads : Int32} {noes : Int32} {fulls : Int32} {w_things : Int32} {w_gifts : Int32} {w_days : Int32} {w_size : Nat → Int32} {w_weight : Nat → Int32} {w_sound : Nat → Int32} {w_harm : Nat → Int32} {w_in_ : Nat → Int32} {w_kind : Nat → Int32} {w_owner : Nat → Int32} {w_empty : Nat → Int32} {w_room : Nat → Int32} {w_told : Nat → Int32} {w_gate : Nat → Int32} {w_ear : Nat → Int32} {w_scale : Nat → Int32} {w_lost : Nat → Int32} {w_watch : Nat → Int32} {w_moments : Int32} {w_kept : Nat → Int32} {a_city : Int32} {a_hour : Int32} {a_n : Int32} {r : Int32} {d_bads : Int32} {d_noes : Int32} {d_fulls : Int32} {d_w_watch : Nat → Int32} (hf : f5_watch bads noes fulls w_watch a_city a_hour a_n = some (r, d_bads, d_noes, d_fulls, d_w_watch)) : Met l yX5_watch wsX5_watch rm5_watch (zPm D cI cZ cB [.ref (q 0), .int a_city, .int a_hour, .int a_n] sz (zcat [(cHG q (qw 0) (qt 0) (qi 0) (qj 0) (qb 0) (qx 0) kept0 kept1 fabove fbelow bads noes fulls), (cWar cI qw w_things w_gifts w_days w_size w_weight w_sound w_harm w_in_ w_kind w_owner w_empty w_room w_told w_gate w_ear w_scale w_lost w_watch w_moments w_kept)])) (zQm D (some (.int r)) (zcat [(cHG q (qw 0) (qt 0) (qi 0) (qj 0) (qb 0) (qx 0) kept0 kept1 fabove fbelow d_bads d_noes d_fulls), (cWar cI qw w_things w_gifts w_days w_size w_weight w_sound w_harm w_in_ w_kind w_owner w_empty w_room w_told w_gate w_ear w_scale w_lost d_w_watch w_moments w_kept)]) (va_A (zcat [(cHG q (qw 0) (qt 0) (qi 0) (qj 0) (qb 0) (qx 0) kept0 kept1 fabove fbelow bads noes fulls), (cWar cI qw w_things w_gifts w_days w_size w_weight w_sound w_harm w_in_ w_kind w_owner w_empty w_room w_told w_gate w_ear w_scale w_lost w_watch w_moments w_kept)]) sz)) 0 0 (va_A (zcat [(cHG q (qw 0) (qt 0) (qi 0) (qj 0) (qb 0) (qx 0) kept0 kept1 fabove fbelow bads noes fulls), (cWar cI qw w_things w_gifts w_days w_size w_weight w_sound w_harm w_in_ w_kind w_owner w_empty w_room w_told w_gate w_ear w_scale w_lost w_watch w_moments w_kept)]) sz) := by
  unfold f5_watch at hf
  refine z_mutI RX5 (by decide +kernel) rfl rfl (Nat.le_of_ble_eq_true rfl) ?_
  intro p e s m args below meth c Q A ls hx hb hml hown hts hK hP hD hS hA hret hl
  have hl : lv_has ls 4 [(0, .ref (q 0)), (1, .int a_city), (2, .int a_hour), (3, .int a_n)] := hl
  refine lv_aload_n hx hb (zD_g DX5_watch 0 rfl) rfl (lv_at hl 0 rfl) ?_
  refine lv_aload_n hx hb (zD_g DX5_watch 1 rfl) rfl (lv_at hl 0 rfl) ?_
  refine va_get (D := D) (ci := 4) (v := .ref (qw 0)) (C := RX5) (T := TX5) (N := 13) hx hb hts in5_watch_5 hown hK.1 hP 0 rfl rfl 0 (by decide) (hts _ (List.mem_of_getElem? (i := 1) rfl)) (fun _ h9 => h9) rfl (zD_g DX5_watch 2 rfl) ?_
  refine lv_iload_n hx hb (zD_g DX5_watch 3 rfl) rfl (lv_at hl 1 rfl) ?_
  refine lv_iload_n hx hb (zD_g DX5_watch 4 rfl) rfl (lv_at hl 2 rfl) ?_
  refine lv_iload_n hx hb (zD_g DX5_watch 5 rfl) rfl (lv_at hl 3 rfl) ?_
  obtain ⟨r1, w_watch_2, hc3, hf⟩ := zb2_s hf
  refine z_VB (As := [.int a_city, .int a_hour, .int a_n]) (rest := [.ref (q 0)]) (cs' := [(cWar cI qw w_things w_gifts w_days w_size w_weight w_sound w_harm w_in_ w_kind w_owner w_empty w_room w_told w_gate w_ear w_scale w_lost w_watch_2 w_moments w_kept)]) (ws' := (zcat [(cHG q (qw 0) (qt 0) (qi 0) (qj 0) (qb 0) (qx 0) kept0 kept1 fabove fbelow bads noes fulls), (cWar cI qw w_things w_gifts w_days w_size w_weight w_sound w_harm w_in_ w_kind w_owner w_empty w_room w_told w_gate w_ear w_scale w_lost w_watch_2 w_moments w_kept)])) ⟨hx, hb, hml, hown, hts⟩ hK (c4_setWatch (things := w_things) (gifts := w_gifts) (days := w_days) (size := w_size) (weight := w_weight) (sound := w_sound) (harm := w_harm) (in_ := w_in_) (kind := w_kind) (owner := w_owner) (empty := w_empty) (room := w_room) (told := w_told) (gate := w_gate) (ear := w_ear) (scale := w_scale) (lost := w_lost) (watch := w_watch) (moments := w_moments) (kept := w_kept) (q := qw) hc3) (cwV 3 hts gX5_watch_X4_setWatch rfl rfl rfl hd4_setWatch ⟨Nat.le_of_ble_eq_true rfl, Nat.le_of_ble_eq_true rfl⟩) hP hD hS hA 2 [1] [0] [0, 1] (by decide +kernel) rfl rfl rfl rfl rfl rfl rfl rfl rfl hl.1 rfl rfl (Nat.le_of_ble_eq_true rfl) (zD_g DX5_watch 6 rfl) ⟨Nat.zero_le _, Nat.zero_le _⟩ (fun H locs hP hD hS => ?_)
  obtain ⟨r4, bads_5, noes_6, fulls_7, hc8, hf⟩ := zb4_s hf
  refine z_VB (As := [.int r1]) (rest := []) (cs' := [(cHG q (qw 0) (qt 0) (qi 0) (qj 0) (qb 0) (qx 0) kept0 kept1 fabove fbelow bads_5 noes_6 fulls_7)]) (ws' := (zcat [(cHG q (qw 0) (qt 0) (qi 0) (qj 0) (qb 0) (qx 0) kept0 kept1 fabove fbelow bads_5 noes_6 fulls_7), (cWar cI qw w_things w_gifts w_days w_size w_weight w_sound w_harm w_in_ w_kind w_owner w_empty w_room w_told w_gate w_ear w_scale w_lost w_watch_2 w_moments w_kept)])) ⟨hx, hb, hml, hown, hts⟩ hK (c5_counted (kept0 := kept0) (kept1 := kept1) (fabove := fabove) (fbelow := fbelow) (bads := bads) (noes := noes) (fulls := fulls) (q := q) (qw := qw) (qt := qt) (qi := qi) (qj := qj) (qb := qb) (qx := qx) hc8) (cwV 1 hts gX5_watch_X5_counted rfl rfl rfl hd5_counted ⟨Nat.le_of_ble_eq_true rfl, Nat.le_of_ble_eq_true rfl⟩) hP hD hS hA 2 [0] [1] [1, 0] (by decide +kernel) rfl rfl rfl rfl rfl rfl rfl rfl rfl hl.1 rfl rfl (Nat.le_of_ble_eq_true rfl) (zD_g DX5_watch 7 rfl) ⟨Nat.zero_le _, Nat.zero_le _⟩ (fun H locs hP hD hS => ?_)
  cases hf
  exact hret _ _ _ _ hP hD hS (zD_g DX5_watch 8 rfl)
abbrev dlX5_type : List (Nat × Instr × Nat) := [(0, .aload_n 0, 1), (1, .aload_n 0, 1), (2, .getfield 42, 3), (5, .iload_n 1, 1), (6, .invokevirtual 88, 3), (9, .invokevirtual 67, 3), (12, .ireturn, 1)]
theorem DX5_type : zD cX5_type dlX5_type = true := by decide +kernel
set_option maxRecDepth 20000 in
theorem ggX5_type_X3_add : GoodIn wsX5_type wsX3_add := goodIn_r _ [6, 7, 8, 9, 10, 11, 32, 33, 34, 35, 36, 37] (by decide +kernel) (by decide +kernel)
set_option maxRecDepth 20000 in
theorem gX5_type_X3_add : GoodIn wsX5_type (wsV RX5 88 RX3 yX3_add wsX3_add) := goodIn_app (goodIn_of _ (by decide +kernel)) ggX5_type_X3_add
set_option maxRecDepth 20000 in
theorem ggX5_type_X5_counted : GoodIn wsX5_type wsX5_counted := goodIn_r _ [15, 16, 17, 18, 19, 20, 21, 22, 23, 24, 25, 26, 27, 28, 29, 30, 31] (by decide +kernel) (by decide +kernel)
set_option maxRecDepth 20000 in
theorem gX5_type_X5_counted : GoodIn wsX5_type (wsV RX5 67 RX5 yX5_counted wsX5_counted) := goodIn_app (goodIn_of _ (by decide +kernel)) ggX5_type_X5_counted
theorem hd5_type : yX5_type.cls = RX5 ∧ yX5_type.cls ≠ "java/lang/invoke/MethodHandle" ∧ yX5_type.cls ≠ "java/lang/invoke/VarHandle" ∧ (parseMethodDescriptor yX5_type.desc).map (fun d => d.parameters.length) = some 1 := by decide +kernel
abbrev rm5_type : Room := { frames := 2, cells := 0, slots := 0, locals := 43 }
theorem in5_type_5 : ∀ w ∈ wsX50, w ∈ wsX5_type := fun w h => List.mem_cons_of_mem _ (List.mem_append_left _ (List.mem_append_right _ h))
set_option maxHeartbeats 4000000 in
set_option maxRecDepth 100000 in
theorem c5_type {l : Launch} {D : va_G} {cI cZ cB : ClassId} {q : Nat → Nat} {qx : Nat → Nat} {qw : Nat → Nat} {qt : Nat → Nat} {qi : Nat → Nat} {qj : Nat → Nat} {qb : Nat → Nat} {sz : Nat} {kept0 : Int32} {kept1 : Int32} {fabove : Int64} {fbelow : Int64} {bads : Int32} {noes : Int32} {fulls : Int32} {tlen : Int32} {titems : Int32} {tfault : Int32} {tbytes : Nat → Int32} {twords : Nat → Int32} {tnumbers : Nat → Int32} {a_c : Int32} {r : Int32} {d_bads : Int32} {d_noes : Int32} {d_fulls : Int32} {d_tlen : Int32} {d_tbytes : Nat → Int32} (hf : f5_type bads noes fulls tlen tbytes a_c = some (r, d_bads, d_noes, d_fulls, d_tlen, d_tbytes)) : Met l yX5_type wsX5_type rm5_type (zPm D cI cZ cB [.ref (q 0), .int a_c] sz (zcat [(cHG q (qw 0) (qt 0) (qi 0) (qj 0) (qb 0) (qx 0) kept0 kept1 fabove fbelow bads noes fulls), (cTell cI cB qx tlen titems tfault tbytes twords tnumbers)])) (zQm D (some (.int r)) (zcat [(cHG q (qw 0) (qt 0) (qi 0) (qj 0) (qb 0) (qx 0) kept0 kept1 fabove fbelow d_bads d_noes d_fulls), (cTell cI cB qx d_tlen titems tfault d_tbytes twords tnumbers)]) (va_A (zcat [(cHG q (qw 0) (qt 0) (qi 0) (qj 0) (qb 0) (qx 0) kept0 kept1 fabove fbelow bads noes fulls), (cTell cI cB qx tlen titems tfault tbytes twords tnumbers)]) sz)) 0 0 (va_A (zcat [(cHG q (qw 0) (qt 0) (qi 0) (qj 0) (qb 0) (qx 0) kept0 kept1 fabove fbelow bads noes fulls), (cTell cI cB qx tlen titems tfault tbytes twords tnumbers)]) sz) := by
  unfold f5_type at hf
  refine z_mutI RX5 (by decide +kernel) rfl rfl (Nat.le_of_ble_eq_true rfl) ?_
  intro p e s m args below meth c Q A ls hx hb hml hown hts hK hP hD hS hA hret hl
  have hl : lv_has ls 2 [(0, .ref (q 0)), (1, .int a_c)] := hl
  refine lv_aload_n hx hb (zD_g DX5_type 0 rfl) rfl (lv_at hl 0 rfl) ?_
  refine lv_aload_n hx hb (zD_g DX5_type 1 rfl) rfl (lv_at hl 0 rfl) ?_
  refine va_get (D := D) (ci := 4) (v := .ref (qx 0)) (C := RX5) (T := TX5) (N := 13) hx hb hts in5_type_5 hown hK.1 hP 0 rfl rfl 7 (by decide) (hts _ (List.mem_of_getElem? (i := 1) rfl)) (fun _ h9 => h9) rfl (zD_g DX5_type 2 rfl) ?_
  refine lv_iload_n hx hb (zD_g DX5_type 3 rfl) rfl (lv_at hl 1 rfl) ?_
  obtain ⟨r1, tlen_2, tbytes_3, hc4, hf⟩ := zb3_s hf
  refine z_VB (As := [.int a_c]) (rest := [.ref (q 0)]) (cs' := [(cTell cI cB qx tlen_2 titems tfault tbytes_3 twords tnumbers)]) (ws' := (zcat [(cHG q (qw 0) (qt 0) (qi 0) (qj 0) (qb 0) (qx 0) kept0 kept1 fabove fbelow bads noes fulls), (cTell cI cB qx tlen_2 titems tfault tbytes_3 twords tnumbers)])) ⟨hx, hb, hml, hown, hts⟩ hK (c3_add (tlen := tlen) (titems := titems) (tfault := tfault) (tbytes := tbytes) (twords := twords) (tnumbers := tnumbers) (q := qx) hc4) (cwV 1 hts gX5_type_X3_add rfl rfl rfl hd3_add ⟨Nat.le_of_ble_eq_true rfl, Nat.le_of_ble_eq_true rfl⟩) hP hD hS hA 2 [1] [0] [0, 1] (by decide +kernel) rfl rfl rfl rfl rfl rfl rfl rfl rfl hl.1 rfl rfl (Nat.le_of_ble_eq_true rfl) (zD_g DX5_type 4 rfl) ⟨Nat.zero_le _, Nat.zero_le _⟩ (fun H locs hP hD hS => ?_)
  obtain ⟨r5, bads_6, noes_7, fulls_8, hc9, hf⟩ := zb4_s hf
  refine z_VB (As := [.int r1]) (rest := []) (cs' := [(cHG q (qw 0) (qt 0) (qi 0) (qj 0) (qb 0) (qx 0) kept0 kept1 fabove fbelow bads_6 noes_7 fulls_8)]) (ws' := (zcat [(cHG q (qw 0) (qt 0) (qi 0) (qj 0) (qb 0) (qx 0) kept0 kept1 fabove fbelow bads_6 noes_7 fulls_8), (cTell cI cB qx tlen_2 titems tfault tbytes_3 twords tnumbers)])) ⟨hx, hb, hml, hown, hts⟩ hK (c5_counted (kept0 := kept0) (kept1 := kept1) (fabove := fabove) (fbelow := fbelow) (bads := bads) (noes := noes) (fulls := fulls) (q := q) (qw := qw) (qt := qt) (qi := qi) (qj := qj) (qb := qb) (qx := qx) hc9) (cwV 1 hts gX5_type_X5_counted rfl rfl rfl hd5_counted ⟨Nat.le_of_ble_eq_true rfl, Nat.le_of_ble_eq_true rfl⟩) hP hD hS hA 2 [0] [1] [1, 0] (by decide +kernel) rfl rfl rfl rfl rfl rfl rfl rfl rfl hl.1 rfl rfl (Nat.le_of_ble_eq_true rfl) (zD_g DX5_type 5 rfl) ⟨Nat.zero_le _, Nat.zero_le _⟩ (fun H locs hP hD hS => ?_)
  cases hf
  exact hret _ _ _ _ hP hD hS (zD_g DX5_type 6 rfl)
abbrev dlX5_clear : List (Nat × Instr × Nat) := [(0, .aload_n 0, 1), (1, .getfield 42, 3), (4, .invokevirtual 91, 3), (7, .ireturn, 1)]
theorem DX5_clear : zD cX5_clear dlX5_clear = true := by decide +kernel
set_option maxRecDepth 20000 in
theorem ggX5_clear_X3_makeEmpty : GoodIn wsX5_clear wsX3_makeEmpty := goodIn_r _ [6, 7, 21, 22, 23, 24, 25, 26] (by decide +kernel) (by decide +kernel)
set_option maxRecDepth 20000 in
theorem gX5_clear_X3_makeEmpty : GoodIn wsX5_clear (wsV RX5 91 RX3 yX3_makeEmpty wsX3_makeEmpty) := goodIn_app (goodIn_of _ (by decide +kernel)) ggX5_clear_X3_makeEmpty
theorem hd5_clear : yX5_clear.cls = RX5 ∧ yX5_clear.cls ≠ "java/lang/invoke/MethodHandle" ∧ yX5_clear.cls ≠ "java/lang/invoke/VarHandle" ∧ (parseMethodDescriptor yX5_clear.desc).map (fun d => d.parameters.length) = some 0 := by decide +kernel
abbrev rm5_clear : Room := { frames := 1, cells := 0, slots := 0, locals := 21 }
theorem in5_clear_5 : ∀ w ∈ wsX50, w ∈ wsX5_clear := fun w h => List.mem_cons_of_mem _ (List.mem_append_left _ (List.mem_append_right _ h))
set_option maxHeartbeats 4000000 in
set_option maxRecDepth 100000 in
theorem c5_clear {l : Launch} {D : va_G} {cI cZ cB : ClassId} {q : Nat → Nat} {qx : Nat → Nat} {qw : Nat → Nat} {qt : Nat → Nat} {qi : Nat → Nat} {qj : Nat → Nat} {qb : Nat → Nat} {sz : Nat} {kept0 : Int32} {kept1 : Int32} {fabove : Int64} {fbelow : Int64} {bads : Int32} {noes : Int32} {fulls : Int32} {tlen : Int32} {titems : Int32} {tfault : Int32} {tbytes : Nat → Int32} {twords : Nat → Int32} {tnumbers : Nat → Int32}  {r : Int32} {d_tlen : Int32} (hf : f5_clear tlen = some (r, d_tlen)) : Met l yX5_clear wsX5_clear rm5_clear (zPm D cI cZ cB [.ref (q 0)] sz (zcat [(cHG q (qw 0) (qt 0) (qi 0) (qj 0) (qb 0) (qx 0) kept0 kept1 fabove fbelow bads noes fulls), (cTell cI cB qx tlen titems tfault tbytes twords tnumbers)])) (zQm D (some (.int r)) (zcat [(cHG q (qw 0) (qt 0) (qi 0) (qj 0) (qb 0) (qx 0) kept0 kept1 fabove fbelow bads noes fulls), (cTell cI cB qx d_tlen titems tfault tbytes twords tnumbers)]) (va_A (zcat [(cHG q (qw 0) (qt 0) (qi 0) (qj 0) (qb 0) (qx 0) kept0 kept1 fabove fbelow bads noes fulls), (cTell cI cB qx tlen titems tfault tbytes twords tnumbers)]) sz)) 0 0 (va_A (zcat [(cHG q (qw 0) (qt 0) (qi 0) (qj 0) (qb 0) (qx 0) kept0 kept1 fabove fbelow bads noes fulls), (cTell cI cB qx tlen titems tfault tbytes twords tnumbers)]) sz) := by
  unfold f5_clear at hf
  refine z_mutI RX5 (by decide +kernel) rfl rfl (Nat.le_of_ble_eq_true rfl) ?_
  intro p e s m args below meth c Q A ls hx hb hml hown hts hK hP hD hS hA hret hl
  have hl : lv_has ls 1 [(0, .ref (q 0))] := hl
  refine lv_aload_n hx hb (zD_g DX5_clear 0 rfl) rfl (lv_at hl 0 rfl) ?_
  refine va_get (D := D) (ci := 4) (v := .ref (qx 0)) (C := RX5) (T := TX5) (N := 13) hx hb hts in5_clear_5 hown hK.1 hP 0 rfl rfl 7 (by decide) (hts _ (List.mem_of_getElem? (i := 1) rfl)) (fun _ h9 => h9) rfl (zD_g DX5_clear 1 rfl) ?_
  obtain ⟨r1, tlen_2, hc3, hf⟩ := zb2_s hf
  refine z_VB (As := []) (rest := []) (cs' := [(cTell cI cB qx tlen_2 titems tfault tbytes twords tnumbers)]) (ws' := (zcat [(cHG q (qw 0) (qt 0) (qi 0) (qj 0) (qb 0) (qx 0) kept0 kept1 fabove fbelow bads noes fulls), (cTell cI cB qx tlen_2 titems tfault tbytes twords tnumbers)])) ⟨hx, hb, hml, hown, hts⟩ hK (c3_makeEmpty (tlen := tlen) (titems := titems) (tfault := tfault) (tbytes := tbytes) (twords := twords) (tnumbers := tnumbers) (q := qx) hc3) (cwV 0 hts gX5_clear_X3_makeEmpty rfl rfl rfl hd3_makeEmpty ⟨Nat.le_of_ble_eq_true rfl, Nat.le_of_ble_eq_true rfl⟩) hP hD hS hA 2 [1] [0] [0, 1] (by decide +kernel) rfl rfl rfl rfl rfl rfl rfl rfl rfl hl.1 rfl rfl (Nat.le_of_ble_eq_true rfl) (zD_g DX5_clear 2 rfl) ⟨Nat.zero_le _, Nat.zero_le _⟩ (fun H locs hP hD hS => ?_)
  cases hf
  exact hret _ _ _ _ hP hD hS (zD_g DX5_clear 3 rfl)
abbrev dlX5_tellItem : List (Nat × Instr × Nat) := [(0, .aload_n 0, 1), (1, .getfield 42, 3), (4, .iload_n 1, 1), (5, .invokevirtual 276, 3), (8, .istore_n 2, 1), (9, .aload_n 0, 1), (10, .getfield 42, 3), (13, .iload_n 1, 1), (14, .iconst 0, 1), (15, .invokevirtual 279, 3), (18, .istore_n 3, 1), (19, .aload_n 0, 1), (20, .getfield 42, 3), (23, .iload_n 1, 1), (24, .iconst 1, 1), (25, .invokevirtual 279, 3), (28, .istore 4, 2), (30, .aload_n 0, 1), (31, .getfield 42, 3), (34, .iload_n 1, 1), (35, .iconst 2, 1), (36, .invokevirtual 279, 3), (39, .istore 5, 2), (41, .aload_n 0, 1), (42, .getfield 42, 3), (45, .iload_n 1, 1), (46, .iconst 3, 1), (47, .invokevirtual 279, 3), (50, .istore 6, 2), (52, .iload_n 2, 1), (53, .tableswitch 133 0 6 #[43, 58, 73, 84, 96, 108, 120], 43), (96, .aload_n 0, 1), (97, .getfield 16, 3), (100, .iload_n 3, 1), (101, .iload 4, 2), (103, .iload 5, 2), (105, .iload 6, 2), (107, .invokevirtual 63, 3), (110, .ireturn, 1), (111, .aload_n 0, 1), (112, .getfield 16, 3), (115, .iload_n 3, 1), (116, .iload 4, 2), (118, .iload 5, 2), (120, .iload 6, 2), (122, .invokevirtual 71, 3), (125, .ireturn, 1), (126, .aload_n 0, 1), (127, .getfield 16, 3), (130, .iload_n 3, 1), (131, .iload 4, 2), (133, .invokevirtual 74, 3), (136, .ireturn, 1), (137, .aload_n 0, 1), (138, .getfield 16, 3), (141, .iload_n 3, 1), (142, .iconst 0, 1), (143, .iload 4, 2), (145, .invokevirtual 81, 3), (148, .ireturn, 1), (149, .aload_n 0, 1), (150, .getfield 16, 3), (153, .iload_n 3, 1), (154, .iconst 1, 1), (155, .iload 4, 2), (157, .invokevirtual 81, 3), (160, .ireturn, 1), (161, .aload_n 0, 1), (162, .getfield 16, 3), (165, .iload_n 3, 1), (166, .iconst 2, 1), (167, .iload 4, 2), (169, .invokevirtual 81, 3), (172, .ireturn, 1), (173, .aload_n 0, 1), (174, .getfield 16, 3), (177, .iload_n 3, 1), (178, .iload 4, 2), (180, .iload 5, 2), (182, .invokevirtual 85, 3), (185, .ireturn, 1), (186, .bipush (-2), 2), (188, .ireturn, 1)]
theorem DX5_tellItem : zD cX5_tellItem dlX5_tellItem = true := by decide +kernel
set_option maxRecDepth 20000 in
theorem ggX5_tellItem_X3_wordOf : GoodIn wsX5_tellItem wsX3_wordOf := goodIn_r _ [7, 8, 9, 10, 11, 116, 117, 118, 119, 120, 121] (by decide +kernel) (by decide +kernel)
set_option maxRecDepth 20000 in
theorem gX5_tellItem_X3_wordOf : GoodIn wsX5_tellItem (wsV RX5 276 RX3 yX3_wordOf wsX3_wordOf) := goodIn_app (goodIn_of _ (by decide +kernel)) ggX5_tellItem_X3_wordOf
set_option maxRecDepth 20000 in
theorem ggX5_tellItem_X3_numberOf : GoodIn wsX5_tellItem wsX3_numberOf := goodIn_r _ [15, 16, 9, 10, 11, 116, 117, 118, 119, 120, 121] (by decide +kernel) (by decide +kernel)
set_option maxRecDepth 20000 in
theorem gX5_tellItem_X3_numberOf : GoodIn wsX5_tellItem (wsV RX5 279 RX3 yX3_numberOf wsX3_numberOf) := goodIn_app (goodIn_of _ (by decide +kernel)) ggX5_tellItem_X3_numberOf
set_option maxRecDepth 20000 in
theorem ggX5_tellItem_X4_addThing : GoodIn wsX5_tellItem wsX4_addThing := goodIn_r _ [21, 22, 23, 24, 25, 26, 27, 9, 10, 11, 28, 29, 30, 20, 31, 32, 33, 122, 123, 124, 125, 126, 127, 128, 129, 130, 131, 132, 133, 134, 135, 136, 137, 138, 139, 140, 141, 142] (by decide +kernel) (by decide +kernel)
set_option maxRecDepth 20000 in
theorem gX5_tellItem_X4_addThing : GoodIn wsX5_tellItem (wsV RX5 63 RX4 yX4_addThing wsX4_addThing) := goodIn_app (goodIn_of _ (by decide +kernel)) ggX5_tellItem_X4_addThing
set_option maxRecDepth 20000 in
theorem ggX5_tellItem_X4_addGift : GoodIn wsX5_tellItem wsX4_addGift := goodIn_r _ [37, 38, 39, 40, 41, 42, 43, 9, 10, 11, 44, 45, 46, 28, 29, 30, 20, 31, 32, 33, 122, 123, 124, 125, 126, 127, 128, 129, 130, 131, 132, 133, 134, 135, 136, 137, 138, 139, 140, 141, 142] (by decide +kernel) (by decide +kernel)
set_option maxRecDepth 20000 in
theorem gX5_tellItem_X4_addGift : GoodIn wsX5_tellItem (wsV RX5 71 RX4 yX4_addGift wsX4_addGift) := goodIn_app (goodIn_of _ (by decide +kernel)) ggX5_tellItem_X4_addGift
set_option maxRecDepth 20000 in
theorem ggX5_tellItem_X4_putIn : GoodIn wsX5_tellItem wsX4_putIn := goodIn_r _ [50, 27, 51, 52, 53, 20, 54, 22, 9, 10, 11, 55, 56, 57, 58, 38, 59, 60, 61, 62, 63, 64, 65, 66, 23, 42, 67, 68, 69, 70, 71, 72, 32, 40, 73, 74, 75, 76, 77, 78, 79, 80, 81, 82, 83, 84, 85, 122, 123, 124, 125, 126, 127, 128, 129, 130, 131, 132, 133, 134, 135, 136, 137, 138, 139, 140, 141, 142] (by decide +kernel) (by decide +kernel)
set_option maxRecDepth 20000 in
theorem gX5_tellItem_X4_putIn : GoodIn wsX5_tellItem (wsV RX5 74 RX4 yX4_putIn wsX4_putIn) := goodIn_app (goodIn_of _ (by decide +kernel)) ggX5_tellItem_X4_putIn
set_option maxRecDepth 20000 in
theorem ggX5_tellItem_X4_setMeasure : GoodIn wsX5_tellItem wsX4_setMeasure := goodIn_r _ [89, 90, 91, 92, 44, 10, 45, 46, 9, 11, 93, 94, 20, 95, 122, 123, 124, 125, 126, 127, 128, 129, 130, 131, 132, 133, 134, 135, 136, 137, 138, 139, 140] (by decide +kernel) (by decide +kernel)
set_option maxRecDepth 20000 in
theorem gX5_tellItem_X4_setMeasure : GoodIn wsX5_tellItem (wsV RX5 81 RX4 yX4_setMeasure wsX4_setMeasure) := goodIn_app (goodIn_of _ (by decide +kernel)) ggX5_tellItem_X4_setMeasure
set_option maxRecDepth 20000 in
theorem ggX5_tellItem_X4_setWatch : GoodIn wsX5_tellItem wsX4_setWatch := goodIn_r _ [99, 100, 44, 10, 45, 46, 9, 11, 101, 102, 93, 94, 20, 95, 122, 123, 124, 125, 126, 127, 128, 129, 130, 131, 132, 133, 134, 135, 136, 137, 138, 139, 140] (by decide +kernel) (by decide +kernel)
set_option maxRecDepth 20000 in
theorem gX5_tellItem_X4_setWatch : GoodIn wsX5_tellItem (wsV RX5 85 RX4 yX4_setWatch wsX4_setWatch) := goodIn_app (goodIn_of _ (by decide +kernel)) ggX5_tellItem_X4_setWatch
theorem hd5_tellItem : yX5_tellItem.cls = RX5 ∧ yX5_tellItem.cls ≠ "java/lang/invoke/MethodHandle" ∧ yX5_tellItem.cls ≠ "java/lang/invoke/VarHandle" ∧ (parseMethodDescriptor yX5_tellItem.desc).map (fun d => d.parameters.length) = some 1 := by decide +kernel
abbrev rm5_tellItem : Room := { frames := 4, cells := 0, slots := 0, locals := 127 }
theorem in5_tellItem_5 : ∀ w ∈ wsX50, w ∈ wsX5_tellItem := fun w h => List.mem_cons_of_mem _ (List.mem_append_left _ (List.mem_append_left _ (List.mem_append_left _ (List.mem_append_right _ h))))
set_option maxHeartbeats 4000000 in
set_option maxRecDepth 100000 in
theorem c5_tellItem {l : Launch} {D : va_G} {cI cZ cB : ClassId} {q : Nat → Nat} {qt : Nat → Nat} {qx : Nat → Nat} {qw : Nat → Nat} {qi : Nat → Nat} {qj : Nat → Nat} {qb : Nat → Nat} {sz : Nat} {kept0 : Int32} {kept1 : Int32} {fabove : Int64} {fbelow : Int64} {bads : Int32} {noes : Int32} {fulls : Int32} {t_things : Int32} {t_gifts : Int32} {t_days : Int32} {t_size : Nat → Int32} {t_weight : Nat → Int32} {t_sound : Nat → Int32} {t_harm : Nat → Int32} {t_in_ : Nat → Int32} {t_kind : Nat → Int32} {t_owner : Nat → Int32} {t_empty : Nat → Int32} {t_room : Nat → Int32} {t_told : Nat → Int32} {t_gate : Nat → Int32} {t_ear : Nat → Int32} {t_scale : Nat → Int32} {t_lost : Nat → Int32} {t_watch : Nat → Int32} {t_moments : Int32} {t_kept : Nat → Int32} {tlen : Int32} {titems : Int32} {tfault : Int32} {tbytes : Nat → Int32} {twords : Nat → Int32} {tnumbers : Nat → Int32} {a_item : Int32} {r : Int32} {d_t_things : Int32} {d_t_gifts : Int32} {d_t_size : Nat → Int32} {d_t_weight : Nat → Int32} {d_t_sound : Nat → Int32} {d_t_harm : Nat → Int32} {d_t_in_ : Nat → Int32} {d_t_kind : Nat → Int32} {d_t_owner : Nat → Int32} {d_t_empty : Nat → Int32} {d_t_room : Nat → Int32} {d_t_told : Nat → Int32} {d_t_gate : Nat → Int32} {d_t_ear : Nat → Int32} {d_t_scale : Nat → Int32} {d_t_watch : Nat → Int32} {d_t_moments : Int32} {d_t_kept : Nat → Int32} (hf : f5_tellItem t_things t_gifts t_days t_size t_weight t_sound t_harm t_in_ t_kind t_owner t_empty t_room t_told t_gate t_ear t_scale t_lost t_watch t_moments t_kept twords tnumbers a_item = some (r, d_t_things, d_t_gifts, d_t_size, d_t_weight, d_t_sound, d_t_harm, d_t_in_, d_t_kind, d_t_owner, d_t_empty, d_t_room, d_t_told, d_t_gate, d_t_ear, d_t_scale, d_t_watch, d_t_moments, d_t_kept)) : Met l yX5_tellItem wsX5_tellItem rm5_tellItem (zPm D cI cZ cB [.ref (q 0), .int a_item] sz (zcat [(cHG q (qw 0) (qt 0) (qi 0) (qj 0) (qb 0) (qx 0) kept0 kept1 fabove fbelow bads noes fulls), (cWar cI qt t_things t_gifts t_days t_size t_weight t_sound t_harm t_in_ t_kind t_owner t_empty t_room t_told t_gate t_ear t_scale t_lost t_watch t_moments t_kept), (cTell cI cB qx tlen titems tfault tbytes twords tnumbers)])) (zQm D (some (.int r)) (zcat [(cHG q (qw 0) (qt 0) (qi 0) (qj 0) (qb 0) (qx 0) kept0 kept1 fabove fbelow bads noes fulls), (cWar cI qt d_t_things d_t_gifts t_days d_t_size d_t_weight d_t_sound d_t_harm d_t_in_ d_t_kind d_t_owner d_t_empty d_t_room d_t_told d_t_gate d_t_ear d_t_scale t_lost d_t_watch d_t_moments d_t_kept), (cTell cI cB qx tlen titems tfault tbytes twords tnumbers)]) (va_A (zcat [(cHG q (qw 0) (qt 0) (qi 0) (qj 0) (qb 0) (qx 0) kept0 kept1 fabove fbelow bads noes fulls), (cWar cI qt t_things t_gifts t_days t_size t_weight t_sound t_harm t_in_ t_kind t_owner t_empty t_room t_told t_gate t_ear t_scale t_lost t_watch t_moments t_kept), (cTell cI cB qx tlen titems tfault tbytes twords tnumbers)]) sz)) 0 0 (va_A (zcat [(cHG q (qw 0) (qt 0) (qi 0) (qj 0) (qb 0) (qx 0) kept0 kept1 fabove fbelow bads noes fulls), (cWar cI qt t_things t_gifts t_days t_size t_weight t_sound t_harm t_in_ t_kind t_owner t_empty t_room t_told t_gate t_ear t_scale t_lost t_watch t_moments t_kept), (cTell cI cB qx tlen titems tfault tbytes twords tnumbers)]) sz) := by
  unfold f5_tellItem at hf
  refine z_mutI RX5 (by decide +kernel) rfl rfl (Nat.le_of_ble_eq_true rfl) ?_
  intro p e s m args below meth c Q A ls hx hb hml hown hts hK hP hD hS hA hret hl
  have hl : lv_has ls 7 [(0, .ref (q 0)), (1, .int a_item)] := hl
  refine lv_aload_n hx hb (zD_g DX5_tellItem 0 rfl) rfl (lv_at hl 0 rfl) ?_
  refine va_get (D := D) (ci := 4) (v := .ref (qx 0)) (C := RX5) (T := TX5) (N := 13) hx hb hts in5_tellItem_5 hown hK.1 hP 0 rfl rfl 7 (by decide) (hts _ (List.mem_of_getElem? (i := 1) rfl)) (fun _ h9 => h9) rfl (zD_g DX5_tellItem 1 rfl) ?_
  refine lv_iload_n hx hb (zD_g DX5_tellItem 2 rfl) rfl (lv_at hl 1 rfl) ?_
  obtain ⟨r1, hc2, hf⟩ := zb1_s hf
  refine z_Vp (As := [.int a_item]) (rest := []) ⟨hx, hb, hml, hown, hts⟩ hK (c3_wordOf (tlen := tlen) (titems := titems) (tfault := tfault) (tbytes := tbytes) (twords := twords) (tnumbers := tnumbers) (q := qx) hc2) (cwV 1 hts gX5_tellItem_X3_wordOf rfl rfl rfl hd3_wordOf ⟨Nat.le_of_ble_eq_true rfl, Nat.le_of_ble_eq_true rfl⟩) (zsubP hP [2] rfl) rfl rfl rfl rfl hl.1 rfl rfl (Nat.le_of_ble_eq_true rfl) (zD_g DX5_tellItem 3 rfl) ⟨Nat.zero_le _, Nat.zero_le _⟩ ?_
  refine lv_istore_n (lv' := [(2, .int r1), (0, .ref (q 0)), (1, .int a_item)]) hx hb (zD_g DX5_tellItem 4 rfl) rfl hl (by decide) rfl (fun ls hl => ?_)
  refine lv_aload_n hx hb (zD_g DX5_tellItem 5 rfl) rfl (lv_at hl 1 rfl) ?_
  refine va_get (D := D) (ci := 4) (v := .ref (qx 0)) (C := RX5) (T := TX5) (N := 13) hx hb hts in5_tellItem_5 hown hK.1 hP 0 rfl rfl 7 (by decide) (hts _ (List.mem_of_getElem? (i := 1) rfl)) (fun _ h9 => h9) rfl (zD_g DX5_tellItem 6 rfl) ?_
  refine lv_iload_n hx hb (zD_g DX5_tellItem 7 rfl) rfl (lv_at hl 2 rfl) ?_
  refine lv_iconst (v := (0 : Int32)) hx hb (zD_g DX5_tellItem 8 rfl) (by decide) ?_
  obtain ⟨r3, hc4, hf⟩ := zb1_s hf
  refine z_Vp (As := [.int a_item, .int (0 : Int32)]) (rest := []) ⟨hx, hb, hml, hown, hts⟩ hK (c3_numberOf (tlen := tlen) (titems := titems) (tfault := tfault) (tbytes := tbytes) (twords := twords) (tnumbers := tnumbers) (q := qx) hc4) (cwV 2 hts gX5_tellItem_X3_numberOf rfl rfl rfl hd3_numberOf ⟨Nat.le_of_ble_eq_true rfl, Nat.le_of_ble_eq_true rfl⟩) (zsubP hP [2] rfl) rfl rfl rfl rfl hl.1 rfl rfl (Nat.le_of_ble_eq_true rfl) (zD_g DX5_tellItem 9 rfl) ⟨Nat.zero_le _, Nat.zero_le _⟩ ?_
  refine lv_istore_n (lv' := [(3, .int r3), (2, .int r1), (0, .ref (q 0)), (1, .int a_item)]) hx hb (zD_g DX5_tellItem 10 rfl) rfl hl (by decide) rfl (fun ls hl => ?_)
  refine lv_aload_n hx hb (zD_g DX5_tellItem 11 rfl) rfl (lv_at hl 2 rfl) ?_
  refine va_get (D := D) (ci := 4) (v := .ref (qx 0)) (C := RX5) (T := TX5) (N := 13) hx hb hts in5_tellItem_5 hown hK.1 hP 0 rfl rfl 7 (by decide) (hts _ (List.mem_of_getElem? (i := 1) rfl)) (fun _ h9 => h9) rfl (zD_g DX5_tellItem 12 rfl) ?_
  refine lv_iload_n hx hb (zD_g DX5_tellItem 13 rfl) rfl (lv_at hl 3 rfl) ?_
  refine lv_iconst (v := (1 : Int32)) hx hb (zD_g DX5_tellItem 14 rfl) (by decide) ?_
  obtain ⟨r5, hc6, hf⟩ := zb1_s hf
  refine z_Vp (As := [.int a_item, .int (1 : Int32)]) (rest := []) ⟨hx, hb, hml, hown, hts⟩ hK (c3_numberOf (tlen := tlen) (titems := titems) (tfault := tfault) (tbytes := tbytes) (twords := twords) (tnumbers := tnumbers) (q := qx) hc6) (cwV 2 hts gX5_tellItem_X3_numberOf rfl rfl rfl hd3_numberOf ⟨Nat.le_of_ble_eq_true rfl, Nat.le_of_ble_eq_true rfl⟩) (zsubP hP [2] rfl) rfl rfl rfl rfl hl.1 rfl rfl (Nat.le_of_ble_eq_true rfl) (zD_g DX5_tellItem 15 rfl) ⟨Nat.zero_le _, Nat.zero_le _⟩ ?_
  refine lv_istore (lv' := [(4, .int r5), (3, .int r3), (2, .int r1), (0, .ref (q 0)), (1, .int a_item)]) hx hb (zD_g DX5_tellItem 16 rfl) hl (by decide) rfl (fun ls hl => ?_)
  refine lv_aload_n hx hb (zD_g DX5_tellItem 17 rfl) rfl (lv_at hl 3 rfl) ?_
  refine va_get (D := D) (ci := 4) (v := .ref (qx 0)) (C := RX5) (T := TX5) (N := 13) hx hb hts in5_tellItem_5 hown hK.1 hP 0 rfl rfl 7 (by decide) (hts _ (List.mem_of_getElem? (i := 1) rfl)) (fun _ h9 => h9) rfl (zD_g DX5_tellItem 18 rfl) ?_
  refine lv_iload_n hx hb (zD_g DX5_tellItem 19 rfl) rfl (lv_at hl 4 rfl) ?_
  refine lv_iconst (v := (2 : Int32)) hx hb (zD_g DX5_tellItem 20 rfl) (by decide) ?_
  obtain ⟨r7, hc8, hf⟩ := zb1_s hf
  refine z_Vp (As := [.int a_item, .int (2 : Int32)]) (rest := []) ⟨hx, hb, hml, hown, hts⟩ hK (c3_numberOf (tlen := tlen) (titems := titems) (tfault := tfault) (tbytes := tbytes) (twords := twords) (tnumbers := tnumbers) (q := qx) hc8) (cwV 2 hts gX5_tellItem_X3_numberOf rfl rfl rfl hd3_numberOf ⟨Nat.le_of_ble_eq_true rfl, Nat.le_of_ble_eq_true rfl⟩) (zsubP hP [2] rfl) rfl rfl rfl rfl hl.1 rfl rfl (Nat.le_of_ble_eq_true rfl) (zD_g DX5_tellItem 21 rfl) ⟨Nat.zero_le _, Nat.zero_le _⟩ ?_
  refine lv_istore (lv' := [(5, .int r7), (4, .int r5), (3, .int r3), (2, .int r1), (0, .ref (q 0)), (1, .int a_item)]) hx hb (zD_g DX5_tellItem 22 rfl) hl (by decide) rfl (fun ls hl => ?_)
  refine lv_aload_n hx hb (zD_g DX5_tellItem 23 rfl) rfl (lv_at hl 4 rfl) ?_
  refine va_get (D := D) (ci := 4) (v := .ref (qx 0)) (C := RX5) (T := TX5) (N := 13) hx hb hts in5_tellItem_5 hown hK.1 hP 0 rfl rfl 7 (by decide) (hts _ (List.mem_of_getElem? (i := 1) rfl)) (fun _ h9 => h9) rfl (zD_g DX5_tellItem 24 rfl) ?_
  refine lv_iload_n hx hb (zD_g DX5_tellItem 25 rfl) rfl (lv_at hl 5 rfl) ?_
  refine lv_iconst (v := (3 : Int32)) hx hb (zD_g DX5_tellItem 26 rfl) (by decide) ?_
  obtain ⟨r9, hc10, hf⟩ := zb1_s hf
  refine z_Vp (As := [.int a_item, .int (3 : Int32)]) (rest := []) ⟨hx, hb, hml, hown, hts⟩ hK (c3_numberOf (tlen := tlen) (titems := titems) (tfault := tfault) (tbytes := tbytes) (twords := twords) (tnumbers := tnumbers) (q := qx) hc10) (cwV 2 hts gX5_tellItem_X3_numberOf rfl rfl rfl hd3_numberOf ⟨Nat.le_of_ble_eq_true rfl, Nat.le_of_ble_eq_true rfl⟩) (zsubP hP [2] rfl) rfl rfl rfl rfl hl.1 rfl rfl (Nat.le_of_ble_eq_true rfl) (zD_g DX5_tellItem 27 rfl) ⟨Nat.zero_le _, Nat.zero_le _⟩ ?_
  refine lv_istore (lv' := [(6, .int r9), (5, .int r7), (4, .int r5), (3, .int r3), (2, .int r1), (0, .ref (q 0)), (1, .int a_item)]) hx hb (zD_g DX5_tellItem 28 rfl) hl (by decide) rfl (fun ls hl => ?_)
  refine lv_iload_n hx hb (zD_g DX5_tellItem 29 rfl) rfl (lv_at hl 4 rfl) ?_
  by_cases c11 : r1 = 0
  · replace hf := z_t c11 hf
    refine lv_tableIn (off := 43) (tgt := 96) hx hb (zD_g DX5_tellItem 30 rfl) (by rw [c11]; decide) (by rw [c11]; decide) (by rw [c11]; decide) (by decide) ?_
    refine lv_aload_n hx hb (zD_g DX5_tellItem 31 rfl) rfl (lv_at hl 5 rfl) ?_
    refine va_get (D := D) (ci := 4) (v := .ref (qt 0)) (C := RX5) (T := TX5) (N := 13) hx hb hts in5_tellItem_5 hown hK.1 hP 0 rfl rfl 1 (by decide) (hts _ (List.mem_of_getElem? (i := 2) rfl)) (fun _ h9 => h9) rfl (zD_g DX5_tellItem 32 rfl) ?_
    refine lv_iload_n hx hb (zD_g DX5_tellItem 33 rfl) rfl (lv_at hl 3 rfl) ?_
    refine lv_iload hx hb (zD_g DX5_tellItem 34 rfl) (lv_at hl 2 rfl) ?_
    refine lv_iload hx hb (zD_g DX5_tellItem 35 rfl) (lv_at hl 1 rfl) ?_
    refine lv_iload hx hb (zD_g DX5_tellItem 36 rfl) (lv_at hl 0 rfl) ?_
    obtain ⟨r12, t_things_13, t_size_14, t_weight_15, t_sound_16, t_harm_17, t_in_18, t_moments_19, hc20, hf⟩ := zb8_s hf
    refine z_VB (As := [.int r3, .int r5, .int r7, .int r9]) (rest := []) (cs' := [(cWar cI qt t_things_13 t_gifts t_days t_size_14 t_weight_15 t_sound_16 t_harm_17 t_in_18 t_kind t_owner t_empty t_room t_told t_gate t_ear t_scale t_lost t_watch t_moments_19 t_kept)]) (ws' := (zcat [(cHG q (qw 0) (qt 0) (qi 0) (qj 0) (qb 0) (qx 0) kept0 kept1 fabove fbelow bads noes fulls), (cWar cI qt t_things_13 t_gifts t_days t_size_14 t_weight_15 t_sound_16 t_harm_17 t_in_18 t_kind t_owner t_empty t_room t_told t_gate t_ear t_scale t_lost t_watch t_moments_19 t_kept), (cTell cI cB qx tlen titems tfault tbytes twords tnumbers)])) ⟨hx, hb, hml, hown, hts⟩ hK (c4_addThing (things := t_things) (gifts := t_gifts) (days := t_days) (size := t_size) (weight := t_weight) (sound := t_sound) (harm := t_harm) (in_ := t_in_) (kind := t_kind) (owner := t_owner) (empty := t_empty) (room := t_room) (told := t_told) (gate := t_gate) (ear := t_ear) (scale := t_scale) (lost := t_lost) (watch := t_watch) (moments := t_moments) (kept := t_kept) (q := qt) hc20) (cwV 4 hts gX5_tellItem_X4_addThing rfl rfl rfl hd4_addThing ⟨Nat.le_of_ble_eq_true rfl, Nat.le_of_ble_eq_true rfl⟩) hP hD hS hA 3 [1] [0, 2] [0, 2, 1] (by decide +kernel) rfl rfl rfl rfl rfl rfl rfl rfl rfl hl.1 rfl rfl (Nat.le_of_ble_eq_true rfl) (zD_g DX5_tellItem 37 rfl) ⟨Nat.zero_le _, Nat.zero_le _⟩ (fun H locs hP hD hS => ?_)
    cases hf
    exact hret _ _ _ _ hP hD hS (zD_g DX5_tellItem 38 rfl)
  · replace hf := z_f c11 hf
    by_cases c21 : r1 = 1
    · replace hf := z_t c21 hf
      refine lv_tableIn (off := 58) (tgt := 111) hx hb (zD_g DX5_tellItem 30 rfl) (by rw [c21]; decide) (by rw [c21]; decide) (by rw [c21]; decide) (by decide) ?_
      refine lv_aload_n hx hb (zD_g DX5_tellItem 39 rfl) rfl (lv_at hl 5 rfl) ?_
      refine va_get (D := D) (ci := 4) (v := .ref (qt 0)) (C := RX5) (T := TX5) (N := 13) hx hb hts in5_tellItem_5 hown hK.1 hP 0 rfl rfl 1 (by decide) (hts _ (List.mem_of_getElem? (i := 2) rfl)) (fun _ h9 => h9) rfl (zD_g DX5_tellItem 40 rfl) ?_
      refine lv_iload_n hx hb (zD_g DX5_tellItem 41 rfl) rfl (lv_at hl 3 rfl) ?_
      refine lv_iload hx hb (zD_g DX5_tellItem 42 rfl) (lv_at hl 2 rfl) ?_
      refine lv_iload hx hb (zD_g DX5_tellItem 43 rfl) (lv_at hl 1 rfl) ?_
      refine lv_iload hx hb (zD_g DX5_tellItem 44 rfl) (lv_at hl 0 rfl) ?_
      obtain ⟨r22, t_gifts_23, t_kind_24, t_owner_25, t_empty_26, t_room_27, t_told_28, t_moments_29, hc30, hf⟩ := zb8_s hf
      refine z_VB (As := [.int r3, .int r5, .int r7, .int r9]) (rest := []) (cs' := [(cWar cI qt t_things t_gifts_23 t_days t_size t_weight t_sound t_harm t_in_ t_kind_24 t_owner_25 t_empty_26 t_room_27 t_told_28 t_gate t_ear t_scale t_lost t_watch t_moments_29 t_kept)]) (ws' := (zcat [(cHG q (qw 0) (qt 0) (qi 0) (qj 0) (qb 0) (qx 0) kept0 kept1 fabove fbelow bads noes fulls), (cWar cI qt t_things t_gifts_23 t_days t_size t_weight t_sound t_harm t_in_ t_kind_24 t_owner_25 t_empty_26 t_room_27 t_told_28 t_gate t_ear t_scale t_lost t_watch t_moments_29 t_kept), (cTell cI cB qx tlen titems tfault tbytes twords tnumbers)])) ⟨hx, hb, hml, hown, hts⟩ hK (c4_addGift (things := t_things) (gifts := t_gifts) (days := t_days) (size := t_size) (weight := t_weight) (sound := t_sound) (harm := t_harm) (in_ := t_in_) (kind := t_kind) (owner := t_owner) (empty := t_empty) (room := t_room) (told := t_told) (gate := t_gate) (ear := t_ear) (scale := t_scale) (lost := t_lost) (watch := t_watch) (moments := t_moments) (kept := t_kept) (q := qt) hc30) (cwV 4 hts gX5_tellItem_X4_addGift rfl rfl rfl hd4_addGift ⟨Nat.le_of_ble_eq_true rfl, Nat.le_of_ble_eq_true rfl⟩) hP hD hS hA 3 [1] [0, 2] [0, 2, 1] (by decide +kernel) rfl rfl rfl rfl rfl rfl rfl rfl rfl hl.1 rfl rfl (Nat.le_of_ble_eq_true rfl) (zD_g DX5_tellItem 45 rfl) ⟨Nat.zero_le _, Nat.zero_le _⟩ (fun H locs hP hD hS => ?_)
      cases hf
      exact hret _ _ _ _ hP hD hS (zD_g DX5_tellItem 46 rfl)
    · replace hf := z_f c21 hf
      by_cases c31 : r1 = 2
      · replace hf := z_t c31 hf
        refine lv_tableIn (off := 73) (tgt := 126) hx hb (zD_g DX5_tellItem 30 rfl) (by rw [c31]; decide) (by rw [c31]; decide) (by rw [c31]; decide) (by decide) ?_
        refine lv_aload_n hx hb (zD_g DX5_tellItem 47 rfl) rfl (lv_at hl 5 rfl) ?_
        refine va_get (D := D) (ci := 4) (v := .ref (qt 0)) (C := RX5) (T := TX5) (N := 13) hx hb hts in5_tellItem_5 hown hK.1 hP 0 rfl rfl 1 (by decide) (hts _ (List.mem_of_getElem? (i := 2) rfl)) (fun _ h9 => h9) rfl (zD_g DX5_tellItem 48 rfl) ?_
        refine lv_iload_n hx hb (zD_g DX5_tellItem 49 rfl) rfl (lv_at hl 3 rfl) ?_
        refine lv_iload hx hb (zD_g DX5_tellItem 50 rfl) (lv_at hl 2 rfl) ?_
        obtain ⟨r32, t_in_33, t_moments_34, t_kept_35, hc36, hf⟩ := zb4_s hf
        refine z_VB (As := [.int r3, .int r5]) (rest := []) (cs' := [(cWar cI qt t_things t_gifts t_days t_size t_weight t_sound t_harm t_in_33 t_kind t_owner t_empty t_room t_told t_gate t_ear t_scale t_lost t_watch t_moments_34 t_kept_35)]) (ws' := (zcat [(cHG q (qw 0) (qt 0) (qi 0) (qj 0) (qb 0) (qx 0) kept0 kept1 fabove fbelow bads noes fulls), (cWar cI qt t_things t_gifts t_days t_size t_weight t_sound t_harm t_in_33 t_kind t_owner t_empty t_room t_told t_gate t_ear t_scale t_lost t_watch t_moments_34 t_kept_35), (cTell cI cB qx tlen titems tfault tbytes twords tnumbers)])) ⟨hx, hb, hml, hown, hts⟩ hK (c4_putIn (things := t_things) (gifts := t_gifts) (days := t_days) (size := t_size) (weight := t_weight) (sound := t_sound) (harm := t_harm) (in_ := t_in_) (kind := t_kind) (owner := t_owner) (empty := t_empty) (room := t_room) (told := t_told) (gate := t_gate) (ear := t_ear) (scale := t_scale) (lost := t_lost) (watch := t_watch) (moments := t_moments) (kept := t_kept) (q := qt) hc36) (cwV 2 hts gX5_tellItem_X4_putIn rfl rfl rfl hd4_putIn ⟨Nat.le_of_ble_eq_true rfl, Nat.le_of_ble_eq_true rfl⟩) hP hD hS hA 3 [1] [0, 2] [0, 2, 1] (by decide +kernel) rfl rfl rfl rfl rfl rfl rfl rfl rfl hl.1 rfl rfl (Nat.le_of_ble_eq_true rfl) (zD_g DX5_tellItem 51 rfl) ⟨Nat.zero_le _, Nat.zero_le _⟩ (fun H locs hP hD hS => ?_)
        cases hf
        exact hret _ _ _ _ hP hD hS (zD_g DX5_tellItem 52 rfl)
      · replace hf := z_f c31 hf
        by_cases c37 : r1 = 3
        · replace hf := z_t c37 hf
          refine lv_tableIn (off := 84) (tgt := 137) hx hb (zD_g DX5_tellItem 30 rfl) (by rw [c37]; decide) (by rw [c37]; decide) (by rw [c37]; decide) (by decide) ?_
          refine lv_aload_n hx hb (zD_g DX5_tellItem 53 rfl) rfl (lv_at hl 5 rfl) ?_
          refine va_get (D := D) (ci := 4) (v := .ref (qt 0)) (C := RX5) (T := TX5) (N := 13) hx hb hts in5_tellItem_5 hown hK.1 hP 0 rfl rfl 1 (by decide) (hts _ (List.mem_of_getElem? (i := 2) rfl)) (fun _ h9 => h9) rfl (zD_g DX5_tellItem 54 rfl) ?_
          refine lv_iload_n hx hb (zD_g DX5_tellItem 55 rfl) rfl (lv_at hl 3 rfl) ?_
          refine lv_iconst (v := (0 : Int32)) hx hb (zD_g DX5_tellItem 56 rfl) (by decide) ?_
          refine lv_iload hx hb (zD_g DX5_tellItem 57 rfl) (lv_at hl 2 rfl) ?_
          obtain ⟨r38, t_gate_39, t_ear_40, t_scale_41, hc42, hf⟩ := zb4_s hf
          refine z_VB (As := [.int r3, .int (0 : Int32), .int r5]) (rest := []) (cs' := [(cWar cI qt t_things t_gifts t_days t_size t_weight t_sound t_harm t_in_ t_kind t_owner t_empty t_room t_told t_gate_39 t_ear_40 t_scale_41 t_lost t_watch t_moments t_kept)]) (ws' := (zcat [(cHG q (qw 0) (qt 0) (qi 0) (qj 0) (qb 0) (qx 0) kept0 kept1 fabove fbelow bads noes fulls), (cWar cI qt t_things t_gifts t_days t_size t_weight t_sound t_harm t_in_ t_kind t_owner t_empty t_room t_told t_gate_39 t_ear_40 t_scale_41 t_lost t_watch t_moments t_kept), (cTell cI cB qx tlen titems tfault tbytes twords tnumbers)])) ⟨hx, hb, hml, hown, hts⟩ hK (c4_setMeasure (things := t_things) (gifts := t_gifts) (days := t_days) (size := t_size) (weight := t_weight) (sound := t_sound) (harm := t_harm) (in_ := t_in_) (kind := t_kind) (owner := t_owner) (empty := t_empty) (room := t_room) (told := t_told) (gate := t_gate) (ear := t_ear) (scale := t_scale) (lost := t_lost) (watch := t_watch) (moments := t_moments) (kept := t_kept) (q := qt) hc42) (cwV 3 hts gX5_tellItem_X4_setMeasure rfl rfl rfl hd4_setMeasure ⟨Nat.le_of_ble_eq_true rfl, Nat.le_of_ble_eq_true rfl⟩) hP hD hS hA 3 [1] [0, 2] [0, 2, 1] (by decide +kernel) rfl rfl rfl rfl rfl rfl rfl rfl rfl hl.1 rfl rfl (Nat.le_of_ble_eq_true rfl) (zD_g DX5_tellItem 58 rfl) ⟨Nat.zero_le _, Nat.zero_le _⟩ (fun H locs hP hD hS => ?_)
          cases hf
          exact hret _ _ _ _ hP hD hS (zD_g DX5_tellItem 59 rfl)
        · replace hf := z_f c37 hf
          by_cases c43 : r1 = 4
          · replace hf := z_t c43 hf
            refine lv_tableIn (off := 96) (tgt := 149) hx hb (zD_g DX5_tellItem 30 rfl) (by rw [c43]; decide) (by rw [c43]; decide) (by rw [c43]; decide) (by decide) ?_
            refine lv_aload_n hx hb (zD_g DX5_tellItem 60 rfl) rfl (lv_at hl 5 rfl) ?_
            refine va_get (D := D) (ci := 4) (v := .ref (qt 0)) (C := RX5) (T := TX5) (N := 13) hx hb hts in5_tellItem_5 hown hK.1 hP 0 rfl rfl 1 (by decide) (hts _ (List.mem_of_getElem? (i := 2) rfl)) (fun _ h9 => h9) rfl (zD_g DX5_tellItem 61 rfl) ?_
            refine lv_iload_n hx hb (zD_g DX5_tellItem 62 rfl) rfl (lv_at hl 3 rfl) ?_
            refine lv_iconst (v := (1 : Int32)) hx hb (zD_g DX5_tellItem 63 rfl) (by decide) ?_
            refine lv_iload hx hb (zD_g DX5_tellItem 64 rfl) (lv_at hl 2 rfl) ?_
            obtain ⟨r44, t_gate_45, t_ear_46, t_scale_47, hc48, hf⟩ := zb4_s hf
            refine z_VB (As := [.int r3, .int (1 : Int32), .int r5]) (rest := []) (cs' := [(cWar cI qt t_things t_gifts t_days t_size t_weight t_sound t_harm t_in_ t_kind t_owner t_empty t_room t_told t_gate_45 t_ear_46 t_scale_47 t_lost t_watch t_moments t_kept)]) (ws' := (zcat [(cHG q (qw 0) (qt 0) (qi 0) (qj 0) (qb 0) (qx 0) kept0 kept1 fabove fbelow bads noes fulls), (cWar cI qt t_things t_gifts t_days t_size t_weight t_sound t_harm t_in_ t_kind t_owner t_empty t_room t_told t_gate_45 t_ear_46 t_scale_47 t_lost t_watch t_moments t_kept), (cTell cI cB qx tlen titems tfault tbytes twords tnumbers)])) ⟨hx, hb, hml, hown, hts⟩ hK (c4_setMeasure (things := t_things) (gifts := t_gifts) (days := t_days) (size := t_size) (weight := t_weight) (sound := t_sound) (harm := t_harm) (in_ := t_in_) (kind := t_kind) (owner := t_owner) (empty := t_empty) (room := t_room) (told := t_told) (gate := t_gate) (ear := t_ear) (scale := t_scale) (lost := t_lost) (watch := t_watch) (moments := t_moments) (kept := t_kept) (q := qt) hc48) (cwV 3 hts gX5_tellItem_X4_setMeasure rfl rfl rfl hd4_setMeasure ⟨Nat.le_of_ble_eq_true rfl, Nat.le_of_ble_eq_true rfl⟩) hP hD hS hA 3 [1] [0, 2] [0, 2, 1] (by decide +kernel) rfl rfl rfl rfl rfl rfl rfl rfl rfl hl.1 rfl rfl (Nat.le_of_ble_eq_true rfl) (zD_g DX5_tellItem 65 rfl) ⟨Nat.zero_le _, Nat.zero_le _⟩ (fun H locs hP hD hS => ?_)
            cases hf
            exact hret _ _ _ _ hP hD hS (zD_g DX5_tellItem 66 rfl)
          · replace hf := z_f c43 hf
            by_cases c49 : r1 = 5
            · replace hf := z_t c49 hf
              refine lv_tableIn (off := 108) (tgt := 161) hx hb (zD_g DX5_tellItem 30 rfl) (by rw [c49]; decide) (by rw [c49]; decide) (by rw [c49]; decide) (by decide) ?_
              refine lv_aload_n hx hb (zD_g DX5_tellItem 67 rfl) rfl (lv_at hl 5 rfl) ?_
              refine va_get (D := D) (ci := 4) (v := .ref (qt 0)) (C := RX5) (T := TX5) (N := 13) hx hb hts in5_tellItem_5 hown hK.1 hP 0 rfl rfl 1 (by decide) (hts _ (List.mem_of_getElem? (i := 2) rfl)) (fun _ h9 => h9) rfl (zD_g DX5_tellItem 68 rfl) ?_
              refine lv_iload_n hx hb (zD_g DX5_tellItem 69 rfl) rfl (lv_at hl 3 rfl) ?_
              refine lv_iconst (v := (2 : Int32)) hx hb (zD_g DX5_tellItem 70 rfl) (by decide) ?_
              refine lv_iload hx hb (zD_g DX5_tellItem 71 rfl) (lv_at hl 2 rfl) ?_
              obtain ⟨r50, t_gate_51, t_ear_52, t_scale_53, hc54, hf⟩ := zb4_s hf
              refine z_VB (As := [.int r3, .int (2 : Int32), .int r5]) (rest := []) (cs' := [(cWar cI qt t_things t_gifts t_days t_size t_weight t_sound t_harm t_in_ t_kind t_owner t_empty t_room t_told t_gate_51 t_ear_52 t_scale_53 t_lost t_watch t_moments t_kept)]) (ws' := (zcat [(cHG q (qw 0) (qt 0) (qi 0) (qj 0) (qb 0) (qx 0) kept0 kept1 fabove fbelow bads noes fulls), (cWar cI qt t_things t_gifts t_days t_size t_weight t_sound t_harm t_in_ t_kind t_owner t_empty t_room t_told t_gate_51 t_ear_52 t_scale_53 t_lost t_watch t_moments t_kept), (cTell cI cB qx tlen titems tfault tbytes twords tnumbers)])) ⟨hx, hb, hml, hown, hts⟩ hK (c4_setMeasure (things := t_things) (gifts := t_gifts) (days := t_days) (size := t_size) (weight := t_weight) (sound := t_sound) (harm := t_harm) (in_ := t_in_) (kind := t_kind) (owner := t_owner) (empty := t_empty) (room := t_room) (told := t_told) (gate := t_gate) (ear := t_ear) (scale := t_scale) (lost := t_lost) (watch := t_watch) (moments := t_moments) (kept := t_kept) (q := qt) hc54) (cwV 3 hts gX5_tellItem_X4_setMeasure rfl rfl rfl hd4_setMeasure ⟨Nat.le_of_ble_eq_true rfl, Nat.le_of_ble_eq_true rfl⟩) hP hD hS hA 3 [1] [0, 2] [0, 2, 1] (by decide +kernel) rfl rfl rfl rfl rfl rfl rfl rfl rfl hl.1 rfl rfl (Nat.le_of_ble_eq_true rfl) (zD_g DX5_tellItem 72 rfl) ⟨Nat.zero_le _, Nat.zero_le _⟩ (fun H locs hP hD hS => ?_)
              cases hf
              exact hret _ _ _ _ hP hD hS (zD_g DX5_tellItem 73 rfl)
            · replace hf := z_f c49 hf
              by_cases c55 : r1 = 6
              · replace hf := z_t c55 hf
                refine lv_tableIn (off := 120) (tgt := 173) hx hb (zD_g DX5_tellItem 30 rfl) (by rw [c55]; decide) (by rw [c55]; decide) (by rw [c55]; decide) (by decide) ?_
                refine lv_aload_n hx hb (zD_g DX5_tellItem 74 rfl) rfl (lv_at hl 5 rfl) ?_
                refine va_get (D := D) (ci := 4) (v := .ref (qt 0)) (C := RX5) (T := TX5) (N := 13) hx hb hts in5_tellItem_5 hown hK.1 hP 0 rfl rfl 1 (by decide) (hts _ (List.mem_of_getElem? (i := 2) rfl)) (fun _ h9 => h9) rfl (zD_g DX5_tellItem 75 rfl) ?_
                refine lv_iload_n hx hb (zD_g DX5_tellItem 76 rfl) rfl (lv_at hl 3 rfl) ?_
                refine lv_iload hx hb (zD_g DX5_tellItem 77 rfl) (lv_at hl 2 rfl) ?_
                refine lv_iload hx hb (zD_g DX5_tellItem 78 rfl) (lv_at hl 1 rfl) ?_
                obtain ⟨r56, t_watch_57, hc58, hf⟩ := zb2_s hf
                refine z_VB (As := [.int r3, .int r5, .int r7]) (rest := []) (cs' := [(cWar cI qt t_things t_gifts t_days t_size t_weight t_sound t_harm t_in_ t_kind t_owner t_empty t_room t_told t_gate t_ear t_scale t_lost t_watch_57 t_moments t_kept)]) (ws' := (zcat [(cHG q (qw 0) (qt 0) (qi 0) (qj 0) (qb 0) (qx 0) kept0 kept1 fabove fbelow bads noes fulls), (cWar cI qt t_things t_gifts t_days t_size t_weight t_sound t_harm t_in_ t_kind t_owner t_empty t_room t_told t_gate t_ear t_scale t_lost t_watch_57 t_moments t_kept), (cTell cI cB qx tlen titems tfault tbytes twords tnumbers)])) ⟨hx, hb, hml, hown, hts⟩ hK (c4_setWatch (things := t_things) (gifts := t_gifts) (days := t_days) (size := t_size) (weight := t_weight) (sound := t_sound) (harm := t_harm) (in_ := t_in_) (kind := t_kind) (owner := t_owner) (empty := t_empty) (room := t_room) (told := t_told) (gate := t_gate) (ear := t_ear) (scale := t_scale) (lost := t_lost) (watch := t_watch) (moments := t_moments) (kept := t_kept) (q := qt) hc58) (cwV 3 hts gX5_tellItem_X4_setWatch rfl rfl rfl hd4_setWatch ⟨Nat.le_of_ble_eq_true rfl, Nat.le_of_ble_eq_true rfl⟩) hP hD hS hA 3 [1] [0, 2] [0, 2, 1] (by decide +kernel) rfl rfl rfl rfl rfl rfl rfl rfl rfl hl.1 rfl rfl (Nat.le_of_ble_eq_true rfl) (zD_g DX5_tellItem 79 rfl) ⟨Nat.zero_le _, Nat.zero_le _⟩ (fun H locs hP hD hS => ?_)
                cases hf
                exact hret _ _ _ _ hP hD hS (zD_g DX5_tellItem 80 rfl)
              · replace hf := z_f c55 hf
                have z0 : r1.toInt ≠ 0 := z_ni c11
                have z1 : r1.toInt ≠ 1 := z_ni c21
                have z2 : r1.toInt ≠ 2 := z_ni c31
                have z3 : r1.toInt ≠ 3 := z_ni c37
                have z4 : r1.toInt ≠ 4 := z_ni c43
                have z5 : r1.toInt ≠ 5 := z_ni c49
                have z6 : r1.toInt ≠ 6 := z_ni c55
                refine lv_tableOut (tgt := 186) hx hb (zD_g DX5_tellItem 30 rfl) (by omega) (by decide) ?_
                refine lv_bipush (v := (-2 : Int32)) hx hb (zD_g DX5_tellItem 81 rfl) (by decide) ?_
                cases hf
                exact hret _ _ _ _ hP hD hS (zD_g DX5_tellItem 82 rfl)
abbrev dlX5_refusedAsTen : List (Nat × Instr × Nat) := [(0, .aload_n 0, 1), (1, .bipush (-2), 2), (3, .invokevirtual 67, 3), (6, .pop, 1), (7, .bipush (-10), 2), (9, .ireturn, 1)]
theorem DX5_refusedAsTen : zD cX5_refusedAsTen dlX5_refusedAsTen = true := by decide +kernel
set_option maxRecDepth 20000 in
theorem ggX5_refusedAsTen_X5_counted : GoodIn wsX5_refusedAsTen wsX5_counted := goodIn_r _ [5, 6, 7, 8, 9, 10, 11, 12, 13, 14, 15, 16, 17, 18, 19, 20, 21] (by decide +kernel) (by decide +kernel)
set_option maxRecDepth 20000 in
theorem gX5_refusedAsTen_X5_counted : GoodIn wsX5_refusedAsTen (wsV RX5 67 RX5 yX5_counted wsX5_counted) := goodIn_app (goodIn_of _ (by decide +kernel)) ggX5_refusedAsTen_X5_counted
theorem hd5_refusedAsTen : yX5_refusedAsTen.cls = RX5 ∧ yX5_refusedAsTen.cls ≠ "java/lang/invoke/MethodHandle" ∧ yX5_refusedAsTen.cls ≠ "java/lang/invoke/VarHandle" ∧ (parseMethodDescriptor yX5_refusedAsTen.desc).map (fun d => d.parameters.length) = some 0 := by decide +kernel
abbrev rm5_refusedAsTen : Room := { frames := 1, cells := 0, slots := 0, locals := 21 }
set_option maxHeartbeats 4000000 in
set_option maxRecDepth 100000 in
theorem c5_refusedAsTen {l : Launch} {D : va_G} {cI cZ cB : ClassId} {q : Nat → Nat} {qw : Nat → Nat} {qt : Nat → Nat} {qi : Nat → Nat} {qj : Nat → Nat} {qb : Nat → Nat} {qx : Nat → Nat} {sz : Nat} {kept0 : Int32} {kept1 : Int32} {fabove : Int64} {fbelow : Int64} {bads : Int32} {noes : Int32} {fulls : Int32}  {r : Int32} {d_bads : Int32} {d_noes : Int32} {d_fulls : Int32} (hf : f5_refusedAsTen bads noes fulls = some (r, d_bads, d_noes, d_fulls)) : Met l yX5_refusedAsTen wsX5_refusedAsTen rm5_refusedAsTen (zPm D cI cZ cB [.ref (q 0)] sz (cHG q (qw 0) (qt 0) (qi 0) (qj 0) (qb 0) (qx 0) kept0 kept1 fabove fbelow bads noes fulls)) (zQm D (some (.int r)) (cHG q (qw 0) (qt 0) (qi 0) (qj 0) (qb 0) (qx 0) kept0 kept1 fabove fbelow d_bads d_noes d_fulls) (va_A (cHG q (qw 0) (qt 0) (qi 0) (qj 0) (qb 0) (qx 0) kept0 kept1 fabove fbelow bads noes fulls) sz)) 0 0 (va_A (cHG q (qw 0) (qt 0) (qi 0) (qj 0) (qb 0) (qx 0) kept0 kept1 fabove fbelow bads noes fulls) sz) := by
  unfold f5_refusedAsTen at hf
  refine z_mutI RX5 (by decide +kernel) rfl rfl (Nat.le_of_ble_eq_true rfl) ?_
  intro p e s m args below meth c Q A ls hx hb hml hown hts hK hP hD hS hA hret hl
  have hl : lv_has ls 1 [(0, .ref (q 0))] := hl
  refine lv_aload_n hx hb (zD_g DX5_refusedAsTen 0 rfl) rfl (lv_at hl 0 rfl) ?_
  refine lv_bipush (v := (-2 : Int32)) hx hb (zD_g DX5_refusedAsTen 1 rfl) (by decide) ?_
  obtain ⟨r1, bads_2, noes_3, fulls_4, hc5, hf⟩ := zb4_s hf
  refine z_Vm (As := [.int (-2 : Int32)]) (rest := []) (ws' := (cHG q (qw 0) (qt 0) (qi 0) (qj 0) (qb 0) (qx 0) kept0 kept1 fabove fbelow bads_2 noes_3 fulls_4)) ⟨hx, hb, hml, hown, hts⟩ hK (c5_counted (kept0 := kept0) (kept1 := kept1) (fabove := fabove) (fbelow := fbelow) (bads := bads) (noes := noes) (fulls := fulls) (q := q) (qw := qw) (qt := qt) (qi := qi) (qj := qj) (qb := qb) (qx := qx) hc5) (cwV 1 hts gX5_refusedAsTen_X5_counted rfl rfl rfl hd5_counted ⟨Nat.le_of_ble_eq_true rfl, Nat.le_of_ble_eq_true rfl⟩) hP hD hS hA 1 [0] [] [0] (by decide +kernel) rfl rfl rfl rfl rfl rfl rfl hl.1 rfl rfl (Nat.le_of_ble_eq_true rfl) (zD_g DX5_refusedAsTen 2 rfl) ⟨Nat.zero_le _, Nat.zero_le _⟩ (fun H locs hP hD hS => ?_)
  refine lv_pop hx hb (zD_g DX5_refusedAsTen 3 rfl) rfl ?_
  refine lv_bipush (v := (-10 : Int32)) hx hb (zD_g DX5_refusedAsTen 4 rfl) (by decide) ?_
  cases hf
  exact hret _ _ _ _ hP hD hS (zD_g DX5_refusedAsTen 5 rfl)
abbrev dlX5_send : List (Nat × Instr × Nat) := [(0, .aload_n 0, 1), (1, .getfield 10, 3), (4, .iload_n 1, 1), (5, .invokevirtual 114, 3), (8, .ifCond .eq 10, 3), (11, .iload_n 2, 1), (12, .invokestatic 118, 3), (15, .ifCond .ne 8, 3), (18, .aload_n 0, 1), (19, .invokevirtual 121, 3), (22, .ireturn, 1), (23, .aload_n 0, 1), (24, .getfield 10, 3), (27, .invokevirtual 124, 3), (30, .aload_n 0, 1), (31, .getfield 10, 3), (34, .iload_n 1, 1), (35, .iload_n 2, 1), (36, .invokevirtual 127, 3), (39, .ireturn, 1)]
theorem DX5_send : zD cX5_send dlX5_send = true := by decide +kernel
set_option maxRecDepth 20000 in
theorem ggX5_send_X4_hasGift : GoodIn wsX5_send wsX4_hasGift := goodIn_r _ [6, 7, 8, 9, 10, 127, 128, 129, 130, 131, 132, 133, 134, 135, 136, 137, 138, 139, 140, 141, 142, 143, 144, 145] (by decide +kernel) (by decide +kernel)
set_option maxRecDepth 20000 in
theorem gX5_send_X4_hasGift : GoodIn wsX5_send (wsV RX5 114 RX4 yX4_hasGift wsX4_hasGift) := goodIn_app (goodIn_of _ (by decide +kernel)) ggX5_send_X4_hasGift
set_option maxRecDepth 20000 in
theorem ggX5_send_X5_isHour : GoodIn wsX5_send wsX5_isHour := goodIn_r _ [13, 14, 8, 9, 10] (by decide +kernel) (by decide +kernel)
set_option maxRecDepth 20000 in
theorem gX5_send_X5_isHour : GoodIn wsX5_send (va_wsS RX5 118 yX5_isHour wsX5_isHour) := goodIn_app (goodIn_of _ (by decide +kernel)) ggX5_send_X5_isHour
set_option maxRecDepth 20000 in
theorem ggX5_send_X5_refusedAsTen : GoodIn wsX5_send wsX5_refusedAsTen := goodIn_r _ [18, 19, 20, 21, 9, 22, 23, 24, 25, 114, 115, 116, 117, 118, 119, 120, 121, 122, 123, 124, 125, 126] (by decide +kernel) (by decide +kernel)
set_option maxRecDepth 20000 in
theorem gX5_send_X5_refusedAsTen : GoodIn wsX5_send (wsV RX5 121 RX5 yX5_refusedAsTen wsX5_refusedAsTen) := goodIn_app (goodIn_of _ (by decide +kernel)) ggX5_send_X5_refusedAsTen
set_option maxRecDepth 20000 in
theorem ggX5_send_X4_remember : GoodIn wsX5_send wsX4_remember := goodIn_r _ [29, 30, 31, 32, 33, 34, 35, 36, 37, 38, 39, 40, 41, 42, 43, 44, 45, 127, 128, 129, 130, 131, 132, 133, 134, 135, 136, 137, 138, 139, 140, 141, 142, 143, 144, 145, 146, 147] (by decide +kernel) (by decide +kernel)
set_option maxRecDepth 20000 in
theorem gX5_send_X4_remember : GoodIn wsX5_send (wsV RX5 124 RX4 yX4_remember wsX4_remember) := goodIn_app (goodIn_of _ (by decide +kernel)) ggX5_send_X4_remember
set_option maxRecDepth 20000 in
theorem ggX5_send_X4_deliver : GoodIn wsX5_send wsX4_deliver := goodIn_r _ [49, 33, 31, 34, 50, 51, 52, 5, 53, 54, 55, 56, 57, 58, 32, 59, 60, 61, 62, 63, 64, 65, 66, 67, 68, 69, 70, 71, 72, 73, 74, 75, 76, 77, 78, 79, 80, 9, 81, 82, 83, 84, 85, 86, 87, 88, 89, 90, 91, 92, 93, 94, 95, 96, 97, 98, 99, 100, 101, 102, 103, 104, 105, 106, 107, 108, 109, 110, 111, 112, 113, 127, 128, 129, 130, 131, 132, 133, 134, 135, 136, 137, 138, 139, 140, 141, 142, 143, 144, 145] (by decide +kernel) (by decide +kernel)
set_option maxRecDepth 20000 in
theorem gX5_send_X4_deliver : GoodIn wsX5_send (wsV RX5 127 RX4 yX4_deliver wsX4_deliver) := goodIn_app (goodIn_of _ (by decide +kernel)) ggX5_send_X4_deliver
theorem hd5_send : yX5_send.cls = RX5 ∧ yX5_send.cls ≠ "java/lang/invoke/MethodHandle" ∧ yX5_send.cls ≠ "java/lang/invoke/VarHandle" ∧ (parseMethodDescriptor yX5_send.desc).map (fun d => d.parameters.length) = some 2 := by decide +kernel
abbrev rm5_send : Room := { frames := 5, cells := 0, slots := 0, locals := 115 }
theorem in5_send_5 : ∀ w ∈ wsX50, w ∈ wsX5_send := fun w h => List.mem_cons_of_mem _ (List.mem_append_left _ (List.mem_append_left _ (List.mem_append_right _ h)))
set_option maxHeartbeats 4000000 in
set_option maxRecDepth 100000 in
theorem c5_send {l : Launch} {D : va_G} {cI cZ cB : ClassId} {q : Nat → Nat} {qw : Nat → Nat} {qt : Nat → Nat} {qi : Nat → Nat} {qj : Nat → Nat} {qb : Nat → Nat} {qx : Nat → Nat} {sz : Nat} {kept0 : Int32} {kept1 : Int32} {fabove : Int64} {fbelow : Int64} {bads : Int32} {noes : Int32} {fulls : Int32} {w_things : Int32} {w_gifts : Int32} {w_days : Int32} {w_size : Nat → Int32} {w_weight : Nat → Int32} {w_sound : Nat → Int32} {w_harm : Nat → Int32} {w_in_ : Nat → Int32} {w_kind : Nat → Int32} {w_owner : Nat → Int32} {w_empty : Nat → Int32} {w_room : Nat → Int32} {w_told : Nat → Int32} {w_gate : Nat → Int32} {w_ear : Nat → Int32} {w_scale : Nat → Int32} {w_lost : Nat → Int32} {w_watch : Nat → Int32} {w_moments : Int32} {w_kept : Nat → Int32} {a_gift : Int32} {a_hour : Int32} {r : Int32} {d_bads : Int32} {d_noes : Int32} {d_fulls : Int32} {d_w_days : Int32} {d_w_in_ : Nat → Int32} {d_w_owner : Nat → Int32} {d_w_lost : Nat → Int32} {d_w_moments : Int32} {d_w_kept : Nat → Int32} (hf : f5_send bads noes fulls w_things w_gifts w_days w_weight w_sound w_harm w_in_ w_kind w_owner w_empty w_room w_gate w_ear w_scale w_lost w_watch w_moments w_kept a_gift a_hour = some (r, d_bads, d_noes, d_fulls, d_w_days, d_w_in_, d_w_owner, d_w_lost, d_w_moments, d_w_kept)) : Met l yX5_send wsX5_send rm5_send (zPm D cI cZ cB [.ref (q 0), .int a_gift, .int a_hour] sz (zcat [(cHG q (qw 0) (qt 0) (qi 0) (qj 0) (qb 0) (qx 0) kept0 kept1 fabove fbelow bads noes fulls), (cWar cI qw w_things w_gifts w_days w_size w_weight w_sound w_harm w_in_ w_kind w_owner w_empty w_room w_told w_gate w_ear w_scale w_lost w_watch w_moments w_kept)])) (zQm D (some (.int r)) (zcat [(cHG q (qw 0) (qt 0) (qi 0) (qj 0) (qb 0) (qx 0) kept0 kept1 fabove fbelow d_bads d_noes d_fulls), (cWar cI qw w_things w_gifts d_w_days w_size w_weight w_sound w_harm d_w_in_ w_kind d_w_owner w_empty w_room w_told w_gate w_ear w_scale d_w_lost w_watch d_w_moments d_w_kept)]) (va_A (zcat [(cHG q (qw 0) (qt 0) (qi 0) (qj 0) (qb 0) (qx 0) kept0 kept1 fabove fbelow bads noes fulls), (cWar cI qw w_things w_gifts w_days w_size w_weight w_sound w_harm w_in_ w_kind w_owner w_empty w_room w_told w_gate w_ear w_scale w_lost w_watch w_moments w_kept)]) sz)) 0 0 (va_A (zcat [(cHG q (qw 0) (qt 0) (qi 0) (qj 0) (qb 0) (qx 0) kept0 kept1 fabove fbelow bads noes fulls), (cWar cI qw w_things w_gifts w_days w_size w_weight w_sound w_harm w_in_ w_kind w_owner w_empty w_room w_told w_gate w_ear w_scale w_lost w_watch w_moments w_kept)]) sz) := by
  unfold f5_send at hf
  refine z_mutI RX5 (by decide +kernel) rfl rfl (Nat.le_of_ble_eq_true rfl) ?_
  intro p e s m args below meth c Q A ls hx hb hml hown hts hK hP hD hS hA hret hl
  have hl : lv_has ls 3 [(0, .ref (q 0)), (1, .int a_gift), (2, .int a_hour)] := hl
  refine lv_aload_n hx hb (zD_g DX5_send 0 rfl) rfl (lv_at hl 0 rfl) ?_
  refine va_get (D := D) (ci := 4) (v := .ref (qw 0)) (C := RX5) (T := TX5) (N := 13) hx hb hts in5_send_5 hown hK.1 hP 0 rfl rfl 0 (by decide) (hts _ (List.mem_of_getElem? (i := 1) rfl)) (fun _ h9 => h9) rfl (zD_g DX5_send 1 rfl) ?_
  refine lv_iload_n hx hb (zD_g DX5_send 2 rfl) rfl (lv_at hl 1 rfl) ?_
  obtain ⟨r1, hc2, hf⟩ := zb1_s hf
  refine z_Vp (As := [.int a_gift]) (rest := []) ⟨hx, hb, hml, hown, hts⟩ hK (c4_hasGift (things := w_things) (gifts := w_gifts) (days := w_days) (size := w_size) (weight := w_weight) (sound := w_sound) (harm := w_harm) (in_ := w_in_) (kind := w_kind) (owner := w_owner) (empty := w_empty) (room := w_room) (told := w_told) (gate := w_gate) (ear := w_ear) (scale := w_scale) (lost := w_lost) (watch := w_watch) (moments := w_moments) (kept := w_kept) (q := qw) hc2) (cwV 1 hts gX5_send_X4_hasGift rfl rfl rfl hd4_hasGift ⟨Nat.le_of_ble_eq_true rfl, Nat.le_of_ble_eq_true rfl⟩) (zsubP hP [1] rfl) rfl rfl rfl rfl hl.1 rfl rfl (Nat.le_of_ble_eq_true rfl) (zD_g DX5_send 3 rfl) ⟨Nat.zero_le _, Nat.zero_le _⟩ ?_
  refine lv_if_eq (tgt := 18) hx hb (zD_g DX5_send 4 rfl) (by decide) (fun c3 => ?_) (fun c3 => ?_)
  · replace hf := z_t c3 hf
    refine lv_aload_n hx hb (zD_g DX5_send 8 rfl) rfl (lv_at hl 0 rfl) ?_
    obtain ⟨r4, bads_5, noes_6, fulls_7, hc8, hf⟩ := zb4_s hf
    refine z_VB (As := []) (rest := []) (cs' := [(cHG q (qw 0) (qt 0) (qi 0) (qj 0) (qb 0) (qx 0) kept0 kept1 fabove fbelow bads_5 noes_6 fulls_7)]) (ws' := (zcat [(cHG q (qw 0) (qt 0) (qi 0) (qj 0) (qb 0) (qx 0) kept0 kept1 fabove fbelow bads_5 noes_6 fulls_7), (cWar cI qw w_things w_gifts w_days w_size w_weight w_sound w_harm w_in_ w_kind w_owner w_empty w_room w_told w_gate w_ear w_scale w_lost w_watch w_moments w_kept)])) ⟨hx, hb, hml, hown, hts⟩ hK (c5_refusedAsTen (kept0 := kept0) (kept1 := kept1) (fabove := fabove) (fbelow := fbelow) (bads := bads) (noes := noes) (fulls := fulls) (q := q) (qw := qw) (qt := qt) (qi := qi) (qj := qj) (qb := qb) (qx := qx) hc8) (cwV 0 hts gX5_send_X5_refusedAsTen rfl rfl rfl hd5_refusedAsTen ⟨Nat.le_of_ble_eq_true rfl, Nat.le_of_ble_eq_true rfl⟩) hP hD hS hA 2 [0] [1] [1, 0] (by decide +kernel) rfl rfl rfl rfl rfl rfl rfl rfl rfl hl.1 rfl rfl (Nat.le_of_ble_eq_true rfl) (zD_g DX5_send 9 rfl) ⟨Nat.zero_le _, Nat.zero_le _⟩ (fun H locs hP hD hS => ?_)
    cases hf
    exact hret _ _ _ _ hP hD hS (zD_g DX5_send 10 rfl)
  · replace hf := z_f c3 hf
    refine lv_iload_n hx hb (zD_g DX5_send 5 rfl) rfl (lv_at hl 2 rfl) ?_
    obtain ⟨r9, hc10, hf⟩ := zb1_s hf
    refine z_Sp (As := [.int a_hour]) (rest := []) ⟨hx, hb, hml, hown, hts⟩ hK (c5_isHour  hc10) (va_cwS 1 hts gX5_send_X5_isHour rfl rfl rfl hd5_isHour ⟨Nat.le_of_ble_eq_true rfl, Nat.le_of_ble_eq_true rfl⟩) (hP.sub [] rfl) rfl hl.1 rfl rfl (Nat.le_of_ble_eq_true rfl) (zD_g DX5_send 6 rfl) ⟨Nat.zero_le _, Nat.zero_le _⟩ ?_
    refine lv_if_ne (tgt := 23) hx hb (zD_g DX5_send 7 rfl) (by decide) (fun c11 => ?_) (fun c11 => ?_)
    · replace hf := z_f c11 hf
      refine lv_aload_n hx hb (zD_g DX5_send 11 rfl) rfl (lv_at hl 0 rfl) ?_
      refine va_get (D := D) (ci := 4) (v := .ref (qw 0)) (C := RX5) (T := TX5) (N := 13) hx hb hts in5_send_5 hown hK.1 hP 0 rfl rfl 0 (by decide) (hts _ (List.mem_of_getElem? (i := 1) rfl)) (fun _ h9 => h9) rfl (zD_g DX5_send 12 rfl) ?_
      obtain ⟨w_moments_12, w_kept_13, hc14, hf⟩ := zb2_s hf
      refine z_VB (As := []) (rest := []) (cs' := [(cWar cI qw w_things w_gifts w_days w_size w_weight w_sound w_harm w_in_ w_kind w_owner w_empty w_room w_told w_gate w_ear w_scale w_lost w_watch w_moments_12 w_kept_13)]) (ws' := (zcat [(cHG q (qw 0) (qt 0) (qi 0) (qj 0) (qb 0) (qx 0) kept0 kept1 fabove fbelow bads noes fulls), (cWar cI qw w_things w_gifts w_days w_size w_weight w_sound w_harm w_in_ w_kind w_owner w_empty w_room w_told w_gate w_ear w_scale w_lost w_watch w_moments_12 w_kept_13)])) ⟨hx, hb, hml, hown, hts⟩ hK (c4_remember (things := w_things) (gifts := w_gifts) (days := w_days) (size := w_size) (weight := w_weight) (sound := w_sound) (harm := w_harm) (in_ := w_in_) (kind := w_kind) (owner := w_owner) (empty := w_empty) (room := w_room) (told := w_told) (gate := w_gate) (ear := w_ear) (scale := w_scale) (lost := w_lost) (watch := w_watch) (moments := w_moments) (kept := w_kept) (q := qw) hc14) (cwV 0 hts gX5_send_X4_remember rfl rfl rfl hd4_remember ⟨Nat.le_of_ble_eq_true rfl, Nat.le_of_ble_eq_true rfl⟩) hP hD hS hA 2 [1] [0] [0, 1] (by decide +kernel) rfl rfl rfl rfl rfl rfl rfl rfl rfl hl.1 rfl rfl (Nat.le_of_ble_eq_true rfl) (zD_g DX5_send 13 rfl) ⟨Nat.zero_le _, Nat.zero_le _⟩ (fun H locs hP hD hS => ?_)
      refine lv_aload_n hx hb (zD_g DX5_send 14 rfl) rfl (lv_at hl 0 rfl) ?_
      refine va_get (D := D) (ci := 4) (v := .ref (qw 0)) (C := RX5) (T := TX5) (N := 13) hx hb hts in5_send_5 hown hK.1 hP 0 rfl rfl 0 (by decide) (hts _ (List.mem_of_getElem? (i := 1) rfl)) (fun _ h9 => h9) rfl (zD_g DX5_send 15 rfl) ?_
      refine lv_iload_n hx hb (zD_g DX5_send 16 rfl) rfl (lv_at hl 1 rfl) ?_
      refine lv_iload_n hx hb (zD_g DX5_send 17 rfl) rfl (lv_at hl 2 rfl) ?_
      obtain ⟨r15, w_days_16, w_in_17, w_owner_18, w_lost_19, hc20, hf⟩ := zb5_s hf
      refine z_VB (As := [.int a_gift, .int a_hour]) (rest := []) (cs' := [(cWar cI qw w_things w_gifts w_days_16 w_size w_weight w_sound w_harm w_in_17 w_kind w_owner_18 w_empty w_room w_told w_gate w_ear w_scale w_lost_19 w_watch w_moments_12 w_kept_13)]) (ws' := (zcat [(cHG q (qw 0) (qt 0) (qi 0) (qj 0) (qb 0) (qx 0) kept0 kept1 fabove fbelow bads noes fulls), (cWar cI qw w_things w_gifts w_days_16 w_size w_weight w_sound w_harm w_in_17 w_kind w_owner_18 w_empty w_room w_told w_gate w_ear w_scale w_lost_19 w_watch w_moments_12 w_kept_13)])) ⟨hx, hb, hml, hown, hts⟩ hK (c4_deliver (things := w_things) (gifts := w_gifts) (days := w_days) (size := w_size) (weight := w_weight) (sound := w_sound) (harm := w_harm) (in_ := w_in_) (kind := w_kind) (owner := w_owner) (empty := w_empty) (room := w_room) (told := w_told) (gate := w_gate) (ear := w_ear) (scale := w_scale) (lost := w_lost) (watch := w_watch) (moments := w_moments_12) (kept := w_kept_13) (q := qw) hc20) (cwV 2 hts gX5_send_X4_deliver rfl rfl rfl hd4_deliver ⟨Nat.le_of_ble_eq_true rfl, Nat.le_of_ble_eq_true rfl⟩) hP hD hS hA 2 [1] [0] [0, 1] (by decide +kernel) rfl rfl rfl rfl rfl rfl rfl rfl rfl hl.1 rfl rfl (Nat.le_of_ble_eq_true rfl) (zD_g DX5_send 18 rfl) ⟨Nat.zero_le _, Nat.zero_le _⟩ (fun H locs hP hD hS => ?_)
      cases hf
      exact hret _ _ _ _ hP hD hS (zD_g DX5_send 19 rfl)
    · replace hf := z_t c11 hf
      refine lv_aload_n hx hb (zD_g DX5_send 8 rfl) rfl (lv_at hl 0 rfl) ?_
      obtain ⟨r21, bads_22, noes_23, fulls_24, hc25, hf⟩ := zb4_s hf
      refine z_VB (As := []) (rest := []) (cs' := [(cHG q (qw 0) (qt 0) (qi 0) (qj 0) (qb 0) (qx 0) kept0 kept1 fabove fbelow bads_22 noes_23 fulls_24)]) (ws' := (zcat [(cHG q (qw 0) (qt 0) (qi 0) (qj 0) (qb 0) (qx 0) kept0 kept1 fabove fbelow bads_22 noes_23 fulls_24), (cWar cI qw w_things w_gifts w_days w_size w_weight w_sound w_harm w_in_ w_kind w_owner w_empty w_room w_told w_gate w_ear w_scale w_lost w_watch w_moments w_kept)])) ⟨hx, hb, hml, hown, hts⟩ hK (c5_refusedAsTen (kept0 := kept0) (kept1 := kept1) (fabove := fabove) (fbelow := fbelow) (bads := bads) (noes := noes) (fulls := fulls) (q := q) (qw := qw) (qt := qt) (qi := qi) (qj := qj) (qb := qb) (qx := qx) hc25) (cwV 0 hts gX5_send_X5_refusedAsTen rfl rfl rfl hd5_refusedAsTen ⟨Nat.le_of_ble_eq_true rfl, Nat.le_of_ble_eq_true rfl⟩) hP hD hS hA 2 [0] [1] [1, 0] (by decide +kernel) rfl rfl rfl rfl rfl rfl rfl rfl rfl hl.1 rfl rfl (Nat.le_of_ble_eq_true rfl) (zD_g DX5_send 9 rfl) ⟨Nat.zero_le _, Nat.zero_le _⟩ (fun H locs hP hD hS => ?_)
      cases hf
      exact hret _ _ _ _ hP hD hS (zD_g DX5_send 10 rfl)
abbrev dlX5_undo : List (Nat × Instr × Nat) := [(0, .aload_n 0, 1), (1, .aload_n 0, 1), (2, .getfield 10, 3), (5, .invokevirtual 130, 3), (8, .invokevirtual 67, 3), (11, .ireturn, 1)]
theorem DX5_undo : zD cX5_undo dlX5_undo = true := by decide +kernel
set_option maxRecDepth 20000 in
theorem ggX5_undo_X4_goBack : GoodIn wsX5_undo wsX4_goBack := goodIn_r _ [6, 7, 8, 9, 10, 11, 12, 13, 14, 15, 16, 17, 18, 19, 20, 21, 22, 23, 45, 46, 47, 48, 49, 50, 51, 52, 53, 54, 55, 56, 57, 58, 59, 60, 61, 62, 63, 64, 65] (by decide +kernel) (by decide +kernel)
set_option maxRecDepth 20000 in
theorem gX5_undo_X4_goBack : GoodIn wsX5_undo (wsV RX5 130 RX4 yX4_goBack wsX4_goBack) := goodIn_app (goodIn_of _ (by decide +kernel)) ggX5_undo_X4_goBack
set_option maxRecDepth 20000 in
theorem ggX5_undo_X5_counted : GoodIn wsX5_undo wsX5_counted := goodIn_r _ [28, 29, 30, 31, 32, 33, 34, 35, 36, 37, 38, 39, 40, 41, 42, 43, 44] (by decide +kernel) (by decide +kernel)
set_option maxRecDepth 20000 in
theorem gX5_undo_X5_counted : GoodIn wsX5_undo (wsV RX5 67 RX5 yX5_counted wsX5_counted) := goodIn_app (goodIn_of _ (by decide +kernel)) ggX5_undo_X5_counted
theorem hd5_undo : yX5_undo.cls = RX5 ∧ yX5_undo.cls ≠ "java/lang/invoke/MethodHandle" ∧ yX5_undo.cls ≠ "java/lang/invoke/VarHandle" ∧ (parseMethodDescriptor yX5_undo.desc).map (fun d => d.parameters.length) = some 0 := by decide +kernel
abbrev rm5_undo : Room := { frames := 3, cells := 0, slots := 0, locals := 104 }
theorem in5_undo_5 : ∀ w ∈ wsX50, w ∈ wsX5_undo := fun w h => List.mem_cons_of_mem _ (List.mem_append_left _ (List.mem_append_left _ (List.mem_append_right _ h)))
set_option maxHeartbeats 4000000 in
set_option maxRecDepth 100000 in
theorem c5_undo {l : Launch} {D : va_G} {cI cZ cB : ClassId} {q : Nat → Nat} {qw : Nat → Nat} {qt : Nat → Nat} {qi : Nat → Nat} {qj : Nat → Nat} {qb : Nat → Nat} {qx : Nat → Nat} {sz : Nat} {kept0 : Int32} {kept1 : Int32} {fabove : Int64} {fbelow : Int64} {bads : Int32} {noes : Int32} {fulls : Int32} {w_things : Int32} {w_gifts : Int32} {w_days : Int32} {w_size : Nat → Int32} {w_weight : Nat → Int32} {w_sound : Nat → Int32} {w_harm : Nat → Int32} {w_in_ : Nat → Int32} {w_kind : Nat → Int32} {w_owner : Nat → Int32} {w_empty : Nat → Int32} {w_room : Nat → Int32} {w_told : Nat → Int32} {w_gate : Nat → Int32} {w_ear : Nat → Int32} {w_scale : Nat → Int32} {w_lost : Nat → Int32} {w_watch : Nat → Int32} {w_moments : Int32} {w_kept : Nat → Int32}  {r : Int32} {d_bads : Int32} {d_noes : Int32} {d_fulls : Int32} {d_w_days : Int32} {d_w_in_ : Nat → Int32} {d_w_owner : Nat → Int32} {d_w_lost : Nat → Int32} {d_w_moments : Int32} (hf : f5_undo bads noes fulls w_days w_in_ w_owner w_lost w_moments w_kept = some (r, d_bads, d_noes, d_fulls, d_w_days, d_w_in_, d_w_owner, d_w_lost, d_w_moments)) : Met l yX5_undo wsX5_undo rm5_undo (zPm D cI cZ cB [.ref (q 0)] sz (zcat [(cHG q (qw 0) (qt 0) (qi 0) (qj 0) (qb 0) (qx 0) kept0 kept1 fabove fbelow bads noes fulls), (cWar cI qw w_things w_gifts w_days w_size w_weight w_sound w_harm w_in_ w_kind w_owner w_empty w_room w_told w_gate w_ear w_scale w_lost w_watch w_moments w_kept)])) (zQm D (some (.int r)) (zcat [(cHG q (qw 0) (qt 0) (qi 0) (qj 0) (qb 0) (qx 0) kept0 kept1 fabove fbelow d_bads d_noes d_fulls), (cWar cI qw w_things w_gifts d_w_days w_size w_weight w_sound w_harm d_w_in_ w_kind d_w_owner w_empty w_room w_told w_gate w_ear w_scale d_w_lost w_watch d_w_moments w_kept)]) (va_A (zcat [(cHG q (qw 0) (qt 0) (qi 0) (qj 0) (qb 0) (qx 0) kept0 kept1 fabove fbelow bads noes fulls), (cWar cI qw w_things w_gifts w_days w_size w_weight w_sound w_harm w_in_ w_kind w_owner w_empty w_room w_told w_gate w_ear w_scale w_lost w_watch w_moments w_kept)]) sz)) 0 0 (va_A (zcat [(cHG q (qw 0) (qt 0) (qi 0) (qj 0) (qb 0) (qx 0) kept0 kept1 fabove fbelow bads noes fulls), (cWar cI qw w_things w_gifts w_days w_size w_weight w_sound w_harm w_in_ w_kind w_owner w_empty w_room w_told w_gate w_ear w_scale w_lost w_watch w_moments w_kept)]) sz) := by
  unfold f5_undo at hf
  refine z_mutI RX5 (by decide +kernel) rfl rfl (Nat.le_of_ble_eq_true rfl) ?_
  intro p e s m args below meth c Q A ls hx hb hml hown hts hK hP hD hS hA hret hl
  have hl : lv_has ls 1 [(0, .ref (q 0))] := hl
  refine lv_aload_n hx hb (zD_g DX5_undo 0 rfl) rfl (lv_at hl 0 rfl) ?_
  refine lv_aload_n hx hb (zD_g DX5_undo 1 rfl) rfl (lv_at hl 0 rfl) ?_
  refine va_get (D := D) (ci := 4) (v := .ref (qw 0)) (C := RX5) (T := TX5) (N := 13) hx hb hts in5_undo_5 hown hK.1 hP 0 rfl rfl 0 (by decide) (hts _ (List.mem_of_getElem? (i := 1) rfl)) (fun _ h9 => h9) rfl (zD_g DX5_undo 2 rfl) ?_
  obtain ⟨r1, w_days_2, w_in_3, w_owner_4, w_lost_5, w_moments_6, hc7, hf⟩ := zb6_s hf
  refine z_VB (As := []) (rest := [.ref (q 0)]) (cs' := [(cWar cI qw w_things w_gifts w_days_2 w_size w_weight w_sound w_harm w_in_3 w_kind w_owner_4 w_empty w_room w_told w_gate w_ear w_scale w_lost_5 w_watch w_moments_6 w_kept)]) (ws' := (zcat [(cHG q (qw 0) (qt 0) (qi 0) (qj 0) (qb 0) (qx 0) kept0 kept1 fabove fbelow bads noes fulls), (cWar cI qw w_things w_gifts w_days_2 w_size w_weight w_sound w_harm w_in_3 w_kind w_owner_4 w_empty w_room w_told w_gate w_ear w_scale w_lost_5 w_watch w_moments_6 w_kept)])) ⟨hx, hb, hml, hown, hts⟩ hK (c4_goBack (things := w_things) (gifts := w_gifts) (days := w_days) (size := w_size) (weight := w_weight) (sound := w_sound) (harm := w_harm) (in_ := w_in_) (kind := w_kind) (owner := w_owner) (empty := w_empty) (room := w_room) (told := w_told) (gate := w_gate) (ear := w_ear) (scale := w_scale) (lost := w_lost) (watch := w_watch) (moments := w_moments) (kept := w_kept) (q := qw) hc7) (cwV 0 hts gX5_undo_X4_goBack rfl rfl rfl hd4_goBack ⟨Nat.le_of_ble_eq_true rfl, Nat.le_of_ble_eq_true rfl⟩) hP hD hS hA 2 [1] [0] [0, 1] (by decide +kernel) rfl rfl rfl rfl rfl rfl rfl rfl rfl hl.1 rfl rfl (Nat.le_of_ble_eq_true rfl) (zD_g DX5_undo 3 rfl) ⟨Nat.zero_le _, Nat.zero_le _⟩ (fun H locs hP hD hS => ?_)
  obtain ⟨r8, bads_9, noes_10, fulls_11, hc12, hf⟩ := zb4_s hf
  refine z_VB (As := [.int r1]) (rest := []) (cs' := [(cHG q (qw 0) (qt 0) (qi 0) (qj 0) (qb 0) (qx 0) kept0 kept1 fabove fbelow bads_9 noes_10 fulls_11)]) (ws' := (zcat [(cHG q (qw 0) (qt 0) (qi 0) (qj 0) (qb 0) (qx 0) kept0 kept1 fabove fbelow bads_9 noes_10 fulls_11), (cWar cI qw w_things w_gifts w_days_2 w_size w_weight w_sound w_harm w_in_3 w_kind w_owner_4 w_empty w_room w_told w_gate w_ear w_scale w_lost_5 w_watch w_moments_6 w_kept)])) ⟨hx, hb, hml, hown, hts⟩ hK (c5_counted (kept0 := kept0) (kept1 := kept1) (fabove := fabove) (fbelow := fbelow) (bads := bads) (noes := noes) (fulls := fulls) (q := q) (qw := qw) (qt := qt) (qi := qi) (qj := qj) (qb := qb) (qx := qx) hc12) (cwV 1 hts gX5_undo_X5_counted rfl rfl rfl hd5_counted ⟨Nat.le_of_ble_eq_true rfl, Nat.le_of_ble_eq_true rfl⟩) hP hD hS hA 2 [0] [1] [1, 0] (by decide +kernel) rfl rfl rfl rfl rfl rfl rfl rfl rfl hl.1 rfl rfl (Nat.le_of_ble_eq_true rfl) (zD_g DX5_undo 4 rfl) ⟨Nat.zero_le _, Nat.zero_le _⟩ (fun H locs hP hD hS => ?_)
  cases hf
  exact hret _ _ _ _ hP hD hS (zD_g DX5_undo 5 rfl)
abbrev dlX5_of : List (Nat × Instr × Nat) := [(0, .aload_n 0, 1), (1, .getfield 10, 3), (4, .iload_n 1, 1), (5, .invokevirtual 114, 3), (8, .ifCond .ne 10, 3), (11, .aload_n 0, 1), (12, .bipush (-2), 2), (14, .invokevirtual 67, 3), (17, .ireturn, 1), (18, .aload_n 0, 1), (19, .getfield 10, 3), (22, .iload_n 1, 1), (23, .invokevirtual 133, 3), (26, .istore_n 3, 1), (27, .iload_n 2, 1), (28, .tableswitch 114 0 6 #[44, 54, 64, 74, 84, 94, 96], 44), (72, .aload_n 0, 1), (73, .getfield 10, 3), (76, .getfield 136, 3), (79, .iload_n 1, 1), (80, .iaload, 1), (81, .ireturn, 1), (82, .aload_n 0, 1), (83, .getfield 10, 3), (86, .getfield 140, 3), (89, .iload_n 1, 1), (90, .iaload, 1), (91, .ireturn, 1), (92, .aload_n 0, 1), (93, .getfield 10, 3), (96, .iload_n 1, 1), (97, .iload_n 3, 1), (98, .invokevirtual 143, 3), (101, .ireturn, 1), (102, .aload_n 0, 1), (103, .getfield 10, 3), (106, .iload_n 1, 1), (107, .iload_n 3, 1), (108, .invokevirtual 146, 3), (111, .ireturn, 1), (112, .aload_n 0, 1), (113, .getfield 10, 3), (116, .iload_n 1, 1), (117, .iload_n 3, 1), (118, .invokevirtual 149, 3), (121, .ireturn, 1), (122, .iload_n 3, 1), (123, .ireturn, 1), (124, .aload_n 0, 1), (125, .getfield 10, 3), (128, .iload_n 1, 1), (129, .iload_n 3, 1), (130, .invokevirtual 152, 3), (133, .ifCond .eq 7, 3), (136, .iconst 1, 1), (137, .goto 4, 3), (140, .iconst 0, 1), (141, .ireturn, 1), (142, .aload_n 0, 1), (143, .bipush (-2), 2), (145, .invokevirtual 67, 3), (148, .ireturn, 1)]
theorem DX5_of : zD cX5_of dlX5_of = true := by decide +kernel
set_option maxRecDepth 20000 in
theorem ggX5_of_X4_hasGift : GoodIn wsX5_of wsX4_hasGift := goodIn_r _ [8, 9, 10, 11, 12, 90, 91, 92, 93, 94, 95, 96, 97, 98, 99, 100, 101, 102, 103, 104, 105, 106, 107, 108] (by decide +kernel) (by decide +kernel)
set_option maxRecDepth 20000 in
theorem gX5_of_X4_hasGift : GoodIn wsX5_of (wsV RX5 114 RX4 yX4_hasGift wsX4_hasGift) := goodIn_app (goodIn_of _ (by decide +kernel)) ggX5_of_X4_hasGift
set_option maxRecDepth 20000 in
theorem ggX5_of_X5_counted : GoodIn wsX5_of wsX5_counted := goodIn_r _ [16, 17, 18, 19, 77, 78, 79, 80, 81, 82, 83, 84, 85, 86, 87, 88, 89] (by decide +kernel) (by decide +kernel)
set_option maxRecDepth 20000 in
theorem gX5_of_X5_counted : GoodIn wsX5_of (wsV RX5 67 RX5 yX5_counted wsX5_counted) := goodIn_app (goodIn_of _ (by decide +kernel)) ggX5_of_X5_counted
set_option maxRecDepth 20000 in
theorem ggX5_of_X4_inside : GoodIn wsX5_of wsX4_inside := goodIn_r _ [23, 24, 25, 90, 91, 92, 93, 94, 95, 96, 97, 98, 99, 100, 101, 102, 103, 104, 105, 106, 107, 108] (by decide +kernel) (by decide +kernel)
set_option maxRecDepth 20000 in
theorem gX5_of_X4_inside : GoodIn wsX5_of (wsV RX5 133 RX4 yX4_inside wsX4_inside) := goodIn_app (goodIn_of _ (by decide +kernel)) ggX5_of_X4_inside
set_option maxRecDepth 20000 in
theorem ggX5_of_X4_weighs : GoodIn wsX5_of wsX4_weighs := goodIn_r _ [29, 30, 31, 32, 33, 34, 35, 36, 37, 38, 11, 39, 90, 91, 92, 93, 94, 95, 96, 97, 98, 99, 100, 101, 102, 103, 104, 105, 106, 107, 108] (by decide +kernel) (by decide +kernel)
set_option maxRecDepth 20000 in
theorem gX5_of_X4_weighs : GoodIn wsX5_of (wsV RX5 143 RX4 yX4_weighs wsX4_weighs) := goodIn_app (goodIn_of _ (by decide +kernel)) ggX5_of_X4_weighs
set_option maxRecDepth 20000 in
theorem ggX5_of_X4_sounds : GoodIn wsX5_of wsX4_sounds := goodIn_r _ [43, 44, 30, 38, 11, 39, 90, 91, 92, 93, 94, 95, 96, 97, 98, 99, 100, 101, 102, 103, 104, 105, 106, 107, 108] (by decide +kernel) (by decide +kernel)
set_option maxRecDepth 20000 in
theorem gX5_of_X4_sounds : GoodIn wsX5_of (wsV RX5 146 RX4 yX4_sounds wsX4_sounds) := goodIn_app (goodIn_of _ (by decide +kernel)) ggX5_of_X4_sounds
set_option maxRecDepth 20000 in
theorem ggX5_of_X4_harms : GoodIn wsX5_of wsX4_harms := goodIn_r _ [48, 49, 30, 33, 38, 11, 39, 90, 91, 92, 93, 94, 95, 96, 97, 98, 99, 100, 101, 102, 103, 104, 105, 106, 107, 108] (by decide +kernel) (by decide +kernel)
set_option maxRecDepth 20000 in
theorem gX5_of_X4_harms : GoodIn wsX5_of (wsV RX5 149 RX4 yX4_harms wsX4_harms) := goodIn_app (goodIn_of _ (by decide +kernel)) ggX5_of_X4_harms
set_option maxRecDepth 20000 in
theorem ggX5_of_X4_passes : GoodIn wsX5_of wsX4_passes := goodIn_r _ [53, 54, 55, 56, 7, 57, 58, 59, 60, 61, 62, 63, 64, 65, 66, 67, 68, 69, 70, 41, 42, 43, 44, 30, 38, 11, 39, 71, 72, 73, 74, 75, 76, 27, 28, 29, 31, 32, 33, 34, 35, 36, 37, 90, 91, 92, 93, 94, 95, 96, 97, 98, 99, 100, 101, 102, 103, 104, 105, 106, 107, 108] (by decide +kernel) (by decide +kernel)
set_option maxRecDepth 20000 in
theorem gX5_of_X4_passes : GoodIn wsX5_of (wsV RX5 152 RX4 yX4_passes wsX4_passes) := goodIn_app (goodIn_of _ (by decide +kernel)) ggX5_of_X4_passes
theorem hd5_of : yX5_of.cls = RX5 ∧ yX5_of.cls ≠ "java/lang/invoke/MethodHandle" ∧ yX5_of.cls ≠ "java/lang/invoke/VarHandle" ∧ (parseMethodDescriptor yX5_of.desc).map (fun d => d.parameters.length) = some 2 := by decide +kernel
abbrev rm5_of : Room := { frames := 4, cells := 0, slots := 0, locals := 90 }
theorem in5_of_4 : ∀ w ∈ wsX40, w ∈ wsX5_of := fun w h => List.mem_cons_of_mem _ (List.mem_append_right _ h)
theorem in5_of_5 : ∀ w ∈ wsX50, w ∈ wsX5_of := fun w h => List.mem_cons_of_mem _ (List.mem_append_left _ (List.mem_append_right _ h))
set_option maxHeartbeats 4000000 in
set_option maxRecDepth 100000 in
theorem c5_of {l : Launch} {D : va_G} {cI cZ cB : ClassId} {q : Nat → Nat} {qw : Nat → Nat} {qt : Nat → Nat} {qi : Nat → Nat} {qj : Nat → Nat} {qb : Nat → Nat} {qx : Nat → Nat} {sz : Nat} {kept0 : Int32} {kept1 : Int32} {fabove : Int64} {fbelow : Int64} {bads : Int32} {noes : Int32} {fulls : Int32} {w_things : Int32} {w_gifts : Int32} {w_days : Int32} {w_size : Nat → Int32} {w_weight : Nat → Int32} {w_sound : Nat → Int32} {w_harm : Nat → Int32} {w_in_ : Nat → Int32} {w_kind : Nat → Int32} {w_owner : Nat → Int32} {w_empty : Nat → Int32} {w_room : Nat → Int32} {w_told : Nat → Int32} {w_gate : Nat → Int32} {w_ear : Nat → Int32} {w_scale : Nat → Int32} {w_lost : Nat → Int32} {w_watch : Nat → Int32} {w_moments : Int32} {w_kept : Nat → Int32} {a_gift : Int32} {a_what : Int32} {r : Int32} {d_bads : Int32} {d_noes : Int32} {d_fulls : Int32} (hf : f5_of bads noes fulls w_things w_gifts w_days w_weight w_sound w_harm w_in_ w_kind w_owner w_empty w_room w_gate w_ear w_scale a_gift a_what = some (r, d_bads, d_noes, d_fulls)) : Met l yX5_of wsX5_of rm5_of (zPm D cI cZ cB [.ref (q 0), .int a_gift, .int a_what] sz (zcat [(cHG q (qw 0) (qt 0) (qi 0) (qj 0) (qb 0) (qx 0) kept0 kept1 fabove fbelow bads noes fulls), (cWar cI qw w_things w_gifts w_days w_size w_weight w_sound w_harm w_in_ w_kind w_owner w_empty w_room w_told w_gate w_ear w_scale w_lost w_watch w_moments w_kept)])) (zQm D (some (.int r)) (zcat [(cHG q (qw 0) (qt 0) (qi 0) (qj 0) (qb 0) (qx 0) kept0 kept1 fabove fbelow d_bads d_noes d_fulls), (cWar cI qw w_things w_gifts w_days w_size w_weight w_sound w_harm w_in_ w_kind w_owner w_empty w_room w_told w_gate w_ear w_scale w_lost w_watch w_moments w_kept)]) (va_A (zcat [(cHG q (qw 0) (qt 0) (qi 0) (qj 0) (qb 0) (qx 0) kept0 kept1 fabove fbelow bads noes fulls), (cWar cI qw w_things w_gifts w_days w_size w_weight w_sound w_harm w_in_ w_kind w_owner w_empty w_room w_told w_gate w_ear w_scale w_lost w_watch w_moments w_kept)]) sz)) 0 0 (va_A (zcat [(cHG q (qw 0) (qt 0) (qi 0) (qj 0) (qb 0) (qx 0) kept0 kept1 fabove fbelow bads noes fulls), (cWar cI qw w_things w_gifts w_days w_size w_weight w_sound w_harm w_in_ w_kind w_owner w_empty w_room w_told w_gate w_ear w_scale w_lost w_watch w_moments w_kept)]) sz) := by
  unfold f5_of at hf
  refine z_mutI RX5 (by decide +kernel) rfl rfl (Nat.le_of_ble_eq_true rfl) ?_
  intro p e s m args below meth c Q A ls hx hb hml hown hts hK hP hD hS hA hret hl
  have hl : lv_has ls 4 [(0, .ref (q 0)), (1, .int a_gift), (2, .int a_what)] := hl
  refine lv_aload_n hx hb (zD_g DX5_of 0 rfl) rfl (lv_at hl 0 rfl) ?_
  refine va_get (D := D) (ci := 4) (v := .ref (qw 0)) (C := RX5) (T := TX5) (N := 13) hx hb hts in5_of_5 hown hK.1 hP 0 rfl rfl 0 (by decide) (hts _ (List.mem_of_getElem? (i := 1) rfl)) (fun _ h9 => h9) rfl (zD_g DX5_of 1 rfl) ?_
  refine lv_iload_n hx hb (zD_g DX5_of 2 rfl) rfl (lv_at hl 1 rfl) ?_
  obtain ⟨r1, hc2, hf⟩ := zb1_s hf
  refine z_Vp (As := [.int a_gift]) (rest := []) ⟨hx, hb, hml, hown, hts⟩ hK (c4_hasGift (things := w_things) (gifts := w_gifts) (days := w_days) (size := w_size) (weight := w_weight) (sound := w_sound) (harm := w_harm) (in_ := w_in_) (kind := w_kind) (owner := w_owner) (empty := w_empty) (room := w_room) (told := w_told) (gate := w_gate) (ear := w_ear) (scale := w_scale) (lost := w_lost) (watch := w_watch) (moments := w_moments) (kept := w_kept) (q := qw) hc2) (cwV 1 hts gX5_of_X4_hasGift rfl rfl rfl hd4_hasGift ⟨Nat.le_of_ble_eq_true rfl, Nat.le_of_ble_eq_true rfl⟩) (zsubP hP [1] rfl) rfl rfl rfl rfl hl.1 rfl rfl (Nat.le_of_ble_eq_true rfl) (zD_g DX5_of 3 rfl) ⟨Nat.zero_le _, Nat.zero_le _⟩ ?_
  refine lv_if_ne (tgt := 18) hx hb (zD_g DX5_of 4 rfl) (by decide) (fun c3 => ?_) (fun c3 => ?_)
  · replace hf := z_f c3 hf
    refine lv_aload_n hx hb (zD_g DX5_of 9 rfl) rfl (lv_at hl 0 rfl) ?_
    refine va_get (D := D) (ci := 4) (v := .ref (qw 0)) (C := RX5) (T := TX5) (N := 13) hx hb hts in5_of_5 hown hK.1 hP 0 rfl rfl 0 (by decide) (hts _ (List.mem_of_getElem? (i := 1) rfl)) (fun _ h9 => h9) rfl (zD_g DX5_of 10 rfl) ?_
    refine lv_iload_n hx hb (zD_g DX5_of 11 rfl) rfl (lv_at hl 1 rfl) ?_
    obtain ⟨r4, hc5, hf⟩ := zb1_s hf
    refine z_Vp (As := [.int a_gift]) (rest := []) ⟨hx, hb, hml, hown, hts⟩ hK (c4_inside (things := w_things) (gifts := w_gifts) (days := w_days) (size := w_size) (weight := w_weight) (sound := w_sound) (harm := w_harm) (in_ := w_in_) (kind := w_kind) (owner := w_owner) (empty := w_empty) (room := w_room) (told := w_told) (gate := w_gate) (ear := w_ear) (scale := w_scale) (lost := w_lost) (watch := w_watch) (moments := w_moments) (kept := w_kept) (q := qw) hc5) (cwV 1 hts gX5_of_X4_inside rfl rfl rfl hd4_inside ⟨Nat.le_of_ble_eq_true rfl, Nat.le_of_ble_eq_true rfl⟩) (zsubP hP [1] rfl) rfl rfl rfl rfl hl.1 rfl rfl (Nat.le_of_ble_eq_true rfl) (zD_g DX5_of 12 rfl) ⟨Nat.zero_le _, Nat.zero_le _⟩ ?_
    refine lv_istore_n (lv' := [(3, .int r4), (0, .ref (q 0)), (1, .int a_gift), (2, .int a_what)]) hx hb (zD_g DX5_of 13 rfl) rfl hl (by decide) rfl (fun ls hl => ?_)
    refine lv_iload_n hx hb (zD_g DX5_of 14 rfl) rfl (lv_at hl 3 rfl) ?_
    by_cases c6 : a_what = 0
    · replace hf := z_t c6 hf
      refine lv_tableIn (off := 44) (tgt := 72) hx hb (zD_g DX5_of 15 rfl) (by rw [c6]; decide) (by rw [c6]; decide) (by rw [c6]; decide) (by decide) ?_
      refine lv_aload_n hx hb (zD_g DX5_of 16 rfl) rfl (lv_at hl 1 rfl) ?_
      refine va_get (D := D) (ci := 4) (v := .ref (qw 0)) (C := RX5) (T := TX5) (N := 13) hx hb hts in5_of_5 hown hK.1 hP 0 rfl rfl 0 (by decide) (hts _ (List.mem_of_getElem? (i := 1) rfl)) (fun _ h9 => h9) rfl (zD_g DX5_of 17 rfl) ?_
      refine va_get (D := D) (ci := 3) (v := .ref (qw 6)) (C := RX4) (T := TX4) (N := 19) hx hb hts in5_of_4 hown hK.1 hP 1 rfl rfl 8 (by decide) (hts _ (List.mem_of_getElem? (i := 2) rfl)) (fun _ h9 => h9) rfl (zD_g DX5_of 18 rfl) ?_
      refine lv_iload_n hx hb (zD_g DX5_of 19 rfl) rfl (lv_at hl 2 rfl) ?_
      obtain ⟨h7, hf⟩ := zg_s hf
      refine z_iald (k := a_gift.toNatClampNeg) hx hb hK.1 hP 7 0 rfl rfl h7 rfl (zD_g DX5_of 20 rfl) ?_
      refine lv_topi (fun x8 ex8 => ?_)
      replace hf := zl_s hf x8 ex8
      cases hf
      exact hret _ _ _ _ hP hD hS (zD_g DX5_of 21 rfl)
    · replace hf := z_f c6 hf
      by_cases c9 : a_what = 1
      · replace hf := z_t c9 hf
        refine lv_tableIn (off := 54) (tgt := 82) hx hb (zD_g DX5_of 15 rfl) (by rw [c9]; decide) (by rw [c9]; decide) (by rw [c9]; decide) (by decide) ?_
        refine lv_aload_n hx hb (zD_g DX5_of 22 rfl) rfl (lv_at hl 1 rfl) ?_
        refine va_get (D := D) (ci := 4) (v := .ref (qw 0)) (C := RX5) (T := TX5) (N := 13) hx hb hts in5_of_5 hown hK.1 hP 0 rfl rfl 0 (by decide) (hts _ (List.mem_of_getElem? (i := 1) rfl)) (fun _ h9 => h9) rfl (zD_g DX5_of 23 rfl) ?_
        refine va_get (D := D) (ci := 3) (v := .ref (qw 7)) (C := RX4) (T := TX4) (N := 19) hx hb hts in5_of_4 hown hK.1 hP 1 rfl rfl 9 (by decide) (hts _ (List.mem_of_getElem? (i := 3) rfl)) (fun _ h9 => h9) rfl (zD_g DX5_of 24 rfl) ?_
        refine lv_iload_n hx hb (zD_g DX5_of 25 rfl) rfl (lv_at hl 2 rfl) ?_
        obtain ⟨h10, hf⟩ := zg_s hf
        refine z_iald (k := a_gift.toNatClampNeg) hx hb hK.1 hP 8 0 rfl rfl h10 rfl (zD_g DX5_of 26 rfl) ?_
        refine lv_topi (fun x11 ex11 => ?_)
        replace hf := zl_s hf x11 ex11
        cases hf
        exact hret _ _ _ _ hP hD hS (zD_g DX5_of 27 rfl)
      · replace hf := z_f c9 hf
        by_cases c12 : a_what = 2
        · replace hf := z_t c12 hf
          refine lv_tableIn (off := 64) (tgt := 92) hx hb (zD_g DX5_of 15 rfl) (by rw [c12]; decide) (by rw [c12]; decide) (by rw [c12]; decide) (by decide) ?_
          refine lv_aload_n hx hb (zD_g DX5_of 28 rfl) rfl (lv_at hl 1 rfl) ?_
          refine va_get (D := D) (ci := 4) (v := .ref (qw 0)) (C := RX5) (T := TX5) (N := 13) hx hb hts in5_of_5 hown hK.1 hP 0 rfl rfl 0 (by decide) (hts _ (List.mem_of_getElem? (i := 1) rfl)) (fun _ h9 => h9) rfl (zD_g DX5_of 29 rfl) ?_
          refine lv_iload_n hx hb (zD_g DX5_of 30 rfl) rfl (lv_at hl 2 rfl) ?_
          refine lv_iload_n hx hb (zD_g DX5_of 31 rfl) rfl (lv_at hl 0 rfl) ?_
          obtain ⟨r13, hc14, hf⟩ := zb1_s hf
          refine z_Vp (As := [.int a_gift, .int r4]) (rest := []) ⟨hx, hb, hml, hown, hts⟩ hK (c4_weighs (things := w_things) (gifts := w_gifts) (days := w_days) (size := w_size) (weight := w_weight) (sound := w_sound) (harm := w_harm) (in_ := w_in_) (kind := w_kind) (owner := w_owner) (empty := w_empty) (room := w_room) (told := w_told) (gate := w_gate) (ear := w_ear) (scale := w_scale) (lost := w_lost) (watch := w_watch) (moments := w_moments) (kept := w_kept) (q := qw) hc14) (cwV 2 hts gX5_of_X4_weighs rfl rfl rfl hd4_weighs ⟨Nat.le_of_ble_eq_true rfl, Nat.le_of_ble_eq_true rfl⟩) (zsubP hP [1] rfl) rfl rfl rfl rfl hl.1 rfl rfl (Nat.le_of_ble_eq_true rfl) (zD_g DX5_of 32 rfl) ⟨Nat.zero_le _, Nat.zero_le _⟩ ?_
          cases hf
          exact hret _ _ _ _ hP hD hS (zD_g DX5_of 33 rfl)
        · replace hf := z_f c12 hf
          by_cases c15 : a_what = 3
          · replace hf := z_t c15 hf
            refine lv_tableIn (off := 74) (tgt := 102) hx hb (zD_g DX5_of 15 rfl) (by rw [c15]; decide) (by rw [c15]; decide) (by rw [c15]; decide) (by decide) ?_
            refine lv_aload_n hx hb (zD_g DX5_of 34 rfl) rfl (lv_at hl 1 rfl) ?_
            refine va_get (D := D) (ci := 4) (v := .ref (qw 0)) (C := RX5) (T := TX5) (N := 13) hx hb hts in5_of_5 hown hK.1 hP 0 rfl rfl 0 (by decide) (hts _ (List.mem_of_getElem? (i := 1) rfl)) (fun _ h9 => h9) rfl (zD_g DX5_of 35 rfl) ?_
            refine lv_iload_n hx hb (zD_g DX5_of 36 rfl) rfl (lv_at hl 2 rfl) ?_
            refine lv_iload_n hx hb (zD_g DX5_of 37 rfl) rfl (lv_at hl 0 rfl) ?_
            obtain ⟨r16, hc17, hf⟩ := zb1_s hf
            refine z_Vp (As := [.int a_gift, .int r4]) (rest := []) ⟨hx, hb, hml, hown, hts⟩ hK (c4_sounds (things := w_things) (gifts := w_gifts) (days := w_days) (size := w_size) (weight := w_weight) (sound := w_sound) (harm := w_harm) (in_ := w_in_) (kind := w_kind) (owner := w_owner) (empty := w_empty) (room := w_room) (told := w_told) (gate := w_gate) (ear := w_ear) (scale := w_scale) (lost := w_lost) (watch := w_watch) (moments := w_moments) (kept := w_kept) (q := qw) hc17) (cwV 2 hts gX5_of_X4_sounds rfl rfl rfl hd4_sounds ⟨Nat.le_of_ble_eq_true rfl, Nat.le_of_ble_eq_true rfl⟩) (zsubP hP [1] rfl) rfl rfl rfl rfl hl.1 rfl rfl (Nat.le_of_ble_eq_true rfl) (zD_g DX5_of 38 rfl) ⟨Nat.zero_le _, Nat.zero_le _⟩ ?_
            cases hf
            exact hret _ _ _ _ hP hD hS (zD_g DX5_of 39 rfl)
          · replace hf := z_f c15 hf
            by_cases c18 : a_what = 4
            · replace hf := z_t c18 hf
              refine lv_tableIn (off := 84) (tgt := 112) hx hb (zD_g DX5_of 15 rfl) (by rw [c18]; decide) (by rw [c18]; decide) (by rw [c18]; decide) (by decide) ?_
              refine lv_aload_n hx hb (zD_g DX5_of 40 rfl) rfl (lv_at hl 1 rfl) ?_
              refine va_get (D := D) (ci := 4) (v := .ref (qw 0)) (C := RX5) (T := TX5) (N := 13) hx hb hts in5_of_5 hown hK.1 hP 0 rfl rfl 0 (by decide) (hts _ (List.mem_of_getElem? (i := 1) rfl)) (fun _ h9 => h9) rfl (zD_g DX5_of 41 rfl) ?_
              refine lv_iload_n hx hb (zD_g DX5_of 42 rfl) rfl (lv_at hl 2 rfl) ?_
              refine lv_iload_n hx hb (zD_g DX5_of 43 rfl) rfl (lv_at hl 0 rfl) ?_
              obtain ⟨r19, hc20, hf⟩ := zb1_s hf
              refine z_Vp (As := [.int a_gift, .int r4]) (rest := []) ⟨hx, hb, hml, hown, hts⟩ hK (c4_harms (things := w_things) (gifts := w_gifts) (days := w_days) (size := w_size) (weight := w_weight) (sound := w_sound) (harm := w_harm) (in_ := w_in_) (kind := w_kind) (owner := w_owner) (empty := w_empty) (room := w_room) (told := w_told) (gate := w_gate) (ear := w_ear) (scale := w_scale) (lost := w_lost) (watch := w_watch) (moments := w_moments) (kept := w_kept) (q := qw) hc20) (cwV 2 hts gX5_of_X4_harms rfl rfl rfl hd4_harms ⟨Nat.le_of_ble_eq_true rfl, Nat.le_of_ble_eq_true rfl⟩) (zsubP hP [1] rfl) rfl rfl rfl rfl hl.1 rfl rfl (Nat.le_of_ble_eq_true rfl) (zD_g DX5_of 44 rfl) ⟨Nat.zero_le _, Nat.zero_le _⟩ ?_
              cases hf
              exact hret _ _ _ _ hP hD hS (zD_g DX5_of 45 rfl)
            · replace hf := z_f c18 hf
              by_cases c21 : a_what = 5
              · replace hf := z_t c21 hf
                refine lv_tableIn (off := 94) (tgt := 122) hx hb (zD_g DX5_of 15 rfl) (by rw [c21]; decide) (by rw [c21]; decide) (by rw [c21]; decide) (by decide) ?_
                refine lv_iload_n hx hb (zD_g DX5_of 46 rfl) rfl (lv_at hl 0 rfl) ?_
                cases hf
                exact hret _ _ _ _ hP hD hS (zD_g DX5_of 47 rfl)
              · replace hf := z_f c21 hf
                by_cases c22 : a_what = 6
                · replace hf := z_t c22 hf
                  refine lv_tableIn (off := 96) (tgt := 124) hx hb (zD_g DX5_of 15 rfl) (by rw [c22]; decide) (by rw [c22]; decide) (by rw [c22]; decide) (by decide) ?_
                  refine lv_aload_n hx hb (zD_g DX5_of 48 rfl) rfl (lv_at hl 1 rfl) ?_
                  refine va_get (D := D) (ci := 4) (v := .ref (qw 0)) (C := RX5) (T := TX5) (N := 13) hx hb hts in5_of_5 hown hK.1 hP 0 rfl rfl 0 (by decide) (hts _ (List.mem_of_getElem? (i := 1) rfl)) (fun _ h9 => h9) rfl (zD_g DX5_of 49 rfl) ?_
                  refine lv_iload_n hx hb (zD_g DX5_of 50 rfl) rfl (lv_at hl 2 rfl) ?_
                  refine lv_iload_n hx hb (zD_g DX5_of 51 rfl) rfl (lv_at hl 0 rfl) ?_
                  obtain ⟨r23, hc24, hf⟩ := zb1_s hf
                  refine z_Vp (As := [.int a_gift, .int r4]) (rest := []) ⟨hx, hb, hml, hown, hts⟩ hK (c4_passes (things := w_things) (gifts := w_gifts) (days := w_days) (size := w_size) (weight := w_weight) (sound := w_sound) (harm := w_harm) (in_ := w_in_) (kind := w_kind) (owner := w_owner) (empty := w_empty) (room := w_room) (told := w_told) (gate := w_gate) (ear := w_ear) (scale := w_scale) (lost := w_lost) (watch := w_watch) (moments := w_moments) (kept := w_kept) (q := qw) hc24) (cwV 2 hts gX5_of_X4_passes rfl rfl rfl hd4_passes ⟨Nat.le_of_ble_eq_true rfl, Nat.le_of_ble_eq_true rfl⟩) (zsubP hP [1] rfl) rfl rfl rfl rfl hl.1 rfl rfl (Nat.le_of_ble_eq_true rfl) (zD_g DX5_of 52 rfl) ⟨Nat.zero_le _, Nat.zero_le _⟩ ?_
                  refine lv_if_eq (tgt := 140) hx hb (zD_g DX5_of 53 rfl) (by decide) (fun c25 => ?_) (fun c25 => ?_)
                  · replace hf := z_t c25 hf
                    refine lv_iconst (v := (0 : Int32)) hx hb (zD_g DX5_of 56 rfl) (by decide) ?_
                    cases hf
                    exact hret _ _ _ _ hP hD hS (zD_g DX5_of 57 rfl)
                  · replace hf := z_f c25 hf
                    refine lv_iconst (v := (1 : Int32)) hx hb (zD_g DX5_of 54 rfl) (by decide) ?_
                    refine lv_goto (tgt := 141) hx hb (zD_g DX5_of 55 rfl) (by decide) ?_
                    cases hf
                    exact hret _ _ _ _ hP hD hS (zD_g DX5_of 57 rfl)
                · replace hf := z_f c22 hf
                  have z0 : a_what.toInt ≠ 0 := z_ni c6
                  have z1 : a_what.toInt ≠ 1 := z_ni c9
                  have z2 : a_what.toInt ≠ 2 := z_ni c12
                  have z3 : a_what.toInt ≠ 3 := z_ni c15
                  have z4 : a_what.toInt ≠ 4 := z_ni c18
                  have z5 : a_what.toInt ≠ 5 := z_ni c21
                  have z6 : a_what.toInt ≠ 6 := z_ni c22
                  refine lv_tableOut (tgt := 142) hx hb (zD_g DX5_of 15 rfl) (by omega) (by decide) ?_
                  refine lv_aload_n hx hb (zD_g DX5_of 58 rfl) rfl (lv_at hl 1 rfl) ?_
                  refine lv_bipush (v := (-2 : Int32)) hx hb (zD_g DX5_of 59 rfl) (by decide) ?_
                  obtain ⟨r26, bads_27, noes_28, fulls_29, hc30, hf⟩ := zb4_s hf
                  refine z_VB (As := [.int (-2 : Int32)]) (rest := []) (cs' := [(cHG q (qw 0) (qt 0) (qi 0) (qj 0) (qb 0) (qx 0) kept0 kept1 fabove fbelow bads_27 noes_28 fulls_29)]) (ws' := (zcat [(cHG q (qw 0) (qt 0) (qi 0) (qj 0) (qb 0) (qx 0) kept0 kept1 fabove fbelow bads_27 noes_28 fulls_29), (cWar cI qw w_things w_gifts w_days w_size w_weight w_sound w_harm w_in_ w_kind w_owner w_empty w_room w_told w_gate w_ear w_scale w_lost w_watch w_moments w_kept)])) ⟨hx, hb, hml, hown, hts⟩ hK (c5_counted (kept0 := kept0) (kept1 := kept1) (fabove := fabove) (fbelow := fbelow) (bads := bads) (noes := noes) (fulls := fulls) (q := q) (qw := qw) (qt := qt) (qi := qi) (qj := qj) (qb := qb) (qx := qx) hc30) (cwV 1 hts gX5_of_X5_counted rfl rfl rfl hd5_counted ⟨Nat.le_of_ble_eq_true rfl, Nat.le_of_ble_eq_true rfl⟩) hP hD hS hA 2 [0] [1] [1, 0] (by decide +kernel) rfl rfl rfl rfl rfl rfl rfl rfl rfl hl.1 rfl rfl (Nat.le_of_ble_eq_true rfl) (zD_g DX5_of 60 rfl) ⟨Nat.zero_le _, Nat.zero_le _⟩ (fun H locs hP hD hS => ?_)
                  cases hf
                  exact hret _ _ _ _ hP hD hS (zD_g DX5_of 61 rfl)
  · replace hf := z_t c3 hf
    refine lv_aload_n hx hb (zD_g DX5_of 5 rfl) rfl (lv_at hl 0 rfl) ?_
    refine lv_bipush (v := (-2 : Int32)) hx hb (zD_g DX5_of 6 rfl) (by decide) ?_
    obtain ⟨r31, bads_32, noes_33, fulls_34, hc35, hf⟩ := zb4_s hf
    refine z_VB (As := [.int (-2 : Int32)]) (rest := []) (cs' := [(cHG q (qw 0) (qt 0) (qi 0) (qj 0) (qb 0) (qx 0) kept0 kept1 fabove fbelow bads_32 noes_33 fulls_34)]) (ws' := (zcat [(cHG q (qw 0) (qt 0) (qi 0) (qj 0) (qb 0) (qx 0) kept0 kept1 fabove fbelow bads_32 noes_33 fulls_34), (cWar cI qw w_things w_gifts w_days w_size w_weight w_sound w_harm w_in_ w_kind w_owner w_empty w_room w_told w_gate w_ear w_scale w_lost w_watch w_moments w_kept)])) ⟨hx, hb, hml, hown, hts⟩ hK (c5_counted (kept0 := kept0) (kept1 := kept1) (fabove := fabove) (fbelow := fbelow) (bads := bads) (noes := noes) (fulls := fulls) (q := q) (qw := qw) (qt := qt) (qi := qi) (qj := qj) (qb := qb) (qx := qx) hc35) (cwV 1 hts gX5_of_X5_counted rfl rfl rfl hd5_counted ⟨Nat.le_of_ble_eq_true rfl, Nat.le_of_ble_eq_true rfl⟩) hP hD hS hA 2 [0] [1] [1, 0] (by decide +kernel) rfl rfl rfl rfl rfl rfl rfl rfl rfl hl.1 rfl rfl (Nat.le_of_ble_eq_true rfl) (zD_g DX5_of 7 rfl) ⟨Nat.zero_le _, Nat.zero_le _⟩ (fun H locs hP hD hS => ?_)
    cases hf
    exact hret _ _ _ _ hP hD hS (zD_g DX5_of 8 rfl)
abbrev dlX5_about : List (Nat × Instr × Nat) := [(0, .iload_n 1, 1), (1, .invokestatic 156, 3), (4, .ifCond .ne 10, 3), (7, .aload_n 0, 1), (8, .bipush (-2), 2), (10, .invokevirtual 67, 3), (13, .ireturn, 1), (14, .iload_n 2, 1), (15, .tableswitch 82 0 4 #[33, 43, 53, 63, 73], 33), (48, .aload_n 0, 1), (49, .getfield 10, 3), (52, .getfield 159, 3), (55, .iload_n 1, 1), (56, .iaload, 1), (57, .ireturn, 1), (58, .aload_n 0, 1), (59, .getfield 10, 3), (62, .getfield 162, 3), (65, .iload_n 1, 1), (66, .iaload, 1), (67, .ireturn, 1), (68, .aload_n 0, 1), (69, .getfield 10, 3), (72, .getfield 165, 3), (75, .iload_n 1, 1), (76, .iaload, 1), (77, .ireturn, 1), (78, .aload_n 0, 1), (79, .getfield 10, 3), (82, .getfield 168, 3), (85, .iload_n 1, 1), (86, .iaload, 1), (87, .ireturn, 1), (88, .aload_n 0, 1), (89, .getfield 10, 3), (92, .iload_n 1, 1), (93, .invokevirtual 171, 3), (96, .ireturn, 1), (97, .aload_n 0, 1), (98, .bipush (-2), 2), (100, .invokevirtual 67, 3), (103, .ireturn, 1)]
theorem DX5_about : zD cX5_about dlX5_about = true := by decide +kernel
set_option maxRecDepth 20000 in
theorem ggX5_about_X5_isCity : GoodIn wsX5_about wsX5_isCity := goodIn_r _ [9, 10, 11, 8, 12] (by decide +kernel) (by decide +kernel)
set_option maxRecDepth 20000 in
theorem gX5_about_X5_isCity : GoodIn wsX5_about (va_wsS RX5 156 yX5_isCity wsX5_isCity) := goodIn_app (goodIn_of _ (by decide +kernel)) ggX5_about_X5_isCity
set_option maxRecDepth 20000 in
theorem ggX5_about_X5_counted : GoodIn wsX5_about wsX5_counted := goodIn_r _ [16, 17, 18, 19, 27, 28, 29, 30, 31, 32, 33, 34, 35, 36, 37, 38, 39] (by decide +kernel) (by decide +kernel)
set_option maxRecDepth 20000 in
theorem gX5_about_X5_counted : GoodIn wsX5_about (wsV RX5 67 RX5 yX5_counted wsX5_counted) := goodIn_app (goodIn_of _ (by decide +kernel)) ggX5_about_X5_counted
set_option maxRecDepth 20000 in
theorem ggX5_about_X4_giftsOf : GoodIn wsX5_about wsX4_giftsOf := goodIn_r _ [24, 25, 26, 40, 41, 42, 43, 44, 45, 46, 47, 48, 49, 50, 51, 52, 53, 54, 55, 56, 57, 58] (by decide +kernel) (by decide +kernel)
set_option maxRecDepth 20000 in
theorem gX5_about_X4_giftsOf : GoodIn wsX5_about (wsV RX5 171 RX4 yX4_giftsOf wsX4_giftsOf) := goodIn_app (goodIn_of _ (by decide +kernel)) ggX5_about_X4_giftsOf
theorem hd5_about : yX5_about.cls = RX5 ∧ yX5_about.cls ≠ "java/lang/invoke/MethodHandle" ∧ yX5_about.cls ≠ "java/lang/invoke/VarHandle" ∧ (parseMethodDescriptor yX5_about.desc).map (fun d => d.parameters.length) = some 2 := by decide +kernel
abbrev rm5_about : Room := { frames := 2, cells := 0, slots := 0, locals := 42 }
theorem in5_about_4 : ∀ w ∈ wsX40, w ∈ wsX5_about := fun w h => List.mem_cons_of_mem _ (List.mem_append_right _ h)
theorem in5_about_5 : ∀ w ∈ wsX50, w ∈ wsX5_about := fun w h => List.mem_cons_of_mem _ (List.mem_append_left _ (List.mem_append_right _ h))
set_option maxHeartbeats 4000000 in
set_option maxRecDepth 100000 in
theorem c5_about {l : Launch} {D : va_G} {cI cZ cB : ClassId} {q : Nat → Nat} {qw : Nat → Nat} {qt : Nat → Nat} {qi : Nat → Nat} {qj : Nat → Nat} {qb : Nat → Nat} {qx : Nat → Nat} {sz : Nat} {kept0 : Int32} {kept1 : Int32} {fabove : Int64} {fbelow : Int64} {bads : Int32} {noes : Int32} {fulls : Int32} {w_things : Int32} {w_gifts : Int32} {w_days : Int32} {w_size : Nat → Int32} {w_weight : Nat → Int32} {w_sound : Nat → Int32} {w_harm : Nat → Int32} {w_in_ : Nat → Int32} {w_kind : Nat → Int32} {w_owner : Nat → Int32} {w_empty : Nat → Int32} {w_room : Nat → Int32} {w_told : Nat → Int32} {w_gate : Nat → Int32} {w_ear : Nat → Int32} {w_scale : Nat → Int32} {w_lost : Nat → Int32} {w_watch : Nat → Int32} {w_moments : Int32} {w_kept : Nat → Int32} {a_city : Int32} {a_what : Int32} {r : Int32} {d_bads : Int32} {d_noes : Int32} {d_fulls : Int32} (hf : f5_about bads noes fulls w_gifts w_owner w_gate w_ear w_scale w_lost a_city a_what = some (r, d_bads, d_noes, d_fulls)) : Met l yX5_about wsX5_about rm5_about (zPm D cI cZ cB [.ref (q 0), .int a_city, .int a_what] sz (zcat [(cHG q (qw 0) (qt 0) (qi 0) (qj 0) (qb 0) (qx 0) kept0 kept1 fabove fbelow bads noes fulls), (cWar cI qw w_things w_gifts w_days w_size w_weight w_sound w_harm w_in_ w_kind w_owner w_empty w_room w_told w_gate w_ear w_scale w_lost w_watch w_moments w_kept)])) (zQm D (some (.int r)) (zcat [(cHG q (qw 0) (qt 0) (qi 0) (qj 0) (qb 0) (qx 0) kept0 kept1 fabove fbelow d_bads d_noes d_fulls), (cWar cI qw w_things w_gifts w_days w_size w_weight w_sound w_harm w_in_ w_kind w_owner w_empty w_room w_told w_gate w_ear w_scale w_lost w_watch w_moments w_kept)]) (va_A (zcat [(cHG q (qw 0) (qt 0) (qi 0) (qj 0) (qb 0) (qx 0) kept0 kept1 fabove fbelow bads noes fulls), (cWar cI qw w_things w_gifts w_days w_size w_weight w_sound w_harm w_in_ w_kind w_owner w_empty w_room w_told w_gate w_ear w_scale w_lost w_watch w_moments w_kept)]) sz)) 0 0 (va_A (zcat [(cHG q (qw 0) (qt 0) (qi 0) (qj 0) (qb 0) (qx 0) kept0 kept1 fabove fbelow bads noes fulls), (cWar cI qw w_things w_gifts w_days w_size w_weight w_sound w_harm w_in_ w_kind w_owner w_empty w_room w_told w_gate w_ear w_scale w_lost w_watch w_moments w_kept)]) sz) := by
  unfold f5_about at hf
  refine z_mutI RX5 (by decide +kernel) rfl rfl (Nat.le_of_ble_eq_true rfl) ?_
  intro p e s m args below meth c Q A ls hx hb hml hown hts hK hP hD hS hA hret hl
  have hl : lv_has ls 3 [(0, .ref (q 0)), (1, .int a_city), (2, .int a_what)] := hl
  refine lv_iload_n hx hb (zD_g DX5_about 0 rfl) rfl (lv_at hl 1 rfl) ?_
  obtain ⟨r1, hc2, hf⟩ := zb1_s hf
  refine z_Sp (As := [.int a_city]) (rest := []) ⟨hx, hb, hml, hown, hts⟩ hK (c5_isCity  hc2) (va_cwS 1 hts gX5_about_X5_isCity rfl rfl rfl hd5_isCity ⟨Nat.le_of_ble_eq_true rfl, Nat.le_of_ble_eq_true rfl⟩) (hP.sub [] rfl) rfl hl.1 rfl rfl (Nat.le_of_ble_eq_true rfl) (zD_g DX5_about 1 rfl) ⟨Nat.zero_le _, Nat.zero_le _⟩ ?_
  refine lv_if_ne (tgt := 14) hx hb (zD_g DX5_about 2 rfl) (by decide) (fun c3 => ?_) (fun c3 => ?_)
  · replace hf := z_f c3 hf
    refine lv_iload_n hx hb (zD_g DX5_about 7 rfl) rfl (lv_at hl 2 rfl) ?_
    by_cases c4 : a_what = 0
    · replace hf := z_t c4 hf
      refine lv_tableIn (off := 33) (tgt := 48) hx hb (zD_g DX5_about 8 rfl) (by rw [c4]; decide) (by rw [c4]; decide) (by rw [c4]; decide) (by decide) ?_
      refine lv_aload_n hx hb (zD_g DX5_about 9 rfl) rfl (lv_at hl 0 rfl) ?_
      refine va_get (D := D) (ci := 4) (v := .ref (qw 0)) (C := RX5) (T := TX5) (N := 13) hx hb hts in5_about_5 hown hK.1 hP 0 rfl rfl 0 (by decide) (hts _ (List.mem_of_getElem? (i := 1) rfl)) (fun _ h9 => h9) rfl (zD_g DX5_about 10 rfl) ?_
      refine va_get (D := D) (ci := 3) (v := .ref (qw 11)) (C := RX4) (T := TX4) (N := 19) hx hb hts in5_about_4 hown hK.1 hP 1 rfl rfl 13 (by decide) (hts _ (List.mem_of_getElem? (i := 2) rfl)) (fun _ h9 => h9) rfl (zD_g DX5_about 11 rfl) ?_
      refine lv_iload_n hx hb (zD_g DX5_about 12 rfl) rfl (lv_at hl 1 rfl) ?_
      obtain ⟨h5, hf⟩ := zg_s hf
      refine z_iald (k := a_city.toNatClampNeg) hx hb hK.1 hP 12 0 rfl rfl h5 rfl (zD_g DX5_about 13 rfl) ?_
      refine lv_topi (fun x6 ex6 => ?_)
      replace hf := zl_s hf x6 ex6
      cases hf
      exact hret _ _ _ _ hP hD hS (zD_g DX5_about 14 rfl)
    · replace hf := z_f c4 hf
      by_cases c7 : a_what = 1
      · replace hf := z_t c7 hf
        refine lv_tableIn (off := 43) (tgt := 58) hx hb (zD_g DX5_about 8 rfl) (by rw [c7]; decide) (by rw [c7]; decide) (by rw [c7]; decide) (by decide) ?_
        refine lv_aload_n hx hb (zD_g DX5_about 15 rfl) rfl (lv_at hl 0 rfl) ?_
        refine va_get (D := D) (ci := 4) (v := .ref (qw 0)) (C := RX5) (T := TX5) (N := 13) hx hb hts in5_about_5 hown hK.1 hP 0 rfl rfl 0 (by decide) (hts _ (List.mem_of_getElem? (i := 1) rfl)) (fun _ h9 => h9) rfl (zD_g DX5_about 16 rfl) ?_
        refine va_get (D := D) (ci := 3) (v := .ref (qw 12)) (C := RX4) (T := TX4) (N := 19) hx hb hts in5_about_4 hown hK.1 hP 1 rfl rfl 14 (by decide) (hts _ (List.mem_of_getElem? (i := 3) rfl)) (fun _ h9 => h9) rfl (zD_g DX5_about 17 rfl) ?_
        refine lv_iload_n hx hb (zD_g DX5_about 18 rfl) rfl (lv_at hl 1 rfl) ?_
        obtain ⟨h8, hf⟩ := zg_s hf
        refine z_iald (k := a_city.toNatClampNeg) hx hb hK.1 hP 13 0 rfl rfl h8 rfl (zD_g DX5_about 19 rfl) ?_
        refine lv_topi (fun x9 ex9 => ?_)
        replace hf := zl_s hf x9 ex9
        cases hf
        exact hret _ _ _ _ hP hD hS (zD_g DX5_about 20 rfl)
      · replace hf := z_f c7 hf
        by_cases c10 : a_what = 2
        · replace hf := z_t c10 hf
          refine lv_tableIn (off := 53) (tgt := 68) hx hb (zD_g DX5_about 8 rfl) (by rw [c10]; decide) (by rw [c10]; decide) (by rw [c10]; decide) (by decide) ?_
          refine lv_aload_n hx hb (zD_g DX5_about 21 rfl) rfl (lv_at hl 0 rfl) ?_
          refine va_get (D := D) (ci := 4) (v := .ref (qw 0)) (C := RX5) (T := TX5) (N := 13) hx hb hts in5_about_5 hown hK.1 hP 0 rfl rfl 0 (by decide) (hts _ (List.mem_of_getElem? (i := 1) rfl)) (fun _ h9 => h9) rfl (zD_g DX5_about 22 rfl) ?_
          refine va_get (D := D) (ci := 3) (v := .ref (qw 13)) (C := RX4) (T := TX4) (N := 19) hx hb hts in5_about_4 hown hK.1 hP 1 rfl rfl 15 (by decide) (hts _ (List.mem_of_getElem? (i := 4) rfl)) (fun _ h9 => h9) rfl (zD_g DX5_about 23 rfl) ?_
          refine lv_iload_n hx hb (zD_g DX5_about 24 rfl) rfl (lv_at hl 1 rfl) ?_
          obtain ⟨h11, hf⟩ := zg_s hf
          refine z_iald (k := a_city.toNatClampNeg) hx hb hK.1 hP 14 0 rfl rfl h11 rfl (zD_g DX5_about 25 rfl) ?_
          refine lv_topi (fun x12 ex12 => ?_)
          replace hf := zl_s hf x12 ex12
          cases hf
          exact hret _ _ _ _ hP hD hS (zD_g DX5_about 26 rfl)
        · replace hf := z_f c10 hf
          by_cases c13 : a_what = 3
          · replace hf := z_t c13 hf
            refine lv_tableIn (off := 63) (tgt := 78) hx hb (zD_g DX5_about 8 rfl) (by rw [c13]; decide) (by rw [c13]; decide) (by rw [c13]; decide) (by decide) ?_
            refine lv_aload_n hx hb (zD_g DX5_about 27 rfl) rfl (lv_at hl 0 rfl) ?_
            refine va_get (D := D) (ci := 4) (v := .ref (qw 0)) (C := RX5) (T := TX5) (N := 13) hx hb hts in5_about_5 hown hK.1 hP 0 rfl rfl 0 (by decide) (hts _ (List.mem_of_getElem? (i := 1) rfl)) (fun _ h9 => h9) rfl (zD_g DX5_about 28 rfl) ?_
            refine va_get (D := D) (ci := 3) (v := .ref (qw 14)) (C := RX4) (T := TX4) (N := 19) hx hb hts in5_about_4 hown hK.1 hP 1 rfl rfl 16 (by decide) (hts _ (List.mem_of_getElem? (i := 5) rfl)) (fun _ h9 => h9) rfl (zD_g DX5_about 29 rfl) ?_
            refine lv_iload_n hx hb (zD_g DX5_about 30 rfl) rfl (lv_at hl 1 rfl) ?_
            obtain ⟨h14, hf⟩ := zg_s hf
            refine z_iald (k := a_city.toNatClampNeg) hx hb hK.1 hP 15 0 rfl rfl h14 rfl (zD_g DX5_about 31 rfl) ?_
            refine lv_topi (fun x15 ex15 => ?_)
            replace hf := zl_s hf x15 ex15
            cases hf
            exact hret _ _ _ _ hP hD hS (zD_g DX5_about 32 rfl)
          · replace hf := z_f c13 hf
            by_cases c16 : a_what = 4
            · replace hf := z_t c16 hf
              refine lv_tableIn (off := 73) (tgt := 88) hx hb (zD_g DX5_about 8 rfl) (by rw [c16]; decide) (by rw [c16]; decide) (by rw [c16]; decide) (by decide) ?_
              refine lv_aload_n hx hb (zD_g DX5_about 33 rfl) rfl (lv_at hl 0 rfl) ?_
              refine va_get (D := D) (ci := 4) (v := .ref (qw 0)) (C := RX5) (T := TX5) (N := 13) hx hb hts in5_about_5 hown hK.1 hP 0 rfl rfl 0 (by decide) (hts _ (List.mem_of_getElem? (i := 1) rfl)) (fun _ h9 => h9) rfl (zD_g DX5_about 34 rfl) ?_
              refine lv_iload_n hx hb (zD_g DX5_about 35 rfl) rfl (lv_at hl 1 rfl) ?_
              obtain ⟨r17, hc18, hf⟩ := zb1_s hf
              refine z_Vp (As := [.int a_city]) (rest := []) ⟨hx, hb, hml, hown, hts⟩ hK (c4_giftsOf (things := w_things) (gifts := w_gifts) (days := w_days) (size := w_size) (weight := w_weight) (sound := w_sound) (harm := w_harm) (in_ := w_in_) (kind := w_kind) (owner := w_owner) (empty := w_empty) (room := w_room) (told := w_told) (gate := w_gate) (ear := w_ear) (scale := w_scale) (lost := w_lost) (watch := w_watch) (moments := w_moments) (kept := w_kept) (q := qw) hc18) (cwV 1 hts gX5_about_X4_giftsOf rfl rfl rfl hd4_giftsOf ⟨Nat.le_of_ble_eq_true rfl, Nat.le_of_ble_eq_true rfl⟩) (zsubP hP [1] rfl) rfl rfl rfl rfl hl.1 rfl rfl (Nat.le_of_ble_eq_true rfl) (zD_g DX5_about 36 rfl) ⟨Nat.zero_le _, Nat.zero_le _⟩ ?_
              cases hf
              exact hret _ _ _ _ hP hD hS (zD_g DX5_about 37 rfl)
            · replace hf := z_f c16 hf
              have z0 : a_what.toInt ≠ 0 := z_ni c4
              have z1 : a_what.toInt ≠ 1 := z_ni c7
              have z2 : a_what.toInt ≠ 2 := z_ni c10
              have z3 : a_what.toInt ≠ 3 := z_ni c13
              have z4 : a_what.toInt ≠ 4 := z_ni c16
              refine lv_tableOut (tgt := 97) hx hb (zD_g DX5_about 8 rfl) (by omega) (by decide) ?_
              refine lv_aload_n hx hb (zD_g DX5_about 38 rfl) rfl (lv_at hl 0 rfl) ?_
              refine lv_bipush (v := (-2 : Int32)) hx hb (zD_g DX5_about 39 rfl) (by decide) ?_
              obtain ⟨r19, bads_20, noes_21, fulls_22, hc23, hf⟩ := zb4_s hf
              refine z_VB (As := [.int (-2 : Int32)]) (rest := []) (cs' := [(cHG q (qw 0) (qt 0) (qi 0) (qj 0) (qb 0) (qx 0) kept0 kept1 fabove fbelow bads_20 noes_21 fulls_22)]) (ws' := (zcat [(cHG q (qw 0) (qt 0) (qi 0) (qj 0) (qb 0) (qx 0) kept0 kept1 fabove fbelow bads_20 noes_21 fulls_22), (cWar cI qw w_things w_gifts w_days w_size w_weight w_sound w_harm w_in_ w_kind w_owner w_empty w_room w_told w_gate w_ear w_scale w_lost w_watch w_moments w_kept)])) ⟨hx, hb, hml, hown, hts⟩ hK (c5_counted (kept0 := kept0) (kept1 := kept1) (fabove := fabove) (fbelow := fbelow) (bads := bads) (noes := noes) (fulls := fulls) (q := q) (qw := qw) (qt := qt) (qi := qi) (qj := qj) (qb := qb) (qx := qx) hc23) (cwV 1 hts gX5_about_X5_counted rfl rfl rfl hd5_counted ⟨Nat.le_of_ble_eq_true rfl, Nat.le_of_ble_eq_true rfl⟩) hP hD hS hA 2 [0] [1] [1, 0] (by decide +kernel) rfl rfl rfl rfl rfl rfl rfl rfl rfl hl.1 rfl rfl (Nat.le_of_ble_eq_true rfl) (zD_g DX5_about 40 rfl) ⟨Nat.zero_le _, Nat.zero_le _⟩ (fun H locs hP hD hS => ?_)
              cases hf
              exact hret _ _ _ _ hP hD hS (zD_g DX5_about 41 rfl)
  · replace hf := z_t c3 hf
    refine lv_aload_n hx hb (zD_g DX5_about 3 rfl) rfl (lv_at hl 0 rfl) ?_
    refine lv_bipush (v := (-2 : Int32)) hx hb (zD_g DX5_about 4 rfl) (by decide) ?_
    obtain ⟨r24, bads_25, noes_26, fulls_27, hc28, hf⟩ := zb4_s hf
    refine z_VB (As := [.int (-2 : Int32)]) (rest := []) (cs' := [(cHG q (qw 0) (qt 0) (qi 0) (qj 0) (qb 0) (qx 0) kept0 kept1 fabove fbelow bads_25 noes_26 fulls_27)]) (ws' := (zcat [(cHG q (qw 0) (qt 0) (qi 0) (qj 0) (qb 0) (qx 0) kept0 kept1 fabove fbelow bads_25 noes_26 fulls_27), (cWar cI qw w_things w_gifts w_days w_size w_weight w_sound w_harm w_in_ w_kind w_owner w_empty w_room w_told w_gate w_ear w_scale w_lost w_watch w_moments w_kept)])) ⟨hx, hb, hml, hown, hts⟩ hK (c5_counted (kept0 := kept0) (kept1 := kept1) (fabove := fabove) (fbelow := fbelow) (bads := bads) (noes := noes) (fulls := fulls) (q := q) (qw := qw) (qt := qt) (qi := qi) (qj := qj) (qb := qb) (qx := qx) hc28) (cwV 1 hts gX5_about_X5_counted rfl rfl rfl hd5_counted ⟨Nat.le_of_ble_eq_true rfl, Nat.le_of_ble_eq_true rfl⟩) hP hD hS hA 2 [0] [1] [1, 0] (by decide +kernel) rfl rfl rfl rfl rfl rfl rfl rfl rfl hl.1 rfl rfl (Nat.le_of_ble_eq_true rfl) (zD_g DX5_about 5 rfl) ⟨Nat.zero_le _, Nat.zero_le _⟩ (fun H locs hP hD hS => ?_)
    cases hf
    exact hret _ _ _ _ hP hD hS (zD_g DX5_about 6 rfl)
abbrev dlX5_hide : List (Nat × Instr × Nat) := [(0, .aload_n 0, 1), (1, .getfield 10, 3), (4, .iload_n 1, 1), (5, .invokevirtual 114, 3), (8, .ifCond .eq 19, 3), (11, .iload_n 2, 1), (12, .invokestatic 118, 3), (15, .ifCond .eq 12, 3), (18, .iload_n 3, 1), (19, .iconst 0, 1), (20, .iconst 1, 1), (21, .invokestatic 174, 3), (24, .ifCond .ne 8, 3), (27, .aload_n 0, 1), (28, .invokevirtual 121, 3), (31, .ireturn, 1), (32, .aload_n 0, 1), (33, .getfield 10, 3), (36, .iload_n 1, 1), (37, .iload_n 2, 1), (38, .invokestatic 178, 3), (41, .istore 4, 2), (43, .iload 4, 2), (45, .iconst (-1), 1), (46, .if_icmp .eq 7, 3), (49, .iload_n 3, 1), (50, .ifCond .ne 6, 3), (53, .iload 4, 2), (55, .ireturn, 1), (56, .aload_n 0, 1), (57, .getfield 10, 3), (60, .iload_n 1, 1), (61, .iload 4, 2), (63, .iload_n 2, 1), (64, .invokevirtual 184, 3), (67, .ireturn, 1)]
theorem DX5_hide : zD cX5_hide dlX5_hide = true := by decide +kernel
set_option maxRecDepth 20000 in
theorem ggX5_hide_X4_hasGift : GoodIn wsX5_hide wsX4_hasGift := goodIn_r _ [6, 7, 8, 9, 10, 123, 124, 125, 126, 127, 128, 129, 130, 131, 132, 133, 134, 135, 136, 137, 138, 139, 140, 141] (by decide +kernel) (by decide +kernel)
set_option maxRecDepth 20000 in
theorem gX5_hide_X4_hasGift : GoodIn wsX5_hide (wsV RX5 114 RX4 yX4_hasGift wsX4_hasGift) := goodIn_app (goodIn_of _ (by decide +kernel)) ggX5_hide_X4_hasGift
set_option maxRecDepth 20000 in
theorem ggX5_hide_X5_isHour : GoodIn wsX5_hide wsX5_isHour := goodIn_r _ [13, 14, 8, 9, 10] (by decide +kernel) (by decide +kernel)
set_option maxRecDepth 20000 in
theorem gX5_hide_X5_isHour : GoodIn wsX5_hide (va_wsS RX5 118 yX5_isHour wsX5_isHour) := goodIn_app (goodIn_of _ (by decide +kernel)) ggX5_hide_X5_isHour
set_option maxRecDepth 20000 in
theorem ggX5_hide_X5_within : GoodIn wsX5_hide wsX5_within := goodIn_r _ [10] (by decide +kernel) (by decide +kernel)
set_option maxRecDepth 20000 in
theorem gX5_hide_X5_within : GoodIn wsX5_hide (va_wsS RX5 174 yX5_within wsX5_within) := goodIn_app (goodIn_of _ (by decide +kernel)) ggX5_hide_X5_within
set_option maxRecDepth 20000 in
theorem ggX5_hide_X5_refusedAsTen : GoodIn wsX5_hide wsX5_refusedAsTen := goodIn_r _ [18, 19, 20, 21, 9, 22, 23, 24, 25, 110, 111, 112, 113, 114, 115, 116, 117, 118, 119, 120, 121, 122] (by decide +kernel) (by decide +kernel)
set_option maxRecDepth 20000 in
theorem gX5_hide_X5_refusedAsTen : GoodIn wsX5_hide (wsV RX5 121 RX5 yX5_refusedAsTen wsX5_refusedAsTen) := goodIn_app (goodIn_of _ (by decide +kernel)) ggX5_hide_X5_refusedAsTen
set_option maxRecDepth 20000 in
theorem ggX5_hide_X1_setThatDoesMost : GoodIn wsX5_hide wsX1_setThatDoesMost := goodIn_r _ [29, 30, 31, 32, 5, 33, 34, 35, 36, 37, 38, 39, 40, 41, 42, 43, 44, 45, 46, 9, 47, 48, 49, 50, 51, 52, 53, 54, 55, 56, 57, 58, 59, 60, 61, 62, 63, 64, 65, 66, 67, 68, 69, 70, 71, 72, 73, 74, 75, 76, 77, 78, 79, 80, 81, 82, 83, 84, 85, 86, 87, 88, 89, 90, 91, 92, 93, 94, 95, 96, 97, 98, 99, 100, 101, 102, 103, 104, 105, 106, 107, 108, 123, 124, 125, 126, 127, 128, 129, 130, 131, 132, 133, 134, 135, 136, 137, 138, 139, 140, 141] (by decide +kernel) (by decide +kernel)
set_option maxRecDepth 20000 in
theorem gX5_hide_X1_setThatDoesMost : GoodIn wsX5_hide (va_wsS RX5 178 yX1_setThatDoesMost wsX1_setThatDoesMost) := goodIn_app (goodIn_of _ (by decide +kernel)) ggX5_hide_X1_setThatDoesMost
set_option maxRecDepth 20000 in
theorem ggX5_hide_X4_loss : GoodIn wsX5_hide wsX4_loss := goodIn_r _ [92, 93, 94, 95, 87, 96, 97, 98, 99, 5, 100, 101, 72, 84, 46, 9, 47, 57, 58, 59, 60, 61, 123, 124, 125, 126, 127, 128, 129, 130, 131, 132, 133, 134, 135, 136, 137, 138, 139, 140, 141] (by decide +kernel) (by decide +kernel)
set_option maxRecDepth 20000 in
theorem gX5_hide_X4_loss : GoodIn wsX5_hide (wsV RX5 184 RX4 yX4_loss wsX4_loss) := goodIn_app (goodIn_of _ (by decide +kernel)) ggX5_hide_X4_loss
theorem hd5_hide : yX5_hide.cls = RX5 ∧ yX5_hide.cls ≠ "java/lang/invoke/MethodHandle" ∧ yX5_hide.cls ≠ "java/lang/invoke/VarHandle" ∧ (parseMethodDescriptor yX5_hide.desc).map (fun d => d.parameters.length) = some 3 := by decide +kernel
abbrev rm5_hide : Room := { frames := 5, cells := 0, slots := 0, locals := 118 }
theorem in5_hide_5 : ∀ w ∈ wsX50, w ∈ wsX5_hide := fun w h => List.mem_cons_of_mem _ (List.mem_append_left _ (List.mem_append_right _ h))
set_option maxHeartbeats 4000000 in
set_option maxRecDepth 100000 in
theorem c5_hide {l : Launch} {D : va_G} {cI cZ cB : ClassId} {q : Nat → Nat} {qw : Nat → Nat} {qt : Nat → Nat} {qi : Nat → Nat} {qj : Nat → Nat} {qb : Nat → Nat} {qx : Nat → Nat} {sz : Nat} {kept0 : Int32} {kept1 : Int32} {fabove : Int64} {fbelow : Int64} {bads : Int32} {noes : Int32} {fulls : Int32} {w_things : Int32} {w_gifts : Int32} {w_days : Int32} {w_size : Nat → Int32} {w_weight : Nat → Int32} {w_sound : Nat → Int32} {w_harm : Nat → Int32} {w_in_ : Nat → Int32} {w_kind : Nat → Int32} {w_owner : Nat → Int32} {w_empty : Nat → Int32} {w_room : Nat → Int32} {w_told : Nat → Int32} {w_gate : Nat → Int32} {w_ear : Nat → Int32} {w_scale : Nat → Int32} {w_lost : Nat → Int32} {w_watch : Nat → Int32} {w_moments : Int32} {w_kept : Nat → Int32} {a_gift : Int32} {a_hour : Int32} {a_what : Int32} {r : Int32} {d_bads : Int32} {d_noes : Int32} {d_fulls : Int32} (hf : f5_hide bads noes fulls w_things w_gifts w_days w_size w_weight w_sound w_harm w_in_ w_kind w_owner w_empty w_room w_gate w_ear w_scale w_watch a_gift a_hour a_what = some (r, d_bads, d_noes, d_fulls)) : Met l yX5_hide wsX5_hide rm5_hide (zPm D cI cZ cB [.ref (q 0), .int a_gift, .int a_hour, .int a_what] sz (zcat [(cHG q (qw 0) (qt 0) (qi 0) (qj 0) (qb 0) (qx 0) kept0 kept1 fabove fbelow bads noes fulls), (cWar cI qw w_things w_gifts w_days w_size w_weight w_sound w_harm w_in_ w_kind w_owner w_empty w_room w_told w_gate w_ear w_scale w_lost w_watch w_moments w_kept)])) (zQm D (some (.int r)) (zcat [(cHG q (qw 0) (qt 0) (qi 0) (qj 0) (qb 0) (qx 0) kept0 kept1 fabove fbelow d_bads d_noes d_fulls), (cWar cI qw w_things w_gifts w_days w_size w_weight w_sound w_harm w_in_ w_kind w_owner w_empty w_room w_told w_gate w_ear w_scale w_lost w_watch w_moments w_kept)]) (va_A (zcat [(cHG q (qw 0) (qt 0) (qi 0) (qj 0) (qb 0) (qx 0) kept0 kept1 fabove fbelow bads noes fulls), (cWar cI qw w_things w_gifts w_days w_size w_weight w_sound w_harm w_in_ w_kind w_owner w_empty w_room w_told w_gate w_ear w_scale w_lost w_watch w_moments w_kept)]) sz)) 0 0 (va_A (zcat [(cHG q (qw 0) (qt 0) (qi 0) (qj 0) (qb 0) (qx 0) kept0 kept1 fabove fbelow bads noes fulls), (cWar cI qw w_things w_gifts w_days w_size w_weight w_sound w_harm w_in_ w_kind w_owner w_empty w_room w_told w_gate w_ear w_scale w_lost w_watch w_moments w_kept)]) sz) := by
  unfold f5_hide at hf
  refine z_mutI RX5 (by decide +kernel) rfl rfl (Nat.le_of_ble_eq_true rfl) ?_
  intro p e s m args below meth c Q A ls hx hb hml hown hts hK hP hD hS hA hret hl
  have hl : lv_has ls 5 [(0, .ref (q 0)), (1, .int a_gift), (2, .int a_hour), (3, .int a_what)] := hl
  refine lv_aload_n hx hb (zD_g DX5_hide 0 rfl) rfl (lv_at hl 0 rfl) ?_
  refine va_get (D := D) (ci := 4) (v := .ref (qw 0)) (C := RX5) (T := TX5) (N := 13) hx hb hts in5_hide_5 hown hK.1 hP 0 rfl rfl 0 (by decide) (hts _ (List.mem_of_getElem? (i := 1) rfl)) (fun _ h9 => h9) rfl (zD_g DX5_hide 1 rfl) ?_
  refine lv_iload_n hx hb (zD_g DX5_hide 2 rfl) rfl (lv_at hl 1 rfl) ?_
  obtain ⟨r1, hc2, hf⟩ := zb1_s hf
  refine z_Vp (As := [.int a_gift]) (rest := []) ⟨hx, hb, hml, hown, hts⟩ hK (c4_hasGift (things := w_things) (gifts := w_gifts) (days := w_days) (size := w_size) (weight := w_weight) (sound := w_sound) (harm := w_harm) (in_ := w_in_) (kind := w_kind) (owner := w_owner) (empty := w_empty) (room := w_room) (told := w_told) (gate := w_gate) (ear := w_ear) (scale := w_scale) (lost := w_lost) (watch := w_watch) (moments := w_moments) (kept := w_kept) (q := qw) hc2) (cwV 1 hts gX5_hide_X4_hasGift rfl rfl rfl hd4_hasGift ⟨Nat.le_of_ble_eq_true rfl, Nat.le_of_ble_eq_true rfl⟩) (zsubP hP [1] rfl) rfl rfl rfl rfl hl.1 rfl rfl (Nat.le_of_ble_eq_true rfl) (zD_g DX5_hide 3 rfl) ⟨Nat.zero_le _, Nat.zero_le _⟩ ?_
  refine lv_if_eq (tgt := 27) hx hb (zD_g DX5_hide 4 rfl) (by decide) (fun c3 => ?_) (fun c3 => ?_)
  · replace hf := z_t c3 hf
    refine lv_aload_n hx hb (zD_g DX5_hide 13 rfl) rfl (lv_at hl 0 rfl) ?_
    obtain ⟨r4, bads_5, noes_6, fulls_7, hc8, hf⟩ := zb4_s hf
    refine z_VB (As := []) (rest := []) (cs' := [(cHG q (qw 0) (qt 0) (qi 0) (qj 0) (qb 0) (qx 0) kept0 kept1 fabove fbelow bads_5 noes_6 fulls_7)]) (ws' := (zcat [(cHG q (qw 0) (qt 0) (qi 0) (qj 0) (qb 0) (qx 0) kept0 kept1 fabove fbelow bads_5 noes_6 fulls_7), (cWar cI qw w_things w_gifts w_days w_size w_weight w_sound w_harm w_in_ w_kind w_owner w_empty w_room w_told w_gate w_ear w_scale w_lost w_watch w_moments w_kept)])) ⟨hx, hb, hml, hown, hts⟩ hK (c5_refusedAsTen (kept0 := kept0) (kept1 := kept1) (fabove := fabove) (fbelow := fbelow) (bads := bads) (noes := noes) (fulls := fulls) (q := q) (qw := qw) (qt := qt) (qi := qi) (qj := qj) (qb := qb) (qx := qx) hc8) (cwV 0 hts gX5_hide_X5_refusedAsTen rfl rfl rfl hd5_refusedAsTen ⟨Nat.le_of_ble_eq_true rfl, Nat.le_of_ble_eq_true rfl⟩) hP hD hS hA 2 [0] [1] [1, 0] (by decide +kernel) rfl rfl rfl rfl rfl rfl rfl rfl rfl hl.1 rfl rfl (Nat.le_of_ble_eq_true rfl) (zD_g DX5_hide 14 rfl) ⟨Nat.zero_le _, Nat.zero_le _⟩ (fun H locs hP hD hS => ?_)
    cases hf
    exact hret _ _ _ _ hP hD hS (zD_g DX5_hide 15 rfl)
  · replace hf := z_f c3 hf
    refine lv_iload_n hx hb (zD_g DX5_hide 5 rfl) rfl (lv_at hl 2 rfl) ?_
    obtain ⟨r9, hc10, hf⟩ := zb1_s hf
    refine z_Sp (As := [.int a_hour]) (rest := []) ⟨hx, hb, hml, hown, hts⟩ hK (c5_isHour  hc10) (va_cwS 1 hts gX5_hide_X5_isHour rfl rfl rfl hd5_isHour ⟨Nat.le_of_ble_eq_true rfl, Nat.le_of_ble_eq_true rfl⟩) (hP.sub [] rfl) rfl hl.1 rfl rfl (Nat.le_of_ble_eq_true rfl) (zD_g DX5_hide 6 rfl) ⟨Nat.zero_le _, Nat.zero_le _⟩ ?_
    refine lv_if_eq (tgt := 27) hx hb (zD_g DX5_hide 7 rfl) (by decide) (fun c11 => ?_) (fun c11 => ?_)
    · replace hf := z_t c11 hf
      refine lv_aload_n hx hb (zD_g DX5_hide 13 rfl) rfl (lv_at hl 0 rfl) ?_
      obtain ⟨r12, bads_13, noes_14, fulls_15, hc16, hf⟩ := zb4_s hf
      refine z_VB (As := []) (rest := []) (cs' := [(cHG q (qw 0) (qt 0) (qi 0) (qj 0) (qb 0) (qx 0) kept0 kept1 fabove fbelow bads_13 noes_14 fulls_15)]) (ws' := (zcat [(cHG q (qw 0) (qt 0) (qi 0) (qj 0) (qb 0) (qx 0) kept0 kept1 fabove fbelow bads_13 noes_14 fulls_15), (cWar cI qw w_things w_gifts w_days w_size w_weight w_sound w_harm w_in_ w_kind w_owner w_empty w_room w_told w_gate w_ear w_scale w_lost w_watch w_moments w_kept)])) ⟨hx, hb, hml, hown, hts⟩ hK (c5_refusedAsTen (kept0 := kept0) (kept1 := kept1) (fabove := fabove) (fbelow := fbelow) (bads := bads) (noes := noes) (fulls := fulls) (q := q) (qw := qw) (qt := qt) (qi := qi) (qj := qj) (qb := qb) (qx := qx) hc16) (cwV 0 hts gX5_hide_X5_refusedAsTen rfl rfl rfl hd5_refusedAsTen ⟨Nat.le_of_ble_eq_true rfl, Nat.le_of_ble_eq_true rfl⟩) hP hD hS hA 2 [0] [1] [1, 0] (by decide +kernel) rfl rfl rfl rfl rfl rfl rfl rfl rfl hl.1 rfl rfl (Nat.le_of_ble_eq_true rfl) (zD_g DX5_hide 14 rfl) ⟨Nat.zero_le _, Nat.zero_le _⟩ (fun H locs hP hD hS => ?_)
      cases hf
      exact hret _ _ _ _ hP hD hS (zD_g DX5_hide 15 rfl)
    · replace hf := z_f c11 hf
      refine lv_iload_n hx hb (zD_g DX5_hide 8 rfl) rfl (lv_at hl 3 rfl) ?_
      refine lv_iconst (v := (0 : Int32)) hx hb (zD_g DX5_hide 9 rfl) (by decide) ?_
      refine lv_iconst (v := (1 : Int32)) hx hb (zD_g DX5_hide 10 rfl) (by decide) ?_
      obtain ⟨r17, hc18, hf⟩ := zb1_s hf
      refine z_Sp (As := [.int a_what, .int (0 : Int32), .int (1 : Int32)]) (rest := []) ⟨hx, hb, hml, hown, hts⟩ hK (c5_within  hc18) (va_cwS 3 hts gX5_hide_X5_within rfl rfl rfl hd5_within ⟨Nat.le_of_ble_eq_true rfl, Nat.le_of_ble_eq_true rfl⟩) (hP.sub [] rfl) rfl hl.1 rfl rfl (Nat.le_of_ble_eq_true rfl) (zD_g DX5_hide 11 rfl) ⟨Nat.zero_le _, Nat.zero_le _⟩ ?_
      refine lv_if_ne (tgt := 32) hx hb (zD_g DX5_hide 12 rfl) (by decide) (fun c19 => ?_) (fun c19 => ?_)
      · replace hf := z_f c19 hf
        refine lv_aload_n hx hb (zD_g DX5_hide 16 rfl) rfl (lv_at hl 0 rfl) ?_
        refine va_get (D := D) (ci := 4) (v := .ref (qw 0)) (C := RX5) (T := TX5) (N := 13) hx hb hts in5_hide_5 hown hK.1 hP 0 rfl rfl 0 (by decide) (hts _ (List.mem_of_getElem? (i := 1) rfl)) (fun _ h9 => h9) rfl (zD_g DX5_hide 17 rfl) ?_
        refine lv_iload_n hx hb (zD_g DX5_hide 18 rfl) rfl (lv_at hl 1 rfl) ?_
        refine lv_iload_n hx hb (zD_g DX5_hide 19 rfl) rfl (lv_at hl 2 rfl) ?_
        obtain ⟨r20, hc21, hf⟩ := zb1_s hf
        refine z_Sp (As := [.ref (qw 0), .int a_gift, .int a_hour]) (rest := []) ⟨hx, hb, hml, hown, hts⟩ hK (c1_setThatDoesMost (things := w_things) (gifts := w_gifts) (days := w_days) (size := w_size) (weight := w_weight) (sound := w_sound) (harm := w_harm) (in_ := w_in_) (kind := w_kind) (owner := w_owner) (empty := w_empty) (room := w_room) (told := w_told) (gate := w_gate) (ear := w_ear) (scale := w_scale) (lost := w_lost) (watch := w_watch) (moments := w_moments) (kept := w_kept) (q := qw) hc21) (va_cwS 3 hts gX5_hide_X1_setThatDoesMost rfl rfl rfl hd1_setThatDoesMost ⟨Nat.le_of_ble_eq_true rfl, Nat.le_of_ble_eq_true rfl⟩) (zsubP hP [1] rfl) rfl hl.1 rfl rfl (Nat.le_of_ble_eq_true rfl) (zD_g DX5_hide 20 rfl) ⟨Nat.zero_le _, Nat.zero_le _⟩ ?_
        refine lv_istore (lv' := [(4, .int r20), (0, .ref (q 0)), (1, .int a_gift), (2, .int a_hour), (3, .int a_what)]) hx hb (zD_g DX5_hide 21 rfl) hl (by decide) rfl (fun ls hl => ?_)
        refine lv_iload hx hb (zD_g DX5_hide 22 rfl) (lv_at hl 0 rfl) ?_
        refine lv_iconst (v := (-1 : Int32)) hx hb (zD_g DX5_hide 23 rfl) (by decide) ?_
        refine lv_icmp_eq (tgt := 53) hx hb (zD_g DX5_hide 24 rfl) (by decide) (fun c22 => ?_) (fun c22 => ?_)
        · replace hf := z_t c22 hf
          refine lv_iload hx hb (zD_g DX5_hide 27 rfl) (lv_at hl 0 rfl) ?_
          cases hf
          exact hret _ _ _ _ hP hD hS (zD_g DX5_hide 28 rfl)
        · replace hf := z_f c22 hf
          refine lv_iload_n hx hb (zD_g DX5_hide 25 rfl) rfl (lv_at hl 4 rfl) ?_
          refine lv_if_ne (tgt := 56) hx hb (zD_g DX5_hide 26 rfl) (by decide) (fun c23 => ?_) (fun c23 => ?_)
          · replace hf := z_f c23 hf
            refine lv_aload_n hx hb (zD_g DX5_hide 29 rfl) rfl (lv_at hl 1 rfl) ?_
            refine va_get (D := D) (ci := 4) (v := .ref (qw 0)) (C := RX5) (T := TX5) (N := 13) hx hb hts in5_hide_5 hown hK.1 hP 0 rfl rfl 0 (by decide) (hts _ (List.mem_of_getElem? (i := 1) rfl)) (fun _ h9 => h9) rfl (zD_g DX5_hide 30 rfl) ?_
            refine lv_iload_n hx hb (zD_g DX5_hide 31 rfl) rfl (lv_at hl 2 rfl) ?_
            refine lv_iload hx hb (zD_g DX5_hide 32 rfl) (lv_at hl 0 rfl) ?_
            refine lv_iload_n hx hb (zD_g DX5_hide 33 rfl) rfl (lv_at hl 3 rfl) ?_
            obtain ⟨r24, hc25, hf⟩ := zb1_s hf
            refine z_Vp (As := [.int a_gift, .int r20, .int a_hour]) (rest := []) ⟨hx, hb, hml, hown, hts⟩ hK (c4_loss (things := w_things) (gifts := w_gifts) (days := w_days) (size := w_size) (weight := w_weight) (sound := w_sound) (harm := w_harm) (in_ := w_in_) (kind := w_kind) (owner := w_owner) (empty := w_empty) (room := w_room) (told := w_told) (gate := w_gate) (ear := w_ear) (scale := w_scale) (lost := w_lost) (watch := w_watch) (moments := w_moments) (kept := w_kept) (q := qw) hc25) (cwV 3 hts gX5_hide_X4_loss rfl rfl rfl hd4_loss ⟨Nat.le_of_ble_eq_true rfl, Nat.le_of_ble_eq_true rfl⟩) (zsubP hP [1] rfl) rfl rfl rfl rfl hl.1 rfl rfl (Nat.le_of_ble_eq_true rfl) (zD_g DX5_hide 34 rfl) ⟨Nat.zero_le _, Nat.zero_le _⟩ ?_
            cases hf
            exact hret _ _ _ _ hP hD hS (zD_g DX5_hide 35 rfl)
          · replace hf := z_t c23 hf
            refine lv_iload hx hb (zD_g DX5_hide 27 rfl) (lv_at hl 0 rfl) ?_
            cases hf
            exact hret _ _ _ _ hP hD hS (zD_g DX5_hide 28 rfl)
      · replace hf := z_t c19 hf
        refine lv_aload_n hx hb (zD_g DX5_hide 13 rfl) rfl (lv_at hl 0 rfl) ?_
        obtain ⟨r26, bads_27, noes_28, fulls_29, hc30, hf⟩ := zb4_s hf
        refine z_VB (As := []) (rest := []) (cs' := [(cHG q (qw 0) (qt 0) (qi 0) (qj 0) (qb 0) (qx 0) kept0 kept1 fabove fbelow bads_27 noes_28 fulls_29)]) (ws' := (zcat [(cHG q (qw 0) (qt 0) (qi 0) (qj 0) (qb 0) (qx 0) kept0 kept1 fabove fbelow bads_27 noes_28 fulls_29), (cWar cI qw w_things w_gifts w_days w_size w_weight w_sound w_harm w_in_ w_kind w_owner w_empty w_room w_told w_gate w_ear w_scale w_lost w_watch w_moments w_kept)])) ⟨hx, hb, hml, hown, hts⟩ hK (c5_refusedAsTen (kept0 := kept0) (kept1 := kept1) (fabove := fabove) (fbelow := fbelow) (bads := bads) (noes := noes) (fulls := fulls) (q := q) (qw := qw) (qt := qt) (qi := qi) (qj := qj) (qb := qb) (qx := qx) hc30) (cwV 0 hts gX5_hide_X5_refusedAsTen rfl rfl rfl hd5_refusedAsTen ⟨Nat.le_of_ble_eq_true rfl, Nat.le_of_ble_eq_true rfl⟩) hP hD hS hA 2 [0] [1] [1, 0] (by decide +kernel) rfl rfl rfl rfl rfl rfl rfl rfl rfl hl.1 rfl rfl (Nat.le_of_ble_eq_true rfl) (zD_g DX5_hide 14 rfl) ⟨Nat.zero_le _, Nat.zero_le _⟩ (fun H locs hP hD hS => ?_)
        cases hf
        exact hret _ _ _ _ hP hD hS (zD_g DX5_hide 15 rfl)
abbrev dlX5_wide : List (Nat × Instr × Nat) := [(0, .iload_n 1, 1), (1, .invokestatic 156, 3), (4, .ifCond .eq 12, 3), (7, .iload_n 2, 1), (8, .iconst 0, 1), (9, .iconst 1, 1), (10, .invokestatic 174, 3), (13, .ifCond .ne 10, 3), (16, .aload_n 0, 1), (17, .bipush (-2), 2), (19, .invokevirtual 67, 3), (22, .ireturn, 1), (23, .iload_n 2, 1), (24, .ifCond .ne 14, 3), (27, .aload_n 0, 1), (28, .getfield 10, 3), (31, .iload_n 1, 1), (32, .invokestatic 187, 3), (35, .goto 11, 3), (38, .aload_n 0, 1), (39, .getfield 10, 3), (42, .iload_n 1, 1), (43, .invokestatic 191, 3), (46, .ireturn, 1)]
theorem DX5_wide : zD cX5_wide dlX5_wide = true := by decide +kernel
set_option maxRecDepth 20000 in
theorem ggX5_wide_X5_isCity : GoodIn wsX5_wide wsX5_isCity := goodIn_r _ [5, 6, 7, 4, 8] (by decide +kernel) (by decide +kernel)
set_option maxRecDepth 20000 in
theorem gX5_wide_X5_isCity : GoodIn wsX5_wide (va_wsS RX5 156 yX5_isCity wsX5_isCity) := goodIn_app (goodIn_of _ (by decide +kernel)) ggX5_wide_X5_isCity
set_option maxRecDepth 20000 in
theorem ggX5_wide_X5_within : GoodIn wsX5_wide wsX5_within := goodIn_r _ [8] (by decide +kernel) (by decide +kernel)
set_option maxRecDepth 20000 in
theorem gX5_wide_X5_within : GoodIn wsX5_wide (va_wsS RX5 174 yX5_within wsX5_within) := goodIn_app (goodIn_of _ (by decide +kernel)) ggX5_wide_X5_within
set_option maxRecDepth 20000 in
theorem ggX5_wide_X5_counted : GoodIn wsX5_wide wsX5_counted := goodIn_r _ [12, 13, 14, 15, 77, 78, 79, 80, 81, 82, 83, 84, 85, 86, 87, 88, 89] (by decide +kernel) (by decide +kernel)
set_option maxRecDepth 20000 in
theorem gX5_wide_X5_counted : GoodIn wsX5_wide (wsV RX5 67 RX5 yX5_counted wsX5_counted) := goodIn_app (goodIn_of _ (by decide +kernel)) ggX5_wide_X5_counted
set_option maxRecDepth 20000 in
theorem ggX5_wide_X1_leastGate : GoodIn wsX5_wide wsX1_leastGate := goodIn_r _ [19, 20, 21, 22, 23, 24, 25, 26, 27, 28, 29, 30, 31, 32, 33, 34, 35, 36, 37, 38, 39, 40, 41, 42, 43, 44, 45, 4, 46, 47, 48, 49, 50, 51, 52, 53, 54, 55, 56, 57, 58, 59, 60, 61, 62, 63, 64, 65, 66, 90, 91, 92, 93, 94, 95, 96, 97, 98, 99, 100, 101, 102, 103, 104, 105, 106, 107, 108] (by decide +kernel) (by decide +kernel)
set_option maxRecDepth 20000 in
theorem gX5_wide_X1_leastGate : GoodIn wsX5_wide (va_wsS RX5 187 yX1_leastGate wsX1_leastGate) := goodIn_app (goodIn_of _ (by decide +kernel)) ggX5_wide_X1_leastGate
set_option maxRecDepth 20000 in
theorem ggX5_wide_X1_leastEar : GoodIn wsX5_wide wsX1_leastEar := goodIn_r _ [69, 20, 21, 23, 24, 25, 26, 27, 28, 29, 30, 31, 32, 33, 70, 71, 72, 73, 74, 75, 47, 48, 49, 50, 51, 52, 53, 54, 55, 56, 57, 58, 59, 60, 44, 61, 62, 63, 64, 65, 66, 45, 4, 46, 76, 40, 41, 42, 43, 90, 91, 92, 93, 94, 95, 96, 97, 98, 99, 100, 101, 102, 103, 104, 105, 106, 107, 108] (by decide +kernel) (by decide +kernel)
set_option maxRecDepth 20000 in
theorem gX5_wide_X1_leastEar : GoodIn wsX5_wide (va_wsS RX5 191 yX1_leastEar wsX1_leastEar) := goodIn_app (goodIn_of _ (by decide +kernel)) ggX5_wide_X1_leastEar
theorem hd5_wide : yX5_wide.cls = RX5 ∧ yX5_wide.cls ≠ "java/lang/invoke/MethodHandle" ∧ yX5_wide.cls ≠ "java/lang/invoke/VarHandle" ∧ (parseMethodDescriptor yX5_wide.desc).map (fun d => d.parameters.length) = some 2 := by decide +kernel
abbrev rm5_wide : Room := { frames := 4, cells := 0, slots := 0, locals := 92 }
theorem in5_wide_5 : ∀ w ∈ wsX50, w ∈ wsX5_wide := fun w h => List.mem_cons_of_mem _ (List.mem_append_left _ (List.mem_append_right _ h))
set_option maxHeartbeats 4000000 in
set_option maxRecDepth 100000 in
theorem c5_wide {l : Launch} {D : va_G} {cI cZ cB : ClassId} {q : Nat → Nat} {qw : Nat → Nat} {qt : Nat → Nat} {qi : Nat → Nat} {qj : Nat → Nat} {qb : Nat → Nat} {qx : Nat → Nat} {sz : Nat} {kept0 : Int32} {kept1 : Int32} {fabove : Int64} {fbelow : Int64} {bads : Int32} {noes : Int32} {fulls : Int32} {w_things : Int32} {w_gifts : Int32} {w_days : Int32} {w_size : Nat → Int32} {w_weight : Nat → Int32} {w_sound : Nat → Int32} {w_harm : Nat → Int32} {w_in_ : Nat → Int32} {w_kind : Nat → Int32} {w_owner : Nat → Int32} {w_empty : Nat → Int32} {w_room : Nat → Int32} {w_told : Nat → Int32} {w_gate : Nat → Int32} {w_ear : Nat → Int32} {w_scale : Nat → Int32} {w_lost : Nat → Int32} {w_watch : Nat → Int32} {w_moments : Int32} {w_kept : Nat → Int32} {a_city : Int32} {a_what : Int32} {r : Int32} {d_bads : Int32} {d_noes : Int32} {d_fulls : Int32} (hf : f5_wide bads noes fulls w_things w_gifts w_days w_weight w_sound w_in_ w_kind w_owner w_empty w_room w_gate w_ear w_scale a_city a_what = some (r, d_bads, d_noes, d_fulls)) : Met l yX5_wide wsX5_wide rm5_wide (zPm D cI cZ cB [.ref (q 0), .int a_city, .int a_what] sz (zcat [(cHG q (qw 0) (qt 0) (qi 0) (qj 0) (qb 0) (qx 0) kept0 kept1 fabove fbelow bads noes fulls), (cWar cI qw w_things w_gifts w_days w_size w_weight w_sound w_harm w_in_ w_kind w_owner w_empty w_room w_told w_gate w_ear w_scale w_lost w_watch w_moments w_kept)])) (zQm D (some (.int r)) (zcat [(cHG q (qw 0) (qt 0) (qi 0) (qj 0) (qb 0) (qx 0) kept0 kept1 fabove fbelow d_bads d_noes d_fulls), (cWar cI qw w_things w_gifts w_days w_size w_weight w_sound w_harm w_in_ w_kind w_owner w_empty w_room w_told w_gate w_ear w_scale w_lost w_watch w_moments w_kept)]) (va_A (zcat [(cHG q (qw 0) (qt 0) (qi 0) (qj 0) (qb 0) (qx 0) kept0 kept1 fabove fbelow bads noes fulls), (cWar cI qw w_things w_gifts w_days w_size w_weight w_sound w_harm w_in_ w_kind w_owner w_empty w_room w_told w_gate w_ear w_scale w_lost w_watch w_moments w_kept)]) sz)) 0 0 (va_A (zcat [(cHG q (qw 0) (qt 0) (qi 0) (qj 0) (qb 0) (qx 0) kept0 kept1 fabove fbelow bads noes fulls), (cWar cI qw w_things w_gifts w_days w_size w_weight w_sound w_harm w_in_ w_kind w_owner w_empty w_room w_told w_gate w_ear w_scale w_lost w_watch w_moments w_kept)]) sz) := by
  unfold f5_wide at hf
  refine z_mutI RX5 (by decide +kernel) rfl rfl (Nat.le_of_ble_eq_true rfl) ?_
  intro p e s m args below meth c Q A ls hx hb hml hown hts hK hP hD hS hA hret hl
  have hl : lv_has ls 3 [(0, .ref (q 0)), (1, .int a_city), (2, .int a_what)] := hl
  refine lv_iload_n hx hb (zD_g DX5_wide 0 rfl) rfl (lv_at hl 1 rfl) ?_
  obtain ⟨r1, hc2, hf⟩ := zb1_s hf
  refine z_Sp (As := [.int a_city]) (rest := []) ⟨hx, hb, hml, hown, hts⟩ hK (c5_isCity  hc2) (va_cwS 1 hts gX5_wide_X5_isCity rfl rfl rfl hd5_isCity ⟨Nat.le_of_ble_eq_true rfl, Nat.le_of_ble_eq_true rfl⟩) (hP.sub [] rfl) rfl hl.1 rfl rfl (Nat.le_of_ble_eq_true rfl) (zD_g DX5_wide 1 rfl) ⟨Nat.zero_le _, Nat.zero_le _⟩ ?_
  refine lv_if_eq (tgt := 16) hx hb (zD_g DX5_wide 2 rfl) (by decide) (fun c3 => ?_) (fun c3 => ?_)
  · replace hf := z_t c3 hf
    refine lv_aload_n hx hb (zD_g DX5_wide 8 rfl) rfl (lv_at hl 0 rfl) ?_
    refine lv_bipush (v := (-2 : Int32)) hx hb (zD_g DX5_wide 9 rfl) (by decide) ?_
    obtain ⟨r4, bads_5, noes_6, fulls_7, hc8, hf⟩ := zb4_s hf
    refine z_VB (As := [.int (-2 : Int32)]) (rest := []) (cs' := [(cHG q (qw 0) (qt 0) (qi 0) (qj 0) (qb 0) (qx 0) kept0 kept1 fabove fbelow bads_5 noes_6 fulls_7)]) (ws' := (zcat [(cHG q (qw 0) (qt 0) (qi 0) (qj 0) (qb 0) (qx 0) kept0 kept1 fabove fbelow bads_5 noes_6 fulls_7), (cWar cI qw w_things w_gifts w_days w_size w_weight w_sound w_harm w_in_ w_kind w_owner w_empty w_room w_told w_gate w_ear w_scale w_lost w_watch w_moments w_kept)])) ⟨hx, hb, hml, hown, hts⟩ hK (c5_counted (kept0 := kept0) (kept1 := kept1) (fabove := fabove) (fbelow := fbelow) (bads := bads) (noes := noes) (fulls := fulls) (q := q) (qw := qw) (qt := qt) (qi := qi) (qj := qj) (qb := qb) (qx := qx) hc8) (cwV 1 hts gX5_wide_X5_counted rfl rfl rfl hd5_counted ⟨Nat.le_of_ble_eq_true rfl, Nat.le_of_ble_eq_true rfl⟩) hP hD hS hA 2 [0] [1] [1, 0] (by decide +kernel) rfl rfl rfl rfl rfl rfl rfl rfl rfl hl.1 rfl rfl (Nat.le_of_ble_eq_true rfl) (zD_g DX5_wide 10 rfl) ⟨Nat.zero_le _, Nat.zero_le _⟩ (fun H locs hP hD hS => ?_)
    cases hf
    exact hret _ _ _ _ hP hD hS (zD_g DX5_wide 11 rfl)
  · replace hf := z_f c3 hf
    refine lv_iload_n hx hb (zD_g DX5_wide 3 rfl) rfl (lv_at hl 2 rfl) ?_
    refine lv_iconst (v := (0 : Int32)) hx hb (zD_g DX5_wide 4 rfl) (by decide) ?_
    refine lv_iconst (v := (1 : Int32)) hx hb (zD_g DX5_wide 5 rfl) (by decide) ?_
    obtain ⟨r9, hc10, hf⟩ := zb1_s hf
    refine z_Sp (As := [.int a_what, .int (0 : Int32), .int (1 : Int32)]) (rest := []) ⟨hx, hb, hml, hown, hts⟩ hK (c5_within  hc10) (va_cwS 3 hts gX5_wide_X5_within rfl rfl rfl hd5_within ⟨Nat.le_of_ble_eq_true rfl, Nat.le_of_ble_eq_true rfl⟩) (hP.sub [] rfl) rfl hl.1 rfl rfl (Nat.le_of_ble_eq_true rfl) (zD_g DX5_wide 6 rfl) ⟨Nat.zero_le _, Nat.zero_le _⟩ ?_
    refine lv_if_ne (tgt := 23) hx hb (zD_g DX5_wide 7 rfl) (by decide) (fun c11 => ?_) (fun c11 => ?_)
    · replace hf := z_f c11 hf
      refine lv_iload_n hx hb (zD_g DX5_wide 12 rfl) rfl (lv_at hl 2 rfl) ?_
      refine lv_if_ne (tgt := 38) hx hb (zD_g DX5_wide 13 rfl) (by decide) (fun c12 => ?_) (fun c12 => ?_)
      · replace hf := z_f c12 hf
        refine lv_aload_n hx hb (zD_g DX5_wide 19 rfl) rfl (lv_at hl 0 rfl) ?_
        refine va_get (D := D) (ci := 4) (v := .ref (qw 0)) (C := RX5) (T := TX5) (N := 13) hx hb hts in5_wide_5 hown hK.1 hP 0 rfl rfl 0 (by decide) (hts _ (List.mem_of_getElem? (i := 1) rfl)) (fun _ h9 => h9) rfl (zD_g DX5_wide 20 rfl) ?_
        refine lv_iload_n hx hb (zD_g DX5_wide 21 rfl) rfl (lv_at hl 1 rfl) ?_
        obtain ⟨r13, hc14, hf⟩ := zb1_s hf
        refine z_Sp (As := [.ref (qw 0), .int a_city]) (rest := []) ⟨hx, hb, hml, hown, hts⟩ hK (c1_leastEar (things := w_things) (gifts := w_gifts) (days := w_days) (size := w_size) (weight := w_weight) (sound := w_sound) (harm := w_harm) (in_ := w_in_) (kind := w_kind) (owner := w_owner) (empty := w_empty) (room := w_room) (told := w_told) (gate := w_gate) (ear := w_ear) (scale := w_scale) (lost := w_lost) (watch := w_watch) (moments := w_moments) (kept := w_kept) (q := qw) hc14) (va_cwS 2 hts gX5_wide_X1_leastEar rfl rfl rfl hd1_leastEar ⟨Nat.le_of_ble_eq_true rfl, Nat.le_of_ble_eq_true rfl⟩) (zsubP hP [1] rfl) rfl hl.1 rfl rfl (Nat.le_of_ble_eq_true rfl) (zD_g DX5_wide 22 rfl) ⟨Nat.zero_le _, Nat.zero_le _⟩ ?_
        cases hf
        exact hret _ _ _ _ hP hD hS (zD_g DX5_wide 23 rfl)
      · replace hf := z_t c12 hf
        refine lv_aload_n hx hb (zD_g DX5_wide 14 rfl) rfl (lv_at hl 0 rfl) ?_
        refine va_get (D := D) (ci := 4) (v := .ref (qw 0)) (C := RX5) (T := TX5) (N := 13) hx hb hts in5_wide_5 hown hK.1 hP 0 rfl rfl 0 (by decide) (hts _ (List.mem_of_getElem? (i := 1) rfl)) (fun _ h9 => h9) rfl (zD_g DX5_wide 15 rfl) ?_
        refine lv_iload_n hx hb (zD_g DX5_wide 16 rfl) rfl (lv_at hl 1 rfl) ?_
        obtain ⟨r15, hc16, hf⟩ := zb1_s hf
        refine z_Sp (As := [.ref (qw 0), .int a_city]) (rest := []) ⟨hx, hb, hml, hown, hts⟩ hK (c1_leastGate (things := w_things) (gifts := w_gifts) (days := w_days) (size := w_size) (weight := w_weight) (sound := w_sound) (harm := w_harm) (in_ := w_in_) (kind := w_kind) (owner := w_owner) (empty := w_empty) (room := w_room) (told := w_told) (gate := w_gate) (ear := w_ear) (scale := w_scale) (lost := w_lost) (watch := w_watch) (moments := w_moments) (kept := w_kept) (q := qw) hc16) (va_cwS 2 hts gX5_wide_X1_leastGate rfl rfl rfl hd1_leastGate ⟨Nat.le_of_ble_eq_true rfl, Nat.le_of_ble_eq_true rfl⟩) (zsubP hP [1] rfl) rfl hl.1 rfl rfl (Nat.le_of_ble_eq_true rfl) (zD_g DX5_wide 17 rfl) ⟨Nat.zero_le _, Nat.zero_le _⟩ ?_
        refine lv_goto (tgt := 46) hx hb (zD_g DX5_wide 18 rfl) (by decide) ?_
        cases hf
        exact hret _ _ _ _ hP hD hS (zD_g DX5_wide 23 rfl)
    · replace hf := z_t c11 hf
      refine lv_aload_n hx hb (zD_g DX5_wide 8 rfl) rfl (lv_at hl 0 rfl) ?_
      refine lv_bipush (v := (-2 : Int32)) hx hb (zD_g DX5_wide 9 rfl) (by decide) ?_
      obtain ⟨r17, bads_18, noes_19, fulls_20, hc21, hf⟩ := zb4_s hf
      refine z_VB (As := [.int (-2 : Int32)]) (rest := []) (cs' := [(cHG q (qw 0) (qt 0) (qi 0) (qj 0) (qb 0) (qx 0) kept0 kept1 fabove fbelow bads_18 noes_19 fulls_20)]) (ws' := (zcat [(cHG q (qw 0) (qt 0) (qi 0) (qj 0) (qb 0) (qx 0) kept0 kept1 fabove fbelow bads_18 noes_19 fulls_20), (cWar cI qw w_things w_gifts w_days w_size w_weight w_sound w_harm w_in_ w_kind w_owner w_empty w_room w_told w_gate w_ear w_scale w_lost w_watch w_moments w_kept)])) ⟨hx, hb, hml, hown, hts⟩ hK (c5_counted (kept0 := kept0) (kept1 := kept1) (fabove := fabove) (fbelow := fbelow) (bads := bads) (noes := noes) (fulls := fulls) (q := q) (qw := qw) (qt := qt) (qi := qi) (qj := qj) (qb := qb) (qx := qx) hc21) (cwV 1 hts gX5_wide_X5_counted rfl rfl rfl hd5_counted ⟨Nat.le_of_ble_eq_true rfl, Nat.le_of_ble_eq_true rfl⟩) hP hD hS hA 2 [0] [1] [1, 0] (by decide +kernel) rfl rfl rfl rfl rfl rfl rfl rfl rfl hl.1 rfl rfl (Nat.le_of_ble_eq_true rfl) (zD_g DX5_wide 10 rfl) ⟨Nat.zero_le _, Nat.zero_le _⟩ (fun H locs hP hD hS => ?_)
      cases hf
      exact hret _ _ _ _ hP hD hS (zD_g DX5_wide 11 rfl)
abbrev dlX5_commonDivisor : List (Nat × Instr × Nat) := [(0, .lload_n 0, 1), (1, .lstore 4, 2), (3, .lload_n 2, 1), (4, .lstore 6, 2), (6, .iconst 0, 1), (7, .istore 8, 2), (9, .iload 8, 2), (11, .bipush 100, 2), (13, .if_icmp .ge 31, 3), (16, .lload 6, 2), (18, .lconst 0, 1), (19, .lcmp, 1), (20, .ifCond .eq 24, 3), (23, .lload 4, 2), (25, .lload 6, 2), (27, .lrem, 1), (28, .lstore 9, 2), (30, .lload 6, 2), (32, .lstore 4, 2), (34, .lload 9, 2), (36, .lstore 6, 2), (38, .iinc 8 1, 3), (41, .goto (-32), 3), (44, .lload 4, 2), (46, .lreturn, 1)]
theorem DX5_commonDivisor : zD cX5_commonDivisor dlX5_commonDivisor = true := by decide +kernel
theorem hd5_commonDivisor : yX5_commonDivisor.cls ≠ "java/lang/invoke/MethodHandle" ∧ yX5_commonDivisor.cls ≠ "java/lang/invoke/VarHandle" ∧ (parseMethodDescriptor yX5_commonDivisor.desc).map (fun d => d.parameters.length) = some 2 := by decide +kernel
abbrev rm5_commonDivisor : Room := { frames := 0, cells := 0, slots := 0, locals := 0 }
set_option maxHeartbeats 4000000 in
set_option maxRecDepth 100000 in
theorem c5_commonDivisor {l : Launch} {D : va_G} {cI cZ cB : ClassId}   {a_a : Int64} {a_b : Int64} {r : Int64}  (hf : f5_commonDivisor a_a a_b = some r) : Met l yX5_commonDivisor wsX5_commonDivisor rm5_commonDivisor (zPp D cI cZ cB [.long a_a, .long a_b] ([] : va_W)) (zQp (some (.long r))) 0 0 (fun _ => False) := by
  unfold f5_commonDivisor at hf
  refine z_pureL RX5 (by decide +kernel) rfl rfl (Nat.le_of_ble_eq_true rfl) ?_
  intro p e s m args below meth c Q ls hx hb hml hown hts hK hP hret hl
  have hl : lv_has ls 11 [(0, .long a_a), (2, .long a_b)] := hl
  refine lv_lload_n hx hb (zD_g DX5_commonDivisor 0 rfl) rfl (lv_at hl 0 rfl) ?_
  refine lv_lstore (lv' := [(4, .long a_a), (0, .long a_a), (2, .long a_b)]) hx hb (zD_g DX5_commonDivisor 1 rfl) hl (by decide) rfl (fun ls hl => ?_)
  refine lv_lload_n hx hb (zD_g DX5_commonDivisor 2 rfl) rfl (lv_at hl 2 rfl) ?_
  refine lv_lstore (lv' := [(6, .long a_b), (4, .long a_a), (0, .long a_a), (2, .long a_b)]) hx hb (zD_g DX5_commonDivisor 3 rfl) hl (by decide) rfl (fun ls hl => ?_)
  refine lv_iconst (v := (0 : Int32)) hx hb (zD_g DX5_commonDivisor 4 rfl) (by decide) ?_
  refine lv_istore (lv' := [(8, .int (0 : Int32)), (6, .long a_b), (4, .long a_a), (0, .long a_a), (2, .long a_b)]) hx hb (zD_g DX5_commonDivisor 5 rfl) hl (by decide) rfl (fun ls hl => ?_)
  have hL4 : ∀ (k4 : Int64 → Option (Int64)) (hk4 : ∀ (y9 : Int64), k4 y9 = some r → ∀ (ls : Array Slot), lv_has ls 11 [(4, .long y9)] → W p l e rm5_commonDivisor s m args below meth c s.heap [] 0 0 Q (F0 m 44 ls [])) (n4 : Nat) (y1 : Int64) (y2 : Int64) (y3 : Int32), L5_commonDivisor_9 k4 n4 y1 y2 y3 = some r → ∀ (ls : Array Slot), lv_has ls 11 [(4, .long y1), (6, .long y2), (8, .int y3)] → W p l e rm5_commonDivisor s m args below meth c s.heap [] 0 0 Q (F0 m 9 ls []) := by
    intro k4 hk4 n4
    induction n4 with
    | zero =>
      intro y1 y2 y3 hf
      cases hf
    | succ n4 ih4 =>
      intro y1 y2 y3 hf ls hl
      rw [L5_commonDivisor_9] at hf
      refine lv_iload hx hb (zD_g DX5_commonDivisor 6 rfl) (lv_at hl 2 rfl) ?_
      refine lv_bipush (v := (100 : Int32)) hx hb (zD_g DX5_commonDivisor 7 rfl) (by decide) ?_
      refine lv_icmp_ge (tgt := 44) hx hb (zD_g DX5_commonDivisor 8 rfl) (by decide) (fun c5 => ?_) (fun c5 => ?_)
      · replace hf := z_t c5 hf
        exact hk4 _ hf ls (lv_sub hl [0] rfl)
      · replace hf := z_f c5 hf
        refine lv_lload hx hb (zD_g DX5_commonDivisor 9 rfl) (lv_at hl 1 rfl) ?_
        refine lv_lconst (v := (0 : Int64)) hx hb (zD_g DX5_commonDivisor 10 rfl) (by decide) ?_
        refine W.lcmp hx hb (zD_g DX5_commonDivisor 11 rfl) ?_
        refine lv_if_eq (tgt := 44) hx hb (zD_g DX5_commonDivisor 12 rfl) (by decide) (fun c6 => ?_) (fun c6 => ?_)
        · replace hf := z_t c6 hf
          exact hk4 _ hf ls (lv_sub hl [0] rfl)
        · replace hf := z_f c6 hf
          refine lv_lload hx hb (zD_g DX5_commonDivisor 13 rfl) (lv_at hl 0 rfl) ?_
          refine lv_lload hx hb (zD_g DX5_commonDivisor 14 rfl) (lv_at hl 1 rfl) ?_
          obtain ⟨h7, hf⟩ := zdl_s hf
          refine lv_lrem hx hb (zD_g DX5_commonDivisor 15 rfl) h7 ?_
          refine lv_topl (fun x8 ex8 => ?_)
          replace hf := zl_s hf x8 ex8
          refine lv_lstore (lv' := [(9, .long x8), (4, .long y1), (6, .long y2), (8, .int y3)]) hx hb (zD_g DX5_commonDivisor 16 rfl) hl (by decide) rfl (fun ls hl => ?_)
          refine lv_lload hx hb (zD_g DX5_commonDivisor 17 rfl) (lv_at hl 2 rfl) ?_
          refine lv_lstore (lv' := [(4, .long y2), (9, .long x8), (6, .long y2), (8, .int y3)]) hx hb (zD_g DX5_commonDivisor 18 rfl) hl (by decide) rfl (fun ls hl => ?_)
          refine lv_lload hx hb (zD_g DX5_commonDivisor 19 rfl) (lv_at hl 1 rfl) ?_
          refine lv_lstore (lv' := [(6, .long x8), (4, .long y2), (9, .long x8), (8, .int y3)]) hx hb (zD_g DX5_commonDivisor 20 rfl) hl (by decide) rfl (fun ls hl => ?_)
          refine lv_iinc (v := y3 + 1) (lv' := [(8, .int (y3 + 1)), (6, .long x8), (4, .long y2), (9, .long x8)]) (k := 3) hx hb (zD_g DX5_commonDivisor 21 rfl) hl rfl rfl (by decide) rfl (fun ls hl => ?_)
          refine lv_goto (tgt := 9) hx hb (zD_g DX5_commonDivisor 22 rfl) (by decide) ?_
          exact ih4 _ _ _ hf ls (lv_sub hl [2, 1, 0] rfl)
  refine hL4 _ (fun y9 hf ls hl => ?_) _ _ _ _ hf ls (lv_sub hl [2, 1, 0] rfl)
  refine lv_lload hx hb (zD_g DX5_commonDivisor 23 rfl) (lv_at hl 0 rfl) ?_
  cases hf
  exact hret _ _ (zD_g DX5_commonDivisor 24 rfl)
abbrev dlX5_keepFraction : List (Nat × Instr × Nat) := [(0, .lload_n 1, 1), (1, .lload_n 3, 1), (2, .invokestatic 282, 3), (5, .lstore 5, 2), (7, .lload 5, 2), (9, .lconst 0, 1), (10, .lcmp, 1), (11, .ifCond .le 19, 3), (14, .aload_n 0, 1), (15, .lload_n 1, 1), (16, .lload 5, 2), (18, .ldiv, 1), (19, .putfield 46, 3), (22, .aload_n 0, 1), (23, .lload_n 3, 1), (24, .lload 5, 2), (26, .ldiv, 1), (27, .putfield 50, 3), (30, .return_, 1)]
theorem DX5_keepFraction : zD cX5_keepFraction dlX5_keepFraction = true := by decide +kernel
set_option maxRecDepth 20000 in
theorem ggX5_keepFraction_X5_commonDivisor : GoodIn wsX5_keepFraction wsX5_commonDivisor := goodIn_r _ [6] (by decide +kernel) (by decide +kernel)
set_option maxRecDepth 20000 in
theorem gX5_keepFraction_X5_commonDivisor : GoodIn wsX5_keepFraction (va_wsS RX5 282 yX5_commonDivisor wsX5_commonDivisor) := goodIn_app (goodIn_of _ (by decide +kernel)) ggX5_keepFraction_X5_commonDivisor
theorem hd5_keepFraction : yX5_keepFraction.cls = RX5 ∧ yX5_keepFraction.cls ≠ "java/lang/invoke/MethodHandle" ∧ yX5_keepFraction.cls ≠ "java/lang/invoke/VarHandle" ∧ (parseMethodDescriptor yX5_keepFraction.desc).map (fun d => d.parameters.length) = some 2 := by decide +kernel
abbrev rm5_keepFraction : Room := { frames := 1, cells := 0, slots := 0, locals := 30 }
theorem in5_keepFraction_5 : ∀ w ∈ wsX50, w ∈ wsX5_keepFraction := fun w h => List.mem_cons_of_mem _ (List.mem_append_right _ h)
set_option maxHeartbeats 4000000 in
set_option maxRecDepth 100000 in
theorem c5_keepFraction {l : Launch} {D : va_G} {cI cZ cB : ClassId} {q : Nat → Nat} {qw : Nat → Nat} {qt : Nat → Nat} {qi : Nat → Nat} {qj : Nat → Nat} {qb : Nat → Nat} {qx : Nat → Nat} {sz : Nat} {kept0 : Int32} {kept1 : Int32} {fabove : Int64} {fbelow : Int64} {bads : Int32} {noes : Int32} {fulls : Int32} {a_over : Int64} {a_under : Int64}  {d_fabove : Int64} {d_fbelow : Int64} (hf : f5_keepFraction fabove fbelow a_over a_under = some (d_fabove, d_fbelow)) : Met l yX5_keepFraction wsX5_keepFraction rm5_keepFraction (zPm D cI cZ cB [.ref (q 0), .long a_over, .long a_under] sz (cHG q (qw 0) (qt 0) (qi 0) (qj 0) (qb 0) (qx 0) kept0 kept1 fabove fbelow bads noes fulls)) (zQm D none (cHG q (qw 0) (qt 0) (qi 0) (qj 0) (qb 0) (qx 0) kept0 kept1 d_fabove d_fbelow bads noes fulls) (va_A (cHG q (qw 0) (qt 0) (qi 0) (qj 0) (qb 0) (qx 0) kept0 kept1 fabove fbelow bads noes fulls) sz)) 0 0 (va_A (cHG q (qw 0) (qt 0) (qi 0) (qj 0) (qb 0) (qx 0) kept0 kept1 fabove fbelow bads noes fulls) sz) := by
  unfold f5_keepFraction at hf
  refine z_mutV RX5 (by decide +kernel) rfl rfl (Nat.le_of_ble_eq_true rfl) ?_
  intro p e s m args below meth c Q A ls hx hb hml hown hts hK hP hD hS hA hret hl
  have hl : lv_has ls 7 [(0, .ref (q 0)), (1, .long a_over), (3, .long a_under)] := hl
  refine lv_lload_n hx hb (zD_g DX5_keepFraction 0 rfl) rfl (lv_at hl 1 rfl) ?_
  refine lv_lload_n hx hb (zD_g DX5_keepFraction 1 rfl) rfl (lv_at hl 2 rfl) ?_
  obtain ⟨r1, hc2, hf⟩ := zb1_s hf
  refine z_Sp (As := [.long a_over, .long a_under]) (rest := []) ⟨hx, hb, hml, hown, hts⟩ hK (c5_commonDivisor  hc2) (va_cwS 2 hts gX5_keepFraction_X5_commonDivisor rfl rfl rfl hd5_commonDivisor ⟨Nat.le_of_ble_eq_true rfl, Nat.le_of_ble_eq_true rfl⟩) (hP.sub [] rfl) rfl hl.1 rfl rfl (Nat.le_of_ble_eq_true rfl) (zD_g DX5_keepFraction 2 rfl) ⟨Nat.zero_le _, Nat.zero_le _⟩ ?_
  refine lv_lstore (lv' := [(5, .long r1), (0, .ref (q 0)), (1, .long a_over), (3, .long a_under)]) hx hb (zD_g DX5_keepFraction 3 rfl) hl (by decide) rfl (fun ls hl => ?_)
  refine lv_lload hx hb (zD_g DX5_keepFraction 4 rfl) (lv_at hl 0 rfl) ?_
  refine lv_lconst (v := (0 : Int64)) hx hb (zD_g DX5_keepFraction 5 rfl) (by decide) ?_
  refine W.lcmp hx hb (zD_g DX5_keepFraction 6 rfl) ?_
  refine lv_if_le (tgt := 30) hx hb (zD_g DX5_keepFraction 7 rfl) (by decide) (fun c3 => ?_) (fun c3 => ?_)
  · replace hf := z_t c3 hf
    cases hf
    exact hret _ _ _ _ hP hD hS (zD_g DX5_keepFraction 18 rfl)
  · replace hf := z_f c3 hf
    refine lv_aload_n hx hb (zD_g DX5_keepFraction 8 rfl) rfl (lv_at hl 1 rfl) ?_
    refine lv_lload_n hx hb (zD_g DX5_keepFraction 9 rfl) rfl (lv_at hl 2 rfl) ?_
    refine lv_lload hx hb (zD_g DX5_keepFraction 10 rfl) (lv_at hl 0 rfl) ?_
    obtain ⟨h4, hf⟩ := zdl_s hf
    refine lv_ldiv hx hb (zD_g DX5_keepFraction 11 rfl) h4 ?_
    refine lv_topl (fun x5 ex5 => ?_)
    replace hf := zl_s hf x5 ex5
    refine z_put (D := D) (ci := 4) (v := .long x5) (ty := .long) (C := RX5) (T := TX5) (N := 13) (ws' := (cHG q (qw 0) (qt 0) (qi 0) (qj 0) (qb 0) (qx 0) kept0 kept1 x5 fbelow bads noes fulls)) hx hb hts in5_keepFraction_5 tyX5 tyX5_ok nmX5 hown hK.1 hP hD hS 0 rfl rfl 8 (by decide) (hts _ (List.mem_of_getElem? (i := 1) rfl)) (fun _ h9 => h9) rfl (tyX5_ok 8 (by decide)) rfl rfl (Nat.le_of_ble_eq_true rfl) rfl (zD_g DX5_keepFraction 12 rfl) (fun H locs hP hD hS => ?_)
    refine lv_aload_n hx hb (zD_g DX5_keepFraction 13 rfl) rfl (lv_at hl 1 rfl) ?_
    refine lv_lload_n hx hb (zD_g DX5_keepFraction 14 rfl) rfl (lv_at hl 3 rfl) ?_
    refine lv_lload hx hb (zD_g DX5_keepFraction 15 rfl) (lv_at hl 0 rfl) ?_
    obtain ⟨h6, hf⟩ := zdl_s hf
    refine lv_ldiv hx hb (zD_g DX5_keepFraction 16 rfl) h6 ?_
    refine lv_topl (fun x7 ex7 => ?_)
    replace hf := zl_s hf x7 ex7
    refine z_put (D := D) (ci := 4) (v := .long x7) (ty := .long) (C := RX5) (T := TX5) (N := 13) (ws' := (cHG q (qw 0) (qt 0) (qi 0) (qj 0) (qb 0) (qx 0) kept0 kept1 x5 x7 bads noes fulls)) hx hb hts in5_keepFraction_5 tyX5 tyX5_ok nmX5 hown hK.1 hP hD hS 0 rfl rfl 9 (by decide) (hts _ (List.mem_of_getElem? (i := 2) rfl)) (fun _ h9 => h9) rfl (tyX5_ok 9 (by decide)) rfl rfl (Nat.le_of_ble_eq_true rfl) rfl (zD_g DX5_keepFraction 17 rfl) (fun H locs hP hD hS => ?_)
    cases hf
    exact hret _ _ _ _ hP hD hS (zD_g DX5_keepFraction 18 rfl)
abbrev dlX5_belief : List (Nat × Instr × Nat) := [(0, .aload_n 0, 1), (1, .getfield 10, 3), (4, .iload_n 1, 1), (5, .invokevirtual 114, 3), (8, .ifCond .eq 13, 3), (11, .iload_n 2, 1), (12, .iconst 0, 1), (13, .bipush 10, 2), (15, .invokestatic 174, 3), (18, .ifCond .ne 10, 3), (21, .aload_n 0, 1), (22, .bipush (-2), 2), (24, .invokevirtual 67, 3), (27, .ireturn, 1), (28, .aload_n 0, 1), (29, .getfield 10, 3), (32, .iload_n 1, 1), (33, .iload_n 2, 1), (34, .iload_n 3, 1), (35, .invokestatic 194, 3), (38, .lstore 4, 2), (40, .lload 4, 2), (42, .lconst 0, 1), (43, .lcmp, 1), (44, .ifCond .gt 10, 3), (47, .aload_n 0, 1), (48, .bipush (-3), 2), (50, .invokevirtual 67, 3), (53, .ireturn, 1), (54, .aload_n 0, 1), (55, .aload_n 0, 1), (56, .getfield 10, 3), (59, .iload_n 1, 1), (60, .iload_n 2, 1), (61, .iload_n 3, 1), (62, .invokestatic 198, 3), (65, .lload 4, 2), (67, .invokevirtual 201, 3), (70, .iconst 1, 1), (71, .ireturn, 1)]
theorem DX5_belief : zD cX5_belief dlX5_belief = true := by decide +kernel
set_option maxRecDepth 20000 in
theorem ggX5_belief_X4_hasGift : GoodIn wsX5_belief wsX4_hasGift := goodIn_r _ [6, 7, 8, 9, 10, 79, 80, 81, 82, 83, 84, 85, 86, 87, 88, 89, 90, 91, 92, 93, 94, 95, 96, 97] (by decide +kernel) (by decide +kernel)
set_option maxRecDepth 20000 in
theorem gX5_belief_X4_hasGift : GoodIn wsX5_belief (wsV RX5 114 RX4 yX4_hasGift wsX4_hasGift) := goodIn_app (goodIn_of _ (by decide +kernel)) ggX5_belief_X4_hasGift
set_option maxRecDepth 20000 in
theorem ggX5_belief_X5_within : GoodIn wsX5_belief wsX5_within := goodIn_r _ [10] (by decide +kernel) (by decide +kernel)
set_option maxRecDepth 20000 in
theorem gX5_belief_X5_within : GoodIn wsX5_belief (va_wsS RX5 174 yX5_within wsX5_within) := goodIn_app (goodIn_of _ (by decide +kernel)) ggX5_belief_X5_within
set_option maxRecDepth 20000 in
theorem ggX5_belief_X5_counted : GoodIn wsX5_belief wsX5_counted := goodIn_r _ [15, 16, 17, 18, 66, 67, 68, 69, 70, 71, 72, 73, 74, 75, 76, 77, 78] (by decide +kernel) (by decide +kernel)
set_option maxRecDepth 20000 in
theorem gX5_belief_X5_counted : GoodIn wsX5_belief (wsV RX5 67 RX5 yX5_counted wsX5_counted) := goodIn_app (goodIn_of _ (by decide +kernel)) ggX5_belief_X5_counted
set_option maxRecDepth 20000 in
theorem ggX5_belief_X1_waysHeard : GoodIn wsX5_belief wsX1_waysHeard := goodIn_r _ [22, 23, 24, 25, 5, 26, 27, 28, 29, 30, 31, 32, 33, 34, 35, 36, 37, 38, 39, 40, 41, 42, 43, 44, 9, 45, 46, 47, 48, 49, 50, 51, 52, 21, 53, 79, 80, 81, 82, 83, 84, 85, 86, 87, 88, 89, 90, 91, 92, 93, 94, 95, 96, 97] (by decide +kernel) (by decide +kernel)
set_option maxRecDepth 20000 in
theorem gX5_belief_X1_waysHeard : GoodIn wsX5_belief (va_wsS RX5 194 yX1_waysHeard wsX1_waysHeard) := goodIn_app (goodIn_of _ (by decide +kernel)) ggX5_belief_X1_waysHeard
set_option maxRecDepth 20000 in
theorem ggX5_belief_X1_waysEmpty : GoodIn wsX5_belief wsX1_waysEmpty := goodIn_r _ [56, 33, 34, 35, 5, 36, 37, 38, 39, 40, 41, 42, 43, 44, 9, 45, 46, 47, 48, 49, 50, 23, 24, 25, 26, 27, 28, 29, 30, 31, 32, 51, 52, 21, 53, 79, 80, 81, 82, 83, 84, 85, 86, 87, 88, 89, 90, 91, 92, 93, 94, 95, 96, 97] (by decide +kernel) (by decide +kernel)
set_option maxRecDepth 20000 in
theorem gX5_belief_X1_waysEmpty : GoodIn wsX5_belief (va_wsS RX5 198 yX1_waysEmpty wsX1_waysEmpty) := goodIn_app (goodIn_of _ (by decide +kernel)) ggX5_belief_X1_waysEmpty
set_option maxRecDepth 20000 in
theorem ggX5_belief_X5_keepFraction : GoodIn wsX5_belief wsX5_keepFraction := goodIn_r _ [60, 61, 62, 63, 64, 9, 65, 66, 67, 68, 69, 70, 71, 72, 73, 74, 75, 76, 77, 78] (by decide +kernel) (by decide +kernel)
set_option maxRecDepth 20000 in
theorem gX5_belief_X5_keepFraction : GoodIn wsX5_belief (wsV RX5 201 RX5 yX5_keepFraction wsX5_keepFraction) := goodIn_app (goodIn_of _ (by decide +kernel)) ggX5_belief_X5_keepFraction
theorem hd5_belief : yX5_belief.cls = RX5 ∧ yX5_belief.cls ≠ "java/lang/invoke/MethodHandle" ∧ yX5_belief.cls ≠ "java/lang/invoke/VarHandle" ∧ (parseMethodDescriptor yX5_belief.desc).map (fun d => d.parameters.length) = some 3 := by decide +kernel
abbrev rm5_belief : Room := { frames := 4, cells := 0, slots := 0, locals := 95 }
theorem in5_belief_5 : ∀ w ∈ wsX50, w ∈ wsX5_belief := fun w h => List.mem_cons_of_mem _ (List.mem_append_left _ (List.mem_append_right _ h))
set_option maxHeartbeats 4000000 in
set_option maxRecDepth 100000 in
theorem c5_belief {l : Launch} {D : va_G} {cI cZ cB : ClassId} {q : Nat → Nat} {qw : Nat → Nat} {qt : Nat → Nat} {qi : Nat → Nat} {qj : Nat → Nat} {qb : Nat → Nat} {qx : Nat → Nat} {sz : Nat} {kept0 : Int32} {kept1 : Int32} {fabove : Int64} {fbelow : Int64} {bads : Int32} {noes : Int32} {fulls : Int32} {w_things : Int32} {w_gifts : Int32} {w_days : Int32} {w_size : Nat → Int32} {w_weight : Nat → Int32} {w_sound : Nat → Int32} {w_harm : Nat → Int32} {w_in_ : Nat → Int32} {w_kind : Nat → Int32} {w_owner : Nat → Int32} {w_empty : Nat → Int32} {w_room : Nat → Int32} {w_told : Nat → Int32} {w_gate : Nat → Int32} {w_ear : Nat → Int32} {w_scale : Nat → Int32} {w_lost : Nat → Int32} {w_watch : Nat → Int32} {w_moments : Int32} {w_kept : Nat → Int32} {a_gift : Int32} {a_c : Int32} {a_heard : Int32} {r : Int32} {d_fabove : Int64} {d_fbelow : Int64} {d_bads : Int32} {d_noes : Int32} {d_fulls : Int32} (hf : f5_belief fabove fbelow bads noes fulls w_things w_gifts w_sound w_in_ w_kind w_owner w_ear a_gift a_c a_heard = some (r, d_fabove, d_fbelow, d_bads, d_noes, d_fulls)) : Met l yX5_belief wsX5_belief rm5_belief (zPm D cI cZ cB [.ref (q 0), .int a_gift, .int a_c, .int a_heard] sz (zcat [(cHG q (qw 0) (qt 0) (qi 0) (qj 0) (qb 0) (qx 0) kept0 kept1 fabove fbelow bads noes fulls), (cWar cI qw w_things w_gifts w_days w_size w_weight w_sound w_harm w_in_ w_kind w_owner w_empty w_room w_told w_gate w_ear w_scale w_lost w_watch w_moments w_kept)])) (zQm D (some (.int r)) (zcat [(cHG q (qw 0) (qt 0) (qi 0) (qj 0) (qb 0) (qx 0) kept0 kept1 d_fabove d_fbelow d_bads d_noes d_fulls), (cWar cI qw w_things w_gifts w_days w_size w_weight w_sound w_harm w_in_ w_kind w_owner w_empty w_room w_told w_gate w_ear w_scale w_lost w_watch w_moments w_kept)]) (va_A (zcat [(cHG q (qw 0) (qt 0) (qi 0) (qj 0) (qb 0) (qx 0) kept0 kept1 fabove fbelow bads noes fulls), (cWar cI qw w_things w_gifts w_days w_size w_weight w_sound w_harm w_in_ w_kind w_owner w_empty w_room w_told w_gate w_ear w_scale w_lost w_watch w_moments w_kept)]) sz)) 0 0 (va_A (zcat [(cHG q (qw 0) (qt 0) (qi 0) (qj 0) (qb 0) (qx 0) kept0 kept1 fabove fbelow bads noes fulls), (cWar cI qw w_things w_gifts w_days w_size w_weight w_sound w_harm w_in_ w_kind w_owner w_empty w_room w_told w_gate w_ear w_scale w_lost w_watch w_moments w_kept)]) sz) := by
  unfold f5_belief at hf
  refine z_mutI RX5 (by decide +kernel) rfl rfl (Nat.le_of_ble_eq_true rfl) ?_
  intro p e s m args below meth c Q A ls hx hb hml hown hts hK hP hD hS hA hret hl
  have hl : lv_has ls 6 [(0, .ref (q 0)), (1, .int a_gift), (2, .int a_c), (3, .int a_heard)] := hl
  refine lv_aload_n hx hb (zD_g DX5_belief 0 rfl) rfl (lv_at hl 0 rfl) ?_
  refine va_get (D := D) (ci := 4) (v := .ref (qw 0)) (C := RX5) (T := TX5) (N := 13) hx hb hts in5_belief_5 hown hK.1 hP 0 rfl rfl 0 (by decide) (hts _ (List.mem_of_getElem? (i := 1) rfl)) (fun _ h9 => h9) rfl (zD_g DX5_belief 1 rfl) ?_
  refine lv_iload_n hx hb (zD_g DX5_belief 2 rfl) rfl (lv_at hl 1 rfl) ?_
  obtain ⟨r1, hc2, hf⟩ := zb1_s hf
  refine z_Vp (As := [.int a_gift]) (rest := []) ⟨hx, hb, hml, hown, hts⟩ hK (c4_hasGift (things := w_things) (gifts := w_gifts) (days := w_days) (size := w_size) (weight := w_weight) (sound := w_sound) (harm := w_harm) (in_ := w_in_) (kind := w_kind) (owner := w_owner) (empty := w_empty) (room := w_room) (told := w_told) (gate := w_gate) (ear := w_ear) (scale := w_scale) (lost := w_lost) (watch := w_watch) (moments := w_moments) (kept := w_kept) (q := qw) hc2) (cwV 1 hts gX5_belief_X4_hasGift rfl rfl rfl hd4_hasGift ⟨Nat.le_of_ble_eq_true rfl, Nat.le_of_ble_eq_true rfl⟩) (zsubP hP [1] rfl) rfl rfl rfl rfl hl.1 rfl rfl (Nat.le_of_ble_eq_true rfl) (zD_g DX5_belief 3 rfl) ⟨Nat.zero_le _, Nat.zero_le _⟩ ?_
  refine lv_if_eq (tgt := 21) hx hb (zD_g DX5_belief 4 rfl) (by decide) (fun c3 => ?_) (fun c3 => ?_)
  · replace hf := z_t c3 hf
    refine lv_aload_n hx hb (zD_g DX5_belief 10 rfl) rfl (lv_at hl 0 rfl) ?_
    refine lv_bipush (v := (-2 : Int32)) hx hb (zD_g DX5_belief 11 rfl) (by decide) ?_
    obtain ⟨r4, bads_5, noes_6, fulls_7, hc8, hf⟩ := zb4_s hf
    refine z_VB (As := [.int (-2 : Int32)]) (rest := []) (cs' := [(cHG q (qw 0) (qt 0) (qi 0) (qj 0) (qb 0) (qx 0) kept0 kept1 fabove fbelow bads_5 noes_6 fulls_7)]) (ws' := (zcat [(cHG q (qw 0) (qt 0) (qi 0) (qj 0) (qb 0) (qx 0) kept0 kept1 fabove fbelow bads_5 noes_6 fulls_7), (cWar cI qw w_things w_gifts w_days w_size w_weight w_sound w_harm w_in_ w_kind w_owner w_empty w_room w_told w_gate w_ear w_scale w_lost w_watch w_moments w_kept)])) ⟨hx, hb, hml, hown, hts⟩ hK (c5_counted (kept0 := kept0) (kept1 := kept1) (fabove := fabove) (fbelow := fbelow) (bads := bads) (noes := noes) (fulls := fulls) (q := q) (qw := qw) (qt := qt) (qi := qi) (qj := qj) (qb := qb) (qx := qx) hc8) (cwV 1 hts gX5_belief_X5_counted rfl rfl rfl hd5_counted ⟨Nat.le_of_ble_eq_true rfl, Nat.le_of_ble_eq_true rfl⟩) hP hD hS hA 2 [0] [1] [1, 0] (by decide +kernel) rfl rfl rfl rfl rfl rfl rfl rfl rfl hl.1 rfl rfl (Nat.le_of_ble_eq_true rfl) (zD_g DX5_belief 12 rfl) ⟨Nat.zero_le _, Nat.zero_le _⟩ (fun H locs hP hD hS => ?_)
    cases hf
    exact hret _ _ _ _ hP hD hS (zD_g DX5_belief 13 rfl)
  · replace hf := z_f c3 hf
    refine lv_iload_n hx hb (zD_g DX5_belief 5 rfl) rfl (lv_at hl 2 rfl) ?_
    refine lv_iconst (v := (0 : Int32)) hx hb (zD_g DX5_belief 6 rfl) (by decide) ?_
    refine lv_bipush (v := (10 : Int32)) hx hb (zD_g DX5_belief 7 rfl) (by decide) ?_
    obtain ⟨r9, hc10, hf⟩ := zb1_s hf
    refine z_Sp (As := [.int a_c, .int (0 : Int32), .int (10 : Int32)]) (rest := []) ⟨hx, hb, hml, hown, hts⟩ hK (c5_within  hc10) (va_cwS 3 hts gX5_belief_X5_within rfl rfl rfl hd5_within ⟨Nat.le_of_ble_eq_true rfl, Nat.le_of_ble_eq_true rfl⟩) (hP.sub [] rfl) rfl hl.1 rfl rfl (Nat.le_of_ble_eq_true rfl) (zD_g DX5_belief 8 rfl) ⟨Nat.zero_le _, Nat.zero_le _⟩ ?_
    refine lv_if_ne (tgt := 28) hx hb (zD_g DX5_belief 9 rfl) (by decide) (fun c11 => ?_) (fun c11 => ?_)
    · replace hf := z_f c11 hf
      refine lv_aload_n hx hb (zD_g DX5_belief 14 rfl) rfl (lv_at hl 0 rfl) ?_
      refine va_get (D := D) (ci := 4) (v := .ref (qw 0)) (C := RX5) (T := TX5) (N := 13) hx hb hts in5_belief_5 hown hK.1 hP 0 rfl rfl 0 (by decide) (hts _ (List.mem_of_getElem? (i := 1) rfl)) (fun _ h9 => h9) rfl (zD_g DX5_belief 15 rfl) ?_
      refine lv_iload_n hx hb (zD_g DX5_belief 16 rfl) rfl (lv_at hl 1 rfl) ?_
      refine lv_iload_n hx hb (zD_g DX5_belief 17 rfl) rfl (lv_at hl 2 rfl) ?_
      refine lv_iload_n hx hb (zD_g DX5_belief 18 rfl) rfl (lv_at hl 3 rfl) ?_
      obtain ⟨r12, hc13, hf⟩ := zb1_s hf
      refine z_Sp (As := [.ref (qw 0), .int a_gift, .int a_c, .int a_heard]) (rest := []) ⟨hx, hb, hml, hown, hts⟩ hK (c1_waysHeard (things := w_things) (gifts := w_gifts) (days := w_days) (size := w_size) (weight := w_weight) (sound := w_sound) (harm := w_harm) (in_ := w_in_) (kind := w_kind) (owner := w_owner) (empty := w_empty) (room := w_room) (told := w_told) (gate := w_gate) (ear := w_ear) (scale := w_scale) (lost := w_lost) (watch := w_watch) (moments := w_moments) (kept := w_kept) (q := qw) hc13) (va_cwS 4 hts gX5_belief_X1_waysHeard rfl rfl rfl hd1_waysHeard ⟨Nat.le_of_ble_eq_true rfl, Nat.le_of_ble_eq_true rfl⟩) (zsubP hP [1] rfl) rfl hl.1 rfl rfl (Nat.le_of_ble_eq_true rfl) (zD_g DX5_belief 19 rfl) ⟨Nat.zero_le _, Nat.zero_le _⟩ ?_
      refine lv_lstore (lv' := [(4, .long r12), (0, .ref (q 0)), (1, .int a_gift), (2, .int a_c), (3, .int a_heard)]) hx hb (zD_g DX5_belief 20 rfl) hl (by decide) rfl (fun ls hl => ?_)
      refine lv_lload hx hb (zD_g DX5_belief 21 rfl) (lv_at hl 0 rfl) ?_
      refine lv_lconst (v := (0 : Int64)) hx hb (zD_g DX5_belief 22 rfl) (by decide) ?_
      refine W.lcmp hx hb (zD_g DX5_belief 23 rfl) ?_
      refine lv_if_gt (tgt := 54) hx hb (zD_g DX5_belief 24 rfl) (by decide) (fun c14 => ?_) (fun c14 => ?_)
      · replace hf := z_t c14 hf
        refine lv_aload_n hx hb (zD_g DX5_belief 29 rfl) rfl (lv_at hl 1 rfl) ?_
        refine lv_aload_n hx hb (zD_g DX5_belief 30 rfl) rfl (lv_at hl 1 rfl) ?_
        refine va_get (D := D) (ci := 4) (v := .ref (qw 0)) (C := RX5) (T := TX5) (N := 13) hx hb hts in5_belief_5 hown hK.1 hP 0 rfl rfl 0 (by decide) (hts _ (List.mem_of_getElem? (i := 1) rfl)) (fun _ h9 => h9) rfl (zD_g DX5_belief 31 rfl) ?_
        refine lv_iload_n hx hb (zD_g DX5_belief 32 rfl) rfl (lv_at hl 2 rfl) ?_
        refine lv_iload_n hx hb (zD_g DX5_belief 33 rfl) rfl (lv_at hl 3 rfl) ?_
        refine lv_iload_n hx hb (zD_g DX5_belief 34 rfl) rfl (lv_at hl 4 rfl) ?_
        obtain ⟨r15, hc16, hf⟩ := zb1_s hf
        refine z_Sp (As := [.ref (qw 0), .int a_gift, .int a_c, .int a_heard]) (rest := [.ref (q 0)]) ⟨hx, hb, hml, hown, hts⟩ hK (c1_waysEmpty (things := w_things) (gifts := w_gifts) (days := w_days) (size := w_size) (weight := w_weight) (sound := w_sound) (harm := w_harm) (in_ := w_in_) (kind := w_kind) (owner := w_owner) (empty := w_empty) (room := w_room) (told := w_told) (gate := w_gate) (ear := w_ear) (scale := w_scale) (lost := w_lost) (watch := w_watch) (moments := w_moments) (kept := w_kept) (q := qw) hc16) (va_cwS 4 hts gX5_belief_X1_waysEmpty rfl rfl rfl hd1_waysEmpty ⟨Nat.le_of_ble_eq_true rfl, Nat.le_of_ble_eq_true rfl⟩) (zsubP hP [1] rfl) rfl hl.1 rfl rfl (Nat.le_of_ble_eq_true rfl) (zD_g DX5_belief 35 rfl) ⟨Nat.zero_le _, Nat.zero_le _⟩ ?_
        refine lv_lload hx hb (zD_g DX5_belief 36 rfl) (lv_at hl 0 rfl) ?_
        obtain ⟨fabove_17, fbelow_18, hc19, hf⟩ := zb2_s hf
        refine z_VB (As := [.long r15, .long r12]) (rest := []) (cs' := [(cHG q (qw 0) (qt 0) (qi 0) (qj 0) (qb 0) (qx 0) kept0 kept1 fabove_17 fbelow_18 bads noes fulls)]) (ws' := (zcat [(cHG q (qw 0) (qt 0) (qi 0) (qj 0) (qb 0) (qx 0) kept0 kept1 fabove_17 fbelow_18 bads noes fulls), (cWar cI qw w_things w_gifts w_days w_size w_weight w_sound w_harm w_in_ w_kind w_owner w_empty w_room w_told w_gate w_ear w_scale w_lost w_watch w_moments w_kept)])) ⟨hx, hb, hml, hown, hts⟩ hK (c5_keepFraction (kept0 := kept0) (kept1 := kept1) (fabove := fabove) (fbelow := fbelow) (bads := bads) (noes := noes) (fulls := fulls) (q := q) (qw := qw) (qt := qt) (qi := qi) (qj := qj) (qb := qb) (qx := qx) hc19) (cwV 2 hts gX5_belief_X5_keepFraction rfl rfl rfl hd5_keepFraction ⟨Nat.le_of_ble_eq_true rfl, Nat.le_of_ble_eq_true rfl⟩) hP hD hS hA 2 [0] [1] [1, 0] (by decide +kernel) rfl rfl rfl rfl rfl rfl rfl rfl rfl hl.1 rfl rfl (Nat.le_of_ble_eq_true rfl) (zD_g DX5_belief 37 rfl) ⟨Nat.zero_le _, Nat.zero_le _⟩ (fun H locs hP hD hS => ?_)
        refine lv_iconst (v := (1 : Int32)) hx hb (zD_g DX5_belief 38 rfl) (by decide) ?_
        cases hf
        exact hret _ _ _ _ hP hD hS (zD_g DX5_belief 39 rfl)
      · replace hf := z_f c14 hf
        refine lv_aload_n hx hb (zD_g DX5_belief 25 rfl) rfl (lv_at hl 1 rfl) ?_
        refine lv_bipush (v := (-3 : Int32)) hx hb (zD_g DX5_belief 26 rfl) (by decide) ?_
        obtain ⟨r20, bads_21, noes_22, fulls_23, hc24, hf⟩ := zb4_s hf
        refine z_VB (As := [.int (-3 : Int32)]) (rest := []) (cs' := [(cHG q (qw 0) (qt 0) (qi 0) (qj 0) (qb 0) (qx 0) kept0 kept1 fabove fbelow bads_21 noes_22 fulls_23)]) (ws' := (zcat [(cHG q (qw 0) (qt 0) (qi 0) (qj 0) (qb 0) (qx 0) kept0 kept1 fabove fbelow bads_21 noes_22 fulls_23), (cWar cI qw w_things w_gifts w_days w_size w_weight w_sound w_harm w_in_ w_kind w_owner w_empty w_room w_told w_gate w_ear w_scale w_lost w_watch w_moments w_kept)])) ⟨hx, hb, hml, hown, hts⟩ hK (c5_counted (kept0 := kept0) (kept1 := kept1) (fabove := fabove) (fbelow := fbelow) (bads := bads) (noes := noes) (fulls := fulls) (q := q) (qw := qw) (qt := qt) (qi := qi) (qj := qj) (qb := qb) (qx := qx) hc24) (cwV 1 hts gX5_belief_X5_counted rfl rfl rfl hd5_counted ⟨Nat.le_of_ble_eq_true rfl, Nat.le_of_ble_eq_true rfl⟩) hP hD hS hA 2 [0] [1] [1, 0] (by decide +kernel) rfl rfl rfl rfl rfl rfl rfl rfl rfl hl.1 rfl rfl (Nat.le_of_ble_eq_true rfl) (zD_g DX5_belief 27 rfl) ⟨Nat.zero_le _, Nat.zero_le _⟩ (fun H locs hP hD hS => ?_)
        cases hf
        exact hret _ _ _ _ hP hD hS (zD_g DX5_belief 28 rfl)
    · replace hf := z_t c11 hf
      refine lv_aload_n hx hb (zD_g DX5_belief 10 rfl) rfl (lv_at hl 0 rfl) ?_
      refine lv_bipush (v := (-2 : Int32)) hx hb (zD_g DX5_belief 11 rfl) (by decide) ?_
      obtain ⟨r25, bads_26, noes_27, fulls_28, hc29, hf⟩ := zb4_s hf
      refine z_VB (As := [.int (-2 : Int32)]) (rest := []) (cs' := [(cHG q (qw 0) (qt 0) (qi 0) (qj 0) (qb 0) (qx 0) kept0 kept1 fabove fbelow bads_26 noes_27 fulls_28)]) (ws' := (zcat [(cHG q (qw 0) (qt 0) (qi 0) (qj 0) (qb 0) (qx 0) kept0 kept1 fabove fbelow bads_26 noes_27 fulls_28), (cWar cI qw w_things w_gifts w_days w_size w_weight w_sound w_harm w_in_ w_kind w_owner w_empty w_room w_told w_gate w_ear w_scale w_lost w_watch w_moments w_kept)])) ⟨hx, hb, hml, hown, hts⟩ hK (c5_counted (kept0 := kept0) (kept1 := kept1) (fabove := fabove) (fbelow := fbelow) (bads := bads) (noes := noes) (fulls := fulls) (q := q) (qw := qw) (qt := qt) (qi := qi) (qj := qj) (qb := qb) (qx := qx) hc29) (cwV 1 hts gX5_belief_X5_counted rfl rfl rfl hd5_counted ⟨Nat.le_of_ble_eq_true rfl, Nat.le_of_ble_eq_true rfl⟩) hP hD hS hA 2 [0] [1] [1, 0] (by decide +kernel) rfl rfl rfl rfl rfl rfl rfl rfl rfl hl.1 rfl rfl (Nat.le_of_ble_eq_true rfl) (zD_g DX5_belief 12 rfl) ⟨Nat.zero_le _, Nat.zero_le _⟩ (fun H locs hP hD hS => ?_)
      cases hf
      exact hret _ _ _ _ hP hD hS (zD_g DX5_belief 13 rfl)
abbrev dlX5_knocks : List (Nat × Instr × Nat) := [(0, .iconst 1, 1), (1, .aload_n 0, 1), (2, .getfield 10, 3), (5, .getfield 205, 3), (8, .ishl, 1), (9, .iconst 1, 1), (10, .isub, 1), (11, .istore 4, 2), (13, .aload_n 0, 1), (14, .getfield 10, 3), (17, .iload_n 1, 1), (18, .invokevirtual 114, 3), (21, .ifCond .eq 23, 3), (24, .iload_n 2, 1), (25, .iconst 0, 1), (26, .iload 4, 2), (28, .invokestatic 174, 3), (31, .ifCond .eq 13, 3), (34, .iload_n 3, 1), (35, .iconst 0, 1), (36, .iload 4, 2), (38, .invokestatic 174, 3), (41, .ifCond .ne 10, 3), (44, .aload_n 0, 1), (45, .bipush (-2), 2), (47, .invokevirtual 67, 3), (50, .ireturn, 1), (51, .aload_n 0, 1), (52, .getfield 10, 3), (55, .iload_n 1, 1), (56, .iload_n 2, 1), (57, .invokevirtual 208, 3), (60, .aload_n 0, 1), (61, .getfield 10, 3), (64, .iload_n 1, 1), (65, .iload_n 3, 1), (66, .invokevirtual 208, 3), (69, .if_icmp .eq 7, 3), (72, .iconst 1, 1), (73, .goto 4, 3), (76, .iconst 0, 1), (77, .istore 5, 2), (79, .aload_n 0, 1), (80, .getfield 10, 3), (83, .iload_n 1, 1), (84, .iload_n 2, 1), (85, .invokevirtual 211, 3), (88, .aload_n 0, 1), (89, .getfield 10, 3), (92, .iload_n 1, 1), (93, .iload_n 3, 1), (94, .invokevirtual 211, 3), (97, .if_icmp .eq 7, 3), (100, .iconst 2, 1), (101, .goto 4, 3), (104, .iconst 0, 1), (105, .istore 6, 2), (107, .iload 5, 2), (109, .iload 6, 2), (111, .iadd, 1), (112, .ireturn, 1)]
theorem DX5_knocks : zD cX5_knocks dlX5_knocks = true := by decide +kernel
set_option maxRecDepth 20000 in
theorem ggX5_knocks_X4_hasGift : GoodIn wsX5_knocks wsX4_hasGift := goodIn_r _ [7, 8, 9, 10, 11, 67, 68, 69, 70, 71, 72, 73, 74, 75, 76, 77, 78, 79, 80, 81, 82, 83, 84, 85] (by decide +kernel) (by decide +kernel)
set_option maxRecDepth 20000 in
theorem gX5_knocks_X4_hasGift : GoodIn wsX5_knocks (wsV RX5 114 RX4 yX4_hasGift wsX4_hasGift) := goodIn_app (goodIn_of _ (by decide +kernel)) ggX5_knocks_X4_hasGift
set_option maxRecDepth 20000 in
theorem ggX5_knocks_X5_within : GoodIn wsX5_knocks wsX5_within := goodIn_r _ [11] (by decide +kernel) (by decide +kernel)
set_option maxRecDepth 20000 in
theorem gX5_knocks_X5_within : GoodIn wsX5_knocks (va_wsS RX5 174 yX5_within wsX5_within) := goodIn_app (goodIn_of _ (by decide +kernel)) ggX5_knocks_X5_within
set_option maxRecDepth 20000 in
theorem ggX5_knocks_X5_counted : GoodIn wsX5_knocks wsX5_counted := goodIn_r _ [16, 17, 18, 19, 54, 55, 56, 57, 58, 59, 60, 61, 62, 63, 64, 65, 66] (by decide +kernel) (by decide +kernel)
set_option maxRecDepth 20000 in
theorem gX5_knocks_X5_counted : GoodIn wsX5_knocks (wsV RX5 67 RX5 yX5_counted wsX5_counted) := goodIn_app (goodIn_of _ (by decide +kernel)) ggX5_knocks_X5_counted
set_option maxRecDepth 20000 in
theorem ggX5_knocks_X4_isHeard : GoodIn wsX5_knocks wsX4_isHeard := goodIn_r _ [23, 24, 25, 26, 27, 6, 28, 29, 30, 31, 10, 32, 33, 34, 35, 36, 37, 67, 68, 69, 70, 71, 72, 73, 74, 75, 76, 77, 78, 79, 80, 81, 82, 83, 84, 85] (by decide +kernel) (by decide +kernel)
set_option maxRecDepth 20000 in
theorem gX5_knocks_X4_isHeard : GoodIn wsX5_knocks (wsV RX5 208 RX4 yX4_isHeard wsX4_isHeard) := goodIn_app (goodIn_of _ (by decide +kernel)) ggX5_knocks_X4_isHeard
set_option maxRecDepth 20000 in
theorem ggX5_knocks_X4_isHeavy : GoodIn wsX5_knocks wsX4_isHeavy := goodIn_r _ [41, 42, 43, 44, 45, 6, 46, 30, 47, 48, 49, 50, 51, 52, 53, 31, 10, 32, 33, 34, 35, 36, 37, 67, 68, 69, 70, 71, 72, 73, 74, 75, 76, 77, 78, 79, 80, 81, 82, 83, 84, 85] (by decide +kernel) (by decide +kernel)
set_option maxRecDepth 20000 in
theorem gX5_knocks_X4_isHeavy : GoodIn wsX5_knocks (wsV RX5 211 RX4 yX4_isHeavy wsX4_isHeavy) := goodIn_app (goodIn_of _ (by decide +kernel)) ggX5_knocks_X4_isHeavy
theorem hd5_knocks : yX5_knocks.cls = RX5 ∧ yX5_knocks.cls ≠ "java/lang/invoke/MethodHandle" ∧ yX5_knocks.cls ≠ "java/lang/invoke/VarHandle" ∧ (parseMethodDescriptor yX5_knocks.desc).map (fun d => d.parameters.length) = some 3 := by decide +kernel
abbrev rm5_knocks : Room := { frames := 3, cells := 0, slots := 0, locals := 68 }
theorem in5_knocks_4 : ∀ w ∈ wsX40, w ∈ wsX5_knocks := fun w h => List.mem_cons_of_mem _ (List.mem_append_right _ h)
theorem in5_knocks_5 : ∀ w ∈ wsX50, w ∈ wsX5_knocks := fun w h => List.mem_cons_of_mem _ (List.mem_append_left _ (List.mem_append_right _ h))
set_option maxHeartbeats 4000000 in
set_option maxRecDepth 100000 in
theorem c5_knocks {l : Launch} {D : va_G} {cI cZ cB : ClassId} {q : Nat → Nat} {qw : Nat → Nat} {qt : Nat → Nat} {qi : Nat → Nat} {qj : Nat → Nat} {qb : Nat → Nat} {qx : Nat → Nat} {sz : Nat} {kept0 : Int32} {kept1 : Int32} {fabove : Int64} {fbelow : Int64} {bads : Int32} {noes : Int32} {fulls : Int32} {w_things : Int32} {w_gifts : Int32} {w_days : Int32} {w_size : Nat → Int32} {w_weight : Nat → Int32} {w_sound : Nat → Int32} {w_harm : Nat → Int32} {w_in_ : Nat → Int32} {w_kind : Nat → Int32} {w_owner : Nat → Int32} {w_empty : Nat → Int32} {w_room : Nat → Int32} {w_told : Nat → Int32} {w_gate : Nat → Int32} {w_ear : Nat → Int32} {w_scale : Nat → Int32} {w_lost : Nat → Int32} {w_watch : Nat → Int32} {w_moments : Int32} {w_kept : Nat → Int32} {a_gift : Int32} {a_one : Int32} {a_other : Int32} {r : Int32} {d_bads : Int32} {d_noes : Int32} {d_fulls : Int32} (hf : f5_knocks bads noes fulls w_things w_gifts w_days w_weight w_sound w_kind w_owner w_empty w_ear w_scale a_gift a_one a_other = some (r, d_bads, d_noes, d_fulls)) : Met l yX5_knocks wsX5_knocks rm5_knocks (zPm D cI cZ cB [.ref (q 0), .int a_gift, .int a_one, .int a_other] sz (zcat [(cHG q (qw 0) (qt 0) (qi 0) (qj 0) (qb 0) (qx 0) kept0 kept1 fabove fbelow bads noes fulls), (cWar cI qw w_things w_gifts w_days w_size w_weight w_sound w_harm w_in_ w_kind w_owner w_empty w_room w_told w_gate w_ear w_scale w_lost w_watch w_moments w_kept)])) (zQm D (some (.int r)) (zcat [(cHG q (qw 0) (qt 0) (qi 0) (qj 0) (qb 0) (qx 0) kept0 kept1 fabove fbelow d_bads d_noes d_fulls), (cWar cI qw w_things w_gifts w_days w_size w_weight w_sound w_harm w_in_ w_kind w_owner w_empty w_room w_told w_gate w_ear w_scale w_lost w_watch w_moments w_kept)]) (va_A (zcat [(cHG q (qw 0) (qt 0) (qi 0) (qj 0) (qb 0) (qx 0) kept0 kept1 fabove fbelow bads noes fulls), (cWar cI qw w_things w_gifts w_days w_size w_weight w_sound w_harm w_in_ w_kind w_owner w_empty w_room w_told w_gate w_ear w_scale w_lost w_watch w_moments w_kept)]) sz)) 0 0 (va_A (zcat [(cHG q (qw 0) (qt 0) (qi 0) (qj 0) (qb 0) (qx 0) kept0 kept1 fabove fbelow bads noes fulls), (cWar cI qw w_things w_gifts w_days w_size w_weight w_sound w_harm w_in_ w_kind w_owner w_empty w_room w_told w_gate w_ear w_scale w_lost w_watch w_moments w_kept)]) sz) := by
  unfold f5_knocks at hf
  refine z_mutI RX5 (by decide +kernel) rfl rfl (Nat.le_of_ble_eq_true rfl) ?_
  intro p e s m args below meth c Q A ls hx hb hml hown hts hK hP hD hS hA hret hl
  have hl : lv_has ls 7 [(0, .ref (q 0)), (1, .int a_gift), (2, .int a_one), (3, .int a_other)] := hl
  refine lv_iconst (v := (1 : Int32)) hx hb (zD_g DX5_knocks 0 rfl) (by decide) ?_
  refine lv_aload_n hx hb (zD_g DX5_knocks 1 rfl) rfl (lv_at hl 0 rfl) ?_
  refine va_get (D := D) (ci := 4) (v := .ref (qw 0)) (C := RX5) (T := TX5) (N := 13) hx hb hts in5_knocks_5 hown hK.1 hP 0 rfl rfl 0 (by decide) (hts _ (List.mem_of_getElem? (i := 1) rfl)) (fun _ h9 => h9) rfl (zD_g DX5_knocks 2 rfl) ?_
  refine va_get (D := D) (ci := 3) (v := .int w_things) (C := RX4) (T := TX4) (N := 19) hx hb hts in5_knocks_4 hown hK.1 hP 1 rfl rfl 0 (by decide) (hts _ (List.mem_of_getElem? (i := 2) rfl)) (fun _ h9 => h9) rfl (zD_g DX5_knocks 3 rfl) ?_
  refine lv_ishl hx hb (zD_g DX5_knocks 4 rfl) ?_
  refine lv_iconst (v := (1 : Int32)) hx hb (zD_g DX5_knocks 5 rfl) (by decide) ?_
  refine lv_isub hx hb (zD_g DX5_knocks 6 rfl) ?_
  refine lv_topi (fun x1 ex1 => ?_)
  replace hf := zl_s hf x1 ex1
  refine lv_istore (lv' := [(4, .int x1), (0, .ref (q 0)), (1, .int a_gift), (2, .int a_one), (3, .int a_other)]) hx hb (zD_g DX5_knocks 7 rfl) hl (by decide) rfl (fun ls hl => ?_)
  refine lv_aload_n hx hb (zD_g DX5_knocks 8 rfl) rfl (lv_at hl 1 rfl) ?_
  refine va_get (D := D) (ci := 4) (v := .ref (qw 0)) (C := RX5) (T := TX5) (N := 13) hx hb hts in5_knocks_5 hown hK.1 hP 0 rfl rfl 0 (by decide) (hts _ (List.mem_of_getElem? (i := 1) rfl)) (fun _ h9 => h9) rfl (zD_g DX5_knocks 9 rfl) ?_
  refine lv_iload_n hx hb (zD_g DX5_knocks 10 rfl) rfl (lv_at hl 2 rfl) ?_
  obtain ⟨r2, hc3, hf⟩ := zb1_s hf
  refine z_Vp (As := [.int a_gift]) (rest := []) ⟨hx, hb, hml, hown, hts⟩ hK (c4_hasGift (things := w_things) (gifts := w_gifts) (days := w_days) (size := w_size) (weight := w_weight) (sound := w_sound) (harm := w_harm) (in_ := w_in_) (kind := w_kind) (owner := w_owner) (empty := w_empty) (room := w_room) (told := w_told) (gate := w_gate) (ear := w_ear) (scale := w_scale) (lost := w_lost) (watch := w_watch) (moments := w_moments) (kept := w_kept) (q := qw) hc3) (cwV 1 hts gX5_knocks_X4_hasGift rfl rfl rfl hd4_hasGift ⟨Nat.le_of_ble_eq_true rfl, Nat.le_of_ble_eq_true rfl⟩) (zsubP hP [1] rfl) rfl rfl rfl rfl hl.1 rfl rfl (Nat.le_of_ble_eq_true rfl) (zD_g DX5_knocks 11 rfl) ⟨Nat.zero_le _, Nat.zero_le _⟩ ?_
  refine lv_if_eq (tgt := 44) hx hb (zD_g DX5_knocks 12 rfl) (by decide) (fun c4 => ?_) (fun c4 => ?_)
  · replace hf := z_t c4 hf
    refine lv_aload_n hx hb (zD_g DX5_knocks 23 rfl) rfl (lv_at hl 1 rfl) ?_
    refine lv_bipush (v := (-2 : Int32)) hx hb (zD_g DX5_knocks 24 rfl) (by decide) ?_
    obtain ⟨r5, bads_6, noes_7, fulls_8, hc9, hf⟩ := zb4_s hf
    refine z_VB (As := [.int (-2 : Int32)]) (rest := []) (cs' := [(cHG q (qw 0) (qt 0) (qi 0) (qj 0) (qb 0) (qx 0) kept0 kept1 fabove fbelow bads_6 noes_7 fulls_8)]) (ws' := (zcat [(cHG q (qw 0) (qt 0) (qi 0) (qj 0) (qb 0) (qx 0) kept0 kept1 fabove fbelow bads_6 noes_7 fulls_8), (cWar cI qw w_things w_gifts w_days w_size w_weight w_sound w_harm w_in_ w_kind w_owner w_empty w_room w_told w_gate w_ear w_scale w_lost w_watch w_moments w_kept)])) ⟨hx, hb, hml, hown, hts⟩ hK (c5_counted (kept0 := kept0) (kept1 := kept1) (fabove := fabove) (fbelow := fbelow) (bads := bads) (noes := noes) (fulls := fulls) (q := q) (qw := qw) (qt := qt) (qi := qi) (qj := qj) (qb := qb) (qx := qx) hc9) (cwV 1 hts gX5_knocks_X5_counted rfl rfl rfl hd5_counted ⟨Nat.le_of_ble_eq_true rfl, Nat.le_of_ble_eq_true rfl⟩) hP hD hS hA 2 [0] [1] [1, 0] (by decide +kernel) rfl rfl rfl rfl rfl rfl rfl rfl rfl hl.1 rfl rfl (Nat.le_of_ble_eq_true rfl) (zD_g DX5_knocks 25 rfl) ⟨Nat.zero_le _, Nat.zero_le _⟩ (fun H locs hP hD hS => ?_)
    cases hf
    exact hret _ _ _ _ hP hD hS (zD_g DX5_knocks 26 rfl)
  · replace hf := z_f c4 hf
    refine lv_iload_n hx hb (zD_g DX5_knocks 13 rfl) rfl (lv_at hl 3 rfl) ?_
    refine lv_iconst (v := (0 : Int32)) hx hb (zD_g DX5_knocks 14 rfl) (by decide) ?_
    refine lv_iload hx hb (zD_g DX5_knocks 15 rfl) (lv_at hl 0 rfl) ?_
    obtain ⟨r10, hc11, hf⟩ := zb1_s hf
    refine z_Sp (As := [.int a_one, .int (0 : Int32), .int x1]) (rest := []) ⟨hx, hb, hml, hown, hts⟩ hK (c5_within  hc11) (va_cwS 3 hts gX5_knocks_X5_within rfl rfl rfl hd5_within ⟨Nat.le_of_ble_eq_true rfl, Nat.le_of_ble_eq_true rfl⟩) (hP.sub [] rfl) rfl hl.1 rfl rfl (Nat.le_of_ble_eq_true rfl) (zD_g DX5_knocks 16 rfl) ⟨Nat.zero_le _, Nat.zero_le _⟩ ?_
    refine lv_if_eq (tgt := 44) hx hb (zD_g DX5_knocks 17 rfl) (by decide) (fun c12 => ?_) (fun c12 => ?_)
    · replace hf := z_t c12 hf
      refine lv_aload_n hx hb (zD_g DX5_knocks 23 rfl) rfl (lv_at hl 1 rfl) ?_
      refine lv_bipush (v := (-2 : Int32)) hx hb (zD_g DX5_knocks 24 rfl) (by decide) ?_
      obtain ⟨r13, bads_14, noes_15, fulls_16, hc17, hf⟩ := zb4_s hf
      refine z_VB (As := [.int (-2 : Int32)]) (rest := []) (cs' := [(cHG q (qw 0) (qt 0) (qi 0) (qj 0) (qb 0) (qx 0) kept0 kept1 fabove fbelow bads_14 noes_15 fulls_16)]) (ws' := (zcat [(cHG q (qw 0) (qt 0) (qi 0) (qj 0) (qb 0) (qx 0) kept0 kept1 fabove fbelow bads_14 noes_15 fulls_16), (cWar cI qw w_things w_gifts w_days w_size w_weight w_sound w_harm w_in_ w_kind w_owner w_empty w_room w_told w_gate w_ear w_scale w_lost w_watch w_moments w_kept)])) ⟨hx, hb, hml, hown, hts⟩ hK (c5_counted (kept0 := kept0) (kept1 := kept1) (fabove := fabove) (fbelow := fbelow) (bads := bads) (noes := noes) (fulls := fulls) (q := q) (qw := qw) (qt := qt) (qi := qi) (qj := qj) (qb := qb) (qx := qx) hc17) (cwV 1 hts gX5_knocks_X5_counted rfl rfl rfl hd5_counted ⟨Nat.le_of_ble_eq_true rfl, Nat.le_of_ble_eq_true rfl⟩) hP hD hS hA 2 [0] [1] [1, 0] (by decide +kernel) rfl rfl rfl rfl rfl rfl rfl rfl rfl hl.1 rfl rfl (Nat.le_of_ble_eq_true rfl) (zD_g DX5_knocks 25 rfl) ⟨Nat.zero_le _, Nat.zero_le _⟩ (fun H locs hP hD hS => ?_)
      cases hf
      exact hret _ _ _ _ hP hD hS (zD_g DX5_knocks 26 rfl)
    · replace hf := z_f c12 hf
      refine lv_iload_n hx hb (zD_g DX5_knocks 18 rfl) rfl (lv_at hl 4 rfl) ?_
      refine lv_iconst (v := (0 : Int32)) hx hb (zD_g DX5_knocks 19 rfl) (by decide) ?_
      refine lv_iload hx hb (zD_g DX5_knocks 20 rfl) (lv_at hl 0 rfl) ?_
      obtain ⟨r18, hc19, hf⟩ := zb1_s hf
      refine z_Sp (As := [.int a_other, .int (0 : Int32), .int x1]) (rest := []) ⟨hx, hb, hml, hown, hts⟩ hK (c5_within  hc19) (va_cwS 3 hts gX5_knocks_X5_within rfl rfl rfl hd5_within ⟨Nat.le_of_ble_eq_true rfl, Nat.le_of_ble_eq_true rfl⟩) (hP.sub [] rfl) rfl hl.1 rfl rfl (Nat.le_of_ble_eq_true rfl) (zD_g DX5_knocks 21 rfl) ⟨Nat.zero_le _, Nat.zero_le _⟩ ?_
      refine lv_if_ne (tgt := 51) hx hb (zD_g DX5_knocks 22 rfl) (by decide) (fun c20 => ?_) (fun c20 => ?_)
      · replace hf := z_f c20 hf
        refine lv_aload_n hx hb (zD_g DX5_knocks 27 rfl) rfl (lv_at hl 1 rfl) ?_
        refine va_get (D := D) (ci := 4) (v := .ref (qw 0)) (C := RX5) (T := TX5) (N := 13) hx hb hts in5_knocks_5 hown hK.1 hP 0 rfl rfl 0 (by decide) (hts _ (List.mem_of_getElem? (i := 1) rfl)) (fun _ h9 => h9) rfl (zD_g DX5_knocks 28 rfl) ?_
        refine lv_iload_n hx hb (zD_g DX5_knocks 29 rfl) rfl (lv_at hl 2 rfl) ?_
        refine lv_iload_n hx hb (zD_g DX5_knocks 30 rfl) rfl (lv_at hl 3 rfl) ?_
        obtain ⟨r21, hc22, hf⟩ := zb1_s hf
        refine z_Vp (As := [.int a_gift, .int a_one]) (rest := []) ⟨hx, hb, hml, hown, hts⟩ hK (c4_isHeard (things := w_things) (gifts := w_gifts) (days := w_days) (size := w_size) (weight := w_weight) (sound := w_sound) (harm := w_harm) (in_ := w_in_) (kind := w_kind) (owner := w_owner) (empty := w_empty) (room := w_room) (told := w_told) (gate := w_gate) (ear := w_ear) (scale := w_scale) (lost := w_lost) (watch := w_watch) (moments := w_moments) (kept := w_kept) (q := qw) hc22) (cwV 2 hts gX5_knocks_X4_isHeard rfl rfl rfl hd4_isHeard ⟨Nat.le_of_ble_eq_true rfl, Nat.le_of_ble_eq_true rfl⟩) (zsubP hP [1] rfl) rfl rfl rfl rfl hl.1 rfl rfl (Nat.le_of_ble_eq_true rfl) (zD_g DX5_knocks 31 rfl) ⟨Nat.zero_le _, Nat.zero_le _⟩ ?_
        refine lv_aload_n hx hb (zD_g DX5_knocks 32 rfl) rfl (lv_at hl 1 rfl) ?_
        refine va_get (D := D) (ci := 4) (v := .ref (qw 0)) (C := RX5) (T := TX5) (N := 13) hx hb hts in5_knocks_5 hown hK.1 hP 0 rfl rfl 0 (by decide) (hts _ (List.mem_of_getElem? (i := 1) rfl)) (fun _ h9 => h9) rfl (zD_g DX5_knocks 33 rfl) ?_
        refine lv_iload_n hx hb (zD_g DX5_knocks 34 rfl) rfl (lv_at hl 2 rfl) ?_
        refine lv_iload_n hx hb (zD_g DX5_knocks 35 rfl) rfl (lv_at hl 4 rfl) ?_
        obtain ⟨r23, hc24, hf⟩ := zb1_s hf
        refine z_Vp (As := [.int a_gift, .int a_other]) (rest := [.int r21]) ⟨hx, hb, hml, hown, hts⟩ hK (c4_isHeard (things := w_things) (gifts := w_gifts) (days := w_days) (size := w_size) (weight := w_weight) (sound := w_sound) (harm := w_harm) (in_ := w_in_) (kind := w_kind) (owner := w_owner) (empty := w_empty) (room := w_room) (told := w_told) (gate := w_gate) (ear := w_ear) (scale := w_scale) (lost := w_lost) (watch := w_watch) (moments := w_moments) (kept := w_kept) (q := qw) hc24) (cwV 2 hts gX5_knocks_X4_isHeard rfl rfl rfl hd4_isHeard ⟨Nat.le_of_ble_eq_true rfl, Nat.le_of_ble_eq_true rfl⟩) (zsubP hP [1] rfl) rfl rfl rfl rfl hl.1 rfl rfl (Nat.le_of_ble_eq_true rfl) (zD_g DX5_knocks 36 rfl) ⟨Nat.zero_le _, Nat.zero_le _⟩ ?_
        obtain ⟨v26, hr34, hf⟩ := zb1_s hf
        have hJ34 : ∀ (H : Heap) (locs : List Loc), va_P D vwCl (zcat [(cHG q (qw 0) (qt 0) (qi 0) (qj 0) (qb 0) (qx 0) kept0 kept1 fabove fbelow bads noes fulls), (cWar cI qw w_things w_gifts w_days w_size w_weight w_sound w_harm w_in_ w_kind w_owner w_empty w_room w_told w_gate w_ear w_scale w_lost w_watch w_moments w_kept)]) H → va_D A (zcat [(cHG q (qw 0) (qt 0) (qi 0) (qj 0) (qb 0) (qx 0) kept0 kept1 fabove fbelow bads noes fulls), (cWar cI qw w_things w_gifts w_days w_size w_weight w_sound w_harm w_in_ w_kind w_owner w_empty w_room w_told w_gate w_ear w_scale w_lost w_watch w_moments w_kept)]) → va_S A s.heap H locs → ∀ (ls : Array Slot), lv_has ls 7 [(0, .ref (q 0)), (1, .int a_gift), (2, .int a_one), (3, .int a_other)] → W p l e rm5_knocks s m args below meth c H locs 0 0 Q (F0 m 77 ls [.int v26]) := by
          intro H locs hP hD hS ls hl
          refine lv_istore (lv' := [(5, .int v26), (0, .ref (q 0)), (1, .int a_gift), (2, .int a_one), (3, .int a_other)]) hx hb (zD_g DX5_knocks 41 rfl) hl (by decide) rfl (fun ls hl => ?_)
          refine lv_aload_n hx hb (zD_g DX5_knocks 42 rfl) rfl (lv_at hl 1 rfl) ?_
          refine va_get (D := D) (ci := 4) (v := .ref (qw 0)) (C := RX5) (T := TX5) (N := 13) hx hb hts in5_knocks_5 hown hK.1 hP 0 rfl rfl 0 (by decide) (hts _ (List.mem_of_getElem? (i := 1) rfl)) (fun _ h9 => h9) rfl (zD_g DX5_knocks 43 rfl) ?_
          refine lv_iload_n hx hb (zD_g DX5_knocks 44 rfl) rfl (lv_at hl 2 rfl) ?_
          refine lv_iload_n hx hb (zD_g DX5_knocks 45 rfl) rfl (lv_at hl 3 rfl) ?_
          obtain ⟨r27, hc28, hf⟩ := zb1_s hf
          refine z_Vp (As := [.int a_gift, .int a_one]) (rest := []) ⟨hx, hb, hml, hown, hts⟩ hK (c4_isHeavy (things := w_things) (gifts := w_gifts) (days := w_days) (size := w_size) (weight := w_weight) (sound := w_sound) (harm := w_harm) (in_ := w_in_) (kind := w_kind) (owner := w_owner) (empty := w_empty) (room := w_room) (told := w_told) (gate := w_gate) (ear := w_ear) (scale := w_scale) (lost := w_lost) (watch := w_watch) (moments := w_moments) (kept := w_kept) (q := qw) hc28) (cwV 2 hts gX5_knocks_X4_isHeavy rfl rfl rfl hd4_isHeavy ⟨Nat.le_of_ble_eq_true rfl, Nat.le_of_ble_eq_true rfl⟩) (zsubP hP [1] rfl) rfl rfl rfl rfl hl.1 rfl rfl (Nat.le_of_ble_eq_true rfl) (zD_g DX5_knocks 46 rfl) ⟨Nat.zero_le _, Nat.zero_le _⟩ ?_
          refine lv_aload_n hx hb (zD_g DX5_knocks 47 rfl) rfl (lv_at hl 1 rfl) ?_
          refine va_get (D := D) (ci := 4) (v := .ref (qw 0)) (C := RX5) (T := TX5) (N := 13) hx hb hts in5_knocks_5 hown hK.1 hP 0 rfl rfl 0 (by decide) (hts _ (List.mem_of_getElem? (i := 1) rfl)) (fun _ h9 => h9) rfl (zD_g DX5_knocks 48 rfl) ?_
          refine lv_iload_n hx hb (zD_g DX5_knocks 49 rfl) rfl (lv_at hl 2 rfl) ?_
          refine lv_iload_n hx hb (zD_g DX5_knocks 50 rfl) rfl (lv_at hl 4 rfl) ?_
          obtain ⟨r29, hc30, hf⟩ := zb1_s hf
          refine z_Vp (As := [.int a_gift, .int a_other]) (rest := [.int r27]) ⟨hx, hb, hml, hown, hts⟩ hK (c4_isHeavy (things := w_things) (gifts := w_gifts) (days := w_days) (size := w_size) (weight := w_weight) (sound := w_sound) (harm := w_harm) (in_ := w_in_) (kind := w_kind) (owner := w_owner) (empty := w_empty) (room := w_room) (told := w_told) (gate := w_gate) (ear := w_ear) (scale := w_scale) (lost := w_lost) (watch := w_watch) (moments := w_moments) (kept := w_kept) (q := qw) hc30) (cwV 2 hts gX5_knocks_X4_isHeavy rfl rfl rfl hd4_isHeavy ⟨Nat.le_of_ble_eq_true rfl, Nat.le_of_ble_eq_true rfl⟩) (zsubP hP [1] rfl) rfl rfl rfl rfl hl.1 rfl rfl (Nat.le_of_ble_eq_true rfl) (zD_g DX5_knocks 51 rfl) ⟨Nat.zero_le _, Nat.zero_le _⟩ ?_
          refine lv_icmp_eq (tgt := 104) hx hb (zD_g DX5_knocks 52 rfl) (by decide) (fun c31 => ?_) (fun c31 => ?_)
          · replace hf := z_t c31 hf
            refine lv_iconst (v := (0 : Int32)) hx hb (zD_g DX5_knocks 55 rfl) (by decide) ?_
            refine lv_istore (lv' := [(6, .int (0 : Int32)), (5, .int v26), (0, .ref (q 0)), (1, .int a_gift), (2, .int a_one), (3, .int a_other)]) hx hb (zD_g DX5_knocks 56 rfl) hl (by decide) rfl (fun ls hl => ?_)
            refine lv_iload hx hb (zD_g DX5_knocks 57 rfl) (lv_at hl 1 rfl) ?_
            refine lv_iload hx hb (zD_g DX5_knocks 58 rfl) (lv_at hl 0 rfl) ?_
            refine lv_iadd hx hb (zD_g DX5_knocks 59 rfl) ?_
            refine lv_topi (fun x32 ex32 => ?_)
            replace hf := zl_s hf x32 ex32
            cases hf
            exact hret _ _ _ _ hP hD hS (zD_g DX5_knocks 60 rfl)
          · replace hf := z_f c31 hf
            refine lv_iconst (v := (2 : Int32)) hx hb (zD_g DX5_knocks 53 rfl) (by decide) ?_
            refine lv_goto (tgt := 105) hx hb (zD_g DX5_knocks 54 rfl) (by decide) ?_
            refine lv_istore (lv' := [(6, .int (2 : Int32)), (5, .int v26), (0, .ref (q 0)), (1, .int a_gift), (2, .int a_one), (3, .int a_other)]) hx hb (zD_g DX5_knocks 56 rfl) hl (by decide) rfl (fun ls hl => ?_)
            refine lv_iload hx hb (zD_g DX5_knocks 57 rfl) (lv_at hl 1 rfl) ?_
            refine lv_iload hx hb (zD_g DX5_knocks 58 rfl) (lv_at hl 0 rfl) ?_
            refine lv_iadd hx hb (zD_g DX5_knocks 59 rfl) ?_
            refine lv_topi (fun x33 ex33 => ?_)
            replace hf := zl_s hf x33 ex33
            cases hf
            exact hret _ _ _ _ hP hD hS (zD_g DX5_knocks 60 rfl)
        clear hf
        have hf := hr34
        refine lv_icmp_eq (tgt := 76) hx hb (zD_g DX5_knocks 37 rfl) (by decide) (fun c25 => ?_) (fun c25 => ?_)
        · replace hf := z_t c25 hf
          refine lv_iconst (v := (0 : Int32)) hx hb (zD_g DX5_knocks 40 rfl) (by decide) ?_
          cases hf
          exact hJ34 _ _ hP hD hS ls (lv_sub hl [1, 2, 3, 4] rfl)
        · replace hf := z_f c25 hf
          refine lv_iconst (v := (1 : Int32)) hx hb (zD_g DX5_knocks 38 rfl) (by decide) ?_
          refine lv_goto (tgt := 77) hx hb (zD_g DX5_knocks 39 rfl) (by decide) ?_
          cases hf
          exact hJ34 _ _ hP hD hS ls (lv_sub hl [1, 2, 3, 4] rfl)
      · replace hf := z_t c20 hf
        refine lv_aload_n hx hb (zD_g DX5_knocks 23 rfl) rfl (lv_at hl 1 rfl) ?_
        refine lv_bipush (v := (-2 : Int32)) hx hb (zD_g DX5_knocks 24 rfl) (by decide) ?_
        obtain ⟨r35, bads_36, noes_37, fulls_38, hc39, hf⟩ := zb4_s hf
        refine z_VB (As := [.int (-2 : Int32)]) (rest := []) (cs' := [(cHG q (qw 0) (qt 0) (qi 0) (qj 0) (qb 0) (qx 0) kept0 kept1 fabove fbelow bads_36 noes_37 fulls_38)]) (ws' := (zcat [(cHG q (qw 0) (qt 0) (qi 0) (qj 0) (qb 0) (qx 0) kept0 kept1 fabove fbelow bads_36 noes_37 fulls_38), (cWar cI qw w_things w_gifts w_days w_size w_weight w_sound w_harm w_in_ w_kind w_owner w_empty w_room w_told w_gate w_ear w_scale w_lost w_watch w_moments w_kept)])) ⟨hx, hb, hml, hown, hts⟩ hK (c5_counted (kept0 := kept0) (kept1 := kept1) (fabove := fabove) (fbelow := fbelow) (bads := bads) (noes := noes) (fulls := fulls) (q := q) (qw := qw) (qt := qt) (qi := qi) (qj := qj) (qb := qb) (qx := qx) hc39) (cwV 1 hts gX5_knocks_X5_counted rfl rfl rfl hd5_counted ⟨Nat.le_of_ble_eq_true rfl, Nat.le_of_ble_eq_true rfl⟩) hP hD hS hA 2 [0] [1] [1, 0] (by decide +kernel) rfl rfl rfl rfl rfl rfl rfl rfl rfl hl.1 rfl rfl (Nat.le_of_ble_eq_true rfl) (zD_g DX5_knocks 25 rfl) ⟨Nat.zero_le _, Nat.zero_le _⟩ (fun H locs hP hD hS => ?_)
        cases hf
        exact hret _ _ _ _ hP hD hS (zD_g DX5_knocks 26 rfl)
