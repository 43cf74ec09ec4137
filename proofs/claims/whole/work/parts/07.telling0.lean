abbrev dlX3_add : List (Nat × Instr × Nat) := [(0, .iload_n 1, 1), (1, .iconst 0, 1), (2, .bipush 127, 2), (4, .invokestatic 32, 3), (7, .ifCond .ne 6, 3), (10, .bipush (-2), 2), (12, .ireturn, 1), (13, .aload_n 0, 1), (14, .getfield 9, 3), (17, .sipush 150, 3), (20, .if_icmp .lt 6, 3), (23, .bipush (-4), 2), (25, .ireturn, 1), (26, .aload_n 0, 1), (27, .getfield 21, 3), (30, .aload_n 0, 1), (31, .getfield 9, 3), (34, .iload_n 1, 1), (35, .i2b, 1), (36, .bastore, 1), (37, .aload_n 0, 1), (38, .dup, 1), (39, .getfield 9, 3), (42, .iconst 1, 1), (43, .iadd, 1), (44, .putfield 9, 3), (47, .aload_n 0, 1), (48, .getfield 9, 3), (51, .ireturn, 1)]
theorem DX3_add : zD cX3_add dlX3_add = true := by decide +kernel
set_option maxRecDepth 20000 in
theorem ggX3_add_X5_within : GoodIn wsX3_add wsX5_within := goodIn_r _ [5] (by decide +kernel) (by decide +kernel)
set_option maxRecDepth 20000 in
theorem gX3_add_X5_within_n32 : GoodIn wsX3_add (wsX5_within) := ggX3_add_X5_within
theorem hd3_add : yX3_add.cls = RX3 ∧ yX3_add.cls ≠ "java/lang/invoke/MethodHandle" ∧ yX3_add.cls ≠ "java/lang/invoke/VarHandle" ∧ (parseMethodDescriptor yX3_add.desc).map (fun d => d.parameters.length) = some 1 := by decide +kernel
abbrev rm3_add : Room := { frames := 1, cells := 0, slots := 0, locals := 22 }
theorem in3_add_3 : ∀ w ∈ wsX30, w ∈ wsX3_add := fun w h => List.mem_cons_of_mem _ (List.mem_append_right _ h)
set_option maxHeartbeats 4000000 in
set_option maxRecDepth 100000 in
theorem c3_add {l : Launch} {D : va_G} {cI cZ cB : ClassId} {q : Nat → Nat} {sz : Nat} {tlen : Int32} {titems : Int32} {tfault : Int32} {tbytes : Nat → Int32} {twords : Nat → Int32} {tnumbers : Nat → Int32} {a_c : Int32} {r : Int32} {d_tlen : Int32} {d_tbytes : Nat → Int32} (hf : f3_add tlen tbytes a_c = some (r, d_tlen, d_tbytes)) : Met l yX3_add wsX3_add rm3_add (zPm D cI cZ cB [.ref (q 0), .int a_c] sz (cTell cI cB q tlen titems tfault tbytes twords tnumbers)) (zQm D (some (.int r)) (cTell cI cB q d_tlen titems tfault d_tbytes twords tnumbers) (va_A (cTell cI cB q tlen titems tfault tbytes twords tnumbers) sz)) 0 0 (va_A (cTell cI cB q tlen titems tfault tbytes twords tnumbers) sz) := by
  unfold f3_add at hf
  refine z_mutI RX3 (by decide +kernel) rfl rfl (Nat.le_of_ble_eq_true rfl) ?_
  intro p e s m args below meth c Q A ls hx hb hml hown hts hK hP hD hS hA hret hl
  have hl : lv_has ls 2 [(0, .ref (q 0)), (1, .int a_c)] := hl
  refine lv_iload_n hx hb (zD_g DX3_add 0 rfl) rfl (lv_at hl 1 rfl) ?_
  refine lv_iconst (v := (0 : Int32)) hx hb (zD_g DX3_add 1 rfl) (by decide) ?_
  refine lv_bipush (v := (127 : Int32)) hx hb (zD_g DX3_add 2 rfl) (by decide) ?_
  obtain ⟨r1, hc2, hf⟩ := zb1_s hf
  refine z_Np (As := [.int a_c, .int (0 : Int32), .int (127 : Int32)]) (rest := []) ⟨hx, hb, hml, hown, hts⟩ hK (c5_within  hc2) ⟨va_cnB (own := RX3) (host := RX5) (index := 32) (y := yX5_within) 3 hts gX3_add_X5_within_n32 rfl rfl rfl (hK.2 (RX3, 32, yX5_within) (List.mem_of_getElem? (i := 4) rfl)) (hts _ (List.mem_of_getElem? (i := 4) rfl)) hd5_within ⟨Nat.le_of_ble_eq_true rfl, Nat.le_of_ble_eq_true rfl⟩, (hts _ (List.mem_of_getElem? (i := 3) rfl)), trivial⟩ (hP.sub [] rfl) rfl hl.1 rfl rfl (Nat.le_of_ble_eq_true rfl) (zD_g DX3_add 3 rfl) ⟨Nat.zero_le _, Nat.zero_le _⟩ ?_
  refine lv_if_ne (tgt := 13) hx hb (zD_g DX3_add 4 rfl) (by decide) (fun c3 => ?_) (fun c3 => ?_)
  · replace hf := z_f c3 hf
    refine lv_aload_n hx hb (zD_g DX3_add 7 rfl) rfl (lv_at hl 0 rfl) ?_
    refine va_get (D := D) (ci := 2) (v := .int tlen) (C := RX3) (T := TX3) (N := 6) hx hb hts in3_add_3 hown hK.1 hP 0 rfl rfl 0 (by decide) (hts _ (List.mem_of_getElem? (i := 1) rfl)) (fun _ h9 => h9) rfl (zD_g DX3_add 8 rfl) ?_
    refine lv_sipush (v := (150 : Int32)) hx hb (zD_g DX3_add 9 rfl) (by decide) ?_
    refine lv_icmp_lt (tgt := 26) hx hb (zD_g DX3_add 10 rfl) (by decide) (fun c4 => ?_) (fun c4 => ?_)
    · replace hf := z_t c4 hf
      refine lv_aload_n hx hb (zD_g DX3_add 13 rfl) rfl (lv_at hl 0 rfl) ?_
      refine va_get (D := D) (ci := 2) (v := .ref (q 1)) (C := RX3) (T := TX3) (N := 6) hx hb hts in3_add_3 hown hK.1 hP 0 rfl rfl 3 (by decide) (hts _ (List.mem_of_getElem? (i := 2) rfl)) (fun _ h9 => h9) rfl (zD_g DX3_add 14 rfl) ?_
      refine lv_aload_n hx hb (zD_g DX3_add 15 rfl) rfl (lv_at hl 0 rfl) ?_
      refine va_get (D := D) (ci := 2) (v := .int tlen) (C := RX3) (T := TX3) (N := 6) hx hb hts in3_add_3 hown hK.1 hP 0 rfl rfl 0 (by decide) (hts _ (List.mem_of_getElem? (i := 1) rfl)) (fun _ h9 => h9) rfl (zD_g DX3_add 16 rfl) ?_
      refine lv_iload_n hx hb (zD_g DX3_add 17 rfl) rfl (lv_at hl 1 rfl) ?_
      refine lv_i2b (v := (a_c).toInt8.toInt32) hx hb (zD_g DX3_add 18 rfl) rfl ?_
      refine lv_topi (fun x5 ex5 => ?_)
      replace hf := zl_s hf x5 ex5
      obtain ⟨h6, hf⟩ := zg_s hf
      refine z_bast (k := tlen.toNatClampNeg) (ws' := (cTell cI cB q tlen titems tfault (upd tbytes tlen.toNatClampNeg (vp_nar .byte x5)) twords tnumbers)) hx hb hK.1 hP hD hS 1 2 rfl rfl h6 rfl rfl (zD_g DX3_add 19 rfl) (fun H locs hP hD hS => ?_)
      refine lv_aload_n hx hb (zD_g DX3_add 20 rfl) rfl (lv_at hl 0 rfl) ?_
      refine lv_dup hx hb (zD_g DX3_add 21 rfl) rfl ?_
      refine va_get (D := D) (ci := 2) (v := .int tlen) (C := RX3) (T := TX3) (N := 6) hx hb hts in3_add_3 hown hK.1 hP 0 rfl rfl 0 (by decide) (hts _ (List.mem_of_getElem? (i := 1) rfl)) (fun _ h9 => h9) rfl (zD_g DX3_add 22 rfl) ?_
      refine lv_iconst (v := (1 : Int32)) hx hb (zD_g DX3_add 23 rfl) (by decide) ?_
      refine lv_iadd hx hb (zD_g DX3_add 24 rfl) ?_
      refine lv_topi (fun x7 ex7 => ?_)
      replace hf := zl_s hf x7 ex7
      refine z_put (D := D) (ci := 2) (v := .int x7) (ty := .int) (C := RX3) (T := TX3) (N := 6) (ws' := (cTell cI cB q x7 titems tfault (upd tbytes tlen.toNatClampNeg (vp_nar .byte x5)) twords tnumbers)) hx hb hts in3_add_3 tyX3 tyX3_ok nmX3 hown hK.1 hP hD hS 0 rfl rfl 0 (by decide) (hts _ (List.mem_of_getElem? (i := 1) rfl)) (fun _ h9 => h9) rfl (tyX3_ok 0 (by decide)) rfl rfl (Nat.le_of_ble_eq_true rfl) rfl (zD_g DX3_add 25 rfl) (fun H locs hP hD hS => ?_)
      refine lv_aload_n hx hb (zD_g DX3_add 26 rfl) rfl (lv_at hl 0 rfl) ?_
      refine va_get (D := D) (ci := 2) (v := .int x7) (C := RX3) (T := TX3) (N := 6) hx hb hts in3_add_3 hown hK.1 hP 0 rfl rfl 0 (by decide) (hts _ (List.mem_of_getElem? (i := 1) rfl)) (fun _ h9 => h9) rfl (zD_g DX3_add 27 rfl) ?_
      cases hf
      exact hret _ _ _ _ hP hD hS (zD_g DX3_add 28 rfl)
    · replace hf := z_f c4 hf
      refine lv_bipush (v := (-4 : Int32)) hx hb (zD_g DX3_add 11 rfl) (by decide) ?_
      cases hf
      exact hret _ _ _ _ hP hD hS (zD_g DX3_add 12 rfl)
  · replace hf := z_t c3 hf
    refine lv_bipush (v := (-2 : Int32)) hx hb (zD_g DX3_add 5 rfl) (by decide) ?_
    cases hf
    exact hret _ _ _ _ hP hD hS (zD_g DX3_add 6 rfl)
abbrev dlX3_makeEmpty : List (Nat × Instr × Nat) := [(0, .aload_n 0, 1), (1, .getfield 9, 3), (4, .istore_n 1, 1), (5, .aload_n 0, 1), (6, .iconst 0, 1), (7, .putfield 9, 3), (10, .iload_n 1, 1), (11, .ireturn, 1)]
theorem DX3_makeEmpty : zD cX3_makeEmpty dlX3_makeEmpty = true := by decide +kernel
theorem hd3_makeEmpty : yX3_makeEmpty.cls = RX3 ∧ yX3_makeEmpty.cls ≠ "java/lang/invoke/MethodHandle" ∧ yX3_makeEmpty.cls ≠ "java/lang/invoke/VarHandle" ∧ (parseMethodDescriptor yX3_makeEmpty.desc).map (fun d => d.parameters.length) = some 0 := by decide +kernel
abbrev rm3_makeEmpty : Room := { frames := 0, cells := 0, slots := 0, locals := 0 }
theorem in3_makeEmpty_3 : ∀ w ∈ wsX30, w ∈ wsX3_makeEmpty := fun w h => List.mem_cons_of_mem _ (List.mem_append_right _ h)
set_option maxHeartbeats 4000000 in
set_option maxRecDepth 100000 in
theorem c3_makeEmpty {l : Launch} {D : va_G} {cI cZ cB : ClassId} {q : Nat → Nat} {sz : Nat} {tlen : Int32} {titems : Int32} {tfault : Int32} {tbytes : Nat → Int32} {twords : Nat → Int32} {tnumbers : Nat → Int32}  {r : Int32} {d_tlen : Int32} (hf : f3_makeEmpty tlen = some (r, d_tlen)) : Met l yX3_makeEmpty wsX3_makeEmpty rm3_makeEmpty (zPm D cI cZ cB [.ref (q 0)] sz (cTell cI cB q tlen titems tfault tbytes twords tnumbers)) (zQm D (some (.int r)) (cTell cI cB q d_tlen titems tfault tbytes twords tnumbers) (va_A (cTell cI cB q tlen titems tfault tbytes twords tnumbers) sz)) 0 0 (va_A (cTell cI cB q tlen titems tfault tbytes twords tnumbers) sz) := by
  unfold f3_makeEmpty at hf
  refine z_mutI RX3 (by decide +kernel) rfl rfl (Nat.le_of_ble_eq_true rfl) ?_
  intro p e s m args below meth c Q A ls hx hb hml hown hts hK hP hD hS hA hret hl
  have hl : lv_has ls 2 [(0, .ref (q 0))] := hl
  refine lv_aload_n hx hb (zD_g DX3_makeEmpty 0 rfl) rfl (lv_at hl 0 rfl) ?_
  refine va_get (D := D) (ci := 2) (v := .int tlen) (C := RX3) (T := TX3) (N := 6) hx hb hts in3_makeEmpty_3 hown hK.1 hP 0 rfl rfl 0 (by decide) (hts _ (List.mem_of_getElem? (i := 1) rfl)) (fun _ h9 => h9) rfl (zD_g DX3_makeEmpty 1 rfl) ?_
  refine lv_istore_n (lv' := [(1, .int tlen), (0, .ref (q 0))]) hx hb (zD_g DX3_makeEmpty 2 rfl) rfl hl (by decide) rfl (fun ls hl => ?_)
  refine lv_aload_n hx hb (zD_g DX3_makeEmpty 3 rfl) rfl (lv_at hl 1 rfl) ?_
  refine lv_iconst (v := (0 : Int32)) hx hb (zD_g DX3_makeEmpty 4 rfl) (by decide) ?_
  refine z_put (D := D) (ci := 2) (v := .int (0 : Int32)) (ty := .int) (C := RX3) (T := TX3) (N := 6) (ws' := (cTell cI cB q (0 : Int32) titems tfault tbytes twords tnumbers)) hx hb hts in3_makeEmpty_3 tyX3 tyX3_ok nmX3 hown hK.1 hP hD hS 0 rfl rfl 0 (by decide) (hts _ (List.mem_of_getElem? (i := 1) rfl)) (fun _ h9 => h9) rfl (tyX3_ok 0 (by decide)) rfl rfl (Nat.le_of_ble_eq_true rfl) rfl (zD_g DX3_makeEmpty 5 rfl) (fun H locs hP hD hS => ?_)
  refine lv_iload_n hx hb (zD_g DX3_makeEmpty 6 rfl) rfl (lv_at hl 0 rfl) ?_
  cases hf
  exact hret _ _ _ _ hP hD hS (zD_g DX3_makeEmpty 7 rfl)
abbrev dlX3_byteAt : List (Nat × Instr × Nat) := [(0, .iload_n 1, 1), (1, .iconst 0, 1), (2, .aload_n 0, 1), (3, .getfield 9, 3), (6, .iconst 1, 1), (7, .isub, 1), (8, .invokestatic 32, 3), (11, .ifCond .eq 12, 3), (14, .aload_n 0, 1), (15, .getfield 21, 3), (18, .iload_n 1, 1), (19, .baload, 1), (20, .goto 4, 3), (23, .iconst (-1), 1), (24, .ireturn, 1)]
theorem DX3_byteAt : zD cX3_byteAt dlX3_byteAt = true := by decide +kernel
set_option maxRecDepth 20000 in
theorem ggX3_byteAt_X5_within : GoodIn wsX3_byteAt wsX5_within := goodIn_r _ [5] (by decide +kernel) (by decide +kernel)
set_option maxRecDepth 20000 in
theorem gX3_byteAt_X5_within_n32 : GoodIn wsX3_byteAt (wsX5_within) := ggX3_byteAt_X5_within
theorem hd3_byteAt : yX3_byteAt.cls = RX3 ∧ yX3_byteAt.cls ≠ "java/lang/invoke/MethodHandle" ∧ yX3_byteAt.cls ≠ "java/lang/invoke/VarHandle" ∧ (parseMethodDescriptor yX3_byteAt.desc).map (fun d => d.parameters.length) = some 1 := by decide +kernel
abbrev rm3_byteAt : Room := { frames := 1, cells := 0, slots := 0, locals := 22 }
theorem in3_byteAt_3 : ∀ w ∈ wsX30, w ∈ wsX3_byteAt := fun w h => List.mem_cons_of_mem _ (List.mem_append_right _ h)
set_option maxHeartbeats 4000000 in
set_option maxRecDepth 100000 in
theorem c3_byteAt {l : Launch} {D : va_G} {cI cZ cB : ClassId} {q : Nat → Nat} {tlen : Int32} {titems : Int32} {tfault : Int32} {tbytes : Nat → Int32} {twords : Nat → Int32} {tnumbers : Nat → Int32} {a_at : Int32} {r : Int32}  (hf : f3_byteAt tlen tbytes a_at = some r) : Met l yX3_byteAt wsX3_byteAt rm3_byteAt (zPp D cI cZ cB [.ref (q 0), .int a_at] (cTell cI cB q tlen titems tfault tbytes twords tnumbers)) (zQp (some (.int r))) 0 0 (fun _ => False) := by
  unfold f3_byteAt at hf
  refine z_pureI RX3 (by decide +kernel) rfl rfl (Nat.le_of_ble_eq_true rfl) ?_
  intro p e s m args below meth c Q ls hx hb hml hown hts hK hP hret hl
  have hl : lv_has ls 2 [(0, .ref (q 0)), (1, .int a_at)] := hl
  refine lv_iload_n hx hb (zD_g DX3_byteAt 0 rfl) rfl (lv_at hl 1 rfl) ?_
  refine lv_iconst (v := (0 : Int32)) hx hb (zD_g DX3_byteAt 1 rfl) (by decide) ?_
  refine lv_aload_n hx hb (zD_g DX3_byteAt 2 rfl) rfl (lv_at hl 0 rfl) ?_
  refine va_get (D := D) (ci := 2) (v := .int tlen) (C := RX3) (T := TX3) (N := 6) hx hb hts in3_byteAt_3 hown hK.1 hP 0 rfl rfl 0 (by decide) (hts _ (List.mem_of_getElem? (i := 1) rfl)) (fun _ h9 => h9) rfl (zD_g DX3_byteAt 3 rfl) ?_
  refine lv_iconst (v := (1 : Int32)) hx hb (zD_g DX3_byteAt 4 rfl) (by decide) ?_
  refine lv_isub hx hb (zD_g DX3_byteAt 5 rfl) ?_
  obtain ⟨r1, hc2, hf⟩ := zb1_s hf
  refine z_Np (As := [.int a_at, .int (0 : Int32), .int (tlen - (1 : Int32))]) (rest := []) ⟨hx, hb, hml, hown, hts⟩ hK (c5_within  hc2) ⟨va_cnB (own := RX3) (host := RX5) (index := 32) (y := yX5_within) 3 hts gX3_byteAt_X5_within_n32 rfl rfl rfl (hK.2 (RX3, 32, yX5_within) (List.mem_of_getElem? (i := 4) rfl)) (hts _ (List.mem_of_getElem? (i := 4) rfl)) hd5_within ⟨Nat.le_of_ble_eq_true rfl, Nat.le_of_ble_eq_true rfl⟩, (hts _ (List.mem_of_getElem? (i := 3) rfl)), trivial⟩ (hP.sub [] rfl) rfl hl.1 rfl rfl (Nat.le_of_ble_eq_true rfl) (zD_g DX3_byteAt 6 rfl) ⟨Nat.zero_le _, Nat.zero_le _⟩ ?_
  refine lv_if_eq (tgt := 23) hx hb (zD_g DX3_byteAt 7 rfl) (by decide) (fun c3 => ?_) (fun c3 => ?_)
  · replace hf := z_t c3 hf
    refine lv_iconst (v := (-1 : Int32)) hx hb (zD_g DX3_byteAt 13 rfl) (by decide) ?_
    cases hf
    exact hret _ _ (zD_g DX3_byteAt 14 rfl)
  · replace hf := z_f c3 hf
    refine lv_aload_n hx hb (zD_g DX3_byteAt 8 rfl) rfl (lv_at hl 0 rfl) ?_
    refine va_get (D := D) (ci := 2) (v := .ref (q 1)) (C := RX3) (T := TX3) (N := 6) hx hb hts in3_byteAt_3 hown hK.1 hP 0 rfl rfl 3 (by decide) (hts _ (List.mem_of_getElem? (i := 2) rfl)) (fun _ h9 => h9) rfl (zD_g DX3_byteAt 9 rfl) ?_
    refine lv_iload_n hx hb (zD_g DX3_byteAt 10 rfl) rfl (lv_at hl 1 rfl) ?_
    obtain ⟨h4, hf⟩ := zg_s hf
    refine z_bald (k := a_at.toNatClampNeg) hx hb hK.1 hP 1 2 rfl rfl h4 rfl (zD_g DX3_byteAt 11 rfl) ?_
    refine lv_goto (tgt := 24) hx hb (zD_g DX3_byteAt 12 rfl) (by decide) ?_
    refine lv_topi (fun x5 ex5 => ?_)
    replace hf := zl_s hf x5 ex5
    cases hf
    exact hret _ _ (zD_g DX3_byteAt 14 rfl)
abbrev dlX3_afterBlanks : List (Nat × Instr × Nat) := [(0, .iload_n 1, 1), (1, .istore_n 2, 1), (2, .iload_n 2, 1), (3, .aload_n 0, 1), (4, .getfield 9, 3), (7, .if_icmp .ge 19, 3), (10, .aload_n 0, 1), (11, .iload_n 2, 1), (12, .invokevirtual 62, 3), (15, .bipush 32, 2), (17, .if_icmp .ne 9, 3), (20, .iinc 2 1, 3), (23, .goto (-21), 3), (26, .iload_n 2, 1), (27, .ireturn, 1)]
theorem DX3_afterBlanks : zD cX3_afterBlanks dlX3_afterBlanks = true := by decide +kernel
set_option maxRecDepth 20000 in
theorem ggX3_afterBlanks_X3_byteAt : GoodIn wsX3_afterBlanks wsX3_byteAt := goodIn_r _ [6, 1, 7, 8, 9, 10, 11, 12, 13, 14, 15, 16] (by decide +kernel) (by decide +kernel)
set_option maxRecDepth 20000 in
theorem gX3_afterBlanks_X3_byteAt : GoodIn wsX3_afterBlanks (wsV RX3 62 RX3 yX3_byteAt wsX3_byteAt) := goodIn_app (goodIn_of _ (by decide +kernel)) ggX3_afterBlanks_X3_byteAt
theorem hd3_afterBlanks : yX3_afterBlanks.cls = RX3 ∧ yX3_afterBlanks.cls ≠ "java/lang/invoke/MethodHandle" ∧ yX3_afterBlanks.cls ≠ "java/lang/invoke/VarHandle" ∧ (parseMethodDescriptor yX3_afterBlanks.desc).map (fun d => d.parameters.length) = some 1 := by decide +kernel
abbrev rm3_afterBlanks : Room := { frames := 2, cells := 0, slots := 0, locals := 43 }
theorem in3_afterBlanks_3 : ∀ w ∈ wsX30, w ∈ wsX3_afterBlanks := fun w h => List.mem_cons_of_mem _ (List.mem_append_right _ h)
set_option maxHeartbeats 4000000 in
set_option maxRecDepth 100000 in
theorem c3_afterBlanks {l : Launch} {D : va_G} {cI cZ cB : ClassId} {q : Nat → Nat} {tlen : Int32} {titems : Int32} {tfault : Int32} {tbytes : Nat → Int32} {twords : Nat → Int32} {tnumbers : Nat → Int32} {a_start : Int32} {r : Int32}  (hf : f3_afterBlanks tlen tbytes a_start = some r) : Met l yX3_afterBlanks wsX3_afterBlanks rm3_afterBlanks (zPp D cI cZ cB [.ref (q 0), .int a_start] (cTell cI cB q tlen titems tfault tbytes twords tnumbers)) (zQp (some (.int r))) 0 0 (fun _ => False) := by
  unfold f3_afterBlanks at hf
  refine z_pureI RX3 (by decide +kernel) rfl rfl (Nat.le_of_ble_eq_true rfl) ?_
  intro p e s m args below meth c Q ls hx hb hml hown hts hK hP hret hl
  have hl : lv_has ls 3 [(0, .ref (q 0)), (1, .int a_start)] := hl
  refine lv_iload_n hx hb (zD_g DX3_afterBlanks 0 rfl) rfl (lv_at hl 1 rfl) ?_
  refine lv_istore_n (lv' := [(2, .int a_start), (0, .ref (q 0)), (1, .int a_start)]) hx hb (zD_g DX3_afterBlanks 1 rfl) rfl hl (by decide) rfl (fun ls hl => ?_)
  have hL2 : ∀ (k2 : Int32 → Option (Int32)) (hk2 : ∀ (y7 : Int32), k2 y7 = some r → ∀ (ls : Array Slot), lv_has ls 3 [(2, .int y7)] → W p l e rm3_afterBlanks s m args below meth c s.heap [] 0 0 Q (F0 m 26 ls [])) (n2 : Nat) (y1 : Int32), L3_afterBlanks_2 k2 tlen tbytes n2 y1 = some r → ∀ (ls : Array Slot), lv_has ls 3 [(0, .ref (q 0)), (2, .int y1)] → W p l e rm3_afterBlanks s m args below meth c s.heap [] 0 0 Q (F0 m 2 ls []) := by
    intro k2 hk2 n2
    induction n2 with
    | zero =>
      intro y1 hf
      cases hf
    | succ n2 ih2 =>
      intro y1 hf ls hl
      rw [L3_afterBlanks_2] at hf
      refine lv_iload_n hx hb (zD_g DX3_afterBlanks 2 rfl) rfl (lv_at hl 1 rfl) ?_
      refine lv_aload_n hx hb (zD_g DX3_afterBlanks 3 rfl) rfl (lv_at hl 0 rfl) ?_
      refine va_get (D := D) (ci := 2) (v := .int tlen) (C := RX3) (T := TX3) (N := 6) hx hb hts in3_afterBlanks_3 hown hK.1 hP 0 rfl rfl 0 (by decide) (hts _ (List.mem_of_getElem? (i := 1) rfl)) (fun _ h9 => h9) rfl (zD_g DX3_afterBlanks 4 rfl) ?_
      refine lv_icmp_ge (tgt := 26) hx hb (zD_g DX3_afterBlanks 5 rfl) (by decide) (fun c3 => ?_) (fun c3 => ?_)
      · replace hf := z_t c3 hf
        exact hk2 _ hf ls (lv_sub hl [1] rfl)
      · replace hf := z_f c3 hf
        refine lv_aload_n hx hb (zD_g DX3_afterBlanks 6 rfl) rfl (lv_at hl 0 rfl) ?_
        refine lv_iload_n hx hb (zD_g DX3_afterBlanks 7 rfl) rfl (lv_at hl 1 rfl) ?_
        obtain ⟨r4, hc5, hf⟩ := zb1_s hf
        refine z_Vp (As := [.int y1]) (rest := []) ⟨hx, hb, hml, hown, hts⟩ hK (c3_byteAt (tlen := tlen) (titems := titems) (tfault := tfault) (tbytes := tbytes) (twords := twords) (tnumbers := tnumbers) (q := q) hc5) (cwV 1 hts gX3_afterBlanks_X3_byteAt rfl rfl rfl hd3_byteAt ⟨Nat.le_of_ble_eq_true rfl, Nat.le_of_ble_eq_true rfl⟩) hP rfl rfl rfl rfl hl.1 rfl rfl (Nat.le_of_ble_eq_true rfl) (zD_g DX3_afterBlanks 8 rfl) ⟨Nat.zero_le _, Nat.zero_le _⟩ ?_
        refine lv_bipush (v := (32 : Int32)) hx hb (zD_g DX3_afterBlanks 9 rfl) (by decide) ?_
        refine lv_icmp_ne (tgt := 26) hx hb (zD_g DX3_afterBlanks 10 rfl) (by decide) (fun c6 => ?_) (fun c6 => ?_)
        · replace hf := z_f c6 hf
          exact hk2 _ hf ls (lv_sub hl [1] rfl)
        · replace hf := z_t c6 hf
          refine lv_iinc (v := y1 + 1) (lv' := [(2, .int (y1 + 1)), (0, .ref (q 0))]) (k := 1) hx hb (zD_g DX3_afterBlanks 11 rfl) hl rfl rfl (by decide) rfl (fun ls hl => ?_)
          refine lv_goto (tgt := 2) hx hb (zD_g DX3_afterBlanks 12 rfl) (by decide) ?_
          exact ih2 _ hf ls (lv_sub hl [1, 0] rfl)
  refine hL2 _ (fun y7 hf ls hl => ?_) _ _ hf ls (lv_sub hl [1, 0] rfl)
  refine lv_iload_n hx hb (zD_g DX3_afterBlanks 13 rfl) rfl (lv_at hl 0 rfl) ?_
  cases hf
  exact hret _ _ (zD_g DX3_afterBlanks 14 rfl)
abbrev dlX3_afterLetters : List (Nat × Instr × Nat) := [(0, .iload_n 1, 1), (1, .istore_n 2, 1), (2, .iload_n 2, 1), (3, .aload_n 0, 1), (4, .getfield 9, 3), (7, .if_icmp .ge 24, 3), (10, .aload_n 0, 1), (11, .iload_n 2, 1), (12, .invokevirtual 62, 3), (15, .bipush 97, 2), (17, .bipush 122, 2), (19, .invokestatic 32, 3), (22, .ifCond .eq 9, 3), (25, .iinc 2 1, 3), (28, .goto (-26), 3), (31, .iload_n 2, 1), (32, .ireturn, 1)]
theorem DX3_afterLetters : zD cX3_afterLetters dlX3_afterLetters = true := by decide +kernel
set_option maxRecDepth 20000 in
theorem ggX3_afterLetters_X3_byteAt : GoodIn wsX3_afterLetters wsX3_byteAt := goodIn_r _ [6, 1, 7, 8, 9, 10, 11, 12, 13, 14, 15, 16] (by decide +kernel) (by decide +kernel)
set_option maxRecDepth 20000 in
theorem gX3_afterLetters_X3_byteAt : GoodIn wsX3_afterLetters (wsV RX3 62 RX3 yX3_byteAt wsX3_byteAt) := goodIn_app (goodIn_of _ (by decide +kernel)) ggX3_afterLetters_X3_byteAt
set_option maxRecDepth 20000 in
theorem ggX3_afterLetters_X5_within : GoodIn wsX3_afterLetters wsX5_within := goodIn_r _ [10] (by decide +kernel) (by decide +kernel)
set_option maxRecDepth 20000 in
theorem gX3_afterLetters_X5_within_n32 : GoodIn wsX3_afterLetters (wsX5_within) := ggX3_afterLetters_X5_within
theorem hd3_afterLetters : yX3_afterLetters.cls = RX3 ∧ yX3_afterLetters.cls ≠ "java/lang/invoke/MethodHandle" ∧ yX3_afterLetters.cls ≠ "java/lang/invoke/VarHandle" ∧ (parseMethodDescriptor yX3_afterLetters.desc).map (fun d => d.parameters.length) = some 1 := by decide +kernel
abbrev rm3_afterLetters : Room := { frames := 2, cells := 0, slots := 0, locals := 43 }
theorem in3_afterLetters_3 : ∀ w ∈ wsX30, w ∈ wsX3_afterLetters := fun w h => List.mem_cons_of_mem _ (List.mem_append_right _ h)
set_option maxHeartbeats 4000000 in
set_option maxRecDepth 100000 in
theorem c3_afterLetters {l : Launch} {D : va_G} {cI cZ cB : ClassId} {q : Nat → Nat} {tlen : Int32} {titems : Int32} {tfault : Int32} {tbytes : Nat → Int32} {twords : Nat → Int32} {tnumbers : Nat → Int32} {a_start : Int32} {r : Int32}  (hf : f3_afterLetters tlen tbytes a_start = some r) : Met l yX3_afterLetters wsX3_afterLetters rm3_afterLetters (zPp D cI cZ cB [.ref (q 0), .int a_start] (cTell cI cB q tlen titems tfault tbytes twords tnumbers)) (zQp (some (.int r))) 0 0 (fun _ => False) := by
  unfold f3_afterLetters at hf
  refine z_pureI RX3 (by decide +kernel) rfl rfl (Nat.le_of_ble_eq_true rfl) ?_
  intro p e s m args below meth c Q ls hx hb hml hown hts hK hP hret hl
  have hl : lv_has ls 3 [(0, .ref (q 0)), (1, .int a_start)] := hl
  refine lv_iload_n hx hb (zD_g DX3_afterLetters 0 rfl) rfl (lv_at hl 1 rfl) ?_
  refine lv_istore_n (lv' := [(2, .int a_start), (0, .ref (q 0)), (1, .int a_start)]) hx hb (zD_g DX3_afterLetters 1 rfl) rfl hl (by decide) rfl (fun ls hl => ?_)
  have hL2 : ∀ (k2 : Int32 → Option (Int32)) (hk2 : ∀ (y9 : Int32), k2 y9 = some r → ∀ (ls : Array Slot), lv_has ls 3 [(2, .int y9)] → W p l e rm3_afterLetters s m args below meth c s.heap [] 0 0 Q (F0 m 31 ls [])) (n2 : Nat) (y1 : Int32), L3_afterLetters_2 k2 tlen tbytes n2 y1 = some r → ∀ (ls : Array Slot), lv_has ls 3 [(0, .ref (q 0)), (2, .int y1)] → W p l e rm3_afterLetters s m args below meth c s.heap [] 0 0 Q (F0 m 2 ls []) := by
    intro k2 hk2 n2
    induction n2 with
    | zero =>
      intro y1 hf
      cases hf
    | succ n2 ih2 =>
      intro y1 hf ls hl
      rw [L3_afterLetters_2] at hf
      refine lv_iload_n hx hb (zD_g DX3_afterLetters 2 rfl) rfl (lv_at hl 1 rfl) ?_
      refine lv_aload_n hx hb (zD_g DX3_afterLetters 3 rfl) rfl (lv_at hl 0 rfl) ?_
      refine va_get (D := D) (ci := 2) (v := .int tlen) (C := RX3) (T := TX3) (N := 6) hx hb hts in3_afterLetters_3 hown hK.1 hP 0 rfl rfl 0 (by decide) (hts _ (List.mem_of_getElem? (i := 1) rfl)) (fun _ h9 => h9) rfl (zD_g DX3_afterLetters 4 rfl) ?_
      refine lv_icmp_ge (tgt := 31) hx hb (zD_g DX3_afterLetters 5 rfl) (by decide) (fun c3 => ?_) (fun c3 => ?_)
      · replace hf := z_t c3 hf
        exact hk2 _ hf ls (lv_sub hl [1] rfl)
      · replace hf := z_f c3 hf
        refine lv_aload_n hx hb (zD_g DX3_afterLetters 6 rfl) rfl (lv_at hl 0 rfl) ?_
        refine lv_iload_n hx hb (zD_g DX3_afterLetters 7 rfl) rfl (lv_at hl 1 rfl) ?_
        obtain ⟨r4, hc5, hf⟩ := zb1_s hf
        refine z_Vp (As := [.int y1]) (rest := []) ⟨hx, hb, hml, hown, hts⟩ hK (c3_byteAt (tlen := tlen) (titems := titems) (tfault := tfault) (tbytes := tbytes) (twords := twords) (tnumbers := tnumbers) (q := q) hc5) (cwV 1 hts gX3_afterLetters_X3_byteAt rfl rfl rfl hd3_byteAt ⟨Nat.le_of_ble_eq_true rfl, Nat.le_of_ble_eq_true rfl⟩) hP rfl rfl rfl rfl hl.1 rfl rfl (Nat.le_of_ble_eq_true rfl) (zD_g DX3_afterLetters 8 rfl) ⟨Nat.zero_le _, Nat.zero_le _⟩ ?_
        refine lv_bipush (v := (97 : Int32)) hx hb (zD_g DX3_afterLetters 9 rfl) (by decide) ?_
        refine lv_bipush (v := (122 : Int32)) hx hb (zD_g DX3_afterLetters 10 rfl) (by decide) ?_
        obtain ⟨r6, hc7, hf⟩ := zb1_s hf
        refine z_Np (As := [.int r4, .int (97 : Int32), .int (122 : Int32)]) (rest := []) ⟨hx, hb, hml, hown, hts⟩ hK (c5_within  hc7) ⟨va_cnB (own := RX3) (host := RX5) (index := 32) (y := yX5_within) 3 hts gX3_afterLetters_X5_within_n32 rfl rfl rfl (hK.2 (RX3, 32, yX5_within) (List.mem_of_getElem? (i := 4) rfl)) (hts _ (List.mem_of_getElem? (i := 9) rfl)) hd5_within ⟨Nat.le_of_ble_eq_true rfl, Nat.le_of_ble_eq_true rfl⟩, (hts _ (List.mem_of_getElem? (i := 8) rfl)), trivial⟩ (hP.sub [] rfl) rfl hl.1 rfl rfl (Nat.le_of_ble_eq_true rfl) (zD_g DX3_afterLetters 11 rfl) ⟨Nat.zero_le _, Nat.zero_le _⟩ ?_
        refine lv_if_eq (tgt := 31) hx hb (zD_g DX3_afterLetters 12 rfl) (by decide) (fun c8 => ?_) (fun c8 => ?_)
        · replace hf := z_t c8 hf
          exact hk2 _ hf ls (lv_sub hl [1] rfl)
        · replace hf := z_f c8 hf
          refine lv_iinc (v := y1 + 1) (lv' := [(2, .int (y1 + 1)), (0, .ref (q 0))]) (k := 1) hx hb (zD_g DX3_afterLetters 13 rfl) hl rfl rfl (by decide) rfl (fun ls hl => ?_)
          refine lv_goto (tgt := 2) hx hb (zD_g DX3_afterLetters 14 rfl) (by decide) ?_
          exact ih2 _ hf ls (lv_sub hl [1, 0] rfl)
  refine hL2 _ (fun y9 hf ls hl => ?_) _ _ hf ls (lv_sub hl [1, 0] rfl)
  refine lv_iload_n hx hb (zD_g DX3_afterLetters 15 rfl) rfl (lv_at hl 0 rfl) ?_
  cases hf
  exact hret _ _ (zD_g DX3_afterLetters 16 rfl)
abbrev dlX3_faultAt : List (Nat × Instr × Nat) := [(0, .aload_n 0, 1), (1, .iload_n 1, 1), (2, .putfield 18, 3), (5, .iload_n 1, 1), (6, .ireturn, 1)]
theorem DX3_faultAt : zD cX3_faultAt dlX3_faultAt = true := by decide +kernel
theorem hd3_faultAt : yX3_faultAt.cls = RX3 ∧ yX3_faultAt.cls ≠ "java/lang/invoke/MethodHandle" ∧ yX3_faultAt.cls ≠ "java/lang/invoke/VarHandle" ∧ (parseMethodDescriptor yX3_faultAt.desc).map (fun d => d.parameters.length) = some 1 := by decide +kernel
abbrev rm3_faultAt : Room := { frames := 0, cells := 0, slots := 0, locals := 0 }
theorem in3_faultAt_3 : ∀ w ∈ wsX30, w ∈ wsX3_faultAt := fun w h => List.mem_cons_of_mem _ (List.mem_append_right _ h)
set_option maxHeartbeats 4000000 in
set_option maxRecDepth 100000 in
theorem c3_faultAt {l : Launch} {D : va_G} {cI cZ cB : ClassId} {q : Nat → Nat} {sz : Nat} {tlen : Int32} {titems : Int32} {tfault : Int32} {tbytes : Nat → Int32} {twords : Nat → Int32} {tnumbers : Nat → Int32} {a_at : Int32} {r : Int32} {d_tfault : Int32} (hf : f3_faultAt tfault a_at = some (r, d_tfault)) : Met l yX3_faultAt wsX3_faultAt rm3_faultAt (zPm D cI cZ cB [.ref (q 0), .int a_at] sz (cTell cI cB q tlen titems tfault tbytes twords tnumbers)) (zQm D (some (.int r)) (cTell cI cB q tlen titems d_tfault tbytes twords tnumbers) (va_A (cTell cI cB q tlen titems tfault tbytes twords tnumbers) sz)) 0 0 (va_A (cTell cI cB q tlen titems tfault tbytes twords tnumbers) sz) := by
  unfold f3_faultAt at hf
  refine z_mutI RX3 (by decide +kernel) rfl rfl (Nat.le_of_ble_eq_true rfl) ?_
  intro p e s m args below meth c Q A ls hx hb hml hown hts hK hP hD hS hA hret hl
  have hl : lv_has ls 2 [(0, .ref (q 0)), (1, .int a_at)] := hl
  refine lv_aload_n hx hb (zD_g DX3_faultAt 0 rfl) rfl (lv_at hl 0 rfl) ?_
  refine lv_iload_n hx hb (zD_g DX3_faultAt 1 rfl) rfl (lv_at hl 1 rfl) ?_
  refine z_put (D := D) (ci := 2) (v := .int a_at) (ty := .int) (C := RX3) (T := TX3) (N := 6) (ws' := (cTell cI cB q tlen titems a_at tbytes twords tnumbers)) hx hb hts in3_faultAt_3 tyX3 tyX3_ok nmX3 hown hK.1 hP hD hS 0 rfl rfl 2 (by decide) (hts _ (List.mem_of_getElem? (i := 1) rfl)) (fun _ h9 => h9) rfl (tyX3_ok 2 (by decide)) rfl rfl (Nat.le_of_ble_eq_true rfl) rfl (zD_g DX3_faultAt 2 rfl) (fun H locs hP hD hS => ?_)
  refine lv_iload_n hx hb (zD_g DX3_faultAt 3 rfl) rfl (lv_at hl 1 rfl) ?_
  cases hf
  exact hret _ _ _ _ hP hD hS (zD_g DX3_faultAt 4 rfl)
abbrev dlX3_numbersBehind : List (Nat × Instr × Nat) := [(0, .iload_n 0, 1), (1, .lookupswitch 39 #[(0, 35), (1, 35), (6, 37)], 35), (36, .iconst 4, 1), (37, .ireturn, 1), (38, .iconst 3, 1), (39, .ireturn, 1), (40, .iconst 2, 1), (41, .ireturn, 1)]
theorem DX3_numbersBehind : zD cX3_numbersBehind dlX3_numbersBehind = true := by decide +kernel
theorem hd3_numbersBehind : yX3_numbersBehind.cls ≠ "java/lang/invoke/MethodHandle" ∧ yX3_numbersBehind.cls ≠ "java/lang/invoke/VarHandle" ∧ (parseMethodDescriptor yX3_numbersBehind.desc).map (fun d => d.parameters.length) = some 1 := by decide +kernel
abbrev rm3_numbersBehind : Room := { frames := 0, cells := 0, slots := 0, locals := 0 }
set_option maxHeartbeats 4000000 in
set_option maxRecDepth 100000 in
theorem c3_numbersBehind {l : Launch} {D : va_G} {cI cZ cB : ClassId}   {a_word : Int32} {r : Int32}  (hf : f3_numbersBehind a_word = some r) : Met l yX3_numbersBehind wsX3_numbersBehind rm3_numbersBehind (zPp D cI cZ cB [.int a_word] ([] : va_W)) (zQp (some (.int r))) 0 0 (fun _ => False) := by
  unfold f3_numbersBehind at hf
  refine z_pureI RX3 (by decide +kernel) rfl rfl (Nat.le_of_ble_eq_true rfl) ?_
  intro p e s m args below meth c Q ls hx hb hml hown hts hK hP hret hl
  have hl : lv_has ls 1 [(0, .int a_word)] := hl
  refine lv_iload_n hx hb (zD_g DX3_numbersBehind 0 rfl) rfl (lv_at hl 0 rfl) ?_
  by_cases c1 : a_word = 0
  · replace hf := z_t c1 hf
    refine lv_lookup (off := 35) (tgt := 36) hx hb (zD_g DX3_numbersBehind 1 rfl) (by decide) (by rw [c1]; decide) (by decide) ?_
    refine lv_iconst (v := (4 : Int32)) hx hb (zD_g DX3_numbersBehind 2 rfl) (by decide) ?_
    cases hf
    exact hret _ _ (zD_g DX3_numbersBehind 3 rfl)
  · replace hf := z_f c1 hf
    by_cases c2 : a_word = 1
    · replace hf := z_t c2 hf
      refine lv_lookup (off := 35) (tgt := 36) hx hb (zD_g DX3_numbersBehind 1 rfl) (by decide) (by rw [c2]; decide) (by decide) ?_
      refine lv_iconst (v := (4 : Int32)) hx hb (zD_g DX3_numbersBehind 2 rfl) (by decide) ?_
      cases hf
      exact hret _ _ (zD_g DX3_numbersBehind 3 rfl)
    · replace hf := z_f c2 hf
      by_cases c3 : a_word = 6
      · replace hf := z_t c3 hf
        refine lv_lookup (off := 37) (tgt := 38) hx hb (zD_g DX3_numbersBehind 1 rfl) (by decide) (by rw [c3]; decide) (by decide) ?_
        refine lv_iconst (v := (3 : Int32)) hx hb (zD_g DX3_numbersBehind 4 rfl) (by decide) ?_
        cases hf
        exact hret _ _ (zD_g DX3_numbersBehind 5 rfl)
      · replace hf := z_f c3 hf
        have z0 : a_word.toInt ≠ 0 := z_ni c1
        have z1 : a_word.toInt ≠ 1 := z_ni c2
        have z2 : a_word.toInt ≠ 6 := z_ni c3
        refine lv_lookup (off := 39) (tgt := 40) hx hb (zD_g DX3_numbersBehind 1 rfl) (by decide) (by simp [Op.lookupswitch.offset, z0.symm, z1.symm, z2.symm]) (by decide) ?_
        refine lv_iconst (v := (2 : Int32)) hx hb (zD_g DX3_numbersBehind 6 rfl) (by decide) ?_
        cases hf
        exact hret _ _ (zD_g DX3_numbersBehind 7 rfl)
abbrev dlX3_afterFigures : List (Nat × Instr × Nat) := [(0, .iload_n 1, 1), (1, .istore_n 2, 1), (2, .iload_n 2, 1), (3, .aload_n 0, 1), (4, .getfield 9, 3), (7, .if_icmp .ge 24, 3), (10, .aload_n 0, 1), (11, .iload_n 2, 1), (12, .invokevirtual 62, 3), (15, .bipush 48, 2), (17, .bipush 57, 2), (19, .invokestatic 32, 3), (22, .ifCond .eq 9, 3), (25, .iinc 2 1, 3), (28, .goto (-26), 3), (31, .iload_n 2, 1), (32, .ireturn, 1)]
theorem DX3_afterFigures : zD cX3_afterFigures dlX3_afterFigures = true := by decide +kernel
set_option maxRecDepth 20000 in
theorem ggX3_afterFigures_X3_byteAt : GoodIn wsX3_afterFigures wsX3_byteAt := goodIn_r _ [6, 1, 7, 8, 9, 10, 11, 12, 13, 14, 15, 16] (by decide +kernel) (by decide +kernel)
set_option maxRecDepth 20000 in
theorem gX3_afterFigures_X3_byteAt : GoodIn wsX3_afterFigures (wsV RX3 62 RX3 yX3_byteAt wsX3_byteAt) := goodIn_app (goodIn_of _ (by decide +kernel)) ggX3_afterFigures_X3_byteAt
set_option maxRecDepth 20000 in
theorem ggX3_afterFigures_X5_within : GoodIn wsX3_afterFigures wsX5_within := goodIn_r _ [10] (by decide +kernel) (by decide +kernel)
set_option maxRecDepth 20000 in
theorem gX3_afterFigures_X5_within_n32 : GoodIn wsX3_afterFigures (wsX5_within) := ggX3_afterFigures_X5_within
theorem hd3_afterFigures : yX3_afterFigures.cls = RX3 ∧ yX3_afterFigures.cls ≠ "java/lang/invoke/MethodHandle" ∧ yX3_afterFigures.cls ≠ "java/lang/invoke/VarHandle" ∧ (parseMethodDescriptor yX3_afterFigures.desc).map (fun d => d.parameters.length) = some 1 := by decide +kernel
abbrev rm3_afterFigures : Room := { frames := 2, cells := 0, slots := 0, locals := 43 }
theorem in3_afterFigures_3 : ∀ w ∈ wsX30, w ∈ wsX3_afterFigures := fun w h => List.mem_cons_of_mem _ (List.mem_append_right _ h)
set_option maxHeartbeats 4000000 in
set_option maxRecDepth 100000 in
theorem c3_afterFigures {l : Launch} {D : va_G} {cI cZ cB : ClassId} {q : Nat → Nat} {tlen : Int32} {titems : Int32} {tfault : Int32} {tbytes : Nat → Int32} {twords : Nat → Int32} {tnumbers : Nat → Int32} {a_start : Int32} {r : Int32}  (hf : f3_afterFigures tlen tbytes a_start = some r) : Met l yX3_afterFigures wsX3_afterFigures rm3_afterFigures (zPp D cI cZ cB [.ref (q 0), .int a_start] (cTell cI cB q tlen titems tfault tbytes twords tnumbers)) (zQp (some (.int r))) 0 0 (fun _ => False) := by
  unfold f3_afterFigures at hf
  refine z_pureI RX3 (by decide +kernel) rfl rfl (Nat.le_of_ble_eq_true rfl) ?_
  intro p e s m args below meth c Q ls hx hb hml hown hts hK hP hret hl
  have hl : lv_has ls 3 [(0, .ref (q 0)), (1, .int a_start)] := hl
  refine lv_iload_n hx hb (zD_g DX3_afterFigures 0 rfl) rfl (lv_at hl 1 rfl) ?_
  refine lv_istore_n (lv' := [(2, .int a_start), (0, .ref (q 0)), (1, .int a_start)]) hx hb (zD_g DX3_afterFigures 1 rfl) rfl hl (by decide) rfl (fun ls hl => ?_)
  have hL2 : ∀ (k2 : Int32 → Option (Int32)) (hk2 : ∀ (y9 : Int32), k2 y9 = some r → ∀ (ls : Array Slot), lv_has ls 3 [(2, .int y9)] → W p l e rm3_afterFigures s m args below meth c s.heap [] 0 0 Q (F0 m 31 ls [])) (n2 : Nat) (y1 : Int32), L3_afterFigures_2 k2 tlen tbytes n2 y1 = some r → ∀ (ls : Array Slot), lv_has ls 3 [(0, .ref (q 0)), (2, .int y1)] → W p l e rm3_afterFigures s m args below meth c s.heap [] 0 0 Q (F0 m 2 ls []) := by
    intro k2 hk2 n2
    induction n2 with
    | zero =>
      intro y1 hf
      cases hf
    | succ n2 ih2 =>
      intro y1 hf ls hl
      rw [L3_afterFigures_2] at hf
      refine lv_iload_n hx hb (zD_g DX3_afterFigures 2 rfl) rfl (lv_at hl 1 rfl) ?_
      refine lv_aload_n hx hb (zD_g DX3_afterFigures 3 rfl) rfl (lv_at hl 0 rfl) ?_
      refine va_get (D := D) (ci := 2) (v := .int tlen) (C := RX3) (T := TX3) (N := 6) hx hb hts in3_afterFigures_3 hown hK.1 hP 0 rfl rfl 0 (by decide) (hts _ (List.mem_of_getElem? (i := 1) rfl)) (fun _ h9 => h9) rfl (zD_g DX3_afterFigures 4 rfl) ?_
      refine lv_icmp_ge (tgt := 31) hx hb (zD_g DX3_afterFigures 5 rfl) (by decide) (fun c3 => ?_) (fun c3 => ?_)
      · replace hf := z_t c3 hf
        exact hk2 _ hf ls (lv_sub hl [1] rfl)
      · replace hf := z_f c3 hf
        refine lv_aload_n hx hb (zD_g DX3_afterFigures 6 rfl) rfl (lv_at hl 0 rfl) ?_
        refine lv_iload_n hx hb (zD_g DX3_afterFigures 7 rfl) rfl (lv_at hl 1 rfl) ?_
        obtain ⟨r4, hc5, hf⟩ := zb1_s hf
        refine z_Vp (As := [.int y1]) (rest := []) ⟨hx, hb, hml, hown, hts⟩ hK (c3_byteAt (tlen := tlen) (titems := titems) (tfault := tfault) (tbytes := tbytes) (twords := twords) (tnumbers := tnumbers) (q := q) hc5) (cwV 1 hts gX3_afterFigures_X3_byteAt rfl rfl rfl hd3_byteAt ⟨Nat.le_of_ble_eq_true rfl, Nat.le_of_ble_eq_true rfl⟩) hP rfl rfl rfl rfl hl.1 rfl rfl (Nat.le_of_ble_eq_true rfl) (zD_g DX3_afterFigures 8 rfl) ⟨Nat.zero_le _, Nat.zero_le _⟩ ?_
        refine lv_bipush (v := (48 : Int32)) hx hb (zD_g DX3_afterFigures 9 rfl) (by decide) ?_
        refine lv_bipush (v := (57 : Int32)) hx hb (zD_g DX3_afterFigures 10 rfl) (by decide) ?_
        obtain ⟨r6, hc7, hf⟩ := zb1_s hf
        refine z_Np (As := [.int r4, .int (48 : Int32), .int (57 : Int32)]) (rest := []) ⟨hx, hb, hml, hown, hts⟩ hK (c5_within  hc7) ⟨va_cnB (own := RX3) (host := RX5) (index := 32) (y := yX5_within) 3 hts gX3_afterFigures_X5_within_n32 rfl rfl rfl (hK.2 (RX3, 32, yX5_within) (List.mem_of_getElem? (i := 4) rfl)) (hts _ (List.mem_of_getElem? (i := 9) rfl)) hd5_within ⟨Nat.le_of_ble_eq_true rfl, Nat.le_of_ble_eq_true rfl⟩, (hts _ (List.mem_of_getElem? (i := 8) rfl)), trivial⟩ (hP.sub [] rfl) rfl hl.1 rfl rfl (Nat.le_of_ble_eq_true rfl) (zD_g DX3_afterFigures 11 rfl) ⟨Nat.zero_le _, Nat.zero_le _⟩ ?_
        refine lv_if_eq (tgt := 31) hx hb (zD_g DX3_afterFigures 12 rfl) (by decide) (fun c8 => ?_) (fun c8 => ?_)
        · replace hf := z_t c8 hf
          exact hk2 _ hf ls (lv_sub hl [1] rfl)
        · replace hf := z_f c8 hf
          refine lv_iinc (v := y1 + 1) (lv' := [(2, .int (y1 + 1)), (0, .ref (q 0))]) (k := 1) hx hb (zD_g DX3_afterFigures 13 rfl) hl rfl rfl (by decide) rfl (fun ls hl => ?_)
          refine lv_goto (tgt := 2) hx hb (zD_g DX3_afterFigures 14 rfl) (by decide) ?_
          exact ih2 _ hf ls (lv_sub hl [1, 0] rfl)
  refine hL2 _ (fun y9 hf ls hl => ?_) _ _ hf ls (lv_sub hl [1, 0] rfl)
  refine lv_iload_n hx hb (zD_g DX3_afterFigures 15 rfl) rfl (lv_at hl 0 rfl) ?_
  cases hf
  exact hret _ _ (zD_g DX3_afterFigures 16 rfl)
abbrev dlX3_numberBetween : List (Nat × Instr × Nat) := [(0, .iconst 0, 1), (1, .istore_n 3, 1), (2, .iload_n 1, 1), (3, .istore 4, 2), (5, .iload 4, 2), (7, .iload_n 2, 1), (8, .if_icmp .ge 24, 3), (11, .bipush 10, 2), (13, .iload_n 3, 1), (14, .imul, 1), (15, .aload_n 0, 1), (16, .iload 4, 2), (18, .invokevirtual 62, 3), (21, .iadd, 1), (22, .bipush 48, 2), (24, .isub, 1), (25, .istore_n 3, 1), (26, .iinc 4 1, 3), (29, .goto (-24), 3), (32, .iload_n 3, 1), (33, .ireturn, 1)]
theorem DX3_numberBetween : zD cX3_numberBetween dlX3_numberBetween = true := by decide +kernel
set_option maxRecDepth 20000 in
theorem ggX3_numberBetween_X3_byteAt : GoodIn wsX3_numberBetween wsX3_byteAt := goodIn_r _ [5, 6, 7, 8, 9, 10, 11, 12, 13, 14, 15, 16] (by decide +kernel) (by decide +kernel)
set_option maxRecDepth 20000 in
theorem gX3_numberBetween_X3_byteAt : GoodIn wsX3_numberBetween (wsV RX3 62 RX3 yX3_byteAt wsX3_byteAt) := goodIn_app (goodIn_of _ (by decide +kernel)) ggX3_numberBetween_X3_byteAt
theorem hd3_numberBetween : yX3_numberBetween.cls = RX3 ∧ yX3_numberBetween.cls ≠ "java/lang/invoke/MethodHandle" ∧ yX3_numberBetween.cls ≠ "java/lang/invoke/VarHandle" ∧ (parseMethodDescriptor yX3_numberBetween.desc).map (fun d => d.parameters.length) = some 2 := by decide +kernel
abbrev rm3_numberBetween : Room := { frames := 2, cells := 0, slots := 0, locals := 43 }
set_option maxHeartbeats 4000000 in
set_option maxRecDepth 100000 in
theorem c3_numberBetween {l : Launch} {D : va_G} {cI cZ cB : ClassId} {q : Nat → Nat} {tlen : Int32} {titems : Int32} {tfault : Int32} {tbytes : Nat → Int32} {twords : Nat → Int32} {tnumbers : Nat → Int32} {a_start : Int32} {a_end : Int32} {r : Int32}  (hf : f3_numberBetween tlen tbytes a_start a_end = some r) : Met l yX3_numberBetween wsX3_numberBetween rm3_numberBetween (zPp D cI cZ cB [.ref (q 0), .int a_start, .int a_end] (cTell cI cB q tlen titems tfault tbytes twords tnumbers)) (zQp (some (.int r))) 0 0 (fun _ => False) := by
  unfold f3_numberBetween at hf
  refine z_pureI RX3 (by decide +kernel) rfl rfl (Nat.le_of_ble_eq_true rfl) ?_
  intro p e s m args below meth c Q ls hx hb hml hown hts hK hP hret hl
  have hl : lv_has ls 5 [(0, .ref (q 0)), (1, .int a_start), (2, .int a_end)] := hl
  refine lv_iconst (v := (0 : Int32)) hx hb (zD_g DX3_numberBetween 0 rfl) (by decide) ?_
  refine lv_istore_n (lv' := [(3, .int (0 : Int32)), (0, .ref (q 0)), (1, .int a_start), (2, .int a_end)]) hx hb (zD_g DX3_numberBetween 1 rfl) rfl hl (by decide) rfl (fun ls hl => ?_)
  refine lv_iload_n hx hb (zD_g DX3_numberBetween 2 rfl) rfl (lv_at hl 2 rfl) ?_
  refine lv_istore (lv' := [(4, .int a_start), (3, .int (0 : Int32)), (0, .ref (q 0)), (1, .int a_start), (2, .int a_end)]) hx hb (zD_g DX3_numberBetween 3 rfl) hl (by decide) rfl (fun ls hl => ?_)
  have hL3 : ∀ (k3 : Int32 → Option (Int32)) (hk3 : ∀ (y8 : Int32), k3 y8 = some r → ∀ (ls : Array Slot), lv_has ls 5 [(3, .int y8)] → W p l e rm3_numberBetween s m args below meth c s.heap [] 0 0 Q (F0 m 32 ls [])) (n3 : Nat) (y1 : Int32) (y2 : Int32), L3_numberBetween_5 k3 tlen tbytes a_end n3 y1 y2 = some r → ∀ (ls : Array Slot), lv_has ls 5 [(0, .ref (q 0)), (2, .int a_end), (3, .int y1), (4, .int y2)] → W p l e rm3_numberBetween s m args below meth c s.heap [] 0 0 Q (F0 m 5 ls []) := by
    intro k3 hk3 n3
    induction n3 with
    | zero =>
      intro y1 y2 hf
      cases hf
    | succ n3 ih3 =>
      intro y1 y2 hf ls hl
      rw [L3_numberBetween_5] at hf
      refine lv_iload hx hb (zD_g DX3_numberBetween 4 rfl) (lv_at hl 3 rfl) ?_
      refine lv_iload_n hx hb (zD_g DX3_numberBetween 5 rfl) rfl (lv_at hl 1 rfl) ?_
      refine lv_icmp_ge (tgt := 32) hx hb (zD_g DX3_numberBetween 6 rfl) (by decide) (fun c4 => ?_) (fun c4 => ?_)
      · replace hf := z_t c4 hf
        exact hk3 _ hf ls (lv_sub hl [2] rfl)
      · replace hf := z_f c4 hf
        refine lv_bipush (v := (10 : Int32)) hx hb (zD_g DX3_numberBetween 7 rfl) (by decide) ?_
        refine lv_iload_n hx hb (zD_g DX3_numberBetween 8 rfl) rfl (lv_at hl 2 rfl) ?_
        refine lv_imul hx hb (zD_g DX3_numberBetween 9 rfl) ?_
        refine lv_aload_n hx hb (zD_g DX3_numberBetween 10 rfl) rfl (lv_at hl 0 rfl) ?_
        refine lv_iload hx hb (zD_g DX3_numberBetween 11 rfl) (lv_at hl 3 rfl) ?_
        obtain ⟨r5, hc6, hf⟩ := zb1_s hf
        refine z_Vp (As := [.int y2]) (rest := [.int ((10 : Int32) * y1)]) ⟨hx, hb, hml, hown, hts⟩ hK (c3_byteAt (tlen := tlen) (titems := titems) (tfault := tfault) (tbytes := tbytes) (twords := twords) (tnumbers := tnumbers) (q := q) hc6) (cwV 1 hts gX3_numberBetween_X3_byteAt rfl rfl rfl hd3_byteAt ⟨Nat.le_of_ble_eq_true rfl, Nat.le_of_ble_eq_true rfl⟩) hP rfl rfl rfl rfl hl.1 rfl rfl (Nat.le_of_ble_eq_true rfl) (zD_g DX3_numberBetween 12 rfl) ⟨Nat.zero_le _, Nat.zero_le _⟩ ?_
        refine lv_iadd hx hb (zD_g DX3_numberBetween 13 rfl) ?_
        refine lv_bipush (v := (48 : Int32)) hx hb (zD_g DX3_numberBetween 14 rfl) (by decide) ?_
        refine lv_isub hx hb (zD_g DX3_numberBetween 15 rfl) ?_
        refine lv_topi (fun x7 ex7 => ?_)
        replace hf := zl_s hf x7 ex7
        refine lv_istore_n (lv' := [(3, .int x7), (0, .ref (q 0)), (2, .int a_end), (4, .int y2)]) hx hb (zD_g DX3_numberBetween 16 rfl) rfl hl (by decide) rfl (fun ls hl => ?_)
        refine lv_iinc (v := y2 + 1) (lv' := [(4, .int (y2 + 1)), (3, .int x7), (0, .ref (q 0)), (2, .int a_end)]) (k := 3) hx hb (zD_g DX3_numberBetween 17 rfl) hl rfl rfl (by decide) rfl (fun ls hl => ?_)
        refine lv_goto (tgt := 5) hx hb (zD_g DX3_numberBetween 18 rfl) (by decide) ?_
        exact ih3 _ _ hf ls (lv_sub hl [2, 3, 1, 0] rfl)
  refine hL3 _ (fun y8 hf ls hl => ?_) _ _ _ hf ls (lv_sub hl [2, 4, 1, 0] rfl)
  refine lv_iload_n hx hb (zD_g DX3_numberBetween 19 rfl) rfl (lv_at hl 0 rfl) ?_
  cases hf
  exact hret _ _ (zD_g DX3_numberBetween 20 rfl)
abbrev dlX3_wordOf : List (Nat × Instr × Nat) := [(0, .iload_n 1, 1), (1, .iconst 0, 1), (2, .aload_n 0, 1), (3, .getfield 25, 3), (6, .arraylength, 1), (7, .iconst 1, 1), (8, .isub, 1), (9, .invokestatic 32, 3), (12, .ifCond .eq 12, 3), (15, .aload_n 0, 1), (16, .getfield 25, 3), (19, .iload_n 1, 1), (20, .iaload, 1), (21, .goto 4, 3), (24, .iconst (-1), 1), (25, .ireturn, 1)]
theorem DX3_wordOf : zD cX3_wordOf dlX3_wordOf = true := by decide +kernel
set_option maxRecDepth 20000 in
theorem ggX3_wordOf_X5_within : GoodIn wsX3_wordOf wsX5_within := goodIn_r _ [4] (by decide +kernel) (by decide +kernel)
set_option maxRecDepth 20000 in
theorem gX3_wordOf_X5_within_n32 : GoodIn wsX3_wordOf (wsX5_within) := ggX3_wordOf_X5_within
theorem hd3_wordOf : yX3_wordOf.cls = RX3 ∧ yX3_wordOf.cls ≠ "java/lang/invoke/MethodHandle" ∧ yX3_wordOf.cls ≠ "java/lang/invoke/VarHandle" ∧ (parseMethodDescriptor yX3_wordOf.desc).map (fun d => d.parameters.length) = some 1 := by decide +kernel
abbrev rm3_wordOf : Room := { frames := 1, cells := 0, slots := 0, locals := 22 }
theorem in3_wordOf_3 : ∀ w ∈ wsX30, w ∈ wsX3_wordOf := fun w h => List.mem_cons_of_mem _ (List.mem_append_right _ h)
set_option maxHeartbeats 4000000 in
set_option maxRecDepth 100000 in
theorem c3_wordOf {l : Launch} {D : va_G} {cI cZ cB : ClassId} {q : Nat → Nat} {tlen : Int32} {titems : Int32} {tfault : Int32} {tbytes : Nat → Int32} {twords : Nat → Int32} {tnumbers : Nat → Int32} {a_item : Int32} {r : Int32}  (hf : f3_wordOf twords a_item = some r) : Met l yX3_wordOf wsX3_wordOf rm3_wordOf (zPp D cI cZ cB [.ref (q 0), .int a_item] (cTell cI cB q tlen titems tfault tbytes twords tnumbers)) (zQp (some (.int r))) 0 0 (fun _ => False) := by
  unfold f3_wordOf at hf
  refine z_pureI RX3 (by decide +kernel) rfl rfl (Nat.le_of_ble_eq_true rfl) ?_
  intro p e s m args below meth c Q ls hx hb hml hown hts hK hP hret hl
  have hl : lv_has ls 2 [(0, .ref (q 0)), (1, .int a_item)] := hl
  refine lv_iload_n hx hb (zD_g DX3_wordOf 0 rfl) rfl (lv_at hl 1 rfl) ?_
  refine lv_iconst (v := (0 : Int32)) hx hb (zD_g DX3_wordOf 1 rfl) (by decide) ?_
  refine lv_aload_n hx hb (zD_g DX3_wordOf 2 rfl) rfl (lv_at hl 0 rfl) ?_
  refine va_get (D := D) (ci := 2) (v := .ref (q 2)) (C := RX3) (T := TX3) (N := 6) hx hb hts in3_wordOf_3 hown hK.1 hP 0 rfl rfl 4 (by decide) (hts _ (List.mem_of_getElem? (i := 1) rfl)) (fun _ h9 => h9) rfl (zD_g DX3_wordOf 3 rfl) ?_
  refine va_alen (v := (25 : Int32)) hx hb hK.1 hP 2 0 rfl rfl rfl (zD_g DX3_wordOf 4 rfl) ?_
  refine lv_iconst (v := (1 : Int32)) hx hb (zD_g DX3_wordOf 5 rfl) (by decide) ?_
  refine lv_isub hx hb (zD_g DX3_wordOf 6 rfl) ?_
  obtain ⟨r1, hc2, hf⟩ := zb1_s hf
  refine z_Np (As := [.int a_item, .int (0 : Int32), .int ((25 : Int32) - (1 : Int32))]) (rest := []) ⟨hx, hb, hml, hown, hts⟩ hK (c5_within  hc2) ⟨va_cnB (own := RX3) (host := RX5) (index := 32) (y := yX5_within) 3 hts gX3_wordOf_X5_within_n32 rfl rfl rfl (hK.2 (RX3, 32, yX5_within) (List.mem_of_getElem? (i := 4) rfl)) (hts _ (List.mem_of_getElem? (i := 3) rfl)) hd5_within ⟨Nat.le_of_ble_eq_true rfl, Nat.le_of_ble_eq_true rfl⟩, (hts _ (List.mem_of_getElem? (i := 2) rfl)), trivial⟩ (hP.sub [] rfl) rfl hl.1 rfl rfl (Nat.le_of_ble_eq_true rfl) (zD_g DX3_wordOf 7 rfl) ⟨Nat.zero_le _, Nat.zero_le _⟩ ?_
  refine lv_if_eq (tgt := 24) hx hb (zD_g DX3_wordOf 8 rfl) (by decide) (fun c3 => ?_) (fun c3 => ?_)
  · replace hf := z_t c3 hf
    refine lv_iconst (v := (-1 : Int32)) hx hb (zD_g DX3_wordOf 14 rfl) (by decide) ?_
    cases hf
    exact hret _ _ (zD_g DX3_wordOf 15 rfl)
  · replace hf := z_f c3 hf
    refine lv_aload_n hx hb (zD_g DX3_wordOf 9 rfl) rfl (lv_at hl 0 rfl) ?_
    refine va_get (D := D) (ci := 2) (v := .ref (q 2)) (C := RX3) (T := TX3) (N := 6) hx hb hts in3_wordOf_3 hown hK.1 hP 0 rfl rfl 4 (by decide) (hts _ (List.mem_of_getElem? (i := 1) rfl)) (fun _ h9 => h9) rfl (zD_g DX3_wordOf 10 rfl) ?_
    refine lv_iload_n hx hb (zD_g DX3_wordOf 11 rfl) rfl (lv_at hl 1 rfl) ?_
    obtain ⟨h4, hf⟩ := zg_s hf
    refine z_iald (k := a_item.toNatClampNeg) hx hb hK.1 hP 2 0 rfl rfl h4 rfl (zD_g DX3_wordOf 12 rfl) ?_
    refine lv_goto (tgt := 25) hx hb (zD_g DX3_wordOf 13 rfl) (by decide) ?_
    refine lv_topi (fun x5 ex5 => ?_)
    replace hf := zl_s hf x5 ex5
    cases hf
    exact hret _ _ (zD_g DX3_wordOf 15 rfl)
abbrev dlX3_numberOf : List (Nat × Instr × Nat) := [(0, .iload_n 1, 1), (1, .iconst 4, 1), (2, .imul, 1), (3, .iload_n 2, 1), (4, .iadd, 1), (5, .istore_n 3, 1), (6, .iload_n 3, 1), (7, .iconst 0, 1), (8, .aload_n 0, 1), (9, .getfield 29, 3), (12, .arraylength, 1), (13, .iconst 1, 1), (14, .isub, 1), (15, .invokestatic 32, 3), (18, .ifCond .eq 12, 3), (21, .aload_n 0, 1), (22, .getfield 29, 3), (25, .iload_n 3, 1), (26, .iaload, 1), (27, .goto 4, 3), (30, .iconst (-1), 1), (31, .ireturn, 1)]
theorem DX3_numberOf : zD cX3_numberOf dlX3_numberOf = true := by decide +kernel
set_option maxRecDepth 20000 in
theorem ggX3_numberOf_X5_within : GoodIn wsX3_numberOf wsX5_within := goodIn_r _ [4] (by decide +kernel) (by decide +kernel)
set_option maxRecDepth 20000 in
theorem gX3_numberOf_X5_within_n32 : GoodIn wsX3_numberOf (wsX5_within) := ggX3_numberOf_X5_within
theorem hd3_numberOf : yX3_numberOf.cls = RX3 ∧ yX3_numberOf.cls ≠ "java/lang/invoke/MethodHandle" ∧ yX3_numberOf.cls ≠ "java/lang/invoke/VarHandle" ∧ (parseMethodDescriptor yX3_numberOf.desc).map (fun d => d.parameters.length) = some 2 := by decide +kernel
abbrev rm3_numberOf : Room := { frames := 1, cells := 0, slots := 0, locals := 22 }
theorem in3_numberOf_3 : ∀ w ∈ wsX30, w ∈ wsX3_numberOf := fun w h => List.mem_cons_of_mem _ (List.mem_append_right _ h)
set_option maxHeartbeats 4000000 in
set_option maxRecDepth 100000 in
theorem c3_numberOf {l : Launch} {D : va_G} {cI cZ cB : ClassId} {q : Nat → Nat} {tlen : Int32} {titems : Int32} {tfault : Int32} {tbytes : Nat → Int32} {twords : Nat → Int32} {tnumbers : Nat → Int32} {a_item : Int32} {a_n : Int32} {r : Int32}  (hf : f3_numberOf tnumbers a_item a_n = some r) : Met l yX3_numberOf wsX3_numberOf rm3_numberOf (zPp D cI cZ cB [.ref (q 0), .int a_item, .int a_n] (cTell cI cB q tlen titems tfault tbytes twords tnumbers)) (zQp (some (.int r))) 0 0 (fun _ => False) := by
  unfold f3_numberOf at hf
  refine z_pureI RX3 (by decide +kernel) rfl rfl (Nat.le_of_ble_eq_true rfl) ?_
  intro p e s m args below meth c Q ls hx hb hml hown hts hK hP hret hl
  have hl : lv_has ls 4 [(0, .ref (q 0)), (1, .int a_item), (2, .int a_n)] := hl
  refine lv_iload_n hx hb (zD_g DX3_numberOf 0 rfl) rfl (lv_at hl 1 rfl) ?_
  refine lv_iconst (v := (4 : Int32)) hx hb (zD_g DX3_numberOf 1 rfl) (by decide) ?_
  refine lv_imul hx hb (zD_g DX3_numberOf 2 rfl) ?_
  refine lv_iload_n hx hb (zD_g DX3_numberOf 3 rfl) rfl (lv_at hl 2 rfl) ?_
  refine lv_iadd hx hb (zD_g DX3_numberOf 4 rfl) ?_
  refine lv_topi (fun x1 ex1 => ?_)
  replace hf := zl_s hf x1 ex1
  refine lv_istore_n (lv' := [(3, .int x1), (0, .ref (q 0)), (1, .int a_item), (2, .int a_n)]) hx hb (zD_g DX3_numberOf 5 rfl) rfl hl (by decide) rfl (fun ls hl => ?_)
  refine lv_iload_n hx hb (zD_g DX3_numberOf 6 rfl) rfl (lv_at hl 0 rfl) ?_
  refine lv_iconst (v := (0 : Int32)) hx hb (zD_g DX3_numberOf 7 rfl) (by decide) ?_
  refine lv_aload_n hx hb (zD_g DX3_numberOf 8 rfl) rfl (lv_at hl 1 rfl) ?_
  refine va_get (D := D) (ci := 2) (v := .ref (q 3)) (C := RX3) (T := TX3) (N := 6) hx hb hts in3_numberOf_3 hown hK.1 hP 0 rfl rfl 5 (by decide) (hts _ (List.mem_of_getElem? (i := 1) rfl)) (fun _ h9 => h9) rfl (zD_g DX3_numberOf 9 rfl) ?_
  refine va_alen (v := (100 : Int32)) hx hb hK.1 hP 3 0 rfl rfl rfl (zD_g DX3_numberOf 10 rfl) ?_
  refine lv_iconst (v := (1 : Int32)) hx hb (zD_g DX3_numberOf 11 rfl) (by decide) ?_
  refine lv_isub hx hb (zD_g DX3_numberOf 12 rfl) ?_
  obtain ⟨r2, hc3, hf⟩ := zb1_s hf
  refine z_Np (As := [.int x1, .int (0 : Int32), .int ((100 : Int32) - (1 : Int32))]) (rest := []) ⟨hx, hb, hml, hown, hts⟩ hK (c5_within  hc3) ⟨va_cnB (own := RX3) (host := RX5) (index := 32) (y := yX5_within) 3 hts gX3_numberOf_X5_within_n32 rfl rfl rfl (hK.2 (RX3, 32, yX5_within) (List.mem_of_getElem? (i := 4) rfl)) (hts _ (List.mem_of_getElem? (i := 3) rfl)) hd5_within ⟨Nat.le_of_ble_eq_true rfl, Nat.le_of_ble_eq_true rfl⟩, (hts _ (List.mem_of_getElem? (i := 2) rfl)), trivial⟩ (hP.sub [] rfl) rfl hl.1 rfl rfl (Nat.le_of_ble_eq_true rfl) (zD_g DX3_numberOf 13 rfl) ⟨Nat.zero_le _, Nat.zero_le _⟩ ?_
  refine lv_if_eq (tgt := 30) hx hb (zD_g DX3_numberOf 14 rfl) (by decide) (fun c4 => ?_) (fun c4 => ?_)
  · replace hf := z_t c4 hf
    refine lv_iconst (v := (-1 : Int32)) hx hb (zD_g DX3_numberOf 20 rfl) (by decide) ?_
    cases hf
    exact hret _ _ (zD_g DX3_numberOf 21 rfl)
  · replace hf := z_f c4 hf
    refine lv_aload_n hx hb (zD_g DX3_numberOf 15 rfl) rfl (lv_at hl 1 rfl) ?_
    refine va_get (D := D) (ci := 2) (v := .ref (q 3)) (C := RX3) (T := TX3) (N := 6) hx hb hts in3_numberOf_3 hown hK.1 hP 0 rfl rfl 5 (by decide) (hts _ (List.mem_of_getElem? (i := 1) rfl)) (fun _ h9 => h9) rfl (zD_g DX3_numberOf 16 rfl) ?_
    refine lv_iload_n hx hb (zD_g DX3_numberOf 17 rfl) rfl (lv_at hl 0 rfl) ?_
    obtain ⟨h5, hf⟩ := zg_s hf
    refine z_iald (k := x1.toNatClampNeg) hx hb hK.1 hP 3 0 rfl rfl h5 rfl (zD_g DX3_numberOf 18 rfl) ?_
    refine lv_goto (tgt := 31) hx hb (zD_g DX3_numberOf 19 rfl) (by decide) ?_
    refine lv_topi (fun x6 ex6 => ?_)
    replace hf := zl_s hf x6 ex6
    cases hf
    exact hret _ _ (zD_g DX3_numberOf 21 rfl)
