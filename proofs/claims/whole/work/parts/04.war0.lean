abbrev dlJ6_bitCount_0f7a4 : List (Nat × Instr × Nat) := [(0, .iload_n 0, 1), (1, .iload_n 0, 1), (2, .iconst 1, 1), (3, .iushr, 1), (4, .ldc_w 265, 3), (7, .iand, 1), (8, .isub, 1), (9, .istore_n 0, 1), (10, .iload_n 0, 1), (11, .ldc_w 266, 3), (14, .iand, 1), (15, .iload_n 0, 1), (16, .iconst 2, 1), (17, .iushr, 1), (18, .ldc_w 266, 3), (21, .iand, 1), (22, .iadd, 1), (23, .istore_n 0, 1), (24, .iload_n 0, 1), (25, .iload_n 0, 1), (26, .iconst 4, 1), (27, .iushr, 1), (28, .iadd, 1), (29, .ldc_w 267, 3), (32, .iand, 1), (33, .istore_n 0, 1), (34, .iload_n 0, 1), (35, .iload_n 0, 1), (36, .bipush 8, 2), (38, .iushr, 1), (39, .iadd, 1), (40, .istore_n 0, 1), (41, .iload_n 0, 1), (42, .iload_n 0, 1), (43, .bipush 16, 2), (45, .iushr, 1), (46, .iadd, 1), (47, .istore_n 0, 1), (48, .iload_n 0, 1), (49, .bipush 63, 2), (51, .iand, 1), (52, .ireturn, 1)]
theorem DJ6_bitCount_0f7a4 : zD cJ6_bitCount_0f7a4 dlJ6_bitCount_0f7a4 = true := by decide +kernel
theorem hd6_bitCount_0f7a4 : yJ6_bitCount_0f7a4.cls ≠ "java/lang/invoke/MethodHandle" ∧ yJ6_bitCount_0f7a4.cls ≠ "java/lang/invoke/VarHandle" ∧ (parseMethodDescriptor yJ6_bitCount_0f7a4.desc).map (fun d => d.parameters.length) = some 1 := by decide +kernel
abbrev rm6_bitCount_0f7a4 : Room := { frames := 0, cells := 0, slots := 0, locals := 0 }
set_option maxHeartbeats 4000000 in
set_option maxRecDepth 100000 in
theorem c6_bitCount_0f7a4 {l : Launch} {D : va_G} {cI cZ cB : ClassId}   {a_i : Int32} {r : Int32}  (hf : f6_bitCount_0f7a4 a_i = some r) : Met l yJ6_bitCount_0f7a4 wsJ6_bitCount_0f7a4 rm6_bitCount_0f7a4 (zPp D cI cZ cB [.int a_i] ([] : va_W)) (zQp (some (.int r))) 0 0 (fun _ => False) := by
  unfold f6_bitCount_0f7a4 at hf
  refine z_pureI RJ6 (by decide +kernel) rfl rfl (Nat.le_of_ble_eq_true rfl) ?_
  intro p e s m args below meth c Q ls hx hb hml hown hts hK hP hret hl
  have hl : lv_has ls 1 [(0, .int a_i)] := hl
  refine lv_iload_n hx hb (zD_g DJ6_bitCount_0f7a4 0 rfl) rfl (lv_at hl 0 rfl) ?_
  refine lv_iload_n hx hb (zD_g DJ6_bitCount_0f7a4 1 rfl) rfl (lv_at hl 0 rfl) ?_
  refine lv_iconst (v := (1 : Int32)) hx hb (zD_g DJ6_bitCount_0f7a4 2 rfl) (by decide) ?_
  refine lv_iushr hx hb (zD_g DJ6_bitCount_0f7a4 3 rfl) rfl ?_
  refine lv_ldcw (v := (1431655765 : Int32)) hx hb hown (hts _ (List.mem_of_getElem? (i := 1) rfl)) (zD_g DJ6_bitCount_0f7a4 4 rfl) ?_
  refine lv_iand hx hb (zD_g DJ6_bitCount_0f7a4 5 rfl) ?_
  refine lv_isub hx hb (zD_g DJ6_bitCount_0f7a4 6 rfl) ?_
  refine lv_topi (fun x1 ex1 => ?_)
  replace hf := zl_s hf x1 ex1
  refine lv_istore_n (lv' := [(0, .int x1)]) hx hb (zD_g DJ6_bitCount_0f7a4 7 rfl) rfl hl (by decide) rfl (fun ls hl => ?_)
  refine lv_iload_n hx hb (zD_g DJ6_bitCount_0f7a4 8 rfl) rfl (lv_at hl 0 rfl) ?_
  refine lv_ldcw (v := (858993459 : Int32)) hx hb hown (hts _ (List.mem_of_getElem? (i := 2) rfl)) (zD_g DJ6_bitCount_0f7a4 9 rfl) ?_
  refine lv_iand hx hb (zD_g DJ6_bitCount_0f7a4 10 rfl) ?_
  refine lv_iload_n hx hb (zD_g DJ6_bitCount_0f7a4 11 rfl) rfl (lv_at hl 0 rfl) ?_
  refine lv_iconst (v := (2 : Int32)) hx hb (zD_g DJ6_bitCount_0f7a4 12 rfl) (by decide) ?_
  refine lv_iushr hx hb (zD_g DJ6_bitCount_0f7a4 13 rfl) rfl ?_
  refine lv_ldcw (v := (858993459 : Int32)) hx hb hown (hts _ (List.mem_of_getElem? (i := 2) rfl)) (zD_g DJ6_bitCount_0f7a4 14 rfl) ?_
  refine lv_iand hx hb (zD_g DJ6_bitCount_0f7a4 15 rfl) ?_
  refine lv_iadd hx hb (zD_g DJ6_bitCount_0f7a4 16 rfl) ?_
  refine lv_topi (fun x2 ex2 => ?_)
  replace hf := zl_s hf x2 ex2
  refine lv_istore_n (lv' := [(0, .int x2)]) hx hb (zD_g DJ6_bitCount_0f7a4 17 rfl) rfl hl (by decide) rfl (fun ls hl => ?_)
  refine lv_iload_n hx hb (zD_g DJ6_bitCount_0f7a4 18 rfl) rfl (lv_at hl 0 rfl) ?_
  refine lv_iload_n hx hb (zD_g DJ6_bitCount_0f7a4 19 rfl) rfl (lv_at hl 0 rfl) ?_
  refine lv_iconst (v := (4 : Int32)) hx hb (zD_g DJ6_bitCount_0f7a4 20 rfl) (by decide) ?_
  refine lv_iushr hx hb (zD_g DJ6_bitCount_0f7a4 21 rfl) rfl ?_
  refine lv_iadd hx hb (zD_g DJ6_bitCount_0f7a4 22 rfl) ?_
  refine lv_ldcw (v := (252645135 : Int32)) hx hb hown (hts _ (List.mem_of_getElem? (i := 3) rfl)) (zD_g DJ6_bitCount_0f7a4 23 rfl) ?_
  refine lv_iand hx hb (zD_g DJ6_bitCount_0f7a4 24 rfl) ?_
  refine lv_topi (fun x3 ex3 => ?_)
  replace hf := zl_s hf x3 ex3
  refine lv_istore_n (lv' := [(0, .int x3)]) hx hb (zD_g DJ6_bitCount_0f7a4 25 rfl) rfl hl (by decide) rfl (fun ls hl => ?_)
  refine lv_iload_n hx hb (zD_g DJ6_bitCount_0f7a4 26 rfl) rfl (lv_at hl 0 rfl) ?_
  refine lv_iload_n hx hb (zD_g DJ6_bitCount_0f7a4 27 rfl) rfl (lv_at hl 0 rfl) ?_
  refine lv_bipush (v := (8 : Int32)) hx hb (zD_g DJ6_bitCount_0f7a4 28 rfl) (by decide) ?_
  refine lv_iushr hx hb (zD_g DJ6_bitCount_0f7a4 29 rfl) rfl ?_
  refine lv_iadd hx hb (zD_g DJ6_bitCount_0f7a4 30 rfl) ?_
  refine lv_topi (fun x4 ex4 => ?_)
  replace hf := zl_s hf x4 ex4
  refine lv_istore_n (lv' := [(0, .int x4)]) hx hb (zD_g DJ6_bitCount_0f7a4 31 rfl) rfl hl (by decide) rfl (fun ls hl => ?_)
  refine lv_iload_n hx hb (zD_g DJ6_bitCount_0f7a4 32 rfl) rfl (lv_at hl 0 rfl) ?_
  refine lv_iload_n hx hb (zD_g DJ6_bitCount_0f7a4 33 rfl) rfl (lv_at hl 0 rfl) ?_
  refine lv_bipush (v := (16 : Int32)) hx hb (zD_g DJ6_bitCount_0f7a4 34 rfl) (by decide) ?_
  refine lv_iushr hx hb (zD_g DJ6_bitCount_0f7a4 35 rfl) rfl ?_
  refine lv_iadd hx hb (zD_g DJ6_bitCount_0f7a4 36 rfl) ?_
  refine lv_topi (fun x5 ex5 => ?_)
  replace hf := zl_s hf x5 ex5
  refine lv_istore_n (lv' := [(0, .int x5)]) hx hb (zD_g DJ6_bitCount_0f7a4 37 rfl) rfl hl (by decide) rfl (fun ls hl => ?_)
  refine lv_iload_n hx hb (zD_g DJ6_bitCount_0f7a4 38 rfl) rfl (lv_at hl 0 rfl) ?_
  refine lv_bipush (v := (63 : Int32)) hx hb (zD_g DJ6_bitCount_0f7a4 39 rfl) (by decide) ?_
  refine lv_iand hx hb (zD_g DJ6_bitCount_0f7a4 40 rfl) ?_
  refine lv_topi (fun x6 ex6 => ?_)
  replace hf := zl_s hf x6 ex6
  cases hf
  exact hret _ _ (zD_g DJ6_bitCount_0f7a4 41 rfl)
abbrev dlX4_forget : List (Nat × Instr × Nat) := [(0, .aload_n 0, 1), (1, .getfield 60, 3), (4, .iconst 0, 1), (5, .putfield 87, 3), (8, .return_, 1)]
theorem DX4_forget : zD cX4_forget dlX4_forget = true := by decide +kernel
theorem hd4_forget : yX4_forget.cls = RX4 ∧ yX4_forget.cls ≠ "java/lang/invoke/MethodHandle" ∧ yX4_forget.cls ≠ "java/lang/invoke/VarHandle" ∧ (parseMethodDescriptor yX4_forget.desc).map (fun d => d.parameters.length) = some 0 := by decide +kernel
abbrev rm4_forget : Room := { frames := 0, cells := 0, slots := 0, locals := 0 }
theorem in4_forget_2 : ∀ w ∈ wsX20, w ∈ wsX4_forget := fun w h => List.mem_cons_of_mem _ (List.mem_append_right _ h)
theorem in4_forget_4 : ∀ w ∈ wsX40, w ∈ wsX4_forget := fun w h => List.mem_cons_of_mem _ (List.mem_append_left _ (List.mem_append_right _ h))
set_option maxHeartbeats 4000000 in
set_option maxRecDepth 100000 in
theorem c4_forget {l : Launch} {D : va_G} {cI cZ cB : ClassId} {q : Nat → Nat} {sz : Nat} {things : Int32} {gifts : Int32} {days : Int32} {size : Nat → Int32} {weight : Nat → Int32} {sound : Nat → Int32} {harm : Nat → Int32} {in_ : Nat → Int32} {kind : Nat → Int32} {owner : Nat → Int32} {empty : Nat → Int32} {room : Nat → Int32} {told : Nat → Int32} {gate : Nat → Int32} {ear : Nat → Int32} {scale : Nat → Int32} {lost : Nat → Int32} {watch : Nat → Int32} {moments : Int32} {kept : Nat → Int32}   {d_moments : Int32} (hf : f4_forget moments = some d_moments) : Met l yX4_forget wsX4_forget rm4_forget (zPm D cI cZ cB [.ref (q 0)] sz (cWar cI q things gifts days size weight sound harm in_ kind owner empty room told gate ear scale lost watch moments kept)) (zQm D none (cWar cI q things gifts days size weight sound harm in_ kind owner empty room told gate ear scale lost watch d_moments kept) (va_A (cWar cI q things gifts days size weight sound harm in_ kind owner empty room told gate ear scale lost watch moments kept) sz)) 0 0 (va_A (cWar cI q things gifts days size weight sound harm in_ kind owner empty room told gate ear scale lost watch moments kept) sz) := by
  unfold f4_forget at hf
  refine z_mutV RX4 (by decide +kernel) rfl rfl (Nat.le_of_ble_eq_true rfl) ?_
  intro p e s m args below meth c Q A ls hx hb hml hown hts hK hP hD hS hA hret hl
  have hl : lv_has ls 1 [(0, .ref (q 0))] := hl
  refine lv_aload_n hx hb (zD_g DX4_forget 0 rfl) rfl (lv_at hl 0 rfl) ?_
  refine va_get (D := D) (ci := 3) (v := .ref (q 16)) (C := RX4) (T := TX4) (N := 19) hx hb hts in4_forget_4 hown hK.1 hP 0 rfl rfl 18 (by decide) (hts _ (List.mem_of_getElem? (i := 1) rfl)) (fun _ h9 => h9) rfl (zD_g DX4_forget 1 rfl) ?_
  refine lv_iconst (v := (0 : Int32)) hx hb (zD_g DX4_forget 2 rfl) (by decide) ?_
  refine z_put (D := D) (ci := 1) (v := .int (0 : Int32)) (ty := .int) (C := RX2) (T := TX2) (N := 2) (ws' := (cWar cI q things gifts days size weight sound harm in_ kind owner empty room told gate ear scale lost watch (0 : Int32) kept)) hx hb hts in4_forget_2 tyX2 tyX2_ok nmX2 hown hK.1 hP hD hS 16 rfl rfl 0 (by decide) (hts _ (List.mem_of_getElem? (i := 2) rfl)) (fun _ h9 => h9) rfl (tyX2_ok 0 (by decide)) rfl rfl (Nat.le_of_ble_eq_true rfl) rfl (zD_g DX4_forget 3 rfl) (fun H locs hP hD hS => ?_)
  cases hf
  exact hret _ _ _ _ hP hD hS (zD_g DX4_forget 4 rfl)
abbrev dlX4_renew : List (Nat × Instr × Nat) := [(0, .aload_n 0, 1), (1, .iconst 0, 1), (2, .putfield 67, 3), (5, .aload_n 0, 1), (6, .iconst 0, 1), (7, .putfield 71, 3), (10, .aload_n 0, 1), (11, .iconst 0, 1), (12, .putfield 74, 3), (15, .iconst 0, 1), (16, .istore_n 1, 1), (17, .iload_n 1, 1), (18, .iconst 2, 1), (19, .if_icmp .ge 40, 3), (22, .aload_n 0, 1), (23, .getfield 42, 3), (26, .iload_n 1, 1), (27, .bipush 15, 2), (29, .iastore, 1), (30, .aload_n 0, 1), (31, .getfield 45, 3), (34, .iload_n 1, 1), (35, .bipush 10, 2), (37, .iastore, 1), (38, .aload_n 0, 1), (39, .getfield 48, 3), (42, .iload_n 1, 1), (43, .bipush 60, 2), (45, .iastore, 1), (46, .aload_n 0, 1), (47, .getfield 51, 3), (50, .iload_n 1, 1), (51, .iconst 0, 1), (52, .iastore, 1), (53, .iinc 1 1, 3), (56, .goto (-39), 3), (59, .iconst 0, 1), (60, .istore_n 1, 1), (61, .iload_n 1, 1), (62, .aload_n 0, 1), (63, .getfield 54, 3), (66, .arraylength, 1), (67, .if_icmp .ge 16, 3), (70, .aload_n 0, 1), (71, .getfield 54, 3), (74, .iload_n 1, 1), (75, .iconst 0, 1), (76, .iastore, 1), (77, .iinc 1 1, 3), (80, .goto (-19), 3), (83, .aload_n 0, 1), (84, .invokevirtual 77, 3), (87, .return_, 1)]
theorem DX4_renew : zD cX4_renew dlX4_renew = true := by decide +kernel
set_option maxRecDepth 20000 in
theorem ggX4_renew_X4_forget : GoodIn wsX4_renew wsX4_forget := goodIn_r _ [13, 14, 15, 16, 17, 18, 19, 20, 21, 22, 23, 24, 25, 26, 27, 28, 29, 30, 31, 32, 33, 34, 35, 36] (by decide +kernel) (by decide +kernel)
set_option maxRecDepth 20000 in
theorem gX4_renew_X4_forget : GoodIn wsX4_renew (wsV RX4 77 RX4 yX4_forget wsX4_forget) := goodIn_app (goodIn_of _ (by decide +kernel)) ggX4_renew_X4_forget
theorem hd4_renew : yX4_renew.cls = RX4 ∧ yX4_renew.cls ≠ "java/lang/invoke/MethodHandle" ∧ yX4_renew.cls ≠ "java/lang/invoke/VarHandle" ∧ (parseMethodDescriptor yX4_renew.desc).map (fun d => d.parameters.length) = some 0 := by decide +kernel
abbrev rm4_renew : Room := { frames := 1, cells := 0, slots := 0, locals := 20 }
theorem in4_renew_4 : ∀ w ∈ wsX40, w ∈ wsX4_renew := fun w h => List.mem_cons_of_mem _ (List.mem_append_left _ (List.mem_append_right _ h))
set_option maxHeartbeats 4000000 in
set_option maxRecDepth 100000 in
theorem c4_renew {l : Launch} {D : va_G} {cI cZ cB : ClassId} {q : Nat → Nat} {sz : Nat} {things : Int32} {gifts : Int32} {days : Int32} {size : Nat → Int32} {weight : Nat → Int32} {sound : Nat → Int32} {harm : Nat → Int32} {in_ : Nat → Int32} {kind : Nat → Int32} {owner : Nat → Int32} {empty : Nat → Int32} {room : Nat → Int32} {told : Nat → Int32} {gate : Nat → Int32} {ear : Nat → Int32} {scale : Nat → Int32} {lost : Nat → Int32} {watch : Nat → Int32} {moments : Int32} {kept : Nat → Int32}   {d_things : Int32} {d_gifts : Int32} {d_days : Int32} {d_gate : Nat → Int32} {d_ear : Nat → Int32} {d_scale : Nat → Int32} {d_lost : Nat → Int32} {d_watch : Nat → Int32} {d_moments : Int32} (hf : f4_renew things gifts days gate ear scale lost watch moments = some (d_things, d_gifts, d_days, d_gate, d_ear, d_scale, d_lost, d_watch, d_moments)) : Met l yX4_renew wsX4_renew rm4_renew (zPm D cI cZ cB [.ref (q 0)] sz (cWar cI q things gifts days size weight sound harm in_ kind owner empty room told gate ear scale lost watch moments kept)) (zQm D none (cWar cI q d_things d_gifts d_days size weight sound harm in_ kind owner empty room told d_gate d_ear d_scale d_lost d_watch d_moments kept) (va_A (cWar cI q things gifts days size weight sound harm in_ kind owner empty room told gate ear scale lost watch moments kept) sz)) 0 0 (va_A (cWar cI q things gifts days size weight sound harm in_ kind owner empty room told gate ear scale lost watch moments kept) sz) := by
  unfold f4_renew at hf
  refine z_mutV RX4 (by decide +kernel) rfl rfl (Nat.le_of_ble_eq_true rfl) ?_
  intro p e s m args below meth c Q A ls hx hb hml hown hts hK hP hD hS hA hret hl
  have hl : lv_has ls 2 [(0, .ref (q 0))] := hl
  refine lv_aload_n hx hb (zD_g DX4_renew 0 rfl) rfl (lv_at hl 0 rfl) ?_
  refine lv_iconst (v := (0 : Int32)) hx hb (zD_g DX4_renew 1 rfl) (by decide) ?_
  refine z_put (D := D) (ci := 3) (v := .int (0 : Int32)) (ty := .int) (C := RX4) (T := TX4) (N := 19) (ws' := (cWar cI q (0 : Int32) gifts days size weight sound harm in_ kind owner empty room told gate ear scale lost watch moments kept)) hx hb hts in4_renew_4 tyX4 tyX4_ok nmX4 hown hK.1 hP hD hS 0 rfl rfl 0 (by decide) (hts _ (List.mem_of_getElem? (i := 1) rfl)) (fun _ h9 => h9) rfl (tyX4_ok 0 (by decide)) rfl rfl (Nat.le_of_ble_eq_true rfl) rfl (zD_g DX4_renew 2 rfl) (fun H locs hP hD hS => ?_)
  refine lv_aload_n hx hb (zD_g DX4_renew 3 rfl) rfl (lv_at hl 0 rfl) ?_
  refine lv_iconst (v := (0 : Int32)) hx hb (zD_g DX4_renew 4 rfl) (by decide) ?_
  refine z_put (D := D) (ci := 3) (v := .int (0 : Int32)) (ty := .int) (C := RX4) (T := TX4) (N := 19) (ws' := (cWar cI q (0 : Int32) (0 : Int32) days size weight sound harm in_ kind owner empty room told gate ear scale lost watch moments kept)) hx hb hts in4_renew_4 tyX4 tyX4_ok nmX4 hown hK.1 hP hD hS 0 rfl rfl 1 (by decide) (hts _ (List.mem_of_getElem? (i := 2) rfl)) (fun _ h9 => h9) rfl (tyX4_ok 1 (by decide)) rfl rfl (Nat.le_of_ble_eq_true rfl) rfl (zD_g DX4_renew 5 rfl) (fun H locs hP hD hS => ?_)
  refine lv_aload_n hx hb (zD_g DX4_renew 6 rfl) rfl (lv_at hl 0 rfl) ?_
  refine lv_iconst (v := (0 : Int32)) hx hb (zD_g DX4_renew 7 rfl) (by decide) ?_
  refine z_put (D := D) (ci := 3) (v := .int (0 : Int32)) (ty := .int) (C := RX4) (T := TX4) (N := 19) (ws' := (cWar cI q (0 : Int32) (0 : Int32) (0 : Int32) size weight sound harm in_ kind owner empty room told gate ear scale lost watch moments kept)) hx hb hts in4_renew_4 tyX4 tyX4_ok nmX4 hown hK.1 hP hD hS 0 rfl rfl 2 (by decide) (hts _ (List.mem_of_getElem? (i := 3) rfl)) (fun _ h9 => h9) rfl (tyX4_ok 2 (by decide)) rfl rfl (Nat.le_of_ble_eq_true rfl) rfl (zD_g DX4_renew 8 rfl) (fun H locs hP hD hS => ?_)
  refine lv_iconst (v := (0 : Int32)) hx hb (zD_g DX4_renew 9 rfl) (by decide) ?_
  refine lv_istore_n (lv' := [(1, .int (0 : Int32)), (0, .ref (q 0))]) hx hb (zD_g DX4_renew 10 rfl) rfl hl (by decide) rfl (fun ls hl => ?_)
  have hL6 : ∀ (k6 : (Nat → Int32) → (Nat → Int32) → (Nat → Int32) → (Nat → Int32) → Option (Int32 × Int32 × Int32 × (Nat → Int32) × (Nat → Int32) × (Nat → Int32) × (Nat → Int32) × (Nat → Int32) × Int32)) (hk6 : ∀ (gate_12 : Nat → Int32) (ear_13 : Nat → Int32) (scale_14 : Nat → Int32) (lost_15 : Nat → Int32), k6 gate_12 ear_13 scale_14 lost_15 = some (d_things, d_gifts, d_days, d_gate, d_ear, d_scale, d_lost, d_watch, d_moments) → ∀ (H : Heap) (locs : List Loc), va_P D vwCl (cWar cI q (0 : Int32) (0 : Int32) (0 : Int32) size weight sound harm in_ kind owner empty room told gate_12 ear_13 scale_14 lost_15 watch moments kept) H → va_D A (cWar cI q (0 : Int32) (0 : Int32) (0 : Int32) size weight sound harm in_ kind owner empty room told gate_12 ear_13 scale_14 lost_15 watch moments kept) → va_S A s.heap H locs → ∀ (ls : Array Slot), lv_has ls 2 [(0, .ref (q 0))] → W p l e rm4_renew s m args below meth c H locs 0 0 Q (F0 m 59 ls [])) (n6 : Nat) (y1 : Int32) (gate_2 : Nat → Int32) (ear_3 : Nat → Int32) (scale_4 : Nat → Int32) (lost_5 : Nat → Int32), L4_renew_17 k6 n6 y1 gate_2 ear_3 scale_4 lost_5 = some (d_things, d_gifts, d_days, d_gate, d_ear, d_scale, d_lost, d_watch, d_moments) → ∀ (H : Heap) (locs : List Loc), va_P D vwCl (cWar cI q (0 : Int32) (0 : Int32) (0 : Int32) size weight sound harm in_ kind owner empty room told gate_2 ear_3 scale_4 lost_5 watch moments kept) H → va_D A (cWar cI q (0 : Int32) (0 : Int32) (0 : Int32) size weight sound harm in_ kind owner empty room told gate_2 ear_3 scale_4 lost_5 watch moments kept) → va_S A s.heap H locs → ∀ (ls : Array Slot), lv_has ls 2 [(0, .ref (q 0)), (1, .int y1)] → W p l e rm4_renew s m args below meth c H locs 0 0 Q (F0 m 17 ls []) := by
    intro k6 hk6 n6
    induction n6 with
    | zero =>
      intro y1 gate_2 ear_3 scale_4 lost_5 hf
      cases hf
    | succ n6 ih6 =>
      intro y1 gate_2 ear_3 scale_4 lost_5 hf H locs hP hD hS ls hl
      rw [L4_renew_17] at hf
      refine lv_iload_n hx hb (zD_g DX4_renew 11 rfl) rfl (lv_at hl 1 rfl) ?_
      refine lv_iconst (v := (2 : Int32)) hx hb (zD_g DX4_renew 12 rfl) (by decide) ?_
      refine lv_icmp_ge (tgt := 59) hx hb (zD_g DX4_renew 13 rfl) (by decide) (fun c7 => ?_) (fun c7 => ?_)
      · replace hf := z_t c7 hf
        exact hk6 _ _ _ _ hf _ _ hP hD hS ls (lv_sub hl [0] rfl)
      · replace hf := z_f c7 hf
        refine lv_aload_n hx hb (zD_g DX4_renew 14 rfl) rfl (lv_at hl 0 rfl) ?_
        refine va_get (D := D) (ci := 3) (v := .ref (q 11)) (C := RX4) (T := TX4) (N := 19) hx hb hts in4_renew_4 hown hK.1 hP 0 rfl rfl 13 (by decide) (hts _ (List.mem_of_getElem? (i := 4) rfl)) (fun _ h9 => h9) rfl (zD_g DX4_renew 15 rfl) ?_
        refine lv_iload_n hx hb (zD_g DX4_renew 16 rfl) rfl (lv_at hl 1 rfl) ?_
        refine lv_bipush (v := (15 : Int32)) hx hb (zD_g DX4_renew 17 rfl) (by decide) ?_
        obtain ⟨h8, hf⟩ := zg_s hf
        refine z_iast (k := y1.toNatClampNeg) (ws' := (cWar cI q (0 : Int32) (0 : Int32) (0 : Int32) size weight sound harm in_ kind owner empty room told (upd gate_2 y1.toNatClampNeg (15 : Int32)) ear_3 scale_4 lost_5 watch moments kept)) hx hb hK.1 hP hD hS 11 0 rfl rfl h8 rfl rfl (zD_g DX4_renew 18 rfl) (fun H locs hP hD hS => ?_)
        refine lv_aload_n hx hb (zD_g DX4_renew 19 rfl) rfl (lv_at hl 0 rfl) ?_
        refine va_get (D := D) (ci := 3) (v := .ref (q 12)) (C := RX4) (T := TX4) (N := 19) hx hb hts in4_renew_4 hown hK.1 hP 0 rfl rfl 14 (by decide) (hts _ (List.mem_of_getElem? (i := 5) rfl)) (fun _ h9 => h9) rfl (zD_g DX4_renew 20 rfl) ?_
        refine lv_iload_n hx hb (zD_g DX4_renew 21 rfl) rfl (lv_at hl 1 rfl) ?_
        refine lv_bipush (v := (10 : Int32)) hx hb (zD_g DX4_renew 22 rfl) (by decide) ?_
        obtain ⟨h9, hf⟩ := zg_s hf
        refine z_iast (k := y1.toNatClampNeg) (ws' := (cWar cI q (0 : Int32) (0 : Int32) (0 : Int32) size weight sound harm in_ kind owner empty room told (upd gate_2 y1.toNatClampNeg (15 : Int32)) (upd ear_3 y1.toNatClampNeg (10 : Int32)) scale_4 lost_5 watch moments kept)) hx hb hK.1 hP hD hS 12 0 rfl rfl h9 rfl rfl (zD_g DX4_renew 23 rfl) (fun H locs hP hD hS => ?_)
        refine lv_aload_n hx hb (zD_g DX4_renew 24 rfl) rfl (lv_at hl 0 rfl) ?_
        refine va_get (D := D) (ci := 3) (v := .ref (q 13)) (C := RX4) (T := TX4) (N := 19) hx hb hts in4_renew_4 hown hK.1 hP 0 rfl rfl 15 (by decide) (hts _ (List.mem_of_getElem? (i := 6) rfl)) (fun _ h9 => h9) rfl (zD_g DX4_renew 25 rfl) ?_
        refine lv_iload_n hx hb (zD_g DX4_renew 26 rfl) rfl (lv_at hl 1 rfl) ?_
        refine lv_bipush (v := (60 : Int32)) hx hb (zD_g DX4_renew 27 rfl) (by decide) ?_
        obtain ⟨h10, hf⟩ := zg_s hf
        refine z_iast (k := y1.toNatClampNeg) (ws' := (cWar cI q (0 : Int32) (0 : Int32) (0 : Int32) size weight sound harm in_ kind owner empty room told (upd gate_2 y1.toNatClampNeg (15 : Int32)) (upd ear_3 y1.toNatClampNeg (10 : Int32)) (upd scale_4 y1.toNatClampNeg (60 : Int32)) lost_5 watch moments kept)) hx hb hK.1 hP hD hS 13 0 rfl rfl h10 rfl rfl (zD_g DX4_renew 28 rfl) (fun H locs hP hD hS => ?_)
        refine lv_aload_n hx hb (zD_g DX4_renew 29 rfl) rfl (lv_at hl 0 rfl) ?_
        refine va_get (D := D) (ci := 3) (v := .ref (q 14)) (C := RX4) (T := TX4) (N := 19) hx hb hts in4_renew_4 hown hK.1 hP 0 rfl rfl 16 (by decide) (hts _ (List.mem_of_getElem? (i := 7) rfl)) (fun _ h9 => h9) rfl (zD_g DX4_renew 30 rfl) ?_
        refine lv_iload_n hx hb (zD_g DX4_renew 31 rfl) rfl (lv_at hl 1 rfl) ?_
        refine lv_iconst (v := (0 : Int32)) hx hb (zD_g DX4_renew 32 rfl) (by decide) ?_
        obtain ⟨h11, hf⟩ := zg_s hf
        refine z_iast (k := y1.toNatClampNeg) (ws' := (cWar cI q (0 : Int32) (0 : Int32) (0 : Int32) size weight sound harm in_ kind owner empty room told (upd gate_2 y1.toNatClampNeg (15 : Int32)) (upd ear_3 y1.toNatClampNeg (10 : Int32)) (upd scale_4 y1.toNatClampNeg (60 : Int32)) (upd lost_5 y1.toNatClampNeg (0 : Int32)) watch moments kept)) hx hb hK.1 hP hD hS 14 0 rfl rfl h11 rfl rfl (zD_g DX4_renew 33 rfl) (fun H locs hP hD hS => ?_)
        refine lv_iinc (v := y1 + 1) (lv' := [(1, .int (y1 + 1)), (0, .ref (q 0))]) (k := 1) hx hb (zD_g DX4_renew 34 rfl) hl rfl rfl (by decide) rfl (fun ls hl => ?_)
        refine lv_goto (tgt := 17) hx hb (zD_g DX4_renew 35 rfl) (by decide) ?_
        exact ih6 _ _ _ _ _ hf _ _ hP hD hS ls (lv_sub hl [1, 0] rfl)
  refine hL6 _ (fun gate_12 ear_13 scale_14 lost_15 hf H locs hP hD hS ls hl => ?_) _ _ _ _ _ _ hf _ _ hP hD hS ls (lv_sub hl [1, 0] rfl)
  refine lv_iconst (v := (0 : Int32)) hx hb (zD_g DX4_renew 36 rfl) (by decide) ?_
  refine lv_istore_n (lv' := [(1, .int (0 : Int32)), (0, .ref (q 0))]) hx hb (zD_g DX4_renew 37 rfl) rfl hl (by decide) rfl (fun ls hl => ?_)
  have hL18 : ∀ (k18 : (Nat → Int32) → Option (Int32 × Int32 × Int32 × (Nat → Int32) × (Nat → Int32) × (Nat → Int32) × (Nat → Int32) × (Nat → Int32) × Int32)) (hk18 : ∀ (watch_21 : Nat → Int32), k18 watch_21 = some (d_things, d_gifts, d_days, d_gate, d_ear, d_scale, d_lost, d_watch, d_moments) → ∀ (H : Heap) (locs : List Loc), va_P D vwCl (cWar cI q (0 : Int32) (0 : Int32) (0 : Int32) size weight sound harm in_ kind owner empty room told gate_12 ear_13 scale_14 lost_15 watch_21 moments kept) H → va_D A (cWar cI q (0 : Int32) (0 : Int32) (0 : Int32) size weight sound harm in_ kind owner empty room told gate_12 ear_13 scale_14 lost_15 watch_21 moments kept) → va_S A s.heap H locs → ∀ (ls : Array Slot), lv_has ls 2 [(0, .ref (q 0))] → W p l e rm4_renew s m args below meth c H locs 0 0 Q (F0 m 83 ls [])) (n18 : Nat) (y16 : Int32) (watch_17 : Nat → Int32), L4_renew_61 k18 n18 y16 watch_17 = some (d_things, d_gifts, d_days, d_gate, d_ear, d_scale, d_lost, d_watch, d_moments) → ∀ (H : Heap) (locs : List Loc), va_P D vwCl (cWar cI q (0 : Int32) (0 : Int32) (0 : Int32) size weight sound harm in_ kind owner empty room told gate_12 ear_13 scale_14 lost_15 watch_17 moments kept) H → va_D A (cWar cI q (0 : Int32) (0 : Int32) (0 : Int32) size weight sound harm in_ kind owner empty room told gate_12 ear_13 scale_14 lost_15 watch_17 moments kept) → va_S A s.heap H locs → ∀ (ls : Array Slot), lv_has ls 2 [(0, .ref (q 0)), (1, .int y16)] → W p l e rm4_renew s m args below meth c H locs 0 0 Q (F0 m 61 ls []) := by
    intro k18 hk18 n18
    induction n18 with
    | zero =>
      intro y16 watch_17 hf
      cases hf
    | succ n18 ih18 =>
      intro y16 watch_17 hf H locs hP hD hS ls hl
      rw [L4_renew_61] at hf
      refine lv_iload_n hx hb (zD_g DX4_renew 38 rfl) rfl (lv_at hl 1 rfl) ?_
      refine lv_aload_n hx hb (zD_g DX4_renew 39 rfl) rfl (lv_at hl 0 rfl) ?_
      refine va_get (D := D) (ci := 3) (v := .ref (q 15)) (C := RX4) (T := TX4) (N := 19) hx hb hts in4_renew_4 hown hK.1 hP 0 rfl rfl 17 (by decide) (hts _ (List.mem_of_getElem? (i := 8) rfl)) (fun _ h9 => h9) rfl (zD_g DX4_renew 40 rfl) ?_
      refine va_alen (v := (12 : Int32)) hx hb hK.1 hP 15 0 rfl rfl rfl (zD_g DX4_renew 41 rfl) ?_
      refine lv_icmp_ge (tgt := 83) hx hb (zD_g DX4_renew 42 rfl) (by decide) (fun c19 => ?_) (fun c19 => ?_)
      · replace hf := z_t c19 hf
        exact hk18 _ hf _ _ hP hD hS ls (lv_sub hl [0] rfl)
      · replace hf := z_f c19 hf
        refine lv_aload_n hx hb (zD_g DX4_renew 43 rfl) rfl (lv_at hl 0 rfl) ?_
        refine va_get (D := D) (ci := 3) (v := .ref (q 15)) (C := RX4) (T := TX4) (N := 19) hx hb hts in4_renew_4 hown hK.1 hP 0 rfl rfl 17 (by decide) (hts _ (List.mem_of_getElem? (i := 8) rfl)) (fun _ h9 => h9) rfl (zD_g DX4_renew 44 rfl) ?_
        refine lv_iload_n hx hb (zD_g DX4_renew 45 rfl) rfl (lv_at hl 1 rfl) ?_
        refine lv_iconst (v := (0 : Int32)) hx hb (zD_g DX4_renew 46 rfl) (by decide) ?_
        obtain ⟨h20, hf⟩ := zg_s hf
        refine z_iast (k := y16.toNatClampNeg) (ws' := (cWar cI q (0 : Int32) (0 : Int32) (0 : Int32) size weight sound harm in_ kind owner empty room told gate_12 ear_13 scale_14 lost_15 (upd watch_17 y16.toNatClampNeg (0 : Int32)) moments kept)) hx hb hK.1 hP hD hS 15 0 rfl rfl h20 rfl rfl (zD_g DX4_renew 47 rfl) (fun H locs hP hD hS => ?_)
        refine lv_iinc (v := y16 + 1) (lv' := [(1, .int (y16 + 1)), (0, .ref (q 0))]) (k := 1) hx hb (zD_g DX4_renew 48 rfl) hl rfl rfl (by decide) rfl (fun ls hl => ?_)
        refine lv_goto (tgt := 61) hx hb (zD_g DX4_renew 49 rfl) (by decide) ?_
        exact ih18 _ _ hf _ _ hP hD hS ls (lv_sub hl [1, 0] rfl)
  refine hL18 _ (fun watch_21 hf H locs hP hD hS ls hl => ?_) _ _ _ hf _ _ hP hD hS ls (lv_sub hl [1, 0] rfl)
  refine lv_aload_n hx hb (zD_g DX4_renew 50 rfl) rfl (lv_at hl 0 rfl) ?_
  obtain ⟨moments_22, hc23, hf⟩ := zb1_s hf
  refine z_Vm (As := []) (rest := []) (ws' := (cWar cI q (0 : Int32) (0 : Int32) (0 : Int32) size weight sound harm in_ kind owner empty room told gate_12 ear_13 scale_14 lost_15 watch_21 moments_22 kept)) ⟨hx, hb, hml, hown, hts⟩ hK (c4_forget (things := (0 : Int32)) (gifts := (0 : Int32)) (days := (0 : Int32)) (size := size) (weight := weight) (sound := sound) (harm := harm) (in_ := in_) (kind := kind) (owner := owner) (empty := empty) (room := room) (told := told) (gate := gate_12) (ear := ear_13) (scale := scale_14) (lost := lost_15) (watch := watch_21) (moments := moments) (kept := kept) (q := q) hc23) (cwV 0 hts gX4_renew_X4_forget rfl rfl rfl hd4_forget ⟨Nat.le_of_ble_eq_true rfl, Nat.le_of_ble_eq_true rfl⟩) hP hD hS hA 18 [0, 1, 2, 3, 4, 5, 6, 7, 8, 9, 10, 11, 12, 13, 14, 15, 16, 17] [] [0, 1, 2, 3, 4, 5, 6, 7, 8, 9, 10, 11, 12, 13, 14, 15, 16, 17] (by decide +kernel) rfl rfl rfl rfl rfl rfl rfl hl.1 rfl rfl (Nat.le_of_ble_eq_true rfl) (zD_g DX4_renew 51 rfl) ⟨Nat.zero_le _, Nat.zero_le _⟩ (fun H locs hP hD hS => ?_)
  cases hf
  exact hret _ _ _ _ hP hD hS (zD_g DX4_renew 52 rfl)
abbrev dlX5_within : List (Nat × Instr × Nat) := [(0, .iload_n 0, 1), (1, .iload_n 1, 1), (2, .if_icmp .lt 12, 3), (5, .iload_n 0, 1), (6, .iload_n 2, 1), (7, .if_icmp .gt 7, 3), (10, .iconst 1, 1), (11, .goto 4, 3), (14, .iconst 0, 1), (15, .ireturn, 1)]
theorem DX5_within : zD cX5_within dlX5_within = true := by decide +kernel
theorem hd5_within : yX5_within.cls ≠ "java/lang/invoke/MethodHandle" ∧ yX5_within.cls ≠ "java/lang/invoke/VarHandle" ∧ (parseMethodDescriptor yX5_within.desc).map (fun d => d.parameters.length) = some 3 := by decide +kernel
abbrev rm5_within : Room := { frames := 0, cells := 0, slots := 0, locals := 0 }
set_option maxHeartbeats 4000000 in
set_option maxRecDepth 100000 in
theorem c5_within {l : Launch} {D : va_G} {cI cZ cB : ClassId}   {a_n : Int32} {a_least : Int32} {a_most : Int32} {r : Int32}  (hf : f5_within a_n a_least a_most = some r) : Met l yX5_within wsX5_within rm5_within (zPp D cI cZ cB [.int a_n, .int a_least, .int a_most] ([] : va_W)) (zQp (some (.int r))) 0 0 (fun _ => False) := by
  unfold f5_within at hf
  refine z_pureZ RX5 (by decide +kernel) rfl rfl (Nat.le_of_ble_eq_true rfl) ?_
  intro p e s m args below meth c Q ls hx hb hml hown hts hK hP hret hl
  have hl : lv_has ls 3 [(0, .int a_n), (1, .int a_least), (2, .int a_most)] := hl
  refine lv_iload_n hx hb (zD_g DX5_within 0 rfl) rfl (lv_at hl 0 rfl) ?_
  refine lv_iload_n hx hb (zD_g DX5_within 1 rfl) rfl (lv_at hl 1 rfl) ?_
  refine lv_icmp_lt (tgt := 14) hx hb (zD_g DX5_within 2 rfl) (by decide) (fun c1 => ?_) (fun c1 => ?_)
  · replace hf := z_t c1 hf
    refine lv_iconst (v := (0 : Int32)) hx hb (zD_g DX5_within 8 rfl) (by decide) ?_
    cases hf
    exact hret _ _ rfl (zD_g DX5_within 9 rfl)
  · replace hf := z_f c1 hf
    refine lv_iload_n hx hb (zD_g DX5_within 3 rfl) rfl (lv_at hl 0 rfl) ?_
    refine lv_iload_n hx hb (zD_g DX5_within 4 rfl) rfl (lv_at hl 2 rfl) ?_
    refine lv_icmp_gt (tgt := 14) hx hb (zD_g DX5_within 5 rfl) (by decide) (fun c2 => ?_) (fun c2 => ?_)
    · replace hf := z_t c2 hf
      refine lv_iconst (v := (0 : Int32)) hx hb (zD_g DX5_within 8 rfl) (by decide) ?_
      cases hf
      exact hret _ _ rfl (zD_g DX5_within 9 rfl)
    · replace hf := z_f c2 hf
      refine lv_iconst (v := (1 : Int32)) hx hb (zD_g DX5_within 6 rfl) (by decide) ?_
      refine lv_goto (tgt := 15) hx hb (zD_g DX5_within 7 rfl) (by decide) ?_
      cases hf
      exact hret _ _ rfl (zD_g DX5_within 9 rfl)
abbrev dlX4_addThing : List (Nat × Instr × Nat) := [(0, .iload_n 1, 1), (1, .iconst 1, 1), (2, .bipush 9, 2), (4, .invokestatic 90, 3), (7, .ifCond .eq 34, 3), (10, .iload_n 2, 1), (11, .iconst 0, 1), (12, .bipush 20, 2), (14, .invokestatic 90, 3), (17, .ifCond .eq 24, 3), (20, .iload_n 3, 1), (21, .iconst 0, 1), (22, .bipush 20, 2), (24, .invokestatic 90, 3), (27, .ifCond .eq 14, 3), (30, .iload 4, 2), (32, .iconst 0, 1), (33, .bipush 20, 2), (35, .invokestatic 90, 3), (38, .ifCond .ne 6, 3), (41, .bipush (-2), 2), (43, .ireturn, 1), (44, .aload_n 0, 1), (45, .getfield 67, 3), (48, .bipush 8, 2), (50, .if_icmp .lt 6, 3), (53, .bipush (-4), 2), (55, .ireturn, 1), (56, .aload_n 0, 1), (57, .getfield 9, 3), (60, .aload_n 0, 1), (61, .getfield 67, 3), (64, .iload_n 1, 1), (65, .iastore, 1), (66, .aload_n 0, 1), (67, .getfield 15, 3), (70, .aload_n 0, 1), (71, .getfield 67, 3), (74, .iload_n 2, 1), (75, .iastore, 1), (76, .aload_n 0, 1), (77, .getfield 18, 3), (80, .aload_n 0, 1), (81, .getfield 67, 3), (84, .iload_n 3, 1), (85, .iastore, 1), (86, .aload_n 0, 1), (87, .getfield 21, 3), (90, .aload_n 0, 1), (91, .getfield 67, 3), (94, .iload 4, 2), (96, .iastore, 1), (97, .aload_n 0, 1), (98, .getfield 24, 3), (101, .aload_n 0, 1), (102, .getfield 67, 3), (105, .iconst (-1), 1), (106, .iastore, 1), (107, .aload_n 0, 1), (108, .invokevirtual 77, 3), (111, .aload_n 0, 1), (112, .dup, 1), (113, .getfield 67, 3), (116, .dup_x1, 1), (117, .iconst 1, 1), (118, .iadd, 1), (119, .putfield 67, 3), (122, .ireturn, 1)]
theorem DX4_addThing : zD cX4_addThing dlX4_addThing = true := by decide +kernel
set_option maxRecDepth 20000 in
theorem ggX4_addThing_X5_within : GoodIn wsX4_addThing wsX5_within := goodIn_r _ [9] (by decide +kernel) (by decide +kernel)
set_option maxRecDepth 20000 in
theorem gX4_addThing_X5_within_n90 : GoodIn wsX4_addThing (wsX5_within) := ggX4_addThing_X5_within
set_option maxRecDepth 20000 in
theorem ggX4_addThing_X4_forget : GoodIn wsX4_addThing wsX4_forget := goodIn_r _ [14, 15, 16, 17, 18, 19, 20, 21, 22, 23, 24, 25, 26, 27, 28, 29, 30, 31, 32, 33, 34, 35, 36, 37] (by decide +kernel) (by decide +kernel)
set_option maxRecDepth 20000 in
theorem gX4_addThing_X4_forget : GoodIn wsX4_addThing (wsV RX4 77 RX4 yX4_forget wsX4_forget) := goodIn_app (goodIn_of _ (by decide +kernel)) ggX4_addThing_X4_forget
theorem hd4_addThing : yX4_addThing.cls = RX4 ∧ yX4_addThing.cls ≠ "java/lang/invoke/MethodHandle" ∧ yX4_addThing.cls ≠ "java/lang/invoke/VarHandle" ∧ (parseMethodDescriptor yX4_addThing.desc).map (fun d => d.parameters.length) = some 4 := by decide +kernel
abbrev rm4_addThing : Room := { frames := 1, cells := 0, slots := 0, locals := 22 }
theorem in4_addThing_4 : ∀ w ∈ wsX40, w ∈ wsX4_addThing := fun w h => List.mem_cons_of_mem _ (List.mem_append_left _ (List.mem_append_right _ h))
set_option maxHeartbeats 4000000 in
set_option maxRecDepth 100000 in
theorem c4_addThing {l : Launch} {D : va_G} {cI cZ cB : ClassId} {q : Nat → Nat} {sz : Nat} {things : Int32} {gifts : Int32} {days : Int32} {size : Nat → Int32} {weight : Nat → Int32} {sound : Nat → Int32} {harm : Nat → Int32} {in_ : Nat → Int32} {kind : Nat → Int32} {owner : Nat → Int32} {empty : Nat → Int32} {room : Nat → Int32} {told : Nat → Int32} {gate : Nat → Int32} {ear : Nat → Int32} {scale : Nat → Int32} {lost : Nat → Int32} {watch : Nat → Int32} {moments : Int32} {kept : Nat → Int32} {a_itsSize : Int32} {a_itsWeight : Int32} {a_itsSound : Int32} {a_itsHarm : Int32} {r : Int32} {d_things : Int32} {d_size : Nat → Int32} {d_weight : Nat → Int32} {d_sound : Nat → Int32} {d_harm : Nat → Int32} {d_in_ : Nat → Int32} {d_moments : Int32} (hf : f4_addThing things size weight sound harm in_ moments a_itsSize a_itsWeight a_itsSound a_itsHarm = some (r, d_things, d_size, d_weight, d_sound, d_harm, d_in_, d_moments)) : Met l yX4_addThing wsX4_addThing rm4_addThing (zPm D cI cZ cB [.ref (q 0), .int a_itsSize, .int a_itsWeight, .int a_itsSound, .int a_itsHarm] sz (cWar cI q things gifts days size weight sound harm in_ kind owner empty room told gate ear scale lost watch moments kept)) (zQm D (some (.int r)) (cWar cI q d_things gifts days d_size d_weight d_sound d_harm d_in_ kind owner empty room told gate ear scale lost watch d_moments kept) (va_A (cWar cI q things gifts days size weight sound harm in_ kind owner empty room told gate ear scale lost watch moments kept) sz)) 0 0 (va_A (cWar cI q things gifts days size weight sound harm in_ kind owner empty room told gate ear scale lost watch moments kept) sz) := by
  unfold f4_addThing at hf
  refine z_mutI RX4 (by decide +kernel) rfl rfl (Nat.le_of_ble_eq_true rfl) ?_
  intro p e s m args below meth c Q A ls hx hb hml hown hts hK hP hD hS hA hret hl
  have hl : lv_has ls 5 [(0, .ref (q 0)), (1, .int a_itsSize), (2, .int a_itsWeight), (3, .int a_itsSound), (4, .int a_itsHarm)] := hl
  refine lv_iload_n hx hb (zD_g DX4_addThing 0 rfl) rfl (lv_at hl 1 rfl) ?_
  refine lv_iconst (v := (1 : Int32)) hx hb (zD_g DX4_addThing 1 rfl) (by decide) ?_
  refine lv_bipush (v := (9 : Int32)) hx hb (zD_g DX4_addThing 2 rfl) (by decide) ?_
  obtain ⟨r1, hc2, hf⟩ := zb1_s hf
  refine z_Np (As := [.int a_itsSize, .int (1 : Int32), .int (9 : Int32)]) (rest := []) ⟨hx, hb, hml, hown, hts⟩ hK (c5_within  hc2) ⟨va_cnB (own := RX4) (host := RX5) (index := 90) (y := yX5_within) 3 hts gX4_addThing_X5_within_n90 rfl rfl rfl (hK.2 (RX4, 90, yX5_within) (List.mem_of_getElem? (i := 7) rfl)) (hts _ (List.mem_of_getElem? (i := 8) rfl)) hd5_within ⟨Nat.le_of_ble_eq_true rfl, Nat.le_of_ble_eq_true rfl⟩, (hts _ (List.mem_of_getElem? (i := 7) rfl)), trivial⟩ (hP.sub [] rfl) rfl hl.1 rfl rfl (Nat.le_of_ble_eq_true rfl) (zD_g DX4_addThing 3 rfl) ⟨Nat.zero_le _, Nat.zero_le _⟩ ?_
  refine lv_if_eq (tgt := 41) hx hb (zD_g DX4_addThing 4 rfl) (by decide) (fun c3 => ?_) (fun c3 => ?_)
  · replace hf := z_t c3 hf
    refine lv_bipush (v := (-2 : Int32)) hx hb (zD_g DX4_addThing 20 rfl) (by decide) ?_
    cases hf
    exact hret _ _ _ _ hP hD hS (zD_g DX4_addThing 21 rfl)
  · replace hf := z_f c3 hf
    refine lv_iload_n hx hb (zD_g DX4_addThing 5 rfl) rfl (lv_at hl 2 rfl) ?_
    refine lv_iconst (v := (0 : Int32)) hx hb (zD_g DX4_addThing 6 rfl) (by decide) ?_
    refine lv_bipush (v := (20 : Int32)) hx hb (zD_g DX4_addThing 7 rfl) (by decide) ?_
    obtain ⟨r4, hc5, hf⟩ := zb1_s hf
    refine z_Np (As := [.int a_itsWeight, .int (0 : Int32), .int (20 : Int32)]) (rest := []) ⟨hx, hb, hml, hown, hts⟩ hK (c5_within  hc5) ⟨va_cnB (own := RX4) (host := RX5) (index := 90) (y := yX5_within) 3 hts gX4_addThing_X5_within_n90 rfl rfl rfl (hK.2 (RX4, 90, yX5_within) (List.mem_of_getElem? (i := 7) rfl)) (hts _ (List.mem_of_getElem? (i := 8) rfl)) hd5_within ⟨Nat.le_of_ble_eq_true rfl, Nat.le_of_ble_eq_true rfl⟩, (hts _ (List.mem_of_getElem? (i := 7) rfl)), trivial⟩ (hP.sub [] rfl) rfl hl.1 rfl rfl (Nat.le_of_ble_eq_true rfl) (zD_g DX4_addThing 8 rfl) ⟨Nat.zero_le _, Nat.zero_le _⟩ ?_
    refine lv_if_eq (tgt := 41) hx hb (zD_g DX4_addThing 9 rfl) (by decide) (fun c6 => ?_) (fun c6 => ?_)
    · replace hf := z_t c6 hf
      refine lv_bipush (v := (-2 : Int32)) hx hb (zD_g DX4_addThing 20 rfl) (by decide) ?_
      cases hf
      exact hret _ _ _ _ hP hD hS (zD_g DX4_addThing 21 rfl)
    · replace hf := z_f c6 hf
      refine lv_iload_n hx hb (zD_g DX4_addThing 10 rfl) rfl (lv_at hl 3 rfl) ?_
      refine lv_iconst (v := (0 : Int32)) hx hb (zD_g DX4_addThing 11 rfl) (by decide) ?_
      refine lv_bipush (v := (20 : Int32)) hx hb (zD_g DX4_addThing 12 rfl) (by decide) ?_
      obtain ⟨r7, hc8, hf⟩ := zb1_s hf
      refine z_Np (As := [.int a_itsSound, .int (0 : Int32), .int (20 : Int32)]) (rest := []) ⟨hx, hb, hml, hown, hts⟩ hK (c5_within  hc8) ⟨va_cnB (own := RX4) (host := RX5) (index := 90) (y := yX5_within) 3 hts gX4_addThing_X5_within_n90 rfl rfl rfl (hK.2 (RX4, 90, yX5_within) (List.mem_of_getElem? (i := 7) rfl)) (hts _ (List.mem_of_getElem? (i := 8) rfl)) hd5_within ⟨Nat.le_of_ble_eq_true rfl, Nat.le_of_ble_eq_true rfl⟩, (hts _ (List.mem_of_getElem? (i := 7) rfl)), trivial⟩ (hP.sub [] rfl) rfl hl.1 rfl rfl (Nat.le_of_ble_eq_true rfl) (zD_g DX4_addThing 13 rfl) ⟨Nat.zero_le _, Nat.zero_le _⟩ ?_
      refine lv_if_eq (tgt := 41) hx hb (zD_g DX4_addThing 14 rfl) (by decide) (fun c9 => ?_) (fun c9 => ?_)
      · replace hf := z_t c9 hf
        refine lv_bipush (v := (-2 : Int32)) hx hb (zD_g DX4_addThing 20 rfl) (by decide) ?_
        cases hf
        exact hret _ _ _ _ hP hD hS (zD_g DX4_addThing 21 rfl)
      · replace hf := z_f c9 hf
        refine lv_iload hx hb (zD_g DX4_addThing 15 rfl) (lv_at hl 4 rfl) ?_
        refine lv_iconst (v := (0 : Int32)) hx hb (zD_g DX4_addThing 16 rfl) (by decide) ?_
        refine lv_bipush (v := (20 : Int32)) hx hb (zD_g DX4_addThing 17 rfl) (by decide) ?_
        obtain ⟨r10, hc11, hf⟩ := zb1_s hf
        refine z_Np (As := [.int a_itsHarm, .int (0 : Int32), .int (20 : Int32)]) (rest := []) ⟨hx, hb, hml, hown, hts⟩ hK (c5_within  hc11) ⟨va_cnB (own := RX4) (host := RX5) (index := 90) (y := yX5_within) 3 hts gX4_addThing_X5_within_n90 rfl rfl rfl (hK.2 (RX4, 90, yX5_within) (List.mem_of_getElem? (i := 7) rfl)) (hts _ (List.mem_of_getElem? (i := 8) rfl)) hd5_within ⟨Nat.le_of_ble_eq_true rfl, Nat.le_of_ble_eq_true rfl⟩, (hts _ (List.mem_of_getElem? (i := 7) rfl)), trivial⟩ (hP.sub [] rfl) rfl hl.1 rfl rfl (Nat.le_of_ble_eq_true rfl) (zD_g DX4_addThing 18 rfl) ⟨Nat.zero_le _, Nat.zero_le _⟩ ?_
        refine lv_if_ne (tgt := 44) hx hb (zD_g DX4_addThing 19 rfl) (by decide) (fun c12 => ?_) (fun c12 => ?_)
        · replace hf := z_f c12 hf
          refine lv_aload_n hx hb (zD_g DX4_addThing 22 rfl) rfl (lv_at hl 0 rfl) ?_
          refine va_get (D := D) (ci := 3) (v := .int things) (C := RX4) (T := TX4) (N := 19) hx hb hts in4_addThing_4 hown hK.1 hP 0 rfl rfl 0 (by decide) (hts _ (List.mem_of_getElem? (i := 1) rfl)) (fun _ h9 => h9) rfl (zD_g DX4_addThing 23 rfl) ?_
          refine lv_bipush (v := (8 : Int32)) hx hb (zD_g DX4_addThing 24 rfl) (by decide) ?_
          refine lv_icmp_lt (tgt := 56) hx hb (zD_g DX4_addThing 25 rfl) (by decide) (fun c13 => ?_) (fun c13 => ?_)
          · replace hf := z_t c13 hf
            refine lv_aload_n hx hb (zD_g DX4_addThing 28 rfl) rfl (lv_at hl 0 rfl) ?_
            refine va_get (D := D) (ci := 3) (v := .ref (q 1)) (C := RX4) (T := TX4) (N := 19) hx hb hts in4_addThing_4 hown hK.1 hP 0 rfl rfl 3 (by decide) (hts _ (List.mem_of_getElem? (i := 2) rfl)) (fun _ h9 => h9) rfl (zD_g DX4_addThing 29 rfl) ?_
            refine lv_aload_n hx hb (zD_g DX4_addThing 30 rfl) rfl (lv_at hl 0 rfl) ?_
            refine va_get (D := D) (ci := 3) (v := .int things) (C := RX4) (T := TX4) (N := 19) hx hb hts in4_addThing_4 hown hK.1 hP 0 rfl rfl 0 (by decide) (hts _ (List.mem_of_getElem? (i := 1) rfl)) (fun _ h9 => h9) rfl (zD_g DX4_addThing 31 rfl) ?_
            refine lv_iload_n hx hb (zD_g DX4_addThing 32 rfl) rfl (lv_at hl 1 rfl) ?_
            obtain ⟨h14, hf⟩ := zg_s hf
            refine z_iast (k := things.toNatClampNeg) (ws' := (cWar cI q things gifts days (upd size things.toNatClampNeg a_itsSize) weight sound harm in_ kind owner empty room told gate ear scale lost watch moments kept)) hx hb hK.1 hP hD hS 1 0 rfl rfl h14 rfl rfl (zD_g DX4_addThing 33 rfl) (fun H locs hP hD hS => ?_)
            refine lv_aload_n hx hb (zD_g DX4_addThing 34 rfl) rfl (lv_at hl 0 rfl) ?_
            refine va_get (D := D) (ci := 3) (v := .ref (q 2)) (C := RX4) (T := TX4) (N := 19) hx hb hts in4_addThing_4 hown hK.1 hP 0 rfl rfl 4 (by decide) (hts _ (List.mem_of_getElem? (i := 3) rfl)) (fun _ h9 => h9) rfl (zD_g DX4_addThing 35 rfl) ?_
            refine lv_aload_n hx hb (zD_g DX4_addThing 36 rfl) rfl (lv_at hl 0 rfl) ?_
            refine va_get (D := D) (ci := 3) (v := .int things) (C := RX4) (T := TX4) (N := 19) hx hb hts in4_addThing_4 hown hK.1 hP 0 rfl rfl 0 (by decide) (hts _ (List.mem_of_getElem? (i := 1) rfl)) (fun _ h9 => h9) rfl (zD_g DX4_addThing 37 rfl) ?_
            refine lv_iload_n hx hb (zD_g DX4_addThing 38 rfl) rfl (lv_at hl 2 rfl) ?_
            obtain ⟨h15, hf⟩ := zg_s hf
            refine z_iast (k := things.toNatClampNeg) (ws' := (cWar cI q things gifts days (upd size things.toNatClampNeg a_itsSize) (upd weight things.toNatClampNeg a_itsWeight) sound harm in_ kind owner empty room told gate ear scale lost watch moments kept)) hx hb hK.1 hP hD hS 2 0 rfl rfl h15 rfl rfl (zD_g DX4_addThing 39 rfl) (fun H locs hP hD hS => ?_)
            refine lv_aload_n hx hb (zD_g DX4_addThing 40 rfl) rfl (lv_at hl 0 rfl) ?_
            refine va_get (D := D) (ci := 3) (v := .ref (q 3)) (C := RX4) (T := TX4) (N := 19) hx hb hts in4_addThing_4 hown hK.1 hP 0 rfl rfl 5 (by decide) (hts _ (List.mem_of_getElem? (i := 4) rfl)) (fun _ h9 => h9) rfl (zD_g DX4_addThing 41 rfl) ?_
            refine lv_aload_n hx hb (zD_g DX4_addThing 42 rfl) rfl (lv_at hl 0 rfl) ?_
            refine va_get (D := D) (ci := 3) (v := .int things) (C := RX4) (T := TX4) (N := 19) hx hb hts in4_addThing_4 hown hK.1 hP 0 rfl rfl 0 (by decide) (hts _ (List.mem_of_getElem? (i := 1) rfl)) (fun _ h9 => h9) rfl (zD_g DX4_addThing 43 rfl) ?_
            refine lv_iload_n hx hb (zD_g DX4_addThing 44 rfl) rfl (lv_at hl 3 rfl) ?_
            obtain ⟨h16, hf⟩ := zg_s hf
            refine z_iast (k := things.toNatClampNeg) (ws' := (cWar cI q things gifts days (upd size things.toNatClampNeg a_itsSize) (upd weight things.toNatClampNeg a_itsWeight) (upd sound things.toNatClampNeg a_itsSound) harm in_ kind owner empty room told gate ear scale lost watch moments kept)) hx hb hK.1 hP hD hS 3 0 rfl rfl h16 rfl rfl (zD_g DX4_addThing 45 rfl) (fun H locs hP hD hS => ?_)
            refine lv_aload_n hx hb (zD_g DX4_addThing 46 rfl) rfl (lv_at hl 0 rfl) ?_
            refine va_get (D := D) (ci := 3) (v := .ref (q 4)) (C := RX4) (T := TX4) (N := 19) hx hb hts in4_addThing_4 hown hK.1 hP 0 rfl rfl 6 (by decide) (hts _ (List.mem_of_getElem? (i := 5) rfl)) (fun _ h9 => h9) rfl (zD_g DX4_addThing 47 rfl) ?_
            refine lv_aload_n hx hb (zD_g DX4_addThing 48 rfl) rfl (lv_at hl 0 rfl) ?_
            refine va_get (D := D) (ci := 3) (v := .int things) (C := RX4) (T := TX4) (N := 19) hx hb hts in4_addThing_4 hown hK.1 hP 0 rfl rfl 0 (by decide) (hts _ (List.mem_of_getElem? (i := 1) rfl)) (fun _ h9 => h9) rfl (zD_g DX4_addThing 49 rfl) ?_
            refine lv_iload hx hb (zD_g DX4_addThing 50 rfl) (lv_at hl 4 rfl) ?_
            obtain ⟨h17, hf⟩ := zg_s hf
            refine z_iast (k := things.toNatClampNeg) (ws' := (cWar cI q things gifts days (upd size things.toNatClampNeg a_itsSize) (upd weight things.toNatClampNeg a_itsWeight) (upd sound things.toNatClampNeg a_itsSound) (upd harm things.toNatClampNeg a_itsHarm) in_ kind owner empty room told gate ear scale lost watch moments kept)) hx hb hK.1 hP hD hS 4 0 rfl rfl h17 rfl rfl (zD_g DX4_addThing 51 rfl) (fun H locs hP hD hS => ?_)
            refine lv_aload_n hx hb (zD_g DX4_addThing 52 rfl) rfl (lv_at hl 0 rfl) ?_
            refine va_get (D := D) (ci := 3) (v := .ref (q 5)) (C := RX4) (T := TX4) (N := 19) hx hb hts in4_addThing_4 hown hK.1 hP 0 rfl rfl 7 (by decide) (hts _ (List.mem_of_getElem? (i := 6) rfl)) (fun _ h9 => h9) rfl (zD_g DX4_addThing 53 rfl) ?_
            refine lv_aload_n hx hb (zD_g DX4_addThing 54 rfl) rfl (lv_at hl 0 rfl) ?_
            refine va_get (D := D) (ci := 3) (v := .int things) (C := RX4) (T := TX4) (N := 19) hx hb hts in4_addThing_4 hown hK.1 hP 0 rfl rfl 0 (by decide) (hts _ (List.mem_of_getElem? (i := 1) rfl)) (fun _ h9 => h9) rfl (zD_g DX4_addThing 55 rfl) ?_
            refine lv_iconst (v := (-1 : Int32)) hx hb (zD_g DX4_addThing 56 rfl) (by decide) ?_
            obtain ⟨h18, hf⟩ := zg_s hf
            refine z_iast (k := things.toNatClampNeg) (ws' := (cWar cI q things gifts days (upd size things.toNatClampNeg a_itsSize) (upd weight things.toNatClampNeg a_itsWeight) (upd sound things.toNatClampNeg a_itsSound) (upd harm things.toNatClampNeg a_itsHarm) (upd in_ things.toNatClampNeg (-1 : Int32)) kind owner empty room told gate ear scale lost watch moments kept)) hx hb hK.1 hP hD hS 5 0 rfl rfl h18 rfl rfl (zD_g DX4_addThing 57 rfl) (fun H locs hP hD hS => ?_)
            refine lv_aload_n hx hb (zD_g DX4_addThing 58 rfl) rfl (lv_at hl 0 rfl) ?_
            obtain ⟨moments_19, hc20, hf⟩ := zb1_s hf
            refine z_Vm (As := []) (rest := []) (ws' := (cWar cI q things gifts days (upd size things.toNatClampNeg a_itsSize) (upd weight things.toNatClampNeg a_itsWeight) (upd sound things.toNatClampNeg a_itsSound) (upd harm things.toNatClampNeg a_itsHarm) (upd in_ things.toNatClampNeg (-1 : Int32)) kind owner empty room told gate ear scale lost watch moments_19 kept)) ⟨hx, hb, hml, hown, hts⟩ hK (c4_forget (things := things) (gifts := gifts) (days := days) (size := (upd size things.toNatClampNeg a_itsSize)) (weight := (upd weight things.toNatClampNeg a_itsWeight)) (sound := (upd sound things.toNatClampNeg a_itsSound)) (harm := (upd harm things.toNatClampNeg a_itsHarm)) (in_ := (upd in_ things.toNatClampNeg (-1 : Int32))) (kind := kind) (owner := owner) (empty := empty) (room := room) (told := told) (gate := gate) (ear := ear) (scale := scale) (lost := lost) (watch := watch) (moments := moments) (kept := kept) (q := q) hc20) (cwV 0 hts gX4_addThing_X4_forget rfl rfl rfl hd4_forget ⟨Nat.le_of_ble_eq_true rfl, Nat.le_of_ble_eq_true rfl⟩) hP hD hS hA 18 [0, 1, 2, 3, 4, 5, 6, 7, 8, 9, 10, 11, 12, 13, 14, 15, 16, 17] [] [0, 1, 2, 3, 4, 5, 6, 7, 8, 9, 10, 11, 12, 13, 14, 15, 16, 17] (by decide +kernel) rfl rfl rfl rfl rfl rfl rfl hl.1 rfl rfl (Nat.le_of_ble_eq_true rfl) (zD_g DX4_addThing 59 rfl) ⟨Nat.zero_le _, Nat.zero_le _⟩ (fun H locs hP hD hS => ?_)
            refine lv_aload_n hx hb (zD_g DX4_addThing 60 rfl) rfl (lv_at hl 0 rfl) ?_
            refine lv_dup hx hb (zD_g DX4_addThing 61 rfl) rfl ?_
            refine va_get (D := D) (ci := 3) (v := .int things) (C := RX4) (T := TX4) (N := 19) hx hb hts in4_addThing_4 hown hK.1 hP 0 rfl rfl 0 (by decide) (hts _ (List.mem_of_getElem? (i := 1) rfl)) (fun _ h9 => h9) rfl (zD_g DX4_addThing 62 rfl) ?_
            refine lv_dup_x1 hx hb (zD_g DX4_addThing 63 rfl) rfl rfl ?_
            refine lv_iconst (v := (1 : Int32)) hx hb (zD_g DX4_addThing 64 rfl) (by decide) ?_
            refine lv_iadd hx hb (zD_g DX4_addThing 65 rfl) ?_
            refine lv_topi (fun x21 ex21 => ?_)
            replace hf := zl_s hf x21 ex21
            refine z_put (D := D) (ci := 3) (v := .int x21) (ty := .int) (C := RX4) (T := TX4) (N := 19) (ws' := (cWar cI q x21 gifts days (upd size things.toNatClampNeg a_itsSize) (upd weight things.toNatClampNeg a_itsWeight) (upd sound things.toNatClampNeg a_itsSound) (upd harm things.toNatClampNeg a_itsHarm) (upd in_ things.toNatClampNeg (-1 : Int32)) kind owner empty room told gate ear scale lost watch moments_19 kept)) hx hb hts in4_addThing_4 tyX4 tyX4_ok nmX4 hown hK.1 hP hD hS 0 rfl rfl 0 (by decide) (hts _ (List.mem_of_getElem? (i := 1) rfl)) (fun _ h9 => h9) rfl (tyX4_ok 0 (by decide)) rfl rfl (Nat.le_of_ble_eq_true rfl) rfl (zD_g DX4_addThing 66 rfl) (fun H locs hP hD hS => ?_)
            cases hf
            exact hret _ _ _ _ hP hD hS (zD_g DX4_addThing 67 rfl)
          · replace hf := z_f c13 hf
            refine lv_bipush (v := (-4 : Int32)) hx hb (zD_g DX4_addThing 26 rfl) (by decide) ?_
            cases hf
            exact hret _ _ _ _ hP hD hS (zD_g DX4_addThing 27 rfl)
        · replace hf := z_t c12 hf
          refine lv_bipush (v := (-2 : Int32)) hx hb (zD_g DX4_addThing 20 rfl) (by decide) ?_
          cases hf
          exact hret _ _ _ _ hP hD hS (zD_g DX4_addThing 21 rfl)
abbrev dlX5_isCity : List (Nat × Instr × Nat) := [(0, .iload_n 0, 1), (1, .iconst 0, 1), (2, .iconst 1, 1), (3, .invokestatic 174, 3), (6, .ireturn, 1)]
theorem DX5_isCity : zD cX5_isCity dlX5_isCity = true := by decide +kernel
set_option maxRecDepth 20000 in
theorem ggX5_isCity_X5_within : GoodIn wsX5_isCity wsX5_within := goodIn_r _ [4] (by decide +kernel) (by decide +kernel)
set_option maxRecDepth 20000 in
theorem gX5_isCity_X5_within : GoodIn wsX5_isCity (va_wsS RX5 174 yX5_within wsX5_within) := goodIn_app (goodIn_of _ (by decide +kernel)) ggX5_isCity_X5_within
theorem hd5_isCity : yX5_isCity.cls ≠ "java/lang/invoke/MethodHandle" ∧ yX5_isCity.cls ≠ "java/lang/invoke/VarHandle" ∧ (parseMethodDescriptor yX5_isCity.desc).map (fun d => d.parameters.length) = some 1 := by decide +kernel
abbrev rm5_isCity : Room := { frames := 1, cells := 0, slots := 0, locals := 22 }
set_option maxHeartbeats 4000000 in
set_option maxRecDepth 100000 in
theorem c5_isCity {l : Launch} {D : va_G} {cI cZ cB : ClassId}   {a_n : Int32} {r : Int32}  (hf : f5_isCity a_n = some r) : Met l yX5_isCity wsX5_isCity rm5_isCity (zPp D cI cZ cB [.int a_n] ([] : va_W)) (zQp (some (.int r))) 0 0 (fun _ => False) := by
  unfold f5_isCity at hf
  refine z_pureZ RX5 (by decide +kernel) rfl rfl (Nat.le_of_ble_eq_true rfl) ?_
  intro p e s m args below meth c Q ls hx hb hml hown hts hK hP hret hl
  have hl : lv_has ls 1 [(0, .int a_n)] := hl
  refine lv_iload_n hx hb (zD_g DX5_isCity 0 rfl) rfl (lv_at hl 0 rfl) ?_
  refine lv_iconst (v := (0 : Int32)) hx hb (zD_g DX5_isCity 1 rfl) (by decide) ?_
  refine lv_iconst (v := (1 : Int32)) hx hb (zD_g DX5_isCity 2 rfl) (by decide) ?_
  obtain ⟨r1, hc2, hf⟩ := zb1_s hf
  refine z_Sp (As := [.int a_n, .int (0 : Int32), .int (1 : Int32)]) (rest := []) ⟨hx, hb, hml, hown, hts⟩ hK (c5_within  hc2) (va_cwS 3 hts gX5_isCity_X5_within rfl rfl rfl hd5_within ⟨Nat.le_of_ble_eq_true rfl, Nat.le_of_ble_eq_true rfl⟩) hP rfl hl.1 rfl rfl (Nat.le_of_ble_eq_true rfl) (zD_g DX5_isCity 3 rfl) ⟨Nat.zero_le _, Nat.zero_le _⟩ ?_
  obtain ⟨hz3, hf⟩ := zgb_s hf
  cases hf
  exact hret _ _ hz3 (zD_g DX5_isCity 4 rfl)
abbrev dlX4_addGift : List (Nat × Instr × Nat) := [(0, .iload_n 1, 1), (1, .iconst 0, 1), (2, .iconst 5, 1), (3, .invokestatic 90, 3), (6, .ifCond .eq 31, 3), (9, .iload_n 2, 1), (10, .invokestatic 94, 3), (13, .ifCond .eq 24, 3), (16, .iload_n 3, 1), (17, .iconst 0, 1), (18, .bipush 50, 2), (20, .invokestatic 90, 3), (23, .ifCond .eq 14, 3), (26, .iload 4, 2), (28, .iconst 0, 1), (29, .bipush 30, 2), (31, .invokestatic 90, 3), (34, .ifCond .ne 6, 3), (37, .bipush (-2), 2), (39, .ireturn, 1), (40, .aload_n 0, 1), (41, .getfield 71, 3), (44, .bipush 6, 2), (46, .if_icmp .lt 6, 3), (49, .bipush (-4), 2), (51, .ireturn, 1), (52, .aload_n 0, 1), (53, .getfield 27, 3), (56, .aload_n 0, 1), (57, .getfield 71, 3), (60, .iload_n 1, 1), (61, .iastore, 1), (62, .aload_n 0, 1), (63, .getfield 30, 3), (66, .aload_n 0, 1), (67, .getfield 71, 3), (70, .iload_n 2, 1), (71, .iastore, 1), (72, .aload_n 0, 1), (73, .getfield 33, 3), (76, .aload_n 0, 1), (77, .getfield 71, 3), (80, .iload_n 3, 1), (81, .iastore, 1), (82, .aload_n 0, 1), (83, .getfield 36, 3), (86, .aload_n 0, 1), (87, .getfield 71, 3), (90, .iload 4, 2), (92, .iastore, 1), (93, .aload_n 0, 1), (94, .getfield 39, 3), (97, .aload_n 0, 1), (98, .getfield 71, 3), (101, .iconst 0, 1), (102, .iastore, 1), (103, .aload_n 0, 1), (104, .invokevirtual 77, 3), (107, .aload_n 0, 1), (108, .dup, 1), (109, .getfield 71, 3), (112, .dup_x1, 1), (113, .iconst 1, 1), (114, .iadd, 1), (115, .putfield 71, 3), (118, .ireturn, 1)]
theorem DX4_addGift : zD cX4_addGift dlX4_addGift = true := by decide +kernel
set_option maxRecDepth 20000 in
theorem ggX4_addGift_X5_within : GoodIn wsX4_addGift wsX5_within := goodIn_r _ [9] (by decide +kernel) (by decide +kernel)
set_option maxRecDepth 20000 in
theorem gX4_addGift_X5_within_n90 : GoodIn wsX4_addGift (wsX5_within) := ggX4_addGift_X5_within
set_option maxRecDepth 20000 in
theorem ggX4_addGift_X5_isCity : GoodIn wsX4_addGift wsX5_isCity := goodIn_r _ [11, 12, 7, 8, 9] (by decide +kernel) (by decide +kernel)
set_option maxRecDepth 20000 in
theorem gX4_addGift_X5_isCity_n94 : GoodIn wsX4_addGift (wsX5_isCity) := ggX4_addGift_X5_isCity
set_option maxRecDepth 20000 in
theorem ggX4_addGift_X4_forget : GoodIn wsX4_addGift wsX4_forget := goodIn_r _ [17, 18, 19, 20, 21, 22, 23, 24, 25, 26, 27, 28, 29, 30, 31, 32, 33, 34, 35, 36, 37, 38, 39, 40] (by decide +kernel) (by decide +kernel)
set_option maxRecDepth 20000 in
theorem gX4_addGift_X4_forget : GoodIn wsX4_addGift (wsV RX4 77 RX4 yX4_forget wsX4_forget) := goodIn_app (goodIn_of _ (by decide +kernel)) ggX4_addGift_X4_forget
theorem hd4_addGift : yX4_addGift.cls = RX4 ∧ yX4_addGift.cls ≠ "java/lang/invoke/MethodHandle" ∧ yX4_addGift.cls ≠ "java/lang/invoke/VarHandle" ∧ (parseMethodDescriptor yX4_addGift.desc).map (fun d => d.parameters.length) = some 4 := by decide +kernel
abbrev rm4_addGift : Room := { frames := 2, cells := 0, slots := 0, locals := 42 }
theorem in4_addGift_4 : ∀ w ∈ wsX40, w ∈ wsX4_addGift := fun w h => List.mem_cons_of_mem _ (List.mem_append_left _ (List.mem_append_right _ h))
set_option maxHeartbeats 4000000 in
set_option maxRecDepth 100000 in
theorem c4_addGift {l : Launch} {D : va_G} {cI cZ cB : ClassId} {q : Nat → Nat} {sz : Nat} {things : Int32} {gifts : Int32} {days : Int32} {size : Nat → Int32} {weight : Nat → Int32} {sound : Nat → Int32} {harm : Nat → Int32} {in_ : Nat → Int32} {kind : Nat → Int32} {owner : Nat → Int32} {empty : Nat → Int32} {room : Nat → Int32} {told : Nat → Int32} {gate : Nat → Int32} {ear : Nat → Int32} {scale : Nat → Int32} {lost : Nat → Int32} {watch : Nat → Int32} {moments : Int32} {kept : Nat → Int32} {a_itsKind : Int32} {a_city : Int32} {a_itsEmpty : Int32} {a_itsRoom : Int32} {r : Int32} {d_gifts : Int32} {d_kind : Nat → Int32} {d_owner : Nat → Int32} {d_empty : Nat → Int32} {d_room : Nat → Int32} {d_told : Nat → Int32} {d_moments : Int32} (hf : f4_addGift gifts kind owner empty room told moments a_itsKind a_city a_itsEmpty a_itsRoom = some (r, d_gifts, d_kind, d_owner, d_empty, d_room, d_told, d_moments)) : Met l yX4_addGift wsX4_addGift rm4_addGift (zPm D cI cZ cB [.ref (q 0), .int a_itsKind, .int a_city, .int a_itsEmpty, .int a_itsRoom] sz (cWar cI q things gifts days size weight sound harm in_ kind owner empty room told gate ear scale lost watch moments kept)) (zQm D (some (.int r)) (cWar cI q things d_gifts days size weight sound harm in_ d_kind d_owner d_empty d_room d_told gate ear scale lost watch d_moments kept) (va_A (cWar cI q things gifts days size weight sound harm in_ kind owner empty room told gate ear scale lost watch moments kept) sz)) 0 0 (va_A (cWar cI q things gifts days size weight sound harm in_ kind owner empty room told gate ear scale lost watch moments kept) sz) := by
  unfold f4_addGift at hf
  refine z_mutI RX4 (by decide +kernel) rfl rfl (Nat.le_of_ble_eq_true rfl) ?_
  intro p e s m args below meth c Q A ls hx hb hml hown hts hK hP hD hS hA hret hl
  have hl : lv_has ls 5 [(0, .ref (q 0)), (1, .int a_itsKind), (2, .int a_city), (3, .int a_itsEmpty), (4, .int a_itsRoom)] := hl
  refine lv_iload_n hx hb (zD_g DX4_addGift 0 rfl) rfl (lv_at hl 1 rfl) ?_
  refine lv_iconst (v := (0 : Int32)) hx hb (zD_g DX4_addGift 1 rfl) (by decide) ?_
  refine lv_iconst (v := (5 : Int32)) hx hb (zD_g DX4_addGift 2 rfl) (by decide) ?_
  obtain ⟨r1, hc2, hf⟩ := zb1_s hf
  refine z_Np (As := [.int a_itsKind, .int (0 : Int32), .int (5 : Int32)]) (rest := []) ⟨hx, hb, hml, hown, hts⟩ hK (c5_within  hc2) ⟨va_cnB (own := RX4) (host := RX5) (index := 90) (y := yX5_within) 3 hts gX4_addGift_X5_within_n90 rfl rfl rfl (hK.2 (RX4, 90, yX5_within) (List.mem_of_getElem? (i := 7) rfl)) (hts _ (List.mem_of_getElem? (i := 8) rfl)) hd5_within ⟨Nat.le_of_ble_eq_true rfl, Nat.le_of_ble_eq_true rfl⟩, (hts _ (List.mem_of_getElem? (i := 7) rfl)), trivial⟩ (hP.sub [] rfl) rfl hl.1 rfl rfl (Nat.le_of_ble_eq_true rfl) (zD_g DX4_addGift 3 rfl) ⟨Nat.zero_le _, Nat.zero_le _⟩ ?_
  refine lv_if_eq (tgt := 37) hx hb (zD_g DX4_addGift 4 rfl) (by decide) (fun c3 => ?_) (fun c3 => ?_)
  · replace hf := z_t c3 hf
    refine lv_bipush (v := (-2 : Int32)) hx hb (zD_g DX4_addGift 18 rfl) (by decide) ?_
    cases hf
    exact hret _ _ _ _ hP hD hS (zD_g DX4_addGift 19 rfl)
  · replace hf := z_f c3 hf
    refine lv_iload_n hx hb (zD_g DX4_addGift 5 rfl) rfl (lv_at hl 2 rfl) ?_
    obtain ⟨r4, hc5, hf⟩ := zb1_s hf
    refine z_Np (As := [.int a_city]) (rest := []) ⟨hx, hb, hml, hown, hts⟩ hK (c5_isCity  hc5) ⟨va_cnB (own := RX4) (host := RX5) (index := 94) (y := yX5_isCity) 1 hts gX4_addGift_X5_isCity_n94 rfl rfl rfl (hK.2 (RX4, 94, yX5_isCity) (List.mem_of_getElem? (i := 8) rfl)) (hts _ (List.mem_of_getElem? (i := 8) rfl)) hd5_isCity ⟨Nat.le_of_ble_eq_true rfl, Nat.le_of_ble_eq_true rfl⟩, (hts _ (List.mem_of_getElem? (i := 10) rfl)), trivial⟩ (hP.sub [] rfl) rfl hl.1 rfl rfl (Nat.le_of_ble_eq_true rfl) (zD_g DX4_addGift 6 rfl) ⟨Nat.zero_le _, Nat.zero_le _⟩ ?_
    refine lv_if_eq (tgt := 37) hx hb (zD_g DX4_addGift 7 rfl) (by decide) (fun c6 => ?_) (fun c6 => ?_)
    · replace hf := z_t c6 hf
      refine lv_bipush (v := (-2 : Int32)) hx hb (zD_g DX4_addGift 18 rfl) (by decide) ?_
      cases hf
      exact hret _ _ _ _ hP hD hS (zD_g DX4_addGift 19 rfl)
    · replace hf := z_f c6 hf
      refine lv_iload_n hx hb (zD_g DX4_addGift 8 rfl) rfl (lv_at hl 3 rfl) ?_
      refine lv_iconst (v := (0 : Int32)) hx hb (zD_g DX4_addGift 9 rfl) (by decide) ?_
      refine lv_bipush (v := (50 : Int32)) hx hb (zD_g DX4_addGift 10 rfl) (by decide) ?_
      obtain ⟨r7, hc8, hf⟩ := zb1_s hf
      refine z_Np (As := [.int a_itsEmpty, .int (0 : Int32), .int (50 : Int32)]) (rest := []) ⟨hx, hb, hml, hown, hts⟩ hK (c5_within  hc8) ⟨va_cnB (own := RX4) (host := RX5) (index := 90) (y := yX5_within) 3 hts gX4_addGift_X5_within_n90 rfl rfl rfl (hK.2 (RX4, 90, yX5_within) (List.mem_of_getElem? (i := 7) rfl)) (hts _ (List.mem_of_getElem? (i := 8) rfl)) hd5_within ⟨Nat.le_of_ble_eq_true rfl, Nat.le_of_ble_eq_true rfl⟩, (hts _ (List.mem_of_getElem? (i := 7) rfl)), trivial⟩ (hP.sub [] rfl) rfl hl.1 rfl rfl (Nat.le_of_ble_eq_true rfl) (zD_g DX4_addGift 11 rfl) ⟨Nat.zero_le _, Nat.zero_le _⟩ ?_
      refine lv_if_eq (tgt := 37) hx hb (zD_g DX4_addGift 12 rfl) (by decide) (fun c9 => ?_) (fun c9 => ?_)
      · replace hf := z_t c9 hf
        refine lv_bipush (v := (-2 : Int32)) hx hb (zD_g DX4_addGift 18 rfl) (by decide) ?_
        cases hf
        exact hret _ _ _ _ hP hD hS (zD_g DX4_addGift 19 rfl)
      · replace hf := z_f c9 hf
        refine lv_iload hx hb (zD_g DX4_addGift 13 rfl) (lv_at hl 4 rfl) ?_
        refine lv_iconst (v := (0 : Int32)) hx hb (zD_g DX4_addGift 14 rfl) (by decide) ?_
        refine lv_bipush (v := (30 : Int32)) hx hb (zD_g DX4_addGift 15 rfl) (by decide) ?_
        obtain ⟨r10, hc11, hf⟩ := zb1_s hf
        refine z_Np (As := [.int a_itsRoom, .int (0 : Int32), .int (30 : Int32)]) (rest := []) ⟨hx, hb, hml, hown, hts⟩ hK (c5_within  hc11) ⟨va_cnB (own := RX4) (host := RX5) (index := 90) (y := yX5_within) 3 hts gX4_addGift_X5_within_n90 rfl rfl rfl (hK.2 (RX4, 90, yX5_within) (List.mem_of_getElem? (i := 7) rfl)) (hts _ (List.mem_of_getElem? (i := 8) rfl)) hd5_within ⟨Nat.le_of_ble_eq_true rfl, Nat.le_of_ble_eq_true rfl⟩, (hts _ (List.mem_of_getElem? (i := 7) rfl)), trivial⟩ (hP.sub [] rfl) rfl hl.1 rfl rfl (Nat.le_of_ble_eq_true rfl) (zD_g DX4_addGift 16 rfl) ⟨Nat.zero_le _, Nat.zero_le _⟩ ?_
        refine lv_if_ne (tgt := 40) hx hb (zD_g DX4_addGift 17 rfl) (by decide) (fun c12 => ?_) (fun c12 => ?_)
        · replace hf := z_f c12 hf
          refine lv_aload_n hx hb (zD_g DX4_addGift 20 rfl) rfl (lv_at hl 0 rfl) ?_
          refine va_get (D := D) (ci := 3) (v := .int gifts) (C := RX4) (T := TX4) (N := 19) hx hb hts in4_addGift_4 hown hK.1 hP 0 rfl rfl 1 (by decide) (hts _ (List.mem_of_getElem? (i := 1) rfl)) (fun _ h9 => h9) rfl (zD_g DX4_addGift 21 rfl) ?_
          refine lv_bipush (v := (6 : Int32)) hx hb (zD_g DX4_addGift 22 rfl) (by decide) ?_
          refine lv_icmp_lt (tgt := 52) hx hb (zD_g DX4_addGift 23 rfl) (by decide) (fun c13 => ?_) (fun c13 => ?_)
          · replace hf := z_t c13 hf
            refine lv_aload_n hx hb (zD_g DX4_addGift 26 rfl) rfl (lv_at hl 0 rfl) ?_
            refine va_get (D := D) (ci := 3) (v := .ref (q 6)) (C := RX4) (T := TX4) (N := 19) hx hb hts in4_addGift_4 hown hK.1 hP 0 rfl rfl 8 (by decide) (hts _ (List.mem_of_getElem? (i := 2) rfl)) (fun _ h9 => h9) rfl (zD_g DX4_addGift 27 rfl) ?_
            refine lv_aload_n hx hb (zD_g DX4_addGift 28 rfl) rfl (lv_at hl 0 rfl) ?_
            refine va_get (D := D) (ci := 3) (v := .int gifts) (C := RX4) (T := TX4) (N := 19) hx hb hts in4_addGift_4 hown hK.1 hP 0 rfl rfl 1 (by decide) (hts _ (List.mem_of_getElem? (i := 1) rfl)) (fun _ h9 => h9) rfl (zD_g DX4_addGift 29 rfl) ?_
            refine lv_iload_n hx hb (zD_g DX4_addGift 30 rfl) rfl (lv_at hl 1 rfl) ?_
            obtain ⟨h14, hf⟩ := zg_s hf
            refine z_iast (k := gifts.toNatClampNeg) (ws' := (cWar cI q things gifts days size weight sound harm in_ (upd kind gifts.toNatClampNeg a_itsKind) owner empty room told gate ear scale lost watch moments kept)) hx hb hK.1 hP hD hS 6 0 rfl rfl h14 rfl rfl (zD_g DX4_addGift 31 rfl) (fun H locs hP hD hS => ?_)
            refine lv_aload_n hx hb (zD_g DX4_addGift 32 rfl) rfl (lv_at hl 0 rfl) ?_
            refine va_get (D := D) (ci := 3) (v := .ref (q 7)) (C := RX4) (T := TX4) (N := 19) hx hb hts in4_addGift_4 hown hK.1 hP 0 rfl rfl 9 (by decide) (hts _ (List.mem_of_getElem? (i := 3) rfl)) (fun _ h9 => h9) rfl (zD_g DX4_addGift 33 rfl) ?_
            refine lv_aload_n hx hb (zD_g DX4_addGift 34 rfl) rfl (lv_at hl 0 rfl) ?_
            refine va_get (D := D) (ci := 3) (v := .int gifts) (C := RX4) (T := TX4) (N := 19) hx hb hts in4_addGift_4 hown hK.1 hP 0 rfl rfl 1 (by decide) (hts _ (List.mem_of_getElem? (i := 1) rfl)) (fun _ h9 => h9) rfl (zD_g DX4_addGift 35 rfl) ?_
            refine lv_iload_n hx hb (zD_g DX4_addGift 36 rfl) rfl (lv_at hl 2 rfl) ?_
            obtain ⟨h15, hf⟩ := zg_s hf
            refine z_iast (k := gifts.toNatClampNeg) (ws' := (cWar cI q things gifts days size weight sound harm in_ (upd kind gifts.toNatClampNeg a_itsKind) (upd owner gifts.toNatClampNeg a_city) empty room told gate ear scale lost watch moments kept)) hx hb hK.1 hP hD hS 7 0 rfl rfl h15 rfl rfl (zD_g DX4_addGift 37 rfl) (fun H locs hP hD hS => ?_)
            refine lv_aload_n hx hb (zD_g DX4_addGift 38 rfl) rfl (lv_at hl 0 rfl) ?_
            refine va_get (D := D) (ci := 3) (v := .ref (q 8)) (C := RX4) (T := TX4) (N := 19) hx hb hts in4_addGift_4 hown hK.1 hP 0 rfl rfl 10 (by decide) (hts _ (List.mem_of_getElem? (i := 4) rfl)) (fun _ h9 => h9) rfl (zD_g DX4_addGift 39 rfl) ?_
            refine lv_aload_n hx hb (zD_g DX4_addGift 40 rfl) rfl (lv_at hl 0 rfl) ?_
            refine va_get (D := D) (ci := 3) (v := .int gifts) (C := RX4) (T := TX4) (N := 19) hx hb hts in4_addGift_4 hown hK.1 hP 0 rfl rfl 1 (by decide) (hts _ (List.mem_of_getElem? (i := 1) rfl)) (fun _ h9 => h9) rfl (zD_g DX4_addGift 41 rfl) ?_
            refine lv_iload_n hx hb (zD_g DX4_addGift 42 rfl) rfl (lv_at hl 3 rfl) ?_
            obtain ⟨h16, hf⟩ := zg_s hf
            refine z_iast (k := gifts.toNatClampNeg) (ws' := (cWar cI q things gifts days size weight sound harm in_ (upd kind gifts.toNatClampNeg a_itsKind) (upd owner gifts.toNatClampNeg a_city) (upd empty gifts.toNatClampNeg a_itsEmpty) room told gate ear scale lost watch moments kept)) hx hb hK.1 hP hD hS 8 0 rfl rfl h16 rfl rfl (zD_g DX4_addGift 43 rfl) (fun H locs hP hD hS => ?_)
            refine lv_aload_n hx hb (zD_g DX4_addGift 44 rfl) rfl (lv_at hl 0 rfl) ?_
            refine va_get (D := D) (ci := 3) (v := .ref (q 9)) (C := RX4) (T := TX4) (N := 19) hx hb hts in4_addGift_4 hown hK.1 hP 0 rfl rfl 11 (by decide) (hts _ (List.mem_of_getElem? (i := 5) rfl)) (fun _ h9 => h9) rfl (zD_g DX4_addGift 45 rfl) ?_
            refine lv_aload_n hx hb (zD_g DX4_addGift 46 rfl) rfl (lv_at hl 0 rfl) ?_
            refine va_get (D := D) (ci := 3) (v := .int gifts) (C := RX4) (T := TX4) (N := 19) hx hb hts in4_addGift_4 hown hK.1 hP 0 rfl rfl 1 (by decide) (hts _ (List.mem_of_getElem? (i := 1) rfl)) (fun _ h9 => h9) rfl (zD_g DX4_addGift 47 rfl) ?_
            refine lv_iload hx hb (zD_g DX4_addGift 48 rfl) (lv_at hl 4 rfl) ?_
            obtain ⟨h17, hf⟩ := zg_s hf
            refine z_iast (k := gifts.toNatClampNeg) (ws' := (cWar cI q things gifts days size weight sound harm in_ (upd kind gifts.toNatClampNeg a_itsKind) (upd owner gifts.toNatClampNeg a_city) (upd empty gifts.toNatClampNeg a_itsEmpty) (upd room gifts.toNatClampNeg a_itsRoom) told gate ear scale lost watch moments kept)) hx hb hK.1 hP hD hS 9 0 rfl rfl h17 rfl rfl (zD_g DX4_addGift 49 rfl) (fun H locs hP hD hS => ?_)
            refine lv_aload_n hx hb (zD_g DX4_addGift 50 rfl) rfl (lv_at hl 0 rfl) ?_
            refine va_get (D := D) (ci := 3) (v := .ref (q 10)) (C := RX4) (T := TX4) (N := 19) hx hb hts in4_addGift_4 hown hK.1 hP 0 rfl rfl 12 (by decide) (hts _ (List.mem_of_getElem? (i := 6) rfl)) (fun _ h9 => h9) rfl (zD_g DX4_addGift 51 rfl) ?_
            refine lv_aload_n hx hb (zD_g DX4_addGift 52 rfl) rfl (lv_at hl 0 rfl) ?_
            refine va_get (D := D) (ci := 3) (v := .int gifts) (C := RX4) (T := TX4) (N := 19) hx hb hts in4_addGift_4 hown hK.1 hP 0 rfl rfl 1 (by decide) (hts _ (List.mem_of_getElem? (i := 1) rfl)) (fun _ h9 => h9) rfl (zD_g DX4_addGift 53 rfl) ?_
            refine lv_iconst (v := (0 : Int32)) hx hb (zD_g DX4_addGift 54 rfl) (by decide) ?_
            obtain ⟨h18, hf⟩ := zg_s hf
            refine z_iast (k := gifts.toNatClampNeg) (ws' := (cWar cI q things gifts days size weight sound harm in_ (upd kind gifts.toNatClampNeg a_itsKind) (upd owner gifts.toNatClampNeg a_city) (upd empty gifts.toNatClampNeg a_itsEmpty) (upd room gifts.toNatClampNeg a_itsRoom) (upd told gifts.toNatClampNeg (0 : Int32)) gate ear scale lost watch moments kept)) hx hb hK.1 hP hD hS 10 0 rfl rfl h18 rfl rfl (zD_g DX4_addGift 55 rfl) (fun H locs hP hD hS => ?_)
            refine lv_aload_n hx hb (zD_g DX4_addGift 56 rfl) rfl (lv_at hl 0 rfl) ?_
            obtain ⟨moments_19, hc20, hf⟩ := zb1_s hf
            refine z_Vm (As := []) (rest := []) (ws' := (cWar cI q things gifts days size weight sound harm in_ (upd kind gifts.toNatClampNeg a_itsKind) (upd owner gifts.toNatClampNeg a_city) (upd empty gifts.toNatClampNeg a_itsEmpty) (upd room gifts.toNatClampNeg a_itsRoom) (upd told gifts.toNatClampNeg (0 : Int32)) gate ear scale lost watch moments_19 kept)) ⟨hx, hb, hml, hown, hts⟩ hK (c4_forget (things := things) (gifts := gifts) (days := days) (size := size) (weight := weight) (sound := sound) (harm := harm) (in_ := in_) (kind := (upd kind gifts.toNatClampNeg a_itsKind)) (owner := (upd owner gifts.toNatClampNeg a_city)) (empty := (upd empty gifts.toNatClampNeg a_itsEmpty)) (room := (upd room gifts.toNatClampNeg a_itsRoom)) (told := (upd told gifts.toNatClampNeg (0 : Int32))) (gate := gate) (ear := ear) (scale := scale) (lost := lost) (watch := watch) (moments := moments) (kept := kept) (q := q) hc20) (cwV 0 hts gX4_addGift_X4_forget rfl rfl rfl hd4_forget ⟨Nat.le_of_ble_eq_true rfl, Nat.le_of_ble_eq_true rfl⟩) hP hD hS hA 18 [0, 1, 2, 3, 4, 5, 6, 7, 8, 9, 10, 11, 12, 13, 14, 15, 16, 17] [] [0, 1, 2, 3, 4, 5, 6, 7, 8, 9, 10, 11, 12, 13, 14, 15, 16, 17] (by decide +kernel) rfl rfl rfl rfl rfl rfl rfl hl.1 rfl rfl (Nat.le_of_ble_eq_true rfl) (zD_g DX4_addGift 57 rfl) ⟨Nat.zero_le _, Nat.zero_le _⟩ (fun H locs hP hD hS => ?_)
            refine lv_aload_n hx hb (zD_g DX4_addGift 58 rfl) rfl (lv_at hl 0 rfl) ?_
            refine lv_dup hx hb (zD_g DX4_addGift 59 rfl) rfl ?_
            refine va_get (D := D) (ci := 3) (v := .int gifts) (C := RX4) (T := TX4) (N := 19) hx hb hts in4_addGift_4 hown hK.1 hP 0 rfl rfl 1 (by decide) (hts _ (List.mem_of_getElem? (i := 1) rfl)) (fun _ h9 => h9) rfl (zD_g DX4_addGift 60 rfl) ?_
            refine lv_dup_x1 hx hb (zD_g DX4_addGift 61 rfl) rfl rfl ?_
            refine lv_iconst (v := (1 : Int32)) hx hb (zD_g DX4_addGift 62 rfl) (by decide) ?_
            refine lv_iadd hx hb (zD_g DX4_addGift 63 rfl) ?_
            refine lv_topi (fun x21 ex21 => ?_)
            replace hf := zl_s hf x21 ex21
            refine z_put (D := D) (ci := 3) (v := .int x21) (ty := .int) (C := RX4) (T := TX4) (N := 19) (ws' := (cWar cI q things x21 days size weight sound harm in_ (upd kind gifts.toNatClampNeg a_itsKind) (upd owner gifts.toNatClampNeg a_city) (upd empty gifts.toNatClampNeg a_itsEmpty) (upd room gifts.toNatClampNeg a_itsRoom) (upd told gifts.toNatClampNeg (0 : Int32)) gate ear scale lost watch moments_19 kept)) hx hb hts in4_addGift_4 tyX4 tyX4_ok nmX4 hown hK.1 hP hD hS 0 rfl rfl 1 (by decide) (hts _ (List.mem_of_getElem? (i := 1) rfl)) (fun _ h9 => h9) rfl (tyX4_ok 1 (by decide)) rfl rfl (Nat.le_of_ble_eq_true rfl) rfl (zD_g DX4_addGift 64 rfl) (fun H locs hP hD hS => ?_)
            cases hf
            exact hret _ _ _ _ hP hD hS (zD_g DX4_addGift 65 rfl)
          · replace hf := z_f c13 hf
            refine lv_bipush (v := (-4 : Int32)) hx hb (zD_g DX4_addGift 24 rfl) (by decide) ?_
            cases hf
            exact hret _ _ _ _ hP hD hS (zD_g DX4_addGift 25 rfl)
        · replace hf := z_t c12 hf
          refine lv_bipush (v := (-2 : Int32)) hx hb (zD_g DX4_addGift 18 rfl) (by decide) ?_
          cases hf
          exact hret _ _ _ _ hP hD hS (zD_g DX4_addGift 19 rfl)
abbrev dlX4_hasThing : List (Nat × Instr × Nat) := [(0, .iload_n 1, 1), (1, .iconst 0, 1), (2, .aload_n 0, 1), (3, .getfield 67, 3), (6, .iconst 1, 1), (7, .isub, 1), (8, .invokestatic 90, 3), (11, .ireturn, 1)]
theorem DX4_hasThing : zD cX4_hasThing dlX4_hasThing = true := by decide +kernel
set_option maxRecDepth 20000 in
theorem ggX4_hasThing_X5_within : GoodIn wsX4_hasThing wsX5_within := goodIn_r _ [4] (by decide +kernel) (by decide +kernel)
set_option maxRecDepth 20000 in
theorem gX4_hasThing_X5_within_n90 : GoodIn wsX4_hasThing (wsX5_within) := ggX4_hasThing_X5_within
theorem hd4_hasThing : yX4_hasThing.cls = RX4 ∧ yX4_hasThing.cls ≠ "java/lang/invoke/MethodHandle" ∧ yX4_hasThing.cls ≠ "java/lang/invoke/VarHandle" ∧ (parseMethodDescriptor yX4_hasThing.desc).map (fun d => d.parameters.length) = some 1 := by decide +kernel
abbrev rm4_hasThing : Room := { frames := 1, cells := 0, slots := 0, locals := 22 }
theorem in4_hasThing_4 : ∀ w ∈ wsX40, w ∈ wsX4_hasThing := fun w h => List.mem_cons_of_mem _ (List.mem_append_right _ h)
set_option maxHeartbeats 4000000 in
set_option maxRecDepth 100000 in
theorem c4_hasThing {l : Launch} {D : va_G} {cI cZ cB : ClassId} {q : Nat → Nat} {things : Int32} {gifts : Int32} {days : Int32} {size : Nat → Int32} {weight : Nat → Int32} {sound : Nat → Int32} {harm : Nat → Int32} {in_ : Nat → Int32} {kind : Nat → Int32} {owner : Nat → Int32} {empty : Nat → Int32} {room : Nat → Int32} {told : Nat → Int32} {gate : Nat → Int32} {ear : Nat → Int32} {scale : Nat → Int32} {lost : Nat → Int32} {watch : Nat → Int32} {moments : Int32} {kept : Nat → Int32} {a_n : Int32} {r : Int32}  (hf : f4_hasThing things a_n = some r) : Met l yX4_hasThing wsX4_hasThing rm4_hasThing (zPp D cI cZ cB [.ref (q 0), .int a_n] (cWar cI q things gifts days size weight sound harm in_ kind owner empty room told gate ear scale lost watch moments kept)) (zQp (some (.int r))) 0 0 (fun _ => False) := by
  unfold f4_hasThing at hf
  refine z_pureZ RX4 (by decide +kernel) rfl rfl (Nat.le_of_ble_eq_true rfl) ?_
  intro p e s m args below meth c Q ls hx hb hml hown hts hK hP hret hl
  have hl : lv_has ls 2 [(0, .ref (q 0)), (1, .int a_n)] := hl
  refine lv_iload_n hx hb (zD_g DX4_hasThing 0 rfl) rfl (lv_at hl 1 rfl) ?_
  refine lv_iconst (v := (0 : Int32)) hx hb (zD_g DX4_hasThing 1 rfl) (by decide) ?_
  refine lv_aload_n hx hb (zD_g DX4_hasThing 2 rfl) rfl (lv_at hl 0 rfl) ?_
  refine va_get (D := D) (ci := 3) (v := .int things) (C := RX4) (T := TX4) (N := 19) hx hb hts in4_hasThing_4 hown hK.1 hP 0 rfl rfl 0 (by decide) (hts _ (List.mem_of_getElem? (i := 1) rfl)) (fun _ h9 => h9) rfl (zD_g DX4_hasThing 3 rfl) ?_
  refine lv_iconst (v := (1 : Int32)) hx hb (zD_g DX4_hasThing 4 rfl) (by decide) ?_
  refine lv_isub hx hb (zD_g DX4_hasThing 5 rfl) ?_
  obtain ⟨r1, hc2, hf⟩ := zb1_s hf
  refine z_Np (As := [.int a_n, .int (0 : Int32), .int (things - (1 : Int32))]) (rest := []) ⟨hx, hb, hml, hown, hts⟩ hK (c5_within  hc2) ⟨va_cnB (own := RX4) (host := RX5) (index := 90) (y := yX5_within) 3 hts gX4_hasThing_X5_within_n90 rfl rfl rfl (hK.2 (RX4, 90, yX5_within) (List.mem_of_getElem? (i := 7) rfl)) (hts _ (List.mem_of_getElem? (i := 3) rfl)) hd5_within ⟨Nat.le_of_ble_eq_true rfl, Nat.le_of_ble_eq_true rfl⟩, (hts _ (List.mem_of_getElem? (i := 2) rfl)), trivial⟩ (hP.sub [] rfl) rfl hl.1 rfl rfl (Nat.le_of_ble_eq_true rfl) (zD_g DX4_hasThing 6 rfl) ⟨Nat.zero_le _, Nat.zero_le _⟩ ?_
  obtain ⟨hz3, hf⟩ := zgb_s hf
  cases hf
  exact hret _ _ hz3 (zD_g DX4_hasThing 7 rfl)
abbrev dlX4_hasGift : List (Nat × Instr × Nat) := [(0, .iload_n 1, 1), (1, .iconst 0, 1), (2, .aload_n 0, 1), (3, .getfield 71, 3), (6, .iconst 1, 1), (7, .isub, 1), (8, .invokestatic 90, 3), (11, .ireturn, 1)]
theorem DX4_hasGift : zD cX4_hasGift dlX4_hasGift = true := by decide +kernel
set_option maxRecDepth 20000 in
theorem ggX4_hasGift_X5_within : GoodIn wsX4_hasGift wsX5_within := goodIn_r _ [4] (by decide +kernel) (by decide +kernel)
set_option maxRecDepth 20000 in
theorem gX4_hasGift_X5_within_n90 : GoodIn wsX4_hasGift (wsX5_within) := ggX4_hasGift_X5_within
theorem hd4_hasGift : yX4_hasGift.cls = RX4 ∧ yX4_hasGift.cls ≠ "java/lang/invoke/MethodHandle" ∧ yX4_hasGift.cls ≠ "java/lang/invoke/VarHandle" ∧ (parseMethodDescriptor yX4_hasGift.desc).map (fun d => d.parameters.length) = some 1 := by decide +kernel
abbrev rm4_hasGift : Room := { frames := 1, cells := 0, slots := 0, locals := 22 }
theorem in4_hasGift_4 : ∀ w ∈ wsX40, w ∈ wsX4_hasGift := fun w h => List.mem_cons_of_mem _ (List.mem_append_right _ h)
set_option maxHeartbeats 4000000 in
set_option maxRecDepth 100000 in
theorem c4_hasGift {l : Launch} {D : va_G} {cI cZ cB : ClassId} {q : Nat → Nat} {things : Int32} {gifts : Int32} {days : Int32} {size : Nat → Int32} {weight : Nat → Int32} {sound : Nat → Int32} {harm : Nat → Int32} {in_ : Nat → Int32} {kind : Nat → Int32} {owner : Nat → Int32} {empty : Nat → Int32} {room : Nat → Int32} {told : Nat → Int32} {gate : Nat → Int32} {ear : Nat → Int32} {scale : Nat → Int32} {lost : Nat → Int32} {watch : Nat → Int32} {moments : Int32} {kept : Nat → Int32} {a_n : Int32} {r : Int32}  (hf : f4_hasGift gifts a_n = some r) : Met l yX4_hasGift wsX4_hasGift rm4_hasGift (zPp D cI cZ cB [.ref (q 0), .int a_n] (cWar cI q things gifts days size weight sound harm in_ kind owner empty room told gate ear scale lost watch moments kept)) (zQp (some (.int r))) 0 0 (fun _ => False) := by
  unfold f4_hasGift at hf
  refine z_pureZ RX4 (by decide +kernel) rfl rfl (Nat.le_of_ble_eq_true rfl) ?_
  intro p e s m args below meth c Q ls hx hb hml hown hts hK hP hret hl
  have hl : lv_has ls 2 [(0, .ref (q 0)), (1, .int a_n)] := hl
  refine lv_iload_n hx hb (zD_g DX4_hasGift 0 rfl) rfl (lv_at hl 1 rfl) ?_
  refine lv_iconst (v := (0 : Int32)) hx hb (zD_g DX4_hasGift 1 rfl) (by decide) ?_
  refine lv_aload_n hx hb (zD_g DX4_hasGift 2 rfl) rfl (lv_at hl 0 rfl) ?_
  refine va_get (D := D) (ci := 3) (v := .int gifts) (C := RX4) (T := TX4) (N := 19) hx hb hts in4_hasGift_4 hown hK.1 hP 0 rfl rfl 1 (by decide) (hts _ (List.mem_of_getElem? (i := 1) rfl)) (fun _ h9 => h9) rfl (zD_g DX4_hasGift 3 rfl) ?_
  refine lv_iconst (v := (1 : Int32)) hx hb (zD_g DX4_hasGift 4 rfl) (by decide) ?_
  refine lv_isub hx hb (zD_g DX4_hasGift 5 rfl) ?_
  obtain ⟨r1, hc2, hf⟩ := zb1_s hf
  refine z_Np (As := [.int a_n, .int (0 : Int32), .int (gifts - (1 : Int32))]) (rest := []) ⟨hx, hb, hml, hown, hts⟩ hK (c5_within  hc2) ⟨va_cnB (own := RX4) (host := RX5) (index := 90) (y := yX5_within) 3 hts gX4_hasGift_X5_within_n90 rfl rfl rfl (hK.2 (RX4, 90, yX5_within) (List.mem_of_getElem? (i := 7) rfl)) (hts _ (List.mem_of_getElem? (i := 3) rfl)) hd5_within ⟨Nat.le_of_ble_eq_true rfl, Nat.le_of_ble_eq_true rfl⟩, (hts _ (List.mem_of_getElem? (i := 2) rfl)), trivial⟩ (hP.sub [] rfl) rfl hl.1 rfl rfl (Nat.le_of_ble_eq_true rfl) (zD_g DX4_hasGift 6 rfl) ⟨Nat.zero_le _, Nat.zero_le _⟩ ?_
  obtain ⟨hz3, hf⟩ := zgb_s hf
  cases hf
  exact hret _ _ hz3 (zD_g DX4_hasGift 7 rfl)
abbrev dlX4_inside : List (Nat × Instr × Nat) := [(0, .iconst 0, 1), (1, .istore_n 2, 1), (2, .iconst 0, 1), (3, .istore_n 3, 1), (4, .iload_n 3, 1), (5, .aload_n 0, 1), (6, .getfield 67, 3), (9, .if_icmp .ge 25, 3), (12, .aload_n 0, 1), (13, .getfield 24, 3), (16, .iload_n 3, 1), (17, .iaload, 1), (18, .iload_n 1, 1), (19, .if_icmp .ne 9, 3), (22, .iload_n 2, 1), (23, .iconst 1, 1), (24, .iload_n 3, 1), (25, .ishl, 1), (26, .ior, 1), (27, .istore_n 2, 1), (28, .iinc 3 1, 3), (31, .goto (-27), 3), (34, .iload_n 2, 1), (35, .ireturn, 1)]
theorem DX4_inside : zD cX4_inside dlX4_inside = true := by decide +kernel
theorem hd4_inside : yX4_inside.cls = RX4 ∧ yX4_inside.cls ≠ "java/lang/invoke/MethodHandle" ∧ yX4_inside.cls ≠ "java/lang/invoke/VarHandle" ∧ (parseMethodDescriptor yX4_inside.desc).map (fun d => d.parameters.length) = some 1 := by decide +kernel
abbrev rm4_inside : Room := { frames := 0, cells := 0, slots := 0, locals := 0 }
theorem in4_inside_4 : ∀ w ∈ wsX40, w ∈ wsX4_inside := fun w h => List.mem_cons_of_mem _ (List.mem_append_right _ h)
set_option maxHeartbeats 4000000 in
set_option maxRecDepth 100000 in
theorem c4_inside {l : Launch} {D : va_G} {cI cZ cB : ClassId} {q : Nat → Nat} {things : Int32} {gifts : Int32} {days : Int32} {size : Nat → Int32} {weight : Nat → Int32} {sound : Nat → Int32} {harm : Nat → Int32} {in_ : Nat → Int32} {kind : Nat → Int32} {owner : Nat → Int32} {empty : Nat → Int32} {room : Nat → Int32} {told : Nat → Int32} {gate : Nat → Int32} {ear : Nat → Int32} {scale : Nat → Int32} {lost : Nat → Int32} {watch : Nat → Int32} {moments : Int32} {kept : Nat → Int32} {a_gift : Int32} {r : Int32}  (hf : f4_inside things in_ a_gift = some r) : Met l yX4_inside wsX4_inside rm4_inside (zPp D cI cZ cB [.ref (q 0), .int a_gift] (cWar cI q things gifts days size weight sound harm in_ kind owner empty room told gate ear scale lost watch moments kept)) (zQp (some (.int r))) 0 0 (fun _ => False) := by
  unfold f4_inside at hf
  refine z_pureI RX4 (by decide +kernel) rfl rfl (Nat.le_of_ble_eq_true rfl) ?_
  intro p e s m args below meth c Q ls hx hb hml hown hts hK hP hret hl
  have hl : lv_has ls 4 [(0, .ref (q 0)), (1, .int a_gift)] := hl
  refine lv_iconst (v := (0 : Int32)) hx hb (zD_g DX4_inside 0 rfl) (by decide) ?_
  refine lv_istore_n (lv' := [(2, .int (0 : Int32)), (0, .ref (q 0)), (1, .int a_gift)]) hx hb (zD_g DX4_inside 1 rfl) rfl hl (by decide) rfl (fun ls hl => ?_)
  refine lv_iconst (v := (0 : Int32)) hx hb (zD_g DX4_inside 2 rfl) (by decide) ?_
  refine lv_istore_n (lv' := [(3, .int (0 : Int32)), (2, .int (0 : Int32)), (0, .ref (q 0)), (1, .int a_gift)]) hx hb (zD_g DX4_inside 3 rfl) rfl hl (by decide) rfl (fun ls hl => ?_)
  have hL3 : ∀ (k3 : Int32 → Option (Int32)) (hk3 : ∀ (y8 : Int32), k3 y8 = some r → ∀ (ls : Array Slot), lv_has ls 4 [(2, .int y8)] → W p l e rm4_inside s m args below meth c s.heap [] 0 0 Q (F0 m 34 ls [])) (n3 : Nat) (y1 : Int32) (y2 : Int32), L4_inside_4 k3 things in_ a_gift n3 y1 y2 = some r → ∀ (ls : Array Slot), lv_has ls 4 [(0, .ref (q 0)), (1, .int a_gift), (2, .int y1), (3, .int y2)] → W p l e rm4_inside s m args below meth c s.heap [] 0 0 Q (F0 m 4 ls []) := by
    intro k3 hk3 n3
    induction n3 with
    | zero =>
      intro y1 y2 hf
      cases hf
    | succ n3 ih3 =>
      intro y1 y2 hf ls hl
      rw [L4_inside_4] at hf
      refine lv_iload_n hx hb (zD_g DX4_inside 4 rfl) rfl (lv_at hl 3 rfl) ?_
      refine lv_aload_n hx hb (zD_g DX4_inside 5 rfl) rfl (lv_at hl 0 rfl) ?_
      refine va_get (D := D) (ci := 3) (v := .int things) (C := RX4) (T := TX4) (N := 19) hx hb hts in4_inside_4 hown hK.1 hP 0 rfl rfl 0 (by decide) (hts _ (List.mem_of_getElem? (i := 1) rfl)) (fun _ h9 => h9) rfl (zD_g DX4_inside 6 rfl) ?_
      refine lv_icmp_ge (tgt := 34) hx hb (zD_g DX4_inside 7 rfl) (by decide) (fun c4 => ?_) (fun c4 => ?_)
      · replace hf := z_t c4 hf
        exact hk3 _ hf ls (lv_sub hl [2] rfl)
      · replace hf := z_f c4 hf
        refine lv_aload_n hx hb (zD_g DX4_inside 8 rfl) rfl (lv_at hl 0 rfl) ?_
        refine va_get (D := D) (ci := 3) (v := .ref (q 5)) (C := RX4) (T := TX4) (N := 19) hx hb hts in4_inside_4 hown hK.1 hP 0 rfl rfl 7 (by decide) (hts _ (List.mem_of_getElem? (i := 2) rfl)) (fun _ h9 => h9) rfl (zD_g DX4_inside 9 rfl) ?_
        refine lv_iload_n hx hb (zD_g DX4_inside 10 rfl) rfl (lv_at hl 3 rfl) ?_
        obtain ⟨h5, hf⟩ := zg_s hf
        refine z_iald (k := y2.toNatClampNeg) hx hb hK.1 hP 5 0 rfl rfl h5 rfl (zD_g DX4_inside 11 rfl) ?_
        refine lv_iload_n hx hb (zD_g DX4_inside 12 rfl) rfl (lv_at hl 1 rfl) ?_
        refine lv_icmp_ne (tgt := 28) hx hb (zD_g DX4_inside 13 rfl) (by decide) (fun c6 => ?_) (fun c6 => ?_)
        · replace hf := z_f c6 hf
          refine lv_iinc (v := y2 + 1) (lv' := [(3, .int (y2 + 1)), (0, .ref (q 0)), (1, .int a_gift), (2, .int y1)]) (k := 3) hx hb (zD_g DX4_inside 20 rfl) hl rfl rfl (by decide) rfl (fun ls hl => ?_)
          refine lv_goto (tgt := 4) hx hb (zD_g DX4_inside 21 rfl) (by decide) ?_
          exact ih3 _ _ hf ls (lv_sub hl [1, 2, 3, 0] rfl)
        · replace hf := z_t c6 hf
          refine lv_iload_n hx hb (zD_g DX4_inside 14 rfl) rfl (lv_at hl 2 rfl) ?_
          refine lv_iconst (v := (1 : Int32)) hx hb (zD_g DX4_inside 15 rfl) (by decide) ?_
          refine lv_iload_n hx hb (zD_g DX4_inside 16 rfl) rfl (lv_at hl 3 rfl) ?_
          refine lv_ishl hx hb (zD_g DX4_inside 17 rfl) ?_
          refine lv_ior hx hb (zD_g DX4_inside 18 rfl) ?_
          refine lv_topi (fun x7 ex7 => ?_)
          replace hf := zl_s hf x7 ex7
          refine lv_istore_n (lv' := [(2, .int x7), (0, .ref (q 0)), (1, .int a_gift), (3, .int y2)]) hx hb (zD_g DX4_inside 19 rfl) rfl hl (by decide) rfl (fun ls hl => ?_)
          refine lv_iinc (v := y2 + 1) (lv' := [(3, .int (y2 + 1)), (2, .int x7), (0, .ref (q 0)), (1, .int a_gift)]) (k := 3) hx hb (zD_g DX4_inside 20 rfl) hl rfl rfl (by decide) rfl (fun ls hl => ?_)
          refine lv_goto (tgt := 4) hx hb (zD_g DX4_inside 21 rfl) (by decide) ?_
          exact ih3 _ _ hf ls (lv_sub hl [2, 3, 1, 0] rfl)
  refine hL3 _ (fun y8 hf ls hl => ?_) _ _ _ hf ls (lv_sub hl [2, 3, 1, 0] rfl)
  refine lv_iload_n hx hb (zD_g DX4_inside 22 rfl) rfl (lv_at hl 0 rfl) ?_
  cases hf
  exact hret _ _ (zD_g DX4_inside 23 rfl)
abbrev dlX5_sumOver : List (Nat × Instr × Nat) := [(0, .iconst 0, 1), (1, .istore_n 2, 1), (2, .iconst 0, 1), (3, .istore_n 3, 1), (4, .iload_n 3, 1), (5, .aload_n 1, 1), (6, .arraylength, 1), (7, .if_icmp .ge 23, 3), (10, .iload_n 0, 1), (11, .iload_n 3, 1), (12, .ishr, 1), (13, .iconst 1, 1), (14, .iand, 1), (15, .ifCond .eq 9, 3), (18, .iload_n 2, 1), (19, .aload_n 1, 1), (20, .iload_n 3, 1), (21, .iaload, 1), (22, .iadd, 1), (23, .istore_n 2, 1), (24, .iinc 3 1, 3), (27, .goto (-23), 3), (30, .iload_n 2, 1), (31, .ireturn, 1)]
theorem DX5_sumOver : zD cX5_sumOver dlX5_sumOver = true := by decide +kernel
theorem hd5_sumOver : yX5_sumOver.cls ≠ "java/lang/invoke/MethodHandle" ∧ yX5_sumOver.cls ≠ "java/lang/invoke/VarHandle" ∧ (parseMethodDescriptor yX5_sumOver.desc).map (fun d => d.parameters.length) = some 2 := by decide +kernel
abbrev rm5_sumOver : Room := { frames := 0, cells := 0, slots := 0, locals := 0 }
set_option maxHeartbeats 4000000 in
set_option maxRecDepth 100000 in
theorem c5_sumOver {l : Launch} {D : va_G} {cI cZ cB : ClassId} {ar1 : Nat} {numbers : Nat → Int32} {a_set : Int32} {r : Int32}  (hf : f5_sumOver numbers a_set = some r) : Met l yX5_sumOver wsX5_sumOver rm5_sumOver (zPp D cI cZ cB [.int a_set, .ref ar1] (cArr cI ar1 8 numbers)) (zQp (some (.int r))) 0 0 (fun _ => False) := by
  unfold f5_sumOver at hf
  refine z_pureI RX5 (by decide +kernel) rfl rfl (Nat.le_of_ble_eq_true rfl) ?_
  intro p e s m args below meth c Q ls hx hb hml hown hts hK hP hret hl
  have hl : lv_has ls 4 [(0, .int a_set), (1, .ref ar1)] := hl
  refine lv_iconst (v := (0 : Int32)) hx hb (zD_g DX5_sumOver 0 rfl) (by decide) ?_
  refine lv_istore_n (lv' := [(2, .int (0 : Int32)), (0, .int a_set), (1, .ref ar1)]) hx hb (zD_g DX5_sumOver 1 rfl) rfl hl (by decide) rfl (fun ls hl => ?_)
  refine lv_iconst (v := (0 : Int32)) hx hb (zD_g DX5_sumOver 2 rfl) (by decide) ?_
  refine lv_istore_n (lv' := [(3, .int (0 : Int32)), (2, .int (0 : Int32)), (0, .int a_set), (1, .ref ar1)]) hx hb (zD_g DX5_sumOver 3 rfl) rfl hl (by decide) rfl (fun ls hl => ?_)
  have hL3 : ∀ (k3 : Int32 → Option (Int32)) (hk3 : ∀ (y8 : Int32), k3 y8 = some r → ∀ (ls : Array Slot), lv_has ls 4 [(2, .int y8)] → W p l e rm5_sumOver s m args below meth c s.heap [] 0 0 Q (F0 m 30 ls [])) (n3 : Nat) (y1 : Int32) (y2 : Int32), L5_sumOver_4 k3 numbers a_set n3 y1 y2 = some r → ∀ (ls : Array Slot), lv_has ls 4 [(0, .int a_set), (1, .ref ar1), (2, .int y1), (3, .int y2)] → W p l e rm5_sumOver s m args below meth c s.heap [] 0 0 Q (F0 m 4 ls []) := by
    intro k3 hk3 n3
    induction n3 with
    | zero =>
      intro y1 y2 hf
      cases hf
    | succ n3 ih3 =>
      intro y1 y2 hf ls hl
      rw [L5_sumOver_4] at hf
      refine lv_iload_n hx hb (zD_g DX5_sumOver 4 rfl) rfl (lv_at hl 3 rfl) ?_
      refine lv_aload_n hx hb (zD_g DX5_sumOver 5 rfl) rfl (lv_at hl 1 rfl) ?_
      refine va_alen (v := (8 : Int32)) hx hb hK.1 hP 0 0 rfl rfl rfl (zD_g DX5_sumOver 6 rfl) ?_
      refine lv_icmp_ge (tgt := 30) hx hb (zD_g DX5_sumOver 7 rfl) (by decide) (fun c4 => ?_) (fun c4 => ?_)
      · replace hf := z_t c4 hf
        exact hk3 _ hf ls (lv_sub hl [2] rfl)
      · replace hf := z_f c4 hf
        refine lv_iload_n hx hb (zD_g DX5_sumOver 8 rfl) rfl (lv_at hl 0 rfl) ?_
        refine lv_iload_n hx hb (zD_g DX5_sumOver 9 rfl) rfl (lv_at hl 3 rfl) ?_
        refine lv_ishr hx hb (zD_g DX5_sumOver 10 rfl) ?_
        refine lv_iconst (v := (1 : Int32)) hx hb (zD_g DX5_sumOver 11 rfl) (by decide) ?_
        refine lv_iand hx hb (zD_g DX5_sumOver 12 rfl) ?_
        refine lv_if_eq (tgt := 24) hx hb (zD_g DX5_sumOver 13 rfl) (by decide) (fun c5 => ?_) (fun c5 => ?_)
        · replace hf := z_t c5 hf
          refine lv_iinc (v := y2 + 1) (lv' := [(3, .int (y2 + 1)), (0, .int a_set), (1, .ref ar1), (2, .int y1)]) (k := 3) hx hb (zD_g DX5_sumOver 20 rfl) hl rfl rfl (by decide) rfl (fun ls hl => ?_)
          refine lv_goto (tgt := 4) hx hb (zD_g DX5_sumOver 21 rfl) (by decide) ?_
          exact ih3 _ _ hf ls (lv_sub hl [1, 2, 3, 0] rfl)
        · replace hf := z_f c5 hf
          refine lv_iload_n hx hb (zD_g DX5_sumOver 14 rfl) rfl (lv_at hl 2 rfl) ?_
          refine lv_aload_n hx hb (zD_g DX5_sumOver 15 rfl) rfl (lv_at hl 1 rfl) ?_
          refine lv_iload_n hx hb (zD_g DX5_sumOver 16 rfl) rfl (lv_at hl 3 rfl) ?_
          obtain ⟨h6, hf⟩ := zg_s hf
          refine z_iald (k := y2.toNatClampNeg) hx hb hK.1 hP 0 0 rfl rfl h6 rfl (zD_g DX5_sumOver 17 rfl) ?_
          refine lv_iadd hx hb (zD_g DX5_sumOver 18 rfl) ?_
          refine lv_topi (fun x7 ex7 => ?_)
          replace hf := zl_s hf x7 ex7
          refine lv_istore_n (lv' := [(2, .int x7), (0, .int a_set), (1, .ref ar1), (3, .int y2)]) hx hb (zD_g DX5_sumOver 19 rfl) rfl hl (by decide) rfl (fun ls hl => ?_)
          refine lv_iinc (v := y2 + 1) (lv' := [(3, .int (y2 + 1)), (2, .int x7), (0, .int a_set), (1, .ref ar1)]) (k := 3) hx hb (zD_g DX5_sumOver 20 rfl) hl rfl rfl (by decide) rfl (fun ls hl => ?_)
          refine lv_goto (tgt := 4) hx hb (zD_g DX5_sumOver 21 rfl) (by decide) ?_
          exact ih3 _ _ hf ls (lv_sub hl [2, 3, 1, 0] rfl)
  refine hL3 _ (fun y8 hf ls hl => ?_) _ _ _ hf ls (lv_sub hl [2, 3, 1, 0] rfl)
  refine lv_iload_n hx hb (zD_g DX5_sumOver 22 rfl) rfl (lv_at hl 0 rfl) ?_
  cases hf
  exact hret _ _ (zD_g DX5_sumOver 23 rfl)
abbrev dlX4_hasRoom : List (Nat × Instr × Nat) := [(0, .iload_n 2, 1), (1, .aload_n 0, 1), (2, .getfield 9, 3), (5, .invokestatic 149, 3), (8, .aload_n 0, 1), (9, .getfield 36, 3), (12, .iload_n 1, 1), (13, .iaload, 1), (14, .if_icmp .gt 7, 3), (17, .iconst 1, 1), (18, .goto 4, 3), (21, .iconst 0, 1), (22, .ireturn, 1)]
theorem DX4_hasRoom : zD cX4_hasRoom dlX4_hasRoom = true := by decide +kernel
set_option maxRecDepth 20000 in
theorem ggX4_hasRoom_X5_sumOver : GoodIn wsX4_hasRoom wsX5_sumOver := goodIn_r _ [5] (by decide +kernel) (by decide +kernel)
set_option maxRecDepth 20000 in
theorem gX4_hasRoom_X5_sumOver_n149 : GoodIn wsX4_hasRoom (wsX5_sumOver) := ggX4_hasRoom_X5_sumOver
theorem hd4_hasRoom : yX4_hasRoom.cls = RX4 ∧ yX4_hasRoom.cls ≠ "java/lang/invoke/MethodHandle" ∧ yX4_hasRoom.cls ≠ "java/lang/invoke/VarHandle" ∧ (parseMethodDescriptor yX4_hasRoom.desc).map (fun d => d.parameters.length) = some 2 := by decide +kernel
abbrev rm4_hasRoom : Room := { frames := 1, cells := 0, slots := 0, locals := 23 }
theorem in4_hasRoom_4 : ∀ w ∈ wsX40, w ∈ wsX4_hasRoom := fun w h => List.mem_cons_of_mem _ (List.mem_append_right _ h)
set_option maxHeartbeats 4000000 in
set_option maxRecDepth 100000 in
theorem c4_hasRoom {l : Launch} {D : va_G} {cI cZ cB : ClassId} {q : Nat → Nat} {things : Int32} {gifts : Int32} {days : Int32} {size : Nat → Int32} {weight : Nat → Int32} {sound : Nat → Int32} {harm : Nat → Int32} {in_ : Nat → Int32} {kind : Nat → Int32} {owner : Nat → Int32} {empty : Nat → Int32} {room : Nat → Int32} {told : Nat → Int32} {gate : Nat → Int32} {ear : Nat → Int32} {scale : Nat → Int32} {lost : Nat → Int32} {watch : Nat → Int32} {moments : Int32} {kept : Nat → Int32} {a_gift : Int32} {a_set : Int32} {r : Int32}  (hf : f4_hasRoom size room a_gift a_set = some r) : Met l yX4_hasRoom wsX4_hasRoom rm4_hasRoom (zPp D cI cZ cB [.ref (q 0), .int a_gift, .int a_set] (cWar cI q things gifts days size weight sound harm in_ kind owner empty room told gate ear scale lost watch moments kept)) (zQp (some (.int r))) 0 0 (fun _ => False) := by
  unfold f4_hasRoom at hf
  refine z_pureZ RX4 (by decide +kernel) rfl rfl (Nat.le_of_ble_eq_true rfl) ?_
  intro p e s m args below meth c Q ls hx hb hml hown hts hK hP hret hl
  have hl : lv_has ls 3 [(0, .ref (q 0)), (1, .int a_gift), (2, .int a_set)] := hl
  refine lv_iload_n hx hb (zD_g DX4_hasRoom 0 rfl) rfl (lv_at hl 2 rfl) ?_
  refine lv_aload_n hx hb (zD_g DX4_hasRoom 1 rfl) rfl (lv_at hl 0 rfl) ?_
  refine va_get (D := D) (ci := 3) (v := .ref (q 1)) (C := RX4) (T := TX4) (N := 19) hx hb hts in4_hasRoom_4 hown hK.1 hP 0 rfl rfl 3 (by decide) (hts _ (List.mem_of_getElem? (i := 1) rfl)) (fun _ h9 => h9) rfl (zD_g DX4_hasRoom 2 rfl) ?_
  obtain ⟨r1, hc2, hf⟩ := zb1_s hf
  refine z_Np (As := [.int a_set, .ref (q 1)]) (rest := []) ⟨hx, hb, hml, hown, hts⟩ hK (c5_sumOver (numbers := size) (ar1 := (q 1)) hc2) ⟨va_cnB (own := RX4) (host := RX5) (index := 149) (y := yX5_sumOver) 2 hts gX4_hasRoom_X5_sumOver_n149 rfl rfl rfl (hK.2 (RX4, 149, yX5_sumOver) (List.mem_of_getElem? (i := 10) rfl)) (hts _ (List.mem_of_getElem? (i := 4) rfl)) hd5_sumOver ⟨Nat.le_of_ble_eq_true rfl, Nat.le_of_ble_eq_true rfl⟩, (hts _ (List.mem_of_getElem? (i := 3) rfl)), trivial⟩ (hP.sub [1] rfl) rfl hl.1 rfl rfl (Nat.le_of_ble_eq_true rfl) (zD_g DX4_hasRoom 3 rfl) ⟨Nat.zero_le _, Nat.zero_le _⟩ ?_
  refine lv_aload_n hx hb (zD_g DX4_hasRoom 4 rfl) rfl (lv_at hl 0 rfl) ?_
  refine va_get (D := D) (ci := 3) (v := .ref (q 9)) (C := RX4) (T := TX4) (N := 19) hx hb hts in4_hasRoom_4 hown hK.1 hP 0 rfl rfl 11 (by decide) (hts _ (List.mem_of_getElem? (i := 2) rfl)) (fun _ h9 => h9) rfl (zD_g DX4_hasRoom 5 rfl) ?_
  refine lv_iload_n hx hb (zD_g DX4_hasRoom 6 rfl) rfl (lv_at hl 1 rfl) ?_
  obtain ⟨h3, hf⟩ := zg_s hf
  refine z_iald (k := a_gift.toNatClampNeg) hx hb hK.1 hP 9 0 rfl rfl h3 rfl (zD_g DX4_hasRoom 7 rfl) ?_
  refine lv_icmp_gt (tgt := 21) hx hb (zD_g DX4_hasRoom 8 rfl) (by decide) (fun c4 => ?_) (fun c4 => ?_)
  · replace hf := z_t c4 hf
    refine lv_iconst (v := (0 : Int32)) hx hb (zD_g DX4_hasRoom 11 rfl) (by decide) ?_
    cases hf
    exact hret _ _ rfl (zD_g DX4_hasRoom 12 rfl)
  · replace hf := z_f c4 hf
    refine lv_iconst (v := (1 : Int32)) hx hb (zD_g DX4_hasRoom 9 rfl) (by decide) ?_
    refine lv_goto (tgt := 22) hx hb (zD_g DX4_hasRoom 10 rfl) (by decide) ?_
    cases hf
    exact hret _ _ rfl (zD_g DX4_hasRoom 12 rfl)
abbrev dlX2_keep : List (Nat × Instr × Nat) := [(0, .aload_n 0, 1), (1, .getfield 11, 3), (4, .bipush 8, 2), (6, .if_icmp .lt 25, 3), (9, .aload_n 0, 1), (10, .getfield 15, 3), (13, .bipush 17, 2), (15, .aload_n 0, 1), (16, .getfield 15, 3), (19, .iconst 0, 1), (20, .bipush 119, 2), (22, .invokestatic 19, 3), (25, .aload_n 0, 1), (26, .bipush 7, 2), (28, .putfield 11, 3), (31, .aload_n 0, 1), (32, .getfield 11, 3), (35, .bipush 17, 2), (37, .imul, 1), (38, .istore 5, 2), (40, .aload_n 1, 1), (41, .iconst 0, 1), (42, .aload_n 0, 1), (43, .getfield 15, 3), (46, .iload 5, 2), (48, .bipush 6, 2), (50, .invokestatic 19, 3), (53, .aload_n 2, 1), (54, .iconst 0, 1), (55, .aload_n 0, 1), (56, .getfield 15, 3), (59, .iload 5, 2), (61, .bipush 6, 2), (63, .iadd, 1), (64, .bipush 8, 2), (66, .invokestatic 19, 3), (69, .aload_n 3, 1), (70, .iconst 0, 1), (71, .aload_n 0, 1), (72, .getfield 15, 3), (75, .iload 5, 2), (77, .bipush 14, 2), (79, .iadd, 1), (80, .iconst 2, 1), (81, .invokestatic 19, 3), (84, .aload_n 0, 1), (85, .getfield 15, 3), (88, .iload 5, 2), (90, .bipush 16, 2), (92, .iadd, 1), (93, .iload 4, 2), (95, .iastore, 1), (96, .aload_n 0, 1), (97, .dup, 1), (98, .getfield 11, 3), (101, .iconst 1, 1), (102, .iadd, 1), (103, .putfield 11, 3), (106, .return_, 1)]
theorem DX2_keep : zD cX2_keep dlX2_keep = true := by decide +kernel
theorem hd2_keep : yX2_keep.cls = RX2 ∧ yX2_keep.cls ≠ "java/lang/invoke/MethodHandle" ∧ yX2_keep.cls ≠ "java/lang/invoke/VarHandle" ∧ (parseMethodDescriptor yX2_keep.desc).map (fun d => d.parameters.length) = some 4 := by decide +kernel
abbrev rm2_keep : Room := { frames := 1, cells := 0, slots := 0, locals := 60 }
theorem in2_keep_2 : ∀ w ∈ wsX20, w ∈ wsX2_keep := fun w h => List.mem_cons_of_mem _ (List.mem_append_right _ h)
set_option maxHeartbeats 4000000 in
set_option maxRecDepth 100000 in
theorem c2_keep {l : Launch} {D : va_G} {cI cZ cB : ClassId} {q : Nat → Nat} {ar0 : Nat} {ar1 : Nat} {ar2 : Nat} {sz : Nat} {moments : Int32} {kept : Nat → Int32} {p_owner : Nat → Int32} {p_in : Nat → Int32} {p_lost : Nat → Int32} {a_days : Int32}  {d_moments : Int32} {d_kept : Nat → Int32} (hf : f2_keep moments kept p_owner p_in p_lost a_days = some (d_moments, d_kept)) : Met l yX2_keep wsX2_keep rm2_keep (zPm D cI cZ cB [.ref (q 0), .ref ar0, .ref ar1, .ref ar2, .int a_days] sz (zcat [(cPast cI q moments kept), (cArr cI ar0 6 p_owner), (cArr cI ar1 8 p_in), (cArr cI ar2 2 p_lost)])) (zQm D none (zcat [(cPast cI q d_moments d_kept), (cArr cI ar0 6 p_owner), (cArr cI ar1 8 p_in), (cArr cI ar2 2 p_lost)]) (va_A (zcat [(cPast cI q moments kept), (cArr cI ar0 6 p_owner), (cArr cI ar1 8 p_in), (cArr cI ar2 2 p_lost)]) sz)) 0 0 (va_A (zcat [(cPast cI q moments kept), (cArr cI ar0 6 p_owner), (cArr cI ar1 8 p_in), (cArr cI ar2 2 p_lost)]) sz) := by
  unfold f2_keep at hf
  refine z_mutV RX2 (by decide +kernel) rfl rfl (Nat.le_of_ble_eq_true rfl) ?_
  intro p e s m args below meth c Q A ls hx hb hml hown hts hK hP hD hS hA hret hl
  have hl : lv_has ls 6 [(0, .ref (q 0)), (1, .ref ar0), (2, .ref ar1), (3, .ref ar2), (4, .int a_days)] := hl
  refine lv_aload_n hx hb (zD_g DX2_keep 0 rfl) rfl (lv_at hl 0 rfl) ?_
  refine va_get (D := D) (ci := 1) (v := .int moments) (C := RX2) (T := TX2) (N := 2) hx hb hts in2_keep_2 hown hK.1 hP 0 rfl rfl 0 (by decide) (hts _ (List.mem_of_getElem? (i := 1) rfl)) (fun _ h9 => h9) rfl (zD_g DX2_keep 1 rfl) ?_
  refine lv_bipush (v := (8 : Int32)) hx hb (zD_g DX2_keep 2 rfl) (by decide) ?_
  obtain ⟨moments_2, kept_3, hr10, hf⟩ := zb2_s hf
  have hJ10 : ∀ (H : Heap) (locs : List Loc), va_P D vwCl (zcat [(cPast cI q moments_2 kept_3), (cArr cI ar0 6 p_owner), (cArr cI ar1 8 p_in), (cArr cI ar2 2 p_lost)]) H → va_D A (zcat [(cPast cI q moments_2 kept_3), (cArr cI ar0 6 p_owner), (cArr cI ar1 8 p_in), (cArr cI ar2 2 p_lost)]) → va_S A s.heap H locs → ∀ (ls : Array Slot), lv_has ls 6 [(0, .ref (q 0)), (1, .ref ar0), (2, .ref ar1), (3, .ref ar2), (4, .int a_days)] → W p l e rm2_keep s m args below meth c H locs 0 0 Q (F0 m 31 ls []) := by
    intro H locs hP hD hS ls hl
    refine lv_aload_n hx hb (zD_g DX2_keep 15 rfl) rfl (lv_at hl 0 rfl) ?_
    refine va_get (D := D) (ci := 1) (v := .int moments_2) (C := RX2) (T := TX2) (N := 2) hx hb hts in2_keep_2 hown hK.1 hP 0 rfl rfl 0 (by decide) (hts _ (List.mem_of_getElem? (i := 1) rfl)) (fun _ h9 => h9) rfl (zD_g DX2_keep 16 rfl) ?_
    refine lv_bipush (v := (17 : Int32)) hx hb (zD_g DX2_keep 17 rfl) (by decide) ?_
    refine lv_imul hx hb (zD_g DX2_keep 18 rfl) ?_
    refine lv_topi (fun x4 ex4 => ?_)
    replace hf := zl_s hf x4 ex4
    refine lv_istore (lv' := [(5, .int x4), (0, .ref (q 0)), (1, .ref ar0), (2, .ref ar1), (3, .ref ar2), (4, .int a_days)]) hx hb (zD_g DX2_keep 19 rfl) hl (by decide) rfl (fun ls hl => ?_)
    refine lv_aload_n hx hb (zD_g DX2_keep 20 rfl) rfl (lv_at hl 2 rfl) ?_
    refine lv_iconst (v := (0 : Int32)) hx hb (zD_g DX2_keep 21 rfl) (by decide) ?_
    refine lv_aload_n hx hb (zD_g DX2_keep 22 rfl) rfl (lv_at hl 1 rfl) ?_
    refine va_get (D := D) (ci := 1) (v := .ref (q 1)) (C := RX2) (T := TX2) (N := 2) hx hb hts in2_keep_2 hown hK.1 hP 0 rfl rfl 1 (by decide) (hts _ (List.mem_of_getElem? (i := 2) rfl)) (fun _ h9 => h9) rfl (zD_g DX2_keep 23 rfl) ?_
    refine lv_iload hx hb (zD_g DX2_keep 24 rfl) (lv_at hl 0 rfl) ?_
    refine lv_bipush (v := (6 : Int32)) hx hb (zD_g DX2_keep 25 rfl) (by decide) ?_
    obtain ⟨hc5, hf⟩ := zgc_s hf
    refine z_copyi (S := 0) (P := (x4).toNatClampNeg) (N := 6) (ws' := (zcat [(cPast cI q moments_2 (va_cpy p_owner kept_3 0 ((x4).toNatClampNeg) 6)), (cArr cI ar0 6 p_owner), (cArr cI ar1 8 p_in), (cArr cI ar2 2 p_lost)])) hx hb (hml.trans hl.1.symm) hown (hts _ (List.mem_of_getElem? (i := 3) rfl)) (hts _ (List.mem_of_getElem? (i := 4) rfl)) (hts _ (List.mem_of_getElem? (i := 5) rfl)) (hts _ (List.mem_of_getElem? (i := 6) rfl)) hK.1 hP hD hS 2 1 0 0 rfl rfl rfl rfl rfl hc5 rfl rfl rfl rfl (Nat.le_of_ble_eq_true rfl) (Nat.le_of_ble_eq_true rfl) (zD_g DX2_keep 26 rfl) (fun H locs hP hD hS => ?_)
    refine lv_aload_n hx hb (zD_g DX2_keep 27 rfl) rfl (lv_at hl 3 rfl) ?_
    refine lv_iconst (v := (0 : Int32)) hx hb (zD_g DX2_keep 28 rfl) (by decide) ?_
    refine lv_aload_n hx hb (zD_g DX2_keep 29 rfl) rfl (lv_at hl 1 rfl) ?_
    refine va_get (D := D) (ci := 1) (v := .ref (q 1)) (C := RX2) (T := TX2) (N := 2) hx hb hts in2_keep_2 hown hK.1 hP 0 rfl rfl 1 (by decide) (hts _ (List.mem_of_getElem? (i := 2) rfl)) (fun _ h9 => h9) rfl (zD_g DX2_keep 30 rfl) ?_
    refine lv_iload hx hb (zD_g DX2_keep 31 rfl) (lv_at hl 0 rfl) ?_
    refine lv_bipush (v := (6 : Int32)) hx hb (zD_g DX2_keep 32 rfl) (by decide) ?_
    refine lv_iadd hx hb (zD_g DX2_keep 33 rfl) ?_
    refine lv_bipush (v := (8 : Int32)) hx hb (zD_g DX2_keep 34 rfl) (by decide) ?_
    obtain ⟨hc6, hf⟩ := zgc_s hf
    refine z_copyi (S := 0) (P := ((x4 + (6 : Int32))).toNatClampNeg) (N := 8) (ws' := (zcat [(cPast cI q moments_2 (va_cpy p_in (va_cpy p_owner kept_3 0 ((x4).toNatClampNeg) 6) 0 (((x4 + (6 : Int32))).toNatClampNeg) 8)), (cArr cI ar0 6 p_owner), (cArr cI ar1 8 p_in), (cArr cI ar2 2 p_lost)])) hx hb (hml.trans hl.1.symm) hown (hts _ (List.mem_of_getElem? (i := 3) rfl)) (hts _ (List.mem_of_getElem? (i := 4) rfl)) (hts _ (List.mem_of_getElem? (i := 5) rfl)) (hts _ (List.mem_of_getElem? (i := 6) rfl)) hK.1 hP hD hS 3 1 0 0 rfl rfl rfl rfl rfl hc6 rfl rfl rfl rfl (Nat.le_of_ble_eq_true rfl) (Nat.le_of_ble_eq_true rfl) (zD_g DX2_keep 35 rfl) (fun H locs hP hD hS => ?_)
    refine lv_aload_n hx hb (zD_g DX2_keep 36 rfl) rfl (lv_at hl 4 rfl) ?_
    refine lv_iconst (v := (0 : Int32)) hx hb (zD_g DX2_keep 37 rfl) (by decide) ?_
    refine lv_aload_n hx hb (zD_g DX2_keep 38 rfl) rfl (lv_at hl 1 rfl) ?_
    refine va_get (D := D) (ci := 1) (v := .ref (q 1)) (C := RX2) (T := TX2) (N := 2) hx hb hts in2_keep_2 hown hK.1 hP 0 rfl rfl 1 (by decide) (hts _ (List.mem_of_getElem? (i := 2) rfl)) (fun _ h9 => h9) rfl (zD_g DX2_keep 39 rfl) ?_
    refine lv_iload hx hb (zD_g DX2_keep 40 rfl) (lv_at hl 0 rfl) ?_
    refine lv_bipush (v := (14 : Int32)) hx hb (zD_g DX2_keep 41 rfl) (by decide) ?_
    refine lv_iadd hx hb (zD_g DX2_keep 42 rfl) ?_
    refine lv_iconst (v := (2 : Int32)) hx hb (zD_g DX2_keep 43 rfl) (by decide) ?_
    obtain ⟨hc7, hf⟩ := zgc_s hf
    refine z_copyi (S := 0) (P := ((x4 + (14 : Int32))).toNatClampNeg) (N := 2) (ws' := (zcat [(cPast cI q moments_2 (va_cpy p_lost (va_cpy p_in (va_cpy p_owner kept_3 0 ((x4).toNatClampNeg) 6) 0 (((x4 + (6 : Int32))).toNatClampNeg) 8) 0 (((x4 + (14 : Int32))).toNatClampNeg) 2)), (cArr cI ar0 6 p_owner), (cArr cI ar1 8 p_in), (cArr cI ar2 2 p_lost)])) hx hb (hml.trans hl.1.symm) hown (hts _ (List.mem_of_getElem? (i := 3) rfl)) (hts _ (List.mem_of_getElem? (i := 4) rfl)) (hts _ (List.mem_of_getElem? (i := 5) rfl)) (hts _ (List.mem_of_getElem? (i := 6) rfl)) hK.1 hP hD hS 4 1 0 0 rfl rfl rfl rfl rfl hc7 rfl rfl rfl rfl (Nat.le_of_ble_eq_true rfl) (Nat.le_of_ble_eq_true rfl) (zD_g DX2_keep 44 rfl) (fun H locs hP hD hS => ?_)
    refine lv_aload_n hx hb (zD_g DX2_keep 45 rfl) rfl (lv_at hl 1 rfl) ?_
    refine va_get (D := D) (ci := 1) (v := .ref (q 1)) (C := RX2) (T := TX2) (N := 2) hx hb hts in2_keep_2 hown hK.1 hP 0 rfl rfl 1 (by decide) (hts _ (List.mem_of_getElem? (i := 2) rfl)) (fun _ h9 => h9) rfl (zD_g DX2_keep 46 rfl) ?_
    refine lv_iload hx hb (zD_g DX2_keep 47 rfl) (lv_at hl 0 rfl) ?_
    refine lv_bipush (v := (16 : Int32)) hx hb (zD_g DX2_keep 48 rfl) (by decide) ?_
    refine lv_iadd hx hb (zD_g DX2_keep 49 rfl) ?_
    refine lv_iload hx hb (zD_g DX2_keep 50 rfl) (lv_at hl 5 rfl) ?_
    obtain ⟨h8, hf⟩ := zg_s hf
    refine z_iast (k := (x4 + (16 : Int32)).toNatClampNeg) (ws' := (zcat [(cPast cI q moments_2 (upd (va_cpy p_lost (va_cpy p_in (va_cpy p_owner kept_3 0 ((x4).toNatClampNeg) 6) 0 (((x4 + (6 : Int32))).toNatClampNeg) 8) 0 (((x4 + (14 : Int32))).toNatClampNeg) 2) ((x4 + (16 : Int32)).toNatClampNeg) a_days)), (cArr cI ar0 6 p_owner), (cArr cI ar1 8 p_in), (cArr cI ar2 2 p_lost)])) hx hb hK.1 hP hD hS 1 0 rfl rfl h8 rfl rfl (zD_g DX2_keep 51 rfl) (fun H locs hP hD hS => ?_)
    refine lv_aload_n hx hb (zD_g DX2_keep 52 rfl) rfl (lv_at hl 1 rfl) ?_
    refine lv_dup hx hb (zD_g DX2_keep 53 rfl) rfl ?_
    refine va_get (D := D) (ci := 1) (v := .int moments_2) (C := RX2) (T := TX2) (N := 2) hx hb hts in2_keep_2 hown hK.1 hP 0 rfl rfl 0 (by decide) (hts _ (List.mem_of_getElem? (i := 1) rfl)) (fun _ h9 => h9) rfl (zD_g DX2_keep 54 rfl) ?_
    refine lv_iconst (v := (1 : Int32)) hx hb (zD_g DX2_keep 55 rfl) (by decide) ?_
    refine lv_iadd hx hb (zD_g DX2_keep 56 rfl) ?_
    refine lv_topi (fun x9 ex9 => ?_)
    replace hf := zl_s hf x9 ex9
    refine z_put (D := D) (ci := 1) (v := .int x9) (ty := .int) (C := RX2) (T := TX2) (N := 2) (ws' := (zcat [(cPast cI q x9 (upd (va_cpy p_lost (va_cpy p_in (va_cpy p_owner kept_3 0 ((x4).toNatClampNeg) 6) 0 (((x4 + (6 : Int32))).toNatClampNeg) 8) 0 (((x4 + (14 : Int32))).toNatClampNeg) 2) ((x4 + (16 : Int32)).toNatClampNeg) a_days)), (cArr cI ar0 6 p_owner), (cArr cI ar1 8 p_in), (cArr cI ar2 2 p_lost)])) hx hb hts in2_keep_2 tyX2 tyX2_ok nmX2 hown hK.1 hP hD hS 0 rfl rfl 0 (by decide) (hts _ (List.mem_of_getElem? (i := 1) rfl)) (fun _ h9 => h9) rfl (tyX2_ok 0 (by decide)) rfl rfl (Nat.le_of_ble_eq_true rfl) rfl (zD_g DX2_keep 57 rfl) (fun H locs hP hD hS => ?_)
    cases hf
    exact hret _ _ _ _ hP hD hS (zD_g DX2_keep 58 rfl)
  clear hf
  have hf := hr10
  refine lv_icmp_lt (tgt := 31) hx hb (zD_g DX2_keep 3 rfl) (by decide) (fun c1 => ?_) (fun c1 => ?_)
  · replace hf := z_t c1 hf
    cases hf
    exact hJ10 _ _ hP hD hS ls (lv_sub hl [0, 1, 2, 3, 4] rfl)
  · replace hf := z_f c1 hf
    refine lv_aload_n hx hb (zD_g DX2_keep 4 rfl) rfl (lv_at hl 0 rfl) ?_
    refine va_get (D := D) (ci := 1) (v := .ref (q 1)) (C := RX2) (T := TX2) (N := 2) hx hb hts in2_keep_2 hown hK.1 hP 0 rfl rfl 1 (by decide) (hts _ (List.mem_of_getElem? (i := 2) rfl)) (fun _ h9 => h9) rfl (zD_g DX2_keep 5 rfl) ?_
    refine lv_bipush (v := (17 : Int32)) hx hb (zD_g DX2_keep 6 rfl) (by decide) ?_
    refine lv_aload_n hx hb (zD_g DX2_keep 7 rfl) rfl (lv_at hl 0 rfl) ?_
    refine va_get (D := D) (ci := 1) (v := .ref (q 1)) (C := RX2) (T := TX2) (N := 2) hx hb hts in2_keep_2 hown hK.1 hP 0 rfl rfl 1 (by decide) (hts _ (List.mem_of_getElem? (i := 2) rfl)) (fun _ h9 => h9) rfl (zD_g DX2_keep 8 rfl) ?_
    refine lv_iconst (v := (0 : Int32)) hx hb (zD_g DX2_keep 9 rfl) (by decide) ?_
    refine lv_bipush (v := (119 : Int32)) hx hb (zD_g DX2_keep 10 rfl) (by decide) ?_
    obtain ⟨hc11, hf⟩ := zgc_s hf
    refine z_copyi (S := 17) (P := 0) (N := 119) (ws' := (zcat [(cPast cI q moments (va_cpy kept kept 17 0 119)), (cArr cI ar0 6 p_owner), (cArr cI ar1 8 p_in), (cArr cI ar2 2 p_lost)])) hx hb (hml.trans hl.1.symm) hown (hts _ (List.mem_of_getElem? (i := 3) rfl)) (hts _ (List.mem_of_getElem? (i := 4) rfl)) (hts _ (List.mem_of_getElem? (i := 5) rfl)) (hts _ (List.mem_of_getElem? (i := 6) rfl)) hK.1 hP hD hS 1 1 0 0 rfl rfl rfl rfl rfl hc11 rfl rfl rfl rfl (Nat.le_of_ble_eq_true rfl) (Nat.le_of_ble_eq_true rfl) (zD_g DX2_keep 11 rfl) (fun H locs hP hD hS => ?_)
    refine lv_aload_n hx hb (zD_g DX2_keep 12 rfl) rfl (lv_at hl 0 rfl) ?_
    refine lv_bipush (v := (7 : Int32)) hx hb (zD_g DX2_keep 13 rfl) (by decide) ?_
    refine z_put (D := D) (ci := 1) (v := .int (7 : Int32)) (ty := .int) (C := RX2) (T := TX2) (N := 2) (ws' := (zcat [(cPast cI q (7 : Int32) (va_cpy kept kept 17 0 119)), (cArr cI ar0 6 p_owner), (cArr cI ar1 8 p_in), (cArr cI ar2 2 p_lost)])) hx hb hts in2_keep_2 tyX2 tyX2_ok nmX2 hown hK.1 hP hD hS 0 rfl rfl 0 (by decide) (hts _ (List.mem_of_getElem? (i := 1) rfl)) (fun _ h9 => h9) rfl (tyX2_ok 0 (by decide)) rfl rfl (Nat.le_of_ble_eq_true rfl) rfl (zD_g DX2_keep 14 rfl) (fun H locs hP hD hS => ?_)
    cases hf
    exact hJ10 _ _ hP hD hS ls (lv_sub hl [0, 1, 2, 3, 4] rfl)
abbrev dlX4_remember : List (Nat × Instr × Nat) := [(0, .aload_n 0, 1), (1, .getfield 60, 3), (4, .aload_n 0, 1), (5, .getfield 30, 3), (8, .aload_n 0, 1), (9, .getfield 24, 3), (12, .aload_n 0, 1), (13, .getfield 51, 3), (16, .aload_n 0, 1), (17, .getfield 74, 3), (20, .invokevirtual 136, 3), (23, .return_, 1)]
theorem DX4_remember : zD cX4_remember dlX4_remember = true := by decide +kernel
set_option maxRecDepth 20000 in
theorem ggX4_remember_X2_keep : GoodIn wsX4_remember wsX2_keep := goodIn_r _ [10, 11, 12, 13, 14, 15, 16, 36, 37] (by decide +kernel) (by decide +kernel)
set_option maxRecDepth 20000 in
theorem gX4_remember_X2_keep : GoodIn wsX4_remember (wsV RX4 136 RX2 yX2_keep wsX2_keep) := goodIn_app (goodIn_of _ (by decide +kernel)) ggX4_remember_X2_keep
theorem hd4_remember : yX4_remember.cls = RX4 ∧ yX4_remember.cls ≠ "java/lang/invoke/MethodHandle" ∧ yX4_remember.cls ≠ "java/lang/invoke/VarHandle" ∧ (parseMethodDescriptor yX4_remember.desc).map (fun d => d.parameters.length) = some 0 := by decide +kernel
abbrev rm4_remember : Room := { frames := 2, cells := 0, slots := 0, locals := 85 }
theorem in4_remember_4 : ∀ w ∈ wsX40, w ∈ wsX4_remember := fun w h => List.mem_cons_of_mem _ (List.mem_append_left _ (List.mem_append_right _ h))
set_option maxHeartbeats 4000000 in
set_option maxRecDepth 100000 in
theorem c4_remember {l : Launch} {D : va_G} {cI cZ cB : ClassId} {q : Nat → Nat} {sz : Nat} {things : Int32} {gifts : Int32} {days : Int32} {size : Nat → Int32} {weight : Nat → Int32} {sound : Nat → Int32} {harm : Nat → Int32} {in_ : Nat → Int32} {kind : Nat → Int32} {owner : Nat → Int32} {empty : Nat → Int32} {room : Nat → Int32} {told : Nat → Int32} {gate : Nat → Int32} {ear : Nat → Int32} {scale : Nat → Int32} {lost : Nat → Int32} {watch : Nat → Int32} {moments : Int32} {kept : Nat → Int32}   {d_moments : Int32} {d_kept : Nat → Int32} (hf : f4_remember days in_ owner lost moments kept = some (d_moments, d_kept)) : Met l yX4_remember wsX4_remember rm4_remember (zPm D cI cZ cB [.ref (q 0)] sz (cWar cI q things gifts days size weight sound harm in_ kind owner empty room told gate ear scale lost watch moments kept)) (zQm D none (cWar cI q things gifts days size weight sound harm in_ kind owner empty room told gate ear scale lost watch d_moments d_kept) (va_A (cWar cI q things gifts days size weight sound harm in_ kind owner empty room told gate ear scale lost watch moments kept) sz)) 0 0 (va_A (cWar cI q things gifts days size weight sound harm in_ kind owner empty room told gate ear scale lost watch moments kept) sz) := by
  unfold f4_remember at hf
  refine z_mutV RX4 (by decide +kernel) rfl rfl (Nat.le_of_ble_eq_true rfl) ?_
  intro p e s m args below meth c Q A ls hx hb hml hown hts hK hP hD hS hA hret hl
  have hl : lv_has ls 1 [(0, .ref (q 0))] := hl
  refine lv_aload_n hx hb (zD_g DX4_remember 0 rfl) rfl (lv_at hl 0 rfl) ?_
  refine va_get (D := D) (ci := 3) (v := .ref (q 16)) (C := RX4) (T := TX4) (N := 19) hx hb hts in4_remember_4 hown hK.1 hP 0 rfl rfl 18 (by decide) (hts _ (List.mem_of_getElem? (i := 1) rfl)) (fun _ h9 => h9) rfl (zD_g DX4_remember 1 rfl) ?_
  refine lv_aload_n hx hb (zD_g DX4_remember 2 rfl) rfl (lv_at hl 0 rfl) ?_
  refine va_get (D := D) (ci := 3) (v := .ref (q 7)) (C := RX4) (T := TX4) (N := 19) hx hb hts in4_remember_4 hown hK.1 hP 0 rfl rfl 9 (by decide) (hts _ (List.mem_of_getElem? (i := 2) rfl)) (fun _ h9 => h9) rfl (zD_g DX4_remember 3 rfl) ?_
  refine lv_aload_n hx hb (zD_g DX4_remember 4 rfl) rfl (lv_at hl 0 rfl) ?_
  refine va_get (D := D) (ci := 3) (v := .ref (q 5)) (C := RX4) (T := TX4) (N := 19) hx hb hts in4_remember_4 hown hK.1 hP 0 rfl rfl 7 (by decide) (hts _ (List.mem_of_getElem? (i := 3) rfl)) (fun _ h9 => h9) rfl (zD_g DX4_remember 5 rfl) ?_
  refine lv_aload_n hx hb (zD_g DX4_remember 6 rfl) rfl (lv_at hl 0 rfl) ?_
  refine va_get (D := D) (ci := 3) (v := .ref (q 14)) (C := RX4) (T := TX4) (N := 19) hx hb hts in4_remember_4 hown hK.1 hP 0 rfl rfl 16 (by decide) (hts _ (List.mem_of_getElem? (i := 4) rfl)) (fun _ h9 => h9) rfl (zD_g DX4_remember 7 rfl) ?_
  refine lv_aload_n hx hb (zD_g DX4_remember 8 rfl) rfl (lv_at hl 0 rfl) ?_
  refine va_get (D := D) (ci := 3) (v := .int days) (C := RX4) (T := TX4) (N := 19) hx hb hts in4_remember_4 hown hK.1 hP 0 rfl rfl 2 (by decide) (hts _ (List.mem_of_getElem? (i := 5) rfl)) (fun _ h9 => h9) rfl (zD_g DX4_remember 9 rfl) ?_
  obtain ⟨moments_1, kept_2, hc3, hf⟩ := zb2_s hf
  refine z_Vm (As := [.ref (q 7), .ref (q 5), .ref (q 14), .int days]) (rest := []) (ws' := (cWar cI q things gifts days size weight sound harm in_ kind owner empty room told gate ear scale lost watch moments_1 kept_2)) ⟨hx, hb, hml, hown, hts⟩ hK (c2_keep (moments := moments) (kept := kept) (q := fun j => q (16 + j)) (p_owner := owner) (ar0 := (q 7)) (p_in := in_) (ar1 := (q 5)) (p_lost := lost) (ar2 := (q 14)) hc3) (cwV 4 hts gX4_remember_X2_keep rfl rfl rfl hd2_keep ⟨Nat.le_of_ble_eq_true rfl, Nat.le_of_ble_eq_true rfl⟩) hP hD hS hA 18 [16, 17, 7, 5, 14] [0, 1, 2, 3, 4, 6, 8, 9, 10, 11, 12, 13, 15] [0, 1, 2, 3, 4, 16, 5, 15, 6, 7, 8, 9, 10, 11, 17, 12, 13, 14] (by decide +kernel) rfl rfl rfl rfl rfl rfl rfl hl.1 rfl rfl (Nat.le_of_ble_eq_true rfl) (zD_g DX4_remember 10 rfl) ⟨Nat.zero_le _, Nat.zero_le _⟩ (fun H locs hP hD hS => ?_)
  cases hf
  exact hret _ _ _ _ hP hD hS (zD_g DX4_remember 11 rfl)
abbrev dlX4_putIn : List (Nat × Instr × Nat) := [(0, .aload_n 0, 1), (1, .iload_n 1, 1), (2, .invokevirtual 98, 3), (5, .ifCond .eq 11, 3), (8, .aload_n 0, 1), (9, .iload_n 2, 1), (10, .invokevirtual 101, 3), (13, .ifCond .ne 6, 3), (16, .bipush (-2), 2), (18, .ireturn, 1), (19, .aload_n 0, 1), (20, .getfield 24, 3), (23, .iload_n 1, 1), (24, .iaload, 1), (25, .iconst (-1), 1), (26, .if_icmp .ne 20, 3), (29, .aload_n 0, 1), (30, .iload_n 2, 1), (31, .aload_n 0, 1), (32, .iload_n 2, 1), (33, .invokevirtual 104, 3), (36, .iconst 1, 1), (37, .iload_n 1, 1), (38, .ishl, 1), (39, .ior, 1), (40, .invokevirtual 108, 3), (43, .ifCond .ne 6, 3), (46, .bipush (-3), 2), (48, .ireturn, 1), (49, .aload_n 0, 1), (50, .invokevirtual 112, 3), (53, .aload_n 0, 1), (54, .getfield 24, 3), (57, .iload_n 1, 1), (58, .iload_n 2, 1), (59, .iastore, 1), (60, .iconst 1, 1), (61, .ireturn, 1)]
theorem DX4_putIn : zD cX4_putIn dlX4_putIn = true := by decide +kernel
set_option maxRecDepth 20000 in
theorem ggX4_putIn_X4_hasThing : GoodIn wsX4_putIn wsX4_hasThing := goodIn_r _ [6, 7, 8, 9, 10, 47, 48, 49, 50, 51, 52, 53, 54, 55, 56, 57, 58, 59, 60, 61, 62, 63, 64, 65] (by decide +kernel) (by decide +kernel)
set_option maxRecDepth 20000 in
theorem gX4_putIn_X4_hasThing : GoodIn wsX4_putIn (wsV RX4 98 RX4 yX4_hasThing wsX4_hasThing) := goodIn_app (goodIn_of _ (by decide +kernel)) ggX4_putIn_X4_hasThing
set_option maxRecDepth 20000 in
theorem ggX4_putIn_X4_hasGift : GoodIn wsX4_putIn wsX4_hasGift := goodIn_r _ [14, 15, 8, 9, 10, 47, 48, 49, 50, 51, 52, 53, 54, 55, 56, 57, 58, 59, 60, 61, 62, 63, 64, 65] (by decide +kernel) (by decide +kernel)
set_option maxRecDepth 20000 in
theorem gX4_putIn_X4_hasGift : GoodIn wsX4_putIn (wsV RX4 101 RX4 yX4_hasGift wsX4_hasGift) := goodIn_app (goodIn_of _ (by decide +kernel)) ggX4_putIn_X4_hasGift
set_option maxRecDepth 20000 in
theorem ggX4_putIn_X4_inside : GoodIn wsX4_putIn wsX4_inside := goodIn_r _ [19, 7, 1, 47, 48, 49, 50, 51, 52, 53, 54, 55, 56, 57, 58, 59, 60, 61, 62, 63, 64, 65] (by decide +kernel) (by decide +kernel)
set_option maxRecDepth 20000 in
theorem gX4_putIn_X4_inside : GoodIn wsX4_putIn (wsV RX4 104 RX4 yX4_inside wsX4_inside) := goodIn_app (goodIn_of _ (by decide +kernel)) ggX4_putIn_X4_inside
set_option maxRecDepth 20000 in
theorem ggX4_putIn_X4_hasRoom : GoodIn wsX4_putIn wsX4_hasRoom := goodIn_r _ [23, 24, 25, 26, 9, 27, 47, 48, 49, 50, 51, 52, 53, 54, 55, 56, 57, 58, 59, 60, 61, 62, 63, 64, 65] (by decide +kernel) (by decide +kernel)
set_option maxRecDepth 20000 in
theorem gX4_putIn_X4_hasRoom : GoodIn wsX4_putIn (wsV RX4 108 RX4 yX4_hasRoom wsX4_hasRoom) := goodIn_app (goodIn_of _ (by decide +kernel)) ggX4_putIn_X4_hasRoom
set_option maxRecDepth 20000 in
theorem ggX4_putIn_X4_remember : GoodIn wsX4_putIn wsX4_remember := goodIn_r _ [31, 32, 33, 1, 34, 35, 36, 37, 38, 39, 40, 41, 42, 43, 44, 45, 46, 47, 48, 49, 50, 51, 52, 53, 54, 55, 56, 57, 58, 59, 60, 61, 62, 63, 64, 65, 66, 67] (by decide +kernel) (by decide +kernel)
set_option maxRecDepth 20000 in
theorem gX4_putIn_X4_remember : GoodIn wsX4_putIn (wsV RX4 112 RX4 yX4_remember wsX4_remember) := goodIn_app (goodIn_of _ (by decide +kernel)) ggX4_putIn_X4_remember
theorem hd4_putIn : yX4_putIn.cls = RX4 ∧ yX4_putIn.cls ≠ "java/lang/invoke/MethodHandle" ∧ yX4_putIn.cls ≠ "java/lang/invoke/VarHandle" ∧ (parseMethodDescriptor yX4_putIn.desc).map (fun d => d.parameters.length) = some 2 := by decide +kernel
abbrev rm4_putIn : Room := { frames := 3, cells := 0, slots := 0, locals := 105 }
theorem in4_putIn_4 : ∀ w ∈ wsX40, w ∈ wsX4_putIn := fun w h => List.mem_cons_of_mem _ (List.mem_append_left _ (List.mem_append_right _ h))
set_option maxHeartbeats 4000000 in
set_option maxRecDepth 100000 in
theorem c4_putIn {l : Launch} {D : va_G} {cI cZ cB : ClassId} {q : Nat → Nat} {sz : Nat} {things : Int32} {gifts : Int32} {days : Int32} {size : Nat → Int32} {weight : Nat → Int32} {sound : Nat → Int32} {harm : Nat → Int32} {in_ : Nat → Int32} {kind : Nat → Int32} {owner : Nat → Int32} {empty : Nat → Int32} {room : Nat → Int32} {told : Nat → Int32} {gate : Nat → Int32} {ear : Nat → Int32} {scale : Nat → Int32} {lost : Nat → Int32} {watch : Nat → Int32} {moments : Int32} {kept : Nat → Int32} {a_thing : Int32} {a_gift : Int32} {r : Int32} {d_in_ : Nat → Int32} {d_moments : Int32} {d_kept : Nat → Int32} (hf : f4_putIn things gifts days size in_ owner room lost moments kept a_thing a_gift = some (r, d_in_, d_moments, d_kept)) : Met l yX4_putIn wsX4_putIn rm4_putIn (zPm D cI cZ cB [.ref (q 0), .int a_thing, .int a_gift] sz (cWar cI q things gifts days size weight sound harm in_ kind owner empty room told gate ear scale lost watch moments kept)) (zQm D (some (.int r)) (cWar cI q things gifts days size weight sound harm d_in_ kind owner empty room told gate ear scale lost watch d_moments d_kept) (va_A (cWar cI q things gifts days size weight sound harm in_ kind owner empty room told gate ear scale lost watch moments kept) sz)) 0 0 (va_A (cWar cI q things gifts days size weight sound harm in_ kind owner empty room told gate ear scale lost watch moments kept) sz) := by
  unfold f4_putIn at hf
  refine z_mutI RX4 (by decide +kernel) rfl rfl (Nat.le_of_ble_eq_true rfl) ?_
  intro p e s m args below meth c Q A ls hx hb hml hown hts hK hP hD hS hA hret hl
  have hl : lv_has ls 3 [(0, .ref (q 0)), (1, .int a_thing), (2, .int a_gift)] := hl
  refine lv_aload_n hx hb (zD_g DX4_putIn 0 rfl) rfl (lv_at hl 0 rfl) ?_
  refine lv_iload_n hx hb (zD_g DX4_putIn 1 rfl) rfl (lv_at hl 1 rfl) ?_
  obtain ⟨r1, hc2, hf⟩ := zb1_s hf
  refine z_Vp (As := [.int a_thing]) (rest := []) ⟨hx, hb, hml, hown, hts⟩ hK (c4_hasThing (things := things) (gifts := gifts) (days := days) (size := size) (weight := weight) (sound := sound) (harm := harm) (in_ := in_) (kind := kind) (owner := owner) (empty := empty) (room := room) (told := told) (gate := gate) (ear := ear) (scale := scale) (lost := lost) (watch := watch) (moments := moments) (kept := kept) (q := q) hc2) (cwV 1 hts gX4_putIn_X4_hasThing rfl rfl rfl hd4_hasThing ⟨Nat.le_of_ble_eq_true rfl, Nat.le_of_ble_eq_true rfl⟩) hP rfl rfl rfl rfl hl.1 rfl rfl (Nat.le_of_ble_eq_true rfl) (zD_g DX4_putIn 2 rfl) ⟨Nat.zero_le _, Nat.zero_le _⟩ ?_
  refine lv_if_eq (tgt := 16) hx hb (zD_g DX4_putIn 3 rfl) (by decide) (fun c3 => ?_) (fun c3 => ?_)
  · replace hf := z_t c3 hf
    refine lv_bipush (v := (-2 : Int32)) hx hb (zD_g DX4_putIn 8 rfl) (by decide) ?_
    cases hf
    exact hret _ _ _ _ hP hD hS (zD_g DX4_putIn 9 rfl)
  · replace hf := z_f c3 hf
    refine lv_aload_n hx hb (zD_g DX4_putIn 4 rfl) rfl (lv_at hl 0 rfl) ?_
    refine lv_iload_n hx hb (zD_g DX4_putIn 5 rfl) rfl (lv_at hl 2 rfl) ?_
    obtain ⟨r4, hc5, hf⟩ := zb1_s hf
    refine z_Vp (As := [.int a_gift]) (rest := []) ⟨hx, hb, hml, hown, hts⟩ hK (c4_hasGift (things := things) (gifts := gifts) (days := days) (size := size) (weight := weight) (sound := sound) (harm := harm) (in_ := in_) (kind := kind) (owner := owner) (empty := empty) (room := room) (told := told) (gate := gate) (ear := ear) (scale := scale) (lost := lost) (watch := watch) (moments := moments) (kept := kept) (q := q) hc5) (cwV 1 hts gX4_putIn_X4_hasGift rfl rfl rfl hd4_hasGift ⟨Nat.le_of_ble_eq_true rfl, Nat.le_of_ble_eq_true rfl⟩) hP rfl rfl rfl rfl hl.1 rfl rfl (Nat.le_of_ble_eq_true rfl) (zD_g DX4_putIn 6 rfl) ⟨Nat.zero_le _, Nat.zero_le _⟩ ?_
    refine lv_if_ne (tgt := 19) hx hb (zD_g DX4_putIn 7 rfl) (by decide) (fun c6 => ?_) (fun c6 => ?_)
    · replace hf := z_f c6 hf
      refine lv_aload_n hx hb (zD_g DX4_putIn 10 rfl) rfl (lv_at hl 0 rfl) ?_
      refine va_get (D := D) (ci := 3) (v := .ref (q 5)) (C := RX4) (T := TX4) (N := 19) hx hb hts in4_putIn_4 hown hK.1 hP 0 rfl rfl 7 (by decide) (hts _ (List.mem_of_getElem? (i := 1) rfl)) (fun _ h9 => h9) rfl (zD_g DX4_putIn 11 rfl) ?_
      refine lv_iload_n hx hb (zD_g DX4_putIn 12 rfl) rfl (lv_at hl 1 rfl) ?_
      obtain ⟨h7, hf⟩ := zg_s hf
      refine z_iald (k := a_thing.toNatClampNeg) hx hb hK.1 hP 5 0 rfl rfl h7 rfl (zD_g DX4_putIn 13 rfl) ?_
      refine lv_iconst (v := (-1 : Int32)) hx hb (zD_g DX4_putIn 14 rfl) (by decide) ?_
      refine lv_icmp_ne (tgt := 46) hx hb (zD_g DX4_putIn 15 rfl) (by decide) (fun c8 => ?_) (fun c8 => ?_)
      · replace hf := z_f c8 hf
        refine lv_bipush (v := (-3 : Int32)) hx hb (zD_g DX4_putIn 27 rfl) (by decide) ?_
        cases hf
        exact hret _ _ _ _ hP hD hS (zD_g DX4_putIn 28 rfl)
      · replace hf := z_t c8 hf
        refine lv_aload_n hx hb (zD_g DX4_putIn 16 rfl) rfl (lv_at hl 0 rfl) ?_
        refine lv_iload_n hx hb (zD_g DX4_putIn 17 rfl) rfl (lv_at hl 2 rfl) ?_
        refine lv_aload_n hx hb (zD_g DX4_putIn 18 rfl) rfl (lv_at hl 0 rfl) ?_
        refine lv_iload_n hx hb (zD_g DX4_putIn 19 rfl) rfl (lv_at hl 2 rfl) ?_
        obtain ⟨r9, hc10, hf⟩ := zb1_s hf
        refine z_Vp (As := [.int a_gift]) (rest := [.int a_gift, .ref (q 0)]) ⟨hx, hb, hml, hown, hts⟩ hK (c4_inside (things := things) (gifts := gifts) (days := days) (size := size) (weight := weight) (sound := sound) (harm := harm) (in_ := in_) (kind := kind) (owner := owner) (empty := empty) (room := room) (told := told) (gate := gate) (ear := ear) (scale := scale) (lost := lost) (watch := watch) (moments := moments) (kept := kept) (q := q) hc10) (cwV 1 hts gX4_putIn_X4_inside rfl rfl rfl hd4_inside ⟨Nat.le_of_ble_eq_true rfl, Nat.le_of_ble_eq_true rfl⟩) hP rfl rfl rfl rfl hl.1 rfl rfl (Nat.le_of_ble_eq_true rfl) (zD_g DX4_putIn 20 rfl) ⟨Nat.zero_le _, Nat.zero_le _⟩ ?_
        refine lv_iconst (v := (1 : Int32)) hx hb (zD_g DX4_putIn 21 rfl) (by decide) ?_
        refine lv_iload_n hx hb (zD_g DX4_putIn 22 rfl) rfl (lv_at hl 1 rfl) ?_
        refine lv_ishl hx hb (zD_g DX4_putIn 23 rfl) ?_
        refine lv_ior hx hb (zD_g DX4_putIn 24 rfl) ?_
        obtain ⟨r11, hc12, hf⟩ := zb1_s hf
        refine z_Vp (As := [.int a_gift, .int (r9 ||| ((1 : Int32) <<< (a_thing &&& 31)))]) (rest := []) ⟨hx, hb, hml, hown, hts⟩ hK (c4_hasRoom (things := things) (gifts := gifts) (days := days) (size := size) (weight := weight) (sound := sound) (harm := harm) (in_ := in_) (kind := kind) (owner := owner) (empty := empty) (room := room) (told := told) (gate := gate) (ear := ear) (scale := scale) (lost := lost) (watch := watch) (moments := moments) (kept := kept) (q := q) hc12) (cwV 2 hts gX4_putIn_X4_hasRoom rfl rfl rfl hd4_hasRoom ⟨Nat.le_of_ble_eq_true rfl, Nat.le_of_ble_eq_true rfl⟩) hP rfl rfl rfl rfl hl.1 rfl rfl (Nat.le_of_ble_eq_true rfl) (zD_g DX4_putIn 25 rfl) ⟨Nat.zero_le _, Nat.zero_le _⟩ ?_
        refine lv_if_ne (tgt := 49) hx hb (zD_g DX4_putIn 26 rfl) (by decide) (fun c13 => ?_) (fun c13 => ?_)
        · replace hf := z_f c13 hf
          refine lv_aload_n hx hb (zD_g DX4_putIn 29 rfl) rfl (lv_at hl 0 rfl) ?_
          obtain ⟨moments_14, kept_15, hc16, hf⟩ := zb2_s hf
          refine z_Vm (As := []) (rest := []) (ws' := (cWar cI q things gifts days size weight sound harm in_ kind owner empty room told gate ear scale lost watch moments_14 kept_15)) ⟨hx, hb, hml, hown, hts⟩ hK (c4_remember (things := things) (gifts := gifts) (days := days) (size := size) (weight := weight) (sound := sound) (harm := harm) (in_ := in_) (kind := kind) (owner := owner) (empty := empty) (room := room) (told := told) (gate := gate) (ear := ear) (scale := scale) (lost := lost) (watch := watch) (moments := moments) (kept := kept) (q := q) hc16) (cwV 0 hts gX4_putIn_X4_remember rfl rfl rfl hd4_remember ⟨Nat.le_of_ble_eq_true rfl, Nat.le_of_ble_eq_true rfl⟩) hP hD hS hA 18 [0, 1, 2, 3, 4, 5, 6, 7, 8, 9, 10, 11, 12, 13, 14, 15, 16, 17] [] [0, 1, 2, 3, 4, 5, 6, 7, 8, 9, 10, 11, 12, 13, 14, 15, 16, 17] (by decide +kernel) rfl rfl rfl rfl rfl rfl rfl hl.1 rfl rfl (Nat.le_of_ble_eq_true rfl) (zD_g DX4_putIn 30 rfl) ⟨Nat.zero_le _, Nat.zero_le _⟩ (fun H locs hP hD hS => ?_)
          refine lv_aload_n hx hb (zD_g DX4_putIn 31 rfl) rfl (lv_at hl 0 rfl) ?_
          refine va_get (D := D) (ci := 3) (v := .ref (q 5)) (C := RX4) (T := TX4) (N := 19) hx hb hts in4_putIn_4 hown hK.1 hP 0 rfl rfl 7 (by decide) (hts _ (List.mem_of_getElem? (i := 1) rfl)) (fun _ h9 => h9) rfl (zD_g DX4_putIn 32 rfl) ?_
          refine lv_iload_n hx hb (zD_g DX4_putIn 33 rfl) rfl (lv_at hl 1 rfl) ?_
          refine lv_iload_n hx hb (zD_g DX4_putIn 34 rfl) rfl (lv_at hl 2 rfl) ?_
          obtain ⟨h17, hf⟩ := zg_s hf
          refine z_iast (k := a_thing.toNatClampNeg) (ws' := (cWar cI q things gifts days size weight sound harm (upd in_ a_thing.toNatClampNeg a_gift) kind owner empty room told gate ear scale lost watch moments_14 kept_15)) hx hb hK.1 hP hD hS 5 0 rfl rfl h17 rfl rfl (zD_g DX4_putIn 35 rfl) (fun H locs hP hD hS => ?_)
          refine lv_iconst (v := (1 : Int32)) hx hb (zD_g DX4_putIn 36 rfl) (by decide) ?_
          cases hf
          exact hret _ _ _ _ hP hD hS (zD_g DX4_putIn 37 rfl)
        · replace hf := z_t c13 hf
          refine lv_bipush (v := (-3 : Int32)) hx hb (zD_g DX4_putIn 27 rfl) (by decide) ?_
          cases hf
          exact hret _ _ _ _ hP hD hS (zD_g DX4_putIn 28 rfl)
    · replace hf := z_t c6 hf
      refine lv_bipush (v := (-2 : Int32)) hx hb (zD_g DX4_putIn 8 rfl) (by decide) ?_
      cases hf
      exact hret _ _ _ _ hP hD hS (zD_g DX4_putIn 9 rfl)
abbrev dlX4_takeOut : List (Nat × Instr × Nat) := [(0, .aload_n 0, 1), (1, .iload_n 1, 1), (2, .invokevirtual 98, 3), (5, .ifCond .ne 6, 3), (8, .bipush (-2), 2), (10, .ireturn, 1), (11, .aload_n 0, 1), (12, .getfield 24, 3), (15, .iload_n 1, 1), (16, .iaload, 1), (17, .istore_n 2, 1), (18, .iload_n 2, 1), (19, .iconst (-1), 1), (20, .if_icmp .ne 6, 3), (23, .bipush (-3), 2), (25, .ireturn, 1), (26, .aload_n 0, 1), (27, .invokevirtual 112, 3), (30, .aload_n 0, 1), (31, .getfield 24, 3), (34, .iload_n 1, 1), (35, .iconst (-1), 1), (36, .iastore, 1), (37, .iload_n 2, 1), (38, .ireturn, 1)]
theorem DX4_takeOut : zD cX4_takeOut dlX4_takeOut = true := by decide +kernel
set_option maxRecDepth 20000 in
theorem ggX4_takeOut_X4_hasThing : GoodIn wsX4_takeOut wsX4_hasThing := goodIn_r _ [6, 7, 8, 9, 10, 30, 31, 32, 33, 34, 35, 36, 37, 38, 39, 40, 41, 42, 43, 44, 45, 46, 47, 48] (by decide +kernel) (by decide +kernel)
set_option maxRecDepth 20000 in
theorem gX4_takeOut_X4_hasThing : GoodIn wsX4_takeOut (wsV RX4 98 RX4 yX4_hasThing wsX4_hasThing) := goodIn_app (goodIn_of _ (by decide +kernel)) ggX4_takeOut_X4_hasThing
set_option maxRecDepth 20000 in
theorem ggX4_takeOut_X4_remember : GoodIn wsX4_takeOut wsX4_remember := goodIn_r _ [14, 15, 16, 1, 17, 18, 19, 20, 21, 22, 23, 24, 25, 26, 27, 28, 29, 30, 31, 32, 33, 34, 35, 36, 37, 38, 39, 40, 41, 42, 43, 44, 45, 46, 47, 48, 49, 50] (by decide +kernel) (by decide +kernel)
set_option maxRecDepth 20000 in
theorem gX4_takeOut_X4_remember : GoodIn wsX4_takeOut (wsV RX4 112 RX4 yX4_remember wsX4_remember) := goodIn_app (goodIn_of _ (by decide +kernel)) ggX4_takeOut_X4_remember
theorem hd4_takeOut : yX4_takeOut.cls = RX4 ∧ yX4_takeOut.cls ≠ "java/lang/invoke/MethodHandle" ∧ yX4_takeOut.cls ≠ "java/lang/invoke/VarHandle" ∧ (parseMethodDescriptor yX4_takeOut.desc).map (fun d => d.parameters.length) = some 1 := by decide +kernel
abbrev rm4_takeOut : Room := { frames := 3, cells := 0, slots := 0, locals := 105 }
theorem in4_takeOut_4 : ∀ w ∈ wsX40, w ∈ wsX4_takeOut := fun w h => List.mem_cons_of_mem _ (List.mem_append_left _ (List.mem_append_right _ h))
set_option maxHeartbeats 4000000 in
set_option maxRecDepth 100000 in
theorem c4_takeOut {l : Launch} {D : va_G} {cI cZ cB : ClassId} {q : Nat → Nat} {sz : Nat} {things : Int32} {gifts : Int32} {days : Int32} {size : Nat → Int32} {weight : Nat → Int32} {sound : Nat → Int32} {harm : Nat → Int32} {in_ : Nat → Int32} {kind : Nat → Int32} {owner : Nat → Int32} {empty : Nat → Int32} {room : Nat → Int32} {told : Nat → Int32} {gate : Nat → Int32} {ear : Nat → Int32} {scale : Nat → Int32} {lost : Nat → Int32} {watch : Nat → Int32} {moments : Int32} {kept : Nat → Int32} {a_thing : Int32} {r : Int32} {d_in_ : Nat → Int32} {d_moments : Int32} {d_kept : Nat → Int32} (hf : f4_takeOut things days in_ owner lost moments kept a_thing = some (r, d_in_, d_moments, d_kept)) : Met l yX4_takeOut wsX4_takeOut rm4_takeOut (zPm D cI cZ cB [.ref (q 0), .int a_thing] sz (cWar cI q things gifts days size weight sound harm in_ kind owner empty room told gate ear scale lost watch moments kept)) (zQm D (some (.int r)) (cWar cI q things gifts days size weight sound harm d_in_ kind owner empty room told gate ear scale lost watch d_moments d_kept) (va_A (cWar cI q things gifts days size weight sound harm in_ kind owner empty room told gate ear scale lost watch moments kept) sz)) 0 0 (va_A (cWar cI q things gifts days size weight sound harm in_ kind owner empty room told gate ear scale lost watch moments kept) sz) := by
  unfold f4_takeOut at hf
  refine z_mutI RX4 (by decide +kernel) rfl rfl (Nat.le_of_ble_eq_true rfl) ?_
  intro p e s m args below meth c Q A ls hx hb hml hown hts hK hP hD hS hA hret hl
  have hl : lv_has ls 3 [(0, .ref (q 0)), (1, .int a_thing)] := hl
  refine lv_aload_n hx hb (zD_g DX4_takeOut 0 rfl) rfl (lv_at hl 0 rfl) ?_
  refine lv_iload_n hx hb (zD_g DX4_takeOut 1 rfl) rfl (lv_at hl 1 rfl) ?_
  obtain ⟨r1, hc2, hf⟩ := zb1_s hf
  refine z_Vp (As := [.int a_thing]) (rest := []) ⟨hx, hb, hml, hown, hts⟩ hK (c4_hasThing (things := things) (gifts := gifts) (days := days) (size := size) (weight := weight) (sound := sound) (harm := harm) (in_ := in_) (kind := kind) (owner := owner) (empty := empty) (room := room) (told := told) (gate := gate) (ear := ear) (scale := scale) (lost := lost) (watch := watch) (moments := moments) (kept := kept) (q := q) hc2) (cwV 1 hts gX4_takeOut_X4_hasThing rfl rfl rfl hd4_hasThing ⟨Nat.le_of_ble_eq_true rfl, Nat.le_of_ble_eq_true rfl⟩) hP rfl rfl rfl rfl hl.1 rfl rfl (Nat.le_of_ble_eq_true rfl) (zD_g DX4_takeOut 2 rfl) ⟨Nat.zero_le _, Nat.zero_le _⟩ ?_
  refine lv_if_ne (tgt := 11) hx hb (zD_g DX4_takeOut 3 rfl) (by decide) (fun c3 => ?_) (fun c3 => ?_)
  · replace hf := z_f c3 hf
    refine lv_aload_n hx hb (zD_g DX4_takeOut 6 rfl) rfl (lv_at hl 0 rfl) ?_
    refine va_get (D := D) (ci := 3) (v := .ref (q 5)) (C := RX4) (T := TX4) (N := 19) hx hb hts in4_takeOut_4 hown hK.1 hP 0 rfl rfl 7 (by decide) (hts _ (List.mem_of_getElem? (i := 1) rfl)) (fun _ h9 => h9) rfl (zD_g DX4_takeOut 7 rfl) ?_
    refine lv_iload_n hx hb (zD_g DX4_takeOut 8 rfl) rfl (lv_at hl 1 rfl) ?_
    obtain ⟨h4, hf⟩ := zg_s hf
    refine z_iald (k := a_thing.toNatClampNeg) hx hb hK.1 hP 5 0 rfl rfl h4 rfl (zD_g DX4_takeOut 9 rfl) ?_
    refine lv_topi (fun x5 ex5 => ?_)
    replace hf := zl_s hf x5 ex5
    refine lv_istore_n (lv' := [(2, .int x5), (0, .ref (q 0)), (1, .int a_thing)]) hx hb (zD_g DX4_takeOut 10 rfl) rfl hl (by decide) rfl (fun ls hl => ?_)
    refine lv_iload_n hx hb (zD_g DX4_takeOut 11 rfl) rfl (lv_at hl 0 rfl) ?_
    refine lv_iconst (v := (-1 : Int32)) hx hb (zD_g DX4_takeOut 12 rfl) (by decide) ?_
    refine lv_icmp_ne (tgt := 26) hx hb (zD_g DX4_takeOut 13 rfl) (by decide) (fun c6 => ?_) (fun c6 => ?_)
    · replace hf := z_f c6 hf
      refine lv_aload_n hx hb (zD_g DX4_takeOut 16 rfl) rfl (lv_at hl 1 rfl) ?_
      obtain ⟨moments_7, kept_8, hc9, hf⟩ := zb2_s hf
      refine z_Vm (As := []) (rest := []) (ws' := (cWar cI q things gifts days size weight sound harm in_ kind owner empty room told gate ear scale lost watch moments_7 kept_8)) ⟨hx, hb, hml, hown, hts⟩ hK (c4_remember (things := things) (gifts := gifts) (days := days) (size := size) (weight := weight) (sound := sound) (harm := harm) (in_ := in_) (kind := kind) (owner := owner) (empty := empty) (room := room) (told := told) (gate := gate) (ear := ear) (scale := scale) (lost := lost) (watch := watch) (moments := moments) (kept := kept) (q := q) hc9) (cwV 0 hts gX4_takeOut_X4_remember rfl rfl rfl hd4_remember ⟨Nat.le_of_ble_eq_true rfl, Nat.le_of_ble_eq_true rfl⟩) hP hD hS hA 18 [0, 1, 2, 3, 4, 5, 6, 7, 8, 9, 10, 11, 12, 13, 14, 15, 16, 17] [] [0, 1, 2, 3, 4, 5, 6, 7, 8, 9, 10, 11, 12, 13, 14, 15, 16, 17] (by decide +kernel) rfl rfl rfl rfl rfl rfl rfl hl.1 rfl rfl (Nat.le_of_ble_eq_true rfl) (zD_g DX4_takeOut 17 rfl) ⟨Nat.zero_le _, Nat.zero_le _⟩ (fun H locs hP hD hS => ?_)
      refine lv_aload_n hx hb (zD_g DX4_takeOut 18 rfl) rfl (lv_at hl 1 rfl) ?_
      refine va_get (D := D) (ci := 3) (v := .ref (q 5)) (C := RX4) (T := TX4) (N := 19) hx hb hts in4_takeOut_4 hown hK.1 hP 0 rfl rfl 7 (by decide) (hts _ (List.mem_of_getElem? (i := 1) rfl)) (fun _ h9 => h9) rfl (zD_g DX4_takeOut 19 rfl) ?_
      refine lv_iload_n hx hb (zD_g DX4_takeOut 20 rfl) rfl (lv_at hl 2 rfl) ?_
      refine lv_iconst (v := (-1 : Int32)) hx hb (zD_g DX4_takeOut 21 rfl) (by decide) ?_
      obtain ⟨h10, hf⟩ := zg_s hf
      refine z_iast (k := a_thing.toNatClampNeg) (ws' := (cWar cI q things gifts days size weight sound harm (upd in_ a_thing.toNatClampNeg (-1 : Int32)) kind owner empty room told gate ear scale lost watch moments_7 kept_8)) hx hb hK.1 hP hD hS 5 0 rfl rfl h10 rfl rfl (zD_g DX4_takeOut 22 rfl) (fun H locs hP hD hS => ?_)
      refine lv_iload_n hx hb (zD_g DX4_takeOut 23 rfl) rfl (lv_at hl 0 rfl) ?_
      cases hf
      exact hret _ _ _ _ hP hD hS (zD_g DX4_takeOut 24 rfl)
    · replace hf := z_t c6 hf
      refine lv_bipush (v := (-3 : Int32)) hx hb (zD_g DX4_takeOut 14 rfl) (by decide) ?_
      cases hf
      exact hret _ _ _ _ hP hD hS (zD_g DX4_takeOut 15 rfl)
  · replace hf := z_t c3 hf
    refine lv_bipush (v := (-2 : Int32)) hx hb (zD_g DX4_takeOut 4 rfl) (by decide) ?_
    cases hf
    exact hret _ _ _ _ hP hD hS (zD_g DX4_takeOut 5 rfl)
abbrev dlX4_replaced : List (Nat × Instr × Nat) := [(0, .iload_n 1, 1), (1, .iconst 0, 1), (2, .aload_n 0, 1), (3, .arraylength, 1), (4, .iconst 1, 1), (5, .isub, 1), (6, .invokestatic 90, 3), (9, .ifCond .ne 6, 3), (12, .bipush (-2), 2), (14, .ireturn, 1), (15, .aload_n 0, 1), (16, .iload_n 1, 1), (17, .iaload, 1), (18, .istore_n 3, 1), (19, .aload_n 0, 1), (20, .iload_n 1, 1), (21, .iload_n 2, 1), (22, .iastore, 1), (23, .iload_n 3, 1), (24, .ireturn, 1)]
theorem DX4_replaced : zD cX4_replaced dlX4_replaced = true := by decide +kernel
set_option maxRecDepth 20000 in
theorem ggX4_replaced_X5_within : GoodIn wsX4_replaced wsX5_within := goodIn_r _ [3] (by decide +kernel) (by decide +kernel)
set_option maxRecDepth 20000 in
theorem gX4_replaced_X5_within_n90 : GoodIn wsX4_replaced (wsX5_within) := ggX4_replaced_X5_within
theorem hd4_replaced : yX4_replaced.cls ≠ "java/lang/invoke/MethodHandle" ∧ yX4_replaced.cls ≠ "java/lang/invoke/VarHandle" ∧ (parseMethodDescriptor yX4_replaced.desc).map (fun d => d.parameters.length) = some 3 := by decide +kernel
abbrev rm4_replaced : Room := { frames := 1, cells := 0, slots := 0, locals := 22 }
set_option maxHeartbeats 4000000 in
set_option maxRecDepth 100000 in
theorem c4_replaced {l : Launch} {D : va_G} {cI cZ cB : ClassId} {ar0 : Nat} {sz : Nat} {numbers : Nat → Int32} {n0 : Nat} {a_at : Int32} {a_n : Int32} {r : Int32} {d_numbers : Nat → Int32} (hf : f4_replaced numbers n0 a_at a_n = some (r, d_numbers)) : Met l yX4_replaced wsX4_replaced rm4_replaced (zPm D cI cZ cB [.ref ar0, .int a_at, .int a_n] sz (cArr cI ar0 n0 numbers)) (zQm D (some (.int r)) (cArr cI ar0 n0 d_numbers) (va_A (cArr cI ar0 n0 numbers) sz)) 0 0 (va_A (cArr cI ar0 n0 numbers) sz) := by
  unfold f4_replaced at hf
  refine z_mutI RX4 (by decide +kernel) rfl rfl (Nat.le_of_ble_eq_true rfl) ?_
  intro p e s m args below meth c Q A ls hx hb hml hown hts hK hP hD hS hA hret hl
  have hl : lv_has ls 4 [(0, .ref ar0), (1, .int a_at), (2, .int a_n)] := hl
  refine lv_iload_n hx hb (zD_g DX4_replaced 0 rfl) rfl (lv_at hl 1 rfl) ?_
  refine lv_iconst (v := (0 : Int32)) hx hb (zD_g DX4_replaced 1 rfl) (by decide) ?_
  refine lv_aload_n hx hb (zD_g DX4_replaced 2 rfl) rfl (lv_at hl 0 rfl) ?_
  refine va_alen (v := (Int32.ofNat n0)) hx hb hK.1 hP 0 0 rfl rfl rfl (zD_g DX4_replaced 3 rfl) ?_
  refine lv_iconst (v := (1 : Int32)) hx hb (zD_g DX4_replaced 4 rfl) (by decide) ?_
  refine lv_isub hx hb (zD_g DX4_replaced 5 rfl) ?_
  obtain ⟨r1, hc2, hf⟩ := zb1_s hf
  refine z_Np (As := [.int a_at, .int (0 : Int32), .int ((Int32.ofNat n0) - (1 : Int32))]) (rest := []) ⟨hx, hb, hml, hown, hts⟩ hK (c5_within  hc2) ⟨va_cnB (own := RX4) (host := RX5) (index := 90) (y := yX5_within) 3 hts gX4_replaced_X5_within_n90 rfl rfl rfl (hK.2 (RX4, 90, yX5_within) (List.mem_of_getElem? (i := 7) rfl)) (hts _ (List.mem_of_getElem? (i := 2) rfl)) hd5_within ⟨Nat.le_of_ble_eq_true rfl, Nat.le_of_ble_eq_true rfl⟩, (hts _ (List.mem_of_getElem? (i := 1) rfl)), trivial⟩ (hP.sub [] rfl) rfl hl.1 rfl rfl (Nat.le_of_ble_eq_true rfl) (zD_g DX4_replaced 6 rfl) ⟨Nat.zero_le _, Nat.zero_le _⟩ ?_
  refine lv_if_ne (tgt := 15) hx hb (zD_g DX4_replaced 7 rfl) (by decide) (fun c3 => ?_) (fun c3 => ?_)
  · replace hf := z_f c3 hf
    refine lv_aload_n hx hb (zD_g DX4_replaced 10 rfl) rfl (lv_at hl 0 rfl) ?_
    refine lv_iload_n hx hb (zD_g DX4_replaced 11 rfl) rfl (lv_at hl 1 rfl) ?_
    obtain ⟨h4, hf⟩ := zg_s hf
    refine z_iald (k := a_at.toNatClampNeg) hx hb hK.1 hP 0 0 rfl rfl h4 rfl (zD_g DX4_replaced 12 rfl) ?_
    refine lv_topi (fun x5 ex5 => ?_)
    replace hf := zl_s hf x5 ex5
    refine lv_istore_n (lv' := [(3, .int x5), (0, .ref ar0), (1, .int a_at), (2, .int a_n)]) hx hb (zD_g DX4_replaced 13 rfl) rfl hl (by decide) rfl (fun ls hl => ?_)
    refine lv_aload_n hx hb (zD_g DX4_replaced 14 rfl) rfl (lv_at hl 1 rfl) ?_
    refine lv_iload_n hx hb (zD_g DX4_replaced 15 rfl) rfl (lv_at hl 2 rfl) ?_
    refine lv_iload_n hx hb (zD_g DX4_replaced 16 rfl) rfl (lv_at hl 3 rfl) ?_
    obtain ⟨h6, hf⟩ := zg_s hf
    refine z_iast (k := a_at.toNatClampNeg) (ws' := (cArr cI ar0 n0 (upd numbers a_at.toNatClampNeg a_n))) hx hb hK.1 hP hD hS 0 0 rfl rfl h6 rfl rfl (zD_g DX4_replaced 17 rfl) (fun H locs hP hD hS => ?_)
    refine lv_iload_n hx hb (zD_g DX4_replaced 18 rfl) rfl (lv_at hl 0 rfl) ?_
    cases hf
    exact hret _ _ _ _ hP hD hS (zD_g DX4_replaced 19 rfl)
  · replace hf := z_t c3 hf
    refine lv_bipush (v := (-2 : Int32)) hx hb (zD_g DX4_replaced 8 rfl) (by decide) ?_
    cases hf
    exact hret _ _ _ _ hP hD hS (zD_g DX4_replaced 9 rfl)
abbrev dlX4_setMeasure : List (Nat × Instr × Nat) := [(0, .iload_n 1, 1), (1, .invokestatic 94, 3), (4, .ifCond .eq 16, 3), (7, .iload_n 2, 1), (8, .iconst 0, 1), (9, .iconst 2, 1), (10, .invokestatic 90, 3), (13, .ifCond .eq 7, 3), (16, .iload_n 3, 1), (17, .ifCond .ge 6, 3), (20, .bipush (-2), 2), (22, .ireturn, 1), (23, .iload_n 2, 1), (24, .ifCond .ne 24, 3), (27, .iload_n 3, 1), (28, .bipush 30, 2), (30, .if_icmp .le 8, 3), (33, .bipush (-2), 2), (35, .goto 12, 3), (38, .aload_n 0, 1), (39, .getfield 42, 3), (42, .iload_n 1, 1), (43, .iload_n 3, 1), (44, .invokestatic 115, 3), (47, .ireturn, 1), (48, .iload_n 2, 1), (49, .iconst 1, 1), (50, .if_icmp .ne 24, 3), (53, .iload_n 3, 1), (54, .bipush 50, 2), (56, .if_icmp .le 8, 3), (59, .bipush (-2), 2), (61, .goto 12, 3), (64, .aload_n 0, 1), (65, .getfield 45, 3), (68, .iload_n 1, 1), (69, .iload_n 3, 1), (70, .invokestatic 115, 3), (73, .ireturn, 1), (74, .iload_n 3, 1), (75, .sipush 200, 3), (78, .if_icmp .le 8, 3), (81, .bipush (-2), 2), (83, .goto 12, 3), (86, .aload_n 0, 1), (87, .getfield 48, 3), (90, .iload_n 1, 1), (91, .iload_n 3, 1), (92, .invokestatic 115, 3), (95, .ireturn, 1)]
theorem DX4_setMeasure : zD cX4_setMeasure dlX4_setMeasure = true := by decide +kernel
set_option maxRecDepth 20000 in
theorem ggX4_setMeasure_X5_isCity : GoodIn wsX4_setMeasure wsX5_isCity := goodIn_r _ [6, 7, 8, 5, 9] (by decide +kernel) (by decide +kernel)
set_option maxRecDepth 20000 in
theorem gX4_setMeasure_X5_isCity_n94 : GoodIn wsX4_setMeasure (wsX5_isCity) := ggX4_setMeasure_X5_isCity
set_option maxRecDepth 20000 in
theorem ggX4_setMeasure_X5_within : GoodIn wsX4_setMeasure wsX5_within := goodIn_r _ [9] (by decide +kernel) (by decide +kernel)
set_option maxRecDepth 20000 in
theorem gX4_setMeasure_X5_within_n90 : GoodIn wsX4_setMeasure (wsX5_within) := ggX4_setMeasure_X5_within
set_option maxRecDepth 20000 in
theorem ggX4_setMeasure_X4_replaced : GoodIn wsX4_setMeasure wsX4_replaced := goodIn_r _ [13, 8, 5, 9] (by decide +kernel) (by decide +kernel)
set_option maxRecDepth 20000 in
theorem gX4_setMeasure_X4_replaced : GoodIn wsX4_setMeasure (va_wsS RX4 115 yX4_replaced wsX4_replaced) := goodIn_app (goodIn_of _ (by decide +kernel)) ggX4_setMeasure_X4_replaced
theorem hd4_setMeasure : yX4_setMeasure.cls = RX4 ∧ yX4_setMeasure.cls ≠ "java/lang/invoke/MethodHandle" ∧ yX4_setMeasure.cls ≠ "java/lang/invoke/VarHandle" ∧ (parseMethodDescriptor yX4_setMeasure.desc).map (fun d => d.parameters.length) = some 3 := by decide +kernel
abbrev rm4_setMeasure : Room := { frames := 2, cells := 0, slots := 0, locals := 45 }
theorem in4_setMeasure_4 : ∀ w ∈ wsX40, w ∈ wsX4_setMeasure := fun w h => List.mem_cons_of_mem _ (List.mem_append_right _ h)
set_option maxHeartbeats 4000000 in
set_option maxRecDepth 100000 in
theorem c4_setMeasure {l : Launch} {D : va_G} {cI cZ cB : ClassId} {q : Nat → Nat} {sz : Nat} {things : Int32} {gifts : Int32} {days : Int32} {size : Nat → Int32} {weight : Nat → Int32} {sound : Nat → Int32} {harm : Nat → Int32} {in_ : Nat → Int32} {kind : Nat → Int32} {owner : Nat → Int32} {empty : Nat → Int32} {room : Nat → Int32} {told : Nat → Int32} {gate : Nat → Int32} {ear : Nat → Int32} {scale : Nat → Int32} {lost : Nat → Int32} {watch : Nat → Int32} {moments : Int32} {kept : Nat → Int32} {a_city : Int32} {a_what : Int32} {a_n : Int32} {r : Int32} {d_gate : Nat → Int32} {d_ear : Nat → Int32} {d_scale : Nat → Int32} (hf : f4_setMeasure gate ear scale a_city a_what a_n = some (r, d_gate, d_ear, d_scale)) : Met l yX4_setMeasure wsX4_setMeasure rm4_setMeasure (zPm D cI cZ cB [.ref (q 0), .int a_city, .int a_what, .int a_n] sz (cWar cI q things gifts days size weight sound harm in_ kind owner empty room told gate ear scale lost watch moments kept)) (zQm D (some (.int r)) (cWar cI q things gifts days size weight sound harm in_ kind owner empty room told d_gate d_ear d_scale lost watch moments kept) (va_A (cWar cI q things gifts days size weight sound harm in_ kind owner empty room told gate ear scale lost watch moments kept) sz)) 0 0 (va_A (cWar cI q things gifts days size weight sound harm in_ kind owner empty room told gate ear scale lost watch moments kept) sz) := by
  unfold f4_setMeasure at hf
  refine z_mutI RX4 (by decide +kernel) rfl rfl (Nat.le_of_ble_eq_true rfl) ?_
  intro p e s m args below meth c Q A ls hx hb hml hown hts hK hP hD hS hA hret hl
  have hl : lv_has ls 4 [(0, .ref (q 0)), (1, .int a_city), (2, .int a_what), (3, .int a_n)] := hl
  refine lv_iload_n hx hb (zD_g DX4_setMeasure 0 rfl) rfl (lv_at hl 1 rfl) ?_
  obtain ⟨r1, hc2, hf⟩ := zb1_s hf
  refine z_Np (As := [.int a_city]) (rest := []) ⟨hx, hb, hml, hown, hts⟩ hK (c5_isCity  hc2) ⟨va_cnB (own := RX4) (host := RX5) (index := 94) (y := yX5_isCity) 1 hts gX4_setMeasure_X5_isCity_n94 rfl rfl rfl (hK.2 (RX4, 94, yX5_isCity) (List.mem_of_getElem? (i := 8) rfl)) (hts _ (List.mem_of_getElem? (i := 5) rfl)) hd5_isCity ⟨Nat.le_of_ble_eq_true rfl, Nat.le_of_ble_eq_true rfl⟩, (hts _ (List.mem_of_getElem? (i := 4) rfl)), trivial⟩ (hP.sub [] rfl) rfl hl.1 rfl rfl (Nat.le_of_ble_eq_true rfl) (zD_g DX4_setMeasure 1 rfl) ⟨Nat.zero_le _, Nat.zero_le _⟩ ?_
  refine lv_if_eq (tgt := 20) hx hb (zD_g DX4_setMeasure 2 rfl) (by decide) (fun c3 => ?_) (fun c3 => ?_)
  · replace hf := z_t c3 hf
    refine lv_bipush (v := (-2 : Int32)) hx hb (zD_g DX4_setMeasure 10 rfl) (by decide) ?_
    cases hf
    exact hret _ _ _ _ hP hD hS (zD_g DX4_setMeasure 11 rfl)
  · replace hf := z_f c3 hf
    refine lv_iload_n hx hb (zD_g DX4_setMeasure 3 rfl) rfl (lv_at hl 2 rfl) ?_
    refine lv_iconst (v := (0 : Int32)) hx hb (zD_g DX4_setMeasure 4 rfl) (by decide) ?_
    refine lv_iconst (v := (2 : Int32)) hx hb (zD_g DX4_setMeasure 5 rfl) (by decide) ?_
    obtain ⟨r4, hc5, hf⟩ := zb1_s hf
    refine z_Np (As := [.int a_what, .int (0 : Int32), .int (2 : Int32)]) (rest := []) ⟨hx, hb, hml, hown, hts⟩ hK (c5_within  hc5) ⟨va_cnB (own := RX4) (host := RX5) (index := 90) (y := yX5_within) 3 hts gX4_setMeasure_X5_within_n90 rfl rfl rfl (hK.2 (RX4, 90, yX5_within) (List.mem_of_getElem? (i := 7) rfl)) (hts _ (List.mem_of_getElem? (i := 5) rfl)) hd5_within ⟨Nat.le_of_ble_eq_true rfl, Nat.le_of_ble_eq_true rfl⟩, (hts _ (List.mem_of_getElem? (i := 8) rfl)), trivial⟩ (hP.sub [] rfl) rfl hl.1 rfl rfl (Nat.le_of_ble_eq_true rfl) (zD_g DX4_setMeasure 6 rfl) ⟨Nat.zero_le _, Nat.zero_le _⟩ ?_
    refine lv_if_eq (tgt := 20) hx hb (zD_g DX4_setMeasure 7 rfl) (by decide) (fun c6 => ?_) (fun c6 => ?_)
    · replace hf := z_t c6 hf
      refine lv_bipush (v := (-2 : Int32)) hx hb (zD_g DX4_setMeasure 10 rfl) (by decide) ?_
      cases hf
      exact hret _ _ _ _ hP hD hS (zD_g DX4_setMeasure 11 rfl)
    · replace hf := z_f c6 hf
      refine lv_iload_n hx hb (zD_g DX4_setMeasure 8 rfl) rfl (lv_at hl 3 rfl) ?_
      refine lv_if_ge (tgt := 23) hx hb (zD_g DX4_setMeasure 9 rfl) (by decide) (fun c7 => ?_) (fun c7 => ?_)
      · replace hf := z_t c7 hf
        refine lv_iload_n hx hb (zD_g DX4_setMeasure 12 rfl) rfl (lv_at hl 2 rfl) ?_
        refine lv_if_ne (tgt := 48) hx hb (zD_g DX4_setMeasure 13 rfl) (by decide) (fun c8 => ?_) (fun c8 => ?_)
        · replace hf := z_f c8 hf
          refine lv_iload_n hx hb (zD_g DX4_setMeasure 25 rfl) rfl (lv_at hl 2 rfl) ?_
          refine lv_iconst (v := (1 : Int32)) hx hb (zD_g DX4_setMeasure 26 rfl) (by decide) ?_
          refine lv_icmp_ne (tgt := 74) hx hb (zD_g DX4_setMeasure 27 rfl) (by decide) (fun c9 => ?_) (fun c9 => ?_)
          · replace hf := z_f c9 hf
            refine lv_iload_n hx hb (zD_g DX4_setMeasure 39 rfl) rfl (lv_at hl 3 rfl) ?_
            refine lv_sipush (v := (200 : Int32)) hx hb (zD_g DX4_setMeasure 40 rfl) (by decide) ?_
            refine lv_icmp_le (tgt := 86) hx hb (zD_g DX4_setMeasure 41 rfl) (by decide) (fun c10 => ?_) (fun c10 => ?_)
            · replace hf := z_t c10 hf
              refine lv_aload_n hx hb (zD_g DX4_setMeasure 44 rfl) rfl (lv_at hl 0 rfl) ?_
              refine va_get (D := D) (ci := 3) (v := .ref (q 13)) (C := RX4) (T := TX4) (N := 19) hx hb hts in4_setMeasure_4 hown hK.1 hP 0 rfl rfl 15 (by decide) (hts _ (List.mem_of_getElem? (i := 3) rfl)) (fun _ h9 => h9) rfl (zD_g DX4_setMeasure 45 rfl) ?_
              refine lv_iload_n hx hb (zD_g DX4_setMeasure 46 rfl) rfl (lv_at hl 1 rfl) ?_
              refine lv_iload_n hx hb (zD_g DX4_setMeasure 47 rfl) rfl (lv_at hl 3 rfl) ?_
              obtain ⟨r11, scale_12, hc13, hf⟩ := zb2_s hf
              refine z_Sm (As := [.ref (q 13), .int a_city, .int a_n]) (rest := []) (ws' := (cWar cI q things gifts days size weight sound harm in_ kind owner empty room told gate ear scale_12 lost watch moments kept)) ⟨hx, hb, hml, hown, hts⟩ hK (c4_replaced (numbers := scale) (ar0 := (q 13)) (n0 := 2) hc13) (va_cwS 3 hts gX4_setMeasure_X4_replaced rfl rfl rfl hd4_replaced ⟨Nat.le_of_ble_eq_true rfl, Nat.le_of_ble_eq_true rfl⟩) hP hD hS hA 18 [13] [0, 1, 2, 3, 4, 5, 6, 7, 8, 9, 10, 11, 12, 14, 15, 16, 17] [0, 1, 2, 3, 4, 5, 6, 7, 8, 9, 10, 11, 12, 17, 13, 14, 15, 16] (by decide +kernel) rfl rfl rfl rfl hl.1 rfl rfl (Nat.le_of_ble_eq_true rfl) (zD_g DX4_setMeasure 48 rfl) ⟨Nat.zero_le _, Nat.zero_le _⟩ (fun H locs hP hD hS => ?_)
              cases hf
              exact hret _ _ _ _ hP hD hS (zD_g DX4_setMeasure 49 rfl)
            · replace hf := z_f c10 hf
              refine lv_bipush (v := (-2 : Int32)) hx hb (zD_g DX4_setMeasure 42 rfl) (by decide) ?_
              refine lv_goto (tgt := 95) hx hb (zD_g DX4_setMeasure 43 rfl) (by decide) ?_
              cases hf
              exact hret _ _ _ _ hP hD hS (zD_g DX4_setMeasure 49 rfl)
          · replace hf := z_t c9 hf
            refine lv_iload_n hx hb (zD_g DX4_setMeasure 28 rfl) rfl (lv_at hl 3 rfl) ?_
            refine lv_bipush (v := (50 : Int32)) hx hb (zD_g DX4_setMeasure 29 rfl) (by decide) ?_
            refine lv_icmp_le (tgt := 64) hx hb (zD_g DX4_setMeasure 30 rfl) (by decide) (fun c14 => ?_) (fun c14 => ?_)
            · replace hf := z_t c14 hf
              refine lv_aload_n hx hb (zD_g DX4_setMeasure 33 rfl) rfl (lv_at hl 0 rfl) ?_
              refine va_get (D := D) (ci := 3) (v := .ref (q 12)) (C := RX4) (T := TX4) (N := 19) hx hb hts in4_setMeasure_4 hown hK.1 hP 0 rfl rfl 14 (by decide) (hts _ (List.mem_of_getElem? (i := 2) rfl)) (fun _ h9 => h9) rfl (zD_g DX4_setMeasure 34 rfl) ?_
              refine lv_iload_n hx hb (zD_g DX4_setMeasure 35 rfl) rfl (lv_at hl 1 rfl) ?_
              refine lv_iload_n hx hb (zD_g DX4_setMeasure 36 rfl) rfl (lv_at hl 3 rfl) ?_
              obtain ⟨r15, ear_16, hc17, hf⟩ := zb2_s hf
              refine z_Sm (As := [.ref (q 12), .int a_city, .int a_n]) (rest := []) (ws' := (cWar cI q things gifts days size weight sound harm in_ kind owner empty room told gate ear_16 scale lost watch moments kept)) ⟨hx, hb, hml, hown, hts⟩ hK (c4_replaced (numbers := ear) (ar0 := (q 12)) (n0 := 2) hc17) (va_cwS 3 hts gX4_setMeasure_X4_replaced rfl rfl rfl hd4_replaced ⟨Nat.le_of_ble_eq_true rfl, Nat.le_of_ble_eq_true rfl⟩) hP hD hS hA 18 [12] [0, 1, 2, 3, 4, 5, 6, 7, 8, 9, 10, 11, 13, 14, 15, 16, 17] [0, 1, 2, 3, 4, 5, 6, 7, 8, 9, 10, 11, 17, 12, 13, 14, 15, 16] (by decide +kernel) rfl rfl rfl rfl hl.1 rfl rfl (Nat.le_of_ble_eq_true rfl) (zD_g DX4_setMeasure 37 rfl) ⟨Nat.zero_le _, Nat.zero_le _⟩ (fun H locs hP hD hS => ?_)
              cases hf
              exact hret _ _ _ _ hP hD hS (zD_g DX4_setMeasure 38 rfl)
            · replace hf := z_f c14 hf
              refine lv_bipush (v := (-2 : Int32)) hx hb (zD_g DX4_setMeasure 31 rfl) (by decide) ?_
              refine lv_goto (tgt := 73) hx hb (zD_g DX4_setMeasure 32 rfl) (by decide) ?_
              cases hf
              exact hret _ _ _ _ hP hD hS (zD_g DX4_setMeasure 38 rfl)
        · replace hf := z_t c8 hf
          refine lv_iload_n hx hb (zD_g DX4_setMeasure 14 rfl) rfl (lv_at hl 3 rfl) ?_
          refine lv_bipush (v := (30 : Int32)) hx hb (zD_g DX4_setMeasure 15 rfl) (by decide) ?_
          refine lv_icmp_le (tgt := 38) hx hb (zD_g DX4_setMeasure 16 rfl) (by decide) (fun c18 => ?_) (fun c18 => ?_)
          · replace hf := z_t c18 hf
            refine lv_aload_n hx hb (zD_g DX4_setMeasure 19 rfl) rfl (lv_at hl 0 rfl) ?_
            refine va_get (D := D) (ci := 3) (v := .ref (q 11)) (C := RX4) (T := TX4) (N := 19) hx hb hts in4_setMeasure_4 hown hK.1 hP 0 rfl rfl 13 (by decide) (hts _ (List.mem_of_getElem? (i := 1) rfl)) (fun _ h9 => h9) rfl (zD_g DX4_setMeasure 20 rfl) ?_
            refine lv_iload_n hx hb (zD_g DX4_setMeasure 21 rfl) rfl (lv_at hl 1 rfl) ?_
            refine lv_iload_n hx hb (zD_g DX4_setMeasure 22 rfl) rfl (lv_at hl 3 rfl) ?_
            obtain ⟨r19, gate_20, hc21, hf⟩ := zb2_s hf
            refine z_Sm (As := [.ref (q 11), .int a_city, .int a_n]) (rest := []) (ws' := (cWar cI q things gifts days size weight sound harm in_ kind owner empty room told gate_20 ear scale lost watch moments kept)) ⟨hx, hb, hml, hown, hts⟩ hK (c4_replaced (numbers := gate) (ar0 := (q 11)) (n0 := 2) hc21) (va_cwS 3 hts gX4_setMeasure_X4_replaced rfl rfl rfl hd4_replaced ⟨Nat.le_of_ble_eq_true rfl, Nat.le_of_ble_eq_true rfl⟩) hP hD hS hA 18 [11] [0, 1, 2, 3, 4, 5, 6, 7, 8, 9, 10, 12, 13, 14, 15, 16, 17] [0, 1, 2, 3, 4, 5, 6, 7, 8, 9, 10, 17, 11, 12, 13, 14, 15, 16] (by decide +kernel) rfl rfl rfl rfl hl.1 rfl rfl (Nat.le_of_ble_eq_true rfl) (zD_g DX4_setMeasure 23 rfl) ⟨Nat.zero_le _, Nat.zero_le _⟩ (fun H locs hP hD hS => ?_)
            cases hf
            exact hret _ _ _ _ hP hD hS (zD_g DX4_setMeasure 24 rfl)
          · replace hf := z_f c18 hf
            refine lv_bipush (v := (-2 : Int32)) hx hb (zD_g DX4_setMeasure 17 rfl) (by decide) ?_
            refine lv_goto (tgt := 47) hx hb (zD_g DX4_setMeasure 18 rfl) (by decide) ?_
            cases hf
            exact hret _ _ _ _ hP hD hS (zD_g DX4_setMeasure 24 rfl)
      · replace hf := z_f c7 hf
        refine lv_bipush (v := (-2 : Int32)) hx hb (zD_g DX4_setMeasure 10 rfl) (by decide) ?_
        cases hf
        exact hret _ _ _ _ hP hD hS (zD_g DX4_setMeasure 11 rfl)
abbrev dlX5_isHour : List (Nat × Instr × Nat) := [(0, .iload_n 0, 1), (1, .iconst 0, 1), (2, .iconst 5, 1), (3, .invokestatic 174, 3), (6, .ireturn, 1)]
theorem DX5_isHour : zD cX5_isHour dlX5_isHour = true := by decide +kernel
set_option maxRecDepth 20000 in
theorem ggX5_isHour_X5_within : GoodIn wsX5_isHour wsX5_within := goodIn_r _ [4] (by decide +kernel) (by decide +kernel)
set_option maxRecDepth 20000 in
theorem gX5_isHour_X5_within : GoodIn wsX5_isHour (va_wsS RX5 174 yX5_within wsX5_within) := goodIn_app (goodIn_of _ (by decide +kernel)) ggX5_isHour_X5_within
theorem hd5_isHour : yX5_isHour.cls ≠ "java/lang/invoke/MethodHandle" ∧ yX5_isHour.cls ≠ "java/lang/invoke/VarHandle" ∧ (parseMethodDescriptor yX5_isHour.desc).map (fun d => d.parameters.length) = some 1 := by decide +kernel
abbrev rm5_isHour : Room := { frames := 1, cells := 0, slots := 0, locals := 22 }
set_option maxHeartbeats 4000000 in
set_option maxRecDepth 100000 in
theorem c5_isHour {l : Launch} {D : va_G} {cI cZ cB : ClassId}   {a_n : Int32} {r : Int32}  (hf : f5_isHour a_n = some r) : Met l yX5_isHour wsX5_isHour rm5_isHour (zPp D cI cZ cB [.int a_n] ([] : va_W)) (zQp (some (.int r))) 0 0 (fun _ => False) := by
  unfold f5_isHour at hf
  refine z_pureZ RX5 (by decide +kernel) rfl rfl (Nat.le_of_ble_eq_true rfl) ?_
  intro p e s m args below meth c Q ls hx hb hml hown hts hK hP hret hl
  have hl : lv_has ls 1 [(0, .int a_n)] := hl
  refine lv_iload_n hx hb (zD_g DX5_isHour 0 rfl) rfl (lv_at hl 0 rfl) ?_
  refine lv_iconst (v := (0 : Int32)) hx hb (zD_g DX5_isHour 1 rfl) (by decide) ?_
  refine lv_iconst (v := (5 : Int32)) hx hb (zD_g DX5_isHour 2 rfl) (by decide) ?_
  obtain ⟨r1, hc2, hf⟩ := zb1_s hf
  refine z_Sp (As := [.int a_n, .int (0 : Int32), .int (5 : Int32)]) (rest := []) ⟨hx, hb, hml, hown, hts⟩ hK (c5_within  hc2) (va_cwS 3 hts gX5_isHour_X5_within rfl rfl rfl hd5_within ⟨Nat.le_of_ble_eq_true rfl, Nat.le_of_ble_eq_true rfl⟩) hP rfl hl.1 rfl rfl (Nat.le_of_ble_eq_true rfl) (zD_g DX5_isHour 3 rfl) ⟨Nat.zero_le _, Nat.zero_le _⟩ ?_
  obtain ⟨hz3, hf⟩ := zgb_s hf
  cases hf
  exact hret _ _ hz3 (zD_g DX5_isHour 4 rfl)
abbrev dlX4_setWatch : List (Nat × Instr × Nat) := [(0, .iload_n 1, 1), (1, .invokestatic 94, 3), (4, .ifCond .eq 20, 3), (7, .iload_n 2, 1), (8, .invokestatic 119, 3), (11, .ifCond .eq 13, 3), (14, .iload_n 3, 1), (15, .iconst 0, 1), (16, .bipush 20, 2), (18, .invokestatic 90, 3), (21, .ifCond .ne 6, 3), (24, .bipush (-2), 2), (26, .ireturn, 1), (27, .aload_n 0, 1), (28, .getfield 54, 3), (31, .iload_n 1, 1), (32, .bipush 6, 2), (34, .imul, 1), (35, .iload_n 2, 1), (36, .iadd, 1), (37, .iload_n 3, 1), (38, .invokestatic 115, 3), (41, .ireturn, 1)]
theorem DX4_setWatch : zD cX4_setWatch dlX4_setWatch = true := by decide +kernel
set_option maxRecDepth 20000 in
theorem ggX4_setWatch_X5_isCity : GoodIn wsX4_setWatch wsX5_isCity := goodIn_r _ [4, 5, 6, 3, 7] (by decide +kernel) (by decide +kernel)
set_option maxRecDepth 20000 in
theorem gX4_setWatch_X5_isCity_n94 : GoodIn wsX4_setWatch (wsX5_isCity) := ggX4_setWatch_X5_isCity
set_option maxRecDepth 20000 in
theorem ggX4_setWatch_X5_isHour : GoodIn wsX4_setWatch wsX5_isHour := goodIn_r _ [9, 5, 6, 3, 7] (by decide +kernel) (by decide +kernel)
set_option maxRecDepth 20000 in
theorem gX4_setWatch_X5_isHour_n119 : GoodIn wsX4_setWatch (wsX5_isHour) := ggX4_setWatch_X5_isHour
set_option maxRecDepth 20000 in
theorem ggX4_setWatch_X5_within : GoodIn wsX4_setWatch wsX5_within := goodIn_r _ [7] (by decide +kernel) (by decide +kernel)
set_option maxRecDepth 20000 in
theorem gX4_setWatch_X5_within_n90 : GoodIn wsX4_setWatch (wsX5_within) := ggX4_setWatch_X5_within
set_option maxRecDepth 20000 in
theorem ggX4_setWatch_X4_replaced : GoodIn wsX4_setWatch wsX4_replaced := goodIn_r _ [13, 6, 3, 7] (by decide +kernel) (by decide +kernel)
set_option maxRecDepth 20000 in
theorem gX4_setWatch_X4_replaced : GoodIn wsX4_setWatch (va_wsS RX4 115 yX4_replaced wsX4_replaced) := goodIn_app (goodIn_of _ (by decide +kernel)) ggX4_setWatch_X4_replaced
theorem hd4_setWatch : yX4_setWatch.cls = RX4 ∧ yX4_setWatch.cls ≠ "java/lang/invoke/MethodHandle" ∧ yX4_setWatch.cls ≠ "java/lang/invoke/VarHandle" ∧ (parseMethodDescriptor yX4_setWatch.desc).map (fun d => d.parameters.length) = some 3 := by decide +kernel
abbrev rm4_setWatch : Room := { frames := 2, cells := 0, slots := 0, locals := 45 }
theorem in4_setWatch_4 : ∀ w ∈ wsX40, w ∈ wsX4_setWatch := fun w h => List.mem_cons_of_mem _ (List.mem_append_right _ h)
set_option maxHeartbeats 4000000 in
set_option maxRecDepth 100000 in
theorem c4_setWatch {l : Launch} {D : va_G} {cI cZ cB : ClassId} {q : Nat → Nat} {sz : Nat} {things : Int32} {gifts : Int32} {days : Int32} {size : Nat → Int32} {weight : Nat → Int32} {sound : Nat → Int32} {harm : Nat → Int32} {in_ : Nat → Int32} {kind : Nat → Int32} {owner : Nat → Int32} {empty : Nat → Int32} {room : Nat → Int32} {told : Nat → Int32} {gate : Nat → Int32} {ear : Nat → Int32} {scale : Nat → Int32} {lost : Nat → Int32} {watch : Nat → Int32} {moments : Int32} {kept : Nat → Int32} {a_city : Int32} {a_hour : Int32} {a_n : Int32} {r : Int32} {d_watch : Nat → Int32} (hf : f4_setWatch watch a_city a_hour a_n = some (r, d_watch)) : Met l yX4_setWatch wsX4_setWatch rm4_setWatch (zPm D cI cZ cB [.ref (q 0), .int a_city, .int a_hour, .int a_n] sz (cWar cI q things gifts days size weight sound harm in_ kind owner empty room told gate ear scale lost watch moments kept)) (zQm D (some (.int r)) (cWar cI q things gifts days size weight sound harm in_ kind owner empty room told gate ear scale lost d_watch moments kept) (va_A (cWar cI q things gifts days size weight sound harm in_ kind owner empty room told gate ear scale lost watch moments kept) sz)) 0 0 (va_A (cWar cI q things gifts days size weight sound harm in_ kind owner empty room told gate ear scale lost watch moments kept) sz) := by
  unfold f4_setWatch at hf
  refine z_mutI RX4 (by decide +kernel) rfl rfl (Nat.le_of_ble_eq_true rfl) ?_
  intro p e s m args below meth c Q A ls hx hb hml hown hts hK hP hD hS hA hret hl
  have hl : lv_has ls 4 [(0, .ref (q 0)), (1, .int a_city), (2, .int a_hour), (3, .int a_n)] := hl
  refine lv_iload_n hx hb (zD_g DX4_setWatch 0 rfl) rfl (lv_at hl 1 rfl) ?_
  obtain ⟨r1, hc2, hf⟩ := zb1_s hf
  refine z_Np (As := [.int a_city]) (rest := []) ⟨hx, hb, hml, hown, hts⟩ hK (c5_isCity  hc2) ⟨va_cnB (own := RX4) (host := RX5) (index := 94) (y := yX5_isCity) 1 hts gX4_setWatch_X5_isCity_n94 rfl rfl rfl (hK.2 (RX4, 94, yX5_isCity) (List.mem_of_getElem? (i := 8) rfl)) (hts _ (List.mem_of_getElem? (i := 3) rfl)) hd5_isCity ⟨Nat.le_of_ble_eq_true rfl, Nat.le_of_ble_eq_true rfl⟩, (hts _ (List.mem_of_getElem? (i := 2) rfl)), trivial⟩ (hP.sub [] rfl) rfl hl.1 rfl rfl (Nat.le_of_ble_eq_true rfl) (zD_g DX4_setWatch 1 rfl) ⟨Nat.zero_le _, Nat.zero_le _⟩ ?_
  refine lv_if_eq (tgt := 24) hx hb (zD_g DX4_setWatch 2 rfl) (by decide) (fun c3 => ?_) (fun c3 => ?_)
  · replace hf := z_t c3 hf
    refine lv_bipush (v := (-2 : Int32)) hx hb (zD_g DX4_setWatch 11 rfl) (by decide) ?_
    cases hf
    exact hret _ _ _ _ hP hD hS (zD_g DX4_setWatch 12 rfl)
  · replace hf := z_f c3 hf
    refine lv_iload_n hx hb (zD_g DX4_setWatch 3 rfl) rfl (lv_at hl 2 rfl) ?_
    obtain ⟨r4, hc5, hf⟩ := zb1_s hf
    refine z_Np (As := [.int a_hour]) (rest := []) ⟨hx, hb, hml, hown, hts⟩ hK (c5_isHour  hc5) ⟨va_cnB (own := RX4) (host := RX5) (index := 119) (y := yX5_isHour) 1 hts gX4_setWatch_X5_isHour_n119 rfl rfl rfl (hK.2 (RX4, 119, yX5_isHour) (List.mem_of_getElem? (i := 9) rfl)) (hts _ (List.mem_of_getElem? (i := 3) rfl)) hd5_isHour ⟨Nat.le_of_ble_eq_true rfl, Nat.le_of_ble_eq_true rfl⟩, (hts _ (List.mem_of_getElem? (i := 8) rfl)), trivial⟩ (hP.sub [] rfl) rfl hl.1 rfl rfl (Nat.le_of_ble_eq_true rfl) (zD_g DX4_setWatch 4 rfl) ⟨Nat.zero_le _, Nat.zero_le _⟩ ?_
    refine lv_if_eq (tgt := 24) hx hb (zD_g DX4_setWatch 5 rfl) (by decide) (fun c6 => ?_) (fun c6 => ?_)
    · replace hf := z_t c6 hf
      refine lv_bipush (v := (-2 : Int32)) hx hb (zD_g DX4_setWatch 11 rfl) (by decide) ?_
      cases hf
      exact hret _ _ _ _ hP hD hS (zD_g DX4_setWatch 12 rfl)
    · replace hf := z_f c6 hf
      refine lv_iload_n hx hb (zD_g DX4_setWatch 6 rfl) rfl (lv_at hl 3 rfl) ?_
      refine lv_iconst (v := (0 : Int32)) hx hb (zD_g DX4_setWatch 7 rfl) (by decide) ?_
      refine lv_bipush (v := (20 : Int32)) hx hb (zD_g DX4_setWatch 8 rfl) (by decide) ?_
      obtain ⟨r7, hc8, hf⟩ := zb1_s hf
      refine z_Np (As := [.int a_n, .int (0 : Int32), .int (20 : Int32)]) (rest := []) ⟨hx, hb, hml, hown, hts⟩ hK (c5_within  hc8) ⟨va_cnB (own := RX4) (host := RX5) (index := 90) (y := yX5_within) 3 hts gX4_setWatch_X5_within_n90 rfl rfl rfl (hK.2 (RX4, 90, yX5_within) (List.mem_of_getElem? (i := 7) rfl)) (hts _ (List.mem_of_getElem? (i := 3) rfl)) hd5_within ⟨Nat.le_of_ble_eq_true rfl, Nat.le_of_ble_eq_true rfl⟩, (hts _ (List.mem_of_getElem? (i := 6) rfl)), trivial⟩ (hP.sub [] rfl) rfl hl.1 rfl rfl (Nat.le_of_ble_eq_true rfl) (zD_g DX4_setWatch 9 rfl) ⟨Nat.zero_le _, Nat.zero_le _⟩ ?_
      refine lv_if_ne (tgt := 27) hx hb (zD_g DX4_setWatch 10 rfl) (by decide) (fun c9 => ?_) (fun c9 => ?_)
      · replace hf := z_f c9 hf
        refine lv_aload_n hx hb (zD_g DX4_setWatch 13 rfl) rfl (lv_at hl 0 rfl) ?_
        refine va_get (D := D) (ci := 3) (v := .ref (q 15)) (C := RX4) (T := TX4) (N := 19) hx hb hts in4_setWatch_4 hown hK.1 hP 0 rfl rfl 17 (by decide) (hts _ (List.mem_of_getElem? (i := 1) rfl)) (fun _ h9 => h9) rfl (zD_g DX4_setWatch 14 rfl) ?_
        refine lv_iload_n hx hb (zD_g DX4_setWatch 15 rfl) rfl (lv_at hl 1 rfl) ?_
        refine lv_bipush (v := (6 : Int32)) hx hb (zD_g DX4_setWatch 16 rfl) (by decide) ?_
        refine lv_imul hx hb (zD_g DX4_setWatch 17 rfl) ?_
        refine lv_iload_n hx hb (zD_g DX4_setWatch 18 rfl) rfl (lv_at hl 2 rfl) ?_
        refine lv_iadd hx hb (zD_g DX4_setWatch 19 rfl) ?_
        refine lv_iload_n hx hb (zD_g DX4_setWatch 20 rfl) rfl (lv_at hl 3 rfl) ?_
        obtain ⟨r10, watch_11, hc12, hf⟩ := zb2_s hf
        refine z_Sm (As := [.ref (q 15), .int ((a_city * (6 : Int32)) + a_hour), .int a_n]) (rest := []) (ws' := (cWar cI q things gifts days size weight sound harm in_ kind owner empty room told gate ear scale lost watch_11 moments kept)) ⟨hx, hb, hml, hown, hts⟩ hK (c4_replaced (numbers := watch) (ar0 := (q 15)) (n0 := 12) hc12) (va_cwS 3 hts gX4_setWatch_X4_replaced rfl rfl rfl hd4_replaced ⟨Nat.le_of_ble_eq_true rfl, Nat.le_of_ble_eq_true rfl⟩) hP hD hS hA 18 [15] [0, 1, 2, 3, 4, 5, 6, 7, 8, 9, 10, 11, 12, 13, 14, 16, 17] [0, 1, 2, 3, 4, 5, 6, 7, 8, 9, 10, 11, 12, 13, 14, 17, 15, 16] (by decide +kernel) rfl rfl rfl rfl hl.1 rfl rfl (Nat.le_of_ble_eq_true rfl) (zD_g DX4_setWatch 21 rfl) ⟨Nat.zero_le _, Nat.zero_le _⟩ (fun H locs hP hD hS => ?_)
        cases hf
        exact hret _ _ _ _ hP hD hS (zD_g DX4_setWatch 22 rfl)
      · replace hf := z_t c9 hf
        refine lv_bipush (v := (-2 : Int32)) hx hb (zD_g DX4_setWatch 11 rfl) (by decide) ?_
        cases hf
        exact hret _ _ _ _ hP hD hS (zD_g DX4_setWatch 12 rfl)
abbrev dlX5_copyInts : List (Nat × Instr × Nat) := [(0, .aload_n 0, 1), (1, .iconst 0, 1), (2, .aload_n 1, 1), (3, .iconst 0, 1), (4, .aload_n 0, 1), (5, .arraylength, 1), (6, .aload_n 1, 1), (7, .arraylength, 1), (8, .invokestatic 310, 3), (11, .invokestatic 315, 3), (14, .return_, 1)]
theorem DX5_copyInts : zD cX5_copyInts dlX5_copyInts = true := by decide +kernel
theorem hd5_copyInts : yX5_copyInts.cls ≠ "java/lang/invoke/MethodHandle" ∧ yX5_copyInts.cls ≠ "java/lang/invoke/VarHandle" ∧ (parseMethodDescriptor yX5_copyInts.desc).map (fun d => d.parameters.length) = some 2 := by decide +kernel
abbrev rm5_copyInts : Room := { frames := 1, cells := 0, slots := 0, locals := 60 }
set_option maxHeartbeats 4000000 in
set_option maxRecDepth 100000 in
theorem c5_copyInts {l : Launch} {D : va_G} {cI cZ cB : ClassId} {ar0 : Nat} {ar1 : Nat} {sz : Nat} {from_ : Nat → Int32} {to_ : Nat → Int32} {n0 : Nat} {n1 : Nat}  {d_to_ : Nat → Int32} (hf : f5_copyInts from_ to_ n0 n1 = some d_to_) : Met l yX5_copyInts wsX5_copyInts rm5_copyInts (zPm D cI cZ cB [.ref ar0, .ref ar1] sz (zcat [(cArr cI ar0 n0 from_), (cArr cI ar1 n1 to_)])) (zQm D none (zcat [(cArr cI ar0 n0 from_), (cArr cI ar1 n1 d_to_)]) (va_A (zcat [(cArr cI ar0 n0 from_), (cArr cI ar1 n1 to_)]) sz)) 0 0 (va_A (zcat [(cArr cI ar0 n0 from_), (cArr cI ar1 n1 to_)]) sz) := by
  unfold f5_copyInts at hf
  refine z_mutV RX5 (by decide +kernel) rfl rfl (Nat.le_of_ble_eq_true rfl) ?_
  intro p e s m args below meth c Q A ls hx hb hml hown hts hK hP hD hS hA hret hl
  have hl : lv_has ls 2 [(0, .ref ar0), (1, .ref ar1)] := hl
  refine lv_aload_n hx hb (zD_g DX5_copyInts 0 rfl) rfl (lv_at hl 0 rfl) ?_
  refine lv_iconst (v := (0 : Int32)) hx hb (zD_g DX5_copyInts 1 rfl) (by decide) ?_
  refine lv_aload_n hx hb (zD_g DX5_copyInts 2 rfl) rfl (lv_at hl 1 rfl) ?_
  refine lv_iconst (v := (0 : Int32)) hx hb (zD_g DX5_copyInts 3 rfl) (by decide) ?_
  refine lv_aload_n hx hb (zD_g DX5_copyInts 4 rfl) rfl (lv_at hl 0 rfl) ?_
  refine va_alen (v := (Int32.ofNat n0)) hx hb hK.1 hP 0 0 rfl rfl rfl (zD_g DX5_copyInts 5 rfl) ?_
  refine lv_aload_n hx hb (zD_g DX5_copyInts 6 rfl) rfl (lv_at hl 1 rfl) ?_
  refine va_alen (v := (Int32.ofNat n1)) hx hb hK.1 hP 1 0 rfl rfl rfl (zD_g DX5_copyInts 7 rfl) ?_
  refine va_mmin hx hb (hml.trans hl.1.symm) hown (hts _ (List.mem_of_getElem? (i := 1) rfl)) (hts _ (List.mem_of_getElem? (i := 2) rfl)) (hts _ (List.mem_of_getElem? (i := 3) rfl)) (hts _ (List.mem_of_getElem? (i := 4) rfl)) (Nat.le_of_ble_eq_true rfl) (Nat.le_of_ble_eq_true rfl) (Nat.zero_le _) (Nat.zero_le _) (zD_g DX5_copyInts 8 rfl) ?_
  refine lv_topi (fun x1 ex1 => ?_)
  replace hf := zl_s hf x1 ex1
  obtain ⟨hc2, hf⟩ := zgc_s hf
  refine z_copyi (S := 0) (P := 0) (N := (x1).toNatClampNeg) (ws' := (zcat [(cArr cI ar0 n0 from_), (cArr cI ar1 n1 (va_cpy from_ to_ 0 0 ((x1).toNatClampNeg)))])) hx hb (hml.trans hl.1.symm) hown (hts _ (List.mem_of_getElem? (i := 5) rfl)) (hts _ (List.mem_of_getElem? (i := 6) rfl)) (hts _ (List.mem_of_getElem? (i := 7) rfl)) (hts _ (List.mem_of_getElem? (i := 8) rfl)) hK.1 hP hD hS 0 1 0 0 rfl rfl rfl rfl rfl hc2 rfl rfl rfl rfl (Nat.le_of_ble_eq_true rfl) (Nat.le_of_ble_eq_true rfl) (zD_g DX5_copyInts 9 rfl) (fun H locs hP hD hS => ?_)
  cases hf
  exact hret _ _ _ _ hP hD hS (zD_g DX5_copyInts 10 rfl)
abbrev dlX4_copyFrom : List (Nat × Instr × Nat) := [(0, .aload_n 0, 1), (1, .aload_n 1, 1), (2, .getfield 67, 3), (5, .putfield 67, 3), (8, .aload_n 0, 1), (9, .aload_n 1, 1), (10, .getfield 71, 3), (13, .putfield 71, 3), (16, .aload_n 0, 1), (17, .aload_n 1, 1), (18, .getfield 74, 3), (21, .putfield 74, 3), (24, .aload_n 1, 1), (25, .getfield 9, 3), (28, .aload_n 0, 1), (29, .getfield 9, 3), (32, .invokestatic 80, 3), (35, .aload_n 1, 1), (36, .getfield 15, 3), (39, .aload_n 0, 1), (40, .getfield 15, 3), (43, .invokestatic 80, 3), (46, .aload_n 1, 1), (47, .getfield 18, 3), (50, .aload_n 0, 1), (51, .getfield 18, 3), (54, .invokestatic 80, 3), (57, .aload_n 1, 1), (58, .getfield 21, 3), (61, .aload_n 0, 1), (62, .getfield 21, 3), (65, .invokestatic 80, 3), (68, .aload_n 1, 1), (69, .getfield 24, 3), (72, .aload_n 0, 1), (73, .getfield 24, 3), (76, .invokestatic 80, 3), (79, .aload_n 1, 1), (80, .getfield 27, 3), (83, .aload_n 0, 1), (84, .getfield 27, 3), (87, .invokestatic 80, 3), (90, .aload_n 1, 1), (91, .getfield 30, 3), (94, .aload_n 0, 1), (95, .getfield 30, 3), (98, .invokestatic 80, 3), (101, .aload_n 1, 1), (102, .getfield 33, 3), (105, .aload_n 0, 1), (106, .getfield 33, 3), (109, .invokestatic 80, 3), (112, .aload_n 1, 1), (113, .getfield 36, 3), (116, .aload_n 0, 1), (117, .getfield 36, 3), (120, .invokestatic 80, 3), (123, .aload_n 1, 1), (124, .getfield 39, 3), (127, .aload_n 0, 1), (128, .getfield 39, 3), (131, .invokestatic 80, 3), (134, .aload_n 1, 1), (135, .getfield 42, 3), (138, .aload_n 0, 1), (139, .getfield 42, 3), (142, .invokestatic 80, 3), (145, .aload_n 1, 1), (146, .getfield 45, 3), (149, .aload_n 0, 1), (150, .getfield 45, 3), (153, .invokestatic 80, 3), (156, .aload_n 1, 1), (157, .getfield 48, 3), (160, .aload_n 0, 1), (161, .getfield 48, 3), (164, .invokestatic 80, 3), (167, .aload_n 1, 1), (168, .getfield 51, 3), (171, .aload_n 0, 1), (172, .getfield 51, 3), (175, .invokestatic 80, 3), (178, .aload_n 1, 1), (179, .getfield 54, 3), (182, .aload_n 0, 1), (183, .getfield 54, 3), (186, .invokestatic 80, 3), (189, .aload_n 1, 1), (190, .getfield 60, 3), (193, .getfield 84, 3), (196, .aload_n 0, 1), (197, .getfield 60, 3), (200, .getfield 84, 3), (203, .invokestatic 80, 3), (206, .aload_n 0, 1), (207, .getfield 60, 3), (210, .aload_n 1, 1), (211, .getfield 60, 3), (214, .getfield 87, 3), (217, .putfield 87, 3), (220, .return_, 1)]
theorem DX4_copyFrom : zD cX4_copyFrom dlX4_copyFrom = true := by decide +kernel
set_option maxRecDepth 20000 in
theorem ggX4_copyFrom_X5_copyInts : GoodIn wsX4_copyFrom wsX5_copyInts := goodIn_r _ [24, 25, 26, 27, 28, 29, 30, 31, 32] (by decide +kernel) (by decide +kernel)
set_option maxRecDepth 20000 in
theorem gX4_copyFrom_X5_copyInts_n80 : GoodIn wsX4_copyFrom (wsX5_copyInts) := ggX4_copyFrom_X5_copyInts
theorem hd4_copyFrom : yX4_copyFrom.cls = RX4 ∧ yX4_copyFrom.cls ≠ "java/lang/invoke/MethodHandle" ∧ yX4_copyFrom.cls ≠ "java/lang/invoke/VarHandle" ∧ (parseMethodDescriptor yX4_copyFrom.desc).map (fun d => d.parameters.length) = some 1 := by decide +kernel
abbrev rm4_copyFrom : Room := { frames := 2, cells := 0, slots := 0, locals := 81 }
theorem in4_copyFrom_2 : ∀ w ∈ wsX20, w ∈ wsX4_copyFrom := fun w h => List.mem_cons_of_mem _ (List.mem_append_right _ h)
theorem in4_copyFrom_4 : ∀ w ∈ wsX40, w ∈ wsX4_copyFrom := fun w h => List.mem_cons_of_mem _ (List.mem_append_left _ (List.mem_append_right _ h))
set_option maxHeartbeats 4000000 in
set_option maxRecDepth 100000 in
theorem c4_copyFrom {l : Launch} {D : va_G} {cI cZ cB : ClassId} {q : Nat → Nat} {q0 : Nat → Nat} {sz : Nat} {things : Int32} {gifts : Int32} {days : Int32} {size : Nat → Int32} {weight : Nat → Int32} {sound : Nat → Int32} {harm : Nat → Int32} {in_ : Nat → Int32} {kind : Nat → Int32} {owner : Nat → Int32} {empty : Nat → Int32} {room : Nat → Int32} {told : Nat → Int32} {gate : Nat → Int32} {ear : Nat → Int32} {scale : Nat → Int32} {lost : Nat → Int32} {watch : Nat → Int32} {moments : Int32} {kept : Nat → Int32} {o_things : Int32} {o_gifts : Int32} {o_days : Int32} {o_size : Nat → Int32} {o_weight : Nat → Int32} {o_sound : Nat → Int32} {o_harm : Nat → Int32} {o_in_ : Nat → Int32} {o_kind : Nat → Int32} {o_owner : Nat → Int32} {o_empty : Nat → Int32} {o_room : Nat → Int32} {o_told : Nat → Int32} {o_gate : Nat → Int32} {o_ear : Nat → Int32} {o_scale : Nat → Int32} {o_lost : Nat → Int32} {o_watch : Nat → Int32} {o_moments : Int32} {o_kept : Nat → Int32}   {d_things : Int32} {d_gifts : Int32} {d_days : Int32} {d_size : Nat → Int32} {d_weight : Nat → Int32} {d_sound : Nat → Int32} {d_harm : Nat → Int32} {d_in_ : Nat → Int32} {d_kind : Nat → Int32} {d_owner : Nat → Int32} {d_empty : Nat → Int32} {d_room : Nat → Int32} {d_told : Nat → Int32} {d_gate : Nat → Int32} {d_ear : Nat → Int32} {d_scale : Nat → Int32} {d_lost : Nat → Int32} {d_watch : Nat → Int32} {d_moments : Int32} {d_kept : Nat → Int32} (hf : f4_copyFrom things gifts days size weight sound harm in_ kind owner empty room told gate ear scale lost watch moments kept o_things o_gifts o_days o_size o_weight o_sound o_harm o_in_ o_kind o_owner o_empty o_room o_told o_gate o_ear o_scale o_lost o_watch o_moments o_kept = some (d_things, d_gifts, d_days, d_size, d_weight, d_sound, d_harm, d_in_, d_kind, d_owner, d_empty, d_room, d_told, d_gate, d_ear, d_scale, d_lost, d_watch, d_moments, d_kept)) : Met l yX4_copyFrom wsX4_copyFrom rm4_copyFrom (zPm D cI cZ cB [.ref (q 0), .ref (q0 0)] sz (zcat [(cWar cI q things gifts days size weight sound harm in_ kind owner empty room told gate ear scale lost watch moments kept), (cWar cI q0 o_things o_gifts o_days o_size o_weight o_sound o_harm o_in_ o_kind o_owner o_empty o_room o_told o_gate o_ear o_scale o_lost o_watch o_moments o_kept)])) (zQm D none (zcat [(cWar cI q d_things d_gifts d_days d_size d_weight d_sound d_harm d_in_ d_kind d_owner d_empty d_room d_told d_gate d_ear d_scale d_lost d_watch d_moments d_kept), (cWar cI q0 o_things o_gifts o_days o_size o_weight o_sound o_harm o_in_ o_kind o_owner o_empty o_room o_told o_gate o_ear o_scale o_lost o_watch o_moments o_kept)]) (va_A (zcat [(cWar cI q things gifts days size weight sound harm in_ kind owner empty room told gate ear scale lost watch moments kept), (cWar cI q0 o_things o_gifts o_days o_size o_weight o_sound o_harm o_in_ o_kind o_owner o_empty o_room o_told o_gate o_ear o_scale o_lost o_watch o_moments o_kept)]) sz)) 0 0 (va_A (zcat [(cWar cI q things gifts days size weight sound harm in_ kind owner empty room told gate ear scale lost watch moments kept), (cWar cI q0 o_things o_gifts o_days o_size o_weight o_sound o_harm o_in_ o_kind o_owner o_empty o_room o_told o_gate o_ear o_scale o_lost o_watch o_moments o_kept)]) sz) := by
  unfold f4_copyFrom at hf
  refine z_mutV RX4 (by decide +kernel) rfl rfl (Nat.le_of_ble_eq_true rfl) ?_
  intro p e s m args below meth c Q A ls hx hb hml hown hts hK hP hD hS hA hret hl
  have hl : lv_has ls 2 [(0, .ref (q 0)), (1, .ref (q0 0))] := hl
  refine lv_aload_n hx hb (zD_g DX4_copyFrom 0 rfl) rfl (lv_at hl 0 rfl) ?_
  refine lv_aload_n hx hb (zD_g DX4_copyFrom 1 rfl) rfl (lv_at hl 1 rfl) ?_
  refine va_get (D := D) (ci := 3) (v := .int o_things) (C := RX4) (T := TX4) (N := 19) hx hb hts in4_copyFrom_4 hown hK.1 hP 18 rfl rfl 0 (by decide) (hts _ (List.mem_of_getElem? (i := 1) rfl)) (fun _ h9 => h9) rfl (zD_g DX4_copyFrom 2 rfl) ?_
  refine z_put (D := D) (ci := 3) (v := .int o_things) (ty := .int) (C := RX4) (T := TX4) (N := 19) (ws' := (zcat [(cWar cI q o_things gifts days size weight sound harm in_ kind owner empty room told gate ear scale lost watch moments kept), (cWar cI q0 o_things o_gifts o_days o_size o_weight o_sound o_harm o_in_ o_kind o_owner o_empty o_room o_told o_gate o_ear o_scale o_lost o_watch o_moments o_kept)])) hx hb hts in4_copyFrom_4 tyX4 tyX4_ok nmX4 hown hK.1 hP hD hS 0 rfl rfl 0 (by decide) (hts _ (List.mem_of_getElem? (i := 1) rfl)) (fun _ h9 => h9) rfl (tyX4_ok 0 (by decide)) rfl rfl (Nat.le_of_ble_eq_true rfl) rfl (zD_g DX4_copyFrom 3 rfl) (fun H locs hP hD hS => ?_)
  refine lv_aload_n hx hb (zD_g DX4_copyFrom 4 rfl) rfl (lv_at hl 0 rfl) ?_
  refine lv_aload_n hx hb (zD_g DX4_copyFrom 5 rfl) rfl (lv_at hl 1 rfl) ?_
  refine va_get (D := D) (ci := 3) (v := .int o_gifts) (C := RX4) (T := TX4) (N := 19) hx hb hts in4_copyFrom_4 hown hK.1 hP 18 rfl rfl 1 (by decide) (hts _ (List.mem_of_getElem? (i := 2) rfl)) (fun _ h9 => h9) rfl (zD_g DX4_copyFrom 6 rfl) ?_
  refine z_put (D := D) (ci := 3) (v := .int o_gifts) (ty := .int) (C := RX4) (T := TX4) (N := 19) (ws' := (zcat [(cWar cI q o_things o_gifts days size weight sound harm in_ kind owner empty room told gate ear scale lost watch moments kept), (cWar cI q0 o_things o_gifts o_days o_size o_weight o_sound o_harm o_in_ o_kind o_owner o_empty o_room o_told o_gate o_ear o_scale o_lost o_watch o_moments o_kept)])) hx hb hts in4_copyFrom_4 tyX4 tyX4_ok nmX4 hown hK.1 hP hD hS 0 rfl rfl 1 (by decide) (hts _ (List.mem_of_getElem? (i := 2) rfl)) (fun _ h9 => h9) rfl (tyX4_ok 1 (by decide)) rfl rfl (Nat.le_of_ble_eq_true rfl) rfl (zD_g DX4_copyFrom 7 rfl) (fun H locs hP hD hS => ?_)
  refine lv_aload_n hx hb (zD_g DX4_copyFrom 8 rfl) rfl (lv_at hl 0 rfl) ?_
  refine lv_aload_n hx hb (zD_g DX4_copyFrom 9 rfl) rfl (lv_at hl 1 rfl) ?_
  refine va_get (D := D) (ci := 3) (v := .int o_days) (C := RX4) (T := TX4) (N := 19) hx hb hts in4_copyFrom_4 hown hK.1 hP 18 rfl rfl 2 (by decide) (hts _ (List.mem_of_getElem? (i := 3) rfl)) (fun _ h9 => h9) rfl (zD_g DX4_copyFrom 10 rfl) ?_
  refine z_put (D := D) (ci := 3) (v := .int o_days) (ty := .int) (C := RX4) (T := TX4) (N := 19) (ws' := (zcat [(cWar cI q o_things o_gifts o_days size weight sound harm in_ kind owner empty room told gate ear scale lost watch moments kept), (cWar cI q0 o_things o_gifts o_days o_size o_weight o_sound o_harm o_in_ o_kind o_owner o_empty o_room o_told o_gate o_ear o_scale o_lost o_watch o_moments o_kept)])) hx hb hts in4_copyFrom_4 tyX4 tyX4_ok nmX4 hown hK.1 hP hD hS 0 rfl rfl 2 (by decide) (hts _ (List.mem_of_getElem? (i := 3) rfl)) (fun _ h9 => h9) rfl (tyX4_ok 2 (by decide)) rfl rfl (Nat.le_of_ble_eq_true rfl) rfl (zD_g DX4_copyFrom 11 rfl) (fun H locs hP hD hS => ?_)
  refine lv_aload_n hx hb (zD_g DX4_copyFrom 12 rfl) rfl (lv_at hl 1 rfl) ?_
  refine va_get (D := D) (ci := 3) (v := .ref (q0 1)) (C := RX4) (T := TX4) (N := 19) hx hb hts in4_copyFrom_4 hown hK.1 hP 18 rfl rfl 3 (by decide) (hts _ (List.mem_of_getElem? (i := 4) rfl)) (fun _ h9 => h9) rfl (zD_g DX4_copyFrom 13 rfl) ?_
  refine lv_aload_n hx hb (zD_g DX4_copyFrom 14 rfl) rfl (lv_at hl 0 rfl) ?_
  refine va_get (D := D) (ci := 3) (v := .ref (q 1)) (C := RX4) (T := TX4) (N := 19) hx hb hts in4_copyFrom_4 hown hK.1 hP 0 rfl rfl 3 (by decide) (hts _ (List.mem_of_getElem? (i := 4) rfl)) (fun _ h9 => h9) rfl (zD_g DX4_copyFrom 15 rfl) ?_
  obtain ⟨size_1, hc2, hf⟩ := zb1_s hf
  refine z_N2 (As := [.ref (q0 1), .ref (q 1)]) (rest := []) (p0 := 19) (p1 := 1) (ws' := (zcat [(cWar cI q o_things o_gifts o_days size_1 weight sound harm in_ kind owner empty room told gate ear scale lost watch moments kept), (cWar cI q0 o_things o_gifts o_days o_size o_weight o_sound o_harm o_in_ o_kind o_owner o_empty o_room o_told o_gate o_ear o_scale o_lost o_watch o_moments o_kept)])) ⟨hx, hb, hml, hown, hts⟩ hK (c5_copyInts (from_ := o_size) (ar0 := (q0 1)) (n0 := 8) (to_ := size) (ar1 := (q 1)) (n1 := 8) hc2) ⟨va_cnB (own := RX4) (host := RX5) (index := 80) (y := yX5_copyInts) 2 hts gX4_copyFrom_X5_copyInts_n80 rfl rfl rfl (hK.2 (RX4, 80, yX5_copyInts) (List.mem_of_getElem? (i := 6) rfl)) (hts _ (List.mem_of_getElem? (i := 23) rfl)) hd5_copyInts ⟨Nat.le_of_ble_eq_true rfl, Nat.le_of_ble_eq_true rfl⟩, (hts _ (List.mem_of_getElem? (i := 22) rfl)), trivial⟩ hP hD hS hA rfl rfl (by decide) rfl rfl hl.1 rfl rfl (Nat.le_of_ble_eq_true rfl) (zD_g DX4_copyFrom 16 rfl) ⟨Nat.zero_le _, Nat.zero_le _⟩ (fun H locs hP hD hS => ?_)
  refine lv_aload_n hx hb (zD_g DX4_copyFrom 17 rfl) rfl (lv_at hl 1 rfl) ?_
  refine va_get (D := D) (ci := 3) (v := .ref (q0 2)) (C := RX4) (T := TX4) (N := 19) hx hb hts in4_copyFrom_4 hown hK.1 hP 18 rfl rfl 4 (by decide) (hts _ (List.mem_of_getElem? (i := 5) rfl)) (fun _ h9 => h9) rfl (zD_g DX4_copyFrom 18 rfl) ?_
  refine lv_aload_n hx hb (zD_g DX4_copyFrom 19 rfl) rfl (lv_at hl 0 rfl) ?_
  refine va_get (D := D) (ci := 3) (v := .ref (q 2)) (C := RX4) (T := TX4) (N := 19) hx hb hts in4_copyFrom_4 hown hK.1 hP 0 rfl rfl 4 (by decide) (hts _ (List.mem_of_getElem? (i := 5) rfl)) (fun _ h9 => h9) rfl (zD_g DX4_copyFrom 20 rfl) ?_
  obtain ⟨weight_3, hc4, hf⟩ := zb1_s hf
  refine z_N2 (As := [.ref (q0 2), .ref (q 2)]) (rest := []) (p0 := 20) (p1 := 2) (ws' := (zcat [(cWar cI q o_things o_gifts o_days size_1 weight_3 sound harm in_ kind owner empty room told gate ear scale lost watch moments kept), (cWar cI q0 o_things o_gifts o_days o_size o_weight o_sound o_harm o_in_ o_kind o_owner o_empty o_room o_told o_gate o_ear o_scale o_lost o_watch o_moments o_kept)])) ⟨hx, hb, hml, hown, hts⟩ hK (c5_copyInts (from_ := o_weight) (ar0 := (q0 2)) (n0 := 8) (to_ := weight) (ar1 := (q 2)) (n1 := 8) hc4) ⟨va_cnB (own := RX4) (host := RX5) (index := 80) (y := yX5_copyInts) 2 hts gX4_copyFrom_X5_copyInts_n80 rfl rfl rfl (hK.2 (RX4, 80, yX5_copyInts) (List.mem_of_getElem? (i := 6) rfl)) (hts _ (List.mem_of_getElem? (i := 23) rfl)) hd5_copyInts ⟨Nat.le_of_ble_eq_true rfl, Nat.le_of_ble_eq_true rfl⟩, (hts _ (List.mem_of_getElem? (i := 22) rfl)), trivial⟩ hP hD hS hA rfl rfl (by decide) rfl rfl hl.1 rfl rfl (Nat.le_of_ble_eq_true rfl) (zD_g DX4_copyFrom 21 rfl) ⟨Nat.zero_le _, Nat.zero_le _⟩ (fun H locs hP hD hS => ?_)
  refine lv_aload_n hx hb (zD_g DX4_copyFrom 22 rfl) rfl (lv_at hl 1 rfl) ?_
  refine va_get (D := D) (ci := 3) (v := .ref (q0 3)) (C := RX4) (T := TX4) (N := 19) hx hb hts in4_copyFrom_4 hown hK.1 hP 18 rfl rfl 5 (by decide) (hts _ (List.mem_of_getElem? (i := 6) rfl)) (fun _ h9 => h9) rfl (zD_g DX4_copyFrom 23 rfl) ?_
  refine lv_aload_n hx hb (zD_g DX4_copyFrom 24 rfl) rfl (lv_at hl 0 rfl) ?_
  refine va_get (D := D) (ci := 3) (v := .ref (q 3)) (C := RX4) (T := TX4) (N := 19) hx hb hts in4_copyFrom_4 hown hK.1 hP 0 rfl rfl 5 (by decide) (hts _ (List.mem_of_getElem? (i := 6) rfl)) (fun _ h9 => h9) rfl (zD_g DX4_copyFrom 25 rfl) ?_
  obtain ⟨sound_5, hc6, hf⟩ := zb1_s hf
  refine z_N2 (As := [.ref (q0 3), .ref (q 3)]) (rest := []) (p0 := 21) (p1 := 3) (ws' := (zcat [(cWar cI q o_things o_gifts o_days size_1 weight_3 sound_5 harm in_ kind owner empty room told gate ear scale lost watch moments kept), (cWar cI q0 o_things o_gifts o_days o_size o_weight o_sound o_harm o_in_ o_kind o_owner o_empty o_room o_told o_gate o_ear o_scale o_lost o_watch o_moments o_kept)])) ⟨hx, hb, hml, hown, hts⟩ hK (c5_copyInts (from_ := o_sound) (ar0 := (q0 3)) (n0 := 8) (to_ := sound) (ar1 := (q 3)) (n1 := 8) hc6) ⟨va_cnB (own := RX4) (host := RX5) (index := 80) (y := yX5_copyInts) 2 hts gX4_copyFrom_X5_copyInts_n80 rfl rfl rfl (hK.2 (RX4, 80, yX5_copyInts) (List.mem_of_getElem? (i := 6) rfl)) (hts _ (List.mem_of_getElem? (i := 23) rfl)) hd5_copyInts ⟨Nat.le_of_ble_eq_true rfl, Nat.le_of_ble_eq_true rfl⟩, (hts _ (List.mem_of_getElem? (i := 22) rfl)), trivial⟩ hP hD hS hA rfl rfl (by decide) rfl rfl hl.1 rfl rfl (Nat.le_of_ble_eq_true rfl) (zD_g DX4_copyFrom 26 rfl) ⟨Nat.zero_le _, Nat.zero_le _⟩ (fun H locs hP hD hS => ?_)
  refine lv_aload_n hx hb (zD_g DX4_copyFrom 27 rfl) rfl (lv_at hl 1 rfl) ?_
  refine va_get (D := D) (ci := 3) (v := .ref (q0 4)) (C := RX4) (T := TX4) (N := 19) hx hb hts in4_copyFrom_4 hown hK.1 hP 18 rfl rfl 6 (by decide) (hts _ (List.mem_of_getElem? (i := 7) rfl)) (fun _ h9 => h9) rfl (zD_g DX4_copyFrom 28 rfl) ?_
  refine lv_aload_n hx hb (zD_g DX4_copyFrom 29 rfl) rfl (lv_at hl 0 rfl) ?_
  refine va_get (D := D) (ci := 3) (v := .ref (q 4)) (C := RX4) (T := TX4) (N := 19) hx hb hts in4_copyFrom_4 hown hK.1 hP 0 rfl rfl 6 (by decide) (hts _ (List.mem_of_getElem? (i := 7) rfl)) (fun _ h9 => h9) rfl (zD_g DX4_copyFrom 30 rfl) ?_
  obtain ⟨harm_7, hc8, hf⟩ := zb1_s hf
  refine z_N2 (As := [.ref (q0 4), .ref (q 4)]) (rest := []) (p0 := 22) (p1 := 4) (ws' := (zcat [(cWar cI q o_things o_gifts o_days size_1 weight_3 sound_5 harm_7 in_ kind owner empty room told gate ear scale lost watch moments kept), (cWar cI q0 o_things o_gifts o_days o_size o_weight o_sound o_harm o_in_ o_kind o_owner o_empty o_room o_told o_gate o_ear o_scale o_lost o_watch o_moments o_kept)])) ⟨hx, hb, hml, hown, hts⟩ hK (c5_copyInts (from_ := o_harm) (ar0 := (q0 4)) (n0 := 8) (to_ := harm) (ar1 := (q 4)) (n1 := 8) hc8) ⟨va_cnB (own := RX4) (host := RX5) (index := 80) (y := yX5_copyInts) 2 hts gX4_copyFrom_X5_copyInts_n80 rfl rfl rfl (hK.2 (RX4, 80, yX5_copyInts) (List.mem_of_getElem? (i := 6) rfl)) (hts _ (List.mem_of_getElem? (i := 23) rfl)) hd5_copyInts ⟨Nat.le_of_ble_eq_true rfl, Nat.le_of_ble_eq_true rfl⟩, (hts _ (List.mem_of_getElem? (i := 22) rfl)), trivial⟩ hP hD hS hA rfl rfl (by decide) rfl rfl hl.1 rfl rfl (Nat.le_of_ble_eq_true rfl) (zD_g DX4_copyFrom 31 rfl) ⟨Nat.zero_le _, Nat.zero_le _⟩ (fun H locs hP hD hS => ?_)
  refine lv_aload_n hx hb (zD_g DX4_copyFrom 32 rfl) rfl (lv_at hl 1 rfl) ?_
  refine va_get (D := D) (ci := 3) (v := .ref (q0 5)) (C := RX4) (T := TX4) (N := 19) hx hb hts in4_copyFrom_4 hown hK.1 hP 18 rfl rfl 7 (by decide) (hts _ (List.mem_of_getElem? (i := 8) rfl)) (fun _ h9 => h9) rfl (zD_g DX4_copyFrom 33 rfl) ?_
  refine lv_aload_n hx hb (zD_g DX4_copyFrom 34 rfl) rfl (lv_at hl 0 rfl) ?_
  refine va_get (D := D) (ci := 3) (v := .ref (q 5)) (C := RX4) (T := TX4) (N := 19) hx hb hts in4_copyFrom_4 hown hK.1 hP 0 rfl rfl 7 (by decide) (hts _ (List.mem_of_getElem? (i := 8) rfl)) (fun _ h9 => h9) rfl (zD_g DX4_copyFrom 35 rfl) ?_
  obtain ⟨in_9, hc10, hf⟩ := zb1_s hf
  refine z_N2 (As := [.ref (q0 5), .ref (q 5)]) (rest := []) (p0 := 23) (p1 := 5) (ws' := (zcat [(cWar cI q o_things o_gifts o_days size_1 weight_3 sound_5 harm_7 in_9 kind owner empty room told gate ear scale lost watch moments kept), (cWar cI q0 o_things o_gifts o_days o_size o_weight o_sound o_harm o_in_ o_kind o_owner o_empty o_room o_told o_gate o_ear o_scale o_lost o_watch o_moments o_kept)])) ⟨hx, hb, hml, hown, hts⟩ hK (c5_copyInts (from_ := o_in_) (ar0 := (q0 5)) (n0 := 8) (to_ := in_) (ar1 := (q 5)) (n1 := 8) hc10) ⟨va_cnB (own := RX4) (host := RX5) (index := 80) (y := yX5_copyInts) 2 hts gX4_copyFrom_X5_copyInts_n80 rfl rfl rfl (hK.2 (RX4, 80, yX5_copyInts) (List.mem_of_getElem? (i := 6) rfl)) (hts _ (List.mem_of_getElem? (i := 23) rfl)) hd5_copyInts ⟨Nat.le_of_ble_eq_true rfl, Nat.le_of_ble_eq_true rfl⟩, (hts _ (List.mem_of_getElem? (i := 22) rfl)), trivial⟩ hP hD hS hA rfl rfl (by decide) rfl rfl hl.1 rfl rfl (Nat.le_of_ble_eq_true rfl) (zD_g DX4_copyFrom 36 rfl) ⟨Nat.zero_le _, Nat.zero_le _⟩ (fun H locs hP hD hS => ?_)
  refine lv_aload_n hx hb (zD_g DX4_copyFrom 37 rfl) rfl (lv_at hl 1 rfl) ?_
  refine va_get (D := D) (ci := 3) (v := .ref (q0 6)) (C := RX4) (T := TX4) (N := 19) hx hb hts in4_copyFrom_4 hown hK.1 hP 18 rfl rfl 8 (by decide) (hts _ (List.mem_of_getElem? (i := 9) rfl)) (fun _ h9 => h9) rfl (zD_g DX4_copyFrom 38 rfl) ?_
  refine lv_aload_n hx hb (zD_g DX4_copyFrom 39 rfl) rfl (lv_at hl 0 rfl) ?_
  refine va_get (D := D) (ci := 3) (v := .ref (q 6)) (C := RX4) (T := TX4) (N := 19) hx hb hts in4_copyFrom_4 hown hK.1 hP 0 rfl rfl 8 (by decide) (hts _ (List.mem_of_getElem? (i := 9) rfl)) (fun _ h9 => h9) rfl (zD_g DX4_copyFrom 40 rfl) ?_
  obtain ⟨kind_11, hc12, hf⟩ := zb1_s hf
  refine z_N2 (As := [.ref (q0 6), .ref (q 6)]) (rest := []) (p0 := 24) (p1 := 6) (ws' := (zcat [(cWar cI q o_things o_gifts o_days size_1 weight_3 sound_5 harm_7 in_9 kind_11 owner empty room told gate ear scale lost watch moments kept), (cWar cI q0 o_things o_gifts o_days o_size o_weight o_sound o_harm o_in_ o_kind o_owner o_empty o_room o_told o_gate o_ear o_scale o_lost o_watch o_moments o_kept)])) ⟨hx, hb, hml, hown, hts⟩ hK (c5_copyInts (from_ := o_kind) (ar0 := (q0 6)) (n0 := 6) (to_ := kind) (ar1 := (q 6)) (n1 := 6) hc12) ⟨va_cnB (own := RX4) (host := RX5) (index := 80) (y := yX5_copyInts) 2 hts gX4_copyFrom_X5_copyInts_n80 rfl rfl rfl (hK.2 (RX4, 80, yX5_copyInts) (List.mem_of_getElem? (i := 6) rfl)) (hts _ (List.mem_of_getElem? (i := 23) rfl)) hd5_copyInts ⟨Nat.le_of_ble_eq_true rfl, Nat.le_of_ble_eq_true rfl⟩, (hts _ (List.mem_of_getElem? (i := 22) rfl)), trivial⟩ hP hD hS hA rfl rfl (by decide) rfl rfl hl.1 rfl rfl (Nat.le_of_ble_eq_true rfl) (zD_g DX4_copyFrom 41 rfl) ⟨Nat.zero_le _, Nat.zero_le _⟩ (fun H locs hP hD hS => ?_)
  refine lv_aload_n hx hb (zD_g DX4_copyFrom 42 rfl) rfl (lv_at hl 1 rfl) ?_
  refine va_get (D := D) (ci := 3) (v := .ref (q0 7)) (C := RX4) (T := TX4) (N := 19) hx hb hts in4_copyFrom_4 hown hK.1 hP 18 rfl rfl 9 (by decide) (hts _ (List.mem_of_getElem? (i := 10) rfl)) (fun _ h9 => h9) rfl (zD_g DX4_copyFrom 43 rfl) ?_
  refine lv_aload_n hx hb (zD_g DX4_copyFrom 44 rfl) rfl (lv_at hl 0 rfl) ?_
  refine va_get (D := D) (ci := 3) (v := .ref (q 7)) (C := RX4) (T := TX4) (N := 19) hx hb hts in4_copyFrom_4 hown hK.1 hP 0 rfl rfl 9 (by decide) (hts _ (List.mem_of_getElem? (i := 10) rfl)) (fun _ h9 => h9) rfl (zD_g DX4_copyFrom 45 rfl) ?_
  obtain ⟨owner_13, hc14, hf⟩ := zb1_s hf
  refine z_N2 (As := [.ref (q0 7), .ref (q 7)]) (rest := []) (p0 := 25) (p1 := 7) (ws' := (zcat [(cWar cI q o_things o_gifts o_days size_1 weight_3 sound_5 harm_7 in_9 kind_11 owner_13 empty room told gate ear scale lost watch moments kept), (cWar cI q0 o_things o_gifts o_days o_size o_weight o_sound o_harm o_in_ o_kind o_owner o_empty o_room o_told o_gate o_ear o_scale o_lost o_watch o_moments o_kept)])) ⟨hx, hb, hml, hown, hts⟩ hK (c5_copyInts (from_ := o_owner) (ar0 := (q0 7)) (n0 := 6) (to_ := owner) (ar1 := (q 7)) (n1 := 6) hc14) ⟨va_cnB (own := RX4) (host := RX5) (index := 80) (y := yX5_copyInts) 2 hts gX4_copyFrom_X5_copyInts_n80 rfl rfl rfl (hK.2 (RX4, 80, yX5_copyInts) (List.mem_of_getElem? (i := 6) rfl)) (hts _ (List.mem_of_getElem? (i := 23) rfl)) hd5_copyInts ⟨Nat.le_of_ble_eq_true rfl, Nat.le_of_ble_eq_true rfl⟩, (hts _ (List.mem_of_getElem? (i := 22) rfl)), trivial⟩ hP hD hS hA rfl rfl (by decide) rfl rfl hl.1 rfl rfl (Nat.le_of_ble_eq_true rfl) (zD_g DX4_copyFrom 46 rfl) ⟨Nat.zero_le _, Nat.zero_le _⟩ (fun H locs hP hD hS => ?_)
  refine lv_aload_n hx hb (zD_g DX4_copyFrom 47 rfl) rfl (lv_at hl 1 rfl) ?_
  refine va_get (D := D) (ci := 3) (v := .ref (q0 8)) (C := RX4) (T := TX4) (N := 19) hx hb hts in4_copyFrom_4 hown hK.1 hP 18 rfl rfl 10 (by decide) (hts _ (List.mem_of_getElem? (i := 11) rfl)) (fun _ h9 => h9) rfl (zD_g DX4_copyFrom 48 rfl) ?_
  refine lv_aload_n hx hb (zD_g DX4_copyFrom 49 rfl) rfl (lv_at hl 0 rfl) ?_
  refine va_get (D := D) (ci := 3) (v := .ref (q 8)) (C := RX4) (T := TX4) (N := 19) hx hb hts in4_copyFrom_4 hown hK.1 hP 0 rfl rfl 10 (by decide) (hts _ (List.mem_of_getElem? (i := 11) rfl)) (fun _ h9 => h9) rfl (zD_g DX4_copyFrom 50 rfl) ?_
  obtain ⟨empty_15, hc16, hf⟩ := zb1_s hf
  refine z_N2 (As := [.ref (q0 8), .ref (q 8)]) (rest := []) (p0 := 26) (p1 := 8) (ws' := (zcat [(cWar cI q o_things o_gifts o_days size_1 weight_3 sound_5 harm_7 in_9 kind_11 owner_13 empty_15 room told gate ear scale lost watch moments kept), (cWar cI q0 o_things o_gifts o_days o_size o_weight o_sound o_harm o_in_ o_kind o_owner o_empty o_room o_told o_gate o_ear o_scale o_lost o_watch o_moments o_kept)])) ⟨hx, hb, hml, hown, hts⟩ hK (c5_copyInts (from_ := o_empty) (ar0 := (q0 8)) (n0 := 6) (to_ := empty) (ar1 := (q 8)) (n1 := 6) hc16) ⟨va_cnB (own := RX4) (host := RX5) (index := 80) (y := yX5_copyInts) 2 hts gX4_copyFrom_X5_copyInts_n80 rfl rfl rfl (hK.2 (RX4, 80, yX5_copyInts) (List.mem_of_getElem? (i := 6) rfl)) (hts _ (List.mem_of_getElem? (i := 23) rfl)) hd5_copyInts ⟨Nat.le_of_ble_eq_true rfl, Nat.le_of_ble_eq_true rfl⟩, (hts _ (List.mem_of_getElem? (i := 22) rfl)), trivial⟩ hP hD hS hA rfl rfl (by decide) rfl rfl hl.1 rfl rfl (Nat.le_of_ble_eq_true rfl) (zD_g DX4_copyFrom 51 rfl) ⟨Nat.zero_le _, Nat.zero_le _⟩ (fun H locs hP hD hS => ?_)
  refine lv_aload_n hx hb (zD_g DX4_copyFrom 52 rfl) rfl (lv_at hl 1 rfl) ?_
  refine va_get (D := D) (ci := 3) (v := .ref (q0 9)) (C := RX4) (T := TX4) (N := 19) hx hb hts in4_copyFrom_4 hown hK.1 hP 18 rfl rfl 11 (by decide) (hts _ (List.mem_of_getElem? (i := 12) rfl)) (fun _ h9 => h9) rfl (zD_g DX4_copyFrom 53 rfl) ?_
  refine lv_aload_n hx hb (zD_g DX4_copyFrom 54 rfl) rfl (lv_at hl 0 rfl) ?_
  refine va_get (D := D) (ci := 3) (v := .ref (q 9)) (C := RX4) (T := TX4) (N := 19) hx hb hts in4_copyFrom_4 hown hK.1 hP 0 rfl rfl 11 (by decide) (hts _ (List.mem_of_getElem? (i := 12) rfl)) (fun _ h9 => h9) rfl (zD_g DX4_copyFrom 55 rfl) ?_
  obtain ⟨room_17, hc18, hf⟩ := zb1_s hf
  refine z_N2 (As := [.ref (q0 9), .ref (q 9)]) (rest := []) (p0 := 27) (p1 := 9) (ws' := (zcat [(cWar cI q o_things o_gifts o_days size_1 weight_3 sound_5 harm_7 in_9 kind_11 owner_13 empty_15 room_17 told gate ear scale lost watch moments kept), (cWar cI q0 o_things o_gifts o_days o_size o_weight o_sound o_harm o_in_ o_kind o_owner o_empty o_room o_told o_gate o_ear o_scale o_lost o_watch o_moments o_kept)])) ⟨hx, hb, hml, hown, hts⟩ hK (c5_copyInts (from_ := o_room) (ar0 := (q0 9)) (n0 := 6) (to_ := room) (ar1 := (q 9)) (n1 := 6) hc18) ⟨va_cnB (own := RX4) (host := RX5) (index := 80) (y := yX5_copyInts) 2 hts gX4_copyFrom_X5_copyInts_n80 rfl rfl rfl (hK.2 (RX4, 80, yX5_copyInts) (List.mem_of_getElem? (i := 6) rfl)) (hts _ (List.mem_of_getElem? (i := 23) rfl)) hd5_copyInts ⟨Nat.le_of_ble_eq_true rfl, Nat.le_of_ble_eq_true rfl⟩, (hts _ (List.mem_of_getElem? (i := 22) rfl)), trivial⟩ hP hD hS hA rfl rfl (by decide) rfl rfl hl.1 rfl rfl (Nat.le_of_ble_eq_true rfl) (zD_g DX4_copyFrom 56 rfl) ⟨Nat.zero_le _, Nat.zero_le _⟩ (fun H locs hP hD hS => ?_)
  refine lv_aload_n hx hb (zD_g DX4_copyFrom 57 rfl) rfl (lv_at hl 1 rfl) ?_
  refine va_get (D := D) (ci := 3) (v := .ref (q0 10)) (C := RX4) (T := TX4) (N := 19) hx hb hts in4_copyFrom_4 hown hK.1 hP 18 rfl rfl 12 (by decide) (hts _ (List.mem_of_getElem? (i := 13) rfl)) (fun _ h9 => h9) rfl (zD_g DX4_copyFrom 58 rfl) ?_
  refine lv_aload_n hx hb (zD_g DX4_copyFrom 59 rfl) rfl (lv_at hl 0 rfl) ?_
  refine va_get (D := D) (ci := 3) (v := .ref (q 10)) (C := RX4) (T := TX4) (N := 19) hx hb hts in4_copyFrom_4 hown hK.1 hP 0 rfl rfl 12 (by decide) (hts _ (List.mem_of_getElem? (i := 13) rfl)) (fun _ h9 => h9) rfl (zD_g DX4_copyFrom 60 rfl) ?_
  obtain ⟨told_19, hc20, hf⟩ := zb1_s hf
  refine z_N2 (As := [.ref (q0 10), .ref (q 10)]) (rest := []) (p0 := 28) (p1 := 10) (ws' := (zcat [(cWar cI q o_things o_gifts o_days size_1 weight_3 sound_5 harm_7 in_9 kind_11 owner_13 empty_15 room_17 told_19 gate ear scale lost watch moments kept), (cWar cI q0 o_things o_gifts o_days o_size o_weight o_sound o_harm o_in_ o_kind o_owner o_empty o_room o_told o_gate o_ear o_scale o_lost o_watch o_moments o_kept)])) ⟨hx, hb, hml, hown, hts⟩ hK (c5_copyInts (from_ := o_told) (ar0 := (q0 10)) (n0 := 6) (to_ := told) (ar1 := (q 10)) (n1 := 6) hc20) ⟨va_cnB (own := RX4) (host := RX5) (index := 80) (y := yX5_copyInts) 2 hts gX4_copyFrom_X5_copyInts_n80 rfl rfl rfl (hK.2 (RX4, 80, yX5_copyInts) (List.mem_of_getElem? (i := 6) rfl)) (hts _ (List.mem_of_getElem? (i := 23) rfl)) hd5_copyInts ⟨Nat.le_of_ble_eq_true rfl, Nat.le_of_ble_eq_true rfl⟩, (hts _ (List.mem_of_getElem? (i := 22) rfl)), trivial⟩ hP hD hS hA rfl rfl (by decide) rfl rfl hl.1 rfl rfl (Nat.le_of_ble_eq_true rfl) (zD_g DX4_copyFrom 61 rfl) ⟨Nat.zero_le _, Nat.zero_le _⟩ (fun H locs hP hD hS => ?_)
  refine lv_aload_n hx hb (zD_g DX4_copyFrom 62 rfl) rfl (lv_at hl 1 rfl) ?_
  refine va_get (D := D) (ci := 3) (v := .ref (q0 11)) (C := RX4) (T := TX4) (N := 19) hx hb hts in4_copyFrom_4 hown hK.1 hP 18 rfl rfl 13 (by decide) (hts _ (List.mem_of_getElem? (i := 14) rfl)) (fun _ h9 => h9) rfl (zD_g DX4_copyFrom 63 rfl) ?_
  refine lv_aload_n hx hb (zD_g DX4_copyFrom 64 rfl) rfl (lv_at hl 0 rfl) ?_
  refine va_get (D := D) (ci := 3) (v := .ref (q 11)) (C := RX4) (T := TX4) (N := 19) hx hb hts in4_copyFrom_4 hown hK.1 hP 0 rfl rfl 13 (by decide) (hts _ (List.mem_of_getElem? (i := 14) rfl)) (fun _ h9 => h9) rfl (zD_g DX4_copyFrom 65 rfl) ?_
  obtain ⟨gate_21, hc22, hf⟩ := zb1_s hf
  refine z_N2 (As := [.ref (q0 11), .ref (q 11)]) (rest := []) (p0 := 29) (p1 := 11) (ws' := (zcat [(cWar cI q o_things o_gifts o_days size_1 weight_3 sound_5 harm_7 in_9 kind_11 owner_13 empty_15 room_17 told_19 gate_21 ear scale lost watch moments kept), (cWar cI q0 o_things o_gifts o_days o_size o_weight o_sound o_harm o_in_ o_kind o_owner o_empty o_room o_told o_gate o_ear o_scale o_lost o_watch o_moments o_kept)])) ⟨hx, hb, hml, hown, hts⟩ hK (c5_copyInts (from_ := o_gate) (ar0 := (q0 11)) (n0 := 2) (to_ := gate) (ar1 := (q 11)) (n1 := 2) hc22) ⟨va_cnB (own := RX4) (host := RX5) (index := 80) (y := yX5_copyInts) 2 hts gX4_copyFrom_X5_copyInts_n80 rfl rfl rfl (hK.2 (RX4, 80, yX5_copyInts) (List.mem_of_getElem? (i := 6) rfl)) (hts _ (List.mem_of_getElem? (i := 23) rfl)) hd5_copyInts ⟨Nat.le_of_ble_eq_true rfl, Nat.le_of_ble_eq_true rfl⟩, (hts _ (List.mem_of_getElem? (i := 22) rfl)), trivial⟩ hP hD hS hA rfl rfl (by decide) rfl rfl hl.1 rfl rfl (Nat.le_of_ble_eq_true rfl) (zD_g DX4_copyFrom 66 rfl) ⟨Nat.zero_le _, Nat.zero_le _⟩ (fun H locs hP hD hS => ?_)
  refine lv_aload_n hx hb (zD_g DX4_copyFrom 67 rfl) rfl (lv_at hl 1 rfl) ?_
  refine va_get (D := D) (ci := 3) (v := .ref (q0 12)) (C := RX4) (T := TX4) (N := 19) hx hb hts in4_copyFrom_4 hown hK.1 hP 18 rfl rfl 14 (by decide) (hts _ (List.mem_of_getElem? (i := 15) rfl)) (fun _ h9 => h9) rfl (zD_g DX4_copyFrom 68 rfl) ?_
  refine lv_aload_n hx hb (zD_g DX4_copyFrom 69 rfl) rfl (lv_at hl 0 rfl) ?_
  refine va_get (D := D) (ci := 3) (v := .ref (q 12)) (C := RX4) (T := TX4) (N := 19) hx hb hts in4_copyFrom_4 hown hK.1 hP 0 rfl rfl 14 (by decide) (hts _ (List.mem_of_getElem? (i := 15) rfl)) (fun _ h9 => h9) rfl (zD_g DX4_copyFrom 70 rfl) ?_
  obtain ⟨ear_23, hc24, hf⟩ := zb1_s hf
  refine z_N2 (As := [.ref (q0 12), .ref (q 12)]) (rest := []) (p0 := 30) (p1 := 12) (ws' := (zcat [(cWar cI q o_things o_gifts o_days size_1 weight_3 sound_5 harm_7 in_9 kind_11 owner_13 empty_15 room_17 told_19 gate_21 ear_23 scale lost watch moments kept), (cWar cI q0 o_things o_gifts o_days o_size o_weight o_sound o_harm o_in_ o_kind o_owner o_empty o_room o_told o_gate o_ear o_scale o_lost o_watch o_moments o_kept)])) ⟨hx, hb, hml, hown, hts⟩ hK (c5_copyInts (from_ := o_ear) (ar0 := (q0 12)) (n0 := 2) (to_ := ear) (ar1 := (q 12)) (n1 := 2) hc24) ⟨va_cnB (own := RX4) (host := RX5) (index := 80) (y := yX5_copyInts) 2 hts gX4_copyFrom_X5_copyInts_n80 rfl rfl rfl (hK.2 (RX4, 80, yX5_copyInts) (List.mem_of_getElem? (i := 6) rfl)) (hts _ (List.mem_of_getElem? (i := 23) rfl)) hd5_copyInts ⟨Nat.le_of_ble_eq_true rfl, Nat.le_of_ble_eq_true rfl⟩, (hts _ (List.mem_of_getElem? (i := 22) rfl)), trivial⟩ hP hD hS hA rfl rfl (by decide) rfl rfl hl.1 rfl rfl (Nat.le_of_ble_eq_true rfl) (zD_g DX4_copyFrom 71 rfl) ⟨Nat.zero_le _, Nat.zero_le _⟩ (fun H locs hP hD hS => ?_)
  refine lv_aload_n hx hb (zD_g DX4_copyFrom 72 rfl) rfl (lv_at hl 1 rfl) ?_
  refine va_get (D := D) (ci := 3) (v := .ref (q0 13)) (C := RX4) (T := TX4) (N := 19) hx hb hts in4_copyFrom_4 hown hK.1 hP 18 rfl rfl 15 (by decide) (hts _ (List.mem_of_getElem? (i := 16) rfl)) (fun _ h9 => h9) rfl (zD_g DX4_copyFrom 73 rfl) ?_
  refine lv_aload_n hx hb (zD_g DX4_copyFrom 74 rfl) rfl (lv_at hl 0 rfl) ?_
  refine va_get (D := D) (ci := 3) (v := .ref (q 13)) (C := RX4) (T := TX4) (N := 19) hx hb hts in4_copyFrom_4 hown hK.1 hP 0 rfl rfl 15 (by decide) (hts _ (List.mem_of_getElem? (i := 16) rfl)) (fun _ h9 => h9) rfl (zD_g DX4_copyFrom 75 rfl) ?_
  obtain ⟨scale_25, hc26, hf⟩ := zb1_s hf
  refine z_N2 (As := [.ref (q0 13), .ref (q 13)]) (rest := []) (p0 := 31) (p1 := 13) (ws' := (zcat [(cWar cI q o_things o_gifts o_days size_1 weight_3 sound_5 harm_7 in_9 kind_11 owner_13 empty_15 room_17 told_19 gate_21 ear_23 scale_25 lost watch moments kept), (cWar cI q0 o_things o_gifts o_days o_size o_weight o_sound o_harm o_in_ o_kind o_owner o_empty o_room o_told o_gate o_ear o_scale o_lost o_watch o_moments o_kept)])) ⟨hx, hb, hml, hown, hts⟩ hK (c5_copyInts (from_ := o_scale) (ar0 := (q0 13)) (n0 := 2) (to_ := scale) (ar1 := (q 13)) (n1 := 2) hc26) ⟨va_cnB (own := RX4) (host := RX5) (index := 80) (y := yX5_copyInts) 2 hts gX4_copyFrom_X5_copyInts_n80 rfl rfl rfl (hK.2 (RX4, 80, yX5_copyInts) (List.mem_of_getElem? (i := 6) rfl)) (hts _ (List.mem_of_getElem? (i := 23) rfl)) hd5_copyInts ⟨Nat.le_of_ble_eq_true rfl, Nat.le_of_ble_eq_true rfl⟩, (hts _ (List.mem_of_getElem? (i := 22) rfl)), trivial⟩ hP hD hS hA rfl rfl (by decide) rfl rfl hl.1 rfl rfl (Nat.le_of_ble_eq_true rfl) (zD_g DX4_copyFrom 76 rfl) ⟨Nat.zero_le _, Nat.zero_le _⟩ (fun H locs hP hD hS => ?_)
  refine lv_aload_n hx hb (zD_g DX4_copyFrom 77 rfl) rfl (lv_at hl 1 rfl) ?_
  refine va_get (D := D) (ci := 3) (v := .ref (q0 14)) (C := RX4) (T := TX4) (N := 19) hx hb hts in4_copyFrom_4 hown hK.1 hP 18 rfl rfl 16 (by decide) (hts _ (List.mem_of_getElem? (i := 17) rfl)) (fun _ h9 => h9) rfl (zD_g DX4_copyFrom 78 rfl) ?_
  refine lv_aload_n hx hb (zD_g DX4_copyFrom 79 rfl) rfl (lv_at hl 0 rfl) ?_
  refine va_get (D := D) (ci := 3) (v := .ref (q 14)) (C := RX4) (T := TX4) (N := 19) hx hb hts in4_copyFrom_4 hown hK.1 hP 0 rfl rfl 16 (by decide) (hts _ (List.mem_of_getElem? (i := 17) rfl)) (fun _ h9 => h9) rfl (zD_g DX4_copyFrom 80 rfl) ?_
  obtain ⟨lost_27, hc28, hf⟩ := zb1_s hf
  refine z_N2 (As := [.ref (q0 14), .ref (q 14)]) (rest := []) (p0 := 32) (p1 := 14) (ws' := (zcat [(cWar cI q o_things o_gifts o_days size_1 weight_3 sound_5 harm_7 in_9 kind_11 owner_13 empty_15 room_17 told_19 gate_21 ear_23 scale_25 lost_27 watch moments kept), (cWar cI q0 o_things o_gifts o_days o_size o_weight o_sound o_harm o_in_ o_kind o_owner o_empty o_room o_told o_gate o_ear o_scale o_lost o_watch o_moments o_kept)])) ⟨hx, hb, hml, hown, hts⟩ hK (c5_copyInts (from_ := o_lost) (ar0 := (q0 14)) (n0 := 2) (to_ := lost) (ar1 := (q 14)) (n1 := 2) hc28) ⟨va_cnB (own := RX4) (host := RX5) (index := 80) (y := yX5_copyInts) 2 hts gX4_copyFrom_X5_copyInts_n80 rfl rfl rfl (hK.2 (RX4, 80, yX5_copyInts) (List.mem_of_getElem? (i := 6) rfl)) (hts _ (List.mem_of_getElem? (i := 23) rfl)) hd5_copyInts ⟨Nat.le_of_ble_eq_true rfl, Nat.le_of_ble_eq_true rfl⟩, (hts _ (List.mem_of_getElem? (i := 22) rfl)), trivial⟩ hP hD hS hA rfl rfl (by decide) rfl rfl hl.1 rfl rfl (Nat.le_of_ble_eq_true rfl) (zD_g DX4_copyFrom 81 rfl) ⟨Nat.zero_le _, Nat.zero_le _⟩ (fun H locs hP hD hS => ?_)
  refine lv_aload_n hx hb (zD_g DX4_copyFrom 82 rfl) rfl (lv_at hl 1 rfl) ?_
  refine va_get (D := D) (ci := 3) (v := .ref (q0 15)) (C := RX4) (T := TX4) (N := 19) hx hb hts in4_copyFrom_4 hown hK.1 hP 18 rfl rfl 17 (by decide) (hts _ (List.mem_of_getElem? (i := 18) rfl)) (fun _ h9 => h9) rfl (zD_g DX4_copyFrom 83 rfl) ?_
  refine lv_aload_n hx hb (zD_g DX4_copyFrom 84 rfl) rfl (lv_at hl 0 rfl) ?_
  refine va_get (D := D) (ci := 3) (v := .ref (q 15)) (C := RX4) (T := TX4) (N := 19) hx hb hts in4_copyFrom_4 hown hK.1 hP 0 rfl rfl 17 (by decide) (hts _ (List.mem_of_getElem? (i := 18) rfl)) (fun _ h9 => h9) rfl (zD_g DX4_copyFrom 85 rfl) ?_
  obtain ⟨watch_29, hc30, hf⟩ := zb1_s hf
  refine z_N2 (As := [.ref (q0 15), .ref (q 15)]) (rest := []) (p0 := 33) (p1 := 15) (ws' := (zcat [(cWar cI q o_things o_gifts o_days size_1 weight_3 sound_5 harm_7 in_9 kind_11 owner_13 empty_15 room_17 told_19 gate_21 ear_23 scale_25 lost_27 watch_29 moments kept), (cWar cI q0 o_things o_gifts o_days o_size o_weight o_sound o_harm o_in_ o_kind o_owner o_empty o_room o_told o_gate o_ear o_scale o_lost o_watch o_moments o_kept)])) ⟨hx, hb, hml, hown, hts⟩ hK (c5_copyInts (from_ := o_watch) (ar0 := (q0 15)) (n0 := 12) (to_ := watch) (ar1 := (q 15)) (n1 := 12) hc30) ⟨va_cnB (own := RX4) (host := RX5) (index := 80) (y := yX5_copyInts) 2 hts gX4_copyFrom_X5_copyInts_n80 rfl rfl rfl (hK.2 (RX4, 80, yX5_copyInts) (List.mem_of_getElem? (i := 6) rfl)) (hts _ (List.mem_of_getElem? (i := 23) rfl)) hd5_copyInts ⟨Nat.le_of_ble_eq_true rfl, Nat.le_of_ble_eq_true rfl⟩, (hts _ (List.mem_of_getElem? (i := 22) rfl)), trivial⟩ hP hD hS hA rfl rfl (by decide) rfl rfl hl.1 rfl rfl (Nat.le_of_ble_eq_true rfl) (zD_g DX4_copyFrom 86 rfl) ⟨Nat.zero_le _, Nat.zero_le _⟩ (fun H locs hP hD hS => ?_)
  refine lv_aload_n hx hb (zD_g DX4_copyFrom 87 rfl) rfl (lv_at hl 1 rfl) ?_
  refine va_get (D := D) (ci := 3) (v := .ref (q0 16)) (C := RX4) (T := TX4) (N := 19) hx hb hts in4_copyFrom_4 hown hK.1 hP 18 rfl rfl 18 (by decide) (hts _ (List.mem_of_getElem? (i := 19) rfl)) (fun _ h9 => h9) rfl (zD_g DX4_copyFrom 88 rfl) ?_
  refine va_get (D := D) (ci := 1) (v := .ref (q0 17)) (C := RX2) (T := TX2) (N := 2) hx hb hts in4_copyFrom_2 hown hK.1 hP 34 rfl rfl 1 (by decide) (hts _ (List.mem_of_getElem? (i := 20) rfl)) (fun _ h9 => h9) rfl (zD_g DX4_copyFrom 89 rfl) ?_
  refine lv_aload_n hx hb (zD_g DX4_copyFrom 90 rfl) rfl (lv_at hl 0 rfl) ?_
  refine va_get (D := D) (ci := 3) (v := .ref (q 16)) (C := RX4) (T := TX4) (N := 19) hx hb hts in4_copyFrom_4 hown hK.1 hP 0 rfl rfl 18 (by decide) (hts _ (List.mem_of_getElem? (i := 19) rfl)) (fun _ h9 => h9) rfl (zD_g DX4_copyFrom 91 rfl) ?_
  refine va_get (D := D) (ci := 1) (v := .ref (q 17)) (C := RX2) (T := TX2) (N := 2) hx hb hts in4_copyFrom_2 hown hK.1 hP 16 rfl rfl 1 (by decide) (hts _ (List.mem_of_getElem? (i := 20) rfl)) (fun _ h9 => h9) rfl (zD_g DX4_copyFrom 92 rfl) ?_
  obtain ⟨kept_31, hc32, hf⟩ := zb1_s hf
  refine z_N2 (As := [.ref (q0 17), .ref (q 17)]) (rest := []) (p0 := 35) (p1 := 17) (ws' := (zcat [(cWar cI q o_things o_gifts o_days size_1 weight_3 sound_5 harm_7 in_9 kind_11 owner_13 empty_15 room_17 told_19 gate_21 ear_23 scale_25 lost_27 watch_29 moments kept_31), (cWar cI q0 o_things o_gifts o_days o_size o_weight o_sound o_harm o_in_ o_kind o_owner o_empty o_room o_told o_gate o_ear o_scale o_lost o_watch o_moments o_kept)])) ⟨hx, hb, hml, hown, hts⟩ hK (c5_copyInts (from_ := o_kept) (ar0 := (q0 17)) (n0 := 136) (to_ := kept) (ar1 := (q 17)) (n1 := 136) hc32) ⟨va_cnB (own := RX4) (host := RX5) (index := 80) (y := yX5_copyInts) 2 hts gX4_copyFrom_X5_copyInts_n80 rfl rfl rfl (hK.2 (RX4, 80, yX5_copyInts) (List.mem_of_getElem? (i := 6) rfl)) (hts _ (List.mem_of_getElem? (i := 23) rfl)) hd5_copyInts ⟨Nat.le_of_ble_eq_true rfl, Nat.le_of_ble_eq_true rfl⟩, (hts _ (List.mem_of_getElem? (i := 22) rfl)), trivial⟩ hP hD hS hA rfl rfl (by decide) rfl rfl hl.1 rfl rfl (Nat.le_of_ble_eq_true rfl) (zD_g DX4_copyFrom 93 rfl) ⟨Nat.zero_le _, Nat.zero_le _⟩ (fun H locs hP hD hS => ?_)
  refine lv_aload_n hx hb (zD_g DX4_copyFrom 94 rfl) rfl (lv_at hl 0 rfl) ?_
  refine va_get (D := D) (ci := 3) (v := .ref (q 16)) (C := RX4) (T := TX4) (N := 19) hx hb hts in4_copyFrom_4 hown hK.1 hP 0 rfl rfl 18 (by decide) (hts _ (List.mem_of_getElem? (i := 19) rfl)) (fun _ h9 => h9) rfl (zD_g DX4_copyFrom 95 rfl) ?_
  refine lv_aload_n hx hb (zD_g DX4_copyFrom 96 rfl) rfl (lv_at hl 1 rfl) ?_
  refine va_get (D := D) (ci := 3) (v := .ref (q0 16)) (C := RX4) (T := TX4) (N := 19) hx hb hts in4_copyFrom_4 hown hK.1 hP 18 rfl rfl 18 (by decide) (hts _ (List.mem_of_getElem? (i := 19) rfl)) (fun _ h9 => h9) rfl (zD_g DX4_copyFrom 97 rfl) ?_
  refine va_get (D := D) (ci := 1) (v := .int o_moments) (C := RX2) (T := TX2) (N := 2) hx hb hts in4_copyFrom_2 hown hK.1 hP 34 rfl rfl 0 (by decide) (hts _ (List.mem_of_getElem? (i := 21) rfl)) (fun _ h9 => h9) rfl (zD_g DX4_copyFrom 98 rfl) ?_
  refine z_put (D := D) (ci := 1) (v := .int o_moments) (ty := .int) (C := RX2) (T := TX2) (N := 2) (ws' := (zcat [(cWar cI q o_things o_gifts o_days size_1 weight_3 sound_5 harm_7 in_9 kind_11 owner_13 empty_15 room_17 told_19 gate_21 ear_23 scale_25 lost_27 watch_29 o_moments kept_31), (cWar cI q0 o_things o_gifts o_days o_size o_weight o_sound o_harm o_in_ o_kind o_owner o_empty o_room o_told o_gate o_ear o_scale o_lost o_watch o_moments o_kept)])) hx hb hts in4_copyFrom_2 tyX2 tyX2_ok nmX2 hown hK.1 hP hD hS 16 rfl rfl 0 (by decide) (hts _ (List.mem_of_getElem? (i := 21) rfl)) (fun _ h9 => h9) rfl (tyX2_ok 0 (by decide)) rfl rfl (Nat.le_of_ble_eq_true rfl) rfl (zD_g DX4_copyFrom 99 rfl) (fun H locs hP hD hS => ?_)
  cases hf
  exact hret _ _ _ _ hP hD hS (zD_g DX4_copyFrom 100 rfl)
abbrev dlX4_otherCity : List (Nat × Instr × Nat) := [(0, .iconst 1, 1), (1, .aload_n 0, 1), (2, .getfield 30, 3), (5, .iload_n 1, 1), (6, .iaload, 1), (7, .isub, 1), (8, .ireturn, 1)]
theorem DX4_otherCity : zD cX4_otherCity dlX4_otherCity = true := by decide +kernel
theorem hd4_otherCity : yX4_otherCity.cls = RX4 ∧ yX4_otherCity.cls ≠ "java/lang/invoke/MethodHandle" ∧ yX4_otherCity.cls ≠ "java/lang/invoke/VarHandle" ∧ (parseMethodDescriptor yX4_otherCity.desc).map (fun d => d.parameters.length) = some 1 := by decide +kernel
abbrev rm4_otherCity : Room := { frames := 0, cells := 0, slots := 0, locals := 0 }
theorem in4_otherCity_4 : ∀ w ∈ wsX40, w ∈ wsX4_otherCity := fun w h => List.mem_cons_of_mem _ (List.mem_append_right _ h)
set_option maxHeartbeats 4000000 in
set_option maxRecDepth 100000 in
theorem c4_otherCity {l : Launch} {D : va_G} {cI cZ cB : ClassId} {q : Nat → Nat} {things : Int32} {gifts : Int32} {days : Int32} {size : Nat → Int32} {weight : Nat → Int32} {sound : Nat → Int32} {harm : Nat → Int32} {in_ : Nat → Int32} {kind : Nat → Int32} {owner : Nat → Int32} {empty : Nat → Int32} {room : Nat → Int32} {told : Nat → Int32} {gate : Nat → Int32} {ear : Nat → Int32} {scale : Nat → Int32} {lost : Nat → Int32} {watch : Nat → Int32} {moments : Int32} {kept : Nat → Int32} {a_gift : Int32} {r : Int32}  (hf : f4_otherCity owner a_gift = some r) : Met l yX4_otherCity wsX4_otherCity rm4_otherCity (zPp D cI cZ cB [.ref (q 0), .int a_gift] (cWar cI q things gifts days size weight sound harm in_ kind owner empty room told gate ear scale lost watch moments kept)) (zQp (some (.int r))) 0 0 (fun _ => False) := by
  unfold f4_otherCity at hf
  refine z_pureI RX4 (by decide +kernel) rfl rfl (Nat.le_of_ble_eq_true rfl) ?_
  intro p e s m args below meth c Q ls hx hb hml hown hts hK hP hret hl
  have hl : lv_has ls 2 [(0, .ref (q 0)), (1, .int a_gift)] := hl
  refine lv_iconst (v := (1 : Int32)) hx hb (zD_g DX4_otherCity 0 rfl) (by decide) ?_
  refine lv_aload_n hx hb (zD_g DX4_otherCity 1 rfl) rfl (lv_at hl 0 rfl) ?_
  refine va_get (D := D) (ci := 3) (v := .ref (q 7)) (C := RX4) (T := TX4) (N := 19) hx hb hts in4_otherCity_4 hown hK.1 hP 0 rfl rfl 9 (by decide) (hts _ (List.mem_of_getElem? (i := 1) rfl)) (fun _ h9 => h9) rfl (zD_g DX4_otherCity 2 rfl) ?_
  refine lv_iload_n hx hb (zD_g DX4_otherCity 3 rfl) rfl (lv_at hl 1 rfl) ?_
  obtain ⟨h1, hf⟩ := zg_s hf
  refine z_iald (k := a_gift.toNatClampNeg) hx hb hK.1 hP 7 0 rfl rfl h1 rfl (zD_g DX4_otherCity 4 rfl) ?_
  refine lv_isub hx hb (zD_g DX4_otherCity 5 rfl) ?_
  refine lv_topi (fun x2 ex2 => ?_)
  replace hf := zl_s hf x2 ex2
  cases hf
  exact hret _ _ (zD_g DX4_otherCity 6 rfl)
abbrev dlX4_fitsGate : List (Nat × Instr × Nat) := [(0, .aload_n 0, 1), (1, .getfield 36, 3), (4, .iload_n 1, 1), (5, .iaload, 1), (6, .aload_n 0, 1), (7, .getfield 42, 3), (10, .aload_n 0, 1), (11, .iload_n 1, 1), (12, .invokevirtual 122, 3), (15, .iaload, 1), (16, .if_icmp .gt 7, 3), (19, .iconst 1, 1), (20, .goto 4, 3), (23, .iconst 0, 1), (24, .ireturn, 1)]
theorem DX4_fitsGate : zD cX4_fitsGate dlX4_fitsGate = true := by decide +kernel
set_option maxRecDepth 20000 in
theorem ggX4_fitsGate_X4_otherCity : GoodIn wsX4_fitsGate wsX4_otherCity := goodIn_r _ [7, 8, 9, 10, 11, 12, 13, 14, 15, 16, 17, 18, 19, 20, 21, 22, 23, 24, 25, 26, 27] (by decide +kernel) (by decide +kernel)
set_option maxRecDepth 20000 in
theorem gX4_fitsGate_X4_otherCity : GoodIn wsX4_fitsGate (wsV RX4 122 RX4 yX4_otherCity wsX4_otherCity) := goodIn_app (goodIn_of _ (by decide +kernel)) ggX4_fitsGate_X4_otherCity
theorem hd4_fitsGate : yX4_fitsGate.cls = RX4 ∧ yX4_fitsGate.cls ≠ "java/lang/invoke/MethodHandle" ∧ yX4_fitsGate.cls ≠ "java/lang/invoke/VarHandle" ∧ (parseMethodDescriptor yX4_fitsGate.desc).map (fun d => d.parameters.length) = some 1 := by decide +kernel
abbrev rm4_fitsGate : Room := { frames := 1, cells := 0, slots := 0, locals := 21 }
theorem in4_fitsGate_4 : ∀ w ∈ wsX40, w ∈ wsX4_fitsGate := fun w h => List.mem_cons_of_mem _ (List.mem_append_right _ h)
set_option maxHeartbeats 4000000 in
set_option maxRecDepth 100000 in
theorem c4_fitsGate {l : Launch} {D : va_G} {cI cZ cB : ClassId} {q : Nat → Nat} {things : Int32} {gifts : Int32} {days : Int32} {size : Nat → Int32} {weight : Nat → Int32} {sound : Nat → Int32} {harm : Nat → Int32} {in_ : Nat → Int32} {kind : Nat → Int32} {owner : Nat → Int32} {empty : Nat → Int32} {room : Nat → Int32} {told : Nat → Int32} {gate : Nat → Int32} {ear : Nat → Int32} {scale : Nat → Int32} {lost : Nat → Int32} {watch : Nat → Int32} {moments : Int32} {kept : Nat → Int32} {a_gift : Int32} {r : Int32}  (hf : f4_fitsGate owner room gate a_gift = some r) : Met l yX4_fitsGate wsX4_fitsGate rm4_fitsGate (zPp D cI cZ cB [.ref (q 0), .int a_gift] (cWar cI q things gifts days size weight sound harm in_ kind owner empty room told gate ear scale lost watch moments kept)) (zQp (some (.int r))) 0 0 (fun _ => False) := by
  unfold f4_fitsGate at hf
  refine z_pureZ RX4 (by decide +kernel) rfl rfl (Nat.le_of_ble_eq_true rfl) ?_
  intro p e s m args below meth c Q ls hx hb hml hown hts hK hP hret hl
  have hl : lv_has ls 2 [(0, .ref (q 0)), (1, .int a_gift)] := hl
  refine lv_aload_n hx hb (zD_g DX4_fitsGate 0 rfl) rfl (lv_at hl 0 rfl) ?_
  refine va_get (D := D) (ci := 3) (v := .ref (q 9)) (C := RX4) (T := TX4) (N := 19) hx hb hts in4_fitsGate_4 hown hK.1 hP 0 rfl rfl 11 (by decide) (hts _ (List.mem_of_getElem? (i := 1) rfl)) (fun _ h9 => h9) rfl (zD_g DX4_fitsGate 1 rfl) ?_
  refine lv_iload_n hx hb (zD_g DX4_fitsGate 2 rfl) rfl (lv_at hl 1 rfl) ?_
  obtain ⟨h1, hf⟩ := zg_s hf
  refine z_iald (k := a_gift.toNatClampNeg) hx hb hK.1 hP 9 0 rfl rfl h1 rfl (zD_g DX4_fitsGate 3 rfl) ?_
  refine lv_aload_n hx hb (zD_g DX4_fitsGate 4 rfl) rfl (lv_at hl 0 rfl) ?_
  refine va_get (D := D) (ci := 3) (v := .ref (q 11)) (C := RX4) (T := TX4) (N := 19) hx hb hts in4_fitsGate_4 hown hK.1 hP 0 rfl rfl 13 (by decide) (hts _ (List.mem_of_getElem? (i := 2) rfl)) (fun _ h9 => h9) rfl (zD_g DX4_fitsGate 5 rfl) ?_
  refine lv_aload_n hx hb (zD_g DX4_fitsGate 6 rfl) rfl (lv_at hl 0 rfl) ?_
  refine lv_iload_n hx hb (zD_g DX4_fitsGate 7 rfl) rfl (lv_at hl 1 rfl) ?_
  obtain ⟨r2, hc3, hf⟩ := zb1_s hf
  refine z_Vp (As := [.int a_gift]) (rest := [.ref (q 11), .int (room a_gift.toNatClampNeg)]) ⟨hx, hb, hml, hown, hts⟩ hK (c4_otherCity (things := things) (gifts := gifts) (days := days) (size := size) (weight := weight) (sound := sound) (harm := harm) (in_ := in_) (kind := kind) (owner := owner) (empty := empty) (room := room) (told := told) (gate := gate) (ear := ear) (scale := scale) (lost := lost) (watch := watch) (moments := moments) (kept := kept) (q := q) hc3) (cwV 1 hts gX4_fitsGate_X4_otherCity rfl rfl rfl hd4_otherCity ⟨Nat.le_of_ble_eq_true rfl, Nat.le_of_ble_eq_true rfl⟩) hP rfl rfl rfl rfl hl.1 rfl rfl (Nat.le_of_ble_eq_true rfl) (zD_g DX4_fitsGate 8 rfl) ⟨Nat.zero_le _, Nat.zero_le _⟩ ?_
  obtain ⟨h4, hf⟩ := zg_s hf
  refine z_iald (k := r2.toNatClampNeg) hx hb hK.1 hP 11 0 rfl rfl h4 rfl (zD_g DX4_fitsGate 9 rfl) ?_
  refine lv_icmp_gt (tgt := 23) hx hb (zD_g DX4_fitsGate 10 rfl) (by decide) (fun c5 => ?_) (fun c5 => ?_)
  · replace hf := z_t c5 hf
    refine lv_iconst (v := (0 : Int32)) hx hb (zD_g DX4_fitsGate 13 rfl) (by decide) ?_
    cases hf
    exact hret _ _ rfl (zD_g DX4_fitsGate 14 rfl)
  · replace hf := z_f c5 hf
    refine lv_iconst (v := (1 : Int32)) hx hb (zD_g DX4_fitsGate 11 rfl) (by decide) ?_
    refine lv_goto (tgt := 24) hx hb (zD_g DX4_fitsGate 12 rfl) (by decide) ?_
    cases hf
    exact hret _ _ rfl (zD_g DX4_fitsGate 14 rfl)
abbrev dlX4_sounds : List (Nat × Instr × Nat) := [(0, .iload_n 2, 1), (1, .aload_n 0, 1), (2, .getfield 18, 3), (5, .invokestatic 149, 3), (8, .istore_n 3, 1), (9, .aload_n 0, 1), (10, .getfield 27, 3), (13, .iload_n 1, 1), (14, .iaload, 1), (15, .tableswitch 47 1 5 #[33, 37, 47, 33, 41], 33), (48, .iload_n 3, 1), (49, .iconst 2, 1), (50, .idiv, 1), (51, .ireturn, 1), (52, .iload_n 3, 1), (53, .iconst 3, 1), (54, .iadd, 1), (55, .ireturn, 1), (56, .iconst 2, 1), (57, .iload_n 3, 1), (58, .iconst 3, 1), (59, .iadd, 1), (60, .imul, 1), (61, .ireturn, 1), (62, .iload_n 3, 1), (63, .ireturn, 1)]
theorem DX4_sounds : zD cX4_sounds dlX4_sounds = true := by decide +kernel
set_option maxRecDepth 20000 in
theorem ggX4_sounds_X5_sumOver : GoodIn wsX4_sounds wsX5_sumOver := goodIn_r _ [5] (by decide +kernel) (by decide +kernel)
set_option maxRecDepth 20000 in
theorem gX4_sounds_X5_sumOver_n149 : GoodIn wsX4_sounds (wsX5_sumOver) := ggX4_sounds_X5_sumOver
theorem hd4_sounds : yX4_sounds.cls = RX4 ∧ yX4_sounds.cls ≠ "java/lang/invoke/MethodHandle" ∧ yX4_sounds.cls ≠ "java/lang/invoke/VarHandle" ∧ (parseMethodDescriptor yX4_sounds.desc).map (fun d => d.parameters.length) = some 2 := by decide +kernel
abbrev rm4_sounds : Room := { frames := 1, cells := 0, slots := 0, locals := 23 }
theorem in4_sounds_4 : ∀ w ∈ wsX40, w ∈ wsX4_sounds := fun w h => List.mem_cons_of_mem _ (List.mem_append_right _ h)
set_option maxHeartbeats 4000000 in
set_option maxRecDepth 100000 in
theorem c4_sounds {l : Launch} {D : va_G} {cI cZ cB : ClassId} {q : Nat → Nat} {things : Int32} {gifts : Int32} {days : Int32} {size : Nat → Int32} {weight : Nat → Int32} {sound : Nat → Int32} {harm : Nat → Int32} {in_ : Nat → Int32} {kind : Nat → Int32} {owner : Nat → Int32} {empty : Nat → Int32} {room : Nat → Int32} {told : Nat → Int32} {gate : Nat → Int32} {ear : Nat → Int32} {scale : Nat → Int32} {lost : Nat → Int32} {watch : Nat → Int32} {moments : Int32} {kept : Nat → Int32} {a_gift : Int32} {a_set : Int32} {r : Int32}  (hf : f4_sounds sound kind a_gift a_set = some r) : Met l yX4_sounds wsX4_sounds rm4_sounds (zPp D cI cZ cB [.ref (q 0), .int a_gift, .int a_set] (cWar cI q things gifts days size weight sound harm in_ kind owner empty room told gate ear scale lost watch moments kept)) (zQp (some (.int r))) 0 0 (fun _ => False) := by
  unfold f4_sounds at hf
  refine z_pureI RX4 (by decide +kernel) rfl rfl (Nat.le_of_ble_eq_true rfl) ?_
  intro p e s m args below meth c Q ls hx hb hml hown hts hK hP hret hl
  have hl : lv_has ls 4 [(0, .ref (q 0)), (1, .int a_gift), (2, .int a_set)] := hl
  refine lv_iload_n hx hb (zD_g DX4_sounds 0 rfl) rfl (lv_at hl 2 rfl) ?_
  refine lv_aload_n hx hb (zD_g DX4_sounds 1 rfl) rfl (lv_at hl 0 rfl) ?_
  refine va_get (D := D) (ci := 3) (v := .ref (q 3)) (C := RX4) (T := TX4) (N := 19) hx hb hts in4_sounds_4 hown hK.1 hP 0 rfl rfl 5 (by decide) (hts _ (List.mem_of_getElem? (i := 1) rfl)) (fun _ h9 => h9) rfl (zD_g DX4_sounds 2 rfl) ?_
  obtain ⟨r1, hc2, hf⟩ := zb1_s hf
  refine z_Np (As := [.int a_set, .ref (q 3)]) (rest := []) ⟨hx, hb, hml, hown, hts⟩ hK (c5_sumOver (numbers := sound) (ar1 := (q 3)) hc2) ⟨va_cnB (own := RX4) (host := RX5) (index := 149) (y := yX5_sumOver) 2 hts gX4_sounds_X5_sumOver_n149 rfl rfl rfl (hK.2 (RX4, 149, yX5_sumOver) (List.mem_of_getElem? (i := 10) rfl)) (hts _ (List.mem_of_getElem? (i := 4) rfl)) hd5_sumOver ⟨Nat.le_of_ble_eq_true rfl, Nat.le_of_ble_eq_true rfl⟩, (hts _ (List.mem_of_getElem? (i := 3) rfl)), trivial⟩ (hP.sub [3] rfl) rfl hl.1 rfl rfl (Nat.le_of_ble_eq_true rfl) (zD_g DX4_sounds 3 rfl) ⟨Nat.zero_le _, Nat.zero_le _⟩ ?_
  refine lv_istore_n (lv' := [(3, .int r1), (0, .ref (q 0)), (1, .int a_gift), (2, .int a_set)]) hx hb (zD_g DX4_sounds 4 rfl) rfl hl (by decide) rfl (fun ls hl => ?_)
  refine lv_aload_n hx hb (zD_g DX4_sounds 5 rfl) rfl (lv_at hl 1 rfl) ?_
  refine va_get (D := D) (ci := 3) (v := .ref (q 6)) (C := RX4) (T := TX4) (N := 19) hx hb hts in4_sounds_4 hown hK.1 hP 0 rfl rfl 8 (by decide) (hts _ (List.mem_of_getElem? (i := 2) rfl)) (fun _ h9 => h9) rfl (zD_g DX4_sounds 6 rfl) ?_
  refine lv_iload_n hx hb (zD_g DX4_sounds 7 rfl) rfl (lv_at hl 2 rfl) ?_
  obtain ⟨h3, hf⟩ := zg_s hf
  refine z_iald (k := a_gift.toNatClampNeg) hx hb hK.1 hP 6 0 rfl rfl h3 rfl (zD_g DX4_sounds 8 rfl) ?_
  refine lv_topi (fun x4 ex4 => ?_)
  replace hf := zl_s hf x4 ex4
  by_cases c5 : x4 = 1
  · replace hf := z_t c5 hf
    refine lv_tableIn (off := 33) (tgt := 48) hx hb (zD_g DX4_sounds 9 rfl) (by rw [c5]; decide) (by rw [c5]; decide) (by rw [c5]; decide) (by decide) ?_
    refine lv_iload_n hx hb (zD_g DX4_sounds 10 rfl) rfl (lv_at hl 0 rfl) ?_
    refine lv_iconst (v := (2 : Int32)) hx hb (zD_g DX4_sounds 11 rfl) (by decide) ?_
    refine lv_idiv hx hb (zD_g DX4_sounds 12 rfl) (by decide) ?_
    refine lv_topi (fun x6 ex6 => ?_)
    replace hf := zl_s hf x6 ex6
    cases hf
    exact hret _ _ (zD_g DX4_sounds 13 rfl)
  · replace hf := z_f c5 hf
    by_cases c7 : x4 = 2
    · replace hf := z_t c7 hf
      refine lv_tableIn (off := 37) (tgt := 52) hx hb (zD_g DX4_sounds 9 rfl) (by rw [c7]; decide) (by rw [c7]; decide) (by rw [c7]; decide) (by decide) ?_
      refine lv_iload_n hx hb (zD_g DX4_sounds 14 rfl) rfl (lv_at hl 0 rfl) ?_
      refine lv_iconst (v := (3 : Int32)) hx hb (zD_g DX4_sounds 15 rfl) (by decide) ?_
      refine lv_iadd hx hb (zD_g DX4_sounds 16 rfl) ?_
      refine lv_topi (fun x8 ex8 => ?_)
      replace hf := zl_s hf x8 ex8
      cases hf
      exact hret _ _ (zD_g DX4_sounds 17 rfl)
    · replace hf := z_f c7 hf
      by_cases c9 : x4 = 3
      · replace hf := z_t c9 hf
        refine lv_tableIn (off := 47) (tgt := 62) hx hb (zD_g DX4_sounds 9 rfl) (by rw [c9]; decide) (by rw [c9]; decide) (by rw [c9]; decide) (by decide) ?_
        refine lv_iload_n hx hb (zD_g DX4_sounds 24 rfl) rfl (lv_at hl 0 rfl) ?_
        cases hf
        exact hret _ _ (zD_g DX4_sounds 25 rfl)
      · replace hf := z_f c9 hf
        by_cases c10 : x4 = 4
        · replace hf := z_t c10 hf
          refine lv_tableIn (off := 33) (tgt := 48) hx hb (zD_g DX4_sounds 9 rfl) (by rw [c10]; decide) (by rw [c10]; decide) (by rw [c10]; decide) (by decide) ?_
          refine lv_iload_n hx hb (zD_g DX4_sounds 10 rfl) rfl (lv_at hl 0 rfl) ?_
          refine lv_iconst (v := (2 : Int32)) hx hb (zD_g DX4_sounds 11 rfl) (by decide) ?_
          refine lv_idiv hx hb (zD_g DX4_sounds 12 rfl) (by decide) ?_
          refine lv_topi (fun x11 ex11 => ?_)
          replace hf := zl_s hf x11 ex11
          cases hf
          exact hret _ _ (zD_g DX4_sounds 13 rfl)
        · replace hf := z_f c10 hf
          by_cases c12 : x4 = 5
          · replace hf := z_t c12 hf
            refine lv_tableIn (off := 41) (tgt := 56) hx hb (zD_g DX4_sounds 9 rfl) (by rw [c12]; decide) (by rw [c12]; decide) (by rw [c12]; decide) (by decide) ?_
            refine lv_iconst (v := (2 : Int32)) hx hb (zD_g DX4_sounds 18 rfl) (by decide) ?_
            refine lv_iload_n hx hb (zD_g DX4_sounds 19 rfl) rfl (lv_at hl 0 rfl) ?_
            refine lv_iconst (v := (3 : Int32)) hx hb (zD_g DX4_sounds 20 rfl) (by decide) ?_
            refine lv_iadd hx hb (zD_g DX4_sounds 21 rfl) ?_
            refine lv_imul hx hb (zD_g DX4_sounds 22 rfl) ?_
            refine lv_topi (fun x13 ex13 => ?_)
            replace hf := zl_s hf x13 ex13
            cases hf
            exact hret _ _ (zD_g DX4_sounds 23 rfl)
          · replace hf := z_f c12 hf
            have z0 : x4.toInt ≠ 1 := z_ni c5
            have z1 : x4.toInt ≠ 2 := z_ni c7
            have z2 : x4.toInt ≠ 3 := z_ni c9
            have z3 : x4.toInt ≠ 4 := z_ni c10
            have z4 : x4.toInt ≠ 5 := z_ni c12
            refine lv_tableOut (tgt := 62) hx hb (zD_g DX4_sounds 9 rfl) (by omega) (by decide) ?_
            refine lv_iload_n hx hb (zD_g DX4_sounds 24 rfl) rfl (lv_at hl 0 rfl) ?_
            cases hf
            exact hret _ _ (zD_g DX4_sounds 25 rfl)
abbrev dlX4_isHeard : List (Nat × Instr × Nat) := [(0, .aload_n 0, 1), (1, .iload_n 1, 1), (2, .iload_n 2, 1), (3, .invokevirtual 159, 3), (6, .aload_n 0, 1), (7, .getfield 45, 3), (10, .aload_n 0, 1), (11, .iload_n 1, 1), (12, .invokevirtual 122, 3), (15, .iaload, 1), (16, .if_icmp .lt 7, 3), (19, .iconst 1, 1), (20, .goto 4, 3), (23, .iconst 0, 1), (24, .ireturn, 1)]
theorem DX4_isHeard : zD cX4_isHeard dlX4_isHeard = true := by decide +kernel
set_option maxRecDepth 20000 in
theorem ggX4_isHeard_X4_sounds : GoodIn wsX4_isHeard wsX4_sounds := goodIn_r _ [6, 7, 8, 9, 10, 11, 17, 18, 19, 20, 21, 22, 23, 24, 25, 26, 27, 28, 29, 30, 31, 32, 33, 34, 35] (by decide +kernel) (by decide +kernel)
set_option maxRecDepth 20000 in
theorem gX4_isHeard_X4_sounds : GoodIn wsX4_isHeard (wsV RX4 159 RX4 yX4_sounds wsX4_sounds) := goodIn_app (goodIn_of _ (by decide +kernel)) ggX4_isHeard_X4_sounds
set_option maxRecDepth 20000 in
theorem ggX4_isHeard_X4_otherCity : GoodIn wsX4_isHeard wsX4_otherCity := goodIn_r _ [15, 16, 17, 18, 19, 20, 21, 22, 23, 24, 25, 26, 27, 28, 29, 30, 31, 32, 33, 34, 35] (by decide +kernel) (by decide +kernel)
set_option maxRecDepth 20000 in
theorem gX4_isHeard_X4_otherCity : GoodIn wsX4_isHeard (wsV RX4 122 RX4 yX4_otherCity wsX4_otherCity) := goodIn_app (goodIn_of _ (by decide +kernel)) ggX4_isHeard_X4_otherCity
theorem hd4_isHeard : yX4_isHeard.cls = RX4 ∧ yX4_isHeard.cls ≠ "java/lang/invoke/MethodHandle" ∧ yX4_isHeard.cls ≠ "java/lang/invoke/VarHandle" ∧ (parseMethodDescriptor yX4_isHeard.desc).map (fun d => d.parameters.length) = some 2 := by decide +kernel
abbrev rm4_isHeard : Room := { frames := 2, cells := 0, slots := 0, locals := 46 }
theorem in4_isHeard_4 : ∀ w ∈ wsX40, w ∈ wsX4_isHeard := fun w h => List.mem_cons_of_mem _ (List.mem_append_right _ h)
set_option maxHeartbeats 4000000 in
set_option maxRecDepth 100000 in
theorem c4_isHeard {l : Launch} {D : va_G} {cI cZ cB : ClassId} {q : Nat → Nat} {things : Int32} {gifts : Int32} {days : Int32} {size : Nat → Int32} {weight : Nat → Int32} {sound : Nat → Int32} {harm : Nat → Int32} {in_ : Nat → Int32} {kind : Nat → Int32} {owner : Nat → Int32} {empty : Nat → Int32} {room : Nat → Int32} {told : Nat → Int32} {gate : Nat → Int32} {ear : Nat → Int32} {scale : Nat → Int32} {lost : Nat → Int32} {watch : Nat → Int32} {moments : Int32} {kept : Nat → Int32} {a_gift : Int32} {a_set : Int32} {r : Int32}  (hf : f4_isHeard sound kind owner ear a_gift a_set = some r) : Met l yX4_isHeard wsX4_isHeard rm4_isHeard (zPp D cI cZ cB [.ref (q 0), .int a_gift, .int a_set] (cWar cI q things gifts days size weight sound harm in_ kind owner empty room told gate ear scale lost watch moments kept)) (zQp (some (.int r))) 0 0 (fun _ => False) := by
  unfold f4_isHeard at hf
  refine z_pureZ RX4 (by decide +kernel) rfl rfl (Nat.le_of_ble_eq_true rfl) ?_
  intro p e s m args below meth c Q ls hx hb hml hown hts hK hP hret hl
  have hl : lv_has ls 3 [(0, .ref (q 0)), (1, .int a_gift), (2, .int a_set)] := hl
  refine lv_aload_n hx hb (zD_g DX4_isHeard 0 rfl) rfl (lv_at hl 0 rfl) ?_
  refine lv_iload_n hx hb (zD_g DX4_isHeard 1 rfl) rfl (lv_at hl 1 rfl) ?_
  refine lv_iload_n hx hb (zD_g DX4_isHeard 2 rfl) rfl (lv_at hl 2 rfl) ?_
  obtain ⟨r1, hc2, hf⟩ := zb1_s hf
  refine z_Vp (As := [.int a_gift, .int a_set]) (rest := []) ⟨hx, hb, hml, hown, hts⟩ hK (c4_sounds (things := things) (gifts := gifts) (days := days) (size := size) (weight := weight) (sound := sound) (harm := harm) (in_ := in_) (kind := kind) (owner := owner) (empty := empty) (room := room) (told := told) (gate := gate) (ear := ear) (scale := scale) (lost := lost) (watch := watch) (moments := moments) (kept := kept) (q := q) hc2) (cwV 2 hts gX4_isHeard_X4_sounds rfl rfl rfl hd4_sounds ⟨Nat.le_of_ble_eq_true rfl, Nat.le_of_ble_eq_true rfl⟩) hP rfl rfl rfl rfl hl.1 rfl rfl (Nat.le_of_ble_eq_true rfl) (zD_g DX4_isHeard 3 rfl) ⟨Nat.zero_le _, Nat.zero_le _⟩ ?_
  refine lv_aload_n hx hb (zD_g DX4_isHeard 4 rfl) rfl (lv_at hl 0 rfl) ?_
  refine va_get (D := D) (ci := 3) (v := .ref (q 12)) (C := RX4) (T := TX4) (N := 19) hx hb hts in4_isHeard_4 hown hK.1 hP 0 rfl rfl 14 (by decide) (hts _ (List.mem_of_getElem? (i := 1) rfl)) (fun _ h9 => h9) rfl (zD_g DX4_isHeard 5 rfl) ?_
  refine lv_aload_n hx hb (zD_g DX4_isHeard 6 rfl) rfl (lv_at hl 0 rfl) ?_
  refine lv_iload_n hx hb (zD_g DX4_isHeard 7 rfl) rfl (lv_at hl 1 rfl) ?_
  obtain ⟨r3, hc4, hf⟩ := zb1_s hf
  refine z_Vp (As := [.int a_gift]) (rest := [.ref (q 12), .int r1]) ⟨hx, hb, hml, hown, hts⟩ hK (c4_otherCity (things := things) (gifts := gifts) (days := days) (size := size) (weight := weight) (sound := sound) (harm := harm) (in_ := in_) (kind := kind) (owner := owner) (empty := empty) (room := room) (told := told) (gate := gate) (ear := ear) (scale := scale) (lost := lost) (watch := watch) (moments := moments) (kept := kept) (q := q) hc4) (cwV 1 hts gX4_isHeard_X4_otherCity rfl rfl rfl hd4_otherCity ⟨Nat.le_of_ble_eq_true rfl, Nat.le_of_ble_eq_true rfl⟩) hP rfl rfl rfl rfl hl.1 rfl rfl (Nat.le_of_ble_eq_true rfl) (zD_g DX4_isHeard 8 rfl) ⟨Nat.zero_le _, Nat.zero_le _⟩ ?_
  obtain ⟨h5, hf⟩ := zg_s hf
  refine z_iald (k := r3.toNatClampNeg) hx hb hK.1 hP 12 0 rfl rfl h5 rfl (zD_g DX4_isHeard 9 rfl) ?_
  refine lv_icmp_lt (tgt := 23) hx hb (zD_g DX4_isHeard 10 rfl) (by decide) (fun c6 => ?_) (fun c6 => ?_)
  · replace hf := z_t c6 hf
    refine lv_iconst (v := (0 : Int32)) hx hb (zD_g DX4_isHeard 13 rfl) (by decide) ?_
    cases hf
    exact hret _ _ rfl (zD_g DX4_isHeard 14 rfl)
  · replace hf := z_f c6 hf
    refine lv_iconst (v := (1 : Int32)) hx hb (zD_g DX4_isHeard 11 rfl) (by decide) ?_
    refine lv_goto (tgt := 24) hx hb (zD_g DX4_isHeard 12 rfl) (by decide) ?_
    cases hf
    exact hret _ _ rfl (zD_g DX4_isHeard 14 rfl)
abbrev dlX4_weighs : List (Nat × Instr × Nat) := [(0, .aload_n 0, 1), (1, .getfield 27, 3), (4, .iload_n 1, 1), (5, .iaload, 1), (6, .tableswitch 63 2 5 #[37, 30, 63, 37], 30), (36, .aload_n 0, 1), (37, .getfield 33, 3), (40, .iload_n 1, 1), (41, .iaload, 1), (42, .ireturn, 1), (43, .aload_n 0, 1), (44, .getfield 33, 3), (47, .iload_n 1, 1), (48, .iaload, 1), (49, .iload_n 2, 1), (50, .aload_n 0, 1), (51, .getfield 15, 3), (54, .invokestatic 149, 3), (57, .iadd, 1), (58, .aload_n 0, 1), (59, .getfield 74, 3), (62, .bipush 9, 2), (64, .invokestatic 153, 3), (67, .iadd, 1), (68, .ireturn, 1), (69, .aload_n 0, 1), (70, .getfield 33, 3), (73, .iload_n 1, 1), (74, .iaload, 1), (75, .iload_n 2, 1), (76, .aload_n 0, 1), (77, .getfield 15, 3), (80, .invokestatic 149, 3), (83, .iadd, 1), (84, .ireturn, 1)]
theorem DX4_weighs : zD cX4_weighs dlX4_weighs = true := by decide +kernel
set_option maxRecDepth 20000 in
theorem ggX4_weighs_X5_sumOver : GoodIn wsX4_weighs wsX5_sumOver := goodIn_r _ [11] (by decide +kernel) (by decide +kernel)
set_option maxRecDepth 20000 in
theorem gX4_weighs_X5_sumOver_n149 : GoodIn wsX4_weighs (wsX5_sumOver) := ggX4_weighs_X5_sumOver
theorem hd4_weighs : yX4_weighs.cls = RX4 ∧ yX4_weighs.cls ≠ "java/lang/invoke/MethodHandle" ∧ yX4_weighs.cls ≠ "java/lang/invoke/VarHandle" ∧ (parseMethodDescriptor yX4_weighs.desc).map (fun d => d.parameters.length) = some 2 := by decide +kernel
abbrev rm4_weighs : Room := { frames := 1, cells := 0, slots := 0, locals := 23 }
theorem in4_weighs_4 : ∀ w ∈ wsX40, w ∈ wsX4_weighs := fun w h => List.mem_cons_of_mem _ (List.mem_append_right _ h)
set_option maxHeartbeats 4000000 in
set_option maxRecDepth 100000 in
theorem c4_weighs {l : Launch} {D : va_G} {cI cZ cB : ClassId} {q : Nat → Nat} {things : Int32} {gifts : Int32} {days : Int32} {size : Nat → Int32} {weight : Nat → Int32} {sound : Nat → Int32} {harm : Nat → Int32} {in_ : Nat → Int32} {kind : Nat → Int32} {owner : Nat → Int32} {empty : Nat → Int32} {room : Nat → Int32} {told : Nat → Int32} {gate : Nat → Int32} {ear : Nat → Int32} {scale : Nat → Int32} {lost : Nat → Int32} {watch : Nat → Int32} {moments : Int32} {kept : Nat → Int32} {a_gift : Int32} {a_set : Int32} {r : Int32}  (hf : f4_weighs days weight kind empty a_gift a_set = some r) : Met l yX4_weighs wsX4_weighs rm4_weighs (zPp D cI cZ cB [.ref (q 0), .int a_gift, .int a_set] (cWar cI q things gifts days size weight sound harm in_ kind owner empty room told gate ear scale lost watch moments kept)) (zQp (some (.int r))) 0 0 (fun _ => False) := by
  unfold f4_weighs at hf
  refine z_pureI RX4 (by decide +kernel) rfl rfl (Nat.le_of_ble_eq_true rfl) ?_
  intro p e s m args below meth c Q ls hx hb hml hown hts hK hP hret hl
  have hl : lv_has ls 3 [(0, .ref (q 0)), (1, .int a_gift), (2, .int a_set)] := hl
  refine lv_aload_n hx hb (zD_g DX4_weighs 0 rfl) rfl (lv_at hl 0 rfl) ?_
  refine va_get (D := D) (ci := 3) (v := .ref (q 6)) (C := RX4) (T := TX4) (N := 19) hx hb hts in4_weighs_4 hown hK.1 hP 0 rfl rfl 8 (by decide) (hts _ (List.mem_of_getElem? (i := 1) rfl)) (fun _ h9 => h9) rfl (zD_g DX4_weighs 1 rfl) ?_
  refine lv_iload_n hx hb (zD_g DX4_weighs 2 rfl) rfl (lv_at hl 1 rfl) ?_
  obtain ⟨h1, hf⟩ := zg_s hf
  refine z_iald (k := a_gift.toNatClampNeg) hx hb hK.1 hP 6 0 rfl rfl h1 rfl (zD_g DX4_weighs 3 rfl) ?_
  refine lv_topi (fun x2 ex2 => ?_)
  replace hf := zl_s hf x2 ex2
  by_cases c3 : x2 = 2
  · replace hf := z_t c3 hf
    refine lv_tableIn (off := 37) (tgt := 43) hx hb (zD_g DX4_weighs 4 rfl) (by rw [c3]; decide) (by rw [c3]; decide) (by rw [c3]; decide) (by decide) ?_
    refine lv_aload_n hx hb (zD_g DX4_weighs 10 rfl) rfl (lv_at hl 0 rfl) ?_
    refine va_get (D := D) (ci := 3) (v := .ref (q 8)) (C := RX4) (T := TX4) (N := 19) hx hb hts in4_weighs_4 hown hK.1 hP 0 rfl rfl 10 (by decide) (hts _ (List.mem_of_getElem? (i := 2) rfl)) (fun _ h9 => h9) rfl (zD_g DX4_weighs 11 rfl) ?_
    refine lv_iload_n hx hb (zD_g DX4_weighs 12 rfl) rfl (lv_at hl 1 rfl) ?_
    obtain ⟨h4, hf⟩ := zg_s hf
    refine z_iald (k := a_gift.toNatClampNeg) hx hb hK.1 hP 8 0 rfl rfl h4 rfl (zD_g DX4_weighs 13 rfl) ?_
    refine lv_iload_n hx hb (zD_g DX4_weighs 14 rfl) rfl (lv_at hl 2 rfl) ?_
    refine lv_aload_n hx hb (zD_g DX4_weighs 15 rfl) rfl (lv_at hl 0 rfl) ?_
    refine va_get (D := D) (ci := 3) (v := .ref (q 2)) (C := RX4) (T := TX4) (N := 19) hx hb hts in4_weighs_4 hown hK.1 hP 0 rfl rfl 4 (by decide) (hts _ (List.mem_of_getElem? (i := 3) rfl)) (fun _ h9 => h9) rfl (zD_g DX4_weighs 16 rfl) ?_
    obtain ⟨r5, hc6, hf⟩ := zb1_s hf
    refine z_Np (As := [.int a_set, .ref (q 2)]) (rest := [.int (empty a_gift.toNatClampNeg)]) ⟨hx, hb, hml, hown, hts⟩ hK (c5_sumOver (numbers := weight) (ar1 := (q 2)) hc6) ⟨va_cnB (own := RX4) (host := RX5) (index := 149) (y := yX5_sumOver) 2 hts gX4_weighs_X5_sumOver_n149 rfl rfl rfl (hK.2 (RX4, 149, yX5_sumOver) (List.mem_of_getElem? (i := 10) rfl)) (hts _ (List.mem_of_getElem? (i := 10) rfl)) hd5_sumOver ⟨Nat.le_of_ble_eq_true rfl, Nat.le_of_ble_eq_true rfl⟩, (hts _ (List.mem_of_getElem? (i := 9) rfl)), trivial⟩ (hP.sub [2] rfl) rfl hl.1 rfl rfl (Nat.le_of_ble_eq_true rfl) (zD_g DX4_weighs 17 rfl) ⟨Nat.zero_le _, Nat.zero_le _⟩ ?_
    refine lv_iadd hx hb (zD_g DX4_weighs 18 rfl) ?_
    refine lv_aload_n hx hb (zD_g DX4_weighs 19 rfl) rfl (lv_at hl 0 rfl) ?_
    refine va_get (D := D) (ci := 3) (v := .int days) (C := RX4) (T := TX4) (N := 19) hx hb hts in4_weighs_4 hown hK.1 hP 0 rfl rfl 2 (by decide) (hts _ (List.mem_of_getElem? (i := 4) rfl)) (fun _ h9 => h9) rfl (zD_g DX4_weighs 20 rfl) ?_
    refine lv_bipush (v := (9 : Int32)) hx hb (zD_g DX4_weighs 21 rfl) (by decide) ?_
    refine va_mmin hx hb (hml.trans hl.1.symm) hown (hts _ (List.mem_of_getElem? (i := 5) rfl)) (hts _ (List.mem_of_getElem? (i := 6) rfl)) (hts _ (List.mem_of_getElem? (i := 7) rfl)) (hts _ (List.mem_of_getElem? (i := 8) rfl)) (Nat.le_of_ble_eq_true rfl) (Nat.le_of_ble_eq_true rfl) (Nat.zero_le _) (Nat.zero_le _) (zD_g DX4_weighs 22 rfl) ?_
    refine lv_topi (fun x7 ex7 => ?_)
    replace hf := zl_s hf x7 ex7
    refine lv_iadd hx hb (zD_g DX4_weighs 23 rfl) ?_
    refine lv_topi (fun x8 ex8 => ?_)
    replace hf := zl_s hf x8 ex8
    cases hf
    exact hret _ _ (zD_g DX4_weighs 24 rfl)
  · replace hf := z_f c3 hf
    by_cases c9 : x2 = 3
    · replace hf := z_t c9 hf
      refine lv_tableIn (off := 30) (tgt := 36) hx hb (zD_g DX4_weighs 4 rfl) (by rw [c9]; decide) (by rw [c9]; decide) (by rw [c9]; decide) (by decide) ?_
      refine lv_aload_n hx hb (zD_g DX4_weighs 5 rfl) rfl (lv_at hl 0 rfl) ?_
      refine va_get (D := D) (ci := 3) (v := .ref (q 8)) (C := RX4) (T := TX4) (N := 19) hx hb hts in4_weighs_4 hown hK.1 hP 0 rfl rfl 10 (by decide) (hts _ (List.mem_of_getElem? (i := 2) rfl)) (fun _ h9 => h9) rfl (zD_g DX4_weighs 6 rfl) ?_
      refine lv_iload_n hx hb (zD_g DX4_weighs 7 rfl) rfl (lv_at hl 1 rfl) ?_
      obtain ⟨h10, hf⟩ := zg_s hf
      refine z_iald (k := a_gift.toNatClampNeg) hx hb hK.1 hP 8 0 rfl rfl h10 rfl (zD_g DX4_weighs 8 rfl) ?_
      refine lv_topi (fun x11 ex11 => ?_)
      replace hf := zl_s hf x11 ex11
      cases hf
      exact hret _ _ (zD_g DX4_weighs 9 rfl)
    · replace hf := z_f c9 hf
      by_cases c12 : x2 = 4
      · replace hf := z_t c12 hf
        refine lv_tableIn (off := 63) (tgt := 69) hx hb (zD_g DX4_weighs 4 rfl) (by rw [c12]; decide) (by rw [c12]; decide) (by rw [c12]; decide) (by decide) ?_
        refine lv_aload_n hx hb (zD_g DX4_weighs 25 rfl) rfl (lv_at hl 0 rfl) ?_
        refine va_get (D := D) (ci := 3) (v := .ref (q 8)) (C := RX4) (T := TX4) (N := 19) hx hb hts in4_weighs_4 hown hK.1 hP 0 rfl rfl 10 (by decide) (hts _ (List.mem_of_getElem? (i := 2) rfl)) (fun _ h9 => h9) rfl (zD_g DX4_weighs 26 rfl) ?_
        refine lv_iload_n hx hb (zD_g DX4_weighs 27 rfl) rfl (lv_at hl 1 rfl) ?_
        obtain ⟨h13, hf⟩ := zg_s hf
        refine z_iald (k := a_gift.toNatClampNeg) hx hb hK.1 hP 8 0 rfl rfl h13 rfl (zD_g DX4_weighs 28 rfl) ?_
        refine lv_iload_n hx hb (zD_g DX4_weighs 29 rfl) rfl (lv_at hl 2 rfl) ?_
        refine lv_aload_n hx hb (zD_g DX4_weighs 30 rfl) rfl (lv_at hl 0 rfl) ?_
        refine va_get (D := D) (ci := 3) (v := .ref (q 2)) (C := RX4) (T := TX4) (N := 19) hx hb hts in4_weighs_4 hown hK.1 hP 0 rfl rfl 4 (by decide) (hts _ (List.mem_of_getElem? (i := 3) rfl)) (fun _ h9 => h9) rfl (zD_g DX4_weighs 31 rfl) ?_
        obtain ⟨r14, hc15, hf⟩ := zb1_s hf
        refine z_Np (As := [.int a_set, .ref (q 2)]) (rest := [.int (empty a_gift.toNatClampNeg)]) ⟨hx, hb, hml, hown, hts⟩ hK (c5_sumOver (numbers := weight) (ar1 := (q 2)) hc15) ⟨va_cnB (own := RX4) (host := RX5) (index := 149) (y := yX5_sumOver) 2 hts gX4_weighs_X5_sumOver_n149 rfl rfl rfl (hK.2 (RX4, 149, yX5_sumOver) (List.mem_of_getElem? (i := 10) rfl)) (hts _ (List.mem_of_getElem? (i := 10) rfl)) hd5_sumOver ⟨Nat.le_of_ble_eq_true rfl, Nat.le_of_ble_eq_true rfl⟩, (hts _ (List.mem_of_getElem? (i := 9) rfl)), trivial⟩ (hP.sub [2] rfl) rfl hl.1 rfl rfl (Nat.le_of_ble_eq_true rfl) (zD_g DX4_weighs 32 rfl) ⟨Nat.zero_le _, Nat.zero_le _⟩ ?_
        refine lv_iadd hx hb (zD_g DX4_weighs 33 rfl) ?_
        refine lv_topi (fun x16 ex16 => ?_)
        replace hf := zl_s hf x16 ex16
        cases hf
        exact hret _ _ (zD_g DX4_weighs 34 rfl)
      · replace hf := z_f c12 hf
        by_cases c17 : x2 = 5
        · replace hf := z_t c17 hf
          refine lv_tableIn (off := 37) (tgt := 43) hx hb (zD_g DX4_weighs 4 rfl) (by rw [c17]; decide) (by rw [c17]; decide) (by rw [c17]; decide) (by decide) ?_
          refine lv_aload_n hx hb (zD_g DX4_weighs 10 rfl) rfl (lv_at hl 0 rfl) ?_
          refine va_get (D := D) (ci := 3) (v := .ref (q 8)) (C := RX4) (T := TX4) (N := 19) hx hb hts in4_weighs_4 hown hK.1 hP 0 rfl rfl 10 (by decide) (hts _ (List.mem_of_getElem? (i := 2) rfl)) (fun _ h9 => h9) rfl (zD_g DX4_weighs 11 rfl) ?_
          refine lv_iload_n hx hb (zD_g DX4_weighs 12 rfl) rfl (lv_at hl 1 rfl) ?_
          obtain ⟨h18, hf⟩ := zg_s hf
          refine z_iald (k := a_gift.toNatClampNeg) hx hb hK.1 hP 8 0 rfl rfl h18 rfl (zD_g DX4_weighs 13 rfl) ?_
          refine lv_iload_n hx hb (zD_g DX4_weighs 14 rfl) rfl (lv_at hl 2 rfl) ?_
          refine lv_aload_n hx hb (zD_g DX4_weighs 15 rfl) rfl (lv_at hl 0 rfl) ?_
          refine va_get (D := D) (ci := 3) (v := .ref (q 2)) (C := RX4) (T := TX4) (N := 19) hx hb hts in4_weighs_4 hown hK.1 hP 0 rfl rfl 4 (by decide) (hts _ (List.mem_of_getElem? (i := 3) rfl)) (fun _ h9 => h9) rfl (zD_g DX4_weighs 16 rfl) ?_
          obtain ⟨r19, hc20, hf⟩ := zb1_s hf
          refine z_Np (As := [.int a_set, .ref (q 2)]) (rest := [.int (empty a_gift.toNatClampNeg)]) ⟨hx, hb, hml, hown, hts⟩ hK (c5_sumOver (numbers := weight) (ar1 := (q 2)) hc20) ⟨va_cnB (own := RX4) (host := RX5) (index := 149) (y := yX5_sumOver) 2 hts gX4_weighs_X5_sumOver_n149 rfl rfl rfl (hK.2 (RX4, 149, yX5_sumOver) (List.mem_of_getElem? (i := 10) rfl)) (hts _ (List.mem_of_getElem? (i := 10) rfl)) hd5_sumOver ⟨Nat.le_of_ble_eq_true rfl, Nat.le_of_ble_eq_true rfl⟩, (hts _ (List.mem_of_getElem? (i := 9) rfl)), trivial⟩ (hP.sub [2] rfl) rfl hl.1 rfl rfl (Nat.le_of_ble_eq_true rfl) (zD_g DX4_weighs 17 rfl) ⟨Nat.zero_le _, Nat.zero_le _⟩ ?_
          refine lv_iadd hx hb (zD_g DX4_weighs 18 rfl) ?_
          refine lv_aload_n hx hb (zD_g DX4_weighs 19 rfl) rfl (lv_at hl 0 rfl) ?_
          refine va_get (D := D) (ci := 3) (v := .int days) (C := RX4) (T := TX4) (N := 19) hx hb hts in4_weighs_4 hown hK.1 hP 0 rfl rfl 2 (by decide) (hts _ (List.mem_of_getElem? (i := 4) rfl)) (fun _ h9 => h9) rfl (zD_g DX4_weighs 20 rfl) ?_
          refine lv_bipush (v := (9 : Int32)) hx hb (zD_g DX4_weighs 21 rfl) (by decide) ?_
          refine va_mmin hx hb (hml.trans hl.1.symm) hown (hts _ (List.mem_of_getElem? (i := 5) rfl)) (hts _ (List.mem_of_getElem? (i := 6) rfl)) (hts _ (List.mem_of_getElem? (i := 7) rfl)) (hts _ (List.mem_of_getElem? (i := 8) rfl)) (Nat.le_of_ble_eq_true rfl) (Nat.le_of_ble_eq_true rfl) (Nat.zero_le _) (Nat.zero_le _) (zD_g DX4_weighs 22 rfl) ?_
          refine lv_topi (fun x21 ex21 => ?_)
          replace hf := zl_s hf x21 ex21
          refine lv_iadd hx hb (zD_g DX4_weighs 23 rfl) ?_
          refine lv_topi (fun x22 ex22 => ?_)
          replace hf := zl_s hf x22 ex22
          cases hf
          exact hret _ _ (zD_g DX4_weighs 24 rfl)
        · replace hf := z_f c17 hf
          have z0 : x2.toInt ≠ 2 := z_ni c3
          have z1 : x2.toInt ≠ 3 := z_ni c9
          have z2 : x2.toInt ≠ 4 := z_ni c12
          have z3 : x2.toInt ≠ 5 := z_ni c17
          refine lv_tableOut (tgt := 69) hx hb (zD_g DX4_weighs 4 rfl) (by omega) (by decide) ?_
          refine lv_aload_n hx hb (zD_g DX4_weighs 25 rfl) rfl (lv_at hl 0 rfl) ?_
          refine va_get (D := D) (ci := 3) (v := .ref (q 8)) (C := RX4) (T := TX4) (N := 19) hx hb hts in4_weighs_4 hown hK.1 hP 0 rfl rfl 10 (by decide) (hts _ (List.mem_of_getElem? (i := 2) rfl)) (fun _ h9 => h9) rfl (zD_g DX4_weighs 26 rfl) ?_
          refine lv_iload_n hx hb (zD_g DX4_weighs 27 rfl) rfl (lv_at hl 1 rfl) ?_
          obtain ⟨h23, hf⟩ := zg_s hf
          refine z_iald (k := a_gift.toNatClampNeg) hx hb hK.1 hP 8 0 rfl rfl h23 rfl (zD_g DX4_weighs 28 rfl) ?_
          refine lv_iload_n hx hb (zD_g DX4_weighs 29 rfl) rfl (lv_at hl 2 rfl) ?_
          refine lv_aload_n hx hb (zD_g DX4_weighs 30 rfl) rfl (lv_at hl 0 rfl) ?_
          refine va_get (D := D) (ci := 3) (v := .ref (q 2)) (C := RX4) (T := TX4) (N := 19) hx hb hts in4_weighs_4 hown hK.1 hP 0 rfl rfl 4 (by decide) (hts _ (List.mem_of_getElem? (i := 3) rfl)) (fun _ h9 => h9) rfl (zD_g DX4_weighs 31 rfl) ?_
          obtain ⟨r24, hc25, hf⟩ := zb1_s hf
          refine z_Np (As := [.int a_set, .ref (q 2)]) (rest := [.int (empty a_gift.toNatClampNeg)]) ⟨hx, hb, hml, hown, hts⟩ hK (c5_sumOver (numbers := weight) (ar1 := (q 2)) hc25) ⟨va_cnB (own := RX4) (host := RX5) (index := 149) (y := yX5_sumOver) 2 hts gX4_weighs_X5_sumOver_n149 rfl rfl rfl (hK.2 (RX4, 149, yX5_sumOver) (List.mem_of_getElem? (i := 10) rfl)) (hts _ (List.mem_of_getElem? (i := 10) rfl)) hd5_sumOver ⟨Nat.le_of_ble_eq_true rfl, Nat.le_of_ble_eq_true rfl⟩, (hts _ (List.mem_of_getElem? (i := 9) rfl)), trivial⟩ (hP.sub [2] rfl) rfl hl.1 rfl rfl (Nat.le_of_ble_eq_true rfl) (zD_g DX4_weighs 32 rfl) ⟨Nat.zero_le _, Nat.zero_le _⟩ ?_
          refine lv_iadd hx hb (zD_g DX4_weighs 33 rfl) ?_
          refine lv_topi (fun x26 ex26 => ?_)
          replace hf := zl_s hf x26 ex26
          cases hf
          exact hret _ _ (zD_g DX4_weighs 34 rfl)
abbrev dlX4_isHeavy : List (Nat × Instr × Nat) := [(0, .aload_n 0, 1), (1, .iload_n 1, 1), (2, .iload_n 2, 1), (3, .invokevirtual 162, 3), (6, .aload_n 0, 1), (7, .getfield 48, 3), (10, .aload_n 0, 1), (11, .iload_n 1, 1), (12, .invokevirtual 122, 3), (15, .iaload, 1), (16, .if_icmp .le 7, 3), (19, .iconst 1, 1), (20, .goto 4, 3), (23, .iconst 0, 1), (24, .ireturn, 1)]
theorem DX4_isHeavy : zD cX4_isHeavy dlX4_isHeavy = true := by decide +kernel
set_option maxRecDepth 20000 in
theorem ggX4_isHeavy_X4_weighs : GoodIn wsX4_isHeavy wsX4_weighs := goodIn_r _ [6, 7, 8, 9, 10, 11, 12, 13, 14, 15, 16, 17, 23, 24, 25, 26, 27, 28, 29, 30, 31, 32, 33, 34, 35, 36, 37, 38, 39, 40, 41] (by decide +kernel) (by decide +kernel)
set_option maxRecDepth 20000 in
theorem gX4_isHeavy_X4_weighs : GoodIn wsX4_isHeavy (wsV RX4 162 RX4 yX4_weighs wsX4_weighs) := goodIn_app (goodIn_of _ (by decide +kernel)) ggX4_isHeavy_X4_weighs
set_option maxRecDepth 20000 in
theorem ggX4_isHeavy_X4_otherCity : GoodIn wsX4_isHeavy wsX4_otherCity := goodIn_r _ [21, 22, 23, 24, 25, 26, 27, 28, 29, 30, 31, 32, 33, 34, 35, 36, 37, 38, 39, 40, 41] (by decide +kernel) (by decide +kernel)
set_option maxRecDepth 20000 in
theorem gX4_isHeavy_X4_otherCity : GoodIn wsX4_isHeavy (wsV RX4 122 RX4 yX4_otherCity wsX4_otherCity) := goodIn_app (goodIn_of _ (by decide +kernel)) ggX4_isHeavy_X4_otherCity
theorem hd4_isHeavy : yX4_isHeavy.cls = RX4 ∧ yX4_isHeavy.cls ≠ "java/lang/invoke/MethodHandle" ∧ yX4_isHeavy.cls ≠ "java/lang/invoke/VarHandle" ∧ (parseMethodDescriptor yX4_isHeavy.desc).map (fun d => d.parameters.length) = some 2 := by decide +kernel
abbrev rm4_isHeavy : Room := { frames := 2, cells := 0, slots := 0, locals := 45 }
theorem in4_isHeavy_4 : ∀ w ∈ wsX40, w ∈ wsX4_isHeavy := fun w h => List.mem_cons_of_mem _ (List.mem_append_right _ h)
set_option maxHeartbeats 4000000 in
set_option maxRecDepth 100000 in
theorem c4_isHeavy {l : Launch} {D : va_G} {cI cZ cB : ClassId} {q : Nat → Nat} {things : Int32} {gifts : Int32} {days : Int32} {size : Nat → Int32} {weight : Nat → Int32} {sound : Nat → Int32} {harm : Nat → Int32} {in_ : Nat → Int32} {kind : Nat → Int32} {owner : Nat → Int32} {empty : Nat → Int32} {room : Nat → Int32} {told : Nat → Int32} {gate : Nat → Int32} {ear : Nat → Int32} {scale : Nat → Int32} {lost : Nat → Int32} {watch : Nat → Int32} {moments : Int32} {kept : Nat → Int32} {a_gift : Int32} {a_set : Int32} {r : Int32}  (hf : f4_isHeavy days weight kind owner empty scale a_gift a_set = some r) : Met l yX4_isHeavy wsX4_isHeavy rm4_isHeavy (zPp D cI cZ cB [.ref (q 0), .int a_gift, .int a_set] (cWar cI q things gifts days size weight sound harm in_ kind owner empty room told gate ear scale lost watch moments kept)) (zQp (some (.int r))) 0 0 (fun _ => False) := by
  unfold f4_isHeavy at hf
  refine z_pureZ RX4 (by decide +kernel) rfl rfl (Nat.le_of_ble_eq_true rfl) ?_
  intro p e s m args below meth c Q ls hx hb hml hown hts hK hP hret hl
  have hl : lv_has ls 3 [(0, .ref (q 0)), (1, .int a_gift), (2, .int a_set)] := hl
  refine lv_aload_n hx hb (zD_g DX4_isHeavy 0 rfl) rfl (lv_at hl 0 rfl) ?_
  refine lv_iload_n hx hb (zD_g DX4_isHeavy 1 rfl) rfl (lv_at hl 1 rfl) ?_
  refine lv_iload_n hx hb (zD_g DX4_isHeavy 2 rfl) rfl (lv_at hl 2 rfl) ?_
  obtain ⟨r1, hc2, hf⟩ := zb1_s hf
  refine z_Vp (As := [.int a_gift, .int a_set]) (rest := []) ⟨hx, hb, hml, hown, hts⟩ hK (c4_weighs (things := things) (gifts := gifts) (days := days) (size := size) (weight := weight) (sound := sound) (harm := harm) (in_ := in_) (kind := kind) (owner := owner) (empty := empty) (room := room) (told := told) (gate := gate) (ear := ear) (scale := scale) (lost := lost) (watch := watch) (moments := moments) (kept := kept) (q := q) hc2) (cwV 2 hts gX4_isHeavy_X4_weighs rfl rfl rfl hd4_weighs ⟨Nat.le_of_ble_eq_true rfl, Nat.le_of_ble_eq_true rfl⟩) hP rfl rfl rfl rfl hl.1 rfl rfl (Nat.le_of_ble_eq_true rfl) (zD_g DX4_isHeavy 3 rfl) ⟨Nat.zero_le _, Nat.zero_le _⟩ ?_
  refine lv_aload_n hx hb (zD_g DX4_isHeavy 4 rfl) rfl (lv_at hl 0 rfl) ?_
  refine va_get (D := D) (ci := 3) (v := .ref (q 13)) (C := RX4) (T := TX4) (N := 19) hx hb hts in4_isHeavy_4 hown hK.1 hP 0 rfl rfl 15 (by decide) (hts _ (List.mem_of_getElem? (i := 1) rfl)) (fun _ h9 => h9) rfl (zD_g DX4_isHeavy 5 rfl) ?_
  refine lv_aload_n hx hb (zD_g DX4_isHeavy 6 rfl) rfl (lv_at hl 0 rfl) ?_
  refine lv_iload_n hx hb (zD_g DX4_isHeavy 7 rfl) rfl (lv_at hl 1 rfl) ?_
  obtain ⟨r3, hc4, hf⟩ := zb1_s hf
  refine z_Vp (As := [.int a_gift]) (rest := [.ref (q 13), .int r1]) ⟨hx, hb, hml, hown, hts⟩ hK (c4_otherCity (things := things) (gifts := gifts) (days := days) (size := size) (weight := weight) (sound := sound) (harm := harm) (in_ := in_) (kind := kind) (owner := owner) (empty := empty) (room := room) (told := told) (gate := gate) (ear := ear) (scale := scale) (lost := lost) (watch := watch) (moments := moments) (kept := kept) (q := q) hc4) (cwV 1 hts gX4_isHeavy_X4_otherCity rfl rfl rfl hd4_otherCity ⟨Nat.le_of_ble_eq_true rfl, Nat.le_of_ble_eq_true rfl⟩) hP rfl rfl rfl rfl hl.1 rfl rfl (Nat.le_of_ble_eq_true rfl) (zD_g DX4_isHeavy 8 rfl) ⟨Nat.zero_le _, Nat.zero_le _⟩ ?_
  obtain ⟨h5, hf⟩ := zg_s hf
  refine z_iald (k := r3.toNatClampNeg) hx hb hK.1 hP 13 0 rfl rfl h5 rfl (zD_g DX4_isHeavy 9 rfl) ?_
  refine lv_icmp_le (tgt := 23) hx hb (zD_g DX4_isHeavy 10 rfl) (by decide) (fun c6 => ?_) (fun c6 => ?_)
  · replace hf := z_t c6 hf
    refine lv_iconst (v := (0 : Int32)) hx hb (zD_g DX4_isHeavy 13 rfl) (by decide) ?_
    cases hf
    exact hret _ _ rfl (zD_g DX4_isHeavy 14 rfl)
  · replace hf := z_f c6 hf
    refine lv_iconst (v := (1 : Int32)) hx hb (zD_g DX4_isHeavy 11 rfl) (by decide) ?_
    refine lv_goto (tgt := 24) hx hb (zD_g DX4_isHeavy 12 rfl) (by decide) ?_
    cases hf
    exact hret _ _ rfl (zD_g DX4_isHeavy 14 rfl)
