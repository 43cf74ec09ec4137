abbrev dlX4_goBack : List (Nat × Instr × Nat) := [(0, .aload_n 0, 1), (1, .getfield 60, 3), (4, .getfield 87, 3), (7, .ifCond .gt 6, 3), (10, .bipush (-3), 2), (12, .ireturn, 1), (13, .aload_n 0, 1), (14, .aload_n 0, 1), (15, .getfield 60, 3), (18, .aload_n 0, 1), (19, .getfield 30, 3), (22, .aload_n 0, 1), (23, .getfield 24, 3), (26, .aload_n 0, 1), (27, .getfield 51, 3), (30, .invokevirtual 140, 3), (33, .putfield 74, 3), (36, .iconst 1, 1), (37, .ireturn, 1)]
theorem DX4_goBack : zD cX4_goBack dlX4_goBack = true := by decide +kernel
set_option maxRecDepth 20000 in
theorem ggX4_goBack_X2_giveBack : GoodIn wsX4_goBack wsX2_giveBack := goodIn_r _ [11, 12, 13, 14, 15, 16, 17, 37, 38] (by decide +kernel) (by decide +kernel)
set_option maxRecDepth 20000 in
theorem gX4_goBack_X2_giveBack : GoodIn wsX4_goBack (wsV RX4 140 RX2 yX2_giveBack wsX2_giveBack) := goodIn_app (goodIn_of _ (by decide +kernel)) ggX4_goBack_X2_giveBack
def f4_goBack (days : Int32) (in_ : Nat → Int32) (owner : Nat → Int32) (lost : Nat → Int32) (moments : Int32) (kept : Nat → Int32) : Option (Int32 × Int32 × (Nat → Int32) × (Nat → Int32) × (Nat → Int32) × Int32) := if 0 < moments then zb5 (f2_giveBack moments kept owner in_ lost) (fun r2 moments_3 owner_4 in_5 lost_6 => some ((1 : Int32), r2, in_5, owner_4, lost_6, moments_3)) else some ((-3 : Int32), days, in_, owner, lost, moments)
abbrev rm4_goBack : Room := { frames := 2, cells := 0, slots := 0, locals := 84 }
theorem in4_goBack_2 : ∀ w ∈ wsX20, w ∈ wsX4_goBack := fun w h => List.mem_cons_of_mem _ (List.mem_append_right _ h)
theorem in4_goBack_4 : ∀ w ∈ wsX40, w ∈ wsX4_goBack := fun w h => List.mem_cons_of_mem _ (List.mem_append_left _ (List.mem_append_right _ h))
set_option maxHeartbeats 4000000 in
set_option maxRecDepth 100000 in
theorem c4_goBack {l : Launch} {D : va_G} {cI cZ cB : ClassId} {q : Nat → Nat} {sz : Nat} {things : Int32} {gifts : Int32} {days : Int32} {size : Nat → Int32} {weight : Nat → Int32} {sound : Nat → Int32} {harm : Nat → Int32} {in_ : Nat → Int32} {kind : Nat → Int32} {owner : Nat → Int32} {empty : Nat → Int32} {room : Nat → Int32} {told : Nat → Int32} {gate : Nat → Int32} {ear : Nat → Int32} {scale : Nat → Int32} {lost : Nat → Int32} {watch : Nat → Int32} {moments : Int32} {kept : Nat → Int32}  {r : Int32} {d_days : Int32} {d_in_ : Nat → Int32} {d_owner : Nat → Int32} {d_lost : Nat → Int32} {d_moments : Int32} (hf : f4_goBack days in_ owner lost moments kept = some (r, d_days, d_in_, d_owner, d_lost, d_moments)) : Met l yX4_goBack wsX4_goBack rm4_goBack (zPm D cI cZ cB [.ref (q 0)] sz (cWar cI q things gifts days size weight sound harm in_ kind owner empty room told gate ear scale lost watch moments kept)) (zQm D (some (.int r)) (cWar cI q things gifts d_days size weight sound harm d_in_ kind d_owner empty room told gate ear scale d_lost watch d_moments kept) (va_A (cWar cI q things gifts days size weight sound harm in_ kind owner empty room told gate ear scale lost watch moments kept) sz)) 0 0 (va_A (cWar cI q things gifts days size weight sound harm in_ kind owner empty room told gate ear scale lost watch moments kept) sz) := by
  unfold f4_goBack at hf
  refine z_mutI RX4 (by decide +kernel) rfl rfl (Nat.le_of_ble_eq_true rfl) ?_
  intro p e s m args below meth c Q A ls hx hb hml hown hts hK hP hD hS hA hret hl
  have hl : lv_has ls 1 [(0, .ref (q 0))] := hl
  refine lv_aload_n hx hb (zD_g DX4_goBack 0 rfl) rfl (lv_at hl 0 rfl) ?_
  refine va_get (D := D) (ci := 3) (v := .ref (q 16)) (C := RX4) (T := TX4) (N := 19) hx hb hts in4_goBack_4 hown hK.1 hP 0 rfl rfl 18 (by decide) (hts _ (List.mem_of_getElem? (i := 1) rfl)) (fun _ h9 => h9) rfl (zD_g DX4_goBack 1 rfl) ?_
  refine va_get (D := D) (ci := 1) (v := .int moments) (C := RX2) (T := TX2) (N := 2) hx hb hts in4_goBack_2 hown hK.1 hP 16 rfl rfl 0 (by decide) (hts _ (List.mem_of_getElem? (i := 2) rfl)) (fun _ h9 => h9) rfl (zD_g DX4_goBack 2 rfl) ?_
  refine lv_if_gt (tgt := 13) hx hb (zD_g DX4_goBack 3 rfl) (by decide) (fun c1 => ?_) (fun c1 => ?_)
  · replace hf := z_t c1 hf
    refine lv_aload_n hx hb (zD_g DX4_goBack 6 rfl) rfl (lv_at hl 0 rfl) ?_
    refine lv_aload_n hx hb (zD_g DX4_goBack 7 rfl) rfl (lv_at hl 0 rfl) ?_
    refine va_get (D := D) (ci := 3) (v := .ref (q 16)) (C := RX4) (T := TX4) (N := 19) hx hb hts in4_goBack_4 hown hK.1 hP 0 rfl rfl 18 (by decide) (hts _ (List.mem_of_getElem? (i := 1) rfl)) (fun _ h9 => h9) rfl (zD_g DX4_goBack 8 rfl) ?_
    refine lv_aload_n hx hb (zD_g DX4_goBack 9 rfl) rfl (lv_at hl 0 rfl) ?_
    refine va_get (D := D) (ci := 3) (v := .ref (q 7)) (C := RX4) (T := TX4) (N := 19) hx hb hts in4_goBack_4 hown hK.1 hP 0 rfl rfl 9 (by decide) (hts _ (List.mem_of_getElem? (i := 3) rfl)) (fun _ h9 => h9) rfl (zD_g DX4_goBack 10 rfl) ?_
    refine lv_aload_n hx hb (zD_g DX4_goBack 11 rfl) rfl (lv_at hl 0 rfl) ?_
    refine va_get (D := D) (ci := 3) (v := .ref (q 5)) (C := RX4) (T := TX4) (N := 19) hx hb hts in4_goBack_4 hown hK.1 hP 0 rfl rfl 7 (by decide) (hts _ (List.mem_of_getElem? (i := 4) rfl)) (fun _ h9 => h9) rfl (zD_g DX4_goBack 12 rfl) ?_
    refine lv_aload_n hx hb (zD_g DX4_goBack 13 rfl) rfl (lv_at hl 0 rfl) ?_
    refine va_get (D := D) (ci := 3) (v := .ref (q 14)) (C := RX4) (T := TX4) (N := 19) hx hb hts in4_goBack_4 hown hK.1 hP 0 rfl rfl 16 (by decide) (hts _ (List.mem_of_getElem? (i := 5) rfl)) (fun _ h9 => h9) rfl (zD_g DX4_goBack 14 rfl) ?_
    obtain ⟨r2, moments_3, owner_4, in_5, lost_6, hc7, hf⟩ := zb5_s hf
    refine z_Vm (As := [.ref (q 7), .ref (q 5), .ref (q 14)]) (rest := [.ref (q 0)]) (ws' := (cWar cI q things gifts days size weight sound harm in_5 kind owner_4 empty room told gate ear scale lost_6 watch moments_3 kept)) ⟨hx, hb, hml, hown, hts⟩ hK (c2_giveBack (moments := moments) (kept := kept) (q := fun j => q (16 + j)) (p_owner := owner) (ar0 := (q 7)) (p_in := in_) (ar1 := (q 5)) (p_lost := lost) (ar2 := (q 14)) hc7) (cwV 3 hts gX4_goBack_X2_giveBack rfl rfl rfl hd2_giveBack ⟨Nat.le_of_ble_eq_true rfl, Nat.le_of_ble_eq_true rfl⟩) hP hD hS hA 18 [16, 17, 7, 5, 14] [0, 1, 2, 3, 4, 6, 8, 9, 10, 11, 12, 13, 15] [0, 1, 2, 3, 4, 16, 5, 15, 6, 7, 8, 9, 10, 11, 17, 12, 13, 14] (by decide +kernel) rfl rfl rfl rfl rfl rfl rfl hl.1 rfl rfl (Nat.le_of_ble_eq_true rfl) (zD_g DX4_goBack 15 rfl) ⟨Nat.zero_le _, Nat.zero_le _⟩ (fun H locs hP hD hS => ?_)
    refine z_put (D := D) (ci := 3) (v := .int r2) (ty := .int) (C := RX4) (T := TX4) (N := 19) (ws' := (cWar cI q things gifts r2 size weight sound harm in_5 kind owner_4 empty room told gate ear scale lost_6 watch moments_3 kept)) hx hb hts in4_goBack_4 tyX4 tyX4_ok nmX4 hown hK.1 hP hD hS 0 rfl rfl 2 (by decide) (hts _ (List.mem_of_getElem? (i := 6) rfl)) (fun _ h9 => h9) rfl (tyX4_ok 2 (by decide)) rfl rfl (Nat.le_of_ble_eq_true rfl) rfl (zD_g DX4_goBack 16 rfl) (fun H locs hP hD hS => ?_)
    refine lv_iconst (v := (1 : Int32)) hx hb (zD_g DX4_goBack 17 rfl) (by decide) ?_
    cases hf
    exact hret _ _ _ _ hP hD hS (zD_g DX4_goBack 18 rfl)
  · replace hf := z_f c1 hf
    refine lv_bipush (v := (-3 : Int32)) hx hb (zD_g DX4_goBack 4 rfl) (by decide) ?_
    cases hf
    exact hret _ _ _ _ hP hD hS (zD_g DX4_goBack 5 rfl)
theorem hd4_goBack : yX4_goBack.cls = RX4 ∧ yX4_goBack.cls ≠ "java/lang/invoke/MethodHandle" ∧ yX4_goBack.cls ≠ "java/lang/invoke/VarHandle" ∧ (parseMethodDescriptor yX4_goBack.desc).map (fun d => d.parameters.length) = some 0 := by decide +kernel
abbrev dlX4_giftsOf : List (Nat × Instr × Nat) := [(0, .iconst 0, 1), (1, .istore_n 2, 1), (2, .iconst 0, 1), (3, .istore_n 3, 1), (4, .iload_n 3, 1), (5, .aload_n 0, 1), (6, .getfield 71, 3), (9, .if_icmp .ge 25, 3), (12, .aload_n 0, 1), (13, .getfield 30, 3), (16, .iload_n 3, 1), (17, .iaload, 1), (18, .iload_n 1, 1), (19, .if_icmp .ne 9, 3), (22, .iload_n 2, 1), (23, .iconst 1, 1), (24, .iload_n 3, 1), (25, .ishl, 1), (26, .ior, 1), (27, .istore_n 2, 1), (28, .iinc 3 1, 3), (31, .goto (-27), 3), (34, .iload_n 2, 1), (35, .ireturn, 1)]
theorem DX4_giftsOf : zD cX4_giftsOf dlX4_giftsOf = true := by decide +kernel
def L4_giftsOf_4 (k3 : Int32 → Option (Int32))  (gifts : Int32) (owner : Nat → Int32) (a_city : Int32) : Nat → Int32 → Int32 → Option (Int32)
  | 0, _, _ => none
  | n3 + 1, y1, y2 => if gifts ≤ y2 then k3 y1 else zg y2 6 (if (owner y2.toNatClampNeg) = a_city then zl ((y1 ||| ((1 : Int32) <<< (y2 &&& 31)))) (fun x7 => L4_giftsOf_4 k3 gifts owner a_city n3 x7 (y2 + 1)) else L4_giftsOf_4 k3 gifts owner a_city n3 y1 (y2 + 1))
def f4_giftsOf (gifts : Int32) (owner : Nat → Int32) (a_city : Int32) : Option (Int32) := L4_giftsOf_4 (fun y8 => some y8) gifts owner a_city FU (0 : Int32) (0 : Int32)
abbrev rm4_giftsOf : Room := { frames := 0, cells := 0, slots := 0, locals := 0 }
theorem in4_giftsOf_4 : ∀ w ∈ wsX40, w ∈ wsX4_giftsOf := fun w h => List.mem_cons_of_mem _ (List.mem_append_right _ h)
set_option maxHeartbeats 4000000 in
set_option maxRecDepth 100000 in
theorem c4_giftsOf {l : Launch} {D : va_G} {cI cZ cB : ClassId} {q : Nat → Nat} {things : Int32} {gifts : Int32} {days : Int32} {size : Nat → Int32} {weight : Nat → Int32} {sound : Nat → Int32} {harm : Nat → Int32} {in_ : Nat → Int32} {kind : Nat → Int32} {owner : Nat → Int32} {empty : Nat → Int32} {room : Nat → Int32} {told : Nat → Int32} {gate : Nat → Int32} {ear : Nat → Int32} {scale : Nat → Int32} {lost : Nat → Int32} {watch : Nat → Int32} {moments : Int32} {kept : Nat → Int32} {a_city : Int32} {r : Int32}  (hf : f4_giftsOf gifts owner a_city = some r) : Met l yX4_giftsOf wsX4_giftsOf rm4_giftsOf (zPp D cI cZ cB [.ref (q 0), .int a_city] (cWar cI q things gifts days size weight sound harm in_ kind owner empty room told gate ear scale lost watch moments kept)) (zQp (some (.int r))) 0 0 (fun _ => False) := by
  unfold f4_giftsOf at hf
  refine z_pureI RX4 (by decide +kernel) rfl rfl (Nat.le_of_ble_eq_true rfl) ?_
  intro p e s m args below meth c Q ls hx hb hml hown hts hK hP hret hl
  have hl : lv_has ls 4 [(0, .ref (q 0)), (1, .int a_city)] := hl
  refine lv_iconst (v := (0 : Int32)) hx hb (zD_g DX4_giftsOf 0 rfl) (by decide) ?_
  refine lv_istore_n (lv' := [(2, .int (0 : Int32)), (0, .ref (q 0)), (1, .int a_city)]) hx hb (zD_g DX4_giftsOf 1 rfl) rfl hl (by decide) rfl (fun ls hl => ?_)
  refine lv_iconst (v := (0 : Int32)) hx hb (zD_g DX4_giftsOf 2 rfl) (by decide) ?_
  refine lv_istore_n (lv' := [(3, .int (0 : Int32)), (2, .int (0 : Int32)), (0, .ref (q 0)), (1, .int a_city)]) hx hb (zD_g DX4_giftsOf 3 rfl) rfl hl (by decide) rfl (fun ls hl => ?_)
  have hL3 : ∀ (k3 : Int32 → Option (Int32)) (hk3 : ∀ (y8 : Int32), k3 y8 = some r → ∀ (ls : Array Slot), lv_has ls 4 [(2, .int y8)] → W p l e rm4_giftsOf s m args below meth c s.heap [] 0 0 Q (F0 m 34 ls [])) (n3 : Nat) (y1 : Int32) (y2 : Int32), L4_giftsOf_4 k3 gifts owner a_city n3 y1 y2 = some r → ∀ (ls : Array Slot), lv_has ls 4 [(0, .ref (q 0)), (1, .int a_city), (2, .int y1), (3, .int y2)] → W p l e rm4_giftsOf s m args below meth c s.heap [] 0 0 Q (F0 m 4 ls []) := by
    intro k3 hk3 n3
    induction n3 with
    | zero =>
      intro y1 y2 hf
      cases hf
    | succ n3 ih3 =>
      intro y1 y2 hf ls hl
      rw [L4_giftsOf_4] at hf
      refine lv_iload_n hx hb (zD_g DX4_giftsOf 4 rfl) rfl (lv_at hl 3 rfl) ?_
      refine lv_aload_n hx hb (zD_g DX4_giftsOf 5 rfl) rfl (lv_at hl 0 rfl) ?_
      refine va_get (D := D) (ci := 3) (v := .int gifts) (C := RX4) (T := TX4) (N := 19) hx hb hts in4_giftsOf_4 hown hK.1 hP 0 rfl rfl 1 (by decide) (hts _ (List.mem_of_getElem? (i := 1) rfl)) (fun _ h9 => h9) rfl (zD_g DX4_giftsOf 6 rfl) ?_
      refine lv_icmp_ge (tgt := 34) hx hb (zD_g DX4_giftsOf 7 rfl) (by decide) (fun c4 => ?_) (fun c4 => ?_)
      · replace hf := z_t c4 hf
        exact hk3 _ hf ls (lv_sub hl [2] rfl)
      · replace hf := z_f c4 hf
        refine lv_aload_n hx hb (zD_g DX4_giftsOf 8 rfl) rfl (lv_at hl 0 rfl) ?_
        refine va_get (D := D) (ci := 3) (v := .ref (q 7)) (C := RX4) (T := TX4) (N := 19) hx hb hts in4_giftsOf_4 hown hK.1 hP 0 rfl rfl 9 (by decide) (hts _ (List.mem_of_getElem? (i := 2) rfl)) (fun _ h9 => h9) rfl (zD_g DX4_giftsOf 9 rfl) ?_
        refine lv_iload_n hx hb (zD_g DX4_giftsOf 10 rfl) rfl (lv_at hl 3 rfl) ?_
        obtain ⟨h5, hf⟩ := zg_s hf
        refine z_iald (k := y2.toNatClampNeg) hx hb hK.1 hP 7 0 rfl rfl h5 rfl (zD_g DX4_giftsOf 11 rfl) ?_
        refine lv_iload_n hx hb (zD_g DX4_giftsOf 12 rfl) rfl (lv_at hl 1 rfl) ?_
        refine lv_icmp_ne (tgt := 28) hx hb (zD_g DX4_giftsOf 13 rfl) (by decide) (fun c6 => ?_) (fun c6 => ?_)
        · replace hf := z_f c6 hf
          refine lv_iinc (v := y2 + 1) (lv' := [(3, .int (y2 + 1)), (0, .ref (q 0)), (1, .int a_city), (2, .int y1)]) (k := 3) hx hb (zD_g DX4_giftsOf 20 rfl) hl rfl rfl (by decide) rfl (fun ls hl => ?_)
          refine lv_goto (tgt := 4) hx hb (zD_g DX4_giftsOf 21 rfl) (by decide) ?_
          exact ih3 _ _ hf ls (lv_sub hl [1, 2, 3, 0] rfl)
        · replace hf := z_t c6 hf
          refine lv_iload_n hx hb (zD_g DX4_giftsOf 14 rfl) rfl (lv_at hl 2 rfl) ?_
          refine lv_iconst (v := (1 : Int32)) hx hb (zD_g DX4_giftsOf 15 rfl) (by decide) ?_
          refine lv_iload_n hx hb (zD_g DX4_giftsOf 16 rfl) rfl (lv_at hl 3 rfl) ?_
          refine lv_ishl hx hb (zD_g DX4_giftsOf 17 rfl) ?_
          refine lv_ior hx hb (zD_g DX4_giftsOf 18 rfl) ?_
          refine lv_topi (fun x7 ex7 => ?_)
          replace hf := zl_s hf x7 ex7
          refine lv_istore_n (lv' := [(2, .int x7), (0, .ref (q 0)), (1, .int a_city), (3, .int y2)]) hx hb (zD_g DX4_giftsOf 19 rfl) rfl hl (by decide) rfl (fun ls hl => ?_)
          refine lv_iinc (v := y2 + 1) (lv' := [(3, .int (y2 + 1)), (2, .int x7), (0, .ref (q 0)), (1, .int a_city)]) (k := 3) hx hb (zD_g DX4_giftsOf 20 rfl) hl rfl rfl (by decide) rfl (fun ls hl => ?_)
          refine lv_goto (tgt := 4) hx hb (zD_g DX4_giftsOf 21 rfl) (by decide) ?_
          exact ih3 _ _ hf ls (lv_sub hl [2, 3, 1, 0] rfl)
  refine hL3 _ (fun y8 hf ls hl => ?_) _ _ _ hf ls (lv_sub hl [2, 3, 1, 0] rfl)
  refine lv_iload_n hx hb (zD_g DX4_giftsOf 22 rfl) rfl (lv_at hl 0 rfl) ?_
  cases hf
  exact hret _ _ (zD_g DX4_giftsOf 23 rfl)
theorem hd4_giftsOf : yX4_giftsOf.cls = RX4 ∧ yX4_giftsOf.cls ≠ "java/lang/invoke/MethodHandle" ∧ yX4_giftsOf.cls ≠ "java/lang/invoke/VarHandle" ∧ (parseMethodDescriptor yX4_giftsOf.desc).map (fun d => d.parameters.length) = some 1 := by decide +kernel
abbrev dlX4_mayBeIn : List (Nat × Instr × Nat) := [(0, .aload_n 0, 1), (1, .iconst (-1), 1), (2, .invokevirtual 104, 3), (5, .aload_n 0, 1), (6, .iload_n 1, 1), (7, .invokevirtual 104, 3), (10, .ior, 1), (11, .ireturn, 1)]
theorem DX4_mayBeIn : zD cX4_mayBeIn dlX4_mayBeIn = true := by decide +kernel
set_option maxRecDepth 20000 in
theorem ggX4_mayBeIn_X4_inside : GoodIn wsX4_mayBeIn wsX4_inside := goodIn_r _ [5, 6, 7, 8, 9, 10, 11, 12, 13, 14, 15, 16, 17, 18, 19, 20, 21, 22, 23, 24, 25, 26] (by decide +kernel) (by decide +kernel)
set_option maxRecDepth 20000 in
theorem gX4_mayBeIn_X4_inside : GoodIn wsX4_mayBeIn (wsV RX4 104 RX4 yX4_inside wsX4_inside) := goodIn_app (goodIn_of _ (by decide +kernel)) ggX4_mayBeIn_X4_inside
def f4_mayBeIn (things : Int32) (in_ : Nat → Int32) (a_gift : Int32) : Option (Int32) := zb1 (f4_inside things in_ (-1 : Int32)) (fun r1 => zb1 (f4_inside things in_ a_gift) (fun r3 => some (r1 ||| r3)))
abbrev rm4_mayBeIn : Room := { frames := 1, cells := 0, slots := 0, locals := 23 }
set_option maxHeartbeats 4000000 in
set_option maxRecDepth 100000 in
theorem c4_mayBeIn {l : Launch} {D : va_G} {cI cZ cB : ClassId} {q : Nat → Nat} {things : Int32} {gifts : Int32} {days : Int32} {size : Nat → Int32} {weight : Nat → Int32} {sound : Nat → Int32} {harm : Nat → Int32} {in_ : Nat → Int32} {kind : Nat → Int32} {owner : Nat → Int32} {empty : Nat → Int32} {room : Nat → Int32} {told : Nat → Int32} {gate : Nat → Int32} {ear : Nat → Int32} {scale : Nat → Int32} {lost : Nat → Int32} {watch : Nat → Int32} {moments : Int32} {kept : Nat → Int32} {a_gift : Int32} {r : Int32}  (hf : f4_mayBeIn things in_ a_gift = some r) : Met l yX4_mayBeIn wsX4_mayBeIn rm4_mayBeIn (zPp D cI cZ cB [.ref (q 0), .int a_gift] (cWar cI q things gifts days size weight sound harm in_ kind owner empty room told gate ear scale lost watch moments kept)) (zQp (some (.int r))) 0 0 (fun _ => False) := by
  unfold f4_mayBeIn at hf
  refine z_pureI RX4 (by decide +kernel) rfl rfl (Nat.le_of_ble_eq_true rfl) ?_
  intro p e s m args below meth c Q ls hx hb hml hown hts hK hP hret hl
  have hl : lv_has ls 2 [(0, .ref (q 0)), (1, .int a_gift)] := hl
  refine lv_aload_n hx hb (zD_g DX4_mayBeIn 0 rfl) rfl (lv_at hl 0 rfl) ?_
  refine lv_iconst (v := (-1 : Int32)) hx hb (zD_g DX4_mayBeIn 1 rfl) (by decide) ?_
  obtain ⟨r1, hc2, hf⟩ := zb1_s hf
  refine z_Vp (As := [.int (-1 : Int32)]) (rest := []) ⟨hx, hb, hml, hown, hts⟩ hK (c4_inside (things := things) (gifts := gifts) (days := days) (size := size) (weight := weight) (sound := sound) (harm := harm) (in_ := in_) (kind := kind) (owner := owner) (empty := empty) (room := room) (told := told) (gate := gate) (ear := ear) (scale := scale) (lost := lost) (watch := watch) (moments := moments) (kept := kept) (q := q) hc2) (cwV 1 hts gX4_mayBeIn_X4_inside rfl rfl rfl hd4_inside ⟨Nat.le_of_ble_eq_true rfl, Nat.le_of_ble_eq_true rfl⟩) hP rfl rfl rfl rfl hl.1 rfl rfl (Nat.le_of_ble_eq_true rfl) (zD_g DX4_mayBeIn 2 rfl) ⟨Nat.zero_le _, Nat.zero_le _⟩ ?_
  refine lv_aload_n hx hb (zD_g DX4_mayBeIn 3 rfl) rfl (lv_at hl 0 rfl) ?_
  refine lv_iload_n hx hb (zD_g DX4_mayBeIn 4 rfl) rfl (lv_at hl 1 rfl) ?_
  obtain ⟨r3, hc4, hf⟩ := zb1_s hf
  refine z_Vp (As := [.int a_gift]) (rest := [.int r1]) ⟨hx, hb, hml, hown, hts⟩ hK (c4_inside (things := things) (gifts := gifts) (days := days) (size := size) (weight := weight) (sound := sound) (harm := harm) (in_ := in_) (kind := kind) (owner := owner) (empty := empty) (room := room) (told := told) (gate := gate) (ear := ear) (scale := scale) (lost := lost) (watch := watch) (moments := moments) (kept := kept) (q := q) hc4) (cwV 1 hts gX4_mayBeIn_X4_inside rfl rfl rfl hd4_inside ⟨Nat.le_of_ble_eq_true rfl, Nat.le_of_ble_eq_true rfl⟩) hP rfl rfl rfl rfl hl.1 rfl rfl (Nat.le_of_ble_eq_true rfl) (zD_g DX4_mayBeIn 5 rfl) ⟨Nat.zero_le _, Nat.zero_le _⟩ ?_
  refine lv_ior hx hb (zD_g DX4_mayBeIn 6 rfl) ?_
  cases hf
  exact hret _ _ (zD_g DX4_mayBeIn 7 rfl)
theorem hd4_mayBeIn : yX4_mayBeIn.cls = RX4 ∧ yX4_mayBeIn.cls ≠ "java/lang/invoke/MethodHandle" ∧ yX4_mayBeIn.cls ≠ "java/lang/invoke/VarHandle" ∧ (parseMethodDescriptor yX4_mayBeIn.desc).map (fun d => d.parameters.length) = some 1 := by decide +kernel
abbrev dlX4_thingsInGifts : List (Nat × Instr × Nat) := [(0, .aload_n 0, 1), (1, .getfield 67, 3), (4, .aload_n 0, 1), (5, .iconst (-1), 1), (6, .invokevirtual 104, 3), (9, .invokestatic 144, 3), (12, .isub, 1), (13, .ireturn, 1)]
theorem DX4_thingsInGifts : zD cX4_thingsInGifts dlX4_thingsInGifts = true := by decide +kernel
set_option maxRecDepth 20000 in
theorem ggX4_thingsInGifts_X4_inside : GoodIn wsX4_thingsInGifts wsX4_inside := goodIn_r _ [6, 1, 7, 15, 16, 17, 18, 19, 20, 21, 22, 23, 24, 25, 26, 27, 28, 29, 30, 31, 32, 33] (by decide +kernel) (by decide +kernel)
set_option maxRecDepth 20000 in
theorem gX4_thingsInGifts_X4_inside : GoodIn wsX4_thingsInGifts (wsV RX4 104 RX4 yX4_inside wsX4_inside) := goodIn_app (goodIn_of _ (by decide +kernel)) ggX4_thingsInGifts_X4_inside
set_option maxRecDepth 20000 in
theorem ggX4_thingsInGifts_J6_bitCount_0f7a4 : GoodIn wsX4_thingsInGifts wsJ6_bitCount_0f7a4 := goodIn_r _ [11, 12, 13, 14] (by decide +kernel) (by decide +kernel)
set_option maxRecDepth 20000 in
theorem gX4_thingsInGifts_J6_bitCount_0f7a4 : GoodIn wsX4_thingsInGifts (va_wsS RX4 144 yJ6_bitCount_0f7a4 wsJ6_bitCount_0f7a4) := goodIn_app (goodIn_of _ (by decide +kernel)) ggX4_thingsInGifts_J6_bitCount_0f7a4
def f4_thingsInGifts (things : Int32) (in_ : Nat → Int32) : Option (Int32) := zb1 (f4_inside things in_ (-1 : Int32)) (fun r1 => zb1 (f6_bitCount_0f7a4 r1) (fun r4 => some (things - r4)))
abbrev rm4_thingsInGifts : Room := { frames := 1, cells := 0, slots := 0, locals := 23 }
theorem in4_thingsInGifts_4 : ∀ w ∈ wsX40, w ∈ wsX4_thingsInGifts := fun w h => List.mem_cons_of_mem _ (List.mem_append_right _ h)
set_option maxHeartbeats 4000000 in
set_option maxRecDepth 100000 in
theorem c4_thingsInGifts {l : Launch} {D : va_G} {cI cZ cB : ClassId} {q : Nat → Nat} {things : Int32} {gifts : Int32} {days : Int32} {size : Nat → Int32} {weight : Nat → Int32} {sound : Nat → Int32} {harm : Nat → Int32} {in_ : Nat → Int32} {kind : Nat → Int32} {owner : Nat → Int32} {empty : Nat → Int32} {room : Nat → Int32} {told : Nat → Int32} {gate : Nat → Int32} {ear : Nat → Int32} {scale : Nat → Int32} {lost : Nat → Int32} {watch : Nat → Int32} {moments : Int32} {kept : Nat → Int32}  {r : Int32}  (hf : f4_thingsInGifts things in_ = some r) : Met l yX4_thingsInGifts wsX4_thingsInGifts rm4_thingsInGifts (zPp D cI cZ cB [.ref (q 0)] (cWar cI q things gifts days size weight sound harm in_ kind owner empty room told gate ear scale lost watch moments kept)) (zQp (some (.int r))) 0 0 (fun _ => False) := by
  unfold f4_thingsInGifts at hf
  refine z_pureI RX4 (by decide +kernel) rfl rfl (Nat.le_of_ble_eq_true rfl) ?_
  intro p e s m args below meth c Q ls hx hb hml hown hts hK hP hret hl
  have hl : lv_has ls 1 [(0, .ref (q 0))] := hl
  refine lv_aload_n hx hb (zD_g DX4_thingsInGifts 0 rfl) rfl (lv_at hl 0 rfl) ?_
  refine va_get (D := D) (ci := 3) (v := .int things) (C := RX4) (T := TX4) (N := 19) hx hb hts in4_thingsInGifts_4 hown hK.1 hP 0 rfl rfl 0 (by decide) (hts _ (List.mem_of_getElem? (i := 1) rfl)) (fun _ h9 => h9) rfl (zD_g DX4_thingsInGifts 1 rfl) ?_
  refine lv_aload_n hx hb (zD_g DX4_thingsInGifts 2 rfl) rfl (lv_at hl 0 rfl) ?_
  refine lv_iconst (v := (-1 : Int32)) hx hb (zD_g DX4_thingsInGifts 3 rfl) (by decide) ?_
  obtain ⟨r1, hc2, hf⟩ := zb1_s hf
  refine z_Vp (As := [.int (-1 : Int32)]) (rest := [.int things]) ⟨hx, hb, hml, hown, hts⟩ hK (c4_inside (things := things) (gifts := gifts) (days := days) (size := size) (weight := weight) (sound := sound) (harm := harm) (in_ := in_) (kind := kind) (owner := owner) (empty := empty) (room := room) (told := told) (gate := gate) (ear := ear) (scale := scale) (lost := lost) (watch := watch) (moments := moments) (kept := kept) (q := q) hc2) (cwV 1 hts gX4_thingsInGifts_X4_inside rfl rfl rfl hd4_inside ⟨Nat.le_of_ble_eq_true rfl, Nat.le_of_ble_eq_true rfl⟩) hP rfl rfl rfl rfl hl.1 rfl rfl (Nat.le_of_ble_eq_true rfl) (zD_g DX4_thingsInGifts 4 rfl) ⟨Nat.zero_le _, Nat.zero_le _⟩ ?_
  obtain ⟨r4, hc4, hf⟩ := zb1_s hf
  refine z_Sp (As := [.int r1]) (rest := [.int things]) ⟨hx, hb, hml, hown, hts⟩ hK (c6_bitCount_0f7a4 hc4) (va_cwS 1 hts gX4_thingsInGifts_J6_bitCount_0f7a4 rfl rfl rfl hd6_bitCount_0f7a4 ⟨Nat.le_of_ble_eq_true rfl, Nat.le_of_ble_eq_true rfl⟩) (hP.sub [] rfl) rfl hl.1 rfl rfl (Nat.le_of_ble_eq_true rfl) (zD_g DX4_thingsInGifts 5 rfl) ⟨Nat.zero_le _, Nat.zero_le _⟩ ?_
  refine lv_isub hx hb (zD_g DX4_thingsInGifts 6 rfl) ?_
  cases hf
  exact hret _ _ (zD_g DX4_thingsInGifts 7 rfl)
theorem hd4_thingsInGifts : yX4_thingsInGifts.cls = RX4 ∧ yX4_thingsInGifts.cls ≠ "java/lang/invoke/MethodHandle" ∧ yX4_thingsInGifts.cls ≠ "java/lang/invoke/VarHandle" ∧ (parseMethodDescriptor yX4_thingsInGifts.desc).map (fun d => d.parameters.length) = some 0 := by decide +kernel
abbrev dlX4_digestThings : List (Nat × Instr × Nat) := [(0, .lload_n 1, 1), (1, .lstore_n 3, 1), (2, .iconst 0, 1), (3, .istore 5, 2), (5, .iload 5, 2), (7, .aload_n 0, 1), (8, .getfield 67, 3), (11, .if_icmp .ge 84, 3), (14, .ldc2_w 180, 3), (17, .lload_n 3, 1), (18, .lmul, 1), (19, .aload_n 0, 1), (20, .getfield 9, 3), (23, .iload 5, 2), (25, .iaload, 1), (26, .i2l, 1), (27, .ladd, 1), (28, .lstore_n 3, 1), (29, .ldc2_w 180, 3), (32, .lload_n 3, 1), (33, .lmul, 1), (34, .aload_n 0, 1), (35, .getfield 15, 3), (38, .iload 5, 2), (40, .iaload, 1), (41, .i2l, 1), (42, .ladd, 1), (43, .lstore_n 3, 1), (44, .ldc2_w 180, 3), (47, .lload_n 3, 1), (48, .lmul, 1), (49, .aload_n 0, 1), (50, .getfield 18, 3), (53, .iload 5, 2), (55, .iaload, 1), (56, .i2l, 1), (57, .ladd, 1), (58, .lstore_n 3, 1), (59, .ldc2_w 180, 3), (62, .lload_n 3, 1), (63, .lmul, 1), (64, .aload_n 0, 1), (65, .getfield 21, 3), (68, .iload 5, 2), (70, .iaload, 1), (71, .i2l, 1), (72, .ladd, 1), (73, .lstore_n 3, 1), (74, .ldc2_w 180, 3), (77, .lload_n 3, 1), (78, .lmul, 1), (79, .aload_n 0, 1), (80, .getfield 24, 3), (83, .iload 5, 2), (85, .iaload, 1), (86, .i2l, 1), (87, .ladd, 1), (88, .lstore_n 3, 1), (89, .iinc 5 1, 3), (92, .goto (-87), 3), (95, .lload_n 3, 1), (96, .lreturn, 1)]
theorem DX4_digestThings : zD cX4_digestThings dlX4_digestThings = true := by decide +kernel
def L4_digestThings_5 (k3 : Int64 → Option (Int64))  (things : Int32) (size : Nat → Int32) (weight : Nat → Int32) (sound : Nat → Int32) (harm : Nat → Int32) (in_ : Nat → Int32) : Nat → Int64 → Int32 → Option (Int64)
  | 0, _, _ => none
  | n3 + 1, y1, y2 => if things ≤ y2 then k3 y1 else zg y2 8 (zl ((((31 : Int64) * y1) + (((size y2.toNatClampNeg)).toInt64))) (fun x6 => zg y2 8 (zl ((((31 : Int64) * x6) + (((weight y2.toNatClampNeg)).toInt64))) (fun x8 => zg y2 8 (zl ((((31 : Int64) * x8) + (((sound y2.toNatClampNeg)).toInt64))) (fun x10 => zg y2 8 (zl ((((31 : Int64) * x10) + (((harm y2.toNatClampNeg)).toInt64))) (fun x12 => zg y2 8 (zl ((((31 : Int64) * x12) + (((in_ y2.toNatClampNeg)).toInt64))) (fun x14 => L4_digestThings_5 k3 things size weight sound harm in_ n3 x14 (y2 + 1)))))))))))
def f4_digestThings (things : Int32) (size : Nat → Int32) (weight : Nat → Int32) (sound : Nat → Int32) (harm : Nat → Int32) (in_ : Nat → Int32) (a_before : Int64) : Option (Int64) := L4_digestThings_5 (fun y15 => some y15) things size weight sound harm in_ FU a_before (0 : Int32)
abbrev rm4_digestThings : Room := { frames := 0, cells := 0, slots := 0, locals := 0 }
theorem in4_digestThings_4 : ∀ w ∈ wsX40, w ∈ wsX4_digestThings := fun w h => List.mem_cons_of_mem _ (List.mem_append_right _ h)
set_option maxHeartbeats 4000000 in
set_option maxRecDepth 100000 in
theorem c4_digestThings {l : Launch} {D : va_G} {cI cZ cB : ClassId} {q : Nat → Nat} {things : Int32} {gifts : Int32} {days : Int32} {size : Nat → Int32} {weight : Nat → Int32} {sound : Nat → Int32} {harm : Nat → Int32} {in_ : Nat → Int32} {kind : Nat → Int32} {owner : Nat → Int32} {empty : Nat → Int32} {room : Nat → Int32} {told : Nat → Int32} {gate : Nat → Int32} {ear : Nat → Int32} {scale : Nat → Int32} {lost : Nat → Int32} {watch : Nat → Int32} {moments : Int32} {kept : Nat → Int32} {a_before : Int64} {r : Int64}  (hf : f4_digestThings things size weight sound harm in_ a_before = some r) : Met l yX4_digestThings wsX4_digestThings rm4_digestThings (zPp D cI cZ cB [.ref (q 0), .long a_before] (cWar cI q things gifts days size weight sound harm in_ kind owner empty room told gate ear scale lost watch moments kept)) (zQp (some (.long r))) 0 0 (fun _ => False) := by
  unfold f4_digestThings at hf
  refine z_pureL RX4 (by decide +kernel) rfl rfl (Nat.le_of_ble_eq_true rfl) ?_
  intro p e s m args below meth c Q ls hx hb hml hown hts hK hP hret hl
  have hl : lv_has ls 6 [(0, .ref (q 0)), (1, .long a_before)] := hl
  refine lv_lload_n hx hb (zD_g DX4_digestThings 0 rfl) rfl (lv_at hl 1 rfl) ?_
  refine lv_lstore_n (lv' := [(3, .long a_before), (0, .ref (q 0)), (1, .long a_before)]) hx hb (zD_g DX4_digestThings 1 rfl) rfl hl (by decide) rfl (fun ls hl => ?_)
  refine lv_iconst (v := (0 : Int32)) hx hb (zD_g DX4_digestThings 2 rfl) (by decide) ?_
  refine lv_istore (lv' := [(5, .int (0 : Int32)), (3, .long a_before), (0, .ref (q 0)), (1, .long a_before)]) hx hb (zD_g DX4_digestThings 3 rfl) hl (by decide) rfl (fun ls hl => ?_)
  have hL3 : ∀ (k3 : Int64 → Option (Int64)) (hk3 : ∀ (y15 : Int64), k3 y15 = some r → ∀ (ls : Array Slot), lv_has ls 6 [(3, .long y15)] → W p l e rm4_digestThings s m args below meth c s.heap [] 0 0 Q (F0 m 95 ls [])) (n3 : Nat) (y1 : Int64) (y2 : Int32), L4_digestThings_5 k3 things size weight sound harm in_ n3 y1 y2 = some r → ∀ (ls : Array Slot), lv_has ls 6 [(0, .ref (q 0)), (3, .long y1), (5, .int y2)] → W p l e rm4_digestThings s m args below meth c s.heap [] 0 0 Q (F0 m 5 ls []) := by
    intro k3 hk3 n3
    induction n3 with
    | zero =>
      intro y1 y2 hf
      cases hf
    | succ n3 ih3 =>
      intro y1 y2 hf ls hl
      rw [L4_digestThings_5] at hf
      refine lv_iload hx hb (zD_g DX4_digestThings 4 rfl) (lv_at hl 2 rfl) ?_
      refine lv_aload_n hx hb (zD_g DX4_digestThings 5 rfl) rfl (lv_at hl 0 rfl) ?_
      refine va_get (D := D) (ci := 3) (v := .int things) (C := RX4) (T := TX4) (N := 19) hx hb hts in4_digestThings_4 hown hK.1 hP 0 rfl rfl 0 (by decide) (hts _ (List.mem_of_getElem? (i := 1) rfl)) (fun _ h9 => h9) rfl (zD_g DX4_digestThings 6 rfl) ?_
      refine lv_icmp_ge (tgt := 95) hx hb (zD_g DX4_digestThings 7 rfl) (by decide) (fun c4 => ?_) (fun c4 => ?_)
      · replace hf := z_t c4 hf
        exact hk3 _ hf ls (lv_sub hl [1] rfl)
      · replace hf := z_f c4 hf
        refine lv_ldc2 (v := (31 : Int64)) hx hb hown (hts _ (List.mem_of_getElem? (i := 2) rfl)) (zD_g DX4_digestThings 8 rfl) ?_
        refine lv_lload_n hx hb (zD_g DX4_digestThings 9 rfl) rfl (lv_at hl 1 rfl) ?_
        refine lv_lmul hx hb (zD_g DX4_digestThings 10 rfl) ?_
        refine lv_aload_n hx hb (zD_g DX4_digestThings 11 rfl) rfl (lv_at hl 0 rfl) ?_
        refine va_get (D := D) (ci := 3) (v := .ref (q 1)) (C := RX4) (T := TX4) (N := 19) hx hb hts in4_digestThings_4 hown hK.1 hP 0 rfl rfl 3 (by decide) (hts _ (List.mem_of_getElem? (i := 3) rfl)) (fun _ h9 => h9) rfl (zD_g DX4_digestThings 12 rfl) ?_
        refine lv_iload hx hb (zD_g DX4_digestThings 13 rfl) (lv_at hl 2 rfl) ?_
        obtain ⟨h5, hf⟩ := zg_s hf
        refine z_iald (k := y2.toNatClampNeg) hx hb hK.1 hP 1 0 rfl rfl h5 rfl (zD_g DX4_digestThings 14 rfl) ?_
        refine lv_i2l (v := ((size y2.toNatClampNeg)).toInt64) hx hb (zD_g DX4_digestThings 15 rfl) rfl ?_
        refine lv_ladd hx hb (zD_g DX4_digestThings 16 rfl) ?_
        refine lv_topl (fun x6 ex6 => ?_)
        replace hf := zl_s hf x6 ex6
        refine lv_lstore_n (lv' := [(3, .long x6), (0, .ref (q 0)), (5, .int y2)]) hx hb (zD_g DX4_digestThings 17 rfl) rfl hl (by decide) rfl (fun ls hl => ?_)
        refine lv_ldc2 (v := (31 : Int64)) hx hb hown (hts _ (List.mem_of_getElem? (i := 2) rfl)) (zD_g DX4_digestThings 18 rfl) ?_
        refine lv_lload_n hx hb (zD_g DX4_digestThings 19 rfl) rfl (lv_at hl 0 rfl) ?_
        refine lv_lmul hx hb (zD_g DX4_digestThings 20 rfl) ?_
        refine lv_aload_n hx hb (zD_g DX4_digestThings 21 rfl) rfl (lv_at hl 1 rfl) ?_
        refine va_get (D := D) (ci := 3) (v := .ref (q 2)) (C := RX4) (T := TX4) (N := 19) hx hb hts in4_digestThings_4 hown hK.1 hP 0 rfl rfl 4 (by decide) (hts _ (List.mem_of_getElem? (i := 4) rfl)) (fun _ h9 => h9) rfl (zD_g DX4_digestThings 22 rfl) ?_
        refine lv_iload hx hb (zD_g DX4_digestThings 23 rfl) (lv_at hl 2 rfl) ?_
        obtain ⟨h7, hf⟩ := zg_s hf
        refine z_iald (k := y2.toNatClampNeg) hx hb hK.1 hP 2 0 rfl rfl h7 rfl (zD_g DX4_digestThings 24 rfl) ?_
        refine lv_i2l (v := ((weight y2.toNatClampNeg)).toInt64) hx hb (zD_g DX4_digestThings 25 rfl) rfl ?_
        refine lv_ladd hx hb (zD_g DX4_digestThings 26 rfl) ?_
        refine lv_topl (fun x8 ex8 => ?_)
        replace hf := zl_s hf x8 ex8
        refine lv_lstore_n (lv' := [(3, .long x8), (0, .ref (q 0)), (5, .int y2)]) hx hb (zD_g DX4_digestThings 27 rfl) rfl hl (by decide) rfl (fun ls hl => ?_)
        refine lv_ldc2 (v := (31 : Int64)) hx hb hown (hts _ (List.mem_of_getElem? (i := 2) rfl)) (zD_g DX4_digestThings 28 rfl) ?_
        refine lv_lload_n hx hb (zD_g DX4_digestThings 29 rfl) rfl (lv_at hl 0 rfl) ?_
        refine lv_lmul hx hb (zD_g DX4_digestThings 30 rfl) ?_
        refine lv_aload_n hx hb (zD_g DX4_digestThings 31 rfl) rfl (lv_at hl 1 rfl) ?_
        refine va_get (D := D) (ci := 3) (v := .ref (q 3)) (C := RX4) (T := TX4) (N := 19) hx hb hts in4_digestThings_4 hown hK.1 hP 0 rfl rfl 5 (by decide) (hts _ (List.mem_of_getElem? (i := 5) rfl)) (fun _ h9 => h9) rfl (zD_g DX4_digestThings 32 rfl) ?_
        refine lv_iload hx hb (zD_g DX4_digestThings 33 rfl) (lv_at hl 2 rfl) ?_
        obtain ⟨h9, hf⟩ := zg_s hf
        refine z_iald (k := y2.toNatClampNeg) hx hb hK.1 hP 3 0 rfl rfl h9 rfl (zD_g DX4_digestThings 34 rfl) ?_
        refine lv_i2l (v := ((sound y2.toNatClampNeg)).toInt64) hx hb (zD_g DX4_digestThings 35 rfl) rfl ?_
        refine lv_ladd hx hb (zD_g DX4_digestThings 36 rfl) ?_
        refine lv_topl (fun x10 ex10 => ?_)
        replace hf := zl_s hf x10 ex10
        refine lv_lstore_n (lv' := [(3, .long x10), (0, .ref (q 0)), (5, .int y2)]) hx hb (zD_g DX4_digestThings 37 rfl) rfl hl (by decide) rfl (fun ls hl => ?_)
        refine lv_ldc2 (v := (31 : Int64)) hx hb hown (hts _ (List.mem_of_getElem? (i := 2) rfl)) (zD_g DX4_digestThings 38 rfl) ?_
        refine lv_lload_n hx hb (zD_g DX4_digestThings 39 rfl) rfl (lv_at hl 0 rfl) ?_
        refine lv_lmul hx hb (zD_g DX4_digestThings 40 rfl) ?_
        refine lv_aload_n hx hb (zD_g DX4_digestThings 41 rfl) rfl (lv_at hl 1 rfl) ?_
        refine va_get (D := D) (ci := 3) (v := .ref (q 4)) (C := RX4) (T := TX4) (N := 19) hx hb hts in4_digestThings_4 hown hK.1 hP 0 rfl rfl 6 (by decide) (hts _ (List.mem_of_getElem? (i := 6) rfl)) (fun _ h9 => h9) rfl (zD_g DX4_digestThings 42 rfl) ?_
        refine lv_iload hx hb (zD_g DX4_digestThings 43 rfl) (lv_at hl 2 rfl) ?_
        obtain ⟨h11, hf⟩ := zg_s hf
        refine z_iald (k := y2.toNatClampNeg) hx hb hK.1 hP 4 0 rfl rfl h11 rfl (zD_g DX4_digestThings 44 rfl) ?_
        refine lv_i2l (v := ((harm y2.toNatClampNeg)).toInt64) hx hb (zD_g DX4_digestThings 45 rfl) rfl ?_
        refine lv_ladd hx hb (zD_g DX4_digestThings 46 rfl) ?_
        refine lv_topl (fun x12 ex12 => ?_)
        replace hf := zl_s hf x12 ex12
        refine lv_lstore_n (lv' := [(3, .long x12), (0, .ref (q 0)), (5, .int y2)]) hx hb (zD_g DX4_digestThings 47 rfl) rfl hl (by decide) rfl (fun ls hl => ?_)
        refine lv_ldc2 (v := (31 : Int64)) hx hb hown (hts _ (List.mem_of_getElem? (i := 2) rfl)) (zD_g DX4_digestThings 48 rfl) ?_
        refine lv_lload_n hx hb (zD_g DX4_digestThings 49 rfl) rfl (lv_at hl 0 rfl) ?_
        refine lv_lmul hx hb (zD_g DX4_digestThings 50 rfl) ?_
        refine lv_aload_n hx hb (zD_g DX4_digestThings 51 rfl) rfl (lv_at hl 1 rfl) ?_
        refine va_get (D := D) (ci := 3) (v := .ref (q 5)) (C := RX4) (T := TX4) (N := 19) hx hb hts in4_digestThings_4 hown hK.1 hP 0 rfl rfl 7 (by decide) (hts _ (List.mem_of_getElem? (i := 7) rfl)) (fun _ h9 => h9) rfl (zD_g DX4_digestThings 52 rfl) ?_
        refine lv_iload hx hb (zD_g DX4_digestThings 53 rfl) (lv_at hl 2 rfl) ?_
        obtain ⟨h13, hf⟩ := zg_s hf
        refine z_iald (k := y2.toNatClampNeg) hx hb hK.1 hP 5 0 rfl rfl h13 rfl (zD_g DX4_digestThings 54 rfl) ?_
        refine lv_i2l (v := ((in_ y2.toNatClampNeg)).toInt64) hx hb (zD_g DX4_digestThings 55 rfl) rfl ?_
        refine lv_ladd hx hb (zD_g DX4_digestThings 56 rfl) ?_
        refine lv_topl (fun x14 ex14 => ?_)
        replace hf := zl_s hf x14 ex14
        refine lv_lstore_n (lv' := [(3, .long x14), (0, .ref (q 0)), (5, .int y2)]) hx hb (zD_g DX4_digestThings 57 rfl) rfl hl (by decide) rfl (fun ls hl => ?_)
        refine lv_iinc (v := y2 + 1) (lv' := [(5, .int (y2 + 1)), (3, .long x14), (0, .ref (q 0))]) (k := 2) hx hb (zD_g DX4_digestThings 58 rfl) hl rfl rfl (by decide) rfl (fun ls hl => ?_)
        refine lv_goto (tgt := 5) hx hb (zD_g DX4_digestThings 59 rfl) (by decide) ?_
        exact ih3 _ _ hf ls (lv_sub hl [2, 1, 0] rfl)
  refine hL3 _ (fun y15 hf ls hl => ?_) _ _ _ hf ls (lv_sub hl [2, 1, 0] rfl)
  refine lv_lload_n hx hb (zD_g DX4_digestThings 60 rfl) rfl (lv_at hl 0 rfl) ?_
  cases hf
  exact hret _ _ (zD_g DX4_digestThings 61 rfl)
theorem hd4_digestThings : yX4_digestThings.cls = RX4 ∧ yX4_digestThings.cls ≠ "java/lang/invoke/MethodHandle" ∧ yX4_digestThings.cls ≠ "java/lang/invoke/VarHandle" ∧ (parseMethodDescriptor yX4_digestThings.desc).map (fun d => d.parameters.length) = some 1 := by decide +kernel
abbrev dlX4_digestGifts : List (Nat × Instr × Nat) := [(0, .lload_n 1, 1), (1, .lstore_n 3, 1), (2, .iconst 0, 1), (3, .istore 5, 2), (5, .iload 5, 2), (7, .aload_n 0, 1), (8, .getfield 71, 3), (11, .if_icmp .ge 84, 3), (14, .ldc2_w 180, 3), (17, .lload_n 3, 1), (18, .lmul, 1), (19, .aload_n 0, 1), (20, .getfield 27, 3), (23, .iload 5, 2), (25, .iaload, 1), (26, .i2l, 1), (27, .ladd, 1), (28, .lstore_n 3, 1), (29, .ldc2_w 180, 3), (32, .lload_n 3, 1), (33, .lmul, 1), (34, .aload_n 0, 1), (35, .getfield 30, 3), (38, .iload 5, 2), (40, .iaload, 1), (41, .i2l, 1), (42, .ladd, 1), (43, .lstore_n 3, 1), (44, .ldc2_w 180, 3), (47, .lload_n 3, 1), (48, .lmul, 1), (49, .aload_n 0, 1), (50, .getfield 33, 3), (53, .iload 5, 2), (55, .iaload, 1), (56, .i2l, 1), (57, .ladd, 1), (58, .lstore_n 3, 1), (59, .ldc2_w 180, 3), (62, .lload_n 3, 1), (63, .lmul, 1), (64, .aload_n 0, 1), (65, .getfield 36, 3), (68, .iload 5, 2), (70, .iaload, 1), (71, .i2l, 1), (72, .ladd, 1), (73, .lstore_n 3, 1), (74, .ldc2_w 180, 3), (77, .lload_n 3, 1), (78, .lmul, 1), (79, .aload_n 0, 1), (80, .getfield 39, 3), (83, .iload 5, 2), (85, .iaload, 1), (86, .i2l, 1), (87, .ladd, 1), (88, .lstore_n 3, 1), (89, .iinc 5 1, 3), (92, .goto (-87), 3), (95, .lload_n 3, 1), (96, .lreturn, 1)]
theorem DX4_digestGifts : zD cX4_digestGifts dlX4_digestGifts = true := by decide +kernel
def L4_digestGifts_5 (k3 : Int64 → Option (Int64))  (gifts : Int32) (kind : Nat → Int32) (owner : Nat → Int32) (empty : Nat → Int32) (room : Nat → Int32) (told : Nat → Int32) : Nat → Int64 → Int32 → Option (Int64)
  | 0, _, _ => none
  | n3 + 1, y1, y2 => if gifts ≤ y2 then k3 y1 else zg y2 6 (zl ((((31 : Int64) * y1) + (((kind y2.toNatClampNeg)).toInt64))) (fun x6 => zg y2 6 (zl ((((31 : Int64) * x6) + (((owner y2.toNatClampNeg)).toInt64))) (fun x8 => zg y2 6 (zl ((((31 : Int64) * x8) + (((empty y2.toNatClampNeg)).toInt64))) (fun x10 => zg y2 6 (zl ((((31 : Int64) * x10) + (((room y2.toNatClampNeg)).toInt64))) (fun x12 => zg y2 6 (zl ((((31 : Int64) * x12) + (((told y2.toNatClampNeg)).toInt64))) (fun x14 => L4_digestGifts_5 k3 gifts kind owner empty room told n3 x14 (y2 + 1)))))))))))
def f4_digestGifts (gifts : Int32) (kind : Nat → Int32) (owner : Nat → Int32) (empty : Nat → Int32) (room : Nat → Int32) (told : Nat → Int32) (a_before : Int64) : Option (Int64) := L4_digestGifts_5 (fun y15 => some y15) gifts kind owner empty room told FU a_before (0 : Int32)
abbrev rm4_digestGifts : Room := { frames := 0, cells := 0, slots := 0, locals := 0 }
theorem in4_digestGifts_4 : ∀ w ∈ wsX40, w ∈ wsX4_digestGifts := fun w h => List.mem_cons_of_mem _ (List.mem_append_right _ h)
set_option maxHeartbeats 4000000 in
set_option maxRecDepth 100000 in
theorem c4_digestGifts {l : Launch} {D : va_G} {cI cZ cB : ClassId} {q : Nat → Nat} {things : Int32} {gifts : Int32} {days : Int32} {size : Nat → Int32} {weight : Nat → Int32} {sound : Nat → Int32} {harm : Nat → Int32} {in_ : Nat → Int32} {kind : Nat → Int32} {owner : Nat → Int32} {empty : Nat → Int32} {room : Nat → Int32} {told : Nat → Int32} {gate : Nat → Int32} {ear : Nat → Int32} {scale : Nat → Int32} {lost : Nat → Int32} {watch : Nat → Int32} {moments : Int32} {kept : Nat → Int32} {a_before : Int64} {r : Int64}  (hf : f4_digestGifts gifts kind owner empty room told a_before = some r) : Met l yX4_digestGifts wsX4_digestGifts rm4_digestGifts (zPp D cI cZ cB [.ref (q 0), .long a_before] (cWar cI q things gifts days size weight sound harm in_ kind owner empty room told gate ear scale lost watch moments kept)) (zQp (some (.long r))) 0 0 (fun _ => False) := by
  unfold f4_digestGifts at hf
  refine z_pureL RX4 (by decide +kernel) rfl rfl (Nat.le_of_ble_eq_true rfl) ?_
  intro p e s m args below meth c Q ls hx hb hml hown hts hK hP hret hl
  have hl : lv_has ls 6 [(0, .ref (q 0)), (1, .long a_before)] := hl
  refine lv_lload_n hx hb (zD_g DX4_digestGifts 0 rfl) rfl (lv_at hl 1 rfl) ?_
  refine lv_lstore_n (lv' := [(3, .long a_before), (0, .ref (q 0)), (1, .long a_before)]) hx hb (zD_g DX4_digestGifts 1 rfl) rfl hl (by decide) rfl (fun ls hl => ?_)
  refine lv_iconst (v := (0 : Int32)) hx hb (zD_g DX4_digestGifts 2 rfl) (by decide) ?_
  refine lv_istore (lv' := [(5, .int (0 : Int32)), (3, .long a_before), (0, .ref (q 0)), (1, .long a_before)]) hx hb (zD_g DX4_digestGifts 3 rfl) hl (by decide) rfl (fun ls hl => ?_)
  have hL3 : ∀ (k3 : Int64 → Option (Int64)) (hk3 : ∀ (y15 : Int64), k3 y15 = some r → ∀ (ls : Array Slot), lv_has ls 6 [(3, .long y15)] → W p l e rm4_digestGifts s m args below meth c s.heap [] 0 0 Q (F0 m 95 ls [])) (n3 : Nat) (y1 : Int64) (y2 : Int32), L4_digestGifts_5 k3 gifts kind owner empty room told n3 y1 y2 = some r → ∀ (ls : Array Slot), lv_has ls 6 [(0, .ref (q 0)), (3, .long y1), (5, .int y2)] → W p l e rm4_digestGifts s m args below meth c s.heap [] 0 0 Q (F0 m 5 ls []) := by
    intro k3 hk3 n3
    induction n3 with
    | zero =>
      intro y1 y2 hf
      cases hf
    | succ n3 ih3 =>
      intro y1 y2 hf ls hl
      rw [L4_digestGifts_5] at hf
      refine lv_iload hx hb (zD_g DX4_digestGifts 4 rfl) (lv_at hl 2 rfl) ?_
      refine lv_aload_n hx hb (zD_g DX4_digestGifts 5 rfl) rfl (lv_at hl 0 rfl) ?_
      refine va_get (D := D) (ci := 3) (v := .int gifts) (C := RX4) (T := TX4) (N := 19) hx hb hts in4_digestGifts_4 hown hK.1 hP 0 rfl rfl 1 (by decide) (hts _ (List.mem_of_getElem? (i := 1) rfl)) (fun _ h9 => h9) rfl (zD_g DX4_digestGifts 6 rfl) ?_
      refine lv_icmp_ge (tgt := 95) hx hb (zD_g DX4_digestGifts 7 rfl) (by decide) (fun c4 => ?_) (fun c4 => ?_)
      · replace hf := z_t c4 hf
        exact hk3 _ hf ls (lv_sub hl [1] rfl)
      · replace hf := z_f c4 hf
        refine lv_ldc2 (v := (31 : Int64)) hx hb hown (hts _ (List.mem_of_getElem? (i := 2) rfl)) (zD_g DX4_digestGifts 8 rfl) ?_
        refine lv_lload_n hx hb (zD_g DX4_digestGifts 9 rfl) rfl (lv_at hl 1 rfl) ?_
        refine lv_lmul hx hb (zD_g DX4_digestGifts 10 rfl) ?_
        refine lv_aload_n hx hb (zD_g DX4_digestGifts 11 rfl) rfl (lv_at hl 0 rfl) ?_
        refine va_get (D := D) (ci := 3) (v := .ref (q 6)) (C := RX4) (T := TX4) (N := 19) hx hb hts in4_digestGifts_4 hown hK.1 hP 0 rfl rfl 8 (by decide) (hts _ (List.mem_of_getElem? (i := 3) rfl)) (fun _ h9 => h9) rfl (zD_g DX4_digestGifts 12 rfl) ?_
        refine lv_iload hx hb (zD_g DX4_digestGifts 13 rfl) (lv_at hl 2 rfl) ?_
        obtain ⟨h5, hf⟩ := zg_s hf
        refine z_iald (k := y2.toNatClampNeg) hx hb hK.1 hP 6 0 rfl rfl h5 rfl (zD_g DX4_digestGifts 14 rfl) ?_
        refine lv_i2l (v := ((kind y2.toNatClampNeg)).toInt64) hx hb (zD_g DX4_digestGifts 15 rfl) rfl ?_
        refine lv_ladd hx hb (zD_g DX4_digestGifts 16 rfl) ?_
        refine lv_topl (fun x6 ex6 => ?_)
        replace hf := zl_s hf x6 ex6
        refine lv_lstore_n (lv' := [(3, .long x6), (0, .ref (q 0)), (5, .int y2)]) hx hb (zD_g DX4_digestGifts 17 rfl) rfl hl (by decide) rfl (fun ls hl => ?_)
        refine lv_ldc2 (v := (31 : Int64)) hx hb hown (hts _ (List.mem_of_getElem? (i := 2) rfl)) (zD_g DX4_digestGifts 18 rfl) ?_
        refine lv_lload_n hx hb (zD_g DX4_digestGifts 19 rfl) rfl (lv_at hl 0 rfl) ?_
        refine lv_lmul hx hb (zD_g DX4_digestGifts 20 rfl) ?_
        refine lv_aload_n hx hb (zD_g DX4_digestGifts 21 rfl) rfl (lv_at hl 1 rfl) ?_
        refine va_get (D := D) (ci := 3) (v := .ref (q 7)) (C := RX4) (T := TX4) (N := 19) hx hb hts in4_digestGifts_4 hown hK.1 hP 0 rfl rfl 9 (by decide) (hts _ (List.mem_of_getElem? (i := 4) rfl)) (fun _ h9 => h9) rfl (zD_g DX4_digestGifts 22 rfl) ?_
        refine lv_iload hx hb (zD_g DX4_digestGifts 23 rfl) (lv_at hl 2 rfl) ?_
        obtain ⟨h7, hf⟩ := zg_s hf
        refine z_iald (k := y2.toNatClampNeg) hx hb hK.1 hP 7 0 rfl rfl h7 rfl (zD_g DX4_digestGifts 24 rfl) ?_
        refine lv_i2l (v := ((owner y2.toNatClampNeg)).toInt64) hx hb (zD_g DX4_digestGifts 25 rfl) rfl ?_
        refine lv_ladd hx hb (zD_g DX4_digestGifts 26 rfl) ?_
        refine lv_topl (fun x8 ex8 => ?_)
        replace hf := zl_s hf x8 ex8
        refine lv_lstore_n (lv' := [(3, .long x8), (0, .ref (q 0)), (5, .int y2)]) hx hb (zD_g DX4_digestGifts 27 rfl) rfl hl (by decide) rfl (fun ls hl => ?_)
        refine lv_ldc2 (v := (31 : Int64)) hx hb hown (hts _ (List.mem_of_getElem? (i := 2) rfl)) (zD_g DX4_digestGifts 28 rfl) ?_
        refine lv_lload_n hx hb (zD_g DX4_digestGifts 29 rfl) rfl (lv_at hl 0 rfl) ?_
        refine lv_lmul hx hb (zD_g DX4_digestGifts 30 rfl) ?_
        refine lv_aload_n hx hb (zD_g DX4_digestGifts 31 rfl) rfl (lv_at hl 1 rfl) ?_
        refine va_get (D := D) (ci := 3) (v := .ref (q 8)) (C := RX4) (T := TX4) (N := 19) hx hb hts in4_digestGifts_4 hown hK.1 hP 0 rfl rfl 10 (by decide) (hts _ (List.mem_of_getElem? (i := 5) rfl)) (fun _ h9 => h9) rfl (zD_g DX4_digestGifts 32 rfl) ?_
        refine lv_iload hx hb (zD_g DX4_digestGifts 33 rfl) (lv_at hl 2 rfl) ?_
        obtain ⟨h9, hf⟩ := zg_s hf
        refine z_iald (k := y2.toNatClampNeg) hx hb hK.1 hP 8 0 rfl rfl h9 rfl (zD_g DX4_digestGifts 34 rfl) ?_
        refine lv_i2l (v := ((empty y2.toNatClampNeg)).toInt64) hx hb (zD_g DX4_digestGifts 35 rfl) rfl ?_
        refine lv_ladd hx hb (zD_g DX4_digestGifts 36 rfl) ?_
        refine lv_topl (fun x10 ex10 => ?_)
        replace hf := zl_s hf x10 ex10
        refine lv_lstore_n (lv' := [(3, .long x10), (0, .ref (q 0)), (5, .int y2)]) hx hb (zD_g DX4_digestGifts 37 rfl) rfl hl (by decide) rfl (fun ls hl => ?_)
        refine lv_ldc2 (v := (31 : Int64)) hx hb hown (hts _ (List.mem_of_getElem? (i := 2) rfl)) (zD_g DX4_digestGifts 38 rfl) ?_
        refine lv_lload_n hx hb (zD_g DX4_digestGifts 39 rfl) rfl (lv_at hl 0 rfl) ?_
        refine lv_lmul hx hb (zD_g DX4_digestGifts 40 rfl) ?_
        refine lv_aload_n hx hb (zD_g DX4_digestGifts 41 rfl) rfl (lv_at hl 1 rfl) ?_
        refine va_get (D := D) (ci := 3) (v := .ref (q 9)) (C := RX4) (T := TX4) (N := 19) hx hb hts in4_digestGifts_4 hown hK.1 hP 0 rfl rfl 11 (by decide) (hts _ (List.mem_of_getElem? (i := 6) rfl)) (fun _ h9 => h9) rfl (zD_g DX4_digestGifts 42 rfl) ?_
        refine lv_iload hx hb (zD_g DX4_digestGifts 43 rfl) (lv_at hl 2 rfl) ?_
        obtain ⟨h11, hf⟩ := zg_s hf
        refine z_iald (k := y2.toNatClampNeg) hx hb hK.1 hP 9 0 rfl rfl h11 rfl (zD_g DX4_digestGifts 44 rfl) ?_
        refine lv_i2l (v := ((room y2.toNatClampNeg)).toInt64) hx hb (zD_g DX4_digestGifts 45 rfl) rfl ?_
        refine lv_ladd hx hb (zD_g DX4_digestGifts 46 rfl) ?_
        refine lv_topl (fun x12 ex12 => ?_)
        replace hf := zl_s hf x12 ex12
        refine lv_lstore_n (lv' := [(3, .long x12), (0, .ref (q 0)), (5, .int y2)]) hx hb (zD_g DX4_digestGifts 47 rfl) rfl hl (by decide) rfl (fun ls hl => ?_)
        refine lv_ldc2 (v := (31 : Int64)) hx hb hown (hts _ (List.mem_of_getElem? (i := 2) rfl)) (zD_g DX4_digestGifts 48 rfl) ?_
        refine lv_lload_n hx hb (zD_g DX4_digestGifts 49 rfl) rfl (lv_at hl 0 rfl) ?_
        refine lv_lmul hx hb (zD_g DX4_digestGifts 50 rfl) ?_
        refine lv_aload_n hx hb (zD_g DX4_digestGifts 51 rfl) rfl (lv_at hl 1 rfl) ?_
        refine va_get (D := D) (ci := 3) (v := .ref (q 10)) (C := RX4) (T := TX4) (N := 19) hx hb hts in4_digestGifts_4 hown hK.1 hP 0 rfl rfl 12 (by decide) (hts _ (List.mem_of_getElem? (i := 7) rfl)) (fun _ h9 => h9) rfl (zD_g DX4_digestGifts 52 rfl) ?_
        refine lv_iload hx hb (zD_g DX4_digestGifts 53 rfl) (lv_at hl 2 rfl) ?_
        obtain ⟨h13, hf⟩ := zg_s hf
        refine z_iald (k := y2.toNatClampNeg) hx hb hK.1 hP 10 0 rfl rfl h13 rfl (zD_g DX4_digestGifts 54 rfl) ?_
        refine lv_i2l (v := ((told y2.toNatClampNeg)).toInt64) hx hb (zD_g DX4_digestGifts 55 rfl) rfl ?_
        refine lv_ladd hx hb (zD_g DX4_digestGifts 56 rfl) ?_
        refine lv_topl (fun x14 ex14 => ?_)
        replace hf := zl_s hf x14 ex14
        refine lv_lstore_n (lv' := [(3, .long x14), (0, .ref (q 0)), (5, .int y2)]) hx hb (zD_g DX4_digestGifts 57 rfl) rfl hl (by decide) rfl (fun ls hl => ?_)
        refine lv_iinc (v := y2 + 1) (lv' := [(5, .int (y2 + 1)), (3, .long x14), (0, .ref (q 0))]) (k := 2) hx hb (zD_g DX4_digestGifts 58 rfl) hl rfl rfl (by decide) rfl (fun ls hl => ?_)
        refine lv_goto (tgt := 5) hx hb (zD_g DX4_digestGifts 59 rfl) (by decide) ?_
        exact ih3 _ _ hf ls (lv_sub hl [2, 1, 0] rfl)
  refine hL3 _ (fun y15 hf ls hl => ?_) _ _ _ hf ls (lv_sub hl [2, 1, 0] rfl)
  refine lv_lload_n hx hb (zD_g DX4_digestGifts 60 rfl) rfl (lv_at hl 0 rfl) ?_
  cases hf
  exact hret _ _ (zD_g DX4_digestGifts 61 rfl)
theorem hd4_digestGifts : yX4_digestGifts.cls = RX4 ∧ yX4_digestGifts.cls ≠ "java/lang/invoke/MethodHandle" ∧ yX4_digestGifts.cls ≠ "java/lang/invoke/VarHandle" ∧ (parseMethodDescriptor yX4_digestGifts.desc).map (fun d => d.parameters.length) = some 1 := by decide +kernel
abbrev dlX4_digestCities : List (Nat × Instr × Nat) := [(0, .lload_n 1, 1), (1, .lstore_n 3, 1), (2, .iconst 0, 1), (3, .istore 5, 2), (5, .iload 5, 2), (7, .iconst 2, 1), (8, .if_icmp .ge 106, 3), (11, .ldc2_w 180, 3), (14, .lload_n 3, 1), (15, .lmul, 1), (16, .aload_n 0, 1), (17, .getfield 42, 3), (20, .iload 5, 2), (22, .iaload, 1), (23, .i2l, 1), (24, .ladd, 1), (25, .lstore_n 3, 1), (26, .ldc2_w 180, 3), (29, .lload_n 3, 1), (30, .lmul, 1), (31, .aload_n 0, 1), (32, .getfield 45, 3), (35, .iload 5, 2), (37, .iaload, 1), (38, .i2l, 1), (39, .ladd, 1), (40, .lstore_n 3, 1), (41, .ldc2_w 180, 3), (44, .lload_n 3, 1), (45, .lmul, 1), (46, .aload_n 0, 1), (47, .getfield 48, 3), (50, .iload 5, 2), (52, .iaload, 1), (53, .i2l, 1), (54, .ladd, 1), (55, .lstore_n 3, 1), (56, .iconst 0, 1), (57, .istore 6, 2), (59, .iload 6, 2), (61, .bipush 6, 2), (63, .if_icmp .ge 30, 3), (66, .ldc2_w 180, 3), (69, .lload_n 3, 1), (70, .lmul, 1), (71, .aload_n 0, 1), (72, .getfield 54, 3), (75, .iload 5, 2), (77, .bipush 6, 2), (79, .imul, 1), (80, .iload 6, 2), (82, .iadd, 1), (83, .iaload, 1), (84, .i2l, 1), (85, .ladd, 1), (86, .lstore_n 3, 1), (87, .iinc 6 1, 3), (90, .goto (-31), 3), (93, .ldc2_w 180, 3), (96, .lload_n 3, 1), (97, .lmul, 1), (98, .aload_n 0, 1), (99, .getfield 51, 3), (102, .iload 5, 2), (104, .iaload, 1), (105, .i2l, 1), (106, .ladd, 1), (107, .lstore_n 3, 1), (108, .iinc 5 1, 3), (111, .goto (-106), 3), (114, .lload_n 3, 1), (115, .lreturn, 1)]
theorem DX4_digestCities : zD cX4_digestCities dlX4_digestCities = true := by decide +kernel
def L4_digestCities_59 (k13 : Int64 → Option (Int64))  (watch : Nat → Int32) (y2 : Int32) : Nat → Int64 → Int32 → Option (Int64)
  | 0, _, _ => none
  | n13 + 1, y11, y12 => if (6 : Int32) ≤ y12 then k13 y11 else zg ((y2 * (6 : Int32)) + y12) 12 (zl ((((31 : Int64) * y11) + (((watch ((y2 * (6 : Int32)) + y12).toNatClampNeg)).toInt64))) (fun x16 => L4_digestCities_59 k13 watch y2 n13 x16 (y12 + 1)))
def L4_digestCities_5 (k3 : Int64 → Option (Int64))  (gate : Nat → Int32) (ear : Nat → Int32) (scale : Nat → Int32) (lost : Nat → Int32) (watch : Nat → Int32) : Nat → Int64 → Int32 → Option (Int64)
  | 0, _, _ => none
  | n3 + 1, y1, y2 => if (2 : Int32) ≤ y2 then k3 y1 else zg y2 2 (zl ((((31 : Int64) * y1) + (((gate y2.toNatClampNeg)).toInt64))) (fun x6 => zg y2 2 (zl ((((31 : Int64) * x6) + (((ear y2.toNatClampNeg)).toInt64))) (fun x8 => zg y2 2 (zl ((((31 : Int64) * x8) + (((scale y2.toNatClampNeg)).toInt64))) (fun x10 => L4_digestCities_59 (fun y17 => zg y2 2 (zl ((((31 : Int64) * y17) + (((lost y2.toNatClampNeg)).toInt64))) (fun x19 => L4_digestCities_5 k3 gate ear scale lost watch n3 x19 (y2 + 1)))) watch y2 FU x10 (0 : Int32)))))))
def f4_digestCities (gate : Nat → Int32) (ear : Nat → Int32) (scale : Nat → Int32) (lost : Nat → Int32) (watch : Nat → Int32) (a_before : Int64) : Option (Int64) := L4_digestCities_5 (fun y20 => some y20) gate ear scale lost watch FU a_before (0 : Int32)
abbrev rm4_digestCities : Room := { frames := 0, cells := 0, slots := 0, locals := 0 }
theorem in4_digestCities_4 : ∀ w ∈ wsX40, w ∈ wsX4_digestCities := fun w h => List.mem_cons_of_mem _ (List.mem_append_right _ h)
set_option maxHeartbeats 4000000 in
set_option maxRecDepth 100000 in
theorem c4_digestCities {l : Launch} {D : va_G} {cI cZ cB : ClassId} {q : Nat → Nat} {things : Int32} {gifts : Int32} {days : Int32} {size : Nat → Int32} {weight : Nat → Int32} {sound : Nat → Int32} {harm : Nat → Int32} {in_ : Nat → Int32} {kind : Nat → Int32} {owner : Nat → Int32} {empty : Nat → Int32} {room : Nat → Int32} {told : Nat → Int32} {gate : Nat → Int32} {ear : Nat → Int32} {scale : Nat → Int32} {lost : Nat → Int32} {watch : Nat → Int32} {moments : Int32} {kept : Nat → Int32} {a_before : Int64} {r : Int64}  (hf : f4_digestCities gate ear scale lost watch a_before = some r) : Met l yX4_digestCities wsX4_digestCities rm4_digestCities (zPp D cI cZ cB [.ref (q 0), .long a_before] (cWar cI q things gifts days size weight sound harm in_ kind owner empty room told gate ear scale lost watch moments kept)) (zQp (some (.long r))) 0 0 (fun _ => False) := by
  unfold f4_digestCities at hf
  refine z_pureL RX4 (by decide +kernel) rfl rfl (Nat.le_of_ble_eq_true rfl) ?_
  intro p e s m args below meth c Q ls hx hb hml hown hts hK hP hret hl
  have hl : lv_has ls 7 [(0, .ref (q 0)), (1, .long a_before)] := hl
  refine lv_lload_n hx hb (zD_g DX4_digestCities 0 rfl) rfl (lv_at hl 1 rfl) ?_
  refine lv_lstore_n (lv' := [(3, .long a_before), (0, .ref (q 0)), (1, .long a_before)]) hx hb (zD_g DX4_digestCities 1 rfl) rfl hl (by decide) rfl (fun ls hl => ?_)
  refine lv_iconst (v := (0 : Int32)) hx hb (zD_g DX4_digestCities 2 rfl) (by decide) ?_
  refine lv_istore (lv' := [(5, .int (0 : Int32)), (3, .long a_before), (0, .ref (q 0)), (1, .long a_before)]) hx hb (zD_g DX4_digestCities 3 rfl) hl (by decide) rfl (fun ls hl => ?_)
  have hL3 : ∀ (k3 : Int64 → Option (Int64)) (hk3 : ∀ (y20 : Int64), k3 y20 = some r → ∀ (ls : Array Slot), lv_has ls 7 [(3, .long y20)] → W p l e rm4_digestCities s m args below meth c s.heap [] 0 0 Q (F0 m 114 ls [])) (n3 : Nat) (y1 : Int64) (y2 : Int32), L4_digestCities_5 k3 gate ear scale lost watch n3 y1 y2 = some r → ∀ (ls : Array Slot), lv_has ls 7 [(0, .ref (q 0)), (3, .long y1), (5, .int y2)] → W p l e rm4_digestCities s m args below meth c s.heap [] 0 0 Q (F0 m 5 ls []) := by
    intro k3 hk3 n3
    induction n3 with
    | zero =>
      intro y1 y2 hf
      cases hf
    | succ n3 ih3 =>
      intro y1 y2 hf ls hl
      rw [L4_digestCities_5] at hf
      refine lv_iload hx hb (zD_g DX4_digestCities 4 rfl) (lv_at hl 2 rfl) ?_
      refine lv_iconst (v := (2 : Int32)) hx hb (zD_g DX4_digestCities 5 rfl) (by decide) ?_
      refine lv_icmp_ge (tgt := 114) hx hb (zD_g DX4_digestCities 6 rfl) (by decide) (fun c4 => ?_) (fun c4 => ?_)
      · replace hf := z_t c4 hf
        exact hk3 _ hf ls (lv_sub hl [1] rfl)
      · replace hf := z_f c4 hf
        refine lv_ldc2 (v := (31 : Int64)) hx hb hown (hts _ (List.mem_of_getElem? (i := 1) rfl)) (zD_g DX4_digestCities 7 rfl) ?_
        refine lv_lload_n hx hb (zD_g DX4_digestCities 8 rfl) rfl (lv_at hl 1 rfl) ?_
        refine lv_lmul hx hb (zD_g DX4_digestCities 9 rfl) ?_
        refine lv_aload_n hx hb (zD_g DX4_digestCities 10 rfl) rfl (lv_at hl 0 rfl) ?_
        refine va_get (D := D) (ci := 3) (v := .ref (q 11)) (C := RX4) (T := TX4) (N := 19) hx hb hts in4_digestCities_4 hown hK.1 hP 0 rfl rfl 13 (by decide) (hts _ (List.mem_of_getElem? (i := 2) rfl)) (fun _ h9 => h9) rfl (zD_g DX4_digestCities 11 rfl) ?_
        refine lv_iload hx hb (zD_g DX4_digestCities 12 rfl) (lv_at hl 2 rfl) ?_
        obtain ⟨h5, hf⟩ := zg_s hf
        refine z_iald (k := y2.toNatClampNeg) hx hb hK.1 hP 11 0 rfl rfl h5 rfl (zD_g DX4_digestCities 13 rfl) ?_
        refine lv_i2l (v := ((gate y2.toNatClampNeg)).toInt64) hx hb (zD_g DX4_digestCities 14 rfl) rfl ?_
        refine lv_ladd hx hb (zD_g DX4_digestCities 15 rfl) ?_
        refine lv_topl (fun x6 ex6 => ?_)
        replace hf := zl_s hf x6 ex6
        refine lv_lstore_n (lv' := [(3, .long x6), (0, .ref (q 0)), (5, .int y2)]) hx hb (zD_g DX4_digestCities 16 rfl) rfl hl (by decide) rfl (fun ls hl => ?_)
        refine lv_ldc2 (v := (31 : Int64)) hx hb hown (hts _ (List.mem_of_getElem? (i := 1) rfl)) (zD_g DX4_digestCities 17 rfl) ?_
        refine lv_lload_n hx hb (zD_g DX4_digestCities 18 rfl) rfl (lv_at hl 0 rfl) ?_
        refine lv_lmul hx hb (zD_g DX4_digestCities 19 rfl) ?_
        refine lv_aload_n hx hb (zD_g DX4_digestCities 20 rfl) rfl (lv_at hl 1 rfl) ?_
        refine va_get (D := D) (ci := 3) (v := .ref (q 12)) (C := RX4) (T := TX4) (N := 19) hx hb hts in4_digestCities_4 hown hK.1 hP 0 rfl rfl 14 (by decide) (hts _ (List.mem_of_getElem? (i := 3) rfl)) (fun _ h9 => h9) rfl (zD_g DX4_digestCities 21 rfl) ?_
        refine lv_iload hx hb (zD_g DX4_digestCities 22 rfl) (lv_at hl 2 rfl) ?_
        obtain ⟨h7, hf⟩ := zg_s hf
        refine z_iald (k := y2.toNatClampNeg) hx hb hK.1 hP 12 0 rfl rfl h7 rfl (zD_g DX4_digestCities 23 rfl) ?_
        refine lv_i2l (v := ((ear y2.toNatClampNeg)).toInt64) hx hb (zD_g DX4_digestCities 24 rfl) rfl ?_
        refine lv_ladd hx hb (zD_g DX4_digestCities 25 rfl) ?_
        refine lv_topl (fun x8 ex8 => ?_)
        replace hf := zl_s hf x8 ex8
        refine lv_lstore_n (lv' := [(3, .long x8), (0, .ref (q 0)), (5, .int y2)]) hx hb (zD_g DX4_digestCities 26 rfl) rfl hl (by decide) rfl (fun ls hl => ?_)
        refine lv_ldc2 (v := (31 : Int64)) hx hb hown (hts _ (List.mem_of_getElem? (i := 1) rfl)) (zD_g DX4_digestCities 27 rfl) ?_
        refine lv_lload_n hx hb (zD_g DX4_digestCities 28 rfl) rfl (lv_at hl 0 rfl) ?_
        refine lv_lmul hx hb (zD_g DX4_digestCities 29 rfl) ?_
        refine lv_aload_n hx hb (zD_g DX4_digestCities 30 rfl) rfl (lv_at hl 1 rfl) ?_
        refine va_get (D := D) (ci := 3) (v := .ref (q 13)) (C := RX4) (T := TX4) (N := 19) hx hb hts in4_digestCities_4 hown hK.1 hP 0 rfl rfl 15 (by decide) (hts _ (List.mem_of_getElem? (i := 4) rfl)) (fun _ h9 => h9) rfl (zD_g DX4_digestCities 31 rfl) ?_
        refine lv_iload hx hb (zD_g DX4_digestCities 32 rfl) (lv_at hl 2 rfl) ?_
        obtain ⟨h9, hf⟩ := zg_s hf
        refine z_iald (k := y2.toNatClampNeg) hx hb hK.1 hP 13 0 rfl rfl h9 rfl (zD_g DX4_digestCities 33 rfl) ?_
        refine lv_i2l (v := ((scale y2.toNatClampNeg)).toInt64) hx hb (zD_g DX4_digestCities 34 rfl) rfl ?_
        refine lv_ladd hx hb (zD_g DX4_digestCities 35 rfl) ?_
        refine lv_topl (fun x10 ex10 => ?_)
        replace hf := zl_s hf x10 ex10
        refine lv_lstore_n (lv' := [(3, .long x10), (0, .ref (q 0)), (5, .int y2)]) hx hb (zD_g DX4_digestCities 36 rfl) rfl hl (by decide) rfl (fun ls hl => ?_)
        refine lv_iconst (v := (0 : Int32)) hx hb (zD_g DX4_digestCities 37 rfl) (by decide) ?_
        refine lv_istore (lv' := [(6, .int (0 : Int32)), (3, .long x10), (0, .ref (q 0)), (5, .int y2)]) hx hb (zD_g DX4_digestCities 38 rfl) hl (by decide) rfl (fun ls hl => ?_)
        have hL13 : ∀ (k13 : Int64 → Option (Int64)) (hk13 : ∀ (y17 : Int64), k13 y17 = some r → ∀ (ls : Array Slot), lv_has ls 7 [(0, .ref (q 0)), (3, .long y17), (5, .int y2)] → W p l e rm4_digestCities s m args below meth c s.heap [] 0 0 Q (F0 m 93 ls [])) (n13 : Nat) (y11 : Int64) (y12 : Int32), L4_digestCities_59 k13 watch y2 n13 y11 y12 = some r → ∀ (ls : Array Slot), lv_has ls 7 [(0, .ref (q 0)), (3, .long y11), (5, .int y2), (6, .int y12)] → W p l e rm4_digestCities s m args below meth c s.heap [] 0 0 Q (F0 m 59 ls []) := by
          intro k13 hk13 n13
          induction n13 with
          | zero =>
            intro y11 y12 hf
            cases hf
          | succ n13 ih13 =>
            intro y11 y12 hf ls hl
            rw [L4_digestCities_59] at hf
            refine lv_iload hx hb (zD_g DX4_digestCities 39 rfl) (lv_at hl 3 rfl) ?_
            refine lv_bipush (v := (6 : Int32)) hx hb (zD_g DX4_digestCities 40 rfl) (by decide) ?_
            refine lv_icmp_ge (tgt := 93) hx hb (zD_g DX4_digestCities 41 rfl) (by decide) (fun c14 => ?_) (fun c14 => ?_)
            · replace hf := z_t c14 hf
              exact hk13 _ hf ls (lv_sub hl [0, 1, 2] rfl)
            · replace hf := z_f c14 hf
              refine lv_ldc2 (v := (31 : Int64)) hx hb hown (hts _ (List.mem_of_getElem? (i := 1) rfl)) (zD_g DX4_digestCities 42 rfl) ?_
              refine lv_lload_n hx hb (zD_g DX4_digestCities 43 rfl) rfl (lv_at hl 1 rfl) ?_
              refine lv_lmul hx hb (zD_g DX4_digestCities 44 rfl) ?_
              refine lv_aload_n hx hb (zD_g DX4_digestCities 45 rfl) rfl (lv_at hl 0 rfl) ?_
              refine va_get (D := D) (ci := 3) (v := .ref (q 15)) (C := RX4) (T := TX4) (N := 19) hx hb hts in4_digestCities_4 hown hK.1 hP 0 rfl rfl 17 (by decide) (hts _ (List.mem_of_getElem? (i := 5) rfl)) (fun _ h9 => h9) rfl (zD_g DX4_digestCities 46 rfl) ?_
              refine lv_iload hx hb (zD_g DX4_digestCities 47 rfl) (lv_at hl 2 rfl) ?_
              refine lv_bipush (v := (6 : Int32)) hx hb (zD_g DX4_digestCities 48 rfl) (by decide) ?_
              refine lv_imul hx hb (zD_g DX4_digestCities 49 rfl) ?_
              refine lv_iload hx hb (zD_g DX4_digestCities 50 rfl) (lv_at hl 3 rfl) ?_
              refine lv_iadd hx hb (zD_g DX4_digestCities 51 rfl) ?_
              obtain ⟨h15, hf⟩ := zg_s hf
              refine z_iald (k := ((y2 * (6 : Int32)) + y12).toNatClampNeg) hx hb hK.1 hP 15 0 rfl rfl h15 rfl (zD_g DX4_digestCities 52 rfl) ?_
              refine lv_i2l (v := ((watch ((y2 * (6 : Int32)) + y12).toNatClampNeg)).toInt64) hx hb (zD_g DX4_digestCities 53 rfl) rfl ?_
              refine lv_ladd hx hb (zD_g DX4_digestCities 54 rfl) ?_
              refine lv_topl (fun x16 ex16 => ?_)
              replace hf := zl_s hf x16 ex16
              refine lv_lstore_n (lv' := [(3, .long x16), (0, .ref (q 0)), (5, .int y2), (6, .int y12)]) hx hb (zD_g DX4_digestCities 55 rfl) rfl hl (by decide) rfl (fun ls hl => ?_)
              refine lv_iinc (v := y12 + 1) (lv' := [(6, .int (y12 + 1)), (3, .long x16), (0, .ref (q 0)), (5, .int y2)]) (k := 3) hx hb (zD_g DX4_digestCities 56 rfl) hl rfl rfl (by decide) rfl (fun ls hl => ?_)
              refine lv_goto (tgt := 59) hx hb (zD_g DX4_digestCities 57 rfl) (by decide) ?_
              exact ih13 _ _ hf ls (lv_sub hl [2, 1, 3, 0] rfl)
        refine hL13 _ (fun y17 hf ls hl => ?_) _ _ _ hf ls (lv_sub hl [2, 1, 3, 0] rfl)
        refine lv_ldc2 (v := (31 : Int64)) hx hb hown (hts _ (List.mem_of_getElem? (i := 1) rfl)) (zD_g DX4_digestCities 58 rfl) ?_
        refine lv_lload_n hx hb (zD_g DX4_digestCities 59 rfl) rfl (lv_at hl 1 rfl) ?_
        refine lv_lmul hx hb (zD_g DX4_digestCities 60 rfl) ?_
        refine lv_aload_n hx hb (zD_g DX4_digestCities 61 rfl) rfl (lv_at hl 0 rfl) ?_
        refine va_get (D := D) (ci := 3) (v := .ref (q 14)) (C := RX4) (T := TX4) (N := 19) hx hb hts in4_digestCities_4 hown hK.1 hP 0 rfl rfl 16 (by decide) (hts _ (List.mem_of_getElem? (i := 6) rfl)) (fun _ h9 => h9) rfl (zD_g DX4_digestCities 62 rfl) ?_
        refine lv_iload hx hb (zD_g DX4_digestCities 63 rfl) (lv_at hl 2 rfl) ?_
        obtain ⟨h18, hf⟩ := zg_s hf
        refine z_iald (k := y2.toNatClampNeg) hx hb hK.1 hP 14 0 rfl rfl h18 rfl (zD_g DX4_digestCities 64 rfl) ?_
        refine lv_i2l (v := ((lost y2.toNatClampNeg)).toInt64) hx hb (zD_g DX4_digestCities 65 rfl) rfl ?_
        refine lv_ladd hx hb (zD_g DX4_digestCities 66 rfl) ?_
        refine lv_topl (fun x19 ex19 => ?_)
        replace hf := zl_s hf x19 ex19
        refine lv_lstore_n (lv' := [(3, .long x19), (0, .ref (q 0)), (5, .int y2)]) hx hb (zD_g DX4_digestCities 67 rfl) rfl hl (by decide) rfl (fun ls hl => ?_)
        refine lv_iinc (v := y2 + 1) (lv' := [(5, .int (y2 + 1)), (3, .long x19), (0, .ref (q 0))]) (k := 2) hx hb (zD_g DX4_digestCities 68 rfl) hl rfl rfl (by decide) rfl (fun ls hl => ?_)
        refine lv_goto (tgt := 5) hx hb (zD_g DX4_digestCities 69 rfl) (by decide) ?_
        exact ih3 _ _ hf ls (lv_sub hl [2, 1, 0] rfl)
  refine hL3 _ (fun y20 hf ls hl => ?_) _ _ _ hf ls (lv_sub hl [2, 1, 0] rfl)
  refine lv_lload_n hx hb (zD_g DX4_digestCities 70 rfl) rfl (lv_at hl 0 rfl) ?_
  cases hf
  exact hret _ _ (zD_g DX4_digestCities 71 rfl)
theorem hd4_digestCities : yX4_digestCities.cls = RX4 ∧ yX4_digestCities.cls ≠ "java/lang/invoke/MethodHandle" ∧ yX4_digestCities.cls ≠ "java/lang/invoke/VarHandle" ∧ (parseMethodDescriptor yX4_digestCities.desc).map (fun d => d.parameters.length) = some 1 := by decide +kernel
