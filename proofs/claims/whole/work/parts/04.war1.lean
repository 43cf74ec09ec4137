abbrev dlX4_passes : List (Nat × Instr × Nat) := [(0, .aload_n 0, 1), (1, .iload_n 1, 1), (2, .invokevirtual 165, 3), (5, .ifCond .eq 25, 3), (8, .aload_n 0, 1), (9, .iload_n 1, 1), (10, .iload_n 2, 1), (11, .invokevirtual 168, 3), (14, .ifCond .ne 16, 3), (17, .aload_n 0, 1), (18, .iload_n 1, 1), (19, .iload_n 2, 1), (20, .invokevirtual 171, 3), (23, .ifCond .ne 7, 3), (26, .iconst 1, 1), (27, .goto 4, 3), (30, .iconst 0, 1), (31, .ireturn, 1)]
theorem DX4_passes : zD cX4_passes dlX4_passes = true := by decide +kernel
set_option maxRecDepth 20000 in
theorem ggX4_passes_X4_fitsGate : GoodIn wsX4_passes wsX4_fitsGate := goodIn_r _ [5, 6, 7, 8, 9, 10, 4, 11, 12, 43, 44, 45, 46, 47, 48, 49, 50, 51, 52, 53, 54, 55, 56, 57, 58, 59, 60, 61] (by decide +kernel) (by decide +kernel)
set_option maxRecDepth 20000 in
theorem gX4_passes_X4_fitsGate : GoodIn wsX4_passes (wsV RX4 165 RX4 yX4_fitsGate wsX4_fitsGate) := goodIn_app (goodIn_of _ (by decide +kernel)) ggX4_passes_X4_fitsGate
set_option maxRecDepth 20000 in
theorem ggX4_passes_X4_isHeard : GoodIn wsX4_passes wsX4_isHeard := goodIn_r _ [16, 17, 18, 19, 20, 4, 21, 22, 23, 24, 25, 26, 8, 9, 10, 11, 12, 43, 44, 45, 46, 47, 48, 49, 50, 51, 52, 53, 54, 55, 56, 57, 58, 59, 60, 61] (by decide +kernel) (by decide +kernel)
set_option maxRecDepth 20000 in
theorem gX4_passes_X4_isHeard : GoodIn wsX4_passes (wsV RX4 168 RX4 yX4_isHeard wsX4_isHeard) := goodIn_app (goodIn_of _ (by decide +kernel)) ggX4_passes_X4_isHeard
set_option maxRecDepth 20000 in
theorem ggX4_passes_X4_isHeavy : GoodIn wsX4_passes wsX4_isHeavy := goodIn_r _ [30, 31, 32, 33, 34, 4, 35, 23, 36, 37, 38, 39, 40, 41, 42, 24, 25, 26, 8, 9, 10, 11, 12, 43, 44, 45, 46, 47, 48, 49, 50, 51, 52, 53, 54, 55, 56, 57, 58, 59, 60, 61] (by decide +kernel) (by decide +kernel)
set_option maxRecDepth 20000 in
theorem gX4_passes_X4_isHeavy : GoodIn wsX4_passes (wsV RX4 171 RX4 yX4_isHeavy wsX4_isHeavy) := goodIn_app (goodIn_of _ (by decide +kernel)) ggX4_passes_X4_isHeavy
theorem hd4_passes : yX4_passes.cls = RX4 ∧ yX4_passes.cls ≠ "java/lang/invoke/MethodHandle" ∧ yX4_passes.cls ≠ "java/lang/invoke/VarHandle" ∧ (parseMethodDescriptor yX4_passes.desc).map (fun d => d.parameters.length) = some 2 := by decide +kernel
abbrev rm4_passes : Room := { frames := 3, cells := 0, slots := 0, locals := 68 }
set_option maxHeartbeats 4000000 in
set_option maxRecDepth 100000 in
theorem c4_passes {l : Launch} {D : va_G} {cI cZ cB : ClassId} {q : Nat → Nat} {things : Int32} {gifts : Int32} {days : Int32} {size : Nat → Int32} {weight : Nat → Int32} {sound : Nat → Int32} {harm : Nat → Int32} {in_ : Nat → Int32} {kind : Nat → Int32} {owner : Nat → Int32} {empty : Nat → Int32} {room : Nat → Int32} {told : Nat → Int32} {gate : Nat → Int32} {ear : Nat → Int32} {scale : Nat → Int32} {lost : Nat → Int32} {watch : Nat → Int32} {moments : Int32} {kept : Nat → Int32} {a_gift : Int32} {a_set : Int32} {r : Int32}  (hf : f4_passes days weight sound kind owner empty room gate ear scale a_gift a_set = some r) : Met l yX4_passes wsX4_passes rm4_passes (zPp D cI cZ cB [.ref (q 0), .int a_gift, .int a_set] (cWar cI q things gifts days size weight sound harm in_ kind owner empty room told gate ear scale lost watch moments kept)) (zQp (some (.int r))) 0 0 (fun _ => False) := by
  unfold f4_passes at hf
  refine z_pureZ RX4 (by decide +kernel) rfl rfl (Nat.le_of_ble_eq_true rfl) ?_
  intro p e s m args below meth c Q ls hx hb hml hown hts hK hP hret hl
  have hl : lv_has ls 3 [(0, .ref (q 0)), (1, .int a_gift), (2, .int a_set)] := hl
  refine lv_aload_n hx hb (zD_g DX4_passes 0 rfl) rfl (lv_at hl 0 rfl) ?_
  refine lv_iload_n hx hb (zD_g DX4_passes 1 rfl) rfl (lv_at hl 1 rfl) ?_
  obtain ⟨r1, hc2, hf⟩ := zb1_s hf
  refine z_Vp (As := [.int a_gift]) (rest := []) ⟨hx, hb, hml, hown, hts⟩ hK (c4_fitsGate (things := things) (gifts := gifts) (days := days) (size := size) (weight := weight) (sound := sound) (harm := harm) (in_ := in_) (kind := kind) (owner := owner) (empty := empty) (room := room) (told := told) (gate := gate) (ear := ear) (scale := scale) (lost := lost) (watch := watch) (moments := moments) (kept := kept) (q := q) hc2) (cwV 1 hts gX4_passes_X4_fitsGate rfl rfl rfl hd4_fitsGate ⟨Nat.le_of_ble_eq_true rfl, Nat.le_of_ble_eq_true rfl⟩) hP rfl rfl rfl rfl hl.1 rfl rfl (Nat.le_of_ble_eq_true rfl) (zD_g DX4_passes 2 rfl) ⟨Nat.zero_le _, Nat.zero_le _⟩ ?_
  refine lv_if_eq (tgt := 30) hx hb (zD_g DX4_passes 3 rfl) (by decide) (fun c3 => ?_) (fun c3 => ?_)
  · replace hf := z_t c3 hf
    refine lv_iconst (v := (0 : Int32)) hx hb (zD_g DX4_passes 16 rfl) (by decide) ?_
    cases hf
    exact hret _ _ rfl (zD_g DX4_passes 17 rfl)
  · replace hf := z_f c3 hf
    refine lv_aload_n hx hb (zD_g DX4_passes 4 rfl) rfl (lv_at hl 0 rfl) ?_
    refine lv_iload_n hx hb (zD_g DX4_passes 5 rfl) rfl (lv_at hl 1 rfl) ?_
    refine lv_iload_n hx hb (zD_g DX4_passes 6 rfl) rfl (lv_at hl 2 rfl) ?_
    obtain ⟨r4, hc5, hf⟩ := zb1_s hf
    refine z_Vp (As := [.int a_gift, .int a_set]) (rest := []) ⟨hx, hb, hml, hown, hts⟩ hK (c4_isHeard (things := things) (gifts := gifts) (days := days) (size := size) (weight := weight) (sound := sound) (harm := harm) (in_ := in_) (kind := kind) (owner := owner) (empty := empty) (room := room) (told := told) (gate := gate) (ear := ear) (scale := scale) (lost := lost) (watch := watch) (moments := moments) (kept := kept) (q := q) hc5) (cwV 2 hts gX4_passes_X4_isHeard rfl rfl rfl hd4_isHeard ⟨Nat.le_of_ble_eq_true rfl, Nat.le_of_ble_eq_true rfl⟩) hP rfl rfl rfl rfl hl.1 rfl rfl (Nat.le_of_ble_eq_true rfl) (zD_g DX4_passes 7 rfl) ⟨Nat.zero_le _, Nat.zero_le _⟩ ?_
    refine lv_if_ne (tgt := 30) hx hb (zD_g DX4_passes 8 rfl) (by decide) (fun c6 => ?_) (fun c6 => ?_)
    · replace hf := z_f c6 hf
      refine lv_iconst (v := (0 : Int32)) hx hb (zD_g DX4_passes 16 rfl) (by decide) ?_
      cases hf
      exact hret _ _ rfl (zD_g DX4_passes 17 rfl)
    · replace hf := z_t c6 hf
      refine lv_aload_n hx hb (zD_g DX4_passes 9 rfl) rfl (lv_at hl 0 rfl) ?_
      refine lv_iload_n hx hb (zD_g DX4_passes 10 rfl) rfl (lv_at hl 1 rfl) ?_
      refine lv_iload_n hx hb (zD_g DX4_passes 11 rfl) rfl (lv_at hl 2 rfl) ?_
      obtain ⟨r7, hc8, hf⟩ := zb1_s hf
      refine z_Vp (As := [.int a_gift, .int a_set]) (rest := []) ⟨hx, hb, hml, hown, hts⟩ hK (c4_isHeavy (things := things) (gifts := gifts) (days := days) (size := size) (weight := weight) (sound := sound) (harm := harm) (in_ := in_) (kind := kind) (owner := owner) (empty := empty) (room := room) (told := told) (gate := gate) (ear := ear) (scale := scale) (lost := lost) (watch := watch) (moments := moments) (kept := kept) (q := q) hc8) (cwV 2 hts gX4_passes_X4_isHeavy rfl rfl rfl hd4_isHeavy ⟨Nat.le_of_ble_eq_true rfl, Nat.le_of_ble_eq_true rfl⟩) hP rfl rfl rfl rfl hl.1 rfl rfl (Nat.le_of_ble_eq_true rfl) (zD_g DX4_passes 12 rfl) ⟨Nat.zero_le _, Nat.zero_le _⟩ ?_
      refine lv_if_ne (tgt := 30) hx hb (zD_g DX4_passes 13 rfl) (by decide) (fun c9 => ?_) (fun c9 => ?_)
      · replace hf := z_f c9 hf
        refine lv_iconst (v := (0 : Int32)) hx hb (zD_g DX4_passes 16 rfl) (by decide) ?_
        cases hf
        exact hret _ _ rfl (zD_g DX4_passes 17 rfl)
      · replace hf := z_t c9 hf
        refine lv_iconst (v := (1 : Int32)) hx hb (zD_g DX4_passes 14 rfl) (by decide) ?_
        refine lv_goto (tgt := 31) hx hb (zD_g DX4_passes 15 rfl) (by decide) ?_
        cases hf
        exact hret _ _ rfl (zD_g DX4_passes 17 rfl)
abbrev dlX4_harms : List (Nat × Instr × Nat) := [(0, .iload_n 2, 1), (1, .aload_n 0, 1), (2, .getfield 21, 3), (5, .invokestatic 149, 3), (8, .istore_n 3, 1), (9, .aload_n 0, 1), (10, .getfield 27, 3), (13, .iload_n 1, 1), (14, .iaload, 1), (15, .tableswitch 56 3 5 #[25, 29, 41], 25), (40, .iload_n 3, 1), (41, .iconst 2, 1), (42, .idiv, 1), (43, .ireturn, 1), (44, .iload_n 2, 1), (45, .ifCond .ne 7, 3), (48, .iload_n 3, 1), (49, .goto 6, 3), (52, .iload_n 3, 1), (53, .iconst 2, 1), (54, .iadd, 1), (55, .ireturn, 1), (56, .aload_n 0, 1), (57, .getfield 74, 3), (60, .iconst 2, 1), (61, .irem, 1), (62, .ifCond .ne 7, 3), (65, .iload_n 3, 1), (66, .goto 4, 3), (69, .iconst 0, 1), (70, .ireturn, 1), (71, .iload_n 3, 1), (72, .ireturn, 1)]
theorem DX4_harms : zD cX4_harms dlX4_harms = true := by decide +kernel
set_option maxRecDepth 20000 in
theorem ggX4_harms_X5_sumOver : GoodIn wsX4_harms wsX5_sumOver := goodIn_r _ [6] (by decide +kernel) (by decide +kernel)
set_option maxRecDepth 20000 in
theorem gX4_harms_X5_sumOver_n149 : GoodIn wsX4_harms (wsX5_sumOver) := ggX4_harms_X5_sumOver
theorem hd4_harms : yX4_harms.cls = RX4 ∧ yX4_harms.cls ≠ "java/lang/invoke/MethodHandle" ∧ yX4_harms.cls ≠ "java/lang/invoke/VarHandle" ∧ (parseMethodDescriptor yX4_harms.desc).map (fun d => d.parameters.length) = some 2 := by decide +kernel
abbrev rm4_harms : Room := { frames := 1, cells := 0, slots := 0, locals := 23 }
theorem in4_harms_4 : ∀ w ∈ wsX40, w ∈ wsX4_harms := fun w h => List.mem_cons_of_mem _ (List.mem_append_right _ h)
set_option maxHeartbeats 4000000 in
set_option maxRecDepth 100000 in
theorem c4_harms {l : Launch} {D : va_G} {cI cZ cB : ClassId} {q : Nat → Nat} {things : Int32} {gifts : Int32} {days : Int32} {size : Nat → Int32} {weight : Nat → Int32} {sound : Nat → Int32} {harm : Nat → Int32} {in_ : Nat → Int32} {kind : Nat → Int32} {owner : Nat → Int32} {empty : Nat → Int32} {room : Nat → Int32} {told : Nat → Int32} {gate : Nat → Int32} {ear : Nat → Int32} {scale : Nat → Int32} {lost : Nat → Int32} {watch : Nat → Int32} {moments : Int32} {kept : Nat → Int32} {a_gift : Int32} {a_set : Int32} {r : Int32}  (hf : f4_harms days harm kind a_gift a_set = some r) : Met l yX4_harms wsX4_harms rm4_harms (zPp D cI cZ cB [.ref (q 0), .int a_gift, .int a_set] (cWar cI q things gifts days size weight sound harm in_ kind owner empty room told gate ear scale lost watch moments kept)) (zQp (some (.int r))) 0 0 (fun _ => False) := by
  unfold f4_harms at hf
  refine z_pureI RX4 (by decide +kernel) rfl rfl (Nat.le_of_ble_eq_true rfl) ?_
  intro p e s m args below meth c Q ls hx hb hml hown hts hK hP hret hl
  have hl : lv_has ls 4 [(0, .ref (q 0)), (1, .int a_gift), (2, .int a_set)] := hl
  refine lv_iload_n hx hb (zD_g DX4_harms 0 rfl) rfl (lv_at hl 2 rfl) ?_
  refine lv_aload_n hx hb (zD_g DX4_harms 1 rfl) rfl (lv_at hl 0 rfl) ?_
  refine va_get (D := D) (ci := 3) (v := .ref (q 4)) (C := RX4) (T := TX4) (N := 19) hx hb hts in4_harms_4 hown hK.1 hP 0 rfl rfl 6 (by decide) (hts _ (List.mem_of_getElem? (i := 1) rfl)) (fun _ h9 => h9) rfl (zD_g DX4_harms 2 rfl) ?_
  obtain ⟨r1, hc2, hf⟩ := zb1_s hf
  refine z_Np (As := [.int a_set, .ref (q 4)]) (rest := []) ⟨hx, hb, hml, hown, hts⟩ hK (c5_sumOver (numbers := harm) (ar1 := (q 4)) hc2) ⟨va_cnB (own := RX4) (host := RX5) (index := 149) (y := yX5_sumOver) 2 hts gX4_harms_X5_sumOver_n149 rfl rfl rfl (hK.2 (RX4, 149, yX5_sumOver) (List.mem_of_getElem? (i := 10) rfl)) (hts _ (List.mem_of_getElem? (i := 5) rfl)) hd5_sumOver ⟨Nat.le_of_ble_eq_true rfl, Nat.le_of_ble_eq_true rfl⟩, (hts _ (List.mem_of_getElem? (i := 4) rfl)), trivial⟩ (hP.sub [4] rfl) rfl hl.1 rfl rfl (Nat.le_of_ble_eq_true rfl) (zD_g DX4_harms 3 rfl) ⟨Nat.zero_le _, Nat.zero_le _⟩ ?_
  refine lv_istore_n (lv' := [(3, .int r1), (0, .ref (q 0)), (1, .int a_gift), (2, .int a_set)]) hx hb (zD_g DX4_harms 4 rfl) rfl hl (by decide) rfl (fun ls hl => ?_)
  refine lv_aload_n hx hb (zD_g DX4_harms 5 rfl) rfl (lv_at hl 1 rfl) ?_
  refine va_get (D := D) (ci := 3) (v := .ref (q 6)) (C := RX4) (T := TX4) (N := 19) hx hb hts in4_harms_4 hown hK.1 hP 0 rfl rfl 8 (by decide) (hts _ (List.mem_of_getElem? (i := 2) rfl)) (fun _ h9 => h9) rfl (zD_g DX4_harms 6 rfl) ?_
  refine lv_iload_n hx hb (zD_g DX4_harms 7 rfl) rfl (lv_at hl 2 rfl) ?_
  obtain ⟨h3, hf⟩ := zg_s hf
  refine z_iald (k := a_gift.toNatClampNeg) hx hb hK.1 hP 6 0 rfl rfl h3 rfl (zD_g DX4_harms 8 rfl) ?_
  refine lv_topi (fun x4 ex4 => ?_)
  replace hf := zl_s hf x4 ex4
  by_cases c5 : x4 = 3
  · replace hf := z_t c5 hf
    refine lv_tableIn (off := 25) (tgt := 40) hx hb (zD_g DX4_harms 9 rfl) (by rw [c5]; decide) (by rw [c5]; decide) (by rw [c5]; decide) (by decide) ?_
    refine lv_iload_n hx hb (zD_g DX4_harms 10 rfl) rfl (lv_at hl 0 rfl) ?_
    refine lv_iconst (v := (2 : Int32)) hx hb (zD_g DX4_harms 11 rfl) (by decide) ?_
    refine lv_idiv hx hb (zD_g DX4_harms 12 rfl) (by decide) ?_
    refine lv_topi (fun x6 ex6 => ?_)
    replace hf := zl_s hf x6 ex6
    cases hf
    exact hret _ _ (zD_g DX4_harms 13 rfl)
  · replace hf := z_f c5 hf
    by_cases c7 : x4 = 4
    · replace hf := z_t c7 hf
      refine lv_tableIn (off := 29) (tgt := 44) hx hb (zD_g DX4_harms 9 rfl) (by rw [c7]; decide) (by rw [c7]; decide) (by rw [c7]; decide) (by decide) ?_
      refine lv_iload_n hx hb (zD_g DX4_harms 14 rfl) rfl (lv_at hl 3 rfl) ?_
      refine lv_if_ne (tgt := 52) hx hb (zD_g DX4_harms 15 rfl) (by decide) (fun c8 => ?_) (fun c8 => ?_)
      · replace hf := z_f c8 hf
        refine lv_iload_n hx hb (zD_g DX4_harms 18 rfl) rfl (lv_at hl 0 rfl) ?_
        refine lv_iconst (v := (2 : Int32)) hx hb (zD_g DX4_harms 19 rfl) (by decide) ?_
        refine lv_iadd hx hb (zD_g DX4_harms 20 rfl) ?_
        refine lv_topi (fun x9 ex9 => ?_)
        replace hf := zl_s hf x9 ex9
        cases hf
        exact hret _ _ (zD_g DX4_harms 21 rfl)
      · replace hf := z_t c8 hf
        refine lv_iload_n hx hb (zD_g DX4_harms 16 rfl) rfl (lv_at hl 0 rfl) ?_
        refine lv_goto (tgt := 55) hx hb (zD_g DX4_harms 17 rfl) (by decide) ?_
        cases hf
        exact hret _ _ (zD_g DX4_harms 21 rfl)
    · replace hf := z_f c7 hf
      by_cases c10 : x4 = 5
      · replace hf := z_t c10 hf
        refine lv_tableIn (off := 41) (tgt := 56) hx hb (zD_g DX4_harms 9 rfl) (by rw [c10]; decide) (by rw [c10]; decide) (by rw [c10]; decide) (by decide) ?_
        refine lv_aload_n hx hb (zD_g DX4_harms 22 rfl) rfl (lv_at hl 1 rfl) ?_
        refine va_get (D := D) (ci := 3) (v := .int days) (C := RX4) (T := TX4) (N := 19) hx hb hts in4_harms_4 hown hK.1 hP 0 rfl rfl 2 (by decide) (hts _ (List.mem_of_getElem? (i := 3) rfl)) (fun _ h9 => h9) rfl (zD_g DX4_harms 23 rfl) ?_
        refine lv_iconst (v := (2 : Int32)) hx hb (zD_g DX4_harms 24 rfl) (by decide) ?_
        refine lv_irem hx hb (zD_g DX4_harms 25 rfl) (by decide) ?_
        refine lv_if_ne (tgt := 69) hx hb (zD_g DX4_harms 26 rfl) (by decide) (fun c11 => ?_) (fun c11 => ?_)
        · replace hf := z_f c11 hf
          refine lv_iconst (v := (0 : Int32)) hx hb (zD_g DX4_harms 29 rfl) (by decide) ?_
          cases hf
          exact hret _ _ (zD_g DX4_harms 30 rfl)
        · replace hf := z_t c11 hf
          refine lv_iload_n hx hb (zD_g DX4_harms 27 rfl) rfl (lv_at hl 0 rfl) ?_
          refine lv_goto (tgt := 70) hx hb (zD_g DX4_harms 28 rfl) (by decide) ?_
          cases hf
          exact hret _ _ (zD_g DX4_harms 30 rfl)
      · replace hf := z_f c10 hf
        have z0 : x4.toInt ≠ 3 := z_ni c5
        have z1 : x4.toInt ≠ 4 := z_ni c7
        have z2 : x4.toInt ≠ 5 := z_ni c10
        refine lv_tableOut (tgt := 71) hx hb (zD_g DX4_harms 9 rfl) (by omega) (by decide) ?_
        refine lv_iload_n hx hb (zD_g DX4_harms 31 rfl) rfl (lv_at hl 0 rfl) ?_
        cases hf
        exact hret _ _ (zD_g DX4_harms 32 rfl)
abbrev dlX4_loss : List (Nat × Instr × Nat) := [(0, .iconst 0, 1), (1, .aload_n 0, 1), (2, .iload_n 1, 1), (3, .iload_n 2, 1), (4, .invokevirtual 174, 3), (7, .aload_n 0, 1), (8, .getfield 54, 3), (11, .aload_n 0, 1), (12, .iload_n 1, 1), (13, .invokevirtual 122, 3), (16, .bipush 6, 2), (18, .imul, 1), (19, .iload_n 3, 1), (20, .iadd, 1), (21, .iaload, 1), (22, .isub, 1), (23, .invokestatic 177, 3), (26, .ireturn, 1)]
theorem DX4_loss : zD cX4_loss dlX4_loss = true := by decide +kernel
set_option maxRecDepth 20000 in
theorem ggX4_loss_X4_harms : GoodIn wsX4_loss wsX4_harms := goodIn_r _ [10, 11, 12, 13, 14, 15, 16, 22, 23, 24, 25, 26, 27, 28, 29, 30, 31, 32, 33, 34, 35, 36, 37, 38, 39, 40] (by decide +kernel) (by decide +kernel)
set_option maxRecDepth 20000 in
theorem gX4_loss_X4_harms : GoodIn wsX4_loss (wsV RX4 174 RX4 yX4_harms wsX4_harms) := goodIn_app (goodIn_of _ (by decide +kernel)) ggX4_loss_X4_harms
set_option maxRecDepth 20000 in
theorem ggX4_loss_X4_otherCity : GoodIn wsX4_loss wsX4_otherCity := goodIn_r _ [20, 21, 22, 23, 24, 25, 26, 27, 28, 29, 30, 31, 32, 33, 34, 35, 36, 37, 38, 39, 40] (by decide +kernel) (by decide +kernel)
set_option maxRecDepth 20000 in
theorem gX4_loss_X4_otherCity : GoodIn wsX4_loss (wsV RX4 122 RX4 yX4_otherCity wsX4_otherCity) := goodIn_app (goodIn_of _ (by decide +kernel)) ggX4_loss_X4_otherCity
theorem hd4_loss : yX4_loss.cls = RX4 ∧ yX4_loss.cls ≠ "java/lang/invoke/MethodHandle" ∧ yX4_loss.cls ≠ "java/lang/invoke/VarHandle" ∧ (parseMethodDescriptor yX4_loss.desc).map (fun d => d.parameters.length) = some 3 := by decide +kernel
abbrev rm4_loss : Room := { frames := 2, cells := 0, slots := 0, locals := 46 }
theorem in4_loss_4 : ∀ w ∈ wsX40, w ∈ wsX4_loss := fun w h => List.mem_cons_of_mem _ (List.mem_append_right _ h)
set_option maxHeartbeats 4000000 in
set_option maxRecDepth 100000 in
theorem c4_loss {l : Launch} {D : va_G} {cI cZ cB : ClassId} {q : Nat → Nat} {things : Int32} {gifts : Int32} {days : Int32} {size : Nat → Int32} {weight : Nat → Int32} {sound : Nat → Int32} {harm : Nat → Int32} {in_ : Nat → Int32} {kind : Nat → Int32} {owner : Nat → Int32} {empty : Nat → Int32} {room : Nat → Int32} {told : Nat → Int32} {gate : Nat → Int32} {ear : Nat → Int32} {scale : Nat → Int32} {lost : Nat → Int32} {watch : Nat → Int32} {moments : Int32} {kept : Nat → Int32} {a_gift : Int32} {a_set : Int32} {a_hour : Int32} {r : Int32}  (hf : f4_loss days harm kind owner watch a_gift a_set a_hour = some r) : Met l yX4_loss wsX4_loss rm4_loss (zPp D cI cZ cB [.ref (q 0), .int a_gift, .int a_set, .int a_hour] (cWar cI q things gifts days size weight sound harm in_ kind owner empty room told gate ear scale lost watch moments kept)) (zQp (some (.int r))) 0 0 (fun _ => False) := by
  unfold f4_loss at hf
  refine z_pureI RX4 (by decide +kernel) rfl rfl (Nat.le_of_ble_eq_true rfl) ?_
  intro p e s m args below meth c Q ls hx hb hml hown hts hK hP hret hl
  have hl : lv_has ls 4 [(0, .ref (q 0)), (1, .int a_gift), (2, .int a_set), (3, .int a_hour)] := hl
  refine lv_iconst (v := (0 : Int32)) hx hb (zD_g DX4_loss 0 rfl) (by decide) ?_
  refine lv_aload_n hx hb (zD_g DX4_loss 1 rfl) rfl (lv_at hl 0 rfl) ?_
  refine lv_iload_n hx hb (zD_g DX4_loss 2 rfl) rfl (lv_at hl 1 rfl) ?_
  refine lv_iload_n hx hb (zD_g DX4_loss 3 rfl) rfl (lv_at hl 2 rfl) ?_
  obtain ⟨r1, hc2, hf⟩ := zb1_s hf
  refine z_Vp (As := [.int a_gift, .int a_set]) (rest := [.int (0 : Int32)]) ⟨hx, hb, hml, hown, hts⟩ hK (c4_harms (things := things) (gifts := gifts) (days := days) (size := size) (weight := weight) (sound := sound) (harm := harm) (in_ := in_) (kind := kind) (owner := owner) (empty := empty) (room := room) (told := told) (gate := gate) (ear := ear) (scale := scale) (lost := lost) (watch := watch) (moments := moments) (kept := kept) (q := q) hc2) (cwV 2 hts gX4_loss_X4_harms rfl rfl rfl hd4_harms ⟨Nat.le_of_ble_eq_true rfl, Nat.le_of_ble_eq_true rfl⟩) hP rfl rfl rfl rfl hl.1 rfl rfl (Nat.le_of_ble_eq_true rfl) (zD_g DX4_loss 4 rfl) ⟨Nat.zero_le _, Nat.zero_le _⟩ ?_
  refine lv_aload_n hx hb (zD_g DX4_loss 5 rfl) rfl (lv_at hl 0 rfl) ?_
  refine va_get (D := D) (ci := 3) (v := .ref (q 15)) (C := RX4) (T := TX4) (N := 19) hx hb hts in4_loss_4 hown hK.1 hP 0 rfl rfl 17 (by decide) (hts _ (List.mem_of_getElem? (i := 1) rfl)) (fun _ h9 => h9) rfl (zD_g DX4_loss 6 rfl) ?_
  refine lv_aload_n hx hb (zD_g DX4_loss 7 rfl) rfl (lv_at hl 0 rfl) ?_
  refine lv_iload_n hx hb (zD_g DX4_loss 8 rfl) rfl (lv_at hl 1 rfl) ?_
  obtain ⟨r3, hc4, hf⟩ := zb1_s hf
  refine z_Vp (As := [.int a_gift]) (rest := [.ref (q 15), .int r1, .int (0 : Int32)]) ⟨hx, hb, hml, hown, hts⟩ hK (c4_otherCity (things := things) (gifts := gifts) (days := days) (size := size) (weight := weight) (sound := sound) (harm := harm) (in_ := in_) (kind := kind) (owner := owner) (empty := empty) (room := room) (told := told) (gate := gate) (ear := ear) (scale := scale) (lost := lost) (watch := watch) (moments := moments) (kept := kept) (q := q) hc4) (cwV 1 hts gX4_loss_X4_otherCity rfl rfl rfl hd4_otherCity ⟨Nat.le_of_ble_eq_true rfl, Nat.le_of_ble_eq_true rfl⟩) hP rfl rfl rfl rfl hl.1 rfl rfl (Nat.le_of_ble_eq_true rfl) (zD_g DX4_loss 9 rfl) ⟨Nat.zero_le _, Nat.zero_le _⟩ ?_
  refine lv_bipush (v := (6 : Int32)) hx hb (zD_g DX4_loss 10 rfl) (by decide) ?_
  refine lv_imul hx hb (zD_g DX4_loss 11 rfl) ?_
  refine lv_iload_n hx hb (zD_g DX4_loss 12 rfl) rfl (lv_at hl 3 rfl) ?_
  refine lv_iadd hx hb (zD_g DX4_loss 13 rfl) ?_
  obtain ⟨h5, hf⟩ := zg_s hf
  refine z_iald (k := ((r3 * (6 : Int32)) + a_hour).toNatClampNeg) hx hb hK.1 hP 15 0 rfl rfl h5 rfl (zD_g DX4_loss 14 rfl) ?_
  refine lv_isub hx hb (zD_g DX4_loss 15 rfl) ?_
  refine va_mmax hx hb (hml.trans hl.1.symm) hown (hts _ (List.mem_of_getElem? (i := 2) rfl)) (hts _ (List.mem_of_getElem? (i := 3) rfl)) (hts _ (List.mem_of_getElem? (i := 4) rfl)) (hts _ (List.mem_of_getElem? (i := 5) rfl)) (Nat.le_of_ble_eq_true rfl) (Nat.le_of_ble_eq_true rfl) (Nat.zero_le _) (Nat.zero_le _) (zD_g DX4_loss 16 rfl) ?_
  refine lv_topi (fun x6 ex6 => ?_)
  replace hf := zl_s hf x6 ex6
  cases hf
  exact hret _ _ (zD_g DX4_loss 17 rfl)
abbrev dlX4_freeThings : List (Nat × Instr × Nat) := [(0, .iconst 0, 1), (1, .istore_n 2, 1), (2, .iload_n 2, 1), (3, .aload_n 0, 1), (4, .getfield 67, 3), (7, .if_icmp .ge 24, 3), (10, .iload_n 1, 1), (11, .iload_n 2, 1), (12, .ishr, 1), (13, .iconst 1, 1), (14, .iand, 1), (15, .ifCond .eq 10, 3), (18, .aload_n 0, 1), (19, .getfield 24, 3), (22, .iload_n 2, 1), (23, .iconst (-1), 1), (24, .iastore, 1), (25, .iinc 2 1, 3), (28, .goto (-26), 3), (31, .return_, 1)]
theorem DX4_freeThings : zD cX4_freeThings dlX4_freeThings = true := by decide +kernel
theorem hd4_freeThings : yX4_freeThings.cls = RX4 ∧ yX4_freeThings.cls ≠ "java/lang/invoke/MethodHandle" ∧ yX4_freeThings.cls ≠ "java/lang/invoke/VarHandle" ∧ (parseMethodDescriptor yX4_freeThings.desc).map (fun d => d.parameters.length) = some 1 := by decide +kernel
abbrev rm4_freeThings : Room := { frames := 0, cells := 0, slots := 0, locals := 0 }
theorem in4_freeThings_4 : ∀ w ∈ wsX40, w ∈ wsX4_freeThings := fun w h => List.mem_cons_of_mem _ (List.mem_append_right _ h)
set_option maxHeartbeats 4000000 in
set_option maxRecDepth 100000 in
theorem c4_freeThings {l : Launch} {D : va_G} {cI cZ cB : ClassId} {q : Nat → Nat} {sz : Nat} {things : Int32} {gifts : Int32} {days : Int32} {size : Nat → Int32} {weight : Nat → Int32} {sound : Nat → Int32} {harm : Nat → Int32} {in_ : Nat → Int32} {kind : Nat → Int32} {owner : Nat → Int32} {empty : Nat → Int32} {room : Nat → Int32} {told : Nat → Int32} {gate : Nat → Int32} {ear : Nat → Int32} {scale : Nat → Int32} {lost : Nat → Int32} {watch : Nat → Int32} {moments : Int32} {kept : Nat → Int32} {a_set : Int32}  {d_in_ : Nat → Int32} (hf : f4_freeThings things in_ a_set = some d_in_) : Met l yX4_freeThings wsX4_freeThings rm4_freeThings (zPm D cI cZ cB [.ref (q 0), .int a_set] sz (cWar cI q things gifts days size weight sound harm in_ kind owner empty room told gate ear scale lost watch moments kept)) (zQm D none (cWar cI q things gifts days size weight sound harm d_in_ kind owner empty room told gate ear scale lost watch moments kept) (va_A (cWar cI q things gifts days size weight sound harm in_ kind owner empty room told gate ear scale lost watch moments kept) sz)) 0 0 (va_A (cWar cI q things gifts days size weight sound harm in_ kind owner empty room told gate ear scale lost watch moments kept) sz) := by
  unfold f4_freeThings at hf
  refine z_mutV RX4 (by decide +kernel) rfl rfl (Nat.le_of_ble_eq_true rfl) ?_
  intro p e s m args below meth c Q A ls hx hb hml hown hts hK hP hD hS hA hret hl
  have hl : lv_has ls 3 [(0, .ref (q 0)), (1, .int a_set)] := hl
  refine lv_iconst (v := (0 : Int32)) hx hb (zD_g DX4_freeThings 0 rfl) (by decide) ?_
  refine lv_istore_n (lv' := [(2, .int (0 : Int32)), (0, .ref (q 0)), (1, .int a_set)]) hx hb (zD_g DX4_freeThings 1 rfl) rfl hl (by decide) rfl (fun ls hl => ?_)
  have hL3 : ∀ (k3 : (Nat → Int32) → Option ((Nat → Int32))) (hk3 : ∀ (in_7 : Nat → Int32), k3 in_7 = some d_in_ → ∀ (H : Heap) (locs : List Loc), va_P D vwCl (cWar cI q things gifts days size weight sound harm in_7 kind owner empty room told gate ear scale lost watch moments kept) H → va_D A (cWar cI q things gifts days size weight sound harm in_7 kind owner empty room told gate ear scale lost watch moments kept) → va_S A s.heap H locs → ∀ (ls : Array Slot), lv_has ls 3 [] → W p l e rm4_freeThings s m args below meth c H locs 0 0 Q (F0 m 31 ls [])) (n3 : Nat) (y1 : Int32) (in_2 : Nat → Int32), L4_freeThings_2 k3 things a_set n3 y1 in_2 = some d_in_ → ∀ (H : Heap) (locs : List Loc), va_P D vwCl (cWar cI q things gifts days size weight sound harm in_2 kind owner empty room told gate ear scale lost watch moments kept) H → va_D A (cWar cI q things gifts days size weight sound harm in_2 kind owner empty room told gate ear scale lost watch moments kept) → va_S A s.heap H locs → ∀ (ls : Array Slot), lv_has ls 3 [(0, .ref (q 0)), (1, .int a_set), (2, .int y1)] → W p l e rm4_freeThings s m args below meth c H locs 0 0 Q (F0 m 2 ls []) := by
    intro k3 hk3 n3
    induction n3 with
    | zero =>
      intro y1 in_2 hf
      cases hf
    | succ n3 ih3 =>
      intro y1 in_2 hf H locs hP hD hS ls hl
      rw [L4_freeThings_2] at hf
      refine lv_iload_n hx hb (zD_g DX4_freeThings 2 rfl) rfl (lv_at hl 2 rfl) ?_
      refine lv_aload_n hx hb (zD_g DX4_freeThings 3 rfl) rfl (lv_at hl 0 rfl) ?_
      refine va_get (D := D) (ci := 3) (v := .int things) (C := RX4) (T := TX4) (N := 19) hx hb hts in4_freeThings_4 hown hK.1 hP 0 rfl rfl 0 (by decide) (hts _ (List.mem_of_getElem? (i := 1) rfl)) (fun _ h9 => h9) rfl (zD_g DX4_freeThings 4 rfl) ?_
      refine lv_icmp_ge (tgt := 31) hx hb (zD_g DX4_freeThings 5 rfl) (by decide) (fun c4 => ?_) (fun c4 => ?_)
      · replace hf := z_t c4 hf
        exact hk3 _ hf _ _ hP hD hS ls (lv_sub hl [] rfl)
      · replace hf := z_f c4 hf
        refine lv_iload_n hx hb (zD_g DX4_freeThings 6 rfl) rfl (lv_at hl 1 rfl) ?_
        refine lv_iload_n hx hb (zD_g DX4_freeThings 7 rfl) rfl (lv_at hl 2 rfl) ?_
        refine lv_ishr hx hb (zD_g DX4_freeThings 8 rfl) ?_
        refine lv_iconst (v := (1 : Int32)) hx hb (zD_g DX4_freeThings 9 rfl) (by decide) ?_
        refine lv_iand hx hb (zD_g DX4_freeThings 10 rfl) ?_
        refine lv_if_eq (tgt := 25) hx hb (zD_g DX4_freeThings 11 rfl) (by decide) (fun c5 => ?_) (fun c5 => ?_)
        · replace hf := z_t c5 hf
          refine lv_iinc (v := y1 + 1) (lv' := [(2, .int (y1 + 1)), (0, .ref (q 0)), (1, .int a_set)]) (k := 2) hx hb (zD_g DX4_freeThings 17 rfl) hl rfl rfl (by decide) rfl (fun ls hl => ?_)
          refine lv_goto (tgt := 2) hx hb (zD_g DX4_freeThings 18 rfl) (by decide) ?_
          exact ih3 _ _ hf _ _ hP hD hS ls (lv_sub hl [1, 2, 0] rfl)
        · replace hf := z_f c5 hf
          refine lv_aload_n hx hb (zD_g DX4_freeThings 12 rfl) rfl (lv_at hl 0 rfl) ?_
          refine va_get (D := D) (ci := 3) (v := .ref (q 5)) (C := RX4) (T := TX4) (N := 19) hx hb hts in4_freeThings_4 hown hK.1 hP 0 rfl rfl 7 (by decide) (hts _ (List.mem_of_getElem? (i := 2) rfl)) (fun _ h9 => h9) rfl (zD_g DX4_freeThings 13 rfl) ?_
          refine lv_iload_n hx hb (zD_g DX4_freeThings 14 rfl) rfl (lv_at hl 2 rfl) ?_
          refine lv_iconst (v := (-1 : Int32)) hx hb (zD_g DX4_freeThings 15 rfl) (by decide) ?_
          obtain ⟨h6, hf⟩ := zg_s hf
          refine z_iast (k := y1.toNatClampNeg) (ws' := (cWar cI q things gifts days size weight sound harm (upd in_2 y1.toNatClampNeg (-1 : Int32)) kind owner empty room told gate ear scale lost watch moments kept)) hx hb hK.1 hP hD hS 5 0 rfl rfl h6 rfl rfl (zD_g DX4_freeThings 16 rfl) (fun H locs hP hD hS => ?_)
          refine lv_iinc (v := y1 + 1) (lv' := [(2, .int (y1 + 1)), (0, .ref (q 0)), (1, .int a_set)]) (k := 2) hx hb (zD_g DX4_freeThings 17 rfl) hl rfl rfl (by decide) rfl (fun ls hl => ?_)
          refine lv_goto (tgt := 2) hx hb (zD_g DX4_freeThings 18 rfl) (by decide) ?_
          exact ih3 _ _ hf _ _ hP hD hS ls (lv_sub hl [1, 2, 0] rfl)
  refine hL3 _ (fun in_7 hf H locs hP hD hS ls hl => ?_) _ _ _ hf _ _ hP hD hS ls (lv_sub hl [1, 2, 0] rfl)
  cases hf
  exact hret _ _ _ _ hP hD hS (zD_g DX4_freeThings 19 rfl)
abbrev dlX4_deliver : List (Nat × Instr × Nat) := [(0, .aload_n 0, 1), (1, .iload_n 1, 1), (2, .invokevirtual 122, 3), (5, .istore_n 3, 1), (6, .aload_n 0, 1), (7, .iload_n 1, 1), (8, .invokevirtual 104, 3), (11, .istore 4, 2), (13, .bipush (-5), 2), (15, .istore 5, 2), (17, .aload_n 0, 1), (18, .iload_n 1, 1), (19, .iload 4, 2), (21, .invokevirtual 125, 3), (24, .ifCond .eq 40, 3), (27, .aload_n 0, 1), (28, .iload_n 1, 1), (29, .iload 4, 2), (31, .iload_n 2, 1), (32, .invokevirtual 128, 3), (35, .istore 5, 2), (37, .aload_n 0, 1), (38, .getfield 51, 3), (41, .iload_n 3, 1), (42, .dup2, 1), (43, .iaload, 1), (44, .iload 5, 2), (46, .iadd, 1), (47, .iastore, 1), (48, .aload_n 0, 1), (49, .getfield 30, 3), (52, .iload_n 1, 1), (53, .iload_n 3, 1), (54, .iastore, 1), (55, .aload_n 0, 1), (56, .iload 4, 2), (58, .invokevirtual 132, 3), (61, .goto 13, 3), (64, .aload_n 0, 1), (65, .getfield 51, 3), (68, .iload_n 3, 1), (69, .dup2, 1), (70, .iaload, 1), (71, .iconst 1, 1), (72, .iadd, 1), (73, .iastore, 1), (74, .aload_n 0, 1), (75, .dup, 1), (76, .getfield 74, 3), (79, .iconst 1, 1), (80, .iadd, 1), (81, .putfield 74, 3), (84, .iload 5, 2), (86, .ireturn, 1)]
theorem DX4_deliver : zD cX4_deliver dlX4_deliver = true := by decide +kernel
set_option maxRecDepth 20000 in
theorem ggX4_deliver_X4_otherCity : GoodIn wsX4_deliver wsX4_otherCity := goodIn_r _ [8, 2, 71, 72, 73, 74, 75, 76, 77, 78, 79, 80, 81, 82, 83, 84, 85, 86, 87, 88, 89] (by decide +kernel) (by decide +kernel)
set_option maxRecDepth 20000 in
theorem gX4_deliver_X4_otherCity : GoodIn wsX4_deliver (wsV RX4 122 RX4 yX4_otherCity wsX4_otherCity) := goodIn_app (goodIn_of _ (by decide +kernel)) ggX4_deliver_X4_otherCity
set_option maxRecDepth 20000 in
theorem ggX4_deliver_X4_inside : GoodIn wsX4_deliver wsX4_inside := goodIn_r _ [12, 13, 14, 71, 72, 73, 74, 75, 76, 77, 78, 79, 80, 81, 82, 83, 84, 85, 86, 87, 88, 89] (by decide +kernel) (by decide +kernel)
set_option maxRecDepth 20000 in
theorem gX4_deliver_X4_inside : GoodIn wsX4_deliver (wsV RX4 104 RX4 yX4_inside wsX4_inside) := goodIn_app (goodIn_of _ (by decide +kernel)) ggX4_deliver_X4_inside
set_option maxRecDepth 20000 in
theorem ggX4_deliver_X4_passes : GoodIn wsX4_deliver wsX4_passes := goodIn_r _ [18, 19, 20, 21, 7, 22, 23, 24, 4, 5, 6, 8, 2, 25, 26, 27, 28, 29, 30, 31, 32, 33, 34, 35, 36, 37, 38, 39, 40, 41, 42, 43, 44, 45, 46, 47, 48, 49, 3, 50, 51, 52, 53, 71, 72, 73, 74, 75, 76, 77, 78, 79, 80, 81, 82, 83, 84, 85, 86, 87, 88, 89] (by decide +kernel) (by decide +kernel)
set_option maxRecDepth 20000 in
theorem gX4_deliver_X4_passes : GoodIn wsX4_deliver (wsV RX4 125 RX4 yX4_passes wsX4_passes) := goodIn_app (goodIn_of _ (by decide +kernel)) ggX4_deliver_X4_passes
set_option maxRecDepth 20000 in
theorem ggX4_deliver_X4_loss : GoodIn wsX4_deliver wsX4_loss := goodIn_r _ [57, 58, 59, 60, 52, 61, 62, 63, 64, 7, 65, 66, 35, 3, 36, 37, 38, 4, 5, 6, 8, 2, 71, 72, 73, 74, 75, 76, 77, 78, 79, 80, 81, 82, 83, 84, 85, 86, 87, 88, 89] (by decide +kernel) (by decide +kernel)
set_option maxRecDepth 20000 in
theorem gX4_deliver_X4_loss : GoodIn wsX4_deliver (wsV RX4 128 RX4 yX4_loss wsX4_loss) := goodIn_app (goodIn_of _ (by decide +kernel)) ggX4_deliver_X4_loss
set_option maxRecDepth 20000 in
theorem ggX4_deliver_X4_freeThings : GoodIn wsX4_deliver wsX4_freeThings := goodIn_r _ [70, 13, 14, 71, 72, 73, 74, 75, 76, 77, 78, 79, 80, 81, 82, 83, 84, 85, 86, 87, 88, 89] (by decide +kernel) (by decide +kernel)
set_option maxRecDepth 20000 in
theorem gX4_deliver_X4_freeThings : GoodIn wsX4_deliver (wsV RX4 132 RX4 yX4_freeThings wsX4_freeThings) := goodIn_app (goodIn_of _ (by decide +kernel)) ggX4_deliver_X4_freeThings
theorem hd4_deliver : yX4_deliver.cls = RX4 ∧ yX4_deliver.cls ≠ "java/lang/invoke/MethodHandle" ∧ yX4_deliver.cls ≠ "java/lang/invoke/VarHandle" ∧ (parseMethodDescriptor yX4_deliver.desc).map (fun d => d.parameters.length) = some 2 := by decide +kernel
abbrev rm4_deliver : Room := { frames := 4, cells := 0, slots := 0, locals := 90 }
theorem in4_deliver_4 : ∀ w ∈ wsX40, w ∈ wsX4_deliver := fun w h => List.mem_cons_of_mem _ (List.mem_append_right _ h)
set_option maxHeartbeats 4000000 in
set_option maxRecDepth 100000 in
theorem c4_deliver {l : Launch} {D : va_G} {cI cZ cB : ClassId} {q : Nat → Nat} {sz : Nat} {things : Int32} {gifts : Int32} {days : Int32} {size : Nat → Int32} {weight : Nat → Int32} {sound : Nat → Int32} {harm : Nat → Int32} {in_ : Nat → Int32} {kind : Nat → Int32} {owner : Nat → Int32} {empty : Nat → Int32} {room : Nat → Int32} {told : Nat → Int32} {gate : Nat → Int32} {ear : Nat → Int32} {scale : Nat → Int32} {lost : Nat → Int32} {watch : Nat → Int32} {moments : Int32} {kept : Nat → Int32} {a_gift : Int32} {a_hour : Int32} {r : Int32} {d_days : Int32} {d_in_ : Nat → Int32} {d_owner : Nat → Int32} {d_lost : Nat → Int32} (hf : f4_deliver things days weight sound harm in_ kind owner empty room gate ear scale lost watch a_gift a_hour = some (r, d_days, d_in_, d_owner, d_lost)) : Met l yX4_deliver wsX4_deliver rm4_deliver (zPm D cI cZ cB [.ref (q 0), .int a_gift, .int a_hour] sz (cWar cI q things gifts days size weight sound harm in_ kind owner empty room told gate ear scale lost watch moments kept)) (zQm D (some (.int r)) (cWar cI q things gifts d_days size weight sound harm d_in_ kind d_owner empty room told gate ear scale d_lost watch moments kept) (va_A (cWar cI q things gifts days size weight sound harm in_ kind owner empty room told gate ear scale lost watch moments kept) sz)) 0 0 (va_A (cWar cI q things gifts days size weight sound harm in_ kind owner empty room told gate ear scale lost watch moments kept) sz) := by
  unfold f4_deliver at hf
  refine z_mutI RX4 (by decide +kernel) rfl rfl (Nat.le_of_ble_eq_true rfl) ?_
  intro p e s m args below meth c Q A ls hx hb hml hown hts hK hP hD hS hA hret hl
  have hl : lv_has ls 6 [(0, .ref (q 0)), (1, .int a_gift), (2, .int a_hour)] := hl
  refine lv_aload_n hx hb (zD_g DX4_deliver 0 rfl) rfl (lv_at hl 0 rfl) ?_
  refine lv_iload_n hx hb (zD_g DX4_deliver 1 rfl) rfl (lv_at hl 1 rfl) ?_
  obtain ⟨r1, hc2, hf⟩ := zb1_s hf
  refine z_Vp (As := [.int a_gift]) (rest := []) ⟨hx, hb, hml, hown, hts⟩ hK (c4_otherCity (things := things) (gifts := gifts) (days := days) (size := size) (weight := weight) (sound := sound) (harm := harm) (in_ := in_) (kind := kind) (owner := owner) (empty := empty) (room := room) (told := told) (gate := gate) (ear := ear) (scale := scale) (lost := lost) (watch := watch) (moments := moments) (kept := kept) (q := q) hc2) (cwV 1 hts gX4_deliver_X4_otherCity rfl rfl rfl hd4_otherCity ⟨Nat.le_of_ble_eq_true rfl, Nat.le_of_ble_eq_true rfl⟩) hP rfl rfl rfl rfl hl.1 rfl rfl (Nat.le_of_ble_eq_true rfl) (zD_g DX4_deliver 2 rfl) ⟨Nat.zero_le _, Nat.zero_le _⟩ ?_
  refine lv_istore_n (lv' := [(3, .int r1), (0, .ref (q 0)), (1, .int a_gift), (2, .int a_hour)]) hx hb (zD_g DX4_deliver 3 rfl) rfl hl (by decide) rfl (fun ls hl => ?_)
  refine lv_aload_n hx hb (zD_g DX4_deliver 4 rfl) rfl (lv_at hl 1 rfl) ?_
  refine lv_iload_n hx hb (zD_g DX4_deliver 5 rfl) rfl (lv_at hl 2 rfl) ?_
  obtain ⟨r3, hc4, hf⟩ := zb1_s hf
  refine z_Vp (As := [.int a_gift]) (rest := []) ⟨hx, hb, hml, hown, hts⟩ hK (c4_inside (things := things) (gifts := gifts) (days := days) (size := size) (weight := weight) (sound := sound) (harm := harm) (in_ := in_) (kind := kind) (owner := owner) (empty := empty) (room := room) (told := told) (gate := gate) (ear := ear) (scale := scale) (lost := lost) (watch := watch) (moments := moments) (kept := kept) (q := q) hc4) (cwV 1 hts gX4_deliver_X4_inside rfl rfl rfl hd4_inside ⟨Nat.le_of_ble_eq_true rfl, Nat.le_of_ble_eq_true rfl⟩) hP rfl rfl rfl rfl hl.1 rfl rfl (Nat.le_of_ble_eq_true rfl) (zD_g DX4_deliver 6 rfl) ⟨Nat.zero_le _, Nat.zero_le _⟩ ?_
  refine lv_istore (lv' := [(4, .int r3), (3, .int r1), (0, .ref (q 0)), (1, .int a_gift), (2, .int a_hour)]) hx hb (zD_g DX4_deliver 7 rfl) hl (by decide) rfl (fun ls hl => ?_)
  refine lv_bipush (v := (-5 : Int32)) hx hb (zD_g DX4_deliver 8 rfl) (by decide) ?_
  refine lv_istore (lv' := [(5, .int (-5 : Int32)), (4, .int r3), (3, .int r1), (0, .ref (q 0)), (1, .int a_gift), (2, .int a_hour)]) hx hb (zD_g DX4_deliver 9 rfl) hl (by decide) rfl (fun ls hl => ?_)
  refine lv_aload_n hx hb (zD_g DX4_deliver 10 rfl) rfl (lv_at hl 3 rfl) ?_
  refine lv_iload_n hx hb (zD_g DX4_deliver 11 rfl) rfl (lv_at hl 4 rfl) ?_
  refine lv_iload hx hb (zD_g DX4_deliver 12 rfl) (lv_at hl 1 rfl) ?_
  obtain ⟨r5, hc6, hf⟩ := zb1_s hf
  refine z_Vp (As := [.int a_gift, .int r3]) (rest := []) ⟨hx, hb, hml, hown, hts⟩ hK (c4_passes (things := things) (gifts := gifts) (days := days) (size := size) (weight := weight) (sound := sound) (harm := harm) (in_ := in_) (kind := kind) (owner := owner) (empty := empty) (room := room) (told := told) (gate := gate) (ear := ear) (scale := scale) (lost := lost) (watch := watch) (moments := moments) (kept := kept) (q := q) hc6) (cwV 2 hts gX4_deliver_X4_passes rfl rfl rfl hd4_passes ⟨Nat.le_of_ble_eq_true rfl, Nat.le_of_ble_eq_true rfl⟩) hP rfl rfl rfl rfl hl.1 rfl rfl (Nat.le_of_ble_eq_true rfl) (zD_g DX4_deliver 13 rfl) ⟨Nat.zero_le _, Nat.zero_le _⟩ ?_
  refine lv_if_eq (tgt := 64) hx hb (zD_g DX4_deliver 14 rfl) (by decide) (fun c7 => ?_) (fun c7 => ?_)
  · replace hf := z_t c7 hf
    refine lv_aload_n hx hb (zD_g DX4_deliver 38 rfl) rfl (lv_at hl 3 rfl) ?_
    refine va_get (D := D) (ci := 3) (v := .ref (q 14)) (C := RX4) (T := TX4) (N := 19) hx hb hts in4_deliver_4 hown hK.1 hP 0 rfl rfl 16 (by decide) (hts _ (List.mem_of_getElem? (i := 1) rfl)) (fun _ h9 => h9) rfl (zD_g DX4_deliver 39 rfl) ?_
    refine lv_iload_n hx hb (zD_g DX4_deliver 40 rfl) rfl (lv_at hl 2 rfl) ?_
    refine lv_dup2_11 hx hb (zD_g DX4_deliver 41 rfl) rfl rfl ?_
    obtain ⟨h8, hf⟩ := zg_s hf
    refine z_iald (k := r1.toNatClampNeg) hx hb hK.1 hP 14 0 rfl rfl h8 rfl (zD_g DX4_deliver 42 rfl) ?_
    refine lv_iconst (v := (1 : Int32)) hx hb (zD_g DX4_deliver 43 rfl) (by decide) ?_
    refine lv_iadd hx hb (zD_g DX4_deliver 44 rfl) ?_
    refine lv_topi (fun x9 ex9 => ?_)
    replace hf := zl_s hf x9 ex9
    obtain ⟨h10, hf⟩ := zg_s hf
    refine z_iast (k := r1.toNatClampNeg) (ws' := (cWar cI q things gifts days size weight sound harm in_ kind owner empty room told gate ear scale (upd lost r1.toNatClampNeg x9) watch moments kept)) hx hb hK.1 hP hD hS 14 0 rfl rfl h10 rfl rfl (zD_g DX4_deliver 45 rfl) (fun H locs hP hD hS => ?_)
    refine lv_aload_n hx hb (zD_g DX4_deliver 46 rfl) rfl (lv_at hl 3 rfl) ?_
    refine lv_dup hx hb (zD_g DX4_deliver 47 rfl) rfl ?_
    refine va_get (D := D) (ci := 3) (v := .int days) (C := RX4) (T := TX4) (N := 19) hx hb hts in4_deliver_4 hown hK.1 hP 0 rfl rfl 2 (by decide) (hts _ (List.mem_of_getElem? (i := 3) rfl)) (fun _ h9 => h9) rfl (zD_g DX4_deliver 48 rfl) ?_
    refine lv_iconst (v := (1 : Int32)) hx hb (zD_g DX4_deliver 49 rfl) (by decide) ?_
    refine lv_iadd hx hb (zD_g DX4_deliver 50 rfl) ?_
    refine lv_topi (fun x11 ex11 => ?_)
    replace hf := zl_s hf x11 ex11
    refine z_put (D := D) (ci := 3) (v := .int x11) (ty := .int) (C := RX4) (T := TX4) (N := 19) (ws' := (cWar cI q things gifts x11 size weight sound harm in_ kind owner empty room told gate ear scale (upd lost r1.toNatClampNeg x9) watch moments kept)) hx hb hts in4_deliver_4 tyX4 tyX4_ok nmX4 hown hK.1 hP hD hS 0 rfl rfl 2 (by decide) (hts _ (List.mem_of_getElem? (i := 3) rfl)) (fun _ h9 => h9) rfl (tyX4_ok 2 (by decide)) rfl rfl (Nat.le_of_ble_eq_true rfl) rfl (zD_g DX4_deliver 51 rfl) (fun H locs hP hD hS => ?_)
    refine lv_iload hx hb (zD_g DX4_deliver 52 rfl) (lv_at hl 0 rfl) ?_
    cases hf
    exact hret _ _ _ _ hP hD hS (zD_g DX4_deliver 53 rfl)
  · replace hf := z_f c7 hf
    refine lv_aload_n hx hb (zD_g DX4_deliver 15 rfl) rfl (lv_at hl 3 rfl) ?_
    refine lv_iload_n hx hb (zD_g DX4_deliver 16 rfl) rfl (lv_at hl 4 rfl) ?_
    refine lv_iload hx hb (zD_g DX4_deliver 17 rfl) (lv_at hl 1 rfl) ?_
    refine lv_iload_n hx hb (zD_g DX4_deliver 18 rfl) rfl (lv_at hl 5 rfl) ?_
    obtain ⟨r12, hc13, hf⟩ := zb1_s hf
    refine z_Vp (As := [.int a_gift, .int r3, .int a_hour]) (rest := []) ⟨hx, hb, hml, hown, hts⟩ hK (c4_loss (things := things) (gifts := gifts) (days := days) (size := size) (weight := weight) (sound := sound) (harm := harm) (in_ := in_) (kind := kind) (owner := owner) (empty := empty) (room := room) (told := told) (gate := gate) (ear := ear) (scale := scale) (lost := lost) (watch := watch) (moments := moments) (kept := kept) (q := q) hc13) (cwV 3 hts gX4_deliver_X4_loss rfl rfl rfl hd4_loss ⟨Nat.le_of_ble_eq_true rfl, Nat.le_of_ble_eq_true rfl⟩) hP rfl rfl rfl rfl hl.1 rfl rfl (Nat.le_of_ble_eq_true rfl) (zD_g DX4_deliver 19 rfl) ⟨Nat.zero_le _, Nat.zero_le _⟩ ?_
    refine lv_istore (lv' := [(5, .int r12), (4, .int r3), (3, .int r1), (0, .ref (q 0)), (1, .int a_gift), (2, .int a_hour)]) hx hb (zD_g DX4_deliver 20 rfl) hl (by decide) rfl (fun ls hl => ?_)
    refine lv_aload_n hx hb (zD_g DX4_deliver 21 rfl) rfl (lv_at hl 3 rfl) ?_
    refine va_get (D := D) (ci := 3) (v := .ref (q 14)) (C := RX4) (T := TX4) (N := 19) hx hb hts in4_deliver_4 hown hK.1 hP 0 rfl rfl 16 (by decide) (hts _ (List.mem_of_getElem? (i := 1) rfl)) (fun _ h9 => h9) rfl (zD_g DX4_deliver 22 rfl) ?_
    refine lv_iload_n hx hb (zD_g DX4_deliver 23 rfl) rfl (lv_at hl 2 rfl) ?_
    refine lv_dup2_11 hx hb (zD_g DX4_deliver 24 rfl) rfl rfl ?_
    obtain ⟨h14, hf⟩ := zg_s hf
    refine z_iald (k := r1.toNatClampNeg) hx hb hK.1 hP 14 0 rfl rfl h14 rfl (zD_g DX4_deliver 25 rfl) ?_
    refine lv_iload hx hb (zD_g DX4_deliver 26 rfl) (lv_at hl 0 rfl) ?_
    refine lv_iadd hx hb (zD_g DX4_deliver 27 rfl) ?_
    refine lv_topi (fun x15 ex15 => ?_)
    replace hf := zl_s hf x15 ex15
    obtain ⟨h16, hf⟩ := zg_s hf
    refine z_iast (k := r1.toNatClampNeg) (ws' := (cWar cI q things gifts days size weight sound harm in_ kind owner empty room told gate ear scale (upd lost r1.toNatClampNeg x15) watch moments kept)) hx hb hK.1 hP hD hS 14 0 rfl rfl h16 rfl rfl (zD_g DX4_deliver 28 rfl) (fun H locs hP hD hS => ?_)
    refine lv_aload_n hx hb (zD_g DX4_deliver 29 rfl) rfl (lv_at hl 3 rfl) ?_
    refine va_get (D := D) (ci := 3) (v := .ref (q 7)) (C := RX4) (T := TX4) (N := 19) hx hb hts in4_deliver_4 hown hK.1 hP 0 rfl rfl 9 (by decide) (hts _ (List.mem_of_getElem? (i := 2) rfl)) (fun _ h9 => h9) rfl (zD_g DX4_deliver 30 rfl) ?_
    refine lv_iload_n hx hb (zD_g DX4_deliver 31 rfl) rfl (lv_at hl 4 rfl) ?_
    refine lv_iload_n hx hb (zD_g DX4_deliver 32 rfl) rfl (lv_at hl 2 rfl) ?_
    obtain ⟨h17, hf⟩ := zg_s hf
    refine z_iast (k := a_gift.toNatClampNeg) (ws' := (cWar cI q things gifts days size weight sound harm in_ kind (upd owner a_gift.toNatClampNeg r1) empty room told gate ear scale (upd lost r1.toNatClampNeg x15) watch moments kept)) hx hb hK.1 hP hD hS 7 0 rfl rfl h17 rfl rfl (zD_g DX4_deliver 33 rfl) (fun H locs hP hD hS => ?_)
    refine lv_aload_n hx hb (zD_g DX4_deliver 34 rfl) rfl (lv_at hl 3 rfl) ?_
    refine lv_iload hx hb (zD_g DX4_deliver 35 rfl) (lv_at hl 1 rfl) ?_
    obtain ⟨in_18, hc19, hf⟩ := zb1_s hf
    refine z_Vm (As := [.int r3]) (rest := []) (ws' := (cWar cI q things gifts days size weight sound harm in_18 kind (upd owner a_gift.toNatClampNeg r1) empty room told gate ear scale (upd lost r1.toNatClampNeg x15) watch moments kept)) ⟨hx, hb, hml, hown, hts⟩ hK (c4_freeThings (things := things) (gifts := gifts) (days := days) (size := size) (weight := weight) (sound := sound) (harm := harm) (in_ := in_) (kind := kind) (owner := (upd owner a_gift.toNatClampNeg r1)) (empty := empty) (room := room) (told := told) (gate := gate) (ear := ear) (scale := scale) (lost := (upd lost r1.toNatClampNeg x15)) (watch := watch) (moments := moments) (kept := kept) (q := q) hc19) (cwV 1 hts gX4_deliver_X4_freeThings rfl rfl rfl hd4_freeThings ⟨Nat.le_of_ble_eq_true rfl, Nat.le_of_ble_eq_true rfl⟩) hP hD hS hA 18 [0, 1, 2, 3, 4, 5, 6, 7, 8, 9, 10, 11, 12, 13, 14, 15, 16, 17] [] [0, 1, 2, 3, 4, 5, 6, 7, 8, 9, 10, 11, 12, 13, 14, 15, 16, 17] (by decide +kernel) rfl rfl rfl rfl rfl rfl rfl hl.1 rfl rfl (Nat.le_of_ble_eq_true rfl) (zD_g DX4_deliver 36 rfl) ⟨Nat.zero_le _, Nat.zero_le _⟩ (fun H locs hP hD hS => ?_)
    refine lv_goto (tgt := 74) hx hb (zD_g DX4_deliver 37 rfl) (by decide) ?_
    refine lv_aload_n hx hb (zD_g DX4_deliver 46 rfl) rfl (lv_at hl 3 rfl) ?_
    refine lv_dup hx hb (zD_g DX4_deliver 47 rfl) rfl ?_
    refine va_get (D := D) (ci := 3) (v := .int days) (C := RX4) (T := TX4) (N := 19) hx hb hts in4_deliver_4 hown hK.1 hP 0 rfl rfl 2 (by decide) (hts _ (List.mem_of_getElem? (i := 3) rfl)) (fun _ h9 => h9) rfl (zD_g DX4_deliver 48 rfl) ?_
    refine lv_iconst (v := (1 : Int32)) hx hb (zD_g DX4_deliver 49 rfl) (by decide) ?_
    refine lv_iadd hx hb (zD_g DX4_deliver 50 rfl) ?_
    refine lv_topi (fun x20 ex20 => ?_)
    replace hf := zl_s hf x20 ex20
    refine z_put (D := D) (ci := 3) (v := .int x20) (ty := .int) (C := RX4) (T := TX4) (N := 19) (ws' := (cWar cI q things gifts x20 size weight sound harm in_18 kind (upd owner a_gift.toNatClampNeg r1) empty room told gate ear scale (upd lost r1.toNatClampNeg x15) watch moments kept)) hx hb hts in4_deliver_4 tyX4 tyX4_ok nmX4 hown hK.1 hP hD hS 0 rfl rfl 2 (by decide) (hts _ (List.mem_of_getElem? (i := 3) rfl)) (fun _ h9 => h9) rfl (tyX4_ok 2 (by decide)) rfl rfl (Nat.le_of_ble_eq_true rfl) rfl (zD_g DX4_deliver 51 rfl) (fun H locs hP hD hS => ?_)
    refine lv_iload hx hb (zD_g DX4_deliver 52 rfl) (lv_at hl 0 rfl) ?_
    cases hf
    exact hret _ _ _ _ hP hD hS (zD_g DX4_deliver 53 rfl)
abbrev dlX2_giveBack : List (Nat × Instr × Nat) := [(0, .aload_n 0, 1), (1, .dup, 1), (2, .getfield 11, 3), (5, .iconst 1, 1), (6, .isub, 1), (7, .putfield 11, 3), (10, .aload_n 0, 1), (11, .getfield 11, 3), (14, .bipush 17, 2), (16, .imul, 1), (17, .istore 4, 2), (19, .aload_n 0, 1), (20, .getfield 15, 3), (23, .iload 4, 2), (25, .aload_n 1, 1), (26, .iconst 0, 1), (27, .bipush 6, 2), (29, .invokestatic 19, 3), (32, .aload_n 0, 1), (33, .getfield 15, 3), (36, .iload 4, 2), (38, .bipush 6, 2), (40, .iadd, 1), (41, .aload_n 2, 1), (42, .iconst 0, 1), (43, .bipush 8, 2), (45, .invokestatic 19, 3), (48, .aload_n 0, 1), (49, .getfield 15, 3), (52, .iload 4, 2), (54, .bipush 14, 2), (56, .iadd, 1), (57, .aload_n 3, 1), (58, .iconst 0, 1), (59, .iconst 2, 1), (60, .invokestatic 19, 3), (63, .aload_n 0, 1), (64, .getfield 15, 3), (67, .iload 4, 2), (69, .bipush 16, 2), (71, .iadd, 1), (72, .iaload, 1), (73, .ireturn, 1)]
theorem DX2_giveBack : zD cX2_giveBack dlX2_giveBack = true := by decide +kernel
theorem hd2_giveBack : yX2_giveBack.cls = RX2 ∧ yX2_giveBack.cls ≠ "java/lang/invoke/MethodHandle" ∧ yX2_giveBack.cls ≠ "java/lang/invoke/VarHandle" ∧ (parseMethodDescriptor yX2_giveBack.desc).map (fun d => d.parameters.length) = some 3 := by decide +kernel
abbrev rm2_giveBack : Room := { frames := 1, cells := 0, slots := 0, locals := 60 }
theorem in2_giveBack_2 : ∀ w ∈ wsX20, w ∈ wsX2_giveBack := fun w h => List.mem_cons_of_mem _ (List.mem_append_right _ h)
set_option maxHeartbeats 4000000 in
set_option maxRecDepth 100000 in
theorem c2_giveBack {l : Launch} {D : va_G} {cI cZ cB : ClassId} {q : Nat → Nat} {ar0 : Nat} {ar1 : Nat} {ar2 : Nat} {sz : Nat} {moments : Int32} {kept : Nat → Int32} {p_owner : Nat → Int32} {p_in : Nat → Int32} {p_lost : Nat → Int32}  {r : Int32} {d_moments : Int32} {d_p_owner : Nat → Int32} {d_p_in : Nat → Int32} {d_p_lost : Nat → Int32} (hf : f2_giveBack moments kept p_owner p_in p_lost = some (r, d_moments, d_p_owner, d_p_in, d_p_lost)) : Met l yX2_giveBack wsX2_giveBack rm2_giveBack (zPm D cI cZ cB [.ref (q 0), .ref ar0, .ref ar1, .ref ar2] sz (zcat [(cPast cI q moments kept), (cArr cI ar0 6 p_owner), (cArr cI ar1 8 p_in), (cArr cI ar2 2 p_lost)])) (zQm D (some (.int r)) (zcat [(cPast cI q d_moments kept), (cArr cI ar0 6 d_p_owner), (cArr cI ar1 8 d_p_in), (cArr cI ar2 2 d_p_lost)]) (va_A (zcat [(cPast cI q moments kept), (cArr cI ar0 6 p_owner), (cArr cI ar1 8 p_in), (cArr cI ar2 2 p_lost)]) sz)) 0 0 (va_A (zcat [(cPast cI q moments kept), (cArr cI ar0 6 p_owner), (cArr cI ar1 8 p_in), (cArr cI ar2 2 p_lost)]) sz) := by
  unfold f2_giveBack at hf
  refine z_mutI RX2 (by decide +kernel) rfl rfl (Nat.le_of_ble_eq_true rfl) ?_
  intro p e s m args below meth c Q A ls hx hb hml hown hts hK hP hD hS hA hret hl
  have hl : lv_has ls 5 [(0, .ref (q 0)), (1, .ref ar0), (2, .ref ar1), (3, .ref ar2)] := hl
  refine lv_aload_n hx hb (zD_g DX2_giveBack 0 rfl) rfl (lv_at hl 0 rfl) ?_
  refine lv_dup hx hb (zD_g DX2_giveBack 1 rfl) rfl ?_
  refine va_get (D := D) (ci := 1) (v := .int moments) (C := RX2) (T := TX2) (N := 2) hx hb hts in2_giveBack_2 hown hK.1 hP 0 rfl rfl 0 (by decide) (hts _ (List.mem_of_getElem? (i := 1) rfl)) (fun _ h9 => h9) rfl (zD_g DX2_giveBack 2 rfl) ?_
  refine lv_iconst (v := (1 : Int32)) hx hb (zD_g DX2_giveBack 3 rfl) (by decide) ?_
  refine lv_isub hx hb (zD_g DX2_giveBack 4 rfl) ?_
  refine lv_topi (fun x1 ex1 => ?_)
  replace hf := zl_s hf x1 ex1
  refine z_put (D := D) (ci := 1) (v := .int x1) (ty := .int) (C := RX2) (T := TX2) (N := 2) (ws' := (zcat [(cPast cI q x1 kept), (cArr cI ar0 6 p_owner), (cArr cI ar1 8 p_in), (cArr cI ar2 2 p_lost)])) hx hb hts in2_giveBack_2 tyX2 tyX2_ok nmX2 hown hK.1 hP hD hS 0 rfl rfl 0 (by decide) (hts _ (List.mem_of_getElem? (i := 1) rfl)) (fun _ h9 => h9) rfl (tyX2_ok 0 (by decide)) rfl rfl (Nat.le_of_ble_eq_true rfl) rfl (zD_g DX2_giveBack 5 rfl) (fun H locs hP hD hS => ?_)
  refine lv_aload_n hx hb (zD_g DX2_giveBack 6 rfl) rfl (lv_at hl 0 rfl) ?_
  refine va_get (D := D) (ci := 1) (v := .int x1) (C := RX2) (T := TX2) (N := 2) hx hb hts in2_giveBack_2 hown hK.1 hP 0 rfl rfl 0 (by decide) (hts _ (List.mem_of_getElem? (i := 1) rfl)) (fun _ h9 => h9) rfl (zD_g DX2_giveBack 7 rfl) ?_
  refine lv_bipush (v := (17 : Int32)) hx hb (zD_g DX2_giveBack 8 rfl) (by decide) ?_
  refine lv_imul hx hb (zD_g DX2_giveBack 9 rfl) ?_
  refine lv_topi (fun x2 ex2 => ?_)
  replace hf := zl_s hf x2 ex2
  refine lv_istore (lv' := [(4, .int x2), (0, .ref (q 0)), (1, .ref ar0), (2, .ref ar1), (3, .ref ar2)]) hx hb (zD_g DX2_giveBack 10 rfl) hl (by decide) rfl (fun ls hl => ?_)
  refine lv_aload_n hx hb (zD_g DX2_giveBack 11 rfl) rfl (lv_at hl 1 rfl) ?_
  refine va_get (D := D) (ci := 1) (v := .ref (q 1)) (C := RX2) (T := TX2) (N := 2) hx hb hts in2_giveBack_2 hown hK.1 hP 0 rfl rfl 1 (by decide) (hts _ (List.mem_of_getElem? (i := 2) rfl)) (fun _ h9 => h9) rfl (zD_g DX2_giveBack 12 rfl) ?_
  refine lv_iload hx hb (zD_g DX2_giveBack 13 rfl) (lv_at hl 0 rfl) ?_
  refine lv_aload_n hx hb (zD_g DX2_giveBack 14 rfl) rfl (lv_at hl 2 rfl) ?_
  refine lv_iconst (v := (0 : Int32)) hx hb (zD_g DX2_giveBack 15 rfl) (by decide) ?_
  refine lv_bipush (v := (6 : Int32)) hx hb (zD_g DX2_giveBack 16 rfl) (by decide) ?_
  obtain ⟨hc3, hf⟩ := zgc_s hf
  refine z_copyi (S := (x2).toNatClampNeg) (P := 0) (N := 6) (ws' := (zcat [(cPast cI q x1 kept), (cArr cI ar0 6 (va_cpy kept p_owner ((x2).toNatClampNeg) 0 6)), (cArr cI ar1 8 p_in), (cArr cI ar2 2 p_lost)])) hx hb (hml.trans hl.1.symm) hown (hts _ (List.mem_of_getElem? (i := 3) rfl)) (hts _ (List.mem_of_getElem? (i := 4) rfl)) (hts _ (List.mem_of_getElem? (i := 5) rfl)) (hts _ (List.mem_of_getElem? (i := 6) rfl)) hK.1 hP hD hS 1 2 0 0 rfl rfl rfl rfl rfl hc3 rfl rfl rfl rfl (Nat.le_of_ble_eq_true rfl) (Nat.le_of_ble_eq_true rfl) (zD_g DX2_giveBack 17 rfl) (fun H locs hP hD hS => ?_)
  refine lv_aload_n hx hb (zD_g DX2_giveBack 18 rfl) rfl (lv_at hl 1 rfl) ?_
  refine va_get (D := D) (ci := 1) (v := .ref (q 1)) (C := RX2) (T := TX2) (N := 2) hx hb hts in2_giveBack_2 hown hK.1 hP 0 rfl rfl 1 (by decide) (hts _ (List.mem_of_getElem? (i := 2) rfl)) (fun _ h9 => h9) rfl (zD_g DX2_giveBack 19 rfl) ?_
  refine lv_iload hx hb (zD_g DX2_giveBack 20 rfl) (lv_at hl 0 rfl) ?_
  refine lv_bipush (v := (6 : Int32)) hx hb (zD_g DX2_giveBack 21 rfl) (by decide) ?_
  refine lv_iadd hx hb (zD_g DX2_giveBack 22 rfl) ?_
  refine lv_aload_n hx hb (zD_g DX2_giveBack 23 rfl) rfl (lv_at hl 3 rfl) ?_
  refine lv_iconst (v := (0 : Int32)) hx hb (zD_g DX2_giveBack 24 rfl) (by decide) ?_
  refine lv_bipush (v := (8 : Int32)) hx hb (zD_g DX2_giveBack 25 rfl) (by decide) ?_
  obtain ⟨hc4, hf⟩ := zgc_s hf
  refine z_copyi (S := ((x2 + (6 : Int32))).toNatClampNeg) (P := 0) (N := 8) (ws' := (zcat [(cPast cI q x1 kept), (cArr cI ar0 6 (va_cpy kept p_owner ((x2).toNatClampNeg) 0 6)), (cArr cI ar1 8 (va_cpy kept p_in (((x2 + (6 : Int32))).toNatClampNeg) 0 8)), (cArr cI ar2 2 p_lost)])) hx hb (hml.trans hl.1.symm) hown (hts _ (List.mem_of_getElem? (i := 3) rfl)) (hts _ (List.mem_of_getElem? (i := 4) rfl)) (hts _ (List.mem_of_getElem? (i := 5) rfl)) (hts _ (List.mem_of_getElem? (i := 6) rfl)) hK.1 hP hD hS 1 3 0 0 rfl rfl rfl rfl rfl hc4 rfl rfl rfl rfl (Nat.le_of_ble_eq_true rfl) (Nat.le_of_ble_eq_true rfl) (zD_g DX2_giveBack 26 rfl) (fun H locs hP hD hS => ?_)
  refine lv_aload_n hx hb (zD_g DX2_giveBack 27 rfl) rfl (lv_at hl 1 rfl) ?_
  refine va_get (D := D) (ci := 1) (v := .ref (q 1)) (C := RX2) (T := TX2) (N := 2) hx hb hts in2_giveBack_2 hown hK.1 hP 0 rfl rfl 1 (by decide) (hts _ (List.mem_of_getElem? (i := 2) rfl)) (fun _ h9 => h9) rfl (zD_g DX2_giveBack 28 rfl) ?_
  refine lv_iload hx hb (zD_g DX2_giveBack 29 rfl) (lv_at hl 0 rfl) ?_
  refine lv_bipush (v := (14 : Int32)) hx hb (zD_g DX2_giveBack 30 rfl) (by decide) ?_
  refine lv_iadd hx hb (zD_g DX2_giveBack 31 rfl) ?_
  refine lv_aload_n hx hb (zD_g DX2_giveBack 32 rfl) rfl (lv_at hl 4 rfl) ?_
  refine lv_iconst (v := (0 : Int32)) hx hb (zD_g DX2_giveBack 33 rfl) (by decide) ?_
  refine lv_iconst (v := (2 : Int32)) hx hb (zD_g DX2_giveBack 34 rfl) (by decide) ?_
  obtain ⟨hc5, hf⟩ := zgc_s hf
  refine z_copyi (S := ((x2 + (14 : Int32))).toNatClampNeg) (P := 0) (N := 2) (ws' := (zcat [(cPast cI q x1 kept), (cArr cI ar0 6 (va_cpy kept p_owner ((x2).toNatClampNeg) 0 6)), (cArr cI ar1 8 (va_cpy kept p_in (((x2 + (6 : Int32))).toNatClampNeg) 0 8)), (cArr cI ar2 2 (va_cpy kept p_lost (((x2 + (14 : Int32))).toNatClampNeg) 0 2))])) hx hb (hml.trans hl.1.symm) hown (hts _ (List.mem_of_getElem? (i := 3) rfl)) (hts _ (List.mem_of_getElem? (i := 4) rfl)) (hts _ (List.mem_of_getElem? (i := 5) rfl)) (hts _ (List.mem_of_getElem? (i := 6) rfl)) hK.1 hP hD hS 1 4 0 0 rfl rfl rfl rfl rfl hc5 rfl rfl rfl rfl (Nat.le_of_ble_eq_true rfl) (Nat.le_of_ble_eq_true rfl) (zD_g DX2_giveBack 35 rfl) (fun H locs hP hD hS => ?_)
  refine lv_aload_n hx hb (zD_g DX2_giveBack 36 rfl) rfl (lv_at hl 1 rfl) ?_
  refine va_get (D := D) (ci := 1) (v := .ref (q 1)) (C := RX2) (T := TX2) (N := 2) hx hb hts in2_giveBack_2 hown hK.1 hP 0 rfl rfl 1 (by decide) (hts _ (List.mem_of_getElem? (i := 2) rfl)) (fun _ h9 => h9) rfl (zD_g DX2_giveBack 37 rfl) ?_
  refine lv_iload hx hb (zD_g DX2_giveBack 38 rfl) (lv_at hl 0 rfl) ?_
  refine lv_bipush (v := (16 : Int32)) hx hb (zD_g DX2_giveBack 39 rfl) (by decide) ?_
  refine lv_iadd hx hb (zD_g DX2_giveBack 40 rfl) ?_
  obtain ⟨h6, hf⟩ := zg_s hf
  refine z_iald (k := (x2 + (16 : Int32)).toNatClampNeg) hx hb hK.1 hP 1 0 rfl rfl h6 rfl (zD_g DX2_giveBack 41 rfl) ?_
  refine lv_topi (fun x7 ex7 => ?_)
  replace hf := zl_s hf x7 ex7
  cases hf
  exact hret _ _ _ _ hP hD hS (zD_g DX2_giveBack 42 rfl)
abbrev dlX4_goBack : List (Nat × Instr × Nat) := [(0, .aload_n 0, 1), (1, .getfield 60, 3), (4, .getfield 87, 3), (7, .ifCond .gt 6, 3), (10, .bipush (-3), 2), (12, .ireturn, 1), (13, .aload_n 0, 1), (14, .aload_n 0, 1), (15, .getfield 60, 3), (18, .aload_n 0, 1), (19, .getfield 30, 3), (22, .aload_n 0, 1), (23, .getfield 24, 3), (26, .aload_n 0, 1), (27, .getfield 51, 3), (30, .invokevirtual 140, 3), (33, .putfield 74, 3), (36, .iconst 1, 1), (37, .ireturn, 1)]
theorem DX4_goBack : zD cX4_goBack dlX4_goBack = true := by decide +kernel
set_option maxRecDepth 20000 in
theorem ggX4_goBack_X2_giveBack : GoodIn wsX4_goBack wsX2_giveBack := goodIn_r _ [11, 12, 13, 14, 15, 16, 17, 37, 38] (by decide +kernel) (by decide +kernel)
set_option maxRecDepth 20000 in
theorem gX4_goBack_X2_giveBack : GoodIn wsX4_goBack (wsV RX4 140 RX2 yX2_giveBack wsX2_giveBack) := goodIn_app (goodIn_of _ (by decide +kernel)) ggX4_goBack_X2_giveBack
theorem hd4_goBack : yX4_goBack.cls = RX4 ∧ yX4_goBack.cls ≠ "java/lang/invoke/MethodHandle" ∧ yX4_goBack.cls ≠ "java/lang/invoke/VarHandle" ∧ (parseMethodDescriptor yX4_goBack.desc).map (fun d => d.parameters.length) = some 0 := by decide +kernel
abbrev rm4_goBack : Room := { frames := 2, cells := 0, slots := 0, locals := 84 }
theorem in4_goBack_2 : ∀ w ∈ wsX20, w ∈ wsX4_goBack := fun w h => List.mem_cons_of_mem _ (List.mem_append_right _ h)
theorem in4_goBack_4 : ∀ w ∈ wsX40, w ∈ wsX4_goBack := fun w h => List.mem_cons_of_mem _ (List.mem_append_left _ (List.mem_append_right _ h))
set_option maxHeartbeats 4000000 in
set_option maxRecDepth 100000 in
theorem c4_goBack {l : Launch} {D : va_G} {cI cZ cB : ClassId} {q : Nat → Nat} {sz : Nat} {things : Int32} {gifts : Int32} {days : Int32} {size : Nat → Int32} {weight : Nat → Int32} {sound : Nat → Int32} {harm : Nat → Int32} {in_ : Nat → Int32} {kind : Nat → Int32} {owner : Nat → Int32} {empty : Nat → Int32} {room : Nat → Int32} {told : Nat → Int32} {gate : Nat → Int32} {ear : Nat → Int32} {scale : Nat → Int32} {lost : Nat → Int32} {watch : Nat → Int32} {moments : Int32} {kept : Nat → Int32}  {r : Int32} {d_days : Int32} {d_in_ : Nat → Int32} {d_owner : Nat → Int32} {d_lost : Nat → Int32} {d_moments : Int32} (hf : f4_goBack days in_ owner lost moments kept = some (r, d_days, d_in_, d_owner, d_lost, d_moments)) : Met l yX4_goBack wsX4_goBack rm4_goBack (zPm D cI cZ cB [.ref (q 0)] sz (cWar cI q things gifts days size weight sound harm in_ kind owner empty room told gate ear scale lost watch moments kept)) (zQm D (some (.int r)) (cWar cI q things gifts d_days size weight sound harm d_in_ kind d_owner empty room told gate ear scale d_lost watch d_moments kept) (va_A (cWar cI q things gifts days size weight sound harm in_ kind owner empty room told gate ear scale lost watch moments kept) sz)) 0 0 (va_A (cWar cI q things gifts days size weight sound harm in_ kind owner empty room told gate ear scale lost watch moments kept) sz) := by
  unfold f4_goBack at hf
  refine z_mutI RX4 (by decide +kernel) rfl rfl (Nat.le_of_ble_eq_true rfl) ?_
  intro p e s m args below meth c Q A ls hx hb hml hown hts hK hP hD hS hA hret hl
  have hl : lv_has ls 1 [(0, .ref (q 0))] := hl
  refine lv_aload_n hx hb (zD_g DX4_goBack 0 rfl) rfl (lv_at hl 0 rfl) ?_
  refine va_get (D := D) (ci := 3) (v := .ref (q 16)) (C := RX4) (T := TX4) (N := 19) hx hb hts in4_goBack_4 hown hK.1 hP 0 rfl rfl 18 (by decide) (hts _ (List.mem_of_getElem? (i := 1) rfl)) (fun _ h9 => h9) rfl (zD_g DX4_goBack 1 rfl) ?_
  refine va_get (D := D) (ci := 1) (v := .int moments) (C := RX2) (T := TX2) (N := 2) hx hb hts in4_goBack_2 hown hK.1 hP 16 rfl rfl 0 (by decide) (hts _ (List.mem_of_getElem? (i := 2) rfl)) (fun _ h9 => h9) rfl (zD_g DX4_goBack 2 rfl) ?_
  refine lv_if_gt (tgt := 13) hx hb (zD_g DX4_goBack 3 rfl) (by decide) (fun c1 => ?_) (fun c1 => ?_)
  · replace hf := z_t c1 hf
    refine lv_aload_n hx hb (zD_g DX4_goBack 6 rfl) rfl (lv_at hl 0 rfl) ?_
    refine lv_aload_n hx hb (zD_g DX4_goBack 7 rfl) rfl (lv_at hl 0 rfl) ?_
    refine va_get (D := D) (ci := 3) (v := .ref (q 16)) (C := RX4) (T := TX4) (N := 19) hx hb hts in4_goBack_4 hown hK.1 hP 0 rfl rfl 18 (by decide) (hts _ (List.mem_of_getElem? (i := 1) rfl)) (fun _ h9 => h9) rfl (zD_g DX4_goBack 8 rfl) ?_
    refine lv_aload_n hx hb (zD_g DX4_goBack 9 rfl) rfl (lv_at hl 0 rfl) ?_
    refine va_get (D := D) (ci := 3) (v := .ref (q 7)) (C := RX4) (T := TX4) (N := 19) hx hb hts in4_goBack_4 hown hK.1 hP 0 rfl rfl 9 (by decide) (hts _ (List.mem_of_getElem? (i := 3) rfl)) (fun _ h9 => h9) rfl (zD_g DX4_goBack 10 rfl) ?_
    refine lv_aload_n hx hb (zD_g DX4_goBack 11 rfl) rfl (lv_at hl 0 rfl) ?_
    refine va_get (D := D) (ci := 3) (v := .ref (q 5)) (C := RX4) (T := TX4) (N := 19) hx hb hts in4_goBack_4 hown hK.1 hP 0 rfl rfl 7 (by decide) (hts _ (List.mem_of_getElem? (i := 4) rfl)) (fun _ h9 => h9) rfl (zD_g DX4_goBack 12 rfl) ?_
    refine lv_aload_n hx hb (zD_g DX4_goBack 13 rfl) rfl (lv_at hl 0 rfl) ?_
    refine va_get (D := D) (ci := 3) (v := .ref (q 14)) (C := RX4) (T := TX4) (N := 19) hx hb hts in4_goBack_4 hown hK.1 hP 0 rfl rfl 16 (by decide) (hts _ (List.mem_of_getElem? (i := 5) rfl)) (fun _ h9 => h9) rfl (zD_g DX4_goBack 14 rfl) ?_
    obtain ⟨r2, moments_3, owner_4, in_5, lost_6, hc7, hf⟩ := zb5_s hf
    refine z_Vm (As := [.ref (q 7), .ref (q 5), .ref (q 14)]) (rest := [.ref (q 0)]) (ws' := (cWar cI q things gifts days size weight sound harm in_5 kind owner_4 empty room told gate ear scale lost_6 watch moments_3 kept)) ⟨hx, hb, hml, hown, hts⟩ hK (c2_giveBack (moments := moments) (kept := kept) (q := fun j => q (16 + j)) (p_owner := owner) (ar0 := (q 7)) (p_in := in_) (ar1 := (q 5)) (p_lost := lost) (ar2 := (q 14)) hc7) (cwV 3 hts gX4_goBack_X2_giveBack rfl rfl rfl hd2_giveBack ⟨Nat.le_of_ble_eq_true rfl, Nat.le_of_ble_eq_true rfl⟩) hP hD hS hA 18 [16, 17, 7, 5, 14] [0, 1, 2, 3, 4, 6, 8, 9, 10, 11, 12, 13, 15] [0, 1, 2, 3, 4, 16, 5, 15, 6, 7, 8, 9, 10, 11, 17, 12, 13, 14] (by decide +kernel) rfl rfl rfl rfl rfl rfl rfl hl.1 rfl rfl (Nat.le_of_ble_eq_true rfl) (zD_g DX4_goBack 15 rfl) ⟨Nat.zero_le _, Nat.zero_le _⟩ (fun H locs hP hD hS => ?_)
    refine z_put (D := D) (ci := 3) (v := .int r2) (ty := .int) (C := RX4) (T := TX4) (N := 19) (ws' := (cWar cI q things gifts r2 size weight sound harm in_5 kind owner_4 empty room told gate ear scale lost_6 watch moments_3 kept)) hx hb hts in4_goBack_4 tyX4 tyX4_ok nmX4 hown hK.1 hP hD hS 0 rfl rfl 2 (by decide) (hts _ (List.mem_of_getElem? (i := 6) rfl)) (fun _ h9 => h9) rfl (tyX4_ok 2 (by decide)) rfl rfl (Nat.le_of_ble_eq_true rfl) rfl (zD_g DX4_goBack 16 rfl) (fun H locs hP hD hS => ?_)
    refine lv_iconst (v := (1 : Int32)) hx hb (zD_g DX4_goBack 17 rfl) (by decide) ?_
    cases hf
    exact hret _ _ _ _ hP hD hS (zD_g DX4_goBack 18 rfl)
  · replace hf := z_f c1 hf
    refine lv_bipush (v := (-3 : Int32)) hx hb (zD_g DX4_goBack 4 rfl) (by decide) ?_
    cases hf
    exact hret _ _ _ _ hP hD hS (zD_g DX4_goBack 5 rfl)
abbrev dlX4_giftsOf : List (Nat × Instr × Nat) := [(0, .iconst 0, 1), (1, .istore_n 2, 1), (2, .iconst 0, 1), (3, .istore_n 3, 1), (4, .iload_n 3, 1), (5, .aload_n 0, 1), (6, .getfield 71, 3), (9, .if_icmp .ge 25, 3), (12, .aload_n 0, 1), (13, .getfield 30, 3), (16, .iload_n 3, 1), (17, .iaload, 1), (18, .iload_n 1, 1), (19, .if_icmp .ne 9, 3), (22, .iload_n 2, 1), (23, .iconst 1, 1), (24, .iload_n 3, 1), (25, .ishl, 1), (26, .ior, 1), (27, .istore_n 2, 1), (28, .iinc 3 1, 3), (31, .goto (-27), 3), (34, .iload_n 2, 1), (35, .ireturn, 1)]
theorem DX4_giftsOf : zD cX4_giftsOf dlX4_giftsOf = true := by decide +kernel
theorem hd4_giftsOf : yX4_giftsOf.cls = RX4 ∧ yX4_giftsOf.cls ≠ "java/lang/invoke/MethodHandle" ∧ yX4_giftsOf.cls ≠ "java/lang/invoke/VarHandle" ∧ (parseMethodDescriptor yX4_giftsOf.desc).map (fun d => d.parameters.length) = some 1 := by decide +kernel
abbrev rm4_giftsOf : Room := { frames := 0, cells := 0, slots := 0, locals := 0 }
theorem in4_giftsOf_4 : ∀ w ∈ wsX40, w ∈ wsX4_giftsOf := fun w h => List.mem_cons_of_mem _ (List.mem_append_right _ h)
set_option maxHeartbeats 4000000 in
set_option maxRecDepth 100000 in
theorem c4_giftsOf {l : Launch} {D : va_G} {cI cZ cB : ClassId} {q : Nat → Nat} {things : Int32} {gifts : Int32} {days : Int32} {size : Nat → Int32} {weight : Nat → Int32} {sound : Nat → Int32} {harm : Nat → Int32} {in_ : Nat → Int32} {kind : Nat → Int32} {owner : Nat → Int32} {empty : Nat → Int32} {room : Nat → Int32} {told : Nat → Int32} {gate : Nat → Int32} {ear : Nat → Int32} {scale : Nat → Int32} {lost : Nat → Int32} {watch : Nat → Int32} {moments : Int32} {kept : Nat → Int32} {a_city : Int32} {r : Int32}  (hf : f4_giftsOf gifts owner a_city = some r) : Met l yX4_giftsOf wsX4_giftsOf rm4_giftsOf (zPp D cI cZ cB [.ref (q 0), .int a_city] (cWar cI q things gifts days size weight sound harm in_ kind owner empty room told gate ear scale lost watch moments kept)) (zQp (some (.int r))) 0 0 (fun _ => False) := by
  unfold f4_giftsOf at hf
  refine z_pureI RX4 (by decide +kernel) rfl rfl (Nat.le_of_ble_eq_true rfl) ?_
  intro p e s m args below meth c Q ls hx hb hml hown hts hK hP hret hl
  have hl : lv_has ls 4 [(0, .ref (q 0)), (1, .int a_city)] := hl
  refine lv_iconst (v := (0 : Int32)) hx hb (zD_g DX4_giftsOf 0 rfl) (by decide) ?_
  refine lv_istore_n (lv' := [(2, .int (0 : Int32)), (0, .ref (q 0)), (1, .int a_city)]) hx hb (zD_g DX4_giftsOf 1 rfl) rfl hl (by decide) rfl (fun ls hl => ?_)
  refine lv_iconst (v := (0 : Int32)) hx hb (zD_g DX4_giftsOf 2 rfl) (by decide) ?_
  refine lv_istore_n (lv' := [(3, .int (0 : Int32)), (2, .int (0 : Int32)), (0, .ref (q 0)), (1, .int a_city)]) hx hb (zD_g DX4_giftsOf 3 rfl) rfl hl (by decide) rfl (fun ls hl => ?_)
  have hL3 : ∀ (k3 : Int32 → Option (Int32)) (hk3 : ∀ (y8 : Int32), k3 y8 = some r → ∀ (ls : Array Slot), lv_has ls 4 [(2, .int y8)] → W p l e rm4_giftsOf s m args below meth c s.heap [] 0 0 Q (F0 m 34 ls [])) (n3 : Nat) (y1 : Int32) (y2 : Int32), L4_giftsOf_4 k3 gifts owner a_city n3 y1 y2 = some r → ∀ (ls : Array Slot), lv_has ls 4 [(0, .ref (q 0)), (1, .int a_city), (2, .int y1), (3, .int y2)] → W p l e rm4_giftsOf s m args below meth c s.heap [] 0 0 Q (F0 m 4 ls []) := by
    intro k3 hk3 n3
    induction n3 with
    | zero =>
      intro y1 y2 hf
      cases hf
    | succ n3 ih3 =>
      intro y1 y2 hf ls hl
      rw [L4_giftsOf_4] at hf
      refine lv_iload_n hx hb (zD_g DX4_giftsOf 4 rfl) rfl (lv_at hl 3 rfl) ?_
      refine lv_aload_n hx hb (zD_g DX4_giftsOf 5 rfl) rfl (lv_at hl 0 rfl) ?_
      refine va_get (D := D) (ci := 3) (v := .int gifts) (C := RX4) (T := TX4) (N := 19) hx hb hts in4_giftsOf_4 hown hK.1 hP 0 rfl rfl 1 (by decide) (hts _ (List.mem_of_getElem? (i := 1) rfl)) (fun _ h9 => h9) rfl (zD_g DX4_giftsOf 6 rfl) ?_
      refine lv_icmp_ge (tgt := 34) hx hb (zD_g DX4_giftsOf 7 rfl) (by decide) (fun c4 => ?_) (fun c4 => ?_)
      · replace hf := z_t c4 hf
        exact hk3 _ hf ls (lv_sub hl [2] rfl)
      · replace hf := z_f c4 hf
        refine lv_aload_n hx hb (zD_g DX4_giftsOf 8 rfl) rfl (lv_at hl 0 rfl) ?_
        refine va_get (D := D) (ci := 3) (v := .ref (q 7)) (C := RX4) (T := TX4) (N := 19) hx hb hts in4_giftsOf_4 hown hK.1 hP 0 rfl rfl 9 (by decide) (hts _ (List.mem_of_getElem? (i := 2) rfl)) (fun _ h9 => h9) rfl (zD_g DX4_giftsOf 9 rfl) ?_
        refine lv_iload_n hx hb (zD_g DX4_giftsOf 10 rfl) rfl (lv_at hl 3 rfl) ?_
        obtain ⟨h5, hf⟩ := zg_s hf
        refine z_iald (k := y2.toNatClampNeg) hx hb hK.1 hP 7 0 rfl rfl h5 rfl (zD_g DX4_giftsOf 11 rfl) ?_
        refine lv_iload_n hx hb (zD_g DX4_giftsOf 12 rfl) rfl (lv_at hl 1 rfl) ?_
        refine lv_icmp_ne (tgt := 28) hx hb (zD_g DX4_giftsOf 13 rfl) (by decide) (fun c6 => ?_) (fun c6 => ?_)
        · replace hf := z_f c6 hf
          refine lv_iinc (v := y2 + 1) (lv' := [(3, .int (y2 + 1)), (0, .ref (q 0)), (1, .int a_city), (2, .int y1)]) (k := 3) hx hb (zD_g DX4_giftsOf 20 rfl) hl rfl rfl (by decide) rfl (fun ls hl => ?_)
          refine lv_goto (tgt := 4) hx hb (zD_g DX4_giftsOf 21 rfl) (by decide) ?_
          exact ih3 _ _ hf ls (lv_sub hl [1, 2, 3, 0] rfl)
        · replace hf := z_t c6 hf
          refine lv_iload_n hx hb (zD_g DX4_giftsOf 14 rfl) rfl (lv_at hl 2 rfl) ?_
          refine lv_iconst (v := (1 : Int32)) hx hb (zD_g DX4_giftsOf 15 rfl) (by decide) ?_
          refine lv_iload_n hx hb (zD_g DX4_giftsOf 16 rfl) rfl (lv_at hl 3 rfl) ?_
          refine lv_ishl hx hb (zD_g DX4_giftsOf 17 rfl) ?_
          refine lv_ior hx hb (zD_g DX4_giftsOf 18 rfl) ?_
          refine lv_topi (fun x7 ex7 => ?_)
          replace hf := zl_s hf x7 ex7
          refine lv_istore_n (lv' := [(2, .int x7), (0, .ref (q 0)), (1, .int a_city), (3, .int y2)]) hx hb (zD_g DX4_giftsOf 19 rfl) rfl hl (by decide) rfl (fun ls hl => ?_)
          refine lv_iinc (v := y2 + 1) (lv' := [(3, .int (y2 + 1)), (2, .int x7), (0, .ref (q 0)), (1, .int a_city)]) (k := 3) hx hb (zD_g DX4_giftsOf 20 rfl) hl rfl rfl (by decide) rfl (fun ls hl => ?_)
          refine lv_goto (tgt := 4) hx hb (zD_g DX4_giftsOf 21 rfl) (by decide) ?_
          exact ih3 _ _ hf ls (lv_sub hl [2, 3, 1, 0] rfl)
  refine hL3 _ (fun y8 hf ls hl => ?_) _ _ _ hf ls (lv_sub hl [2, 3, 1, 0] rfl)
  refine lv_iload_n hx hb (zD_g DX4_giftsOf 22 rfl) rfl (lv_at hl 0 rfl) ?_
  cases hf
  exact hret _ _ (zD_g DX4_giftsOf 23 rfl)
abbrev dlX4_mayBeIn : List (Nat × Instr × Nat) := [(0, .aload_n 0, 1), (1, .iconst (-1), 1), (2, .invokevirtual 104, 3), (5, .aload_n 0, 1), (6, .iload_n 1, 1), (7, .invokevirtual 104, 3), (10, .ior, 1), (11, .ireturn, 1)]
theorem DX4_mayBeIn : zD cX4_mayBeIn dlX4_mayBeIn = true := by decide +kernel
set_option maxRecDepth 20000 in
theorem ggX4_mayBeIn_X4_inside : GoodIn wsX4_mayBeIn wsX4_inside := goodIn_r _ [5, 6, 7, 8, 9, 10, 11, 12, 13, 14, 15, 16, 17, 18, 19, 20, 21, 22, 23, 24, 25, 26] (by decide +kernel) (by decide +kernel)
set_option maxRecDepth 20000 in
theorem gX4_mayBeIn_X4_inside : GoodIn wsX4_mayBeIn (wsV RX4 104 RX4 yX4_inside wsX4_inside) := goodIn_app (goodIn_of _ (by decide +kernel)) ggX4_mayBeIn_X4_inside
theorem hd4_mayBeIn : yX4_mayBeIn.cls = RX4 ∧ yX4_mayBeIn.cls ≠ "java/lang/invoke/MethodHandle" ∧ yX4_mayBeIn.cls ≠ "java/lang/invoke/VarHandle" ∧ (parseMethodDescriptor yX4_mayBeIn.desc).map (fun d => d.parameters.length) = some 1 := by decide +kernel
abbrev rm4_mayBeIn : Room := { frames := 1, cells := 0, slots := 0, locals := 23 }
set_option maxHeartbeats 4000000 in
set_option maxRecDepth 100000 in
theorem c4_mayBeIn {l : Launch} {D : va_G} {cI cZ cB : ClassId} {q : Nat → Nat} {things : Int32} {gifts : Int32} {days : Int32} {size : Nat → Int32} {weight : Nat → Int32} {sound : Nat → Int32} {harm : Nat → Int32} {in_ : Nat → Int32} {kind : Nat → Int32} {owner : Nat → Int32} {empty : Nat → Int32} {room : Nat → Int32} {told : Nat → Int32} {gate : Nat → Int32} {ear : Nat → Int32} {scale : Nat → Int32} {lost : Nat → Int32} {watch : Nat → Int32} {moments : Int32} {kept : Nat → Int32} {a_gift : Int32} {r : Int32}  (hf : f4_mayBeIn things in_ a_gift = some r) : Met l yX4_mayBeIn wsX4_mayBeIn rm4_mayBeIn (zPp D cI cZ cB [.ref (q 0), .int a_gift] (cWar cI q things gifts days size weight sound harm in_ kind owner empty room told gate ear scale lost watch moments kept)) (zQp (some (.int r))) 0 0 (fun _ => False) := by
  unfold f4_mayBeIn at hf
  refine z_pureI RX4 (by decide +kernel) rfl rfl (Nat.le_of_ble_eq_true rfl) ?_
  intro p e s m args below meth c Q ls hx hb hml hown hts hK hP hret hl
  have hl : lv_has ls 2 [(0, .ref (q 0)), (1, .int a_gift)] := hl
  refine lv_aload_n hx hb (zD_g DX4_mayBeIn 0 rfl) rfl (lv_at hl 0 rfl) ?_
  refine lv_iconst (v := (-1 : Int32)) hx hb (zD_g DX4_mayBeIn 1 rfl) (by decide) ?_
  obtain ⟨r1, hc2, hf⟩ := zb1_s hf
  refine z_Vp (As := [.int (-1 : Int32)]) (rest := []) ⟨hx, hb, hml, hown, hts⟩ hK (c4_inside (things := things) (gifts := gifts) (days := days) (size := size) (weight := weight) (sound := sound) (harm := harm) (in_ := in_) (kind := kind) (owner := owner) (empty := empty) (room := room) (told := told) (gate := gate) (ear := ear) (scale := scale) (lost := lost) (watch := watch) (moments := moments) (kept := kept) (q := q) hc2) (cwV 1 hts gX4_mayBeIn_X4_inside rfl rfl rfl hd4_inside ⟨Nat.le_of_ble_eq_true rfl, Nat.le_of_ble_eq_true rfl⟩) hP rfl rfl rfl rfl hl.1 rfl rfl (Nat.le_of_ble_eq_true rfl) (zD_g DX4_mayBeIn 2 rfl) ⟨Nat.zero_le _, Nat.zero_le _⟩ ?_
  refine lv_aload_n hx hb (zD_g DX4_mayBeIn 3 rfl) rfl (lv_at hl 0 rfl) ?_
  refine lv_iload_n hx hb (zD_g DX4_mayBeIn 4 rfl) rfl (lv_at hl 1 rfl) ?_
  obtain ⟨r3, hc4, hf⟩ := zb1_s hf
  refine z_Vp (As := [.int a_gift]) (rest := [.int r1]) ⟨hx, hb, hml, hown, hts⟩ hK (c4_inside (things := things) (gifts := gifts) (days := days) (size := size) (weight := weight) (sound := sound) (harm := harm) (in_ := in_) (kind := kind) (owner := owner) (empty := empty) (room := room) (told := told) (gate := gate) (ear := ear) (scale := scale) (lost := lost) (watch := watch) (moments := moments) (kept := kept) (q := q) hc4) (cwV 1 hts gX4_mayBeIn_X4_inside rfl rfl rfl hd4_inside ⟨Nat.le_of_ble_eq_true rfl, Nat.le_of_ble_eq_true rfl⟩) hP rfl rfl rfl rfl hl.1 rfl rfl (Nat.le_of_ble_eq_true rfl) (zD_g DX4_mayBeIn 5 rfl) ⟨Nat.zero_le _, Nat.zero_le _⟩ ?_
  refine lv_ior hx hb (zD_g DX4_mayBeIn 6 rfl) ?_
  refine lv_topi (fun x5 ex5 => ?_)
  replace hf := zl_s hf x5 ex5
  cases hf
  exact hret _ _ (zD_g DX4_mayBeIn 7 rfl)
abbrev dlX4_thingsInGifts : List (Nat × Instr × Nat) := [(0, .aload_n 0, 1), (1, .getfield 67, 3), (4, .aload_n 0, 1), (5, .iconst (-1), 1), (6, .invokevirtual 104, 3), (9, .invokestatic 144, 3), (12, .isub, 1), (13, .ireturn, 1)]
theorem DX4_thingsInGifts : zD cX4_thingsInGifts dlX4_thingsInGifts = true := by decide +kernel
set_option maxRecDepth 20000 in
theorem ggX4_thingsInGifts_X4_inside : GoodIn wsX4_thingsInGifts wsX4_inside := goodIn_r _ [6, 1, 7, 15, 16, 17, 18, 19, 20, 21, 22, 23, 24, 25, 26, 27, 28, 29, 30, 31, 32, 33] (by decide +kernel) (by decide +kernel)
set_option maxRecDepth 20000 in
theorem gX4_thingsInGifts_X4_inside : GoodIn wsX4_thingsInGifts (wsV RX4 104 RX4 yX4_inside wsX4_inside) := goodIn_app (goodIn_of _ (by decide +kernel)) ggX4_thingsInGifts_X4_inside
set_option maxRecDepth 20000 in
theorem ggX4_thingsInGifts_J6_bitCount_0f7a4 : GoodIn wsX4_thingsInGifts wsJ6_bitCount_0f7a4 := goodIn_r _ [11, 12, 13, 14] (by decide +kernel) (by decide +kernel)
set_option maxRecDepth 20000 in
theorem gX4_thingsInGifts_J6_bitCount_0f7a4 : GoodIn wsX4_thingsInGifts (va_wsS RX4 144 yJ6_bitCount_0f7a4 wsJ6_bitCount_0f7a4) := goodIn_app (goodIn_of _ (by decide +kernel)) ggX4_thingsInGifts_J6_bitCount_0f7a4
theorem hd4_thingsInGifts : yX4_thingsInGifts.cls = RX4 ∧ yX4_thingsInGifts.cls ≠ "java/lang/invoke/MethodHandle" ∧ yX4_thingsInGifts.cls ≠ "java/lang/invoke/VarHandle" ∧ (parseMethodDescriptor yX4_thingsInGifts.desc).map (fun d => d.parameters.length) = some 0 := by decide +kernel
abbrev rm4_thingsInGifts : Room := { frames := 1, cells := 0, slots := 0, locals := 23 }
theorem in4_thingsInGifts_4 : ∀ w ∈ wsX40, w ∈ wsX4_thingsInGifts := fun w h => List.mem_cons_of_mem _ (List.mem_append_right _ h)
set_option maxHeartbeats 4000000 in
set_option maxRecDepth 100000 in
theorem c4_thingsInGifts {l : Launch} {D : va_G} {cI cZ cB : ClassId} {q : Nat → Nat} {things : Int32} {gifts : Int32} {days : Int32} {size : Nat → Int32} {weight : Nat → Int32} {sound : Nat → Int32} {harm : Nat → Int32} {in_ : Nat → Int32} {kind : Nat → Int32} {owner : Nat → Int32} {empty : Nat → Int32} {room : Nat → Int32} {told : Nat → Int32} {gate : Nat → Int32} {ear : Nat → Int32} {scale : Nat → Int32} {lost : Nat → Int32} {watch : Nat → Int32} {moments : Int32} {kept : Nat → Int32}  {r : Int32}  (hf : f4_thingsInGifts things in_ = some r) : Met l yX4_thingsInGifts wsX4_thingsInGifts rm4_thingsInGifts (zPp D cI cZ cB [.ref (q 0)] (cWar cI q things gifts days size weight sound harm in_ kind owner empty room told gate ear scale lost watch moments kept)) (zQp (some (.int r))) 0 0 (fun _ => False) := by
  unfold f4_thingsInGifts at hf
  refine z_pureI RX4 (by decide +kernel) rfl rfl (Nat.le_of_ble_eq_true rfl) ?_
  intro p e s m args below meth c Q ls hx hb hml hown hts hK hP hret hl
  have hl : lv_has ls 1 [(0, .ref (q 0))] := hl
  refine lv_aload_n hx hb (zD_g DX4_thingsInGifts 0 rfl) rfl (lv_at hl 0 rfl) ?_
  refine va_get (D := D) (ci := 3) (v := .int things) (C := RX4) (T := TX4) (N := 19) hx hb hts in4_thingsInGifts_4 hown hK.1 hP 0 rfl rfl 0 (by decide) (hts _ (List.mem_of_getElem? (i := 1) rfl)) (fun _ h9 => h9) rfl (zD_g DX4_thingsInGifts 1 rfl) ?_
  refine lv_aload_n hx hb (zD_g DX4_thingsInGifts 2 rfl) rfl (lv_at hl 0 rfl) ?_
  refine lv_iconst (v := (-1 : Int32)) hx hb (zD_g DX4_thingsInGifts 3 rfl) (by decide) ?_
  obtain ⟨r1, hc2, hf⟩ := zb1_s hf
  refine z_Vp (As := [.int (-1 : Int32)]) (rest := [.int things]) ⟨hx, hb, hml, hown, hts⟩ hK (c4_inside (things := things) (gifts := gifts) (days := days) (size := size) (weight := weight) (sound := sound) (harm := harm) (in_ := in_) (kind := kind) (owner := owner) (empty := empty) (room := room) (told := told) (gate := gate) (ear := ear) (scale := scale) (lost := lost) (watch := watch) (moments := moments) (kept := kept) (q := q) hc2) (cwV 1 hts gX4_thingsInGifts_X4_inside rfl rfl rfl hd4_inside ⟨Nat.le_of_ble_eq_true rfl, Nat.le_of_ble_eq_true rfl⟩) hP rfl rfl rfl rfl hl.1 rfl rfl (Nat.le_of_ble_eq_true rfl) (zD_g DX4_thingsInGifts 4 rfl) ⟨Nat.zero_le _, Nat.zero_le _⟩ ?_
  obtain ⟨r4, hc4, hf⟩ := zb1_s hf
  refine z_Sp (As := [.int r1]) (rest := [.int things]) ⟨hx, hb, hml, hown, hts⟩ hK (c6_bitCount_0f7a4 hc4) (va_cwS 1 hts gX4_thingsInGifts_J6_bitCount_0f7a4 rfl rfl rfl hd6_bitCount_0f7a4 ⟨Nat.le_of_ble_eq_true rfl, Nat.le_of_ble_eq_true rfl⟩) (hP.sub [] rfl) rfl hl.1 rfl rfl (Nat.le_of_ble_eq_true rfl) (zD_g DX4_thingsInGifts 5 rfl) ⟨Nat.zero_le _, Nat.zero_le _⟩ ?_
  refine lv_isub hx hb (zD_g DX4_thingsInGifts 6 rfl) ?_
  refine lv_topi (fun x6 ex6 => ?_)
  replace hf := zl_s hf x6 ex6
  cases hf
  exact hret _ _ (zD_g DX4_thingsInGifts 7 rfl)
abbrev dlX4_digestThings : List (Nat × Instr × Nat) := [(0, .lload_n 1, 1), (1, .lstore_n 3, 1), (2, .iconst 0, 1), (3, .istore 5, 2), (5, .iload 5, 2), (7, .aload_n 0, 1), (8, .getfield 67, 3), (11, .if_icmp .ge 84, 3), (14, .ldc2_w 180, 3), (17, .lload_n 3, 1), (18, .lmul, 1), (19, .aload_n 0, 1), (20, .getfield 9, 3), (23, .iload 5, 2), (25, .iaload, 1), (26, .i2l, 1), (27, .ladd, 1), (28, .lstore_n 3, 1), (29, .ldc2_w 180, 3), (32, .lload_n 3, 1), (33, .lmul, 1), (34, .aload_n 0, 1), (35, .getfield 15, 3), (38, .iload 5, 2), (40, .iaload, 1), (41, .i2l, 1), (42, .ladd, 1), (43, .lstore_n 3, 1), (44, .ldc2_w 180, 3), (47, .lload_n 3, 1), (48, .lmul, 1), (49, .aload_n 0, 1), (50, .getfield 18, 3), (53, .iload 5, 2), (55, .iaload, 1), (56, .i2l, 1), (57, .ladd, 1), (58, .lstore_n 3, 1), (59, .ldc2_w 180, 3), (62, .lload_n 3, 1), (63, .lmul, 1), (64, .aload_n 0, 1), (65, .getfield 21, 3), (68, .iload 5, 2), (70, .iaload, 1), (71, .i2l, 1), (72, .ladd, 1), (73, .lstore_n 3, 1), (74, .ldc2_w 180, 3), (77, .lload_n 3, 1), (78, .lmul, 1), (79, .aload_n 0, 1), (80, .getfield 24, 3), (83, .iload 5, 2), (85, .iaload, 1), (86, .i2l, 1), (87, .ladd, 1), (88, .lstore_n 3, 1), (89, .iinc 5 1, 3), (92, .goto (-87), 3), (95, .lload_n 3, 1), (96, .lreturn, 1)]
theorem DX4_digestThings : zD cX4_digestThings dlX4_digestThings = true := by decide +kernel
theorem hd4_digestThings : yX4_digestThings.cls = RX4 ∧ yX4_digestThings.cls ≠ "java/lang/invoke/MethodHandle" ∧ yX4_digestThings.cls ≠ "java/lang/invoke/VarHandle" ∧ (parseMethodDescriptor yX4_digestThings.desc).map (fun d => d.parameters.length) = some 1 := by decide +kernel
abbrev rm4_digestThings : Room := { frames := 0, cells := 0, slots := 0, locals := 0 }
theorem in4_digestThings_4 : ∀ w ∈ wsX40, w ∈ wsX4_digestThings := fun w h => List.mem_cons_of_mem _ (List.mem_append_right _ h)
set_option maxHeartbeats 4000000 in
set_option maxRecDepth 100000 in
theorem c4_digestThings {l : Launch} {D : va_G} {cI cZ cB : ClassId} {q : Nat → Nat} {things : Int32} {gifts : Int32} {days : Int32} {size : Nat → Int32} {weight : Nat → Int32} {sound : Nat → Int32} {harm : Nat → Int32} {in_ : Nat → Int32} {kind : Nat → Int32} {owner : Nat → Int32} {empty : Nat → Int32} {room : Nat → Int32} {told : Nat → Int32} {gate : Nat → Int32} {ear : Nat → Int32} {scale : Nat → Int32} {lost : Nat → Int32} {watch : Nat → Int32} {moments : Int32} {kept : Nat → Int32} {a_before : Int64} {r : Int64}  (hf : f4_digestThings things size weight sound harm in_ a_before = some r) : Met l yX4_digestThings wsX4_digestThings rm4_digestThings (zPp D cI cZ cB [.ref (q 0), .long a_before] (cWar cI q things gifts days size weight sound harm in_ kind owner empty room told gate ear scale lost watch moments kept)) (zQp (some (.long r))) 0 0 (fun _ => False) := by
  unfold f4_digestThings at hf
  refine z_pureL RX4 (by decide +kernel) rfl rfl (Nat.le_of_ble_eq_true rfl) ?_
  intro p e s m args below meth c Q ls hx hb hml hown hts hK hP hret hl
  have hl : lv_has ls 6 [(0, .ref (q 0)), (1, .long a_before)] := hl
  refine lv_lload_n hx hb (zD_g DX4_digestThings 0 rfl) rfl (lv_at hl 1 rfl) ?_
  refine lv_lstore_n (lv' := [(3, .long a_before), (0, .ref (q 0)), (1, .long a_before)]) hx hb (zD_g DX4_digestThings 1 rfl) rfl hl (by decide) rfl (fun ls hl => ?_)
  refine lv_iconst (v := (0 : Int32)) hx hb (zD_g DX4_digestThings 2 rfl) (by decide) ?_
  refine lv_istore (lv' := [(5, .int (0 : Int32)), (3, .long a_before), (0, .ref (q 0)), (1, .long a_before)]) hx hb (zD_g DX4_digestThings 3 rfl) hl (by decide) rfl (fun ls hl => ?_)
  have hL3 : ∀ (k3 : Int64 → Option (Int64)) (hk3 : ∀ (y15 : Int64), k3 y15 = some r → ∀ (ls : Array Slot), lv_has ls 6 [(3, .long y15)] → W p l e rm4_digestThings s m args below meth c s.heap [] 0 0 Q (F0 m 95 ls [])) (n3 : Nat) (y1 : Int64) (y2 : Int32), L4_digestThings_5 k3 things size weight sound harm in_ n3 y1 y2 = some r → ∀ (ls : Array Slot), lv_has ls 6 [(0, .ref (q 0)), (3, .long y1), (5, .int y2)] → W p l e rm4_digestThings s m args below meth c s.heap [] 0 0 Q (F0 m 5 ls []) := by
    intro k3 hk3 n3
    induction n3 with
    | zero =>
      intro y1 y2 hf
      cases hf
    | succ n3 ih3 =>
      intro y1 y2 hf ls hl
      rw [L4_digestThings_5] at hf
      refine lv_iload hx hb (zD_g DX4_digestThings 4 rfl) (lv_at hl 2 rfl) ?_
      refine lv_aload_n hx hb (zD_g DX4_digestThings 5 rfl) rfl (lv_at hl 0 rfl) ?_
      refine va_get (D := D) (ci := 3) (v := .int things) (C := RX4) (T := TX4) (N := 19) hx hb hts in4_digestThings_4 hown hK.1 hP 0 rfl rfl 0 (by decide) (hts _ (List.mem_of_getElem? (i := 1) rfl)) (fun _ h9 => h9) rfl (zD_g DX4_digestThings 6 rfl) ?_
      refine lv_icmp_ge (tgt := 95) hx hb (zD_g DX4_digestThings 7 rfl) (by decide) (fun c4 => ?_) (fun c4 => ?_)
      · replace hf := z_t c4 hf
        exact hk3 _ hf ls (lv_sub hl [1] rfl)
      · replace hf := z_f c4 hf
        refine lv_ldc2 (v := (31 : Int64)) hx hb hown (hts _ (List.mem_of_getElem? (i := 2) rfl)) (zD_g DX4_digestThings 8 rfl) ?_
        refine lv_lload_n hx hb (zD_g DX4_digestThings 9 rfl) rfl (lv_at hl 1 rfl) ?_
        refine lv_lmul hx hb (zD_g DX4_digestThings 10 rfl) ?_
        refine lv_aload_n hx hb (zD_g DX4_digestThings 11 rfl) rfl (lv_at hl 0 rfl) ?_
        refine va_get (D := D) (ci := 3) (v := .ref (q 1)) (C := RX4) (T := TX4) (N := 19) hx hb hts in4_digestThings_4 hown hK.1 hP 0 rfl rfl 3 (by decide) (hts _ (List.mem_of_getElem? (i := 3) rfl)) (fun _ h9 => h9) rfl (zD_g DX4_digestThings 12 rfl) ?_
        refine lv_iload hx hb (zD_g DX4_digestThings 13 rfl) (lv_at hl 2 rfl) ?_
        obtain ⟨h5, hf⟩ := zg_s hf
        refine z_iald (k := y2.toNatClampNeg) hx hb hK.1 hP 1 0 rfl rfl h5 rfl (zD_g DX4_digestThings 14 rfl) ?_
        refine lv_i2l (v := ((size y2.toNatClampNeg)).toInt64) hx hb (zD_g DX4_digestThings 15 rfl) rfl ?_
        refine lv_ladd hx hb (zD_g DX4_digestThings 16 rfl) ?_
        refine lv_topl (fun x6 ex6 => ?_)
        replace hf := zl_s hf x6 ex6
        refine lv_lstore_n (lv' := [(3, .long x6), (0, .ref (q 0)), (5, .int y2)]) hx hb (zD_g DX4_digestThings 17 rfl) rfl hl (by decide) rfl (fun ls hl => ?_)
        refine lv_ldc2 (v := (31 : Int64)) hx hb hown (hts _ (List.mem_of_getElem? (i := 2) rfl)) (zD_g DX4_digestThings 18 rfl) ?_
        refine lv_lload_n hx hb (zD_g DX4_digestThings 19 rfl) rfl (lv_at hl 0 rfl) ?_
        refine lv_lmul hx hb (zD_g DX4_digestThings 20 rfl) ?_
        refine lv_aload_n hx hb (zD_g DX4_digestThings 21 rfl) rfl (lv_at hl 1 rfl) ?_
        refine va_get (D := D) (ci := 3) (v := .ref (q 2)) (C := RX4) (T := TX4) (N := 19) hx hb hts in4_digestThings_4 hown hK.1 hP 0 rfl rfl 4 (by decide) (hts _ (List.mem_of_getElem? (i := 4) rfl)) (fun _ h9 => h9) rfl (zD_g DX4_digestThings 22 rfl) ?_
        refine lv_iload hx hb (zD_g DX4_digestThings 23 rfl) (lv_at hl 2 rfl) ?_
        obtain ⟨h7, hf⟩ := zg_s hf
        refine z_iald (k := y2.toNatClampNeg) hx hb hK.1 hP 2 0 rfl rfl h7 rfl (zD_g DX4_digestThings 24 rfl) ?_
        refine lv_i2l (v := ((weight y2.toNatClampNeg)).toInt64) hx hb (zD_g DX4_digestThings 25 rfl) rfl ?_
        refine lv_ladd hx hb (zD_g DX4_digestThings 26 rfl) ?_
        refine lv_topl (fun x8 ex8 => ?_)
        replace hf := zl_s hf x8 ex8
        refine lv_lstore_n (lv' := [(3, .long x8), (0, .ref (q 0)), (5, .int y2)]) hx hb (zD_g DX4_digestThings 27 rfl) rfl hl (by decide) rfl (fun ls hl => ?_)
        refine lv_ldc2 (v := (31 : Int64)) hx hb hown (hts _ (List.mem_of_getElem? (i := 2) rfl)) (zD_g DX4_digestThings 28 rfl) ?_
        refine lv_lload_n hx hb (zD_g DX4_digestThings 29 rfl) rfl (lv_at hl 0 rfl) ?_
        refine lv_lmul hx hb (zD_g DX4_digestThings 30 rfl) ?_
        refine lv_aload_n hx hb (zD_g DX4_digestThings 31 rfl) rfl (lv_at hl 1 rfl) ?_
        refine va_get (D := D) (ci := 3) (v := .ref (q 3)) (C := RX4) (T := TX4) (N := 19) hx hb hts in4_digestThings_4 hown hK.1 hP 0 rfl rfl 5 (by decide) (hts _ (List.mem_of_getElem? (i := 5) rfl)) (fun _ h9 => h9) rfl (zD_g DX4_digestThings 32 rfl) ?_
        refine lv_iload hx hb (zD_g DX4_digestThings 33 rfl) (lv_at hl 2 rfl) ?_
        obtain ⟨h9, hf⟩ := zg_s hf
        refine z_iald (k := y2.toNatClampNeg) hx hb hK.1 hP 3 0 rfl rfl h9 rfl (zD_g DX4_digestThings 34 rfl) ?_
        refine lv_i2l (v := ((sound y2.toNatClampNeg)).toInt64) hx hb (zD_g DX4_digestThings 35 rfl) rfl ?_
        refine lv_ladd hx hb (zD_g DX4_digestThings 36 rfl) ?_
        refine lv_topl (fun x10 ex10 => ?_)
        replace hf := zl_s hf x10 ex10
        refine lv_lstore_n (lv' := [(3, .long x10), (0, .ref (q 0)), (5, .int y2)]) hx hb (zD_g DX4_digestThings 37 rfl) rfl hl (by decide) rfl (fun ls hl => ?_)
        refine lv_ldc2 (v := (31 : Int64)) hx hb hown (hts _ (List.mem_of_getElem? (i := 2) rfl)) (zD_g DX4_digestThings 38 rfl) ?_
        refine lv_lload_n hx hb (zD_g DX4_digestThings 39 rfl) rfl (lv_at hl 0 rfl) ?_
        refine lv_lmul hx hb (zD_g DX4_digestThings 40 rfl) ?_
        refine lv_aload_n hx hb (zD_g DX4_digestThings 41 rfl) rfl (lv_at hl 1 rfl) ?_
        refine va_get (D := D) (ci := 3) (v := .ref (q 4)) (C := RX4) (T := TX4) (N := 19) hx hb hts in4_digestThings_4 hown hK.1 hP 0 rfl rfl 6 (by decide) (hts _ (List.mem_of_getElem? (i := 6) rfl)) (fun _ h9 => h9) rfl (zD_g DX4_digestThings 42 rfl) ?_
        refine lv_iload hx hb (zD_g DX4_digestThings 43 rfl) (lv_at hl 2 rfl) ?_
        obtain ⟨h11, hf⟩ := zg_s hf
        refine z_iald (k := y2.toNatClampNeg) hx hb hK.1 hP 4 0 rfl rfl h11 rfl (zD_g DX4_digestThings 44 rfl) ?_
        refine lv_i2l (v := ((harm y2.toNatClampNeg)).toInt64) hx hb (zD_g DX4_digestThings 45 rfl) rfl ?_
        refine lv_ladd hx hb (zD_g DX4_digestThings 46 rfl) ?_
        refine lv_topl (fun x12 ex12 => ?_)
        replace hf := zl_s hf x12 ex12
        refine lv_lstore_n (lv' := [(3, .long x12), (0, .ref (q 0)), (5, .int y2)]) hx hb (zD_g DX4_digestThings 47 rfl) rfl hl (by decide) rfl (fun ls hl => ?_)
        refine lv_ldc2 (v := (31 : Int64)) hx hb hown (hts _ (List.mem_of_getElem? (i := 2) rfl)) (zD_g DX4_digestThings 48 rfl) ?_
        refine lv_lload_n hx hb (zD_g DX4_digestThings 49 rfl) rfl (lv_at hl 0 rfl) ?_
        refine lv_lmul hx hb (zD_g DX4_digestThings 50 rfl) ?_
        refine lv_aload_n hx hb (zD_g DX4_digestThings 51 rfl) rfl (lv_at hl 1 rfl) ?_
        refine va_get (D := D) (ci := 3) (v := .ref (q 5)) (C := RX4) (T := TX4) (N := 19) hx hb hts in4_digestThings_4 hown hK.1 hP 0 rfl rfl 7 (by decide) (hts _ (List.mem_of_getElem? (i := 7) rfl)) (fun _ h9 => h9) rfl (zD_g DX4_digestThings 52 rfl) ?_
        refine lv_iload hx hb (zD_g DX4_digestThings 53 rfl) (lv_at hl 2 rfl) ?_
        obtain ⟨h13, hf⟩ := zg_s hf
        refine z_iald (k := y2.toNatClampNeg) hx hb hK.1 hP 5 0 rfl rfl h13 rfl (zD_g DX4_digestThings 54 rfl) ?_
        refine lv_i2l (v := ((in_ y2.toNatClampNeg)).toInt64) hx hb (zD_g DX4_digestThings 55 rfl) rfl ?_
        refine lv_ladd hx hb (zD_g DX4_digestThings 56 rfl) ?_
        refine lv_topl (fun x14 ex14 => ?_)
        replace hf := zl_s hf x14 ex14
        refine lv_lstore_n (lv' := [(3, .long x14), (0, .ref (q 0)), (5, .int y2)]) hx hb (zD_g DX4_digestThings 57 rfl) rfl hl (by decide) rfl (fun ls hl => ?_)
        refine lv_iinc (v := y2 + 1) (lv' := [(5, .int (y2 + 1)), (3, .long x14), (0, .ref (q 0))]) (k := 2) hx hb (zD_g DX4_digestThings 58 rfl) hl rfl rfl (by decide) rfl (fun ls hl => ?_)
        refine lv_goto (tgt := 5) hx hb (zD_g DX4_digestThings 59 rfl) (by decide) ?_
        exact ih3 _ _ hf ls (lv_sub hl [2, 1, 0] rfl)
  refine hL3 _ (fun y15 hf ls hl => ?_) _ _ _ hf ls (lv_sub hl [2, 1, 0] rfl)
  refine lv_lload_n hx hb (zD_g DX4_digestThings 60 rfl) rfl (lv_at hl 0 rfl) ?_
  cases hf
  exact hret _ _ (zD_g DX4_digestThings 61 rfl)
abbrev dlX4_digestGifts : List (Nat × Instr × Nat) := [(0, .lload_n 1, 1), (1, .lstore_n 3, 1), (2, .iconst 0, 1), (3, .istore 5, 2), (5, .iload 5, 2), (7, .aload_n 0, 1), (8, .getfield 71, 3), (11, .if_icmp .ge 84, 3), (14, .ldc2_w 180, 3), (17, .lload_n 3, 1), (18, .lmul, 1), (19, .aload_n 0, 1), (20, .getfield 27, 3), (23, .iload 5, 2), (25, .iaload, 1), (26, .i2l, 1), (27, .ladd, 1), (28, .lstore_n 3, 1), (29, .ldc2_w 180, 3), (32, .lload_n 3, 1), (33, .lmul, 1), (34, .aload_n 0, 1), (35, .getfield 30, 3), (38, .iload 5, 2), (40, .iaload, 1), (41, .i2l, 1), (42, .ladd, 1), (43, .lstore_n 3, 1), (44, .ldc2_w 180, 3), (47, .lload_n 3, 1), (48, .lmul, 1), (49, .aload_n 0, 1), (50, .getfield 33, 3), (53, .iload 5, 2), (55, .iaload, 1), (56, .i2l, 1), (57, .ladd, 1), (58, .lstore_n 3, 1), (59, .ldc2_w 180, 3), (62, .lload_n 3, 1), (63, .lmul, 1), (64, .aload_n 0, 1), (65, .getfield 36, 3), (68, .iload 5, 2), (70, .iaload, 1), (71, .i2l, 1), (72, .ladd, 1), (73, .lstore_n 3, 1), (74, .ldc2_w 180, 3), (77, .lload_n 3, 1), (78, .lmul, 1), (79, .aload_n 0, 1), (80, .getfield 39, 3), (83, .iload 5, 2), (85, .iaload, 1), (86, .i2l, 1), (87, .ladd, 1), (88, .lstore_n 3, 1), (89, .iinc 5 1, 3), (92, .goto (-87), 3), (95, .lload_n 3, 1), (96, .lreturn, 1)]
theorem DX4_digestGifts : zD cX4_digestGifts dlX4_digestGifts = true := by decide +kernel
theorem hd4_digestGifts : yX4_digestGifts.cls = RX4 ∧ yX4_digestGifts.cls ≠ "java/lang/invoke/MethodHandle" ∧ yX4_digestGifts.cls ≠ "java/lang/invoke/VarHandle" ∧ (parseMethodDescriptor yX4_digestGifts.desc).map (fun d => d.parameters.length) = some 1 := by decide +kernel
abbrev rm4_digestGifts : Room := { frames := 0, cells := 0, slots := 0, locals := 0 }
theorem in4_digestGifts_4 : ∀ w ∈ wsX40, w ∈ wsX4_digestGifts := fun w h => List.mem_cons_of_mem _ (List.mem_append_right _ h)
set_option maxHeartbeats 4000000 in
set_option maxRecDepth 100000 in
theorem c4_digestGifts {l : Launch} {D : va_G} {cI cZ cB : ClassId} {q : Nat → Nat} {things : Int32} {gifts : Int32} {days : Int32} {size : Nat → Int32} {weight : Nat → Int32} {sound : Nat → Int32} {harm : Nat → Int32} {in_ : Nat → Int32} {kind : Nat → Int32} {owner : Nat → Int32} {empty : Nat → Int32} {room : Nat → Int32} {told : Nat → Int32} {gate : Nat → Int32} {ear : Nat → Int32} {scale : Nat → Int32} {lost : Nat → Int32} {watch : Nat → Int32} {moments : Int32} {kept : Nat → Int32} {a_before : Int64} {r : Int64}  (hf : f4_digestGifts gifts kind owner empty room told a_before = some r) : Met l yX4_digestGifts wsX4_digestGifts rm4_digestGifts (zPp D cI cZ cB [.ref (q 0), .long a_before] (cWar cI q things gifts days size weight sound harm in_ kind owner empty room told gate ear scale lost watch moments kept)) (zQp (some (.long r))) 0 0 (fun _ => False) := by
  unfold f4_digestGifts at hf
  refine z_pureL RX4 (by decide +kernel) rfl rfl (Nat.le_of_ble_eq_true rfl) ?_
  intro p e s m args below meth c Q ls hx hb hml hown hts hK hP hret hl
  have hl : lv_has ls 6 [(0, .ref (q 0)), (1, .long a_before)] := hl
  refine lv_lload_n hx hb (zD_g DX4_digestGifts 0 rfl) rfl (lv_at hl 1 rfl) ?_
  refine lv_lstore_n (lv' := [(3, .long a_before), (0, .ref (q 0)), (1, .long a_before)]) hx hb (zD_g DX4_digestGifts 1 rfl) rfl hl (by decide) rfl (fun ls hl => ?_)
  refine lv_iconst (v := (0 : Int32)) hx hb (zD_g DX4_digestGifts 2 rfl) (by decide) ?_
  refine lv_istore (lv' := [(5, .int (0 : Int32)), (3, .long a_before), (0, .ref (q 0)), (1, .long a_before)]) hx hb (zD_g DX4_digestGifts 3 rfl) hl (by decide) rfl (fun ls hl => ?_)
  have hL3 : ∀ (k3 : Int64 → Option (Int64)) (hk3 : ∀ (y15 : Int64), k3 y15 = some r → ∀ (ls : Array Slot), lv_has ls 6 [(3, .long y15)] → W p l e rm4_digestGifts s m args below meth c s.heap [] 0 0 Q (F0 m 95 ls [])) (n3 : Nat) (y1 : Int64) (y2 : Int32), L4_digestGifts_5 k3 gifts kind owner empty room told n3 y1 y2 = some r → ∀ (ls : Array Slot), lv_has ls 6 [(0, .ref (q 0)), (3, .long y1), (5, .int y2)] → W p l e rm4_digestGifts s m args below meth c s.heap [] 0 0 Q (F0 m 5 ls []) := by
    intro k3 hk3 n3
    induction n3 with
    | zero =>
      intro y1 y2 hf
      cases hf
    | succ n3 ih3 =>
      intro y1 y2 hf ls hl
      rw [L4_digestGifts_5] at hf
      refine lv_iload hx hb (zD_g DX4_digestGifts 4 rfl) (lv_at hl 2 rfl) ?_
      refine lv_aload_n hx hb (zD_g DX4_digestGifts 5 rfl) rfl (lv_at hl 0 rfl) ?_
      refine va_get (D := D) (ci := 3) (v := .int gifts) (C := RX4) (T := TX4) (N := 19) hx hb hts in4_digestGifts_4 hown hK.1 hP 0 rfl rfl 1 (by decide) (hts _ (List.mem_of_getElem? (i := 1) rfl)) (fun _ h9 => h9) rfl (zD_g DX4_digestGifts 6 rfl) ?_
      refine lv_icmp_ge (tgt := 95) hx hb (zD_g DX4_digestGifts 7 rfl) (by decide) (fun c4 => ?_) (fun c4 => ?_)
      · replace hf := z_t c4 hf
        exact hk3 _ hf ls (lv_sub hl [1] rfl)
      · replace hf := z_f c4 hf
        refine lv_ldc2 (v := (31 : Int64)) hx hb hown (hts _ (List.mem_of_getElem? (i := 2) rfl)) (zD_g DX4_digestGifts 8 rfl) ?_
        refine lv_lload_n hx hb (zD_g DX4_digestGifts 9 rfl) rfl (lv_at hl 1 rfl) ?_
        refine lv_lmul hx hb (zD_g DX4_digestGifts 10 rfl) ?_
        refine lv_aload_n hx hb (zD_g DX4_digestGifts 11 rfl) rfl (lv_at hl 0 rfl) ?_
        refine va_get (D := D) (ci := 3) (v := .ref (q 6)) (C := RX4) (T := TX4) (N := 19) hx hb hts in4_digestGifts_4 hown hK.1 hP 0 rfl rfl 8 (by decide) (hts _ (List.mem_of_getElem? (i := 3) rfl)) (fun _ h9 => h9) rfl (zD_g DX4_digestGifts 12 rfl) ?_
        refine lv_iload hx hb (zD_g DX4_digestGifts 13 rfl) (lv_at hl 2 rfl) ?_
        obtain ⟨h5, hf⟩ := zg_s hf
        refine z_iald (k := y2.toNatClampNeg) hx hb hK.1 hP 6 0 rfl rfl h5 rfl (zD_g DX4_digestGifts 14 rfl) ?_
        refine lv_i2l (v := ((kind y2.toNatClampNeg)).toInt64) hx hb (zD_g DX4_digestGifts 15 rfl) rfl ?_
        refine lv_ladd hx hb (zD_g DX4_digestGifts 16 rfl) ?_
        refine lv_topl (fun x6 ex6 => ?_)
        replace hf := zl_s hf x6 ex6
        refine lv_lstore_n (lv' := [(3, .long x6), (0, .ref (q 0)), (5, .int y2)]) hx hb (zD_g DX4_digestGifts 17 rfl) rfl hl (by decide) rfl (fun ls hl => ?_)
        refine lv_ldc2 (v := (31 : Int64)) hx hb hown (hts _ (List.mem_of_getElem? (i := 2) rfl)) (zD_g DX4_digestGifts 18 rfl) ?_
        refine lv_lload_n hx hb (zD_g DX4_digestGifts 19 rfl) rfl (lv_at hl 0 rfl) ?_
        refine lv_lmul hx hb (zD_g DX4_digestGifts 20 rfl) ?_
        refine lv_aload_n hx hb (zD_g DX4_digestGifts 21 rfl) rfl (lv_at hl 1 rfl) ?_
        refine va_get (D := D) (ci := 3) (v := .ref (q 7)) (C := RX4) (T := TX4) (N := 19) hx hb hts in4_digestGifts_4 hown hK.1 hP 0 rfl rfl 9 (by decide) (hts _ (List.mem_of_getElem? (i := 4) rfl)) (fun _ h9 => h9) rfl (zD_g DX4_digestGifts 22 rfl) ?_
        refine lv_iload hx hb (zD_g DX4_digestGifts 23 rfl) (lv_at hl 2 rfl) ?_
        obtain ⟨h7, hf⟩ := zg_s hf
        refine z_iald (k := y2.toNatClampNeg) hx hb hK.1 hP 7 0 rfl rfl h7 rfl (zD_g DX4_digestGifts 24 rfl) ?_
        refine lv_i2l (v := ((owner y2.toNatClampNeg)).toInt64) hx hb (zD_g DX4_digestGifts 25 rfl) rfl ?_
        refine lv_ladd hx hb (zD_g DX4_digestGifts 26 rfl) ?_
        refine lv_topl (fun x8 ex8 => ?_)
        replace hf := zl_s hf x8 ex8
        refine lv_lstore_n (lv' := [(3, .long x8), (0, .ref (q 0)), (5, .int y2)]) hx hb (zD_g DX4_digestGifts 27 rfl) rfl hl (by decide) rfl (fun ls hl => ?_)
        refine lv_ldc2 (v := (31 : Int64)) hx hb hown (hts _ (List.mem_of_getElem? (i := 2) rfl)) (zD_g DX4_digestGifts 28 rfl) ?_
        refine lv_lload_n hx hb (zD_g DX4_digestGifts 29 rfl) rfl (lv_at hl 0 rfl) ?_
        refine lv_lmul hx hb (zD_g DX4_digestGifts 30 rfl) ?_
        refine lv_aload_n hx hb (zD_g DX4_digestGifts 31 rfl) rfl (lv_at hl 1 rfl) ?_
        refine va_get (D := D) (ci := 3) (v := .ref (q 8)) (C := RX4) (T := TX4) (N := 19) hx hb hts in4_digestGifts_4 hown hK.1 hP 0 rfl rfl 10 (by decide) (hts _ (List.mem_of_getElem? (i := 5) rfl)) (fun _ h9 => h9) rfl (zD_g DX4_digestGifts 32 rfl) ?_
        refine lv_iload hx hb (zD_g DX4_digestGifts 33 rfl) (lv_at hl 2 rfl) ?_
        obtain ⟨h9, hf⟩ := zg_s hf
        refine z_iald (k := y2.toNatClampNeg) hx hb hK.1 hP 8 0 rfl rfl h9 rfl (zD_g DX4_digestGifts 34 rfl) ?_
        refine lv_i2l (v := ((empty y2.toNatClampNeg)).toInt64) hx hb (zD_g DX4_digestGifts 35 rfl) rfl ?_
        refine lv_ladd hx hb (zD_g DX4_digestGifts 36 rfl) ?_
        refine lv_topl (fun x10 ex10 => ?_)
        replace hf := zl_s hf x10 ex10
        refine lv_lstore_n (lv' := [(3, .long x10), (0, .ref (q 0)), (5, .int y2)]) hx hb (zD_g DX4_digestGifts 37 rfl) rfl hl (by decide) rfl (fun ls hl => ?_)
        refine lv_ldc2 (v := (31 : Int64)) hx hb hown (hts _ (List.mem_of_getElem? (i := 2) rfl)) (zD_g DX4_digestGifts 38 rfl) ?_
        refine lv_lload_n hx hb (zD_g DX4_digestGifts 39 rfl) rfl (lv_at hl 0 rfl) ?_
        refine lv_lmul hx hb (zD_g DX4_digestGifts 40 rfl) ?_
        refine lv_aload_n hx hb (zD_g DX4_digestGifts 41 rfl) rfl (lv_at hl 1 rfl) ?_
        refine va_get (D := D) (ci := 3) (v := .ref (q 9)) (C := RX4) (T := TX4) (N := 19) hx hb hts in4_digestGifts_4 hown hK.1 hP 0 rfl rfl 11 (by decide) (hts _ (List.mem_of_getElem? (i := 6) rfl)) (fun _ h9 => h9) rfl (zD_g DX4_digestGifts 42 rfl) ?_
        refine lv_iload hx hb (zD_g DX4_digestGifts 43 rfl) (lv_at hl 2 rfl) ?_
        obtain ⟨h11, hf⟩ := zg_s hf
        refine z_iald (k := y2.toNatClampNeg) hx hb hK.1 hP 9 0 rfl rfl h11 rfl (zD_g DX4_digestGifts 44 rfl) ?_
        refine lv_i2l (v := ((room y2.toNatClampNeg)).toInt64) hx hb (zD_g DX4_digestGifts 45 rfl) rfl ?_
        refine lv_ladd hx hb (zD_g DX4_digestGifts 46 rfl) ?_
        refine lv_topl (fun x12 ex12 => ?_)
        replace hf := zl_s hf x12 ex12
        refine lv_lstore_n (lv' := [(3, .long x12), (0, .ref (q 0)), (5, .int y2)]) hx hb (zD_g DX4_digestGifts 47 rfl) rfl hl (by decide) rfl (fun ls hl => ?_)
        refine lv_ldc2 (v := (31 : Int64)) hx hb hown (hts _ (List.mem_of_getElem? (i := 2) rfl)) (zD_g DX4_digestGifts 48 rfl) ?_
        refine lv_lload_n hx hb (zD_g DX4_digestGifts 49 rfl) rfl (lv_at hl 0 rfl) ?_
        refine lv_lmul hx hb (zD_g DX4_digestGifts 50 rfl) ?_
        refine lv_aload_n hx hb (zD_g DX4_digestGifts 51 rfl) rfl (lv_at hl 1 rfl) ?_
        refine va_get (D := D) (ci := 3) (v := .ref (q 10)) (C := RX4) (T := TX4) (N := 19) hx hb hts in4_digestGifts_4 hown hK.1 hP 0 rfl rfl 12 (by decide) (hts _ (List.mem_of_getElem? (i := 7) rfl)) (fun _ h9 => h9) rfl (zD_g DX4_digestGifts 52 rfl) ?_
        refine lv_iload hx hb (zD_g DX4_digestGifts 53 rfl) (lv_at hl 2 rfl) ?_
        obtain ⟨h13, hf⟩ := zg_s hf
        refine z_iald (k := y2.toNatClampNeg) hx hb hK.1 hP 10 0 rfl rfl h13 rfl (zD_g DX4_digestGifts 54 rfl) ?_
        refine lv_i2l (v := ((told y2.toNatClampNeg)).toInt64) hx hb (zD_g DX4_digestGifts 55 rfl) rfl ?_
        refine lv_ladd hx hb (zD_g DX4_digestGifts 56 rfl) ?_
        refine lv_topl (fun x14 ex14 => ?_)
        replace hf := zl_s hf x14 ex14
        refine lv_lstore_n (lv' := [(3, .long x14), (0, .ref (q 0)), (5, .int y2)]) hx hb (zD_g DX4_digestGifts 57 rfl) rfl hl (by decide) rfl (fun ls hl => ?_)
        refine lv_iinc (v := y2 + 1) (lv' := [(5, .int (y2 + 1)), (3, .long x14), (0, .ref (q 0))]) (k := 2) hx hb (zD_g DX4_digestGifts 58 rfl) hl rfl rfl (by decide) rfl (fun ls hl => ?_)
        refine lv_goto (tgt := 5) hx hb (zD_g DX4_digestGifts 59 rfl) (by decide) ?_
        exact ih3 _ _ hf ls (lv_sub hl [2, 1, 0] rfl)
  refine hL3 _ (fun y15 hf ls hl => ?_) _ _ _ hf ls (lv_sub hl [2, 1, 0] rfl)
  refine lv_lload_n hx hb (zD_g DX4_digestGifts 60 rfl) rfl (lv_at hl 0 rfl) ?_
  cases hf
  exact hret _ _ (zD_g DX4_digestGifts 61 rfl)
abbrev dlX4_digestCities : List (Nat × Instr × Nat) := [(0, .lload_n 1, 1), (1, .lstore_n 3, 1), (2, .iconst 0, 1), (3, .istore 5, 2), (5, .iload 5, 2), (7, .iconst 2, 1), (8, .if_icmp .ge 106, 3), (11, .ldc2_w 180, 3), (14, .lload_n 3, 1), (15, .lmul, 1), (16, .aload_n 0, 1), (17, .getfield 42, 3), (20, .iload 5, 2), (22, .iaload, 1), (23, .i2l, 1), (24, .ladd, 1), (25, .lstore_n 3, 1), (26, .ldc2_w 180, 3), (29, .lload_n 3, 1), (30, .lmul, 1), (31, .aload_n 0, 1), (32, .getfield 45, 3), (35, .iload 5, 2), (37, .iaload, 1), (38, .i2l, 1), (39, .ladd, 1), (40, .lstore_n 3, 1), (41, .ldc2_w 180, 3), (44, .lload_n 3, 1), (45, .lmul, 1), (46, .aload_n 0, 1), (47, .getfield 48, 3), (50, .iload 5, 2), (52, .iaload, 1), (53, .i2l, 1), (54, .ladd, 1), (55, .lstore_n 3, 1), (56, .iconst 0, 1), (57, .istore 6, 2), (59, .iload 6, 2), (61, .bipush 6, 2), (63, .if_icmp .ge 30, 3), (66, .ldc2_w 180, 3), (69, .lload_n 3, 1), (70, .lmul, 1), (71, .aload_n 0, 1), (72, .getfield 54, 3), (75, .iload 5, 2), (77, .bipush 6, 2), (79, .imul, 1), (80, .iload 6, 2), (82, .iadd, 1), (83, .iaload, 1), (84, .i2l, 1), (85, .ladd, 1), (86, .lstore_n 3, 1), (87, .iinc 6 1, 3), (90, .goto (-31), 3), (93, .ldc2_w 180, 3), (96, .lload_n 3, 1), (97, .lmul, 1), (98, .aload_n 0, 1), (99, .getfield 51, 3), (102, .iload 5, 2), (104, .iaload, 1), (105, .i2l, 1), (106, .ladd, 1), (107, .lstore_n 3, 1), (108, .iinc 5 1, 3), (111, .goto (-106), 3), (114, .lload_n 3, 1), (115, .lreturn, 1)]
theorem DX4_digestCities : zD cX4_digestCities dlX4_digestCities = true := by decide +kernel
theorem hd4_digestCities : yX4_digestCities.cls = RX4 ∧ yX4_digestCities.cls ≠ "java/lang/invoke/MethodHandle" ∧ yX4_digestCities.cls ≠ "java/lang/invoke/VarHandle" ∧ (parseMethodDescriptor yX4_digestCities.desc).map (fun d => d.parameters.length) = some 1 := by decide +kernel
abbrev rm4_digestCities : Room := { frames := 0, cells := 0, slots := 0, locals := 0 }
theorem in4_digestCities_4 : ∀ w ∈ wsX40, w ∈ wsX4_digestCities := fun w h => List.mem_cons_of_mem _ (List.mem_append_right _ h)
set_option maxHeartbeats 4000000 in
set_option maxRecDepth 100000 in
theorem c4_digestCities {l : Launch} {D : va_G} {cI cZ cB : ClassId} {q : Nat → Nat} {things : Int32} {gifts : Int32} {days : Int32} {size : Nat → Int32} {weight : Nat → Int32} {sound : Nat → Int32} {harm : Nat → Int32} {in_ : Nat → Int32} {kind : Nat → Int32} {owner : Nat → Int32} {empty : Nat → Int32} {room : Nat → Int32} {told : Nat → Int32} {gate : Nat → Int32} {ear : Nat → Int32} {scale : Nat → Int32} {lost : Nat → Int32} {watch : Nat → Int32} {moments : Int32} {kept : Nat → Int32} {a_before : Int64} {r : Int64}  (hf : f4_digestCities gate ear scale lost watch a_before = some r) : Met l yX4_digestCities wsX4_digestCities rm4_digestCities (zPp D cI cZ cB [.ref (q 0), .long a_before] (cWar cI q things gifts days size weight sound harm in_ kind owner empty room told gate ear scale lost watch moments kept)) (zQp (some (.long r))) 0 0 (fun _ => False) := by
  unfold f4_digestCities at hf
  refine z_pureL RX4 (by decide +kernel) rfl rfl (Nat.le_of_ble_eq_true rfl) ?_
  intro p e s m args below meth c Q ls hx hb hml hown hts hK hP hret hl
  have hl : lv_has ls 7 [(0, .ref (q 0)), (1, .long a_before)] := hl
  refine lv_lload_n hx hb (zD_g DX4_digestCities 0 rfl) rfl (lv_at hl 1 rfl) ?_
  refine lv_lstore_n (lv' := [(3, .long a_before), (0, .ref (q 0)), (1, .long a_before)]) hx hb (zD_g DX4_digestCities 1 rfl) rfl hl (by decide) rfl (fun ls hl => ?_)
  refine lv_iconst (v := (0 : Int32)) hx hb (zD_g DX4_digestCities 2 rfl) (by decide) ?_
  refine lv_istore (lv' := [(5, .int (0 : Int32)), (3, .long a_before), (0, .ref (q 0)), (1, .long a_before)]) hx hb (zD_g DX4_digestCities 3 rfl) hl (by decide) rfl (fun ls hl => ?_)
  have hL3 : ∀ (k3 : Int64 → Option (Int64)) (hk3 : ∀ (y20 : Int64), k3 y20 = some r → ∀ (ls : Array Slot), lv_has ls 7 [(3, .long y20)] → W p l e rm4_digestCities s m args below meth c s.heap [] 0 0 Q (F0 m 114 ls [])) (n3 : Nat) (y1 : Int64) (y2 : Int32), L4_digestCities_5 k3 gate ear scale lost watch n3 y1 y2 = some r → ∀ (ls : Array Slot), lv_has ls 7 [(0, .ref (q 0)), (3, .long y1), (5, .int y2)] → W p l e rm4_digestCities s m args below meth c s.heap [] 0 0 Q (F0 m 5 ls []) := by
    intro k3 hk3 n3
    induction n3 with
    | zero =>
      intro y1 y2 hf
      cases hf
    | succ n3 ih3 =>
      intro y1 y2 hf ls hl
      rw [L4_digestCities_5] at hf
      refine lv_iload hx hb (zD_g DX4_digestCities 4 rfl) (lv_at hl 2 rfl) ?_
      refine lv_iconst (v := (2 : Int32)) hx hb (zD_g DX4_digestCities 5 rfl) (by decide) ?_
      refine lv_icmp_ge (tgt := 114) hx hb (zD_g DX4_digestCities 6 rfl) (by decide) (fun c4 => ?_) (fun c4 => ?_)
      · replace hf := z_t c4 hf
        exact hk3 _ hf ls (lv_sub hl [1] rfl)
      · replace hf := z_f c4 hf
        refine lv_ldc2 (v := (31 : Int64)) hx hb hown (hts _ (List.mem_of_getElem? (i := 1) rfl)) (zD_g DX4_digestCities 7 rfl) ?_
        refine lv_lload_n hx hb (zD_g DX4_digestCities 8 rfl) rfl (lv_at hl 1 rfl) ?_
        refine lv_lmul hx hb (zD_g DX4_digestCities 9 rfl) ?_
        refine lv_aload_n hx hb (zD_g DX4_digestCities 10 rfl) rfl (lv_at hl 0 rfl) ?_
        refine va_get (D := D) (ci := 3) (v := .ref (q 11)) (C := RX4) (T := TX4) (N := 19) hx hb hts in4_digestCities_4 hown hK.1 hP 0 rfl rfl 13 (by decide) (hts _ (List.mem_of_getElem? (i := 2) rfl)) (fun _ h9 => h9) rfl (zD_g DX4_digestCities 11 rfl) ?_
        refine lv_iload hx hb (zD_g DX4_digestCities 12 rfl) (lv_at hl 2 rfl) ?_
        obtain ⟨h5, hf⟩ := zg_s hf
        refine z_iald (k := y2.toNatClampNeg) hx hb hK.1 hP 11 0 rfl rfl h5 rfl (zD_g DX4_digestCities 13 rfl) ?_
        refine lv_i2l (v := ((gate y2.toNatClampNeg)).toInt64) hx hb (zD_g DX4_digestCities 14 rfl) rfl ?_
        refine lv_ladd hx hb (zD_g DX4_digestCities 15 rfl) ?_
        refine lv_topl (fun x6 ex6 => ?_)
        replace hf := zl_s hf x6 ex6
        refine lv_lstore_n (lv' := [(3, .long x6), (0, .ref (q 0)), (5, .int y2)]) hx hb (zD_g DX4_digestCities 16 rfl) rfl hl (by decide) rfl (fun ls hl => ?_)
        refine lv_ldc2 (v := (31 : Int64)) hx hb hown (hts _ (List.mem_of_getElem? (i := 1) rfl)) (zD_g DX4_digestCities 17 rfl) ?_
        refine lv_lload_n hx hb (zD_g DX4_digestCities 18 rfl) rfl (lv_at hl 0 rfl) ?_
        refine lv_lmul hx hb (zD_g DX4_digestCities 19 rfl) ?_
        refine lv_aload_n hx hb (zD_g DX4_digestCities 20 rfl) rfl (lv_at hl 1 rfl) ?_
        refine va_get (D := D) (ci := 3) (v := .ref (q 12)) (C := RX4) (T := TX4) (N := 19) hx hb hts in4_digestCities_4 hown hK.1 hP 0 rfl rfl 14 (by decide) (hts _ (List.mem_of_getElem? (i := 3) rfl)) (fun _ h9 => h9) rfl (zD_g DX4_digestCities 21 rfl) ?_
        refine lv_iload hx hb (zD_g DX4_digestCities 22 rfl) (lv_at hl 2 rfl) ?_
        obtain ⟨h7, hf⟩ := zg_s hf
        refine z_iald (k := y2.toNatClampNeg) hx hb hK.1 hP 12 0 rfl rfl h7 rfl (zD_g DX4_digestCities 23 rfl) ?_
        refine lv_i2l (v := ((ear y2.toNatClampNeg)).toInt64) hx hb (zD_g DX4_digestCities 24 rfl) rfl ?_
        refine lv_ladd hx hb (zD_g DX4_digestCities 25 rfl) ?_
        refine lv_topl (fun x8 ex8 => ?_)
        replace hf := zl_s hf x8 ex8
        refine lv_lstore_n (lv' := [(3, .long x8), (0, .ref (q 0)), (5, .int y2)]) hx hb (zD_g DX4_digestCities 26 rfl) rfl hl (by decide) rfl (fun ls hl => ?_)
        refine lv_ldc2 (v := (31 : Int64)) hx hb hown (hts _ (List.mem_of_getElem? (i := 1) rfl)) (zD_g DX4_digestCities 27 rfl) ?_
        refine lv_lload_n hx hb (zD_g DX4_digestCities 28 rfl) rfl (lv_at hl 0 rfl) ?_
        refine lv_lmul hx hb (zD_g DX4_digestCities 29 rfl) ?_
        refine lv_aload_n hx hb (zD_g DX4_digestCities 30 rfl) rfl (lv_at hl 1 rfl) ?_
        refine va_get (D := D) (ci := 3) (v := .ref (q 13)) (C := RX4) (T := TX4) (N := 19) hx hb hts in4_digestCities_4 hown hK.1 hP 0 rfl rfl 15 (by decide) (hts _ (List.mem_of_getElem? (i := 4) rfl)) (fun _ h9 => h9) rfl (zD_g DX4_digestCities 31 rfl) ?_
        refine lv_iload hx hb (zD_g DX4_digestCities 32 rfl) (lv_at hl 2 rfl) ?_
        obtain ⟨h9, hf⟩ := zg_s hf
        refine z_iald (k := y2.toNatClampNeg) hx hb hK.1 hP 13 0 rfl rfl h9 rfl (zD_g DX4_digestCities 33 rfl) ?_
        refine lv_i2l (v := ((scale y2.toNatClampNeg)).toInt64) hx hb (zD_g DX4_digestCities 34 rfl) rfl ?_
        refine lv_ladd hx hb (zD_g DX4_digestCities 35 rfl) ?_
        refine lv_topl (fun x10 ex10 => ?_)
        replace hf := zl_s hf x10 ex10
        refine lv_lstore_n (lv' := [(3, .long x10), (0, .ref (q 0)), (5, .int y2)]) hx hb (zD_g DX4_digestCities 36 rfl) rfl hl (by decide) rfl (fun ls hl => ?_)
        refine lv_iconst (v := (0 : Int32)) hx hb (zD_g DX4_digestCities 37 rfl) (by decide) ?_
        refine lv_istore (lv' := [(6, .int (0 : Int32)), (3, .long x10), (0, .ref (q 0)), (5, .int y2)]) hx hb (zD_g DX4_digestCities 38 rfl) hl (by decide) rfl (fun ls hl => ?_)
        have hL13 : ∀ (k13 : Int64 → Option (Int64)) (hk13 : ∀ (y17 : Int64), k13 y17 = some r → ∀ (ls : Array Slot), lv_has ls 7 [(0, .ref (q 0)), (3, .long y17), (5, .int y2)] → W p l e rm4_digestCities s m args below meth c s.heap [] 0 0 Q (F0 m 93 ls [])) (n13 : Nat) (y11 : Int64) (y12 : Int32), L4_digestCities_59 k13 watch y2 n13 y11 y12 = some r → ∀ (ls : Array Slot), lv_has ls 7 [(0, .ref (q 0)), (3, .long y11), (5, .int y2), (6, .int y12)] → W p l e rm4_digestCities s m args below meth c s.heap [] 0 0 Q (F0 m 59 ls []) := by
          intro k13 hk13 n13
          induction n13 with
          | zero =>
            intro y11 y12 hf
            cases hf
          | succ n13 ih13 =>
            intro y11 y12 hf ls hl
            rw [L4_digestCities_59] at hf
            refine lv_iload hx hb (zD_g DX4_digestCities 39 rfl) (lv_at hl 3 rfl) ?_
            refine lv_bipush (v := (6 : Int32)) hx hb (zD_g DX4_digestCities 40 rfl) (by decide) ?_
            refine lv_icmp_ge (tgt := 93) hx hb (zD_g DX4_digestCities 41 rfl) (by decide) (fun c14 => ?_) (fun c14 => ?_)
            · replace hf := z_t c14 hf
              exact hk13 _ hf ls (lv_sub hl [0, 1, 2] rfl)
            · replace hf := z_f c14 hf
              refine lv_ldc2 (v := (31 : Int64)) hx hb hown (hts _ (List.mem_of_getElem? (i := 1) rfl)) (zD_g DX4_digestCities 42 rfl) ?_
              refine lv_lload_n hx hb (zD_g DX4_digestCities 43 rfl) rfl (lv_at hl 1 rfl) ?_
              refine lv_lmul hx hb (zD_g DX4_digestCities 44 rfl) ?_
              refine lv_aload_n hx hb (zD_g DX4_digestCities 45 rfl) rfl (lv_at hl 0 rfl) ?_
              refine va_get (D := D) (ci := 3) (v := .ref (q 15)) (C := RX4) (T := TX4) (N := 19) hx hb hts in4_digestCities_4 hown hK.1 hP 0 rfl rfl 17 (by decide) (hts _ (List.mem_of_getElem? (i := 5) rfl)) (fun _ h9 => h9) rfl (zD_g DX4_digestCities 46 rfl) ?_
              refine lv_iload hx hb (zD_g DX4_digestCities 47 rfl) (lv_at hl 2 rfl) ?_
              refine lv_bipush (v := (6 : Int32)) hx hb (zD_g DX4_digestCities 48 rfl) (by decide) ?_
              refine lv_imul hx hb (zD_g DX4_digestCities 49 rfl) ?_
              refine lv_iload hx hb (zD_g DX4_digestCities 50 rfl) (lv_at hl 3 rfl) ?_
              refine lv_iadd hx hb (zD_g DX4_digestCities 51 rfl) ?_
              obtain ⟨h15, hf⟩ := zg_s hf
              refine z_iald (k := ((y2 * (6 : Int32)) + y12).toNatClampNeg) hx hb hK.1 hP 15 0 rfl rfl h15 rfl (zD_g DX4_digestCities 52 rfl) ?_
              refine lv_i2l (v := ((watch ((y2 * (6 : Int32)) + y12).toNatClampNeg)).toInt64) hx hb (zD_g DX4_digestCities 53 rfl) rfl ?_
              refine lv_ladd hx hb (zD_g DX4_digestCities 54 rfl) ?_
              refine lv_topl (fun x16 ex16 => ?_)
              replace hf := zl_s hf x16 ex16
              refine lv_lstore_n (lv' := [(3, .long x16), (0, .ref (q 0)), (5, .int y2), (6, .int y12)]) hx hb (zD_g DX4_digestCities 55 rfl) rfl hl (by decide) rfl (fun ls hl => ?_)
              refine lv_iinc (v := y12 + 1) (lv' := [(6, .int (y12 + 1)), (3, .long x16), (0, .ref (q 0)), (5, .int y2)]) (k := 3) hx hb (zD_g DX4_digestCities 56 rfl) hl rfl rfl (by decide) rfl (fun ls hl => ?_)
              refine lv_goto (tgt := 59) hx hb (zD_g DX4_digestCities 57 rfl) (by decide) ?_
              exact ih13 _ _ hf ls (lv_sub hl [2, 1, 3, 0] rfl)
        refine hL13 _ (fun y17 hf ls hl => ?_) _ _ _ hf ls (lv_sub hl [2, 1, 3, 0] rfl)
        refine lv_ldc2 (v := (31 : Int64)) hx hb hown (hts _ (List.mem_of_getElem? (i := 1) rfl)) (zD_g DX4_digestCities 58 rfl) ?_
        refine lv_lload_n hx hb (zD_g DX4_digestCities 59 rfl) rfl (lv_at hl 1 rfl) ?_
        refine lv_lmul hx hb (zD_g DX4_digestCities 60 rfl) ?_
        refine lv_aload_n hx hb (zD_g DX4_digestCities 61 rfl) rfl (lv_at hl 0 rfl) ?_
        refine va_get (D := D) (ci := 3) (v := .ref (q 14)) (C := RX4) (T := TX4) (N := 19) hx hb hts in4_digestCities_4 hown hK.1 hP 0 rfl rfl 16 (by decide) (hts _ (List.mem_of_getElem? (i := 6) rfl)) (fun _ h9 => h9) rfl (zD_g DX4_digestCities 62 rfl) ?_
        refine lv_iload hx hb (zD_g DX4_digestCities 63 rfl) (lv_at hl 2 rfl) ?_
        obtain ⟨h18, hf⟩ := zg_s hf
        refine z_iald (k := y2.toNatClampNeg) hx hb hK.1 hP 14 0 rfl rfl h18 rfl (zD_g DX4_digestCities 64 rfl) ?_
        refine lv_i2l (v := ((lost y2.toNatClampNeg)).toInt64) hx hb (zD_g DX4_digestCities 65 rfl) rfl ?_
        refine lv_ladd hx hb (zD_g DX4_digestCities 66 rfl) ?_
        refine lv_topl (fun x19 ex19 => ?_)
        replace hf := zl_s hf x19 ex19
        refine lv_lstore_n (lv' := [(3, .long x19), (0, .ref (q 0)), (5, .int y2)]) hx hb (zD_g DX4_digestCities 67 rfl) rfl hl (by decide) rfl (fun ls hl => ?_)
        refine lv_iinc (v := y2 + 1) (lv' := [(5, .int (y2 + 1)), (3, .long x19), (0, .ref (q 0))]) (k := 2) hx hb (zD_g DX4_digestCities 68 rfl) hl rfl rfl (by decide) rfl (fun ls hl => ?_)
        refine lv_goto (tgt := 5) hx hb (zD_g DX4_digestCities 69 rfl) (by decide) ?_
        exact ih3 _ _ hf ls (lv_sub hl [2, 1, 0] rfl)
  refine hL3 _ (fun y20 hf ls hl => ?_) _ _ _ hf ls (lv_sub hl [2, 1, 0] rfl)
  refine lv_lload_n hx hb (zD_g DX4_digestCities 70 rfl) rfl (lv_at hl 0 rfl) ?_
  cases hf
  exact hret _ _ (zD_g DX4_digestCities 71 rfl)
