abbrev dlX1_setThatDoesMost : List (Nat × Instr × Nat) := [(0, .aload_n 0, 1), (1, .iload_n 1, 1), (2, .invokevirtual 9, 3), (5, .istore_n 3, 1), (6, .iconst (-1), 1), (7, .istore 4, 2), (9, .iconst 0, 1), (10, .istore 5, 2), (12, .iconst 0, 1), (13, .istore 6, 2), (15, .iload 6, 2), (17, .iload_n 3, 1), (18, .if_icmp .gt 104, 3), (21, .iload 6, 2), (23, .iload_n 3, 1), (24, .iconst (-1), 1), (25, .ixor, 1), (26, .iand, 1), (27, .ifCond .ne 89, 3), (30, .aload_n 0, 1), (31, .iload_n 1, 1), (32, .iload 6, 2), (34, .invokevirtual 15, 3), (37, .ifCond .eq 79, 3), (40, .aload_n 0, 1), (41, .iload_n 1, 1), (42, .iload 6, 2), (44, .invokevirtual 19, 3), (47, .ifCond .ne 6, 3), (50, .goto 66, 3), (53, .aload_n 0, 1), (54, .iload_n 1, 1), (55, .iload 6, 2), (57, .iload_n 2, 1), (58, .invokevirtual 22, 3), (61, .istore 7, 2), (63, .iload 6, 2), (65, .invokestatic 26, 3), (68, .iload 4, 2), (70, .invokestatic 26, 3), (73, .if_icmp .ge 7, 3), (76, .iconst 1, 1), (77, .goto 4, 3), (80, .iconst 0, 1), (81, .istore 8, 2), (83, .iload 4, 2), (85, .iconst (-1), 1), (86, .if_icmp .eq 22, 3), (89, .iload 7, 2), (91, .iload 5, 2), (93, .if_icmp .gt 15, 3), (96, .iload 7, 2), (98, .iload 5, 2), (100, .if_icmp .ne 16, 3), (103, .iload 8, 2), (105, .ifCond .eq 11, 3), (108, .iload 6, 2), (110, .istore 4, 2), (112, .iload 7, 2), (114, .istore 5, 2), (116, .iinc 6 1, 3), (119, .goto (-104), 3), (122, .iload 4, 2), (124, .ireturn, 1)]
theorem DX1_setThatDoesMost : zD cX1_setThatDoesMost dlX1_setThatDoesMost = true := by decide +kernel
set_option maxRecDepth 20000 in
theorem ggX1_setThatDoesMost_X4_mayBeIn : GoodIn wsX1_setThatDoesMost wsX4_mayBeIn := goodIn_r _ [5, 6, 7, 8, 4, 9, 10, 11, 82, 83, 84, 85, 86, 87, 88, 89, 90, 91, 92, 93, 94, 95, 96, 97, 98, 99, 100] (by decide +kernel) (by decide +kernel)
set_option maxRecDepth 20000 in
theorem gX1_setThatDoesMost_X4_mayBeIn : GoodIn wsX1_setThatDoesMost (wsV RX1 9 RX4 yX4_mayBeIn wsX4_mayBeIn) := goodIn_app (goodIn_of _ (by decide +kernel)) ggX1_setThatDoesMost_X4_mayBeIn
set_option maxRecDepth 20000 in
theorem ggX1_setThatDoesMost_X4_hasRoom : GoodIn wsX1_setThatDoesMost wsX4_hasRoom := goodIn_r _ [15, 16, 17, 18, 19, 20, 82, 83, 84, 85, 86, 87, 88, 89, 90, 91, 92, 93, 94, 95, 96, 97, 98, 99, 100] (by decide +kernel) (by decide +kernel)
set_option maxRecDepth 20000 in
theorem gX1_setThatDoesMost_X4_hasRoom : GoodIn wsX1_setThatDoesMost (wsV RX1 15 RX4 yX4_hasRoom wsX4_hasRoom) := goodIn_app (goodIn_of _ (by decide +kernel)) ggX1_setThatDoesMost_X4_hasRoom
set_option maxRecDepth 20000 in
theorem ggX1_setThatDoesMost_X4_passes : GoodIn wsX1_setThatDoesMost wsX4_passes := goodIn_r _ [24, 25, 26, 27, 4, 28, 17, 29, 30, 31, 32, 33, 34, 35, 36, 37, 38, 39, 40, 41, 42, 43, 44, 45, 18, 19, 20, 46, 47, 48, 49, 50, 51, 52, 53, 54, 55, 56, 57, 58, 59, 60, 61, 82, 83, 84, 85, 86, 87, 88, 89, 90, 91, 92, 93, 94, 95, 96, 97, 98, 99, 100] (by decide +kernel) (by decide +kernel)
set_option maxRecDepth 20000 in
theorem gX1_setThatDoesMost_X4_passes : GoodIn wsX1_setThatDoesMost (wsV RX1 19 RX4 yX4_passes wsX4_passes) := goodIn_app (goodIn_of _ (by decide +kernel)) ggX1_setThatDoesMost_X4_passes
set_option maxRecDepth 20000 in
theorem ggX1_setThatDoesMost_X4_loss : GoodIn wsX1_setThatDoesMost wsX4_loss := goodIn_r _ [65, 66, 67, 68, 60, 69, 70, 71, 72, 4, 73, 74, 45, 57, 18, 19, 20, 30, 31, 32, 33, 34, 82, 83, 84, 85, 86, 87, 88, 89, 90, 91, 92, 93, 94, 95, 96, 97, 98, 99, 100] (by decide +kernel) (by decide +kernel)
set_option maxRecDepth 20000 in
theorem gX1_setThatDoesMost_X4_loss : GoodIn wsX1_setThatDoesMost (wsV RX1 22 RX4 yX4_loss wsX4_loss) := goodIn_app (goodIn_of _ (by decide +kernel)) ggX1_setThatDoesMost_X4_loss
set_option maxRecDepth 20000 in
theorem ggX1_setThatDoesMost_J6_bitCount_0f7a4 : GoodIn wsX1_setThatDoesMost wsJ6_bitCount_0f7a4 := goodIn_r _ [78, 79, 80, 81] (by decide +kernel) (by decide +kernel)
set_option maxRecDepth 20000 in
theorem gX1_setThatDoesMost_J6_bitCount_0f7a4 : GoodIn wsX1_setThatDoesMost (va_wsS RX1 26 yJ6_bitCount_0f7a4 wsJ6_bitCount_0f7a4) := goodIn_app (goodIn_of _ (by decide +kernel)) ggX1_setThatDoesMost_J6_bitCount_0f7a4
theorem hd1_setThatDoesMost : yX1_setThatDoesMost.cls ≠ "java/lang/invoke/MethodHandle" ∧ yX1_setThatDoesMost.cls ≠ "java/lang/invoke/VarHandle" ∧ (parseMethodDescriptor yX1_setThatDoesMost.desc).map (fun d => d.parameters.length) = some 3 := by decide +kernel
abbrev rm1_setThatDoesMost : Room := { frames := 4, cells := 0, slots := 0, locals := 90 }
set_option maxHeartbeats 4000000 in
set_option maxRecDepth 100000 in
theorem c1_setThatDoesMost {l : Launch} {D : va_G} {cI cZ cB : ClassId} {q : Nat → Nat} {things : Int32} {gifts : Int32} {days : Int32} {size : Nat → Int32} {weight : Nat → Int32} {sound : Nat → Int32} {harm : Nat → Int32} {in_ : Nat → Int32} {kind : Nat → Int32} {owner : Nat → Int32} {empty : Nat → Int32} {room : Nat → Int32} {told : Nat → Int32} {gate : Nat → Int32} {ear : Nat → Int32} {scale : Nat → Int32} {lost : Nat → Int32} {watch : Nat → Int32} {moments : Int32} {kept : Nat → Int32} {a_gift : Int32} {a_hour : Int32} {r : Int32}  (hf : f1_setThatDoesMost things days size weight sound harm in_ kind owner empty room gate ear scale watch a_gift a_hour = some r) : Met l yX1_setThatDoesMost wsX1_setThatDoesMost rm1_setThatDoesMost (zPp D cI cZ cB [.ref (q 0), .int a_gift, .int a_hour] (cWar cI q things gifts days size weight sound harm in_ kind owner empty room told gate ear scale lost watch moments kept)) (zQp (some (.int r))) 0 0 (fun _ => False) := by
  unfold f1_setThatDoesMost at hf
  refine z_pureI RX1 (by decide +kernel) rfl rfl (Nat.le_of_ble_eq_true rfl) ?_
  intro p e s m args below meth c Q ls hx hb hml hown hts hK hP hret hl
  have hl : lv_has ls 9 [(0, .ref (q 0)), (1, .int a_gift), (2, .int a_hour)] := hl
  refine lv_aload_n hx hb (zD_g DX1_setThatDoesMost 0 rfl) rfl (lv_at hl 0 rfl) ?_
  refine lv_iload_n hx hb (zD_g DX1_setThatDoesMost 1 rfl) rfl (lv_at hl 1 rfl) ?_
  obtain ⟨r1, hc2, hf⟩ := zb1_s hf
  refine z_Vp (As := [.int a_gift]) (rest := []) ⟨hx, hb, hml, hown, hts⟩ hK (c4_mayBeIn (things := things) (gifts := gifts) (days := days) (size := size) (weight := weight) (sound := sound) (harm := harm) (in_ := in_) (kind := kind) (owner := owner) (empty := empty) (room := room) (told := told) (gate := gate) (ear := ear) (scale := scale) (lost := lost) (watch := watch) (moments := moments) (kept := kept) (q := q) hc2) (cwV 1 hts gX1_setThatDoesMost_X4_mayBeIn rfl rfl rfl hd4_mayBeIn ⟨Nat.le_of_ble_eq_true rfl, Nat.le_of_ble_eq_true rfl⟩) hP rfl rfl rfl rfl hl.1 rfl rfl (Nat.le_of_ble_eq_true rfl) (zD_g DX1_setThatDoesMost 2 rfl) ⟨Nat.zero_le _, Nat.zero_le _⟩ ?_
  refine lv_istore_n (lv' := [(3, .int r1), (0, .ref (q 0)), (1, .int a_gift), (2, .int a_hour)]) hx hb (zD_g DX1_setThatDoesMost 3 rfl) rfl hl (by decide) rfl (fun ls hl => ?_)
  refine lv_iconst (v := (-1 : Int32)) hx hb (zD_g DX1_setThatDoesMost 4 rfl) (by decide) ?_
  refine lv_istore (lv' := [(4, .int (-1 : Int32)), (3, .int r1), (0, .ref (q 0)), (1, .int a_gift), (2, .int a_hour)]) hx hb (zD_g DX1_setThatDoesMost 5 rfl) hl (by decide) rfl (fun ls hl => ?_)
  refine lv_iconst (v := (0 : Int32)) hx hb (zD_g DX1_setThatDoesMost 6 rfl) (by decide) ?_
  refine lv_istore (lv' := [(5, .int (0 : Int32)), (4, .int (-1 : Int32)), (3, .int r1), (0, .ref (q 0)), (1, .int a_gift), (2, .int a_hour)]) hx hb (zD_g DX1_setThatDoesMost 7 rfl) hl (by decide) rfl (fun ls hl => ?_)
  refine lv_iconst (v := (0 : Int32)) hx hb (zD_g DX1_setThatDoesMost 8 rfl) (by decide) ?_
  refine lv_istore (lv' := [(6, .int (0 : Int32)), (5, .int (0 : Int32)), (4, .int (-1 : Int32)), (3, .int r1), (0, .ref (q 0)), (1, .int a_gift), (2, .int a_hour)]) hx hb (zD_g DX1_setThatDoesMost 9 rfl) hl (by decide) rfl (fun ls hl => ?_)
  have hL6 : ∀ (k6 : Int32 → Option (Int32)) (hk6 : ∀ (y30 : Int32), k6 y30 = some r → ∀ (ls : Array Slot), lv_has ls 9 [(4, .int y30)] → W p l e rm1_setThatDoesMost s m args below meth c s.heap [] 0 0 Q (F0 m 122 ls [])) (n6 : Nat) (y3 : Int32) (y4 : Int32) (y5 : Int32), L1_setThatDoesMost_15 k6 days size weight sound harm kind owner empty room gate ear scale watch a_gift a_hour r1 n6 y3 y4 y5 = some r → ∀ (ls : Array Slot), lv_has ls 9 [(0, .ref (q 0)), (1, .int a_gift), (2, .int a_hour), (3, .int r1), (4, .int y3), (5, .int y4), (6, .int y5)] → W p l e rm1_setThatDoesMost s m args below meth c s.heap [] 0 0 Q (F0 m 15 ls []) := by
    intro k6 hk6 n6
    induction n6 with
    | zero =>
      intro y3 y4 y5 hf
      cases hf
    | succ n6 ih6 =>
      intro y3 y4 y5 hf ls hl
      rw [L1_setThatDoesMost_15] at hf
      refine lv_iload hx hb (zD_g DX1_setThatDoesMost 10 rfl) (lv_at hl 6 rfl) ?_
      refine lv_iload_n hx hb (zD_g DX1_setThatDoesMost 11 rfl) rfl (lv_at hl 3 rfl) ?_
      refine lv_icmp_gt (tgt := 122) hx hb (zD_g DX1_setThatDoesMost 12 rfl) (by decide) (fun c7 => ?_) (fun c7 => ?_)
      · replace hf := z_t c7 hf
        exact hk6 _ hf ls (lv_sub hl [4] rfl)
      · replace hf := z_f c7 hf
        refine lv_iload hx hb (zD_g DX1_setThatDoesMost 13 rfl) (lv_at hl 6 rfl) ?_
        refine lv_iload_n hx hb (zD_g DX1_setThatDoesMost 14 rfl) rfl (lv_at hl 3 rfl) ?_
        refine lv_iconst (v := (-1 : Int32)) hx hb (zD_g DX1_setThatDoesMost 15 rfl) (by decide) ?_
        refine lv_ixor hx hb (zD_g DX1_setThatDoesMost 16 rfl) ?_
        refine lv_iand hx hb (zD_g DX1_setThatDoesMost 17 rfl) ?_
        refine lv_if_ne (tgt := 116) hx hb (zD_g DX1_setThatDoesMost 18 rfl) (by decide) (fun c8 => ?_) (fun c8 => ?_)
        · replace hf := z_f c8 hf
          refine lv_iinc (v := y5 + 1) (lv' := [(6, .int (y5 + 1)), (0, .ref (q 0)), (1, .int a_gift), (2, .int a_hour), (3, .int r1), (4, .int y3), (5, .int y4)]) (k := 6) hx hb (zD_g DX1_setThatDoesMost 60 rfl) hl rfl rfl (by decide) rfl (fun ls hl => ?_)
          refine lv_goto (tgt := 15) hx hb (zD_g DX1_setThatDoesMost 61 rfl) (by decide) ?_
          exact ih6 _ _ _ hf ls (lv_sub hl [1, 2, 3, 4, 5, 6, 0] rfl)
        · replace hf := z_t c8 hf
          refine lv_aload_n hx hb (zD_g DX1_setThatDoesMost 19 rfl) rfl (lv_at hl 0 rfl) ?_
          refine lv_iload_n hx hb (zD_g DX1_setThatDoesMost 20 rfl) rfl (lv_at hl 1 rfl) ?_
          refine lv_iload hx hb (zD_g DX1_setThatDoesMost 21 rfl) (lv_at hl 6 rfl) ?_
          obtain ⟨r9, hc10, hf⟩ := zb1_s hf
          refine z_Vp (As := [.int a_gift, .int y5]) (rest := []) ⟨hx, hb, hml, hown, hts⟩ hK (c4_hasRoom (things := things) (gifts := gifts) (days := days) (size := size) (weight := weight) (sound := sound) (harm := harm) (in_ := in_) (kind := kind) (owner := owner) (empty := empty) (room := room) (told := told) (gate := gate) (ear := ear) (scale := scale) (lost := lost) (watch := watch) (moments := moments) (kept := kept) (q := q) hc10) (cwV 2 hts gX1_setThatDoesMost_X4_hasRoom rfl rfl rfl hd4_hasRoom ⟨Nat.le_of_ble_eq_true rfl, Nat.le_of_ble_eq_true rfl⟩) hP rfl rfl rfl rfl hl.1 rfl rfl (Nat.le_of_ble_eq_true rfl) (zD_g DX1_setThatDoesMost 22 rfl) ⟨Nat.zero_le _, Nat.zero_le _⟩ ?_
          refine lv_if_eq (tgt := 116) hx hb (zD_g DX1_setThatDoesMost 23 rfl) (by decide) (fun c11 => ?_) (fun c11 => ?_)
          · replace hf := z_t c11 hf
            refine lv_iinc (v := y5 + 1) (lv' := [(6, .int (y5 + 1)), (0, .ref (q 0)), (1, .int a_gift), (2, .int a_hour), (3, .int r1), (4, .int y3), (5, .int y4)]) (k := 6) hx hb (zD_g DX1_setThatDoesMost 60 rfl) hl rfl rfl (by decide) rfl (fun ls hl => ?_)
            refine lv_goto (tgt := 15) hx hb (zD_g DX1_setThatDoesMost 61 rfl) (by decide) ?_
            exact ih6 _ _ _ hf ls (lv_sub hl [1, 2, 3, 4, 5, 6, 0] rfl)
          · replace hf := z_f c11 hf
            refine lv_aload_n hx hb (zD_g DX1_setThatDoesMost 24 rfl) rfl (lv_at hl 0 rfl) ?_
            refine lv_iload_n hx hb (zD_g DX1_setThatDoesMost 25 rfl) rfl (lv_at hl 1 rfl) ?_
            refine lv_iload hx hb (zD_g DX1_setThatDoesMost 26 rfl) (lv_at hl 6 rfl) ?_
            obtain ⟨r12, hc13, hf⟩ := zb1_s hf
            refine z_Vp (As := [.int a_gift, .int y5]) (rest := []) ⟨hx, hb, hml, hown, hts⟩ hK (c4_passes (things := things) (gifts := gifts) (days := days) (size := size) (weight := weight) (sound := sound) (harm := harm) (in_ := in_) (kind := kind) (owner := owner) (empty := empty) (room := room) (told := told) (gate := gate) (ear := ear) (scale := scale) (lost := lost) (watch := watch) (moments := moments) (kept := kept) (q := q) hc13) (cwV 2 hts gX1_setThatDoesMost_X4_passes rfl rfl rfl hd4_passes ⟨Nat.le_of_ble_eq_true rfl, Nat.le_of_ble_eq_true rfl⟩) hP rfl rfl rfl rfl hl.1 rfl rfl (Nat.le_of_ble_eq_true rfl) (zD_g DX1_setThatDoesMost 27 rfl) ⟨Nat.zero_le _, Nat.zero_le _⟩ ?_
            refine lv_if_ne (tgt := 53) hx hb (zD_g DX1_setThatDoesMost 28 rfl) (by decide) (fun c14 => ?_) (fun c14 => ?_)
            · replace hf := z_f c14 hf
              refine lv_aload_n hx hb (zD_g DX1_setThatDoesMost 30 rfl) rfl (lv_at hl 0 rfl) ?_
              refine lv_iload_n hx hb (zD_g DX1_setThatDoesMost 31 rfl) rfl (lv_at hl 1 rfl) ?_
              refine lv_iload hx hb (zD_g DX1_setThatDoesMost 32 rfl) (lv_at hl 6 rfl) ?_
              refine lv_iload_n hx hb (zD_g DX1_setThatDoesMost 33 rfl) rfl (lv_at hl 2 rfl) ?_
              obtain ⟨r15, hc16, hf⟩ := zb1_s hf
              refine z_Vp (As := [.int a_gift, .int y5, .int a_hour]) (rest := []) ⟨hx, hb, hml, hown, hts⟩ hK (c4_loss (things := things) (gifts := gifts) (days := days) (size := size) (weight := weight) (sound := sound) (harm := harm) (in_ := in_) (kind := kind) (owner := owner) (empty := empty) (room := room) (told := told) (gate := gate) (ear := ear) (scale := scale) (lost := lost) (watch := watch) (moments := moments) (kept := kept) (q := q) hc16) (cwV 3 hts gX1_setThatDoesMost_X4_loss rfl rfl rfl hd4_loss ⟨Nat.le_of_ble_eq_true rfl, Nat.le_of_ble_eq_true rfl⟩) hP rfl rfl rfl rfl hl.1 rfl rfl (Nat.le_of_ble_eq_true rfl) (zD_g DX1_setThatDoesMost 34 rfl) ⟨Nat.zero_le _, Nat.zero_le _⟩ ?_
              refine lv_istore (lv' := [(7, .int r15), (0, .ref (q 0)), (1, .int a_gift), (2, .int a_hour), (3, .int r1), (4, .int y3), (5, .int y4), (6, .int y5)]) hx hb (zD_g DX1_setThatDoesMost 35 rfl) hl (by decide) rfl (fun ls hl => ?_)
              refine lv_iload hx hb (zD_g DX1_setThatDoesMost 36 rfl) (lv_at hl 7 rfl) ?_
              obtain ⟨r18, hc18, hf⟩ := zb1_s hf
              refine z_Sp (As := [.int y5]) (rest := []) ⟨hx, hb, hml, hown, hts⟩ hK (c6_bitCount_0f7a4 hc18) (va_cwS 1 hts gX1_setThatDoesMost_J6_bitCount_0f7a4 rfl rfl rfl hd6_bitCount_0f7a4 ⟨Nat.le_of_ble_eq_true rfl, Nat.le_of_ble_eq_true rfl⟩) (hP.sub [] rfl) rfl hl.1 rfl rfl (Nat.le_of_ble_eq_true rfl) (zD_g DX1_setThatDoesMost 37 rfl) ⟨Nat.zero_le _, Nat.zero_le _⟩ ?_
              refine lv_iload hx hb (zD_g DX1_setThatDoesMost 38 rfl) (lv_at hl 5 rfl) ?_
              obtain ⟨r21, hc21, hf⟩ := zb1_s hf
              refine z_Sp (As := [.int y3]) (rest := [.int r18]) ⟨hx, hb, hml, hown, hts⟩ hK (c6_bitCount_0f7a4 hc21) (va_cwS 1 hts gX1_setThatDoesMost_J6_bitCount_0f7a4 rfl rfl rfl hd6_bitCount_0f7a4 ⟨Nat.le_of_ble_eq_true rfl, Nat.le_of_ble_eq_true rfl⟩) (hP.sub [] rfl) rfl hl.1 rfl rfl (Nat.le_of_ble_eq_true rfl) (zD_g DX1_setThatDoesMost 39 rfl) ⟨Nat.zero_le _, Nat.zero_le _⟩ ?_
              obtain ⟨v24, hr29, hf⟩ := zb1_s hf
              have hJ29 : ∀ (ls : Array Slot), lv_has ls 9 [(0, .ref (q 0)), (1, .int a_gift), (2, .int a_hour), (3, .int r1), (4, .int y3), (5, .int y4), (6, .int y5), (7, .int r15)] → W p l e rm1_setThatDoesMost s m args below meth c s.heap [] 0 0 Q (F0 m 81 ls [.int v24]) := by
                intro ls hl
                refine lv_istore (lv' := [(8, .int v24), (0, .ref (q 0)), (1, .int a_gift), (2, .int a_hour), (3, .int r1), (4, .int y3), (5, .int y4), (6, .int y5), (7, .int r15)]) hx hb (zD_g DX1_setThatDoesMost 44 rfl) hl (by decide) rfl (fun ls hl => ?_)
                refine lv_iload hx hb (zD_g DX1_setThatDoesMost 45 rfl) (lv_at hl 5 rfl) ?_
                refine lv_iconst (v := (-1 : Int32)) hx hb (zD_g DX1_setThatDoesMost 46 rfl) (by decide) ?_
                refine lv_icmp_eq (tgt := 108) hx hb (zD_g DX1_setThatDoesMost 47 rfl) (by decide) (fun c25 => ?_) (fun c25 => ?_)
                · replace hf := z_t c25 hf
                  refine lv_iload hx hb (zD_g DX1_setThatDoesMost 56 rfl) (lv_at hl 7 rfl) ?_
                  refine lv_istore (lv' := [(4, .int y5), (8, .int v24), (0, .ref (q 0)), (1, .int a_gift), (2, .int a_hour), (3, .int r1), (5, .int y4), (6, .int y5), (7, .int r15)]) hx hb (zD_g DX1_setThatDoesMost 57 rfl) hl (by decide) rfl (fun ls hl => ?_)
                  refine lv_iload hx hb (zD_g DX1_setThatDoesMost 58 rfl) (lv_at hl 8 rfl) ?_
                  refine lv_istore (lv' := [(5, .int r15), (4, .int y5), (8, .int v24), (0, .ref (q 0)), (1, .int a_gift), (2, .int a_hour), (3, .int r1), (6, .int y5), (7, .int r15)]) hx hb (zD_g DX1_setThatDoesMost 59 rfl) hl (by decide) rfl (fun ls hl => ?_)
                  refine lv_iinc (v := y5 + 1) (lv' := [(6, .int (y5 + 1)), (5, .int r15), (4, .int y5), (8, .int v24), (0, .ref (q 0)), (1, .int a_gift), (2, .int a_hour), (3, .int r1), (7, .int r15)]) (k := 7) hx hb (zD_g DX1_setThatDoesMost 60 rfl) hl rfl rfl (by decide) rfl (fun ls hl => ?_)
                  refine lv_goto (tgt := 15) hx hb (zD_g DX1_setThatDoesMost 61 rfl) (by decide) ?_
                  exact ih6 _ _ _ hf ls (lv_sub hl [4, 5, 6, 7, 2, 1, 0] rfl)
                · replace hf := z_f c25 hf
                  refine lv_iload hx hb (zD_g DX1_setThatDoesMost 48 rfl) (lv_at hl 8 rfl) ?_
                  refine lv_iload hx hb (zD_g DX1_setThatDoesMost 49 rfl) (lv_at hl 6 rfl) ?_
                  refine lv_icmp_gt (tgt := 108) hx hb (zD_g DX1_setThatDoesMost 50 rfl) (by decide) (fun c26 => ?_) (fun c26 => ?_)
                  · replace hf := z_t c26 hf
                    refine lv_iload hx hb (zD_g DX1_setThatDoesMost 56 rfl) (lv_at hl 7 rfl) ?_
                    refine lv_istore (lv' := [(4, .int y5), (8, .int v24), (0, .ref (q 0)), (1, .int a_gift), (2, .int a_hour), (3, .int r1), (5, .int y4), (6, .int y5), (7, .int r15)]) hx hb (zD_g DX1_setThatDoesMost 57 rfl) hl (by decide) rfl (fun ls hl => ?_)
                    refine lv_iload hx hb (zD_g DX1_setThatDoesMost 58 rfl) (lv_at hl 8 rfl) ?_
                    refine lv_istore (lv' := [(5, .int r15), (4, .int y5), (8, .int v24), (0, .ref (q 0)), (1, .int a_gift), (2, .int a_hour), (3, .int r1), (6, .int y5), (7, .int r15)]) hx hb (zD_g DX1_setThatDoesMost 59 rfl) hl (by decide) rfl (fun ls hl => ?_)
                    refine lv_iinc (v := y5 + 1) (lv' := [(6, .int (y5 + 1)), (5, .int r15), (4, .int y5), (8, .int v24), (0, .ref (q 0)), (1, .int a_gift), (2, .int a_hour), (3, .int r1), (7, .int r15)]) (k := 7) hx hb (zD_g DX1_setThatDoesMost 60 rfl) hl rfl rfl (by decide) rfl (fun ls hl => ?_)
                    refine lv_goto (tgt := 15) hx hb (zD_g DX1_setThatDoesMost 61 rfl) (by decide) ?_
                    exact ih6 _ _ _ hf ls (lv_sub hl [4, 5, 6, 7, 2, 1, 0] rfl)
                  · replace hf := z_f c26 hf
                    refine lv_iload hx hb (zD_g DX1_setThatDoesMost 51 rfl) (lv_at hl 8 rfl) ?_
                    refine lv_iload hx hb (zD_g DX1_setThatDoesMost 52 rfl) (lv_at hl 6 rfl) ?_
                    refine lv_icmp_ne (tgt := 116) hx hb (zD_g DX1_setThatDoesMost 53 rfl) (by decide) (fun c27 => ?_) (fun c27 => ?_)
                    · replace hf := z_f c27 hf
                      refine lv_iinc (v := y5 + 1) (lv' := [(6, .int (y5 + 1)), (8, .int v24), (0, .ref (q 0)), (1, .int a_gift), (2, .int a_hour), (3, .int r1), (4, .int y3), (5, .int y4), (7, .int r15)]) (k := 7) hx hb (zD_g DX1_setThatDoesMost 60 rfl) hl rfl rfl (by decide) rfl (fun ls hl => ?_)
                      refine lv_goto (tgt := 15) hx hb (zD_g DX1_setThatDoesMost 61 rfl) (by decide) ?_
                      exact ih6 _ _ _ hf ls (lv_sub hl [2, 3, 4, 5, 6, 7, 0] rfl)
                    · replace hf := z_t c27 hf
                      refine lv_iload hx hb (zD_g DX1_setThatDoesMost 54 rfl) (lv_at hl 0 rfl) ?_
                      refine lv_if_eq (tgt := 116) hx hb (zD_g DX1_setThatDoesMost 55 rfl) (by decide) (fun c28 => ?_) (fun c28 => ?_)
                      · replace hf := z_t c28 hf
                        refine lv_iinc (v := y5 + 1) (lv' := [(6, .int (y5 + 1)), (8, .int v24), (0, .ref (q 0)), (1, .int a_gift), (2, .int a_hour), (3, .int r1), (4, .int y3), (5, .int y4), (7, .int r15)]) (k := 7) hx hb (zD_g DX1_setThatDoesMost 60 rfl) hl rfl rfl (by decide) rfl (fun ls hl => ?_)
                        refine lv_goto (tgt := 15) hx hb (zD_g DX1_setThatDoesMost 61 rfl) (by decide) ?_
                        exact ih6 _ _ _ hf ls (lv_sub hl [2, 3, 4, 5, 6, 7, 0] rfl)
                      · replace hf := z_f c28 hf
                        refine lv_iload hx hb (zD_g DX1_setThatDoesMost 56 rfl) (lv_at hl 7 rfl) ?_
                        refine lv_istore (lv' := [(4, .int y5), (8, .int v24), (0, .ref (q 0)), (1, .int a_gift), (2, .int a_hour), (3, .int r1), (5, .int y4), (6, .int y5), (7, .int r15)]) hx hb (zD_g DX1_setThatDoesMost 57 rfl) hl (by decide) rfl (fun ls hl => ?_)
                        refine lv_iload hx hb (zD_g DX1_setThatDoesMost 58 rfl) (lv_at hl 8 rfl) ?_
                        refine lv_istore (lv' := [(5, .int r15), (4, .int y5), (8, .int v24), (0, .ref (q 0)), (1, .int a_gift), (2, .int a_hour), (3, .int r1), (6, .int y5), (7, .int r15)]) hx hb (zD_g DX1_setThatDoesMost 59 rfl) hl (by decide) rfl (fun ls hl => ?_)
                        refine lv_iinc (v := y5 + 1) (lv' := [(6, .int (y5 + 1)), (5, .int r15), (4, .int y5), (8, .int v24), (0, .ref (q 0)), (1, .int a_gift), (2, .int a_hour), (3, .int r1), (7, .int r15)]) (k := 7) hx hb (zD_g DX1_setThatDoesMost 60 rfl) hl rfl rfl (by decide) rfl (fun ls hl => ?_)
                        refine lv_goto (tgt := 15) hx hb (zD_g DX1_setThatDoesMost 61 rfl) (by decide) ?_
                        exact ih6 _ _ _ hf ls (lv_sub hl [4, 5, 6, 7, 2, 1, 0] rfl)
              clear hf
              have hf := hr29
              refine lv_icmp_ge (tgt := 80) hx hb (zD_g DX1_setThatDoesMost 40 rfl) (by decide) (fun c23 => ?_) (fun c23 => ?_)
              · replace hf := z_t c23 hf
                refine lv_iconst (v := (0 : Int32)) hx hb (zD_g DX1_setThatDoesMost 43 rfl) (by decide) ?_
                cases hf
                exact hJ29 ls (lv_sub hl [1, 2, 3, 4, 5, 6, 7, 0] rfl)
              · replace hf := z_f c23 hf
                refine lv_iconst (v := (1 : Int32)) hx hb (zD_g DX1_setThatDoesMost 41 rfl) (by decide) ?_
                refine lv_goto (tgt := 81) hx hb (zD_g DX1_setThatDoesMost 42 rfl) (by decide) ?_
                cases hf
                exact hJ29 ls (lv_sub hl [1, 2, 3, 4, 5, 6, 7, 0] rfl)
            · replace hf := z_t c14 hf
              refine lv_goto (tgt := 116) hx hb (zD_g DX1_setThatDoesMost 29 rfl) (by decide) ?_
              refine lv_iinc (v := y5 + 1) (lv' := [(6, .int (y5 + 1)), (0, .ref (q 0)), (1, .int a_gift), (2, .int a_hour), (3, .int r1), (4, .int y3), (5, .int y4)]) (k := 6) hx hb (zD_g DX1_setThatDoesMost 60 rfl) hl rfl rfl (by decide) rfl (fun ls hl => ?_)
              refine lv_goto (tgt := 15) hx hb (zD_g DX1_setThatDoesMost 61 rfl) (by decide) ?_
              exact ih6 _ _ _ hf ls (lv_sub hl [1, 2, 3, 4, 5, 6, 0] rfl)
  refine hL6 _ (fun y30 hf ls hl => ?_) _ _ _ _ hf ls (lv_sub hl [4, 5, 6, 3, 2, 1, 0] rfl)
  refine lv_iload hx hb (zD_g DX1_setThatDoesMost 62 rfl) (lv_at hl 0 rfl) ?_
  cases hf
  exact hret _ _ (zD_g DX1_setThatDoesMost 63 rfl)
abbrev dlX1_leastGate : List (Nat × Instr × Nat) := [(0, .iconst 0, 1), (1, .istore_n 2, 1), (2, .iconst 0, 1), (3, .istore_n 3, 1), (4, .iload_n 3, 1), (5, .aload_n 0, 1), (6, .getfield 31, 3), (9, .if_icmp .ge 67, 3), (12, .aload_n 0, 1), (13, .iload_n 3, 1), (14, .invokevirtual 35, 3), (17, .istore 4, 2), (19, .aload_n 0, 1), (20, .getfield 38, 3), (23, .iload_n 3, 1), (24, .iaload, 1), (25, .iload_n 1, 1), (26, .if_icmp .ne 44, 3), (29, .iload 4, 2), (31, .ifCond .ne 6, 3), (34, .goto 36, 3), (37, .aload_n 0, 1), (38, .iload_n 3, 1), (39, .iload 4, 2), (41, .invokevirtual 42, 3), (44, .ifCond .ne 13, 3), (47, .aload_n 0, 1), (48, .iload_n 3, 1), (49, .iload 4, 2), (51, .invokevirtual 45, 3), (54, .ifCond .eq 5, 3), (57, .iconst (-1), 1), (58, .ireturn, 1), (59, .iload_n 2, 1), (60, .aload_n 0, 1), (61, .getfield 48, 3), (64, .iload_n 3, 1), (65, .iaload, 1), (66, .invokestatic 51, 3), (69, .istore_n 2, 1), (70, .iinc 3 1, 3), (73, .goto (-69), 3), (76, .iload_n 2, 1), (77, .bipush 30, 2), (79, .if_icmp .gt 7, 3), (82, .iload_n 2, 1), (83, .goto 4, 3), (86, .iconst (-1), 1), (87, .ireturn, 1)]
theorem DX1_leastGate : zD cX1_leastGate dlX1_leastGate = true := by decide +kernel
set_option maxRecDepth 20000 in
theorem ggX1_leastGate_X4_inside : GoodIn wsX1_leastGate wsX4_inside := goodIn_r _ [12, 13, 14, 49, 50, 51, 52, 53, 54, 55, 56, 57, 58, 59, 60, 61, 62, 63, 64, 65, 66, 67] (by decide +kernel) (by decide +kernel)
set_option maxRecDepth 20000 in
theorem gX1_leastGate_X4_inside : GoodIn wsX1_leastGate (wsV RX1 35 RX4 yX4_inside wsX4_inside) := goodIn_app (goodIn_of _ (by decide +kernel)) ggX1_leastGate_X4_inside
set_option maxRecDepth 20000 in
theorem ggX1_leastGate_X4_isHeard : GoodIn wsX1_leastGate wsX4_isHeard := goodIn_r _ [18, 19, 20, 21, 22, 11, 23, 24, 25, 26, 27, 28, 29, 30, 31, 32, 33, 49, 50, 51, 52, 53, 54, 55, 56, 57, 58, 59, 60, 61, 62, 63, 64, 65, 66, 67] (by decide +kernel) (by decide +kernel)
set_option maxRecDepth 20000 in
theorem gX1_leastGate_X4_isHeard : GoodIn wsX1_leastGate (wsV RX1 42 RX4 yX4_isHeard wsX4_isHeard) := goodIn_app (goodIn_of _ (by decide +kernel)) ggX1_leastGate_X4_isHeard
set_option maxRecDepth 20000 in
theorem ggX1_leastGate_X4_isHeavy : GoodIn wsX1_leastGate wsX4_isHeavy := goodIn_r _ [37, 38, 39, 40, 41, 11, 42, 25, 43, 44, 45, 46, 47, 6, 48, 26, 27, 28, 29, 30, 31, 32, 33, 49, 50, 51, 52, 53, 54, 55, 56, 57, 58, 59, 60, 61, 62, 63, 64, 65, 66, 67] (by decide +kernel) (by decide +kernel)
set_option maxRecDepth 20000 in
theorem gX1_leastGate_X4_isHeavy : GoodIn wsX1_leastGate (wsV RX1 45 RX4 yX4_isHeavy wsX4_isHeavy) := goodIn_app (goodIn_of _ (by decide +kernel)) ggX1_leastGate_X4_isHeavy
theorem hd1_leastGate : yX1_leastGate.cls ≠ "java/lang/invoke/MethodHandle" ∧ yX1_leastGate.cls ≠ "java/lang/invoke/VarHandle" ∧ (parseMethodDescriptor yX1_leastGate.desc).map (fun d => d.parameters.length) = some 2 := by decide +kernel
abbrev rm1_leastGate : Room := { frames := 3, cells := 0, slots := 0, locals := 68 }
theorem in1_leastGate_4 : ∀ w ∈ wsX40, w ∈ wsX1_leastGate := fun w h => List.mem_cons_of_mem _ (List.mem_append_right _ h)
set_option maxHeartbeats 4000000 in
set_option maxRecDepth 100000 in
theorem c1_leastGate {l : Launch} {D : va_G} {cI cZ cB : ClassId} {q : Nat → Nat} {things : Int32} {gifts : Int32} {days : Int32} {size : Nat → Int32} {weight : Nat → Int32} {sound : Nat → Int32} {harm : Nat → Int32} {in_ : Nat → Int32} {kind : Nat → Int32} {owner : Nat → Int32} {empty : Nat → Int32} {room : Nat → Int32} {told : Nat → Int32} {gate : Nat → Int32} {ear : Nat → Int32} {scale : Nat → Int32} {lost : Nat → Int32} {watch : Nat → Int32} {moments : Int32} {kept : Nat → Int32} {a_city : Int32} {r : Int32}  (hf : f1_leastGate things gifts days weight sound in_ kind owner empty room ear scale a_city = some r) : Met l yX1_leastGate wsX1_leastGate rm1_leastGate (zPp D cI cZ cB [.ref (q 0), .int a_city] (cWar cI q things gifts days size weight sound harm in_ kind owner empty room told gate ear scale lost watch moments kept)) (zQp (some (.int r))) 0 0 (fun _ => False) := by
  unfold f1_leastGate at hf
  refine z_pureI RX1 (by decide +kernel) rfl rfl (Nat.le_of_ble_eq_true rfl) ?_
  intro p e s m args below meth c Q ls hx hb hml hown hts hK hP hret hl
  have hl : lv_has ls 5 [(0, .ref (q 0)), (1, .int a_city)] := hl
  refine lv_iconst (v := (0 : Int32)) hx hb (zD_g DX1_leastGate 0 rfl) (by decide) ?_
  refine lv_istore_n (lv' := [(2, .int (0 : Int32)), (0, .ref (q 0)), (1, .int a_city)]) hx hb (zD_g DX1_leastGate 1 rfl) rfl hl (by decide) rfl (fun ls hl => ?_)
  refine lv_iconst (v := (0 : Int32)) hx hb (zD_g DX1_leastGate 2 rfl) (by decide) ?_
  refine lv_istore_n (lv' := [(3, .int (0 : Int32)), (2, .int (0 : Int32)), (0, .ref (q 0)), (1, .int a_city)]) hx hb (zD_g DX1_leastGate 3 rfl) rfl hl (by decide) rfl (fun ls hl => ?_)
  have hL3 : ∀ (k3 : Int32 → Option (Int32)) (hk3 : ∀ (y18 : Int32), k3 y18 = some r → ∀ (ls : Array Slot), lv_has ls 5 [(2, .int y18)] → W p l e rm1_leastGate s m args below meth c s.heap [] 0 0 Q (F0 m 76 ls [])) (n3 : Nat) (y1 : Int32) (y2 : Int32), L1_leastGate_4 k3 things gifts days weight sound in_ kind owner empty room ear scale a_city n3 y1 y2 = some r → ∀ (ls : Array Slot), lv_has ls 5 [(0, .ref (q 0)), (1, .int a_city), (2, .int y1), (3, .int y2)] → W p l e rm1_leastGate s m args below meth c s.heap [] 0 0 Q (F0 m 4 ls []) := by
    intro k3 hk3 n3
    induction n3 with
    | zero =>
      intro y1 y2 hf
      cases hf
    | succ n3 ih3 =>
      intro y1 y2 hf ls hl
      rw [L1_leastGate_4] at hf
      refine lv_iload_n hx hb (zD_g DX1_leastGate 4 rfl) rfl (lv_at hl 3 rfl) ?_
      refine lv_aload_n hx hb (zD_g DX1_leastGate 5 rfl) rfl (lv_at hl 0 rfl) ?_
      refine va_get (D := D) (ci := 3) (v := .int gifts) (C := RX4) (T := TX4) (N := 19) hx hb hts in1_leastGate_4 hown hK.1 hP 0 rfl rfl 1 (by decide) (hts _ (List.mem_of_getElem? (i := 1) rfl)) (fun _ h9 => h9) rfl (zD_g DX1_leastGate 6 rfl) ?_
      refine lv_icmp_ge (tgt := 76) hx hb (zD_g DX1_leastGate 7 rfl) (by decide) (fun c4 => ?_) (fun c4 => ?_)
      · replace hf := z_t c4 hf
        exact hk3 _ hf ls (lv_sub hl [2] rfl)
      · replace hf := z_f c4 hf
        refine lv_aload_n hx hb (zD_g DX1_leastGate 8 rfl) rfl (lv_at hl 0 rfl) ?_
        refine lv_iload_n hx hb (zD_g DX1_leastGate 9 rfl) rfl (lv_at hl 3 rfl) ?_
        obtain ⟨r5, hc6, hf⟩ := zb1_s hf
        refine z_Vp (As := [.int y2]) (rest := []) ⟨hx, hb, hml, hown, hts⟩ hK (c4_inside (things := things) (gifts := gifts) (days := days) (size := size) (weight := weight) (sound := sound) (harm := harm) (in_ := in_) (kind := kind) (owner := owner) (empty := empty) (room := room) (told := told) (gate := gate) (ear := ear) (scale := scale) (lost := lost) (watch := watch) (moments := moments) (kept := kept) (q := q) hc6) (cwV 1 hts gX1_leastGate_X4_inside rfl rfl rfl hd4_inside ⟨Nat.le_of_ble_eq_true rfl, Nat.le_of_ble_eq_true rfl⟩) hP rfl rfl rfl rfl hl.1 rfl rfl (Nat.le_of_ble_eq_true rfl) (zD_g DX1_leastGate 10 rfl) ⟨Nat.zero_le _, Nat.zero_le _⟩ ?_
        refine lv_istore (lv' := [(4, .int r5), (0, .ref (q 0)), (1, .int a_city), (2, .int y1), (3, .int y2)]) hx hb (zD_g DX1_leastGate 11 rfl) hl (by decide) rfl (fun ls hl => ?_)
        refine lv_aload_n hx hb (zD_g DX1_leastGate 12 rfl) rfl (lv_at hl 1 rfl) ?_
        refine va_get (D := D) (ci := 3) (v := .ref (q 7)) (C := RX4) (T := TX4) (N := 19) hx hb hts in1_leastGate_4 hown hK.1 hP 0 rfl rfl 9 (by decide) (hts _ (List.mem_of_getElem? (i := 2) rfl)) (fun _ h9 => h9) rfl (zD_g DX1_leastGate 13 rfl) ?_
        refine lv_iload_n hx hb (zD_g DX1_leastGate 14 rfl) rfl (lv_at hl 4 rfl) ?_
        obtain ⟨h7, hf⟩ := zg_s hf
        refine z_iald (k := y2.toNatClampNeg) hx hb hK.1 hP 7 0 rfl rfl h7 rfl (zD_g DX1_leastGate 15 rfl) ?_
        refine lv_iload_n hx hb (zD_g DX1_leastGate 16 rfl) rfl (lv_at hl 2 rfl) ?_
        refine lv_icmp_ne (tgt := 70) hx hb (zD_g DX1_leastGate 17 rfl) (by decide) (fun c8 => ?_) (fun c8 => ?_)
        · replace hf := z_f c8 hf
          refine lv_iinc (v := y2 + 1) (lv' := [(3, .int (y2 + 1)), (4, .int r5), (0, .ref (q 0)), (1, .int a_city), (2, .int y1)]) (k := 4) hx hb (zD_g DX1_leastGate 40 rfl) hl rfl rfl (by decide) rfl (fun ls hl => ?_)
          refine lv_goto (tgt := 4) hx hb (zD_g DX1_leastGate 41 rfl) (by decide) ?_
          exact ih3 _ _ hf ls (lv_sub hl [2, 3, 4, 0] rfl)
        · replace hf := z_t c8 hf
          refine lv_iload hx hb (zD_g DX1_leastGate 18 rfl) (lv_at hl 0 rfl) ?_
          refine lv_if_ne (tgt := 37) hx hb (zD_g DX1_leastGate 19 rfl) (by decide) (fun c9 => ?_) (fun c9 => ?_)
          · replace hf := z_f c9 hf
            refine lv_aload_n hx hb (zD_g DX1_leastGate 21 rfl) rfl (lv_at hl 1 rfl) ?_
            refine lv_iload_n hx hb (zD_g DX1_leastGate 22 rfl) rfl (lv_at hl 4 rfl) ?_
            refine lv_iload hx hb (zD_g DX1_leastGate 23 rfl) (lv_at hl 0 rfl) ?_
            obtain ⟨r10, hc11, hf⟩ := zb1_s hf
            refine z_Vp (As := [.int y2, .int r5]) (rest := []) ⟨hx, hb, hml, hown, hts⟩ hK (c4_isHeard (things := things) (gifts := gifts) (days := days) (size := size) (weight := weight) (sound := sound) (harm := harm) (in_ := in_) (kind := kind) (owner := owner) (empty := empty) (room := room) (told := told) (gate := gate) (ear := ear) (scale := scale) (lost := lost) (watch := watch) (moments := moments) (kept := kept) (q := q) hc11) (cwV 2 hts gX1_leastGate_X4_isHeard rfl rfl rfl hd4_isHeard ⟨Nat.le_of_ble_eq_true rfl, Nat.le_of_ble_eq_true rfl⟩) hP rfl rfl rfl rfl hl.1 rfl rfl (Nat.le_of_ble_eq_true rfl) (zD_g DX1_leastGate 24 rfl) ⟨Nat.zero_le _, Nat.zero_le _⟩ ?_
            refine lv_if_ne (tgt := 57) hx hb (zD_g DX1_leastGate 25 rfl) (by decide) (fun c12 => ?_) (fun c12 => ?_)
            · replace hf := z_f c12 hf
              refine lv_iconst (v := (-1 : Int32)) hx hb (zD_g DX1_leastGate 31 rfl) (by decide) ?_
              cases hf
              exact hret _ _ (zD_g DX1_leastGate 32 rfl)
            · replace hf := z_t c12 hf
              refine lv_aload_n hx hb (zD_g DX1_leastGate 26 rfl) rfl (lv_at hl 1 rfl) ?_
              refine lv_iload_n hx hb (zD_g DX1_leastGate 27 rfl) rfl (lv_at hl 4 rfl) ?_
              refine lv_iload hx hb (zD_g DX1_leastGate 28 rfl) (lv_at hl 0 rfl) ?_
              obtain ⟨r13, hc14, hf⟩ := zb1_s hf
              refine z_Vp (As := [.int y2, .int r5]) (rest := []) ⟨hx, hb, hml, hown, hts⟩ hK (c4_isHeavy (things := things) (gifts := gifts) (days := days) (size := size) (weight := weight) (sound := sound) (harm := harm) (in_ := in_) (kind := kind) (owner := owner) (empty := empty) (room := room) (told := told) (gate := gate) (ear := ear) (scale := scale) (lost := lost) (watch := watch) (moments := moments) (kept := kept) (q := q) hc14) (cwV 2 hts gX1_leastGate_X4_isHeavy rfl rfl rfl hd4_isHeavy ⟨Nat.le_of_ble_eq_true rfl, Nat.le_of_ble_eq_true rfl⟩) hP rfl rfl rfl rfl hl.1 rfl rfl (Nat.le_of_ble_eq_true rfl) (zD_g DX1_leastGate 29 rfl) ⟨Nat.zero_le _, Nat.zero_le _⟩ ?_
              refine lv_if_eq (tgt := 59) hx hb (zD_g DX1_leastGate 30 rfl) (by decide) (fun c15 => ?_) (fun c15 => ?_)
              · replace hf := z_t c15 hf
                refine lv_iload_n hx hb (zD_g DX1_leastGate 33 rfl) rfl (lv_at hl 3 rfl) ?_
                refine lv_aload_n hx hb (zD_g DX1_leastGate 34 rfl) rfl (lv_at hl 1 rfl) ?_
                refine va_get (D := D) (ci := 3) (v := .ref (q 9)) (C := RX4) (T := TX4) (N := 19) hx hb hts in1_leastGate_4 hown hK.1 hP 0 rfl rfl 11 (by decide) (hts _ (List.mem_of_getElem? (i := 3) rfl)) (fun _ h9 => h9) rfl (zD_g DX1_leastGate 35 rfl) ?_
                refine lv_iload_n hx hb (zD_g DX1_leastGate 36 rfl) rfl (lv_at hl 4 rfl) ?_
                obtain ⟨h16, hf⟩ := zg_s hf
                refine z_iald (k := y2.toNatClampNeg) hx hb hK.1 hP 9 0 rfl rfl h16 rfl (zD_g DX1_leastGate 37 rfl) ?_
                refine va_mmax hx hb (hml.trans hl.1.symm) hown (hts _ (List.mem_of_getElem? (i := 4) rfl)) (hts _ (List.mem_of_getElem? (i := 5) rfl)) (hts _ (List.mem_of_getElem? (i := 6) rfl)) (hts _ (List.mem_of_getElem? (i := 7) rfl)) (Nat.le_of_ble_eq_true rfl) (Nat.le_of_ble_eq_true rfl) (Nat.zero_le _) (Nat.zero_le _) (zD_g DX1_leastGate 38 rfl) ?_
                refine lv_topi (fun x17 ex17 => ?_)
                replace hf := zl_s hf x17 ex17
                refine lv_istore_n (lv' := [(2, .int x17), (4, .int r5), (0, .ref (q 0)), (1, .int a_city), (3, .int y2)]) hx hb (zD_g DX1_leastGate 39 rfl) rfl hl (by decide) rfl (fun ls hl => ?_)
                refine lv_iinc (v := y2 + 1) (lv' := [(3, .int (y2 + 1)), (2, .int x17), (4, .int r5), (0, .ref (q 0)), (1, .int a_city)]) (k := 4) hx hb (zD_g DX1_leastGate 40 rfl) hl rfl rfl (by decide) rfl (fun ls hl => ?_)
                refine lv_goto (tgt := 4) hx hb (zD_g DX1_leastGate 41 rfl) (by decide) ?_
                exact ih3 _ _ hf ls (lv_sub hl [3, 4, 1, 0] rfl)
              · replace hf := z_f c15 hf
                refine lv_iconst (v := (-1 : Int32)) hx hb (zD_g DX1_leastGate 31 rfl) (by decide) ?_
                cases hf
                exact hret _ _ (zD_g DX1_leastGate 32 rfl)
          · replace hf := z_t c9 hf
            refine lv_goto (tgt := 70) hx hb (zD_g DX1_leastGate 20 rfl) (by decide) ?_
            refine lv_iinc (v := y2 + 1) (lv' := [(3, .int (y2 + 1)), (4, .int r5), (0, .ref (q 0)), (1, .int a_city), (2, .int y1)]) (k := 4) hx hb (zD_g DX1_leastGate 40 rfl) hl rfl rfl (by decide) rfl (fun ls hl => ?_)
            refine lv_goto (tgt := 4) hx hb (zD_g DX1_leastGate 41 rfl) (by decide) ?_
            exact ih3 _ _ hf ls (lv_sub hl [2, 3, 4, 0] rfl)
  refine hL3 _ (fun y18 hf ls hl => ?_) _ _ _ hf ls (lv_sub hl [2, 3, 1, 0] rfl)
  refine lv_iload_n hx hb (zD_g DX1_leastGate 42 rfl) rfl (lv_at hl 0 rfl) ?_
  refine lv_bipush (v := (30 : Int32)) hx hb (zD_g DX1_leastGate 43 rfl) (by decide) ?_
  refine lv_icmp_gt (tgt := 86) hx hb (zD_g DX1_leastGate 44 rfl) (by decide) (fun c19 => ?_) (fun c19 => ?_)
  · replace hf := z_t c19 hf
    refine lv_iconst (v := (-1 : Int32)) hx hb (zD_g DX1_leastGate 47 rfl) (by decide) ?_
    cases hf
    exact hret _ _ (zD_g DX1_leastGate 48 rfl)
  · replace hf := z_f c19 hf
    refine lv_iload_n hx hb (zD_g DX1_leastGate 45 rfl) rfl (lv_at hl 0 rfl) ?_
    refine lv_goto (tgt := 87) hx hb (zD_g DX1_leastGate 46 rfl) (by decide) ?_
    cases hf
    exact hret _ _ (zD_g DX1_leastGate 48 rfl)
abbrev dlX1_leastEar : List (Nat × Instr × Nat) := [(0, .iconst 0, 1), (1, .istore_n 2, 1), (2, .iconst 0, 1), (3, .istore_n 3, 1), (4, .iload_n 3, 1), (5, .aload_n 0, 1), (6, .getfield 31, 3), (9, .if_icmp .ge 68, 3), (12, .aload_n 0, 1), (13, .iload_n 3, 1), (14, .invokevirtual 35, 3), (17, .istore 4, 2), (19, .aload_n 0, 1), (20, .getfield 38, 3), (23, .iload_n 3, 1), (24, .iaload, 1), (25, .iload_n 1, 1), (26, .if_icmp .ne 45, 3), (29, .iload 4, 2), (31, .ifCond .ne 6, 3), (34, .goto 37, 3), (37, .aload_n 0, 1), (38, .iload_n 3, 1), (39, .invokevirtual 57, 3), (42, .ifCond .eq 13, 3), (45, .aload_n 0, 1), (46, .iload_n 3, 1), (47, .iload 4, 2), (49, .invokevirtual 45, 3), (52, .ifCond .eq 5, 3), (55, .iconst (-1), 1), (56, .ireturn, 1), (57, .iload_n 2, 1), (58, .aload_n 0, 1), (59, .iload_n 3, 1), (60, .iload 4, 2), (62, .invokevirtual 61, 3), (65, .iconst 1, 1), (66, .iadd, 1), (67, .invokestatic 51, 3), (70, .istore_n 2, 1), (71, .iinc 3 1, 3), (74, .goto (-70), 3), (77, .iload_n 2, 1), (78, .bipush 50, 2), (80, .if_icmp .gt 7, 3), (83, .iload_n 2, 1), (84, .goto 4, 3), (87, .iconst (-1), 1), (88, .ireturn, 1)]
theorem DX1_leastEar : zD cX1_leastEar dlX1_leastEar = true := by decide +kernel
set_option maxRecDepth 20000 in
theorem ggX1_leastEar_X4_inside : GoodIn wsX1_leastEar wsX4_inside := goodIn_r _ [11, 12, 13, 49, 50, 51, 52, 53, 54, 55, 56, 57, 58, 59, 60, 61, 62, 63, 64, 65, 66, 67] (by decide +kernel) (by decide +kernel)
set_option maxRecDepth 20000 in
theorem gX1_leastEar_X4_inside : GoodIn wsX1_leastEar (wsV RX1 35 RX4 yX4_inside wsX4_inside) := goodIn_app (goodIn_of _ (by decide +kernel)) ggX1_leastEar_X4_inside
set_option maxRecDepth 20000 in
theorem ggX1_leastEar_X4_fitsGate : GoodIn wsX1_leastEar wsX4_fitsGate := goodIn_r _ [17, 18, 19, 20, 21, 22, 10, 23, 24, 49, 50, 51, 52, 53, 54, 55, 56, 57, 58, 59, 60, 61, 62, 63, 64, 65, 66, 67] (by decide +kernel) (by decide +kernel)
set_option maxRecDepth 20000 in
theorem gX1_leastEar_X4_fitsGate : GoodIn wsX1_leastEar (wsV RX1 57 RX4 yX4_fitsGate wsX4_fitsGate) := goodIn_app (goodIn_of _ (by decide +kernel)) ggX1_leastEar_X4_fitsGate
set_option maxRecDepth 20000 in
theorem ggX1_leastEar_X4_isHeavy : GoodIn wsX1_leastEar wsX4_isHeavy := goodIn_r _ [28, 29, 30, 31, 32, 10, 33, 34, 35, 36, 37, 38, 39, 5, 40, 41, 42, 43, 20, 21, 22, 23, 24, 49, 50, 51, 52, 53, 54, 55, 56, 57, 58, 59, 60, 61, 62, 63, 64, 65, 66, 67] (by decide +kernel) (by decide +kernel)
set_option maxRecDepth 20000 in
theorem gX1_leastEar_X4_isHeavy : GoodIn wsX1_leastEar (wsV RX1 45 RX4 yX4_isHeavy wsX4_isHeavy) := goodIn_app (goodIn_of _ (by decide +kernel)) ggX1_leastEar_X4_isHeavy
set_option maxRecDepth 20000 in
theorem ggX1_leastEar_X4_sounds : GoodIn wsX1_leastEar wsX4_sounds := goodIn_r _ [47, 48, 34, 41, 42, 43, 49, 50, 51, 52, 53, 54, 55, 56, 57, 58, 59, 60, 61, 62, 63, 64, 65, 66, 67] (by decide +kernel) (by decide +kernel)
set_option maxRecDepth 20000 in
theorem gX1_leastEar_X4_sounds : GoodIn wsX1_leastEar (wsV RX1 61 RX4 yX4_sounds wsX4_sounds) := goodIn_app (goodIn_of _ (by decide +kernel)) ggX1_leastEar_X4_sounds
theorem hd1_leastEar : yX1_leastEar.cls ≠ "java/lang/invoke/MethodHandle" ∧ yX1_leastEar.cls ≠ "java/lang/invoke/VarHandle" ∧ (parseMethodDescriptor yX1_leastEar.desc).map (fun d => d.parameters.length) = some 2 := by decide +kernel
abbrev rm1_leastEar : Room := { frames := 3, cells := 0, slots := 0, locals := 67 }
theorem in1_leastEar_4 : ∀ w ∈ wsX40, w ∈ wsX1_leastEar := fun w h => List.mem_cons_of_mem _ (List.mem_append_right _ h)
set_option maxHeartbeats 4000000 in
set_option maxRecDepth 100000 in
theorem c1_leastEar {l : Launch} {D : va_G} {cI cZ cB : ClassId} {q : Nat → Nat} {things : Int32} {gifts : Int32} {days : Int32} {size : Nat → Int32} {weight : Nat → Int32} {sound : Nat → Int32} {harm : Nat → Int32} {in_ : Nat → Int32} {kind : Nat → Int32} {owner : Nat → Int32} {empty : Nat → Int32} {room : Nat → Int32} {told : Nat → Int32} {gate : Nat → Int32} {ear : Nat → Int32} {scale : Nat → Int32} {lost : Nat → Int32} {watch : Nat → Int32} {moments : Int32} {kept : Nat → Int32} {a_city : Int32} {r : Int32}  (hf : f1_leastEar things gifts days weight sound in_ kind owner empty room gate scale a_city = some r) : Met l yX1_leastEar wsX1_leastEar rm1_leastEar (zPp D cI cZ cB [.ref (q 0), .int a_city] (cWar cI q things gifts days size weight sound harm in_ kind owner empty room told gate ear scale lost watch moments kept)) (zQp (some (.int r))) 0 0 (fun _ => False) := by
  unfold f1_leastEar at hf
  refine z_pureI RX1 (by decide +kernel) rfl rfl (Nat.le_of_ble_eq_true rfl) ?_
  intro p e s m args below meth c Q ls hx hb hml hown hts hK hP hret hl
  have hl : lv_has ls 5 [(0, .ref (q 0)), (1, .int a_city)] := hl
  refine lv_iconst (v := (0 : Int32)) hx hb (zD_g DX1_leastEar 0 rfl) (by decide) ?_
  refine lv_istore_n (lv' := [(2, .int (0 : Int32)), (0, .ref (q 0)), (1, .int a_city)]) hx hb (zD_g DX1_leastEar 1 rfl) rfl hl (by decide) rfl (fun ls hl => ?_)
  refine lv_iconst (v := (0 : Int32)) hx hb (zD_g DX1_leastEar 2 rfl) (by decide) ?_
  refine lv_istore_n (lv' := [(3, .int (0 : Int32)), (2, .int (0 : Int32)), (0, .ref (q 0)), (1, .int a_city)]) hx hb (zD_g DX1_leastEar 3 rfl) rfl hl (by decide) rfl (fun ls hl => ?_)
  have hL3 : ∀ (k3 : Int32 → Option (Int32)) (hk3 : ∀ (y19 : Int32), k3 y19 = some r → ∀ (ls : Array Slot), lv_has ls 5 [(2, .int y19)] → W p l e rm1_leastEar s m args below meth c s.heap [] 0 0 Q (F0 m 77 ls [])) (n3 : Nat) (y1 : Int32) (y2 : Int32), L1_leastEar_4 k3 things gifts days weight sound in_ kind owner empty room gate scale a_city n3 y1 y2 = some r → ∀ (ls : Array Slot), lv_has ls 5 [(0, .ref (q 0)), (1, .int a_city), (2, .int y1), (3, .int y2)] → W p l e rm1_leastEar s m args below meth c s.heap [] 0 0 Q (F0 m 4 ls []) := by
    intro k3 hk3 n3
    induction n3 with
    | zero =>
      intro y1 y2 hf
      cases hf
    | succ n3 ih3 =>
      intro y1 y2 hf ls hl
      rw [L1_leastEar_4] at hf
      refine lv_iload_n hx hb (zD_g DX1_leastEar 4 rfl) rfl (lv_at hl 3 rfl) ?_
      refine lv_aload_n hx hb (zD_g DX1_leastEar 5 rfl) rfl (lv_at hl 0 rfl) ?_
      refine va_get (D := D) (ci := 3) (v := .int gifts) (C := RX4) (T := TX4) (N := 19) hx hb hts in1_leastEar_4 hown hK.1 hP 0 rfl rfl 1 (by decide) (hts _ (List.mem_of_getElem? (i := 1) rfl)) (fun _ h9 => h9) rfl (zD_g DX1_leastEar 6 rfl) ?_
      refine lv_icmp_ge (tgt := 77) hx hb (zD_g DX1_leastEar 7 rfl) (by decide) (fun c4 => ?_) (fun c4 => ?_)
      · replace hf := z_t c4 hf
        exact hk3 _ hf ls (lv_sub hl [2] rfl)
      · replace hf := z_f c4 hf
        refine lv_aload_n hx hb (zD_g DX1_leastEar 8 rfl) rfl (lv_at hl 0 rfl) ?_
        refine lv_iload_n hx hb (zD_g DX1_leastEar 9 rfl) rfl (lv_at hl 3 rfl) ?_
        obtain ⟨r5, hc6, hf⟩ := zb1_s hf
        refine z_Vp (As := [.int y2]) (rest := []) ⟨hx, hb, hml, hown, hts⟩ hK (c4_inside (things := things) (gifts := gifts) (days := days) (size := size) (weight := weight) (sound := sound) (harm := harm) (in_ := in_) (kind := kind) (owner := owner) (empty := empty) (room := room) (told := told) (gate := gate) (ear := ear) (scale := scale) (lost := lost) (watch := watch) (moments := moments) (kept := kept) (q := q) hc6) (cwV 1 hts gX1_leastEar_X4_inside rfl rfl rfl hd4_inside ⟨Nat.le_of_ble_eq_true rfl, Nat.le_of_ble_eq_true rfl⟩) hP rfl rfl rfl rfl hl.1 rfl rfl (Nat.le_of_ble_eq_true rfl) (zD_g DX1_leastEar 10 rfl) ⟨Nat.zero_le _, Nat.zero_le _⟩ ?_
        refine lv_istore (lv' := [(4, .int r5), (0, .ref (q 0)), (1, .int a_city), (2, .int y1), (3, .int y2)]) hx hb (zD_g DX1_leastEar 11 rfl) hl (by decide) rfl (fun ls hl => ?_)
        refine lv_aload_n hx hb (zD_g DX1_leastEar 12 rfl) rfl (lv_at hl 1 rfl) ?_
        refine va_get (D := D) (ci := 3) (v := .ref (q 7)) (C := RX4) (T := TX4) (N := 19) hx hb hts in1_leastEar_4 hown hK.1 hP 0 rfl rfl 9 (by decide) (hts _ (List.mem_of_getElem? (i := 2) rfl)) (fun _ h9 => h9) rfl (zD_g DX1_leastEar 13 rfl) ?_
        refine lv_iload_n hx hb (zD_g DX1_leastEar 14 rfl) rfl (lv_at hl 4 rfl) ?_
        obtain ⟨h7, hf⟩ := zg_s hf
        refine z_iald (k := y2.toNatClampNeg) hx hb hK.1 hP 7 0 rfl rfl h7 rfl (zD_g DX1_leastEar 15 rfl) ?_
        refine lv_iload_n hx hb (zD_g DX1_leastEar 16 rfl) rfl (lv_at hl 2 rfl) ?_
        refine lv_icmp_ne (tgt := 71) hx hb (zD_g DX1_leastEar 17 rfl) (by decide) (fun c8 => ?_) (fun c8 => ?_)
        · replace hf := z_f c8 hf
          refine lv_iinc (v := y2 + 1) (lv' := [(3, .int (y2 + 1)), (4, .int r5), (0, .ref (q 0)), (1, .int a_city), (2, .int y1)]) (k := 4) hx hb (zD_g DX1_leastEar 41 rfl) hl rfl rfl (by decide) rfl (fun ls hl => ?_)
          refine lv_goto (tgt := 4) hx hb (zD_g DX1_leastEar 42 rfl) (by decide) ?_
          exact ih3 _ _ hf ls (lv_sub hl [2, 3, 4, 0] rfl)
        · replace hf := z_t c8 hf
          refine lv_iload hx hb (zD_g DX1_leastEar 18 rfl) (lv_at hl 0 rfl) ?_
          refine lv_if_ne (tgt := 37) hx hb (zD_g DX1_leastEar 19 rfl) (by decide) (fun c9 => ?_) (fun c9 => ?_)
          · replace hf := z_f c9 hf
            refine lv_aload_n hx hb (zD_g DX1_leastEar 21 rfl) rfl (lv_at hl 1 rfl) ?_
            refine lv_iload_n hx hb (zD_g DX1_leastEar 22 rfl) rfl (lv_at hl 4 rfl) ?_
            obtain ⟨r10, hc11, hf⟩ := zb1_s hf
            refine z_Vp (As := [.int y2]) (rest := []) ⟨hx, hb, hml, hown, hts⟩ hK (c4_fitsGate (things := things) (gifts := gifts) (days := days) (size := size) (weight := weight) (sound := sound) (harm := harm) (in_ := in_) (kind := kind) (owner := owner) (empty := empty) (room := room) (told := told) (gate := gate) (ear := ear) (scale := scale) (lost := lost) (watch := watch) (moments := moments) (kept := kept) (q := q) hc11) (cwV 1 hts gX1_leastEar_X4_fitsGate rfl rfl rfl hd4_fitsGate ⟨Nat.le_of_ble_eq_true rfl, Nat.le_of_ble_eq_true rfl⟩) hP rfl rfl rfl rfl hl.1 rfl rfl (Nat.le_of_ble_eq_true rfl) (zD_g DX1_leastEar 23 rfl) ⟨Nat.zero_le _, Nat.zero_le _⟩ ?_
            refine lv_if_eq (tgt := 55) hx hb (zD_g DX1_leastEar 24 rfl) (by decide) (fun c12 => ?_) (fun c12 => ?_)
            · replace hf := z_t c12 hf
              refine lv_iconst (v := (-1 : Int32)) hx hb (zD_g DX1_leastEar 30 rfl) (by decide) ?_
              cases hf
              exact hret _ _ (zD_g DX1_leastEar 31 rfl)
            · replace hf := z_f c12 hf
              refine lv_aload_n hx hb (zD_g DX1_leastEar 25 rfl) rfl (lv_at hl 1 rfl) ?_
              refine lv_iload_n hx hb (zD_g DX1_leastEar 26 rfl) rfl (lv_at hl 4 rfl) ?_
              refine lv_iload hx hb (zD_g DX1_leastEar 27 rfl) (lv_at hl 0 rfl) ?_
              obtain ⟨r13, hc14, hf⟩ := zb1_s hf
              refine z_Vp (As := [.int y2, .int r5]) (rest := []) ⟨hx, hb, hml, hown, hts⟩ hK (c4_isHeavy (things := things) (gifts := gifts) (days := days) (size := size) (weight := weight) (sound := sound) (harm := harm) (in_ := in_) (kind := kind) (owner := owner) (empty := empty) (room := room) (told := told) (gate := gate) (ear := ear) (scale := scale) (lost := lost) (watch := watch) (moments := moments) (kept := kept) (q := q) hc14) (cwV 2 hts gX1_leastEar_X4_isHeavy rfl rfl rfl hd4_isHeavy ⟨Nat.le_of_ble_eq_true rfl, Nat.le_of_ble_eq_true rfl⟩) hP rfl rfl rfl rfl hl.1 rfl rfl (Nat.le_of_ble_eq_true rfl) (zD_g DX1_leastEar 28 rfl) ⟨Nat.zero_le _, Nat.zero_le _⟩ ?_
              refine lv_if_eq (tgt := 57) hx hb (zD_g DX1_leastEar 29 rfl) (by decide) (fun c15 => ?_) (fun c15 => ?_)
              · replace hf := z_t c15 hf
                refine lv_iload_n hx hb (zD_g DX1_leastEar 32 rfl) rfl (lv_at hl 3 rfl) ?_
                refine lv_aload_n hx hb (zD_g DX1_leastEar 33 rfl) rfl (lv_at hl 1 rfl) ?_
                refine lv_iload_n hx hb (zD_g DX1_leastEar 34 rfl) rfl (lv_at hl 4 rfl) ?_
                refine lv_iload hx hb (zD_g DX1_leastEar 35 rfl) (lv_at hl 0 rfl) ?_
                obtain ⟨r16, hc17, hf⟩ := zb1_s hf
                refine z_Vp (As := [.int y2, .int r5]) (rest := [.int y1]) ⟨hx, hb, hml, hown, hts⟩ hK (c4_sounds (things := things) (gifts := gifts) (days := days) (size := size) (weight := weight) (sound := sound) (harm := harm) (in_ := in_) (kind := kind) (owner := owner) (empty := empty) (room := room) (told := told) (gate := gate) (ear := ear) (scale := scale) (lost := lost) (watch := watch) (moments := moments) (kept := kept) (q := q) hc17) (cwV 2 hts gX1_leastEar_X4_sounds rfl rfl rfl hd4_sounds ⟨Nat.le_of_ble_eq_true rfl, Nat.le_of_ble_eq_true rfl⟩) hP rfl rfl rfl rfl hl.1 rfl rfl (Nat.le_of_ble_eq_true rfl) (zD_g DX1_leastEar 36 rfl) ⟨Nat.zero_le _, Nat.zero_le _⟩ ?_
                refine lv_iconst (v := (1 : Int32)) hx hb (zD_g DX1_leastEar 37 rfl) (by decide) ?_
                refine lv_iadd hx hb (zD_g DX1_leastEar 38 rfl) ?_
                refine va_mmax hx hb (hml.trans hl.1.symm) hown (hts _ (List.mem_of_getElem? (i := 3) rfl)) (hts _ (List.mem_of_getElem? (i := 4) rfl)) (hts _ (List.mem_of_getElem? (i := 5) rfl)) (hts _ (List.mem_of_getElem? (i := 6) rfl)) (Nat.le_of_ble_eq_true rfl) (Nat.le_of_ble_eq_true rfl) (Nat.zero_le _) (Nat.zero_le _) (zD_g DX1_leastEar 39 rfl) ?_
                refine lv_topi (fun x18 ex18 => ?_)
                replace hf := zl_s hf x18 ex18
                refine lv_istore_n (lv' := [(2, .int x18), (4, .int r5), (0, .ref (q 0)), (1, .int a_city), (3, .int y2)]) hx hb (zD_g DX1_leastEar 40 rfl) rfl hl (by decide) rfl (fun ls hl => ?_)
                refine lv_iinc (v := y2 + 1) (lv' := [(3, .int (y2 + 1)), (2, .int x18), (4, .int r5), (0, .ref (q 0)), (1, .int a_city)]) (k := 4) hx hb (zD_g DX1_leastEar 41 rfl) hl rfl rfl (by decide) rfl (fun ls hl => ?_)
                refine lv_goto (tgt := 4) hx hb (zD_g DX1_leastEar 42 rfl) (by decide) ?_
                exact ih3 _ _ hf ls (lv_sub hl [3, 4, 1, 0] rfl)
              · replace hf := z_f c15 hf
                refine lv_iconst (v := (-1 : Int32)) hx hb (zD_g DX1_leastEar 30 rfl) (by decide) ?_
                cases hf
                exact hret _ _ (zD_g DX1_leastEar 31 rfl)
          · replace hf := z_t c9 hf
            refine lv_goto (tgt := 71) hx hb (zD_g DX1_leastEar 20 rfl) (by decide) ?_
            refine lv_iinc (v := y2 + 1) (lv' := [(3, .int (y2 + 1)), (4, .int r5), (0, .ref (q 0)), (1, .int a_city), (2, .int y1)]) (k := 4) hx hb (zD_g DX1_leastEar 41 rfl) hl rfl rfl (by decide) rfl (fun ls hl => ?_)
            refine lv_goto (tgt := 4) hx hb (zD_g DX1_leastEar 42 rfl) (by decide) ?_
            exact ih3 _ _ hf ls (lv_sub hl [2, 3, 4, 0] rfl)
  refine hL3 _ (fun y19 hf ls hl => ?_) _ _ _ hf ls (lv_sub hl [2, 3, 1, 0] rfl)
  refine lv_iload_n hx hb (zD_g DX1_leastEar 43 rfl) rfl (lv_at hl 0 rfl) ?_
  refine lv_bipush (v := (50 : Int32)) hx hb (zD_g DX1_leastEar 44 rfl) (by decide) ?_
  refine lv_icmp_gt (tgt := 87) hx hb (zD_g DX1_leastEar 45 rfl) (by decide) (fun c20 => ?_) (fun c20 => ?_)
  · replace hf := z_t c20 hf
    refine lv_iconst (v := (-1 : Int32)) hx hb (zD_g DX1_leastEar 48 rfl) (by decide) ?_
    cases hf
    exact hret _ _ (zD_g DX1_leastEar 49 rfl)
  · replace hf := z_f c20 hf
    refine lv_iload_n hx hb (zD_g DX1_leastEar 46 rfl) rfl (lv_at hl 0 rfl) ?_
    refine lv_goto (tgt := 88) hx hb (zD_g DX1_leastEar 47 rfl) (by decide) ?_
    cases hf
    exact hret _ _ (zD_g DX1_leastEar 49 rfl)
abbrev dlX1_waysOf : List (Nat × Instr × Nat) := [(0, .lconst 1, 1), (1, .lstore_n 3, 1), (2, .iconst 0, 1), (3, .istore 5, 2), (5, .iload 5, 2), (7, .bipush 8, 2), (9, .if_icmp .ge 40, 3), (12, .iload_n 1, 1), (13, .iload 5, 2), (15, .ishr, 1), (16, .iconst 1, 1), (17, .iand, 1), (18, .ifCond .eq 25, 3), (21, .lload_n 3, 1), (22, .iload_n 0, 1), (23, .iload 5, 2), (25, .ishr, 1), (26, .iconst 1, 1), (27, .iand, 1), (28, .ifCond .eq 8, 3), (31, .iload_n 2, 1), (32, .i2l, 1), (33, .goto 8, 3), (36, .bipush 10, 2), (38, .iload_n 2, 1), (39, .isub, 1), (40, .i2l, 1), (41, .lmul, 1), (42, .lstore_n 3, 1), (43, .iinc 5 1, 3), (46, .goto (-41), 3), (49, .lload_n 3, 1), (50, .lreturn, 1)]
theorem DX1_waysOf : zD cX1_waysOf dlX1_waysOf = true := by decide +kernel
theorem hd1_waysOf : yX1_waysOf.cls ≠ "java/lang/invoke/MethodHandle" ∧ yX1_waysOf.cls ≠ "java/lang/invoke/VarHandle" ∧ (parseMethodDescriptor yX1_waysOf.desc).map (fun d => d.parameters.length) = some 3 := by decide +kernel
abbrev rm1_waysOf : Room := { frames := 0, cells := 0, slots := 0, locals := 0 }
set_option maxHeartbeats 4000000 in
set_option maxRecDepth 100000 in
theorem c1_waysOf {l : Launch} {D : va_G} {cI cZ cB : ClassId}   {a_set : Int32} {a_may : Int32} {a_c : Int32} {r : Int64}  (hf : f1_waysOf a_set a_may a_c = some r) : Met l yX1_waysOf wsX1_waysOf rm1_waysOf (zPp D cI cZ cB [.int a_set, .int a_may, .int a_c] ([] : va_W)) (zQp (some (.long r))) 0 0 (fun _ => False) := by
  unfold f1_waysOf at hf
  refine z_pureL RX1 (by decide +kernel) rfl rfl (Nat.le_of_ble_eq_true rfl) ?_
  intro p e s m args below meth c Q ls hx hb hml hown hts hK hP hret hl
  have hl : lv_has ls 6 [(0, .int a_set), (1, .int a_may), (2, .int a_c)] := hl
  refine lv_lconst (v := (1 : Int64)) hx hb (zD_g DX1_waysOf 0 rfl) (by decide) ?_
  refine lv_lstore_n (lv' := [(3, .long (1 : Int64)), (0, .int a_set), (1, .int a_may), (2, .int a_c)]) hx hb (zD_g DX1_waysOf 1 rfl) rfl hl (by decide) rfl (fun ls hl => ?_)
  refine lv_iconst (v := (0 : Int32)) hx hb (zD_g DX1_waysOf 2 rfl) (by decide) ?_
  refine lv_istore (lv' := [(5, .int (0 : Int32)), (3, .long (1 : Int64)), (0, .int a_set), (1, .int a_may), (2, .int a_c)]) hx hb (zD_g DX1_waysOf 3 rfl) hl (by decide) rfl (fun ls hl => ?_)
  have hL3 : ∀ (k3 : Int64 → Option (Int64)) (hk3 : ∀ (y9 : Int64), k3 y9 = some r → ∀ (ls : Array Slot), lv_has ls 6 [(3, .long y9)] → W p l e rm1_waysOf s m args below meth c s.heap [] 0 0 Q (F0 m 49 ls [])) (n3 : Nat) (y1 : Int64) (y2 : Int32), L1_waysOf_5 k3 a_set a_may a_c n3 y1 y2 = some r → ∀ (ls : Array Slot), lv_has ls 6 [(0, .int a_set), (1, .int a_may), (2, .int a_c), (3, .long y1), (5, .int y2)] → W p l e rm1_waysOf s m args below meth c s.heap [] 0 0 Q (F0 m 5 ls []) := by
    intro k3 hk3 n3
    induction n3 with
    | zero =>
      intro y1 y2 hf
      cases hf
    | succ n3 ih3 =>
      intro y1 y2 hf ls hl
      rw [L1_waysOf_5] at hf
      refine lv_iload hx hb (zD_g DX1_waysOf 4 rfl) (lv_at hl 4 rfl) ?_
      refine lv_bipush (v := (8 : Int32)) hx hb (zD_g DX1_waysOf 5 rfl) (by decide) ?_
      refine lv_icmp_ge (tgt := 49) hx hb (zD_g DX1_waysOf 6 rfl) (by decide) (fun c4 => ?_) (fun c4 => ?_)
      · replace hf := z_t c4 hf
        exact hk3 _ hf ls (lv_sub hl [3] rfl)
      · replace hf := z_f c4 hf
        refine lv_iload_n hx hb (zD_g DX1_waysOf 7 rfl) rfl (lv_at hl 1 rfl) ?_
        refine lv_iload hx hb (zD_g DX1_waysOf 8 rfl) (lv_at hl 4 rfl) ?_
        refine lv_ishr hx hb (zD_g DX1_waysOf 9 rfl) ?_
        refine lv_iconst (v := (1 : Int32)) hx hb (zD_g DX1_waysOf 10 rfl) (by decide) ?_
        refine lv_iand hx hb (zD_g DX1_waysOf 11 rfl) ?_
        refine lv_if_eq (tgt := 43) hx hb (zD_g DX1_waysOf 12 rfl) (by decide) (fun c5 => ?_) (fun c5 => ?_)
        · replace hf := z_t c5 hf
          refine lv_iinc (v := y2 + 1) (lv' := [(5, .int (y2 + 1)), (0, .int a_set), (1, .int a_may), (2, .int a_c), (3, .long y1)]) (k := 4) hx hb (zD_g DX1_waysOf 29 rfl) hl rfl rfl (by decide) rfl (fun ls hl => ?_)
          refine lv_goto (tgt := 5) hx hb (zD_g DX1_waysOf 30 rfl) (by decide) ?_
          exact ih3 _ _ hf ls (lv_sub hl [1, 2, 3, 4, 0] rfl)
        · replace hf := z_f c5 hf
          refine lv_lload_n hx hb (zD_g DX1_waysOf 13 rfl) rfl (lv_at hl 3 rfl) ?_
          refine lv_iload_n hx hb (zD_g DX1_waysOf 14 rfl) rfl (lv_at hl 0 rfl) ?_
          refine lv_iload hx hb (zD_g DX1_waysOf 15 rfl) (lv_at hl 4 rfl) ?_
          refine lv_ishr hx hb (zD_g DX1_waysOf 16 rfl) ?_
          refine lv_iconst (v := (1 : Int32)) hx hb (zD_g DX1_waysOf 17 rfl) (by decide) ?_
          refine lv_iand hx hb (zD_g DX1_waysOf 18 rfl) ?_
          refine lv_if_eq (tgt := 36) hx hb (zD_g DX1_waysOf 19 rfl) (by decide) (fun c6 => ?_) (fun c6 => ?_)
          · replace hf := z_t c6 hf
            refine lv_bipush (v := (10 : Int32)) hx hb (zD_g DX1_waysOf 23 rfl) (by decide) ?_
            refine lv_iload_n hx hb (zD_g DX1_waysOf 24 rfl) rfl (lv_at hl 2 rfl) ?_
            refine lv_isub hx hb (zD_g DX1_waysOf 25 rfl) ?_
            refine lv_i2l (v := (((10 : Int32) - a_c)).toInt64) hx hb (zD_g DX1_waysOf 26 rfl) rfl ?_
            refine lv_lmul hx hb (zD_g DX1_waysOf 27 rfl) ?_
            refine lv_topl (fun x7 ex7 => ?_)
            replace hf := zl_s hf x7 ex7
            refine lv_lstore_n (lv' := [(3, .long x7), (0, .int a_set), (1, .int a_may), (2, .int a_c), (5, .int y2)]) hx hb (zD_g DX1_waysOf 28 rfl) rfl hl (by decide) rfl (fun ls hl => ?_)
            refine lv_iinc (v := y2 + 1) (lv' := [(5, .int (y2 + 1)), (3, .long x7), (0, .int a_set), (1, .int a_may), (2, .int a_c)]) (k := 4) hx hb (zD_g DX1_waysOf 29 rfl) hl rfl rfl (by decide) rfl (fun ls hl => ?_)
            refine lv_goto (tgt := 5) hx hb (zD_g DX1_waysOf 30 rfl) (by decide) ?_
            exact ih3 _ _ hf ls (lv_sub hl [2, 3, 4, 1, 0] rfl)
          · replace hf := z_f c6 hf
            refine lv_iload_n hx hb (zD_g DX1_waysOf 20 rfl) rfl (lv_at hl 2 rfl) ?_
            refine lv_i2l (v := (a_c).toInt64) hx hb (zD_g DX1_waysOf 21 rfl) rfl ?_
            refine lv_goto (tgt := 41) hx hb (zD_g DX1_waysOf 22 rfl) (by decide) ?_
            refine lv_lmul hx hb (zD_g DX1_waysOf 27 rfl) ?_
            refine lv_topl (fun x8 ex8 => ?_)
            replace hf := zl_s hf x8 ex8
            refine lv_lstore_n (lv' := [(3, .long x8), (0, .int a_set), (1, .int a_may), (2, .int a_c), (5, .int y2)]) hx hb (zD_g DX1_waysOf 28 rfl) rfl hl (by decide) rfl (fun ls hl => ?_)
            refine lv_iinc (v := y2 + 1) (lv' := [(5, .int (y2 + 1)), (3, .long x8), (0, .int a_set), (1, .int a_may), (2, .int a_c)]) (k := 4) hx hb (zD_g DX1_waysOf 29 rfl) hl rfl rfl (by decide) rfl (fun ls hl => ?_)
            refine lv_goto (tgt := 5) hx hb (zD_g DX1_waysOf 30 rfl) (by decide) ?_
            exact ih3 _ _ hf ls (lv_sub hl [2, 3, 4, 1, 0] rfl)
  refine hL3 _ (fun y9 hf ls hl => ?_) _ _ _ hf ls (lv_sub hl [2, 3, 4, 1, 0] rfl)
  refine lv_lload_n hx hb (zD_g DX1_waysOf 31 rfl) rfl (lv_at hl 0 rfl) ?_
  cases hf
  exact hret _ _ (zD_g DX1_waysOf 32 rfl)
abbrev dlX1_waysHeard : List (Nat × Instr × Nat) := [(0, .aload_n 0, 1), (1, .iload_n 1, 1), (2, .invokevirtual 9, 3), (5, .istore 4, 2), (7, .lconst 0, 1), (8, .lstore 5, 2), (10, .iconst 0, 1), (11, .istore 7, 2), (13, .iload 7, 2), (15, .iload 4, 2), (17, .if_icmp .gt 43, 3), (20, .iload 7, 2), (22, .iload 4, 2), (24, .iconst (-1), 1), (25, .ixor, 1), (26, .iand, 1), (27, .ifCond .ne 27, 3), (30, .aload_n 0, 1), (31, .iload_n 1, 1), (32, .iload 7, 2), (34, .invokevirtual 42, 3), (37, .iload_n 3, 1), (38, .if_icmp .ne 16, 3), (41, .lload 5, 2), (43, .iload 7, 2), (45, .iload 4, 2), (47, .iload_n 2, 1), (48, .invokestatic 64, 3), (51, .ladd, 1), (52, .lstore 5, 2), (54, .iinc 7 1, 3), (57, .goto (-44), 3), (60, .lload 5, 2), (62, .lreturn, 1)]
theorem DX1_waysHeard : zD cX1_waysHeard dlX1_waysHeard = true := by decide +kernel
set_option maxRecDepth 20000 in
theorem ggX1_waysHeard_X4_mayBeIn : GoodIn wsX1_waysHeard wsX4_mayBeIn := goodIn_r _ [5, 6, 7, 8, 4, 9, 10, 11, 35, 36, 37, 38, 39, 40, 41, 42, 43, 44, 45, 46, 47, 48, 49, 50, 51, 52, 53] (by decide +kernel) (by decide +kernel)
set_option maxRecDepth 20000 in
theorem gX1_waysHeard_X4_mayBeIn : GoodIn wsX1_waysHeard (wsV RX1 9 RX4 yX4_mayBeIn wsX4_mayBeIn) := goodIn_app (goodIn_of _ (by decide +kernel)) ggX1_waysHeard_X4_mayBeIn
set_option maxRecDepth 20000 in
theorem ggX1_waysHeard_X4_isHeard : GoodIn wsX1_waysHeard wsX4_isHeard := goodIn_r _ [15, 16, 17, 18, 19, 4, 20, 21, 22, 23, 24, 25, 26, 27, 28, 29, 30, 35, 36, 37, 38, 39, 40, 41, 42, 43, 44, 45, 46, 47, 48, 49, 50, 51, 52, 53] (by decide +kernel) (by decide +kernel)
set_option maxRecDepth 20000 in
theorem gX1_waysHeard_X4_isHeard : GoodIn wsX1_waysHeard (wsV RX1 42 RX4 yX4_isHeard wsX4_isHeard) := goodIn_app (goodIn_of _ (by decide +kernel)) ggX1_waysHeard_X4_isHeard
set_option maxRecDepth 20000 in
theorem ggX1_waysHeard_X1_waysOf : GoodIn wsX1_waysHeard wsX1_waysOf := goodIn_r _ [34] (by decide +kernel) (by decide +kernel)
set_option maxRecDepth 20000 in
theorem gX1_waysHeard_X1_waysOf : GoodIn wsX1_waysHeard (va_wsS RX1 64 yX1_waysOf wsX1_waysOf) := goodIn_app (goodIn_of _ (by decide +kernel)) ggX1_waysHeard_X1_waysOf
theorem hd1_waysHeard : yX1_waysHeard.cls ≠ "java/lang/invoke/MethodHandle" ∧ yX1_waysHeard.cls ≠ "java/lang/invoke/VarHandle" ∧ (parseMethodDescriptor yX1_waysHeard.desc).map (fun d => d.parameters.length) = some 4 := by decide +kernel
abbrev rm1_waysHeard : Room := { frames := 3, cells := 0, slots := 0, locals := 68 }
set_option maxHeartbeats 4000000 in
set_option maxRecDepth 100000 in
theorem c1_waysHeard {l : Launch} {D : va_G} {cI cZ cB : ClassId} {q : Nat → Nat} {things : Int32} {gifts : Int32} {days : Int32} {size : Nat → Int32} {weight : Nat → Int32} {sound : Nat → Int32} {harm : Nat → Int32} {in_ : Nat → Int32} {kind : Nat → Int32} {owner : Nat → Int32} {empty : Nat → Int32} {room : Nat → Int32} {told : Nat → Int32} {gate : Nat → Int32} {ear : Nat → Int32} {scale : Nat → Int32} {lost : Nat → Int32} {watch : Nat → Int32} {moments : Int32} {kept : Nat → Int32} {a_gift : Int32} {a_c : Int32} {a_heard : Int32} {r : Int64}  (hf : f1_waysHeard things sound in_ kind owner ear a_gift a_c a_heard = some r) : Met l yX1_waysHeard wsX1_waysHeard rm1_waysHeard (zPp D cI cZ cB [.ref (q 0), .int a_gift, .int a_c, .int a_heard] (cWar cI q things gifts days size weight sound harm in_ kind owner empty room told gate ear scale lost watch moments kept)) (zQp (some (.long r))) 0 0 (fun _ => False) := by
  unfold f1_waysHeard at hf
  refine z_pureL RX1 (by decide +kernel) rfl rfl (Nat.le_of_ble_eq_true rfl) ?_
  intro p e s m args below meth c Q ls hx hb hml hown hts hK hP hret hl
  have hl : lv_has ls 8 [(0, .ref (q 0)), (1, .int a_gift), (2, .int a_c), (3, .int a_heard)] := hl
  refine lv_aload_n hx hb (zD_g DX1_waysHeard 0 rfl) rfl (lv_at hl 0 rfl) ?_
  refine lv_iload_n hx hb (zD_g DX1_waysHeard 1 rfl) rfl (lv_at hl 1 rfl) ?_
  obtain ⟨r1, hc2, hf⟩ := zb1_s hf
  refine z_Vp (As := [.int a_gift]) (rest := []) ⟨hx, hb, hml, hown, hts⟩ hK (c4_mayBeIn (things := things) (gifts := gifts) (days := days) (size := size) (weight := weight) (sound := sound) (harm := harm) (in_ := in_) (kind := kind) (owner := owner) (empty := empty) (room := room) (told := told) (gate := gate) (ear := ear) (scale := scale) (lost := lost) (watch := watch) (moments := moments) (kept := kept) (q := q) hc2) (cwV 1 hts gX1_waysHeard_X4_mayBeIn rfl rfl rfl hd4_mayBeIn ⟨Nat.le_of_ble_eq_true rfl, Nat.le_of_ble_eq_true rfl⟩) hP rfl rfl rfl rfl hl.1 rfl rfl (Nat.le_of_ble_eq_true rfl) (zD_g DX1_waysHeard 2 rfl) ⟨Nat.zero_le _, Nat.zero_le _⟩ ?_
  refine lv_istore (lv' := [(4, .int r1), (0, .ref (q 0)), (1, .int a_gift), (2, .int a_c), (3, .int a_heard)]) hx hb (zD_g DX1_waysHeard 3 rfl) hl (by decide) rfl (fun ls hl => ?_)
  refine lv_lconst (v := (0 : Int64)) hx hb (zD_g DX1_waysHeard 4 rfl) (by decide) ?_
  refine lv_lstore (lv' := [(5, .long (0 : Int64)), (4, .int r1), (0, .ref (q 0)), (1, .int a_gift), (2, .int a_c), (3, .int a_heard)]) hx hb (zD_g DX1_waysHeard 5 rfl) hl (by decide) rfl (fun ls hl => ?_)
  refine lv_iconst (v := (0 : Int32)) hx hb (zD_g DX1_waysHeard 6 rfl) (by decide) ?_
  refine lv_istore (lv' := [(7, .int (0 : Int32)), (5, .long (0 : Int64)), (4, .int r1), (0, .ref (q 0)), (1, .int a_gift), (2, .int a_c), (3, .int a_heard)]) hx hb (zD_g DX1_waysHeard 7 rfl) hl (by decide) rfl (fun ls hl => ?_)
  have hL5 : ∀ (k5 : Int64 → Option (Int64)) (hk5 : ∀ (y14 : Int64), k5 y14 = some r → ∀ (ls : Array Slot), lv_has ls 8 [(5, .long y14)] → W p l e rm1_waysHeard s m args below meth c s.heap [] 0 0 Q (F0 m 60 ls [])) (n5 : Nat) (y3 : Int64) (y4 : Int32), L1_waysHeard_13 k5 sound kind owner ear a_gift a_c a_heard r1 n5 y3 y4 = some r → ∀ (ls : Array Slot), lv_has ls 8 [(0, .ref (q 0)), (1, .int a_gift), (2, .int a_c), (3, .int a_heard), (4, .int r1), (5, .long y3), (7, .int y4)] → W p l e rm1_waysHeard s m args below meth c s.heap [] 0 0 Q (F0 m 13 ls []) := by
    intro k5 hk5 n5
    induction n5 with
    | zero =>
      intro y3 y4 hf
      cases hf
    | succ n5 ih5 =>
      intro y3 y4 hf ls hl
      rw [L1_waysHeard_13] at hf
      refine lv_iload hx hb (zD_g DX1_waysHeard 8 rfl) (lv_at hl 6 rfl) ?_
      refine lv_iload hx hb (zD_g DX1_waysHeard 9 rfl) (lv_at hl 4 rfl) ?_
      refine lv_icmp_gt (tgt := 60) hx hb (zD_g DX1_waysHeard 10 rfl) (by decide) (fun c6 => ?_) (fun c6 => ?_)
      · replace hf := z_t c6 hf
        exact hk5 _ hf ls (lv_sub hl [5] rfl)
      · replace hf := z_f c6 hf
        refine lv_iload hx hb (zD_g DX1_waysHeard 11 rfl) (lv_at hl 6 rfl) ?_
        refine lv_iload hx hb (zD_g DX1_waysHeard 12 rfl) (lv_at hl 4 rfl) ?_
        refine lv_iconst (v := (-1 : Int32)) hx hb (zD_g DX1_waysHeard 13 rfl) (by decide) ?_
        refine lv_ixor hx hb (zD_g DX1_waysHeard 14 rfl) ?_
        refine lv_iand hx hb (zD_g DX1_waysHeard 15 rfl) ?_
        refine lv_if_ne (tgt := 54) hx hb (zD_g DX1_waysHeard 16 rfl) (by decide) (fun c7 => ?_) (fun c7 => ?_)
        · replace hf := z_f c7 hf
          refine lv_iinc (v := y4 + 1) (lv' := [(7, .int (y4 + 1)), (0, .ref (q 0)), (1, .int a_gift), (2, .int a_c), (3, .int a_heard), (4, .int r1), (5, .long y3)]) (k := 6) hx hb (zD_g DX1_waysHeard 30 rfl) hl rfl rfl (by decide) rfl (fun ls hl => ?_)
          refine lv_goto (tgt := 13) hx hb (zD_g DX1_waysHeard 31 rfl) (by decide) ?_
          exact ih5 _ _ hf ls (lv_sub hl [1, 2, 3, 4, 5, 6, 0] rfl)
        · replace hf := z_t c7 hf
          refine lv_aload_n hx hb (zD_g DX1_waysHeard 17 rfl) rfl (lv_at hl 0 rfl) ?_
          refine lv_iload_n hx hb (zD_g DX1_waysHeard 18 rfl) rfl (lv_at hl 1 rfl) ?_
          refine lv_iload hx hb (zD_g DX1_waysHeard 19 rfl) (lv_at hl 6 rfl) ?_
          obtain ⟨r8, hc9, hf⟩ := zb1_s hf
          refine z_Vp (As := [.int a_gift, .int y4]) (rest := []) ⟨hx, hb, hml, hown, hts⟩ hK (c4_isHeard (things := things) (gifts := gifts) (days := days) (size := size) (weight := weight) (sound := sound) (harm := harm) (in_ := in_) (kind := kind) (owner := owner) (empty := empty) (room := room) (told := told) (gate := gate) (ear := ear) (scale := scale) (lost := lost) (watch := watch) (moments := moments) (kept := kept) (q := q) hc9) (cwV 2 hts gX1_waysHeard_X4_isHeard rfl rfl rfl hd4_isHeard ⟨Nat.le_of_ble_eq_true rfl, Nat.le_of_ble_eq_true rfl⟩) hP rfl rfl rfl rfl hl.1 rfl rfl (Nat.le_of_ble_eq_true rfl) (zD_g DX1_waysHeard 20 rfl) ⟨Nat.zero_le _, Nat.zero_le _⟩ ?_
          refine lv_iload_n hx hb (zD_g DX1_waysHeard 21 rfl) rfl (lv_at hl 3 rfl) ?_
          refine lv_icmp_ne (tgt := 54) hx hb (zD_g DX1_waysHeard 22 rfl) (by decide) (fun c10 => ?_) (fun c10 => ?_)
          · replace hf := z_f c10 hf
            refine lv_iinc (v := y4 + 1) (lv' := [(7, .int (y4 + 1)), (0, .ref (q 0)), (1, .int a_gift), (2, .int a_c), (3, .int a_heard), (4, .int r1), (5, .long y3)]) (k := 6) hx hb (zD_g DX1_waysHeard 30 rfl) hl rfl rfl (by decide) rfl (fun ls hl => ?_)
            refine lv_goto (tgt := 13) hx hb (zD_g DX1_waysHeard 31 rfl) (by decide) ?_
            exact ih5 _ _ hf ls (lv_sub hl [1, 2, 3, 4, 5, 6, 0] rfl)
          · replace hf := z_t c10 hf
            refine lv_lload hx hb (zD_g DX1_waysHeard 23 rfl) (lv_at hl 5 rfl) ?_
            refine lv_iload hx hb (zD_g DX1_waysHeard 24 rfl) (lv_at hl 6 rfl) ?_
            refine lv_iload hx hb (zD_g DX1_waysHeard 25 rfl) (lv_at hl 4 rfl) ?_
            refine lv_iload_n hx hb (zD_g DX1_waysHeard 26 rfl) rfl (lv_at hl 2 rfl) ?_
            obtain ⟨r11, hc12, hf⟩ := zb1_s hf
            refine z_Sp (As := [.int y4, .int r1, .int a_c]) (rest := [.long y3]) ⟨hx, hb, hml, hown, hts⟩ hK (c1_waysOf  hc12) (va_cwS 3 hts gX1_waysHeard_X1_waysOf rfl rfl rfl hd1_waysOf ⟨Nat.le_of_ble_eq_true rfl, Nat.le_of_ble_eq_true rfl⟩) (hP.sub [] rfl) rfl hl.1 rfl rfl (Nat.le_of_ble_eq_true rfl) (zD_g DX1_waysHeard 27 rfl) ⟨Nat.zero_le _, Nat.zero_le _⟩ ?_
            refine lv_ladd hx hb (zD_g DX1_waysHeard 28 rfl) ?_
            refine lv_topl (fun x13 ex13 => ?_)
            replace hf := zl_s hf x13 ex13
            refine lv_lstore (lv' := [(5, .long x13), (0, .ref (q 0)), (1, .int a_gift), (2, .int a_c), (3, .int a_heard), (4, .int r1), (7, .int y4)]) hx hb (zD_g DX1_waysHeard 29 rfl) hl (by decide) rfl (fun ls hl => ?_)
            refine lv_iinc (v := y4 + 1) (lv' := [(7, .int (y4 + 1)), (5, .long x13), (0, .ref (q 0)), (1, .int a_gift), (2, .int a_c), (3, .int a_heard), (4, .int r1)]) (k := 6) hx hb (zD_g DX1_waysHeard 30 rfl) hl rfl rfl (by decide) rfl (fun ls hl => ?_)
            refine lv_goto (tgt := 13) hx hb (zD_g DX1_waysHeard 31 rfl) (by decide) ?_
            exact ih5 _ _ hf ls (lv_sub hl [2, 3, 4, 5, 6, 1, 0] rfl)
  refine hL5 _ (fun y14 hf ls hl => ?_) _ _ _ hf ls (lv_sub hl [3, 4, 5, 6, 2, 1, 0] rfl)
  refine lv_lload hx hb (zD_g DX1_waysHeard 32 rfl) (lv_at hl 0 rfl) ?_
  cases hf
  exact hret _ _ (zD_g DX1_waysHeard 33 rfl)
abbrev dlX1_waysEmpty : List (Nat × Instr × Nat) := [(0, .aload_n 0, 1), (1, .iload_n 1, 1), (2, .iconst 0, 1), (3, .invokevirtual 42, 3), (6, .iload_n 3, 1), (7, .if_icmp .ne 16, 3), (10, .iconst 0, 1), (11, .aload_n 0, 1), (12, .iload_n 1, 1), (13, .invokevirtual 9, 3), (16, .iload_n 2, 1), (17, .invokestatic 64, 3), (20, .goto 4, 3), (23, .lconst 0, 1), (24, .lreturn, 1)]
theorem DX1_waysEmpty : zD cX1_waysEmpty dlX1_waysEmpty = true := by decide +kernel
set_option maxRecDepth 20000 in
theorem ggX1_waysEmpty_X4_isHeard : GoodIn wsX1_waysEmpty wsX4_isHeard := goodIn_r _ [5, 6, 7, 8, 9, 4, 10, 11, 12, 13, 14, 15, 16, 17, 18, 19, 20, 35, 36, 37, 38, 39, 40, 41, 42, 43, 44, 45, 46, 47, 48, 49, 50, 51, 52, 53] (by decide +kernel) (by decide +kernel)
set_option maxRecDepth 20000 in
theorem gX1_waysEmpty_X4_isHeard : GoodIn wsX1_waysEmpty (wsV RX1 42 RX4 yX4_isHeard wsX4_isHeard) := goodIn_app (goodIn_of _ (by decide +kernel)) ggX1_waysEmpty_X4_isHeard
set_option maxRecDepth 20000 in
theorem ggX1_waysEmpty_X4_mayBeIn : GoodIn wsX1_waysEmpty wsX4_mayBeIn := goodIn_r _ [24, 25, 26, 27, 4, 28, 29, 30, 35, 36, 37, 38, 39, 40, 41, 42, 43, 44, 45, 46, 47, 48, 49, 50, 51, 52, 53] (by decide +kernel) (by decide +kernel)
set_option maxRecDepth 20000 in
theorem gX1_waysEmpty_X4_mayBeIn : GoodIn wsX1_waysEmpty (wsV RX1 9 RX4 yX4_mayBeIn wsX4_mayBeIn) := goodIn_app (goodIn_of _ (by decide +kernel)) ggX1_waysEmpty_X4_mayBeIn
set_option maxRecDepth 20000 in
theorem ggX1_waysEmpty_X1_waysOf : GoodIn wsX1_waysEmpty wsX1_waysOf := goodIn_r _ [34] (by decide +kernel) (by decide +kernel)
set_option maxRecDepth 20000 in
theorem gX1_waysEmpty_X1_waysOf : GoodIn wsX1_waysEmpty (va_wsS RX1 64 yX1_waysOf wsX1_waysOf) := goodIn_app (goodIn_of _ (by decide +kernel)) ggX1_waysEmpty_X1_waysOf
theorem hd1_waysEmpty : yX1_waysEmpty.cls ≠ "java/lang/invoke/MethodHandle" ∧ yX1_waysEmpty.cls ≠ "java/lang/invoke/VarHandle" ∧ (parseMethodDescriptor yX1_waysEmpty.desc).map (fun d => d.parameters.length) = some 4 := by decide +kernel
abbrev rm1_waysEmpty : Room := { frames := 3, cells := 0, slots := 0, locals := 68 }
set_option maxHeartbeats 4000000 in
set_option maxRecDepth 100000 in
theorem c1_waysEmpty {l : Launch} {D : va_G} {cI cZ cB : ClassId} {q : Nat → Nat} {things : Int32} {gifts : Int32} {days : Int32} {size : Nat → Int32} {weight : Nat → Int32} {sound : Nat → Int32} {harm : Nat → Int32} {in_ : Nat → Int32} {kind : Nat → Int32} {owner : Nat → Int32} {empty : Nat → Int32} {room : Nat → Int32} {told : Nat → Int32} {gate : Nat → Int32} {ear : Nat → Int32} {scale : Nat → Int32} {lost : Nat → Int32} {watch : Nat → Int32} {moments : Int32} {kept : Nat → Int32} {a_gift : Int32} {a_c : Int32} {a_heard : Int32} {r : Int64}  (hf : f1_waysEmpty things sound in_ kind owner ear a_gift a_c a_heard = some r) : Met l yX1_waysEmpty wsX1_waysEmpty rm1_waysEmpty (zPp D cI cZ cB [.ref (q 0), .int a_gift, .int a_c, .int a_heard] (cWar cI q things gifts days size weight sound harm in_ kind owner empty room told gate ear scale lost watch moments kept)) (zQp (some (.long r))) 0 0 (fun _ => False) := by
  unfold f1_waysEmpty at hf
  refine z_pureL RX1 (by decide +kernel) rfl rfl (Nat.le_of_ble_eq_true rfl) ?_
  intro p e s m args below meth c Q ls hx hb hml hown hts hK hP hret hl
  have hl : lv_has ls 4 [(0, .ref (q 0)), (1, .int a_gift), (2, .int a_c), (3, .int a_heard)] := hl
  refine lv_aload_n hx hb (zD_g DX1_waysEmpty 0 rfl) rfl (lv_at hl 0 rfl) ?_
  refine lv_iload_n hx hb (zD_g DX1_waysEmpty 1 rfl) rfl (lv_at hl 1 rfl) ?_
  refine lv_iconst (v := (0 : Int32)) hx hb (zD_g DX1_waysEmpty 2 rfl) (by decide) ?_
  obtain ⟨r1, hc2, hf⟩ := zb1_s hf
  refine z_Vp (As := [.int a_gift, .int (0 : Int32)]) (rest := []) ⟨hx, hb, hml, hown, hts⟩ hK (c4_isHeard (things := things) (gifts := gifts) (days := days) (size := size) (weight := weight) (sound := sound) (harm := harm) (in_ := in_) (kind := kind) (owner := owner) (empty := empty) (room := room) (told := told) (gate := gate) (ear := ear) (scale := scale) (lost := lost) (watch := watch) (moments := moments) (kept := kept) (q := q) hc2) (cwV 2 hts gX1_waysEmpty_X4_isHeard rfl rfl rfl hd4_isHeard ⟨Nat.le_of_ble_eq_true rfl, Nat.le_of_ble_eq_true rfl⟩) hP rfl rfl rfl rfl hl.1 rfl rfl (Nat.le_of_ble_eq_true rfl) (zD_g DX1_waysEmpty 3 rfl) ⟨Nat.zero_le _, Nat.zero_le _⟩ ?_
  refine lv_iload_n hx hb (zD_g DX1_waysEmpty 4 rfl) rfl (lv_at hl 3 rfl) ?_
  refine lv_icmp_ne (tgt := 23) hx hb (zD_g DX1_waysEmpty 5 rfl) (by decide) (fun c3 => ?_) (fun c3 => ?_)
  · replace hf := z_f c3 hf
    refine lv_lconst (v := (0 : Int64)) hx hb (zD_g DX1_waysEmpty 13 rfl) (by decide) ?_
    cases hf
    exact hret _ _ (zD_g DX1_waysEmpty 14 rfl)
  · replace hf := z_t c3 hf
    refine lv_iconst (v := (0 : Int32)) hx hb (zD_g DX1_waysEmpty 6 rfl) (by decide) ?_
    refine lv_aload_n hx hb (zD_g DX1_waysEmpty 7 rfl) rfl (lv_at hl 0 rfl) ?_
    refine lv_iload_n hx hb (zD_g DX1_waysEmpty 8 rfl) rfl (lv_at hl 1 rfl) ?_
    obtain ⟨r4, hc5, hf⟩ := zb1_s hf
    refine z_Vp (As := [.int a_gift]) (rest := [.int (0 : Int32)]) ⟨hx, hb, hml, hown, hts⟩ hK (c4_mayBeIn (things := things) (gifts := gifts) (days := days) (size := size) (weight := weight) (sound := sound) (harm := harm) (in_ := in_) (kind := kind) (owner := owner) (empty := empty) (room := room) (told := told) (gate := gate) (ear := ear) (scale := scale) (lost := lost) (watch := watch) (moments := moments) (kept := kept) (q := q) hc5) (cwV 1 hts gX1_waysEmpty_X4_mayBeIn rfl rfl rfl hd4_mayBeIn ⟨Nat.le_of_ble_eq_true rfl, Nat.le_of_ble_eq_true rfl⟩) hP rfl rfl rfl rfl hl.1 rfl rfl (Nat.le_of_ble_eq_true rfl) (zD_g DX1_waysEmpty 9 rfl) ⟨Nat.zero_le _, Nat.zero_le _⟩ ?_
    refine lv_iload_n hx hb (zD_g DX1_waysEmpty 10 rfl) rfl (lv_at hl 2 rfl) ?_
    obtain ⟨r6, hc7, hf⟩ := zb1_s hf
    refine z_Sp (As := [.int (0 : Int32), .int r4, .int a_c]) (rest := []) ⟨hx, hb, hml, hown, hts⟩ hK (c1_waysOf  hc7) (va_cwS 3 hts gX1_waysEmpty_X1_waysOf rfl rfl rfl hd1_waysOf ⟨Nat.le_of_ble_eq_true rfl, Nat.le_of_ble_eq_true rfl⟩) (hP.sub [] rfl) rfl hl.1 rfl rfl (Nat.le_of_ble_eq_true rfl) (zD_g DX1_waysEmpty 11 rfl) ⟨Nat.zero_le _, Nat.zero_le _⟩ ?_
    refine lv_goto (tgt := 24) hx hb (zD_g DX1_waysEmpty 12 rfl) (by decide) ?_
    cases hf
    exact hret _ _ (zD_g DX1_waysEmpty 14 rfl)
abbrev dlX1_sent : List (Nat × Instr × Nat) := [(0, .iload_n 2, 1), (1, .ifCond .ne 11, 3), (4, .aload_n 0, 1), (5, .iload_n 1, 1), (6, .invokevirtual 35, 3), (9, .goto 4, 3), (12, .iconst 0, 1), (13, .ireturn, 1)]
theorem DX1_sent : zD cX1_sent dlX1_sent = true := by decide +kernel
set_option maxRecDepth 20000 in
theorem ggX1_sent_X4_inside : GoodIn wsX1_sent wsX4_inside := goodIn_r _ [5, 6, 7, 8, 9, 10, 11, 12, 13, 14, 15, 16, 17, 18, 19, 20, 21, 22, 23, 24, 25, 26] (by decide +kernel) (by decide +kernel)
set_option maxRecDepth 20000 in
theorem gX1_sent_X4_inside : GoodIn wsX1_sent (wsV RX1 35 RX4 yX4_inside wsX4_inside) := goodIn_app (goodIn_of _ (by decide +kernel)) ggX1_sent_X4_inside
theorem hd1_sent : yX1_sent.cls ≠ "java/lang/invoke/MethodHandle" ∧ yX1_sent.cls ≠ "java/lang/invoke/VarHandle" ∧ (parseMethodDescriptor yX1_sent.desc).map (fun d => d.parameters.length) = some 3 := by decide +kernel
abbrev rm1_sent : Room := { frames := 1, cells := 0, slots := 0, locals := 23 }
set_option maxHeartbeats 4000000 in
set_option maxRecDepth 100000 in
theorem c1_sent {l : Launch} {D : va_G} {cI cZ cB : ClassId} {q : Nat → Nat} {things : Int32} {gifts : Int32} {days : Int32} {size : Nat → Int32} {weight : Nat → Int32} {sound : Nat → Int32} {harm : Nat → Int32} {in_ : Nat → Int32} {kind : Nat → Int32} {owner : Nat → Int32} {empty : Nat → Int32} {room : Nat → Int32} {told : Nat → Int32} {gate : Nat → Int32} {ear : Nat → Int32} {scale : Nat → Int32} {lost : Nat → Int32} {watch : Nat → Int32} {moments : Int32} {kept : Nat → Int32} {a_gift : Int32} {a_sends : Int32} {r : Int32}  (hf : f1_sent things in_ a_gift a_sends = some r) : Met l yX1_sent wsX1_sent rm1_sent (zPp D cI cZ cB [.ref (q 0), .int a_gift, .int a_sends] (cWar cI q things gifts days size weight sound harm in_ kind owner empty room told gate ear scale lost watch moments kept)) (zQp (some (.int r))) 0 0 (fun _ => False) := by
  unfold f1_sent at hf
  refine z_pureI RX1 (by decide +kernel) rfl rfl (Nat.le_of_ble_eq_true rfl) ?_
  intro p e s m args below meth c Q ls hx hb hml hown hts hK hP hret hl
  have hl : lv_has ls 3 [(0, .ref (q 0)), (1, .int a_gift), (2, .int a_sends)] := hl
  refine lv_iload_n hx hb (zD_g DX1_sent 0 rfl) rfl (lv_at hl 2 rfl) ?_
  refine lv_if_ne (tgt := 12) hx hb (zD_g DX1_sent 1 rfl) (by decide) (fun c1 => ?_) (fun c1 => ?_)
  · replace hf := z_f c1 hf
    refine lv_iconst (v := (0 : Int32)) hx hb (zD_g DX1_sent 6 rfl) (by decide) ?_
    cases hf
    exact hret _ _ (zD_g DX1_sent 7 rfl)
  · replace hf := z_t c1 hf
    refine lv_aload_n hx hb (zD_g DX1_sent 2 rfl) rfl (lv_at hl 0 rfl) ?_
    refine lv_iload_n hx hb (zD_g DX1_sent 3 rfl) rfl (lv_at hl 1 rfl) ?_
    obtain ⟨r2, hc3, hf⟩ := zb1_s hf
    refine z_Vp (As := [.int a_gift]) (rest := []) ⟨hx, hb, hml, hown, hts⟩ hK (c4_inside (things := things) (gifts := gifts) (days := days) (size := size) (weight := weight) (sound := sound) (harm := harm) (in_ := in_) (kind := kind) (owner := owner) (empty := empty) (room := room) (told := told) (gate := gate) (ear := ear) (scale := scale) (lost := lost) (watch := watch) (moments := moments) (kept := kept) (q := q) hc3) (cwV 1 hts gX1_sent_X4_inside rfl rfl rfl hd4_inside ⟨Nat.le_of_ble_eq_true rfl, Nat.le_of_ble_eq_true rfl⟩) hP rfl rfl rfl rfl hl.1 rfl rfl (Nat.le_of_ble_eq_true rfl) (zD_g DX1_sent 4 rfl) ⟨Nat.zero_le _, Nat.zero_le _⟩ ?_
    refine lv_goto (tgt := 13) hx hb (zD_g DX1_sent 5 rfl) (by decide) ?_
    cases hf
    exact hret _ _ (zD_g DX1_sent 7 rfl)
abbrev dlX1_senderLoses : List (Nat × Instr × Nat) := [(0, .iload_n 1, 1), (1, .lookupswitch 39 #[(1, 27), (2, 29)], 27), (28, .iconst 2, 1), (29, .ireturn, 1), (30, .iload_n 0, 1), (31, .ifCond .eq 7, 3), (34, .iconst 4, 1), (35, .goto 4, 3), (38, .iconst 0, 1), (39, .ireturn, 1), (40, .iconst 0, 1), (41, .ireturn, 1)]
theorem DX1_senderLoses : zD cX1_senderLoses dlX1_senderLoses = true := by decide +kernel
theorem hd1_senderLoses : yX1_senderLoses.cls ≠ "java/lang/invoke/MethodHandle" ∧ yX1_senderLoses.cls ≠ "java/lang/invoke/VarHandle" ∧ (parseMethodDescriptor yX1_senderLoses.desc).map (fun d => d.parameters.length) = some 2 := by decide +kernel
abbrev rm1_senderLoses : Room := { frames := 0, cells := 0, slots := 0, locals := 0 }
set_option maxHeartbeats 4000000 in
set_option maxRecDepth 100000 in
theorem c1_senderLoses {l : Launch} {D : va_G} {cI cZ cB : ClassId}   {a_set : Int32} {a_does : Int32} {r : Int32}  (hf : f1_senderLoses a_set a_does = some r) : Met l yX1_senderLoses wsX1_senderLoses rm1_senderLoses (zPp D cI cZ cB [.int a_set, .int a_does] ([] : va_W)) (zQp (some (.int r))) 0 0 (fun _ => False) := by
  unfold f1_senderLoses at hf
  refine z_pureI RX1 (by decide +kernel) rfl rfl (Nat.le_of_ble_eq_true rfl) ?_
  intro p e s m args below meth c Q ls hx hb hml hown hts hK hP hret hl
  have hl : lv_has ls 2 [(0, .int a_set), (1, .int a_does)] := hl
  refine lv_iload_n hx hb (zD_g DX1_senderLoses 0 rfl) rfl (lv_at hl 1 rfl) ?_
  by_cases c1 : a_does = 1
  · replace hf := z_t c1 hf
    refine lv_lookup (off := 27) (tgt := 28) hx hb (zD_g DX1_senderLoses 1 rfl) (by decide) (by rw [c1]; decide) (by decide) ?_
    refine lv_iconst (v := (2 : Int32)) hx hb (zD_g DX1_senderLoses 2 rfl) (by decide) ?_
    cases hf
    exact hret _ _ (zD_g DX1_senderLoses 3 rfl)
  · replace hf := z_f c1 hf
    by_cases c2 : a_does = 2
    · replace hf := z_t c2 hf
      refine lv_lookup (off := 29) (tgt := 30) hx hb (zD_g DX1_senderLoses 1 rfl) (by decide) (by rw [c2]; decide) (by decide) ?_
      refine lv_iload_n hx hb (zD_g DX1_senderLoses 4 rfl) rfl (lv_at hl 0 rfl) ?_
      refine lv_if_eq (tgt := 38) hx hb (zD_g DX1_senderLoses 5 rfl) (by decide) (fun c3 => ?_) (fun c3 => ?_)
      · replace hf := z_t c3 hf
        refine lv_iconst (v := (0 : Int32)) hx hb (zD_g DX1_senderLoses 8 rfl) (by decide) ?_
        cases hf
        exact hret _ _ (zD_g DX1_senderLoses 9 rfl)
      · replace hf := z_f c3 hf
        refine lv_iconst (v := (4 : Int32)) hx hb (zD_g DX1_senderLoses 6 rfl) (by decide) ?_
        refine lv_goto (tgt := 39) hx hb (zD_g DX1_senderLoses 7 rfl) (by decide) ?_
        cases hf
        exact hret _ _ (zD_g DX1_senderLoses 9 rfl)
    · replace hf := z_f c2 hf
      have z0 : a_does.toInt ≠ 1 := z_ni c1
      have z1 : a_does.toInt ≠ 2 := z_ni c2
      refine lv_lookup (off := 39) (tgt := 40) hx hb (zD_g DX1_senderLoses 1 rfl) (by decide) (by simp [Op.lookupswitch.offset, z0.symm, z1.symm]) (by decide) ?_
      refine lv_iconst (v := (0 : Int32)) hx hb (zD_g DX1_senderLoses 10 rfl) (by decide) ?_
      cases hf
      exact hret _ _ (zD_g DX1_senderLoses 11 rfl)
abbrev dlX1_otherLoses : List (Nat × Instr × Nat) := [(0, .iload 4, 2), (2, .lookupswitch 36 #[(0, 26), (1, 34)], 26), (28, .aload_n 0, 1), (29, .iload_n 1, 1), (30, .iload_n 2, 1), (31, .iload_n 3, 1), (32, .invokevirtual 22, 3), (35, .ireturn, 1), (36, .iconst 1, 1), (37, .ireturn, 1), (38, .iload_n 2, 1), (39, .ifCond .eq 7, 3), (42, .iconst 3, 1), (43, .goto 5, 3), (46, .bipush 6, 2), (48, .ireturn, 1)]
theorem DX1_otherLoses : zD cX1_otherLoses dlX1_otherLoses = true := by decide +kernel
set_option maxRecDepth 20000 in
theorem ggX1_otherLoses_X4_loss : GoodIn wsX1_otherLoses wsX4_loss := goodIn_r _ [5, 6, 7, 8, 9, 10, 11, 12, 13, 4, 14, 15, 16, 17, 18, 19, 20, 21, 22, 23, 24, 25, 26, 27, 28, 29, 30, 31, 32, 33, 34, 35, 36, 37, 38, 39, 40, 41, 42, 43, 44] (by decide +kernel) (by decide +kernel)
set_option maxRecDepth 20000 in
theorem gX1_otherLoses_X4_loss : GoodIn wsX1_otherLoses (wsV RX1 22 RX4 yX4_loss wsX4_loss) := goodIn_app (goodIn_of _ (by decide +kernel)) ggX1_otherLoses_X4_loss
theorem hd1_otherLoses : yX1_otherLoses.cls ≠ "java/lang/invoke/MethodHandle" ∧ yX1_otherLoses.cls ≠ "java/lang/invoke/VarHandle" ∧ (parseMethodDescriptor yX1_otherLoses.desc).map (fun d => d.parameters.length) = some 5 := by decide +kernel
abbrev rm1_otherLoses : Room := { frames := 3, cells := 0, slots := 0, locals := 69 }
set_option maxHeartbeats 4000000 in
set_option maxRecDepth 100000 in
theorem c1_otherLoses {l : Launch} {D : va_G} {cI cZ cB : ClassId} {q : Nat → Nat} {things : Int32} {gifts : Int32} {days : Int32} {size : Nat → Int32} {weight : Nat → Int32} {sound : Nat → Int32} {harm : Nat → Int32} {in_ : Nat → Int32} {kind : Nat → Int32} {owner : Nat → Int32} {empty : Nat → Int32} {room : Nat → Int32} {told : Nat → Int32} {gate : Nat → Int32} {ear : Nat → Int32} {scale : Nat → Int32} {lost : Nat → Int32} {watch : Nat → Int32} {moments : Int32} {kept : Nat → Int32} {a_gift : Int32} {a_set : Int32} {a_hour : Int32} {a_does : Int32} {r : Int32}  (hf : f1_otherLoses days harm kind owner watch a_gift a_set a_hour a_does = some r) : Met l yX1_otherLoses wsX1_otherLoses rm1_otherLoses (zPp D cI cZ cB [.ref (q 0), .int a_gift, .int a_set, .int a_hour, .int a_does] (cWar cI q things gifts days size weight sound harm in_ kind owner empty room told gate ear scale lost watch moments kept)) (zQp (some (.int r))) 0 0 (fun _ => False) := by
  unfold f1_otherLoses at hf
  refine z_pureI RX1 (by decide +kernel) rfl rfl (Nat.le_of_ble_eq_true rfl) ?_
  intro p e s m args below meth c Q ls hx hb hml hown hts hK hP hret hl
  have hl : lv_has ls 5 [(0, .ref (q 0)), (1, .int a_gift), (2, .int a_set), (3, .int a_hour), (4, .int a_does)] := hl
  refine lv_iload hx hb (zD_g DX1_otherLoses 0 rfl) (lv_at hl 4 rfl) ?_
  by_cases c1 : a_does = 0
  · replace hf := z_t c1 hf
    refine lv_lookup (off := 26) (tgt := 28) hx hb (zD_g DX1_otherLoses 1 rfl) (by decide) (by rw [c1]; decide) (by decide) ?_
    refine lv_aload_n hx hb (zD_g DX1_otherLoses 2 rfl) rfl (lv_at hl 0 rfl) ?_
    refine lv_iload_n hx hb (zD_g DX1_otherLoses 3 rfl) rfl (lv_at hl 1 rfl) ?_
    refine lv_iload_n hx hb (zD_g DX1_otherLoses 4 rfl) rfl (lv_at hl 2 rfl) ?_
    refine lv_iload_n hx hb (zD_g DX1_otherLoses 5 rfl) rfl (lv_at hl 3 rfl) ?_
    obtain ⟨r2, hc3, hf⟩ := zb1_s hf
    refine z_Vp (As := [.int a_gift, .int a_set, .int a_hour]) (rest := []) ⟨hx, hb, hml, hown, hts⟩ hK (c4_loss (things := things) (gifts := gifts) (days := days) (size := size) (weight := weight) (sound := sound) (harm := harm) (in_ := in_) (kind := kind) (owner := owner) (empty := empty) (room := room) (told := told) (gate := gate) (ear := ear) (scale := scale) (lost := lost) (watch := watch) (moments := moments) (kept := kept) (q := q) hc3) (cwV 3 hts gX1_otherLoses_X4_loss rfl rfl rfl hd4_loss ⟨Nat.le_of_ble_eq_true rfl, Nat.le_of_ble_eq_true rfl⟩) hP rfl rfl rfl rfl hl.1 rfl rfl (Nat.le_of_ble_eq_true rfl) (zD_g DX1_otherLoses 6 rfl) ⟨Nat.zero_le _, Nat.zero_le _⟩ ?_
    cases hf
    exact hret _ _ (zD_g DX1_otherLoses 7 rfl)
  · replace hf := z_f c1 hf
    by_cases c4 : a_does = 1
    · replace hf := z_t c4 hf
      refine lv_lookup (off := 34) (tgt := 36) hx hb (zD_g DX1_otherLoses 1 rfl) (by decide) (by rw [c4]; decide) (by decide) ?_
      refine lv_iconst (v := (1 : Int32)) hx hb (zD_g DX1_otherLoses 8 rfl) (by decide) ?_
      cases hf
      exact hret _ _ (zD_g DX1_otherLoses 9 rfl)
    · replace hf := z_f c4 hf
      have z0 : a_does.toInt ≠ 0 := z_ni c1
      have z1 : a_does.toInt ≠ 1 := z_ni c4
      refine lv_lookup (off := 36) (tgt := 38) hx hb (zD_g DX1_otherLoses 1 rfl) (by decide) (by simp [Op.lookupswitch.offset, z0.symm, z1.symm]) (by decide) ?_
      refine lv_iload_n hx hb (zD_g DX1_otherLoses 10 rfl) rfl (lv_at hl 2 rfl) ?_
      refine lv_if_eq (tgt := 46) hx hb (zD_g DX1_otherLoses 11 rfl) (by decide) (fun c5 => ?_) (fun c5 => ?_)
      · replace hf := z_t c5 hf
        refine lv_bipush (v := (6 : Int32)) hx hb (zD_g DX1_otherLoses 14 rfl) (by decide) ?_
        cases hf
        exact hret _ _ (zD_g DX1_otherLoses 15 rfl)
      · replace hf := z_f c5 hf
        refine lv_iconst (v := (3 : Int32)) hx hb (zD_g DX1_otherLoses 12 rfl) (by decide) ?_
        refine lv_goto (tgt := 48) hx hb (zD_g DX1_otherLoses 13 rfl) (by decide) ?_
        cases hf
        exact hret _ _ (zD_g DX1_otherLoses 15 rfl)
abbrev dlX1_rests : List (Nat × Instr × Nat) := [(0, .aload_n 0, 1), (1, .iload_n 1, 1), (2, .iconst 1, 1), (3, .iload_n 3, 1), (4, .isub, 1), (5, .invokestatic 74, 3), (8, .iload 4, 2), (10, .invokestatic 78, 3), (13, .aload_n 0, 1), (14, .iload_n 1, 1), (15, .iload_n 3, 1), (16, .invokestatic 74, 3), (19, .iload 4, 2), (21, .invokestatic 78, 3), (24, .if_icmp .ge 5, 3), (27, .iconst 0, 1), (28, .ireturn, 1), (29, .aload_n 0, 1), (30, .iload_n 1, 1), (31, .iload_n 3, 1), (32, .invokestatic 74, 3), (35, .istore 5, 2), (37, .aload_n 0, 1), (38, .iload_n 1, 1), (39, .iload 5, 2), (41, .iload_n 2, 1), (42, .iload 4, 2), (44, .invokestatic 81, 3), (47, .istore 6, 2), (49, .iconst 0, 1), (50, .istore 7, 2), (52, .iload 7, 2), (54, .iconst 3, 1), (55, .if_icmp .ge 26, 3), (58, .aload_n 0, 1), (59, .iload_n 1, 1), (60, .iload 5, 2), (62, .iload_n 2, 1), (63, .iload 7, 2), (65, .invokestatic 81, 3), (68, .iload 6, 2), (70, .if_icmp .ge 5, 3), (73, .iconst 0, 1), (74, .ireturn, 1), (75, .iinc 7 1, 3), (78, .goto (-26), 3), (81, .iconst 1, 1), (82, .ireturn, 1)]
theorem DX1_rests : zD cX1_rests dlX1_rests = true := by decide +kernel
set_option maxRecDepth 20000 in
theorem ggX1_rests_X1_sent : GoodIn wsX1_rests wsX1_sent := goodIn_r _ [4, 5, 6, 7, 8, 9, 10, 11, 42, 43, 44, 45, 46, 47, 48, 49, 50, 51, 52, 53, 54, 55, 56, 57, 58, 59, 60] (by decide +kernel) (by decide +kernel)
set_option maxRecDepth 20000 in
theorem gX1_rests_X1_sent : GoodIn wsX1_rests (va_wsS RX1 74 yX1_sent wsX1_sent) := goodIn_app (goodIn_of _ (by decide +kernel)) ggX1_rests_X1_sent
set_option maxRecDepth 20000 in
theorem ggX1_rests_X1_senderLoses : GoodIn wsX1_rests wsX1_senderLoses := goodIn_r _ [14] (by decide +kernel) (by decide +kernel)
set_option maxRecDepth 20000 in
theorem gX1_rests_X1_senderLoses : GoodIn wsX1_rests (va_wsS RX1 78 yX1_senderLoses wsX1_senderLoses) := goodIn_app (goodIn_of _ (by decide +kernel)) ggX1_rests_X1_senderLoses
set_option maxRecDepth 20000 in
theorem ggX1_rests_X1_otherLoses : GoodIn wsX1_rests wsX1_otherLoses := goodIn_r _ [17, 18, 19, 20, 8, 21, 22, 23, 24, 25, 26, 27, 28, 29, 30, 31, 32, 33, 34, 35, 36, 37, 38, 39, 40, 41, 42, 43, 44, 45, 46, 47, 48, 49, 50, 51, 52, 53, 54, 55, 56, 57, 58, 59, 60] (by decide +kernel) (by decide +kernel)
set_option maxRecDepth 20000 in
theorem gX1_rests_X1_otherLoses : GoodIn wsX1_rests (va_wsS RX1 81 yX1_otherLoses wsX1_otherLoses) := goodIn_app (goodIn_of _ (by decide +kernel)) ggX1_rests_X1_otherLoses
theorem hd1_rests : yX1_rests.cls ≠ "java/lang/invoke/MethodHandle" ∧ yX1_rests.cls ≠ "java/lang/invoke/VarHandle" ∧ (parseMethodDescriptor yX1_rests.desc).map (fun d => d.parameters.length) = some 5 := by decide +kernel
abbrev rm1_rests : Room := { frames := 4, cells := 0, slots := 0, locals := 93 }
set_option maxHeartbeats 4000000 in
set_option maxRecDepth 100000 in
theorem c1_rests {l : Launch} {D : va_G} {cI cZ cB : ClassId} {q : Nat → Nat} {things : Int32} {gifts : Int32} {days : Int32} {size : Nat → Int32} {weight : Nat → Int32} {sound : Nat → Int32} {harm : Nat → Int32} {in_ : Nat → Int32} {kind : Nat → Int32} {owner : Nat → Int32} {empty : Nat → Int32} {room : Nat → Int32} {told : Nat → Int32} {gate : Nat → Int32} {ear : Nat → Int32} {scale : Nat → Int32} {lost : Nat → Int32} {watch : Nat → Int32} {moments : Int32} {kept : Nat → Int32} {a_gift : Int32} {a_hour : Int32} {a_sends : Int32} {a_does : Int32} {r : Int32}  (hf : f1_rests things days harm in_ kind owner watch a_gift a_hour a_sends a_does = some r) : Met l yX1_rests wsX1_rests rm1_rests (zPp D cI cZ cB [.ref (q 0), .int a_gift, .int a_hour, .int a_sends, .int a_does] (cWar cI q things gifts days size weight sound harm in_ kind owner empty room told gate ear scale lost watch moments kept)) (zQp (some (.int r))) 0 0 (fun _ => False) := by
  unfold f1_rests at hf
  refine z_pureZ RX1 (by decide +kernel) rfl rfl (Nat.le_of_ble_eq_true rfl) ?_
  intro p e s m args below meth c Q ls hx hb hml hown hts hK hP hret hl
  have hl : lv_has ls 8 [(0, .ref (q 0)), (1, .int a_gift), (2, .int a_hour), (3, .int a_sends), (4, .int a_does)] := hl
  refine lv_aload_n hx hb (zD_g DX1_rests 0 rfl) rfl (lv_at hl 0 rfl) ?_
  refine lv_iload_n hx hb (zD_g DX1_rests 1 rfl) rfl (lv_at hl 1 rfl) ?_
  refine lv_iconst (v := (1 : Int32)) hx hb (zD_g DX1_rests 2 rfl) (by decide) ?_
  refine lv_iload_n hx hb (zD_g DX1_rests 3 rfl) rfl (lv_at hl 3 rfl) ?_
  refine lv_isub hx hb (zD_g DX1_rests 4 rfl) ?_
  obtain ⟨r1, hc2, hf⟩ := zb1_s hf
  refine z_Sp (As := [.ref (q 0), .int a_gift, .int ((1 : Int32) - a_sends)]) (rest := []) ⟨hx, hb, hml, hown, hts⟩ hK (c1_sent (things := things) (gifts := gifts) (days := days) (size := size) (weight := weight) (sound := sound) (harm := harm) (in_ := in_) (kind := kind) (owner := owner) (empty := empty) (room := room) (told := told) (gate := gate) (ear := ear) (scale := scale) (lost := lost) (watch := watch) (moments := moments) (kept := kept) (q := q) hc2) (va_cwS 3 hts gX1_rests_X1_sent rfl rfl rfl hd1_sent ⟨Nat.le_of_ble_eq_true rfl, Nat.le_of_ble_eq_true rfl⟩) hP rfl hl.1 rfl rfl (Nat.le_of_ble_eq_true rfl) (zD_g DX1_rests 5 rfl) ⟨Nat.zero_le _, Nat.zero_le _⟩ ?_
  refine lv_iload hx hb (zD_g DX1_rests 6 rfl) (lv_at hl 4 rfl) ?_
  obtain ⟨r3, hc4, hf⟩ := zb1_s hf
  refine z_Sp (As := [.int r1, .int a_does]) (rest := []) ⟨hx, hb, hml, hown, hts⟩ hK (c1_senderLoses  hc4) (va_cwS 2 hts gX1_rests_X1_senderLoses rfl rfl rfl hd1_senderLoses ⟨Nat.le_of_ble_eq_true rfl, Nat.le_of_ble_eq_true rfl⟩) (hP.sub [] rfl) rfl hl.1 rfl rfl (Nat.le_of_ble_eq_true rfl) (zD_g DX1_rests 7 rfl) ⟨Nat.zero_le _, Nat.zero_le _⟩ ?_
  refine lv_aload_n hx hb (zD_g DX1_rests 8 rfl) rfl (lv_at hl 0 rfl) ?_
  refine lv_iload_n hx hb (zD_g DX1_rests 9 rfl) rfl (lv_at hl 1 rfl) ?_
  refine lv_iload_n hx hb (zD_g DX1_rests 10 rfl) rfl (lv_at hl 3 rfl) ?_
  obtain ⟨r5, hc6, hf⟩ := zb1_s hf
  refine z_Sp (As := [.ref (q 0), .int a_gift, .int a_sends]) (rest := [.int r3]) ⟨hx, hb, hml, hown, hts⟩ hK (c1_sent (things := things) (gifts := gifts) (days := days) (size := size) (weight := weight) (sound := sound) (harm := harm) (in_ := in_) (kind := kind) (owner := owner) (empty := empty) (room := room) (told := told) (gate := gate) (ear := ear) (scale := scale) (lost := lost) (watch := watch) (moments := moments) (kept := kept) (q := q) hc6) (va_cwS 3 hts gX1_rests_X1_sent rfl rfl rfl hd1_sent ⟨Nat.le_of_ble_eq_true rfl, Nat.le_of_ble_eq_true rfl⟩) hP rfl hl.1 rfl rfl (Nat.le_of_ble_eq_true rfl) (zD_g DX1_rests 11 rfl) ⟨Nat.zero_le _, Nat.zero_le _⟩ ?_
  refine lv_iload hx hb (zD_g DX1_rests 12 rfl) (lv_at hl 4 rfl) ?_
  obtain ⟨r7, hc8, hf⟩ := zb1_s hf
  refine z_Sp (As := [.int r5, .int a_does]) (rest := [.int r3]) ⟨hx, hb, hml, hown, hts⟩ hK (c1_senderLoses  hc8) (va_cwS 2 hts gX1_rests_X1_senderLoses rfl rfl rfl hd1_senderLoses ⟨Nat.le_of_ble_eq_true rfl, Nat.le_of_ble_eq_true rfl⟩) (hP.sub [] rfl) rfl hl.1 rfl rfl (Nat.le_of_ble_eq_true rfl) (zD_g DX1_rests 13 rfl) ⟨Nat.zero_le _, Nat.zero_le _⟩ ?_
  refine lv_icmp_ge (tgt := 29) hx hb (zD_g DX1_rests 14 rfl) (by decide) (fun c9 => ?_) (fun c9 => ?_)
  · replace hf := z_t c9 hf
    refine lv_aload_n hx hb (zD_g DX1_rests 17 rfl) rfl (lv_at hl 0 rfl) ?_
    refine lv_iload_n hx hb (zD_g DX1_rests 18 rfl) rfl (lv_at hl 1 rfl) ?_
    refine lv_iload_n hx hb (zD_g DX1_rests 19 rfl) rfl (lv_at hl 3 rfl) ?_
    obtain ⟨r10, hc11, hf⟩ := zb1_s hf
    refine z_Sp (As := [.ref (q 0), .int a_gift, .int a_sends]) (rest := []) ⟨hx, hb, hml, hown, hts⟩ hK (c1_sent (things := things) (gifts := gifts) (days := days) (size := size) (weight := weight) (sound := sound) (harm := harm) (in_ := in_) (kind := kind) (owner := owner) (empty := empty) (room := room) (told := told) (gate := gate) (ear := ear) (scale := scale) (lost := lost) (watch := watch) (moments := moments) (kept := kept) (q := q) hc11) (va_cwS 3 hts gX1_rests_X1_sent rfl rfl rfl hd1_sent ⟨Nat.le_of_ble_eq_true rfl, Nat.le_of_ble_eq_true rfl⟩) hP rfl hl.1 rfl rfl (Nat.le_of_ble_eq_true rfl) (zD_g DX1_rests 20 rfl) ⟨Nat.zero_le _, Nat.zero_le _⟩ ?_
    refine lv_istore (lv' := [(5, .int r10), (0, .ref (q 0)), (1, .int a_gift), (2, .int a_hour), (3, .int a_sends), (4, .int a_does)]) hx hb (zD_g DX1_rests 21 rfl) hl (by decide) rfl (fun ls hl => ?_)
    refine lv_aload_n hx hb (zD_g DX1_rests 22 rfl) rfl (lv_at hl 1 rfl) ?_
    refine lv_iload_n hx hb (zD_g DX1_rests 23 rfl) rfl (lv_at hl 2 rfl) ?_
    refine lv_iload hx hb (zD_g DX1_rests 24 rfl) (lv_at hl 0 rfl) ?_
    refine lv_iload_n hx hb (zD_g DX1_rests 25 rfl) rfl (lv_at hl 3 rfl) ?_
    refine lv_iload hx hb (zD_g DX1_rests 26 rfl) (lv_at hl 5 rfl) ?_
    obtain ⟨r12, hc13, hf⟩ := zb1_s hf
    refine z_Sp (As := [.ref (q 0), .int a_gift, .int r10, .int a_hour, .int a_does]) (rest := []) ⟨hx, hb, hml, hown, hts⟩ hK (c1_otherLoses (things := things) (gifts := gifts) (days := days) (size := size) (weight := weight) (sound := sound) (harm := harm) (in_ := in_) (kind := kind) (owner := owner) (empty := empty) (room := room) (told := told) (gate := gate) (ear := ear) (scale := scale) (lost := lost) (watch := watch) (moments := moments) (kept := kept) (q := q) hc13) (va_cwS 5 hts gX1_rests_X1_otherLoses rfl rfl rfl hd1_otherLoses ⟨Nat.le_of_ble_eq_true rfl, Nat.le_of_ble_eq_true rfl⟩) hP rfl hl.1 rfl rfl (Nat.le_of_ble_eq_true rfl) (zD_g DX1_rests 27 rfl) ⟨Nat.zero_le _, Nat.zero_le _⟩ ?_
    refine lv_istore (lv' := [(6, .int r12), (5, .int r10), (0, .ref (q 0)), (1, .int a_gift), (2, .int a_hour), (3, .int a_sends), (4, .int a_does)]) hx hb (zD_g DX1_rests 28 rfl) hl (by decide) rfl (fun ls hl => ?_)
    refine lv_iconst (v := (0 : Int32)) hx hb (zD_g DX1_rests 29 rfl) (by decide) ?_
    refine lv_istore (lv' := [(7, .int (0 : Int32)), (6, .int r12), (5, .int r10), (0, .ref (q 0)), (1, .int a_gift), (2, .int a_hour), (3, .int a_sends), (4, .int a_does)]) hx hb (zD_g DX1_rests 30 rfl) hl (by decide) rfl (fun ls hl => ?_)
    have hL15 : ∀ (k15 : Option (Int32)) (hk15 : k15  = some r → ∀ (ls : Array Slot), lv_has ls 8 [] → W p l e rm1_rests s m args below meth c s.heap [] 0 0 Q (F0 m 81 ls [])) (n15 : Nat) (y14 : Int32), L1_rests_52 k15 days harm kind owner watch a_gift a_hour r10 r12 n15 y14 = some r → ∀ (ls : Array Slot), lv_has ls 8 [(0, .ref (q 0)), (1, .int a_gift), (2, .int a_hour), (5, .int r10), (6, .int r12), (7, .int y14)] → W p l e rm1_rests s m args below meth c s.heap [] 0 0 Q (F0 m 52 ls []) := by
      intro k15 hk15 n15
      induction n15 with
      | zero =>
        intro y14 hf
        cases hf
      | succ n15 ih15 =>
        intro y14 hf ls hl
        rw [L1_rests_52] at hf
        refine lv_iload hx hb (zD_g DX1_rests 31 rfl) (lv_at hl 5 rfl) ?_
        refine lv_iconst (v := (3 : Int32)) hx hb (zD_g DX1_rests 32 rfl) (by decide) ?_
        refine lv_icmp_ge (tgt := 81) hx hb (zD_g DX1_rests 33 rfl) (by decide) (fun c16 => ?_) (fun c16 => ?_)
        · replace hf := z_t c16 hf
          exact hk15  hf ls (lv_sub hl [] rfl)
        · replace hf := z_f c16 hf
          refine lv_aload_n hx hb (zD_g DX1_rests 34 rfl) rfl (lv_at hl 0 rfl) ?_
          refine lv_iload_n hx hb (zD_g DX1_rests 35 rfl) rfl (lv_at hl 1 rfl) ?_
          refine lv_iload hx hb (zD_g DX1_rests 36 rfl) (lv_at hl 3 rfl) ?_
          refine lv_iload_n hx hb (zD_g DX1_rests 37 rfl) rfl (lv_at hl 2 rfl) ?_
          refine lv_iload hx hb (zD_g DX1_rests 38 rfl) (lv_at hl 5 rfl) ?_
          obtain ⟨r17, hc18, hf⟩ := zb1_s hf
          refine z_Sp (As := [.ref (q 0), .int a_gift, .int r10, .int a_hour, .int y14]) (rest := []) ⟨hx, hb, hml, hown, hts⟩ hK (c1_otherLoses (things := things) (gifts := gifts) (days := days) (size := size) (weight := weight) (sound := sound) (harm := harm) (in_ := in_) (kind := kind) (owner := owner) (empty := empty) (room := room) (told := told) (gate := gate) (ear := ear) (scale := scale) (lost := lost) (watch := watch) (moments := moments) (kept := kept) (q := q) hc18) (va_cwS 5 hts gX1_rests_X1_otherLoses rfl rfl rfl hd1_otherLoses ⟨Nat.le_of_ble_eq_true rfl, Nat.le_of_ble_eq_true rfl⟩) hP rfl hl.1 rfl rfl (Nat.le_of_ble_eq_true rfl) (zD_g DX1_rests 39 rfl) ⟨Nat.zero_le _, Nat.zero_le _⟩ ?_
          refine lv_iload hx hb (zD_g DX1_rests 40 rfl) (lv_at hl 4 rfl) ?_
          refine lv_icmp_ge (tgt := 75) hx hb (zD_g DX1_rests 41 rfl) (by decide) (fun c19 => ?_) (fun c19 => ?_)
          · replace hf := z_t c19 hf
            refine lv_iinc (v := y14 + 1) (lv' := [(7, .int (y14 + 1)), (0, .ref (q 0)), (1, .int a_gift), (2, .int a_hour), (5, .int r10), (6, .int r12)]) (k := 5) hx hb (zD_g DX1_rests 44 rfl) hl rfl rfl (by decide) rfl (fun ls hl => ?_)
            refine lv_goto (tgt := 52) hx hb (zD_g DX1_rests 45 rfl) (by decide) ?_
            exact ih15 _ hf ls (lv_sub hl [1, 2, 3, 4, 5, 0] rfl)
          · replace hf := z_f c19 hf
            refine lv_iconst (v := (0 : Int32)) hx hb (zD_g DX1_rests 42 rfl) (by decide) ?_
            cases hf
            exact hret _ _ rfl (zD_g DX1_rests 43 rfl)
    refine hL15 _ (fun  hf ls hl => ?_) _ _ hf ls (lv_sub hl [3, 4, 5, 2, 1, 0] rfl)
    refine lv_iconst (v := (1 : Int32)) hx hb (zD_g DX1_rests 46 rfl) (by decide) ?_
    cases hf
    exact hret _ _ rfl (zD_g DX1_rests 47 rfl)
  · replace hf := z_f c9 hf
    refine lv_iconst (v := (0 : Int32)) hx hb (zD_g DX1_rests 15 rfl) (by decide) ?_
    cases hf
    exact hret _ _ rfl (zD_g DX1_rests 16 rfl)
abbrev dlX1_restingPairs : List (Nat × Instr × Nat) := [(0, .iconst 0, 1), (1, .istore_n 3, 1), (2, .iconst 0, 1), (3, .istore 4, 2), (5, .iload 4, 2), (7, .iconst 1, 1), (8, .if_icmp .gt 40, 3), (11, .iconst 0, 1), (12, .istore 5, 2), (14, .iload 5, 2), (16, .iconst 3, 1), (17, .if_icmp .ge 25, 3), (20, .aload_n 0, 1), (21, .iload_n 1, 1), (22, .iload_n 2, 1), (23, .iload 4, 2), (25, .iload 5, 2), (27, .invokestatic 70, 3), (30, .ifCond .eq 6, 3), (33, .iinc 3 1, 3), (36, .iinc 5 1, 3), (39, .goto (-25), 3), (42, .iinc 4 1, 3), (45, .goto (-40), 3), (48, .iload_n 3, 1), (49, .ireturn, 1)]
theorem DX1_restingPairs : zD cX1_restingPairs dlX1_restingPairs = true := by decide +kernel
set_option maxRecDepth 20000 in
theorem ggX1_restingPairs_X1_rests : GoodIn wsX1_restingPairs wsX1_rests := goodIn_r _ [4, 5, 6, 3, 7, 8, 9, 10, 11, 12, 13, 14, 15, 16, 17, 18, 19, 20, 21, 22, 23, 24, 25, 26, 27, 28, 29, 30, 31, 32, 33, 34, 35, 36, 37, 38, 39, 40, 41, 42, 43, 44, 45, 46, 47, 48, 49, 50, 51, 52, 53, 54, 55, 56, 57, 58, 59, 60, 61, 62, 63] (by decide +kernel) (by decide +kernel)
set_option maxRecDepth 20000 in
theorem gX1_restingPairs_X1_rests : GoodIn wsX1_restingPairs (va_wsS RX1 70 yX1_rests wsX1_rests) := goodIn_app (goodIn_of _ (by decide +kernel)) ggX1_restingPairs_X1_rests
theorem hd1_restingPairs : yX1_restingPairs.cls ≠ "java/lang/invoke/MethodHandle" ∧ yX1_restingPairs.cls ≠ "java/lang/invoke/VarHandle" ∧ (parseMethodDescriptor yX1_restingPairs.desc).map (fun d => d.parameters.length) = some 3 := by decide +kernel
abbrev rm1_restingPairs : Room := { frames := 5, cells := 0, slots := 0, locals := 120 }
set_option maxHeartbeats 4000000 in
set_option maxRecDepth 100000 in
theorem c1_restingPairs {l : Launch} {D : va_G} {cI cZ cB : ClassId} {q : Nat → Nat} {things : Int32} {gifts : Int32} {days : Int32} {size : Nat → Int32} {weight : Nat → Int32} {sound : Nat → Int32} {harm : Nat → Int32} {in_ : Nat → Int32} {kind : Nat → Int32} {owner : Nat → Int32} {empty : Nat → Int32} {room : Nat → Int32} {told : Nat → Int32} {gate : Nat → Int32} {ear : Nat → Int32} {scale : Nat → Int32} {lost : Nat → Int32} {watch : Nat → Int32} {moments : Int32} {kept : Nat → Int32} {a_gift : Int32} {a_hour : Int32} {r : Int32}  (hf : f1_restingPairs things days harm in_ kind owner watch a_gift a_hour = some r) : Met l yX1_restingPairs wsX1_restingPairs rm1_restingPairs (zPp D cI cZ cB [.ref (q 0), .int a_gift, .int a_hour] (cWar cI q things gifts days size weight sound harm in_ kind owner empty room told gate ear scale lost watch moments kept)) (zQp (some (.int r))) 0 0 (fun _ => False) := by
  unfold f1_restingPairs at hf
  refine z_pureI RX1 (by decide +kernel) rfl rfl (Nat.le_of_ble_eq_true rfl) ?_
  intro p e s m args below meth c Q ls hx hb hml hown hts hK hP hret hl
  have hl : lv_has ls 6 [(0, .ref (q 0)), (1, .int a_gift), (2, .int a_hour)] := hl
  refine lv_iconst (v := (0 : Int32)) hx hb (zD_g DX1_restingPairs 0 rfl) (by decide) ?_
  refine lv_istore_n (lv' := [(3, .int (0 : Int32)), (0, .ref (q 0)), (1, .int a_gift), (2, .int a_hour)]) hx hb (zD_g DX1_restingPairs 1 rfl) rfl hl (by decide) rfl (fun ls hl => ?_)
  refine lv_iconst (v := (0 : Int32)) hx hb (zD_g DX1_restingPairs 2 rfl) (by decide) ?_
  refine lv_istore (lv' := [(4, .int (0 : Int32)), (3, .int (0 : Int32)), (0, .ref (q 0)), (1, .int a_gift), (2, .int a_hour)]) hx hb (zD_g DX1_restingPairs 3 rfl) hl (by decide) rfl (fun ls hl => ?_)
  have hL3 : ∀ (k3 : Int32 → Option (Int32)) (hk3 : ∀ (y13 : Int32), k3 y13 = some r → ∀ (ls : Array Slot), lv_has ls 6 [(3, .int y13)] → W p l e rm1_restingPairs s m args below meth c s.heap [] 0 0 Q (F0 m 48 ls [])) (n3 : Nat) (y1 : Int32) (y2 : Int32), L1_restingPairs_5 k3 things days harm in_ kind owner watch a_gift a_hour n3 y1 y2 = some r → ∀ (ls : Array Slot), lv_has ls 6 [(0, .ref (q 0)), (1, .int a_gift), (2, .int a_hour), (3, .int y1), (4, .int y2)] → W p l e rm1_restingPairs s m args below meth c s.heap [] 0 0 Q (F0 m 5 ls []) := by
    intro k3 hk3 n3
    induction n3 with
    | zero =>
      intro y1 y2 hf
      cases hf
    | succ n3 ih3 =>
      intro y1 y2 hf ls hl
      rw [L1_restingPairs_5] at hf
      refine lv_iload hx hb (zD_g DX1_restingPairs 4 rfl) (lv_at hl 4 rfl) ?_
      refine lv_iconst (v := (1 : Int32)) hx hb (zD_g DX1_restingPairs 5 rfl) (by decide) ?_
      refine lv_icmp_gt (tgt := 48) hx hb (zD_g DX1_restingPairs 6 rfl) (by decide) (fun c4 => ?_) (fun c4 => ?_)
      · replace hf := z_t c4 hf
        exact hk3 _ hf ls (lv_sub hl [3] rfl)
      · replace hf := z_f c4 hf
        refine lv_iconst (v := (0 : Int32)) hx hb (zD_g DX1_restingPairs 7 rfl) (by decide) ?_
        refine lv_istore (lv' := [(5, .int (0 : Int32)), (0, .ref (q 0)), (1, .int a_gift), (2, .int a_hour), (3, .int y1), (4, .int y2)]) hx hb (zD_g DX1_restingPairs 8 rfl) hl (by decide) rfl (fun ls hl => ?_)
        have hL7 : ∀ (k7 : Int32 → Option (Int32)) (hk7 : ∀ (y12 : Int32), k7 y12 = some r → ∀ (ls : Array Slot), lv_has ls 6 [(0, .ref (q 0)), (1, .int a_gift), (2, .int a_hour), (3, .int y12), (4, .int y2)] → W p l e rm1_restingPairs s m args below meth c s.heap [] 0 0 Q (F0 m 42 ls [])) (n7 : Nat) (y5 : Int32) (y6 : Int32), L1_restingPairs_14 k7 things days harm in_ kind owner watch a_gift a_hour y2 n7 y5 y6 = some r → ∀ (ls : Array Slot), lv_has ls 6 [(0, .ref (q 0)), (1, .int a_gift), (2, .int a_hour), (3, .int y5), (4, .int y2), (5, .int y6)] → W p l e rm1_restingPairs s m args below meth c s.heap [] 0 0 Q (F0 m 14 ls []) := by
          intro k7 hk7 n7
          induction n7 with
          | zero =>
            intro y5 y6 hf
            cases hf
          | succ n7 ih7 =>
            intro y5 y6 hf ls hl
            rw [L1_restingPairs_14] at hf
            refine lv_iload hx hb (zD_g DX1_restingPairs 9 rfl) (lv_at hl 5 rfl) ?_
            refine lv_iconst (v := (3 : Int32)) hx hb (zD_g DX1_restingPairs 10 rfl) (by decide) ?_
            refine lv_icmp_ge (tgt := 42) hx hb (zD_g DX1_restingPairs 11 rfl) (by decide) (fun c8 => ?_) (fun c8 => ?_)
            · replace hf := z_t c8 hf
              exact hk7 _ hf ls (lv_sub hl [0, 1, 2, 3, 4] rfl)
            · replace hf := z_f c8 hf
              refine lv_aload_n hx hb (zD_g DX1_restingPairs 12 rfl) rfl (lv_at hl 0 rfl) ?_
              refine lv_iload_n hx hb (zD_g DX1_restingPairs 13 rfl) rfl (lv_at hl 1 rfl) ?_
              refine lv_iload_n hx hb (zD_g DX1_restingPairs 14 rfl) rfl (lv_at hl 2 rfl) ?_
              refine lv_iload hx hb (zD_g DX1_restingPairs 15 rfl) (lv_at hl 4 rfl) ?_
              refine lv_iload hx hb (zD_g DX1_restingPairs 16 rfl) (lv_at hl 5 rfl) ?_
              obtain ⟨r9, hc10, hf⟩ := zb1_s hf
              refine z_Sp (As := [.ref (q 0), .int a_gift, .int a_hour, .int y2, .int y6]) (rest := []) ⟨hx, hb, hml, hown, hts⟩ hK (c1_rests (things := things) (gifts := gifts) (days := days) (size := size) (weight := weight) (sound := sound) (harm := harm) (in_ := in_) (kind := kind) (owner := owner) (empty := empty) (room := room) (told := told) (gate := gate) (ear := ear) (scale := scale) (lost := lost) (watch := watch) (moments := moments) (kept := kept) (q := q) hc10) (va_cwS 5 hts gX1_restingPairs_X1_rests rfl rfl rfl hd1_rests ⟨Nat.le_of_ble_eq_true rfl, Nat.le_of_ble_eq_true rfl⟩) hP rfl hl.1 rfl rfl (Nat.le_of_ble_eq_true rfl) (zD_g DX1_restingPairs 17 rfl) ⟨Nat.zero_le _, Nat.zero_le _⟩ ?_
              refine lv_if_eq (tgt := 36) hx hb (zD_g DX1_restingPairs 18 rfl) (by decide) (fun c11 => ?_) (fun c11 => ?_)
              · replace hf := z_t c11 hf
                refine lv_iinc (v := y6 + 1) (lv' := [(5, .int (y6 + 1)), (0, .ref (q 0)), (1, .int a_gift), (2, .int a_hour), (3, .int y5), (4, .int y2)]) (k := 5) hx hb (zD_g DX1_restingPairs 20 rfl) hl rfl rfl (by decide) rfl (fun ls hl => ?_)
                refine lv_goto (tgt := 14) hx hb (zD_g DX1_restingPairs 21 rfl) (by decide) ?_
                exact ih7 _ _ hf ls (lv_sub hl [1, 2, 3, 4, 5, 0] rfl)
              · replace hf := z_f c11 hf
                refine lv_iinc (v := y5 + 1) (lv' := [(3, .int (y5 + 1)), (0, .ref (q 0)), (1, .int a_gift), (2, .int a_hour), (4, .int y2), (5, .int y6)]) (k := 3) hx hb (zD_g DX1_restingPairs 19 rfl) hl rfl rfl (by decide) rfl (fun ls hl => ?_)
                refine lv_iinc (v := y6 + 1) (lv' := [(5, .int (y6 + 1)), (3, .int (y5 + 1)), (0, .ref (q 0)), (1, .int a_gift), (2, .int a_hour), (4, .int y2)]) (k := 5) hx hb (zD_g DX1_restingPairs 20 rfl) hl rfl rfl (by decide) rfl (fun ls hl => ?_)
                refine lv_goto (tgt := 14) hx hb (zD_g DX1_restingPairs 21 rfl) (by decide) ?_
                exact ih7 _ _ hf ls (lv_sub hl [2, 3, 4, 1, 5, 0] rfl)
        refine hL7 _ (fun y12 hf ls hl => ?_) _ _ _ hf ls (lv_sub hl [1, 2, 3, 4, 5, 0] rfl)
        refine lv_iinc (v := y2 + 1) (lv' := [(4, .int (y2 + 1)), (0, .ref (q 0)), (1, .int a_gift), (2, .int a_hour), (3, .int y12)]) (k := 4) hx hb (zD_g DX1_restingPairs 22 rfl) hl rfl rfl (by decide) rfl (fun ls hl => ?_)
        refine lv_goto (tgt := 5) hx hb (zD_g DX1_restingPairs 23 rfl) (by decide) ?_
        exact ih3 _ _ hf ls (lv_sub hl [1, 2, 3, 4, 0] rfl)
  refine hL3 _ (fun y13 hf ls hl => ?_) _ _ _ hf ls (lv_sub hl [2, 3, 4, 1, 0] rfl)
  refine lv_iload_n hx hb (zD_g DX1_restingPairs 24 rfl) rfl (lv_at hl 0 rfl) ?_
  cases hf
  exact hret _ _ (zD_g DX1_restingPairs 25 rfl)
abbrev dlX1_firstRestingPair : List (Nat × Instr × Nat) := [(0, .iconst 0, 1), (1, .istore_n 3, 1), (2, .iload_n 3, 1), (3, .iconst 1, 1), (4, .if_icmp .gt 44, 3), (7, .iconst 0, 1), (8, .istore 4, 2), (10, .iload 4, 2), (12, .iconst 3, 1), (13, .if_icmp .ge 29, 3), (16, .aload_n 0, 1), (17, .iload_n 1, 1), (18, .iload_n 2, 1), (19, .iload_n 3, 1), (20, .iload 4, 2), (22, .invokestatic 70, 3), (25, .ifCond .eq 11, 3), (28, .bipush 10, 2), (30, .iload_n 3, 1), (31, .imul, 1), (32, .iload 4, 2), (34, .iadd, 1), (35, .ireturn, 1), (36, .iinc 4 1, 3), (39, .goto (-29), 3), (42, .iinc 3 1, 3), (45, .goto (-43), 3), (48, .iconst (-1), 1), (49, .ireturn, 1)]
theorem DX1_firstRestingPair : zD cX1_firstRestingPair dlX1_firstRestingPair = true := by decide +kernel
set_option maxRecDepth 20000 in
theorem ggX1_firstRestingPair_X1_rests : GoodIn wsX1_firstRestingPair wsX1_rests := goodIn_r _ [4, 5, 6, 3, 7, 8, 9, 10, 11, 12, 13, 14, 15, 16, 17, 18, 19, 20, 21, 22, 23, 24, 25, 26, 27, 28, 29, 30, 31, 32, 33, 34, 35, 36, 37, 38, 39, 40, 41, 42, 43, 44, 45, 46, 47, 48, 49, 50, 51, 52, 53, 54, 55, 56, 57, 58, 59, 60, 61, 62, 63] (by decide +kernel) (by decide +kernel)
set_option maxRecDepth 20000 in
theorem gX1_firstRestingPair_X1_rests : GoodIn wsX1_firstRestingPair (va_wsS RX1 70 yX1_rests wsX1_rests) := goodIn_app (goodIn_of _ (by decide +kernel)) ggX1_firstRestingPair_X1_rests
theorem hd1_firstRestingPair : yX1_firstRestingPair.cls ≠ "java/lang/invoke/MethodHandle" ∧ yX1_firstRestingPair.cls ≠ "java/lang/invoke/VarHandle" ∧ (parseMethodDescriptor yX1_firstRestingPair.desc).map (fun d => d.parameters.length) = some 3 := by decide +kernel
abbrev rm1_firstRestingPair : Room := { frames := 5, cells := 0, slots := 0, locals := 120 }
set_option maxHeartbeats 4000000 in
set_option maxRecDepth 100000 in
theorem c1_firstRestingPair {l : Launch} {D : va_G} {cI cZ cB : ClassId} {q : Nat → Nat} {things : Int32} {gifts : Int32} {days : Int32} {size : Nat → Int32} {weight : Nat → Int32} {sound : Nat → Int32} {harm : Nat → Int32} {in_ : Nat → Int32} {kind : Nat → Int32} {owner : Nat → Int32} {empty : Nat → Int32} {room : Nat → Int32} {told : Nat → Int32} {gate : Nat → Int32} {ear : Nat → Int32} {scale : Nat → Int32} {lost : Nat → Int32} {watch : Nat → Int32} {moments : Int32} {kept : Nat → Int32} {a_gift : Int32} {a_hour : Int32} {r : Int32}  (hf : f1_firstRestingPair things days harm in_ kind owner watch a_gift a_hour = some r) : Met l yX1_firstRestingPair wsX1_firstRestingPair rm1_firstRestingPair (zPp D cI cZ cB [.ref (q 0), .int a_gift, .int a_hour] (cWar cI q things gifts days size weight sound harm in_ kind owner empty room told gate ear scale lost watch moments kept)) (zQp (some (.int r))) 0 0 (fun _ => False) := by
  unfold f1_firstRestingPair at hf
  refine z_pureI RX1 (by decide +kernel) rfl rfl (Nat.le_of_ble_eq_true rfl) ?_
  intro p e s m args below meth c Q ls hx hb hml hown hts hK hP hret hl
  have hl : lv_has ls 5 [(0, .ref (q 0)), (1, .int a_gift), (2, .int a_hour)] := hl
  refine lv_iconst (v := (0 : Int32)) hx hb (zD_g DX1_firstRestingPair 0 rfl) (by decide) ?_
  refine lv_istore_n (lv' := [(3, .int (0 : Int32)), (0, .ref (q 0)), (1, .int a_gift), (2, .int a_hour)]) hx hb (zD_g DX1_firstRestingPair 1 rfl) rfl hl (by decide) rfl (fun ls hl => ?_)
  have hL2 : ∀ (k2 : Option (Int32)) (hk2 : k2  = some r → ∀ (ls : Array Slot), lv_has ls 5 [] → W p l e rm1_firstRestingPair s m args below meth c s.heap [] 0 0 Q (F0 m 48 ls [])) (n2 : Nat) (y1 : Int32), L1_firstRestingPair_2 k2 things days harm in_ kind owner watch a_gift a_hour n2 y1 = some r → ∀ (ls : Array Slot), lv_has ls 5 [(0, .ref (q 0)), (1, .int a_gift), (2, .int a_hour), (3, .int y1)] → W p l e rm1_firstRestingPair s m args below meth c s.heap [] 0 0 Q (F0 m 2 ls []) := by
    intro k2 hk2 n2
    induction n2 with
    | zero =>
      intro y1 hf
      cases hf
    | succ n2 ih2 =>
      intro y1 hf ls hl
      rw [L1_firstRestingPair_2] at hf
      refine lv_iload_n hx hb (zD_g DX1_firstRestingPair 2 rfl) rfl (lv_at hl 3 rfl) ?_
      refine lv_iconst (v := (1 : Int32)) hx hb (zD_g DX1_firstRestingPair 3 rfl) (by decide) ?_
      refine lv_icmp_gt (tgt := 48) hx hb (zD_g DX1_firstRestingPair 4 rfl) (by decide) (fun c3 => ?_) (fun c3 => ?_)
      · replace hf := z_t c3 hf
        exact hk2  hf ls (lv_sub hl [] rfl)
      · replace hf := z_f c3 hf
        refine lv_iconst (v := (0 : Int32)) hx hb (zD_g DX1_firstRestingPair 5 rfl) (by decide) ?_
        refine lv_istore (lv' := [(4, .int (0 : Int32)), (0, .ref (q 0)), (1, .int a_gift), (2, .int a_hour), (3, .int y1)]) hx hb (zD_g DX1_firstRestingPair 6 rfl) hl (by decide) rfl (fun ls hl => ?_)
        have hL5 : ∀ (k5 : Option (Int32)) (hk5 : k5  = some r → ∀ (ls : Array Slot), lv_has ls 5 [(0, .ref (q 0)), (1, .int a_gift), (2, .int a_hour), (3, .int y1)] → W p l e rm1_firstRestingPair s m args below meth c s.heap [] 0 0 Q (F0 m 42 ls [])) (n5 : Nat) (y4 : Int32), L1_firstRestingPair_10 k5 things days harm in_ kind owner watch a_gift a_hour y1 n5 y4 = some r → ∀ (ls : Array Slot), lv_has ls 5 [(0, .ref (q 0)), (1, .int a_gift), (2, .int a_hour), (3, .int y1), (4, .int y4)] → W p l e rm1_firstRestingPair s m args below meth c s.heap [] 0 0 Q (F0 m 10 ls []) := by
          intro k5 hk5 n5
          induction n5 with
          | zero =>
            intro y4 hf
            cases hf
          | succ n5 ih5 =>
            intro y4 hf ls hl
            rw [L1_firstRestingPair_10] at hf
            refine lv_iload hx hb (zD_g DX1_firstRestingPair 7 rfl) (lv_at hl 4 rfl) ?_
            refine lv_iconst (v := (3 : Int32)) hx hb (zD_g DX1_firstRestingPair 8 rfl) (by decide) ?_
            refine lv_icmp_ge (tgt := 42) hx hb (zD_g DX1_firstRestingPair 9 rfl) (by decide) (fun c6 => ?_) (fun c6 => ?_)
            · replace hf := z_t c6 hf
              exact hk5  hf ls (lv_sub hl [0, 1, 2, 3] rfl)
            · replace hf := z_f c6 hf
              refine lv_aload_n hx hb (zD_g DX1_firstRestingPair 10 rfl) rfl (lv_at hl 0 rfl) ?_
              refine lv_iload_n hx hb (zD_g DX1_firstRestingPair 11 rfl) rfl (lv_at hl 1 rfl) ?_
              refine lv_iload_n hx hb (zD_g DX1_firstRestingPair 12 rfl) rfl (lv_at hl 2 rfl) ?_
              refine lv_iload_n hx hb (zD_g DX1_firstRestingPair 13 rfl) rfl (lv_at hl 3 rfl) ?_
              refine lv_iload hx hb (zD_g DX1_firstRestingPair 14 rfl) (lv_at hl 4 rfl) ?_
              obtain ⟨r7, hc8, hf⟩ := zb1_s hf
              refine z_Sp (As := [.ref (q 0), .int a_gift, .int a_hour, .int y1, .int y4]) (rest := []) ⟨hx, hb, hml, hown, hts⟩ hK (c1_rests (things := things) (gifts := gifts) (days := days) (size := size) (weight := weight) (sound := sound) (harm := harm) (in_ := in_) (kind := kind) (owner := owner) (empty := empty) (room := room) (told := told) (gate := gate) (ear := ear) (scale := scale) (lost := lost) (watch := watch) (moments := moments) (kept := kept) (q := q) hc8) (va_cwS 5 hts gX1_firstRestingPair_X1_rests rfl rfl rfl hd1_rests ⟨Nat.le_of_ble_eq_true rfl, Nat.le_of_ble_eq_true rfl⟩) hP rfl hl.1 rfl rfl (Nat.le_of_ble_eq_true rfl) (zD_g DX1_firstRestingPair 15 rfl) ⟨Nat.zero_le _, Nat.zero_le _⟩ ?_
              refine lv_if_eq (tgt := 36) hx hb (zD_g DX1_firstRestingPair 16 rfl) (by decide) (fun c9 => ?_) (fun c9 => ?_)
              · replace hf := z_t c9 hf
                refine lv_iinc (v := y4 + 1) (lv' := [(4, .int (y4 + 1)), (0, .ref (q 0)), (1, .int a_gift), (2, .int a_hour), (3, .int y1)]) (k := 4) hx hb (zD_g DX1_firstRestingPair 23 rfl) hl rfl rfl (by decide) rfl (fun ls hl => ?_)
                refine lv_goto (tgt := 10) hx hb (zD_g DX1_firstRestingPair 24 rfl) (by decide) ?_
                exact ih5 _ hf ls (lv_sub hl [1, 2, 3, 4, 0] rfl)
              · replace hf := z_f c9 hf
                refine lv_bipush (v := (10 : Int32)) hx hb (zD_g DX1_firstRestingPair 17 rfl) (by decide) ?_
                refine lv_iload_n hx hb (zD_g DX1_firstRestingPair 18 rfl) rfl (lv_at hl 3 rfl) ?_
                refine lv_imul hx hb (zD_g DX1_firstRestingPair 19 rfl) ?_
                refine lv_iload hx hb (zD_g DX1_firstRestingPair 20 rfl) (lv_at hl 4 rfl) ?_
                refine lv_iadd hx hb (zD_g DX1_firstRestingPair 21 rfl) ?_
                refine lv_topi (fun x10 ex10 => ?_)
                replace hf := zl_s hf x10 ex10
                cases hf
                exact hret _ _ (zD_g DX1_firstRestingPair 22 rfl)
        refine hL5 _ (fun  hf ls hl => ?_) _ _ hf ls (lv_sub hl [1, 2, 3, 4, 0] rfl)
        refine lv_iinc (v := y1 + 1) (lv' := [(3, .int (y1 + 1)), (0, .ref (q 0)), (1, .int a_gift), (2, .int a_hour)]) (k := 3) hx hb (zD_g DX1_firstRestingPair 25 rfl) hl rfl rfl (by decide) rfl (fun ls hl => ?_)
        refine lv_goto (tgt := 2) hx hb (zD_g DX1_firstRestingPair 26 rfl) (by decide) ?_
        exact ih2 _ hf ls (lv_sub hl [1, 2, 3, 0] rfl)
  refine hL2 _ (fun  hf ls hl => ?_) _ _ hf ls (lv_sub hl [1, 2, 3, 0] rfl)
  refine lv_iconst (v := (-1 : Int32)) hx hb (zD_g DX1_firstRestingPair 27 rfl) (by decide) ?_
  cases hf
  exact hret _ _ (zD_g DX1_firstRestingPair 28 rfl)
abbrev dlX1_hourOfLeastHarm : List (Nat × Instr × Nat) := [(0, .aload_n 0, 1), (1, .iload_n 1, 1), (2, .invokevirtual 35, 3), (5, .istore_n 2, 1), (6, .iconst 0, 1), (7, .istore_n 3, 1), (8, .iconst 1, 1), (9, .istore 4, 2), (11, .iload 4, 2), (13, .bipush 6, 2), (15, .if_icmp .ge 30, 3), (18, .aload_n 0, 1), (19, .iload_n 1, 1), (20, .iload_n 2, 1), (21, .iload 4, 2), (23, .invokevirtual 22, 3), (26, .aload_n 0, 1), (27, .iload_n 1, 1), (28, .iload_n 2, 1), (29, .iload_n 3, 1), (30, .invokevirtual 22, 3), (33, .if_icmp .ge 6, 3), (36, .iload 4, 2), (38, .istore_n 3, 1), (39, .iinc 4 1, 3), (42, .goto (-31), 3), (45, .iload_n 3, 1), (46, .ireturn, 1)]
theorem DX1_hourOfLeastHarm : zD cX1_hourOfLeastHarm dlX1_hourOfLeastHarm = true := by decide +kernel
set_option maxRecDepth 20000 in
theorem ggX1_hourOfLeastHarm_X4_inside : GoodIn wsX1_hourOfLeastHarm wsX4_inside := goodIn_r _ [5, 6, 7, 32, 33, 34, 35, 36, 37, 38, 39, 40, 41, 42, 43, 44, 45, 46, 47, 48, 49, 50] (by decide +kernel) (by decide +kernel)
set_option maxRecDepth 20000 in
theorem gX1_hourOfLeastHarm_X4_inside : GoodIn wsX1_hourOfLeastHarm (wsV RX1 35 RX4 yX4_inside wsX4_inside) := goodIn_app (goodIn_of _ (by decide +kernel)) ggX1_hourOfLeastHarm_X4_inside
set_option maxRecDepth 20000 in
theorem ggX1_hourOfLeastHarm_X4_loss : GoodIn wsX1_hourOfLeastHarm wsX4_loss := goodIn_r _ [11, 12, 13, 14, 15, 16, 17, 18, 19, 4, 20, 21, 22, 23, 24, 25, 26, 27, 28, 29, 30, 31, 32, 33, 34, 35, 36, 37, 38, 39, 40, 41, 42, 43, 44, 45, 46, 47, 48, 49, 50] (by decide +kernel) (by decide +kernel)
set_option maxRecDepth 20000 in
theorem gX1_hourOfLeastHarm_X4_loss : GoodIn wsX1_hourOfLeastHarm (wsV RX1 22 RX4 yX4_loss wsX4_loss) := goodIn_app (goodIn_of _ (by decide +kernel)) ggX1_hourOfLeastHarm_X4_loss
theorem hd1_hourOfLeastHarm : yX1_hourOfLeastHarm.cls ≠ "java/lang/invoke/MethodHandle" ∧ yX1_hourOfLeastHarm.cls ≠ "java/lang/invoke/VarHandle" ∧ (parseMethodDescriptor yX1_hourOfLeastHarm.desc).map (fun d => d.parameters.length) = some 2 := by decide +kernel
abbrev rm1_hourOfLeastHarm : Room := { frames := 3, cells := 0, slots := 0, locals := 69 }
set_option maxHeartbeats 4000000 in
set_option maxRecDepth 100000 in
theorem c1_hourOfLeastHarm {l : Launch} {D : va_G} {cI cZ cB : ClassId} {q : Nat → Nat} {things : Int32} {gifts : Int32} {days : Int32} {size : Nat → Int32} {weight : Nat → Int32} {sound : Nat → Int32} {harm : Nat → Int32} {in_ : Nat → Int32} {kind : Nat → Int32} {owner : Nat → Int32} {empty : Nat → Int32} {room : Nat → Int32} {told : Nat → Int32} {gate : Nat → Int32} {ear : Nat → Int32} {scale : Nat → Int32} {lost : Nat → Int32} {watch : Nat → Int32} {moments : Int32} {kept : Nat → Int32} {a_gift : Int32} {r : Int32}  (hf : f1_hourOfLeastHarm things days harm in_ kind owner watch a_gift = some r) : Met l yX1_hourOfLeastHarm wsX1_hourOfLeastHarm rm1_hourOfLeastHarm (zPp D cI cZ cB [.ref (q 0), .int a_gift] (cWar cI q things gifts days size weight sound harm in_ kind owner empty room told gate ear scale lost watch moments kept)) (zQp (some (.int r))) 0 0 (fun _ => False) := by
  unfold f1_hourOfLeastHarm at hf
  refine z_pureI RX1 (by decide +kernel) rfl rfl (Nat.le_of_ble_eq_true rfl) ?_
  intro p e s m args below meth c Q ls hx hb hml hown hts hK hP hret hl
  have hl : lv_has ls 5 [(0, .ref (q 0)), (1, .int a_gift)] := hl
  refine lv_aload_n hx hb (zD_g DX1_hourOfLeastHarm 0 rfl) rfl (lv_at hl 0 rfl) ?_
  refine lv_iload_n hx hb (zD_g DX1_hourOfLeastHarm 1 rfl) rfl (lv_at hl 1 rfl) ?_
  obtain ⟨r1, hc2, hf⟩ := zb1_s hf
  refine z_Vp (As := [.int a_gift]) (rest := []) ⟨hx, hb, hml, hown, hts⟩ hK (c4_inside (things := things) (gifts := gifts) (days := days) (size := size) (weight := weight) (sound := sound) (harm := harm) (in_ := in_) (kind := kind) (owner := owner) (empty := empty) (room := room) (told := told) (gate := gate) (ear := ear) (scale := scale) (lost := lost) (watch := watch) (moments := moments) (kept := kept) (q := q) hc2) (cwV 1 hts gX1_hourOfLeastHarm_X4_inside rfl rfl rfl hd4_inside ⟨Nat.le_of_ble_eq_true rfl, Nat.le_of_ble_eq_true rfl⟩) hP rfl rfl rfl rfl hl.1 rfl rfl (Nat.le_of_ble_eq_true rfl) (zD_g DX1_hourOfLeastHarm 2 rfl) ⟨Nat.zero_le _, Nat.zero_le _⟩ ?_
  refine lv_istore_n (lv' := [(2, .int r1), (0, .ref (q 0)), (1, .int a_gift)]) hx hb (zD_g DX1_hourOfLeastHarm 3 rfl) rfl hl (by decide) rfl (fun ls hl => ?_)
  refine lv_iconst (v := (0 : Int32)) hx hb (zD_g DX1_hourOfLeastHarm 4 rfl) (by decide) ?_
  refine lv_istore_n (lv' := [(3, .int (0 : Int32)), (2, .int r1), (0, .ref (q 0)), (1, .int a_gift)]) hx hb (zD_g DX1_hourOfLeastHarm 5 rfl) rfl hl (by decide) rfl (fun ls hl => ?_)
  refine lv_iconst (v := (1 : Int32)) hx hb (zD_g DX1_hourOfLeastHarm 6 rfl) (by decide) ?_
  refine lv_istore (lv' := [(4, .int (1 : Int32)), (3, .int (0 : Int32)), (2, .int r1), (0, .ref (q 0)), (1, .int a_gift)]) hx hb (zD_g DX1_hourOfLeastHarm 7 rfl) hl (by decide) rfl (fun ls hl => ?_)
  have hL5 : ∀ (k5 : Int32 → Option (Int32)) (hk5 : ∀ (y12 : Int32), k5 y12 = some r → ∀ (ls : Array Slot), lv_has ls 5 [(3, .int y12)] → W p l e rm1_hourOfLeastHarm s m args below meth c s.heap [] 0 0 Q (F0 m 45 ls [])) (n5 : Nat) (y3 : Int32) (y4 : Int32), L1_hourOfLeastHarm_11 k5 days harm kind owner watch a_gift r1 n5 y3 y4 = some r → ∀ (ls : Array Slot), lv_has ls 5 [(0, .ref (q 0)), (1, .int a_gift), (2, .int r1), (3, .int y3), (4, .int y4)] → W p l e rm1_hourOfLeastHarm s m args below meth c s.heap [] 0 0 Q (F0 m 11 ls []) := by
    intro k5 hk5 n5
    induction n5 with
    | zero =>
      intro y3 y4 hf
      cases hf
    | succ n5 ih5 =>
      intro y3 y4 hf ls hl
      rw [L1_hourOfLeastHarm_11] at hf
      refine lv_iload hx hb (zD_g DX1_hourOfLeastHarm 8 rfl) (lv_at hl 4 rfl) ?_
      refine lv_bipush (v := (6 : Int32)) hx hb (zD_g DX1_hourOfLeastHarm 9 rfl) (by decide) ?_
      refine lv_icmp_ge (tgt := 45) hx hb (zD_g DX1_hourOfLeastHarm 10 rfl) (by decide) (fun c6 => ?_) (fun c6 => ?_)
      · replace hf := z_t c6 hf
        exact hk5 _ hf ls (lv_sub hl [3] rfl)
      · replace hf := z_f c6 hf
        refine lv_aload_n hx hb (zD_g DX1_hourOfLeastHarm 11 rfl) rfl (lv_at hl 0 rfl) ?_
        refine lv_iload_n hx hb (zD_g DX1_hourOfLeastHarm 12 rfl) rfl (lv_at hl 1 rfl) ?_
        refine lv_iload_n hx hb (zD_g DX1_hourOfLeastHarm 13 rfl) rfl (lv_at hl 2 rfl) ?_
        refine lv_iload hx hb (zD_g DX1_hourOfLeastHarm 14 rfl) (lv_at hl 4 rfl) ?_
        obtain ⟨r7, hc8, hf⟩ := zb1_s hf
        refine z_Vp (As := [.int a_gift, .int r1, .int y4]) (rest := []) ⟨hx, hb, hml, hown, hts⟩ hK (c4_loss (things := things) (gifts := gifts) (days := days) (size := size) (weight := weight) (sound := sound) (harm := harm) (in_ := in_) (kind := kind) (owner := owner) (empty := empty) (room := room) (told := told) (gate := gate) (ear := ear) (scale := scale) (lost := lost) (watch := watch) (moments := moments) (kept := kept) (q := q) hc8) (cwV 3 hts gX1_hourOfLeastHarm_X4_loss rfl rfl rfl hd4_loss ⟨Nat.le_of_ble_eq_true rfl, Nat.le_of_ble_eq_true rfl⟩) hP rfl rfl rfl rfl hl.1 rfl rfl (Nat.le_of_ble_eq_true rfl) (zD_g DX1_hourOfLeastHarm 15 rfl) ⟨Nat.zero_le _, Nat.zero_le _⟩ ?_
        refine lv_aload_n hx hb (zD_g DX1_hourOfLeastHarm 16 rfl) rfl (lv_at hl 0 rfl) ?_
        refine lv_iload_n hx hb (zD_g DX1_hourOfLeastHarm 17 rfl) rfl (lv_at hl 1 rfl) ?_
        refine lv_iload_n hx hb (zD_g DX1_hourOfLeastHarm 18 rfl) rfl (lv_at hl 2 rfl) ?_
        refine lv_iload_n hx hb (zD_g DX1_hourOfLeastHarm 19 rfl) rfl (lv_at hl 3 rfl) ?_
        obtain ⟨r9, hc10, hf⟩ := zb1_s hf
        refine z_Vp (As := [.int a_gift, .int r1, .int y3]) (rest := [.int r7]) ⟨hx, hb, hml, hown, hts⟩ hK (c4_loss (things := things) (gifts := gifts) (days := days) (size := size) (weight := weight) (sound := sound) (harm := harm) (in_ := in_) (kind := kind) (owner := owner) (empty := empty) (room := room) (told := told) (gate := gate) (ear := ear) (scale := scale) (lost := lost) (watch := watch) (moments := moments) (kept := kept) (q := q) hc10) (cwV 3 hts gX1_hourOfLeastHarm_X4_loss rfl rfl rfl hd4_loss ⟨Nat.le_of_ble_eq_true rfl, Nat.le_of_ble_eq_true rfl⟩) hP rfl rfl rfl rfl hl.1 rfl rfl (Nat.le_of_ble_eq_true rfl) (zD_g DX1_hourOfLeastHarm 20 rfl) ⟨Nat.zero_le _, Nat.zero_le _⟩ ?_
        refine lv_icmp_ge (tgt := 39) hx hb (zD_g DX1_hourOfLeastHarm 21 rfl) (by decide) (fun c11 => ?_) (fun c11 => ?_)
        · replace hf := z_t c11 hf
          refine lv_iinc (v := y4 + 1) (lv' := [(4, .int (y4 + 1)), (0, .ref (q 0)), (1, .int a_gift), (2, .int r1), (3, .int y3)]) (k := 4) hx hb (zD_g DX1_hourOfLeastHarm 24 rfl) hl rfl rfl (by decide) rfl (fun ls hl => ?_)
          refine lv_goto (tgt := 11) hx hb (zD_g DX1_hourOfLeastHarm 25 rfl) (by decide) ?_
          exact ih5 _ _ hf ls (lv_sub hl [1, 2, 3, 4, 0] rfl)
        · replace hf := z_f c11 hf
          refine lv_iload hx hb (zD_g DX1_hourOfLeastHarm 22 rfl) (lv_at hl 4 rfl) ?_
          refine lv_istore_n (lv' := [(3, .int y4), (0, .ref (q 0)), (1, .int a_gift), (2, .int r1), (4, .int y4)]) hx hb (zD_g DX1_hourOfLeastHarm 23 rfl) rfl hl (by decide) rfl (fun ls hl => ?_)
          refine lv_iinc (v := y4 + 1) (lv' := [(4, .int (y4 + 1)), (3, .int y4), (0, .ref (q 0)), (1, .int a_gift), (2, .int r1)]) (k := 4) hx hb (zD_g DX1_hourOfLeastHarm 24 rfl) hl rfl rfl (by decide) rfl (fun ls hl => ?_)
          refine lv_goto (tgt := 11) hx hb (zD_g DX1_hourOfLeastHarm 25 rfl) (by decide) ?_
          exact ih5 _ _ hf ls (lv_sub hl [2, 3, 4, 1, 0] rfl)
  refine hL5 _ (fun y12 hf ls hl => ?_) _ _ _ hf ls (lv_sub hl [3, 4, 2, 1, 0] rfl)
  refine lv_iload_n hx hb (zD_g DX1_hourOfLeastHarm 26 rfl) rfl (lv_at hl 0 rfl) ?_
  cases hf
  exact hret _ _ (zD_g DX1_hourOfLeastHarm 27 rfl)
abbrev dlX1_isAllAsTold : List (Nat × Instr × Nat) := [(0, .iconst 0, 1), (1, .istore 4, 2), (3, .iload 4, 2), (5, .aload_n 0, 1), (6, .getfield 31, 3), (9, .if_icmp .ge 57, 3), (12, .iload 4, 2), (14, .iload_n 2, 1), (15, .if_icmp .ne 16, 3), (18, .aload_n 0, 1), (19, .iload 4, 2), (21, .invokevirtual 35, 3), (24, .iconst 1, 1), (25, .iload_n 1, 1), (26, .ishl, 1), (27, .ior, 1), (28, .goto 9, 3), (31, .aload_n 0, 1), (32, .iload 4, 2), (34, .invokevirtual 35, 3), (37, .istore 5, 2), (39, .aload_n 0, 1), (40, .iload 4, 2), (42, .iload 5, 2), (44, .iload_n 3, 1), (45, .invokevirtual 22, 3), (48, .aload_n 0, 1), (49, .getfield 89, 3), (52, .iload 4, 2), (54, .iaload, 1), (55, .if_icmp .eq 5, 3), (58, .iconst 0, 1), (59, .ireturn, 1), (60, .iinc 4 1, 3), (63, .goto (-60), 3), (66, .iconst 1, 1), (67, .ireturn, 1)]
theorem DX1_isAllAsTold : zD cX1_isAllAsTold dlX1_isAllAsTold = true := by decide +kernel
set_option maxRecDepth 20000 in
theorem ggX1_isAllAsTold_X4_inside : GoodIn wsX1_isAllAsTold wsX4_inside := goodIn_r _ [7, 8, 9, 34, 35, 36, 37, 38, 39, 40, 41, 42, 43, 44, 45, 46, 47, 48, 49, 50, 51, 52] (by decide +kernel) (by decide +kernel)
set_option maxRecDepth 20000 in
theorem gX1_isAllAsTold_X4_inside : GoodIn wsX1_isAllAsTold (wsV RX1 35 RX4 yX4_inside wsX4_inside) := goodIn_app (goodIn_of _ (by decide +kernel)) ggX1_isAllAsTold_X4_inside
set_option maxRecDepth 20000 in
theorem ggX1_isAllAsTold_X4_loss : GoodIn wsX1_isAllAsTold wsX4_loss := goodIn_r _ [13, 14, 15, 16, 17, 18, 19, 20, 21, 6, 22, 23, 24, 25, 26, 27, 28, 29, 30, 31, 32, 33, 34, 35, 36, 37, 38, 39, 40, 41, 42, 43, 44, 45, 46, 47, 48, 49, 50, 51, 52] (by decide +kernel) (by decide +kernel)
set_option maxRecDepth 20000 in
theorem gX1_isAllAsTold_X4_loss : GoodIn wsX1_isAllAsTold (wsV RX1 22 RX4 yX4_loss wsX4_loss) := goodIn_app (goodIn_of _ (by decide +kernel)) ggX1_isAllAsTold_X4_loss
theorem hd1_isAllAsTold : yX1_isAllAsTold.cls ≠ "java/lang/invoke/MethodHandle" ∧ yX1_isAllAsTold.cls ≠ "java/lang/invoke/VarHandle" ∧ (parseMethodDescriptor yX1_isAllAsTold.desc).map (fun d => d.parameters.length) = some 4 := by decide +kernel
abbrev rm1_isAllAsTold : Room := { frames := 3, cells := 0, slots := 0, locals := 69 }
theorem in1_isAllAsTold_4 : ∀ w ∈ wsX40, w ∈ wsX1_isAllAsTold := fun w h => List.mem_cons_of_mem _ (List.mem_append_right _ h)
set_option maxHeartbeats 4000000 in
set_option maxRecDepth 100000 in
theorem c1_isAllAsTold {l : Launch} {D : va_G} {cI cZ cB : ClassId} {q : Nat → Nat} {things : Int32} {gifts : Int32} {days : Int32} {size : Nat → Int32} {weight : Nat → Int32} {sound : Nat → Int32} {harm : Nat → Int32} {in_ : Nat → Int32} {kind : Nat → Int32} {owner : Nat → Int32} {empty : Nat → Int32} {room : Nat → Int32} {told : Nat → Int32} {gate : Nat → Int32} {ear : Nat → Int32} {scale : Nat → Int32} {lost : Nat → Int32} {watch : Nat → Int32} {moments : Int32} {kept : Nat → Int32} {a_thing : Int32} {a_gift : Int32} {a_hour : Int32} {r : Int32}  (hf : f1_isAllAsTold things gifts days harm in_ kind owner told watch a_thing a_gift a_hour = some r) : Met l yX1_isAllAsTold wsX1_isAllAsTold rm1_isAllAsTold (zPp D cI cZ cB [.ref (q 0), .int a_thing, .int a_gift, .int a_hour] (cWar cI q things gifts days size weight sound harm in_ kind owner empty room told gate ear scale lost watch moments kept)) (zQp (some (.int r))) 0 0 (fun _ => False) := by
  unfold f1_isAllAsTold at hf
  refine z_pureZ RX1 (by decide +kernel) rfl rfl (Nat.le_of_ble_eq_true rfl) ?_
  intro p e s m args below meth c Q ls hx hb hml hown hts hK hP hret hl
  have hl : lv_has ls 6 [(0, .ref (q 0)), (1, .int a_thing), (2, .int a_gift), (3, .int a_hour)] := hl
  refine lv_iconst (v := (0 : Int32)) hx hb (zD_g DX1_isAllAsTold 0 rfl) (by decide) ?_
  refine lv_istore (lv' := [(4, .int (0 : Int32)), (0, .ref (q 0)), (1, .int a_thing), (2, .int a_gift), (3, .int a_hour)]) hx hb (zD_g DX1_isAllAsTold 1 rfl) hl (by decide) rfl (fun ls hl => ?_)
  have hL2 : ∀ (k2 : Option (Int32)) (hk2 : k2  = some r → ∀ (ls : Array Slot), lv_has ls 6 [] → W p l e rm1_isAllAsTold s m args below meth c s.heap [] 0 0 Q (F0 m 66 ls [])) (n2 : Nat) (y1 : Int32), L1_isAllAsTold_3 k2 things gifts days harm in_ kind owner told watch a_thing a_gift a_hour n2 y1 = some r → ∀ (ls : Array Slot), lv_has ls 6 [(0, .ref (q 0)), (1, .int a_thing), (2, .int a_gift), (3, .int a_hour), (4, .int y1)] → W p l e rm1_isAllAsTold s m args below meth c s.heap [] 0 0 Q (F0 m 3 ls []) := by
    intro k2 hk2 n2
    induction n2 with
    | zero =>
      intro y1 hf
      cases hf
    | succ n2 ih2 =>
      intro y1 hf ls hl
      rw [L1_isAllAsTold_3] at hf
      refine lv_iload hx hb (zD_g DX1_isAllAsTold 2 rfl) (lv_at hl 4 rfl) ?_
      refine lv_aload_n hx hb (zD_g DX1_isAllAsTold 3 rfl) rfl (lv_at hl 0 rfl) ?_
      refine va_get (D := D) (ci := 3) (v := .int gifts) (C := RX4) (T := TX4) (N := 19) hx hb hts in1_isAllAsTold_4 hown hK.1 hP 0 rfl rfl 1 (by decide) (hts _ (List.mem_of_getElem? (i := 1) rfl)) (fun _ h9 => h9) rfl (zD_g DX1_isAllAsTold 4 rfl) ?_
      refine lv_icmp_ge (tgt := 66) hx hb (zD_g DX1_isAllAsTold 5 rfl) (by decide) (fun c3 => ?_) (fun c3 => ?_)
      · replace hf := z_t c3 hf
        exact hk2  hf ls (lv_sub hl [] rfl)
      · replace hf := z_f c3 hf
        refine lv_iload hx hb (zD_g DX1_isAllAsTold 6 rfl) (lv_at hl 4 rfl) ?_
        refine lv_iload_n hx hb (zD_g DX1_isAllAsTold 7 rfl) rfl (lv_at hl 2 rfl) ?_
        obtain ⟨v5, hr10, hf⟩ := zb1_s hf
        have hJ10 : ∀ (ls : Array Slot), lv_has ls 6 [(0, .ref (q 0)), (1, .int a_thing), (2, .int a_gift), (3, .int a_hour), (4, .int y1)] → W p l e rm1_isAllAsTold s m args below meth c s.heap [] 0 0 Q (F0 m 37 ls [.int v5]) := by
          intro ls hl
          refine lv_istore (lv' := [(5, .int v5), (0, .ref (q 0)), (1, .int a_thing), (2, .int a_gift), (3, .int a_hour), (4, .int y1)]) hx hb (zD_g DX1_isAllAsTold 20 rfl) hl (by decide) rfl (fun ls hl => ?_)
          refine lv_aload_n hx hb (zD_g DX1_isAllAsTold 21 rfl) rfl (lv_at hl 1 rfl) ?_
          refine lv_iload hx hb (zD_g DX1_isAllAsTold 22 rfl) (lv_at hl 5 rfl) ?_
          refine lv_iload hx hb (zD_g DX1_isAllAsTold 23 rfl) (lv_at hl 0 rfl) ?_
          refine lv_iload_n hx hb (zD_g DX1_isAllAsTold 24 rfl) rfl (lv_at hl 4 rfl) ?_
          obtain ⟨r6, hc7, hf⟩ := zb1_s hf
          refine z_Vp (As := [.int y1, .int v5, .int a_hour]) (rest := []) ⟨hx, hb, hml, hown, hts⟩ hK (c4_loss (things := things) (gifts := gifts) (days := days) (size := size) (weight := weight) (sound := sound) (harm := harm) (in_ := in_) (kind := kind) (owner := owner) (empty := empty) (room := room) (told := told) (gate := gate) (ear := ear) (scale := scale) (lost := lost) (watch := watch) (moments := moments) (kept := kept) (q := q) hc7) (cwV 3 hts gX1_isAllAsTold_X4_loss rfl rfl rfl hd4_loss ⟨Nat.le_of_ble_eq_true rfl, Nat.le_of_ble_eq_true rfl⟩) hP rfl rfl rfl rfl hl.1 rfl rfl (Nat.le_of_ble_eq_true rfl) (zD_g DX1_isAllAsTold 25 rfl) ⟨Nat.zero_le _, Nat.zero_le _⟩ ?_
          refine lv_aload_n hx hb (zD_g DX1_isAllAsTold 26 rfl) rfl (lv_at hl 1 rfl) ?_
          refine va_get (D := D) (ci := 3) (v := .ref (q 10)) (C := RX4) (T := TX4) (N := 19) hx hb hts in1_isAllAsTold_4 hown hK.1 hP 0 rfl rfl 12 (by decide) (hts _ (List.mem_of_getElem? (i := 2) rfl)) (fun _ h9 => h9) rfl (zD_g DX1_isAllAsTold 27 rfl) ?_
          refine lv_iload hx hb (zD_g DX1_isAllAsTold 28 rfl) (lv_at hl 5 rfl) ?_
          obtain ⟨h8, hf⟩ := zg_s hf
          refine z_iald (k := y1.toNatClampNeg) hx hb hK.1 hP 10 0 rfl rfl h8 rfl (zD_g DX1_isAllAsTold 29 rfl) ?_
          refine lv_icmp_eq (tgt := 60) hx hb (zD_g DX1_isAllAsTold 30 rfl) (by decide) (fun c9 => ?_) (fun c9 => ?_)
          · replace hf := z_t c9 hf
            refine lv_iinc (v := y1 + 1) (lv' := [(4, .int (y1 + 1)), (5, .int v5), (0, .ref (q 0)), (1, .int a_thing), (2, .int a_gift), (3, .int a_hour)]) (k := 5) hx hb (zD_g DX1_isAllAsTold 33 rfl) hl rfl rfl (by decide) rfl (fun ls hl => ?_)
            refine lv_goto (tgt := 3) hx hb (zD_g DX1_isAllAsTold 34 rfl) (by decide) ?_
            exact ih2 _ hf ls (lv_sub hl [2, 3, 4, 5, 0] rfl)
          · replace hf := z_f c9 hf
            refine lv_iconst (v := (0 : Int32)) hx hb (zD_g DX1_isAllAsTold 31 rfl) (by decide) ?_
            cases hf
            exact hret _ _ rfl (zD_g DX1_isAllAsTold 32 rfl)
        clear hf
        have hf := hr10
        refine lv_icmp_ne (tgt := 31) hx hb (zD_g DX1_isAllAsTold 8 rfl) (by decide) (fun c4 => ?_) (fun c4 => ?_)
        · replace hf := z_f c4 hf
          refine lv_aload_n hx hb (zD_g DX1_isAllAsTold 17 rfl) rfl (lv_at hl 0 rfl) ?_
          refine lv_iload hx hb (zD_g DX1_isAllAsTold 18 rfl) (lv_at hl 4 rfl) ?_
          obtain ⟨r11, hc12, hf⟩ := zb1_s hf
          refine z_Vp (As := [.int y1]) (rest := []) ⟨hx, hb, hml, hown, hts⟩ hK (c4_inside (things := things) (gifts := gifts) (days := days) (size := size) (weight := weight) (sound := sound) (harm := harm) (in_ := in_) (kind := kind) (owner := owner) (empty := empty) (room := room) (told := told) (gate := gate) (ear := ear) (scale := scale) (lost := lost) (watch := watch) (moments := moments) (kept := kept) (q := q) hc12) (cwV 1 hts gX1_isAllAsTold_X4_inside rfl rfl rfl hd4_inside ⟨Nat.le_of_ble_eq_true rfl, Nat.le_of_ble_eq_true rfl⟩) hP rfl rfl rfl rfl hl.1 rfl rfl (Nat.le_of_ble_eq_true rfl) (zD_g DX1_isAllAsTold 19 rfl) ⟨Nat.zero_le _, Nat.zero_le _⟩ ?_
          cases hf
          exact hJ10 ls (lv_sub hl [0, 1, 2, 3, 4] rfl)
        · replace hf := z_t c4 hf
          refine lv_aload_n hx hb (zD_g DX1_isAllAsTold 9 rfl) rfl (lv_at hl 0 rfl) ?_
          refine lv_iload hx hb (zD_g DX1_isAllAsTold 10 rfl) (lv_at hl 4 rfl) ?_
          obtain ⟨r13, hc14, hf⟩ := zb1_s hf
          refine z_Vp (As := [.int y1]) (rest := []) ⟨hx, hb, hml, hown, hts⟩ hK (c4_inside (things := things) (gifts := gifts) (days := days) (size := size) (weight := weight) (sound := sound) (harm := harm) (in_ := in_) (kind := kind) (owner := owner) (empty := empty) (room := room) (told := told) (gate := gate) (ear := ear) (scale := scale) (lost := lost) (watch := watch) (moments := moments) (kept := kept) (q := q) hc14) (cwV 1 hts gX1_isAllAsTold_X4_inside rfl rfl rfl hd4_inside ⟨Nat.le_of_ble_eq_true rfl, Nat.le_of_ble_eq_true rfl⟩) hP rfl rfl rfl rfl hl.1 rfl rfl (Nat.le_of_ble_eq_true rfl) (zD_g DX1_isAllAsTold 11 rfl) ⟨Nat.zero_le _, Nat.zero_le _⟩ ?_
          refine lv_iconst (v := (1 : Int32)) hx hb (zD_g DX1_isAllAsTold 12 rfl) (by decide) ?_
          refine lv_iload_n hx hb (zD_g DX1_isAllAsTold 13 rfl) rfl (lv_at hl 1 rfl) ?_
          refine lv_ishl hx hb (zD_g DX1_isAllAsTold 14 rfl) ?_
          refine lv_ior hx hb (zD_g DX1_isAllAsTold 15 rfl) ?_
          refine lv_goto (tgt := 37) hx hb (zD_g DX1_isAllAsTold 16 rfl) (by decide) ?_
          cases hf
          exact hJ10 ls (lv_sub hl [0, 1, 2, 3, 4] rfl)
  refine hL2 _ (fun  hf ls hl => ?_) _ _ hf ls (lv_sub hl [1, 2, 3, 4, 0] rfl)
  refine lv_iconst (v := (1 : Int32)) hx hb (zD_g DX1_isAllAsTold 35 rfl) (by decide) ?_
  cases hf
  exact hret _ _ rfl (zD_g DX1_isAllAsTold 36 rfl)
abbrev dlX1_giftsThatFit : List (Nat × Instr × Nat) := [(0, .iconst 0, 1), (1, .istore_n 3, 1), (2, .iconst 0, 1), (3, .istore 4, 2), (5, .iload 4, 2), (7, .aload_n 0, 1), (8, .getfield 31, 3), (11, .if_icmp .ge 27, 3), (14, .aload_n 0, 1), (15, .iload_n 1, 1), (16, .iload 4, 2), (18, .iload_n 2, 1), (19, .invokestatic 85, 3), (22, .ifCond .eq 10, 3), (25, .iload_n 3, 1), (26, .iconst 1, 1), (27, .iload 4, 2), (29, .ishl, 1), (30, .ior, 1), (31, .istore_n 3, 1), (32, .iinc 4 1, 3), (35, .goto (-30), 3), (38, .iload_n 3, 1), (39, .ireturn, 1)]
theorem DX1_giftsThatFit : zD cX1_giftsThatFit dlX1_giftsThatFit = true := by decide +kernel
set_option maxRecDepth 20000 in
theorem ggX1_giftsThatFit_X1_isAllAsTold : GoodIn wsX1_giftsThatFit wsX1_isAllAsTold := goodIn_r _ [5, 1, 6, 7, 8, 9, 10, 11, 12, 13, 14, 15, 16, 17, 18, 19, 20, 21, 22, 23, 24, 25, 26, 27, 28, 29, 30, 31, 32, 33, 34, 35, 36, 37, 38, 39, 40, 41, 42, 43, 44, 45, 46, 47, 48, 49, 50, 51, 52, 53, 54, 55, 56] (by decide +kernel) (by decide +kernel)
set_option maxRecDepth 20000 in
theorem gX1_giftsThatFit_X1_isAllAsTold : GoodIn wsX1_giftsThatFit (va_wsS RX1 85 yX1_isAllAsTold wsX1_isAllAsTold) := goodIn_app (goodIn_of _ (by decide +kernel)) ggX1_giftsThatFit_X1_isAllAsTold
theorem hd1_giftsThatFit : yX1_giftsThatFit.cls ≠ "java/lang/invoke/MethodHandle" ∧ yX1_giftsThatFit.cls ≠ "java/lang/invoke/VarHandle" ∧ (parseMethodDescriptor yX1_giftsThatFit.desc).map (fun d => d.parameters.length) = some 3 := by decide +kernel
abbrev rm1_giftsThatFit : Room := { frames := 4, cells := 0, slots := 0, locals := 94 }
theorem in1_giftsThatFit_4 : ∀ w ∈ wsX40, w ∈ wsX1_giftsThatFit := fun w h => List.mem_cons_of_mem _ (List.mem_append_right _ h)
set_option maxHeartbeats 4000000 in
set_option maxRecDepth 100000 in
theorem c1_giftsThatFit {l : Launch} {D : va_G} {cI cZ cB : ClassId} {q : Nat → Nat} {things : Int32} {gifts : Int32} {days : Int32} {size : Nat → Int32} {weight : Nat → Int32} {sound : Nat → Int32} {harm : Nat → Int32} {in_ : Nat → Int32} {kind : Nat → Int32} {owner : Nat → Int32} {empty : Nat → Int32} {room : Nat → Int32} {told : Nat → Int32} {gate : Nat → Int32} {ear : Nat → Int32} {scale : Nat → Int32} {lost : Nat → Int32} {watch : Nat → Int32} {moments : Int32} {kept : Nat → Int32} {a_thing : Int32} {a_hour : Int32} {r : Int32}  (hf : f1_giftsThatFit things gifts days harm in_ kind owner told watch a_thing a_hour = some r) : Met l yX1_giftsThatFit wsX1_giftsThatFit rm1_giftsThatFit (zPp D cI cZ cB [.ref (q 0), .int a_thing, .int a_hour] (cWar cI q things gifts days size weight sound harm in_ kind owner empty room told gate ear scale lost watch moments kept)) (zQp (some (.int r))) 0 0 (fun _ => False) := by
  unfold f1_giftsThatFit at hf
  refine z_pureI RX1 (by decide +kernel) rfl rfl (Nat.le_of_ble_eq_true rfl) ?_
  intro p e s m args below meth c Q ls hx hb hml hown hts hK hP hret hl
  have hl : lv_has ls 5 [(0, .ref (q 0)), (1, .int a_thing), (2, .int a_hour)] := hl
  refine lv_iconst (v := (0 : Int32)) hx hb (zD_g DX1_giftsThatFit 0 rfl) (by decide) ?_
  refine lv_istore_n (lv' := [(3, .int (0 : Int32)), (0, .ref (q 0)), (1, .int a_thing), (2, .int a_hour)]) hx hb (zD_g DX1_giftsThatFit 1 rfl) rfl hl (by decide) rfl (fun ls hl => ?_)
  refine lv_iconst (v := (0 : Int32)) hx hb (zD_g DX1_giftsThatFit 2 rfl) (by decide) ?_
  refine lv_istore (lv' := [(4, .int (0 : Int32)), (3, .int (0 : Int32)), (0, .ref (q 0)), (1, .int a_thing), (2, .int a_hour)]) hx hb (zD_g DX1_giftsThatFit 3 rfl) hl (by decide) rfl (fun ls hl => ?_)
  have hL3 : ∀ (k3 : Int32 → Option (Int32)) (hk3 : ∀ (y9 : Int32), k3 y9 = some r → ∀ (ls : Array Slot), lv_has ls 5 [(3, .int y9)] → W p l e rm1_giftsThatFit s m args below meth c s.heap [] 0 0 Q (F0 m 38 ls [])) (n3 : Nat) (y1 : Int32) (y2 : Int32), L1_giftsThatFit_5 k3 things gifts days harm in_ kind owner told watch a_thing a_hour n3 y1 y2 = some r → ∀ (ls : Array Slot), lv_has ls 5 [(0, .ref (q 0)), (1, .int a_thing), (2, .int a_hour), (3, .int y1), (4, .int y2)] → W p l e rm1_giftsThatFit s m args below meth c s.heap [] 0 0 Q (F0 m 5 ls []) := by
    intro k3 hk3 n3
    induction n3 with
    | zero =>
      intro y1 y2 hf
      cases hf
    | succ n3 ih3 =>
      intro y1 y2 hf ls hl
      rw [L1_giftsThatFit_5] at hf
      refine lv_iload hx hb (zD_g DX1_giftsThatFit 4 rfl) (lv_at hl 4 rfl) ?_
      refine lv_aload_n hx hb (zD_g DX1_giftsThatFit 5 rfl) rfl (lv_at hl 0 rfl) ?_
      refine va_get (D := D) (ci := 3) (v := .int gifts) (C := RX4) (T := TX4) (N := 19) hx hb hts in1_giftsThatFit_4 hown hK.1 hP 0 rfl rfl 1 (by decide) (hts _ (List.mem_of_getElem? (i := 1) rfl)) (fun _ h9 => h9) rfl (zD_g DX1_giftsThatFit 6 rfl) ?_
      refine lv_icmp_ge (tgt := 38) hx hb (zD_g DX1_giftsThatFit 7 rfl) (by decide) (fun c4 => ?_) (fun c4 => ?_)
      · replace hf := z_t c4 hf
        exact hk3 _ hf ls (lv_sub hl [3] rfl)
      · replace hf := z_f c4 hf
        refine lv_aload_n hx hb (zD_g DX1_giftsThatFit 8 rfl) rfl (lv_at hl 0 rfl) ?_
        refine lv_iload_n hx hb (zD_g DX1_giftsThatFit 9 rfl) rfl (lv_at hl 1 rfl) ?_
        refine lv_iload hx hb (zD_g DX1_giftsThatFit 10 rfl) (lv_at hl 4 rfl) ?_
        refine lv_iload_n hx hb (zD_g DX1_giftsThatFit 11 rfl) rfl (lv_at hl 2 rfl) ?_
        obtain ⟨r5, hc6, hf⟩ := zb1_s hf
        refine z_Sp (As := [.ref (q 0), .int a_thing, .int y2, .int a_hour]) (rest := []) ⟨hx, hb, hml, hown, hts⟩ hK (c1_isAllAsTold (things := things) (gifts := gifts) (days := days) (size := size) (weight := weight) (sound := sound) (harm := harm) (in_ := in_) (kind := kind) (owner := owner) (empty := empty) (room := room) (told := told) (gate := gate) (ear := ear) (scale := scale) (lost := lost) (watch := watch) (moments := moments) (kept := kept) (q := q) hc6) (va_cwS 4 hts gX1_giftsThatFit_X1_isAllAsTold rfl rfl rfl hd1_isAllAsTold ⟨Nat.le_of_ble_eq_true rfl, Nat.le_of_ble_eq_true rfl⟩) hP rfl hl.1 rfl rfl (Nat.le_of_ble_eq_true rfl) (zD_g DX1_giftsThatFit 12 rfl) ⟨Nat.zero_le _, Nat.zero_le _⟩ ?_
        refine lv_if_eq (tgt := 32) hx hb (zD_g DX1_giftsThatFit 13 rfl) (by decide) (fun c7 => ?_) (fun c7 => ?_)
        · replace hf := z_t c7 hf
          refine lv_iinc (v := y2 + 1) (lv' := [(4, .int (y2 + 1)), (0, .ref (q 0)), (1, .int a_thing), (2, .int a_hour), (3, .int y1)]) (k := 4) hx hb (zD_g DX1_giftsThatFit 20 rfl) hl rfl rfl (by decide) rfl (fun ls hl => ?_)
          refine lv_goto (tgt := 5) hx hb (zD_g DX1_giftsThatFit 21 rfl) (by decide) ?_
          exact ih3 _ _ hf ls (lv_sub hl [1, 2, 3, 4, 0] rfl)
        · replace hf := z_f c7 hf
          refine lv_iload_n hx hb (zD_g DX1_giftsThatFit 14 rfl) rfl (lv_at hl 3 rfl) ?_
          refine lv_iconst (v := (1 : Int32)) hx hb (zD_g DX1_giftsThatFit 15 rfl) (by decide) ?_
          refine lv_iload hx hb (zD_g DX1_giftsThatFit 16 rfl) (lv_at hl 4 rfl) ?_
          refine lv_ishl hx hb (zD_g DX1_giftsThatFit 17 rfl) ?_
          refine lv_ior hx hb (zD_g DX1_giftsThatFit 18 rfl) ?_
          refine lv_topi (fun x8 ex8 => ?_)
          replace hf := zl_s hf x8 ex8
          refine lv_istore_n (lv' := [(3, .int x8), (0, .ref (q 0)), (1, .int a_thing), (2, .int a_hour), (4, .int y2)]) hx hb (zD_g DX1_giftsThatFit 19 rfl) rfl hl (by decide) rfl (fun ls hl => ?_)
          refine lv_iinc (v := y2 + 1) (lv' := [(4, .int (y2 + 1)), (3, .int x8), (0, .ref (q 0)), (1, .int a_thing), (2, .int a_hour)]) (k := 4) hx hb (zD_g DX1_giftsThatFit 20 rfl) hl rfl rfl (by decide) rfl (fun ls hl => ?_)
          refine lv_goto (tgt := 5) hx hb (zD_g DX1_giftsThatFit 21 rfl) (by decide) ?_
          exact ih3 _ _ hf ls (lv_sub hl [2, 3, 4, 1, 0] rfl)
  refine hL3 _ (fun y9 hf ls hl => ?_) _ _ _ hf ls (lv_sub hl [2, 3, 4, 1, 0] rfl)
  refine lv_iload_n hx hb (zD_g DX1_giftsThatFit 22 rfl) rfl (lv_at hl 0 rfl) ?_
  cases hf
  exact hret _ _ (zD_g DX1_giftsThatFit 23 rfl)
