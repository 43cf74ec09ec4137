abbrev dlX6_tellsItem : List (Nat × Instr × Nat) := [(0, .aload_n 0, 1), (1, .getfield 29, 3), (4, .iconst 5, 1), (5, .iload_n 1, 1), (6, .imul, 1), (7, .iaload, 1), (8, .istore_n 2, 1), (9, .aload_n 0, 1), (10, .getfield 29, 3), (13, .iconst 5, 1), (14, .iload_n 1, 1), (15, .imul, 1), (16, .iconst 1, 1), (17, .iadd, 1), (18, .iaload, 1), (19, .istore_n 3, 1), (20, .aload_n 0, 1), (21, .getfield 29, 3), (24, .iconst 5, 1), (25, .iload_n 1, 1), (26, .imul, 1), (27, .iconst 2, 1), (28, .iadd, 1), (29, .iaload, 1), (30, .istore 4, 2), (32, .aload_n 0, 1), (33, .getfield 29, 3), (36, .iconst 5, 1), (37, .iload_n 1, 1), (38, .imul, 1), (39, .iconst 3, 1), (40, .iadd, 1), (41, .iaload, 1), (42, .istore 5, 2), (44, .aload_n 0, 1), (45, .getfield 29, 3), (48, .iconst 5, 1), (49, .iload_n 1, 1), (50, .imul, 1), (51, .iconst 4, 1), (52, .iadd, 1), (53, .iaload, 1), (54, .istore 6, 2), (56, .iload_n 2, 1), (57, .iconst 2, 1), (58, .if_icmp .ge 41, 3), (61, .iload_n 2, 1), (62, .ifCond .ne 17, 3), (65, .aload_n 0, 1), (66, .iload_n 3, 1), (67, .iload 4, 2), (69, .iload 5, 2), (71, .iload 6, 2), (73, .invokevirtual 161, 3), (76, .goto 14, 3), (79, .aload_n 0, 1), (80, .iload_n 3, 1), (81, .iload 4, 2), (83, .iload 5, 2), (85, .iload 6, 2), (87, .invokevirtual 165, 3), (90, .ifCond .lt 7, 3), (93, .iconst 1, 1), (94, .goto 4, 3), (97, .iconst 0, 1), (98, .ireturn, 1), (99, .iload_n 2, 1), (100, .iconst 2, 1), (101, .if_icmp .ne 13, 3), (104, .aload_n 0, 1), (105, .iload_n 3, 1), (106, .iload 4, 2), (108, .invokevirtual 168, 3), (111, .goto 31, 3), (114, .iload_n 2, 1), (115, .bipush 6, 2), (117, .if_icmp .ne 15, 3), (120, .aload_n 0, 1), (121, .iload_n 3, 1), (122, .iload 4, 2), (124, .iload 5, 2), (126, .invokevirtual 171, 3), (129, .goto 13, 3), (132, .aload_n 0, 1), (133, .iload_n 3, 1), (134, .iload_n 2, 1), (135, .iconst 3, 1), (136, .isub, 1), (137, .iload 4, 2), (139, .invokevirtual 175, 3), (142, .istore 7, 2), (144, .iload 7, 2), (146, .ifCond .lt 7, 3), (149, .iconst 1, 1), (150, .goto 4, 3), (153, .iconst 0, 1), (154, .ireturn, 1)]
theorem DX6_tellsItem : zD cX6_tellsItem dlX6_tellsItem = true := by decide +kernel
set_option maxRecDepth 20000 in
theorem ggX6_tellsItem_X6_thing : GoodIn wsX6_tellsItem wsX6_thing := goodIn_r _ [6, 7, 8, 9, 10, 11, 5, 12, 13, 14, 15, 16, 17, 18, 19, 20, 21, 22, 23, 24, 25, 26, 81, 82, 83, 84, 85, 86, 87, 88, 89, 90, 91, 92, 93, 94, 95, 96, 97, 98, 99] (by decide +kernel) (by decide +kernel)
set_option maxRecDepth 20000 in
theorem gX6_tellsItem_X6_thing : GoodIn wsX6_tellsItem (wsV RX6 161 RX6 yX6_thing wsX6_thing) := goodIn_app (goodIn_of _ (by decide +kernel)) ggX6_tellsItem_X6_thing
set_option maxRecDepth 20000 in
theorem ggX6_tellsItem_X6_gift : GoodIn wsX6_tellsItem wsX6_gift := goodIn_r _ [30, 31, 32, 33, 9, 10, 11, 5, 12, 34, 35, 36, 13, 14, 15, 16, 17, 18, 19, 20, 21, 22, 23, 24, 25, 26, 81, 82, 83, 84, 85, 86, 87, 88, 89, 90, 91, 92, 93, 94, 95, 96, 97, 98, 99] (by decide +kernel) (by decide +kernel)
set_option maxRecDepth 20000 in
theorem gX6_tellsItem_X6_gift : GoodIn wsX6_tellsItem (wsV RX6 165 RX6 yX6_gift wsX6_gift) := goodIn_app (goodIn_of _ (by decide +kernel)) ggX6_tellsItem_X6_gift
set_option maxRecDepth 20000 in
theorem ggX6_tellsItem_X6_put : GoodIn wsX6_tellsItem wsX6_put := goodIn_r _ [40, 9, 41, 42, 43, 5, 44, 10, 11, 12, 45, 46, 47, 48, 13, 14, 15, 16, 17, 18, 19, 20, 21, 22, 49, 50, 51, 52, 53, 54, 55, 56, 57, 58, 59, 60, 61, 62, 63, 64, 81, 82, 83, 84, 85, 86, 87, 88, 89, 90, 91, 92, 93, 94, 95, 96, 97, 98, 99] (by decide +kernel) (by decide +kernel)
set_option maxRecDepth 20000 in
theorem gX6_tellsItem_X6_put : GoodIn wsX6_tellsItem (wsV RX6 168 RX6 yX6_put wsX6_put) := goodIn_app (goodIn_of _ (by decide +kernel)) ggX6_tellsItem_X6_put
set_option maxRecDepth 20000 in
theorem ggX6_tellsItem_X6_watch : GoodIn wsX6_tellsItem wsX6_watch := goodIn_r _ [68, 8, 34, 35, 5, 36, 10, 11, 12, 69, 70, 71, 31, 72, 73, 74, 75, 9, 13, 14, 15, 16, 17, 18, 19, 20, 21, 22, 81, 82, 83, 84, 85, 86, 87, 88, 89, 90, 91, 92, 93, 94, 95, 96, 97, 98, 99] (by decide +kernel) (by decide +kernel)
set_option maxRecDepth 20000 in
theorem gX6_tellsItem_X6_watch : GoodIn wsX6_tellsItem (wsV RX6 171 RX6 yX6_watch wsX6_watch) := goodIn_app (goodIn_of _ (by decide +kernel)) ggX6_tellsItem_X6_watch
set_option maxRecDepth 20000 in
theorem ggX6_tellsItem_X6_city : GoodIn wsX6_tellsItem wsX6_city := goodIn_r _ [79, 80, 34, 35, 5, 36, 10, 11, 12, 72, 73, 74, 75, 9, 13, 14, 15, 16, 17, 18, 19, 20, 21, 22, 81, 82, 83, 84, 85, 86, 87, 88, 89, 90, 91, 92, 93, 94, 95, 96, 97, 98, 99] (by decide +kernel) (by decide +kernel)
set_option maxRecDepth 20000 in
theorem gX6_tellsItem_X6_city : GoodIn wsX6_tellsItem (wsV RX6 175 RX6 yX6_city wsX6_city) := goodIn_app (goodIn_of _ (by decide +kernel)) ggX6_tellsItem_X6_city
def f6_tellsItem (quiet : Int32) (book : Nat → Int32) (refused : Nat → Int32) (items : Nat → Int32) (a_i : Int32) : Option (Int32 × (Nat → Int32) × (Nat → Int32)) := zg ((5 : Int32) * a_i) 250 (zl ((items ((5 : Int32) * a_i).toNatClampNeg)) (fun x2 => zg (((5 : Int32) * a_i) + (1 : Int32)) 250 (zl ((items (((5 : Int32) * a_i) + (1 : Int32)).toNatClampNeg)) (fun x4 => zg (((5 : Int32) * a_i) + (2 : Int32)) 250 (zl ((items (((5 : Int32) * a_i) + (2 : Int32)).toNatClampNeg)) (fun x6 => zg (((5 : Int32) * a_i) + (3 : Int32)) 250 (zl ((items (((5 : Int32) * a_i) + (3 : Int32)).toNatClampNeg)) (fun x8 => zg (((5 : Int32) * a_i) + (4 : Int32)) 250 (zl ((items (((5 : Int32) * a_i) + (4 : Int32)).toNatClampNeg)) (fun x10 => if (2 : Int32) ≤ x2 then zb3 (if x2 = (2 : Int32) then zb3 (f6_put quiet book refused x4 x6) (fun r27 book_28 refused_29 => some (r27, book_28, refused_29)) else if x2 = (6 : Int32) then zb3 (f6_watch quiet book refused x4 x6 x8) (fun r23 book_24 refused_25 => some (r23, book_24, refused_25)) else zb3 (f6_city quiet book refused x4 (x2 - (3 : Int32)) x6) (fun r19 book_20 refused_21 => some (r19, book_20, refused_21))) (fun v13 book_14 refused_15 => if v13 < 0 then some ((0 : Int32), book_14, refused_15) else some ((1 : Int32), book_14, refused_15)) else zb3 (if x2 = 0 then zb3 (f6_thing quiet book refused x4 x6 x8 x10) (fun r41 book_42 refused_43 => some (r41, book_42, refused_43)) else zb3 (f6_gift quiet book refused x4 x6 x8 x10) (fun r37 book_38 refused_39 => some (r37, book_38, refused_39))) (fun v32 book_33 refused_34 => if v32 < 0 then some ((0 : Int32), book_33, refused_34) else some ((1 : Int32), book_33, refused_34))))))))))))
abbrev rm6_tellsItem : Room := { frames := 3, cells := 0, slots := 0, locals := 70 }
theorem in6_tellsItem_6 : ∀ w ∈ wsX60, w ∈ wsX6_tellsItem := fun w h => List.mem_cons_of_mem _ (List.mem_append_right _ h)
set_option maxHeartbeats 4000000 in
set_option maxRecDepth 100000 in
theorem c6_tellsItem {l : Launch} {D : va_G} {cI cZ cB : ClassId} {q : Nat → Nat} {sz : Nat} {quiet : Int32} {mabove : Int64} {mbelow : Int64} {typed : Int32} {mat : Int32} {mstart : Int32} {mtoken : Int32} {mvalue : Int32} {many : Int32} {book : Nat → Int32} {images : Nat → Int32} {mkept : Nat → Int32} {aside : Nat → Int32} {refused : Nat → Int32} {text : Nat → Int32} {items : Nat → Int32} {drawn : Nat → Int32} {row : Nat → Int32} {best : Nat → Int32} {a_i : Int32} {r : Int32} {d_book : Nat → Int32} {d_refused : Nat → Int32} (hf : f6_tellsItem quiet book refused items a_i = some (r, d_book, d_refused)) : Met l yX6_tellsItem wsX6_tellsItem rm6_tellsItem (zPm D cI cZ cB [.ref (q 0), .int a_i] sz (cMod cI cZ q quiet mabove mbelow typed mat mstart mtoken mvalue many book images mkept aside refused text items drawn row best)) (zQm D (some (.int r)) (cMod cI cZ q quiet mabove mbelow typed mat mstart mtoken mvalue many d_book images mkept aside d_refused text items drawn row best) (va_A (cMod cI cZ q quiet mabove mbelow typed mat mstart mtoken mvalue many book images mkept aside refused text items drawn row best) sz)) 0 0 (va_A (cMod cI cZ q quiet mabove mbelow typed mat mstart mtoken mvalue many book images mkept aside refused text items drawn row best) sz) := by
  unfold f6_tellsItem at hf
  refine z_mutZ RX6 (by decide +kernel) rfl rfl (Nat.le_of_ble_eq_true rfl) ?_
  intro p e s m args below meth c Q A ls hx hb hml hown hts hK hP hD hS hA hret hl
  have hl : lv_has ls 8 [(0, .ref (q 0)), (1, .int a_i)] := hl
  refine lv_aload_n hx hb (zD_g DX6_tellsItem 0 rfl) rfl (lv_at hl 0 rfl) ?_
  refine va_get (D := D) (ci := 5) (v := .ref (q 7)) (C := RX6) (T := TX6) (N := 19) hx hb hts in6_tellsItem_6 hown hK.1 hP 0 rfl rfl 14 (by decide) (hts _ (List.mem_of_getElem? (i := 1) rfl)) (fun _ h9 => h9) rfl (zD_g DX6_tellsItem 1 rfl) ?_
  refine lv_iconst (v := (5 : Int32)) hx hb (zD_g DX6_tellsItem 2 rfl) (by decide) ?_
  refine lv_iload_n hx hb (zD_g DX6_tellsItem 3 rfl) rfl (lv_at hl 1 rfl) ?_
  refine lv_imul hx hb (zD_g DX6_tellsItem 4 rfl) ?_
  obtain ⟨h1, hf⟩ := zg_s hf
  refine z_iald (k := ((5 : Int32) * a_i).toNatClampNeg) hx hb hK.1 hP 7 0 rfl rfl h1 rfl (zD_g DX6_tellsItem 5 rfl) ?_
  refine lv_topi (fun x2 ex2 => ?_)
  replace hf := zl_s hf x2 ex2
  refine lv_istore_n (lv' := [(2, .int x2), (0, .ref (q 0)), (1, .int a_i)]) hx hb (zD_g DX6_tellsItem 6 rfl) rfl hl (by decide) rfl (fun ls hl => ?_)
  refine lv_aload_n hx hb (zD_g DX6_tellsItem 7 rfl) rfl (lv_at hl 1 rfl) ?_
  refine va_get (D := D) (ci := 5) (v := .ref (q 7)) (C := RX6) (T := TX6) (N := 19) hx hb hts in6_tellsItem_6 hown hK.1 hP 0 rfl rfl 14 (by decide) (hts _ (List.mem_of_getElem? (i := 1) rfl)) (fun _ h9 => h9) rfl (zD_g DX6_tellsItem 8 rfl) ?_
  refine lv_iconst (v := (5 : Int32)) hx hb (zD_g DX6_tellsItem 9 rfl) (by decide) ?_
  refine lv_iload_n hx hb (zD_g DX6_tellsItem 10 rfl) rfl (lv_at hl 2 rfl) ?_
  refine lv_imul hx hb (zD_g DX6_tellsItem 11 rfl) ?_
  refine lv_iconst (v := (1 : Int32)) hx hb (zD_g DX6_tellsItem 12 rfl) (by decide) ?_
  refine lv_iadd hx hb (zD_g DX6_tellsItem 13 rfl) ?_
  obtain ⟨h3, hf⟩ := zg_s hf
  refine z_iald (k := (((5 : Int32) * a_i) + (1 : Int32)).toNatClampNeg) hx hb hK.1 hP 7 0 rfl rfl h3 rfl (zD_g DX6_tellsItem 14 rfl) ?_
  refine lv_topi (fun x4 ex4 => ?_)
  replace hf := zl_s hf x4 ex4
  refine lv_istore_n (lv' := [(3, .int x4), (2, .int x2), (0, .ref (q 0)), (1, .int a_i)]) hx hb (zD_g DX6_tellsItem 15 rfl) rfl hl (by decide) rfl (fun ls hl => ?_)
  refine lv_aload_n hx hb (zD_g DX6_tellsItem 16 rfl) rfl (lv_at hl 2 rfl) ?_
  refine va_get (D := D) (ci := 5) (v := .ref (q 7)) (C := RX6) (T := TX6) (N := 19) hx hb hts in6_tellsItem_6 hown hK.1 hP 0 rfl rfl 14 (by decide) (hts _ (List.mem_of_getElem? (i := 1) rfl)) (fun _ h9 => h9) rfl (zD_g DX6_tellsItem 17 rfl) ?_
  refine lv_iconst (v := (5 : Int32)) hx hb (zD_g DX6_tellsItem 18 rfl) (by decide) ?_
  refine lv_iload_n hx hb (zD_g DX6_tellsItem 19 rfl) rfl (lv_at hl 3 rfl) ?_
  refine lv_imul hx hb (zD_g DX6_tellsItem 20 rfl) ?_
  refine lv_iconst (v := (2 : Int32)) hx hb (zD_g DX6_tellsItem 21 rfl) (by decide) ?_
  refine lv_iadd hx hb (zD_g DX6_tellsItem 22 rfl) ?_
  obtain ⟨h5, hf⟩ := zg_s hf
  refine z_iald (k := (((5 : Int32) * a_i) + (2 : Int32)).toNatClampNeg) hx hb hK.1 hP 7 0 rfl rfl h5 rfl (zD_g DX6_tellsItem 23 rfl) ?_
  refine lv_topi (fun x6 ex6 => ?_)
  replace hf := zl_s hf x6 ex6
  refine lv_istore (lv' := [(4, .int x6), (3, .int x4), (2, .int x2), (0, .ref (q 0)), (1, .int a_i)]) hx hb (zD_g DX6_tellsItem 24 rfl) hl (by decide) rfl (fun ls hl => ?_)
  refine lv_aload_n hx hb (zD_g DX6_tellsItem 25 rfl) rfl (lv_at hl 3 rfl) ?_
  refine va_get (D := D) (ci := 5) (v := .ref (q 7)) (C := RX6) (T := TX6) (N := 19) hx hb hts in6_tellsItem_6 hown hK.1 hP 0 rfl rfl 14 (by decide) (hts _ (List.mem_of_getElem? (i := 1) rfl)) (fun _ h9 => h9) rfl (zD_g DX6_tellsItem 26 rfl) ?_
  refine lv_iconst (v := (5 : Int32)) hx hb (zD_g DX6_tellsItem 27 rfl) (by decide) ?_
  refine lv_iload_n hx hb (zD_g DX6_tellsItem 28 rfl) rfl (lv_at hl 4 rfl) ?_
  refine lv_imul hx hb (zD_g DX6_tellsItem 29 rfl) ?_
  refine lv_iconst (v := (3 : Int32)) hx hb (zD_g DX6_tellsItem 30 rfl) (by decide) ?_
  refine lv_iadd hx hb (zD_g DX6_tellsItem 31 rfl) ?_
  obtain ⟨h7, hf⟩ := zg_s hf
  refine z_iald (k := (((5 : Int32) * a_i) + (3 : Int32)).toNatClampNeg) hx hb hK.1 hP 7 0 rfl rfl h7 rfl (zD_g DX6_tellsItem 32 rfl) ?_
  refine lv_topi (fun x8 ex8 => ?_)
  replace hf := zl_s hf x8 ex8
  refine lv_istore (lv' := [(5, .int x8), (4, .int x6), (3, .int x4), (2, .int x2), (0, .ref (q 0)), (1, .int a_i)]) hx hb (zD_g DX6_tellsItem 33 rfl) hl (by decide) rfl (fun ls hl => ?_)
  refine lv_aload_n hx hb (zD_g DX6_tellsItem 34 rfl) rfl (lv_at hl 4 rfl) ?_
  refine va_get (D := D) (ci := 5) (v := .ref (q 7)) (C := RX6) (T := TX6) (N := 19) hx hb hts in6_tellsItem_6 hown hK.1 hP 0 rfl rfl 14 (by decide) (hts _ (List.mem_of_getElem? (i := 1) rfl)) (fun _ h9 => h9) rfl (zD_g DX6_tellsItem 35 rfl) ?_
  refine lv_iconst (v := (5 : Int32)) hx hb (zD_g DX6_tellsItem 36 rfl) (by decide) ?_
  refine lv_iload_n hx hb (zD_g DX6_tellsItem 37 rfl) rfl (lv_at hl 5 rfl) ?_
  refine lv_imul hx hb (zD_g DX6_tellsItem 38 rfl) ?_
  refine lv_iconst (v := (4 : Int32)) hx hb (zD_g DX6_tellsItem 39 rfl) (by decide) ?_
  refine lv_iadd hx hb (zD_g DX6_tellsItem 40 rfl) ?_
  obtain ⟨h9, hf⟩ := zg_s hf
  refine z_iald (k := (((5 : Int32) * a_i) + (4 : Int32)).toNatClampNeg) hx hb hK.1 hP 7 0 rfl rfl h9 rfl (zD_g DX6_tellsItem 41 rfl) ?_
  refine lv_topi (fun x10 ex10 => ?_)
  replace hf := zl_s hf x10 ex10
  refine lv_istore (lv' := [(6, .int x10), (5, .int x8), (4, .int x6), (3, .int x4), (2, .int x2), (0, .ref (q 0)), (1, .int a_i)]) hx hb (zD_g DX6_tellsItem 42 rfl) hl (by decide) rfl (fun ls hl => ?_)
  refine lv_iload_n hx hb (zD_g DX6_tellsItem 43 rfl) rfl (lv_at hl 4 rfl) ?_
  refine lv_iconst (v := (2 : Int32)) hx hb (zD_g DX6_tellsItem 44 rfl) (by decide) ?_
  refine lv_icmp_ge (tgt := 99) hx hb (zD_g DX6_tellsItem 45 rfl) (by decide) (fun c11 => ?_) (fun c11 => ?_)
  · replace hf := z_t c11 hf
    refine lv_iload_n hx hb (zD_g DX6_tellsItem 66 rfl) rfl (lv_at hl 4 rfl) ?_
    refine lv_iconst (v := (2 : Int32)) hx hb (zD_g DX6_tellsItem 67 rfl) (by decide) ?_
    obtain ⟨v13, book_14, refused_15, hr17, hf⟩ := zb3_s hf
    have hJ17 : ∀ (H : Heap) (locs : List Loc), va_P D vwCl (cMod cI cZ q quiet mabove mbelow typed mat mstart mtoken mvalue many book_14 images mkept aside refused_15 text items drawn row best) H → va_D A (cMod cI cZ q quiet mabove mbelow typed mat mstart mtoken mvalue many book_14 images mkept aside refused_15 text items drawn row best) → va_S A s.heap H locs → ∀ (ls : Array Slot), lv_has ls 8 [] → W p l e rm6_tellsItem s m args below meth c H locs 0 0 Q (F0 m 142 ls [.int v13]) := by
      intro H locs hP hD hS ls hl
      refine lv_istore (lv' := [(7, .int v13)]) hx hb (zD_g DX6_tellsItem 90 rfl) hl (by decide) rfl (fun ls hl => ?_)
      refine lv_iload hx hb (zD_g DX6_tellsItem 91 rfl) (lv_at hl 0 rfl) ?_
      refine lv_if_lt (tgt := 153) hx hb (zD_g DX6_tellsItem 92 rfl) (by decide) (fun c16 => ?_) (fun c16 => ?_)
      · replace hf := z_t c16 hf
        refine lv_iconst (v := (0 : Int32)) hx hb (zD_g DX6_tellsItem 95 rfl) (by decide) ?_
        cases hf
        exact hret _ _ _ _ rfl hP hD hS (zD_g DX6_tellsItem 96 rfl)
      · replace hf := z_f c16 hf
        refine lv_iconst (v := (1 : Int32)) hx hb (zD_g DX6_tellsItem 93 rfl) (by decide) ?_
        refine lv_goto (tgt := 154) hx hb (zD_g DX6_tellsItem 94 rfl) (by decide) ?_
        cases hf
        exact hret _ _ _ _ rfl hP hD hS (zD_g DX6_tellsItem 96 rfl)
    clear hf
    refine lv_icmp_ne (tgt := 114) hx hb (zD_g DX6_tellsItem 68 rfl) (by decide) (fun c12 => ?_) (fun c12 => ?_)
    · have hf := z_f c12 hr17
      refine lv_iload_n hx hb (zD_g DX6_tellsItem 74 rfl) rfl (lv_at hl 4 rfl) ?_
      refine lv_bipush (v := (6 : Int32)) hx hb (zD_g DX6_tellsItem 75 rfl) (by decide) ?_
      refine lv_icmp_ne (tgt := 132) hx hb (zD_g DX6_tellsItem 76 rfl) (by decide) (fun c18 => ?_) (fun c18 => ?_)
      · replace hf := z_f c18 hf
        refine lv_aload_n hx hb (zD_g DX6_tellsItem 83 rfl) rfl (lv_at hl 5 rfl) ?_
        refine lv_iload_n hx hb (zD_g DX6_tellsItem 84 rfl) rfl (lv_at hl 3 rfl) ?_
        refine lv_iload_n hx hb (zD_g DX6_tellsItem 85 rfl) rfl (lv_at hl 4 rfl) ?_
        refine lv_iconst (v := (3 : Int32)) hx hb (zD_g DX6_tellsItem 86 rfl) (by decide) ?_
        refine lv_isub hx hb (zD_g DX6_tellsItem 87 rfl) ?_
        refine lv_iload hx hb (zD_g DX6_tellsItem 88 rfl) (lv_at hl 2 rfl) ?_
        obtain ⟨r19, book_20, refused_21, hc22, hf⟩ := zb3_s hf
        refine z_Vm (As := [.int x4, .int (x2 - (3 : Int32)), .int x6]) (rest := []) (ws' := (cMod cI cZ q quiet mabove mbelow typed mat mstart mtoken mvalue many book_20 images mkept aside refused_21 text items drawn row best)) ⟨hx, hb, hml, hown, hts⟩ hK (c6_city (quiet := quiet) (mabove := mabove) (mbelow := mbelow) (typed := typed) (mat := mat) (mstart := mstart) (mtoken := mtoken) (mvalue := mvalue) (many := many) (book := book) (images := images) (mkept := mkept) (aside := aside) (refused := refused) (text := text) (items := items) (drawn := drawn) (row := row) (best := best) (q := q) hc22) (cwV 3 hts gX6_tellsItem_X6_city rfl rfl rfl hd6_city ⟨Nat.le_of_ble_eq_true rfl, Nat.le_of_ble_eq_true rfl⟩) hP hD hS hA 11 [0, 1, 2, 3, 4, 5, 6, 7, 8, 9, 10] [] [0, 1, 2, 3, 4, 5, 6, 7, 8, 9, 10] (by decide +kernel) rfl rfl rfl rfl rfl rfl rfl hl.1 rfl rfl (Nat.le_of_ble_eq_true rfl) (zD_g DX6_tellsItem 89 rfl) ⟨Nat.zero_le _, Nat.zero_le _⟩ (fun H locs hP hD hS => ?_)
        cases hf
        exact hJ17 _ _ hP hD hS ls (lv_sub hl [] rfl)
      · replace hf := z_t c18 hf
        refine lv_aload_n hx hb (zD_g DX6_tellsItem 77 rfl) rfl (lv_at hl 5 rfl) ?_
        refine lv_iload_n hx hb (zD_g DX6_tellsItem 78 rfl) rfl (lv_at hl 3 rfl) ?_
        refine lv_iload hx hb (zD_g DX6_tellsItem 79 rfl) (lv_at hl 2 rfl) ?_
        refine lv_iload hx hb (zD_g DX6_tellsItem 80 rfl) (lv_at hl 1 rfl) ?_
        obtain ⟨r23, book_24, refused_25, hc26, hf⟩ := zb3_s hf
        refine z_Vm (As := [.int x4, .int x6, .int x8]) (rest := []) (ws' := (cMod cI cZ q quiet mabove mbelow typed mat mstart mtoken mvalue many book_24 images mkept aside refused_25 text items drawn row best)) ⟨hx, hb, hml, hown, hts⟩ hK (c6_watch (quiet := quiet) (mabove := mabove) (mbelow := mbelow) (typed := typed) (mat := mat) (mstart := mstart) (mtoken := mtoken) (mvalue := mvalue) (many := many) (book := book) (images := images) (mkept := mkept) (aside := aside) (refused := refused) (text := text) (items := items) (drawn := drawn) (row := row) (best := best) (q := q) hc26) (cwV 3 hts gX6_tellsItem_X6_watch rfl rfl rfl hd6_watch ⟨Nat.le_of_ble_eq_true rfl, Nat.le_of_ble_eq_true rfl⟩) hP hD hS hA 11 [0, 1, 2, 3, 4, 5, 6, 7, 8, 9, 10] [] [0, 1, 2, 3, 4, 5, 6, 7, 8, 9, 10] (by decide +kernel) rfl rfl rfl rfl rfl rfl rfl hl.1 rfl rfl (Nat.le_of_ble_eq_true rfl) (zD_g DX6_tellsItem 81 rfl) ⟨Nat.zero_le _, Nat.zero_le _⟩ (fun H locs hP hD hS => ?_)
        refine lv_goto (tgt := 142) hx hb (zD_g DX6_tellsItem 82 rfl) (by decide) ?_
        cases hf
        exact hJ17 _ _ hP hD hS ls (lv_sub hl [] rfl)
    · have hf := z_t c12 hr17
      refine lv_aload_n hx hb (zD_g DX6_tellsItem 69 rfl) rfl (lv_at hl 5 rfl) ?_
      refine lv_iload_n hx hb (zD_g DX6_tellsItem 70 rfl) rfl (lv_at hl 3 rfl) ?_
      refine lv_iload hx hb (zD_g DX6_tellsItem 71 rfl) (lv_at hl 2 rfl) ?_
      obtain ⟨r27, book_28, refused_29, hc30, hf⟩ := zb3_s hf
      refine z_Vm (As := [.int x4, .int x6]) (rest := []) (ws' := (cMod cI cZ q quiet mabove mbelow typed mat mstart mtoken mvalue many book_28 images mkept aside refused_29 text items drawn row best)) ⟨hx, hb, hml, hown, hts⟩ hK (c6_put (quiet := quiet) (mabove := mabove) (mbelow := mbelow) (typed := typed) (mat := mat) (mstart := mstart) (mtoken := mtoken) (mvalue := mvalue) (many := many) (book := book) (images := images) (mkept := mkept) (aside := aside) (refused := refused) (text := text) (items := items) (drawn := drawn) (row := row) (best := best) (q := q) hc30) (cwV 2 hts gX6_tellsItem_X6_put rfl rfl rfl hd6_put ⟨Nat.le_of_ble_eq_true rfl, Nat.le_of_ble_eq_true rfl⟩) hP hD hS hA 11 [0, 1, 2, 3, 4, 5, 6, 7, 8, 9, 10] [] [0, 1, 2, 3, 4, 5, 6, 7, 8, 9, 10] (by decide +kernel) rfl rfl rfl rfl rfl rfl rfl hl.1 rfl rfl (Nat.le_of_ble_eq_true rfl) (zD_g DX6_tellsItem 72 rfl) ⟨Nat.zero_le _, Nat.zero_le _⟩ (fun H locs hP hD hS => ?_)
      refine lv_goto (tgt := 142) hx hb (zD_g DX6_tellsItem 73 rfl) (by decide) ?_
      cases hf
      exact hJ17 _ _ hP hD hS ls (lv_sub hl [] rfl)
  · replace hf := z_f c11 hf
    refine lv_iload_n hx hb (zD_g DX6_tellsItem 46 rfl) rfl (lv_at hl 4 rfl) ?_
    obtain ⟨v32, book_33, refused_34, hr36, hf⟩ := zb3_s hf
    have hJ36 : ∀ (H : Heap) (locs : List Loc), va_P D vwCl (cMod cI cZ q quiet mabove mbelow typed mat mstart mtoken mvalue many book_33 images mkept aside refused_34 text items drawn row best) H → va_D A (cMod cI cZ q quiet mabove mbelow typed mat mstart mtoken mvalue many book_33 images mkept aside refused_34 text items drawn row best) → va_S A s.heap H locs → ∀ (ls : Array Slot), lv_has ls 8 [] → W p l e rm6_tellsItem s m args below meth c H locs 0 0 Q (F0 m 90 ls [.int v32]) := by
      intro H locs hP hD hS ls hl
      refine lv_if_lt (tgt := 97) hx hb (zD_g DX6_tellsItem 61 rfl) (by decide) (fun c35 => ?_) (fun c35 => ?_)
      · replace hf := z_t c35 hf
        refine lv_iconst (v := (0 : Int32)) hx hb (zD_g DX6_tellsItem 64 rfl) (by decide) ?_
        cases hf
        exact hret _ _ _ _ rfl hP hD hS (zD_g DX6_tellsItem 65 rfl)
      · replace hf := z_f c35 hf
        refine lv_iconst (v := (1 : Int32)) hx hb (zD_g DX6_tellsItem 62 rfl) (by decide) ?_
        refine lv_goto (tgt := 98) hx hb (zD_g DX6_tellsItem 63 rfl) (by decide) ?_
        cases hf
        exact hret _ _ _ _ rfl hP hD hS (zD_g DX6_tellsItem 65 rfl)
    clear hf
    refine lv_if_ne (tgt := 79) hx hb (zD_g DX6_tellsItem 47 rfl) (by decide) (fun c31 => ?_) (fun c31 => ?_)
    · have hf := z_f c31 hr36
      refine lv_aload_n hx hb (zD_g DX6_tellsItem 55 rfl) rfl (lv_at hl 5 rfl) ?_
      refine lv_iload_n hx hb (zD_g DX6_tellsItem 56 rfl) rfl (lv_at hl 3 rfl) ?_
      refine lv_iload hx hb (zD_g DX6_tellsItem 57 rfl) (lv_at hl 2 rfl) ?_
      refine lv_iload hx hb (zD_g DX6_tellsItem 58 rfl) (lv_at hl 1 rfl) ?_
      refine lv_iload hx hb (zD_g DX6_tellsItem 59 rfl) (lv_at hl 0 rfl) ?_
      obtain ⟨r37, book_38, refused_39, hc40, hf⟩ := zb3_s hf
      refine z_Vm (As := [.int x4, .int x6, .int x8, .int x10]) (rest := []) (ws' := (cMod cI cZ q quiet mabove mbelow typed mat mstart mtoken mvalue many book_38 images mkept aside refused_39 text items drawn row best)) ⟨hx, hb, hml, hown, hts⟩ hK (c6_gift (quiet := quiet) (mabove := mabove) (mbelow := mbelow) (typed := typed) (mat := mat) (mstart := mstart) (mtoken := mtoken) (mvalue := mvalue) (many := many) (book := book) (images := images) (mkept := mkept) (aside := aside) (refused := refused) (text := text) (items := items) (drawn := drawn) (row := row) (best := best) (q := q) hc40) (cwV 4 hts gX6_tellsItem_X6_gift rfl rfl rfl hd6_gift ⟨Nat.le_of_ble_eq_true rfl, Nat.le_of_ble_eq_true rfl⟩) hP hD hS hA 11 [0, 1, 2, 3, 4, 5, 6, 7, 8, 9, 10] [] [0, 1, 2, 3, 4, 5, 6, 7, 8, 9, 10] (by decide +kernel) rfl rfl rfl rfl rfl rfl rfl hl.1 rfl rfl (Nat.le_of_ble_eq_true rfl) (zD_g DX6_tellsItem 60 rfl) ⟨Nat.zero_le _, Nat.zero_le _⟩ (fun H locs hP hD hS => ?_)
      cases hf
      exact hJ36 _ _ hP hD hS ls (lv_sub hl [] rfl)
    · have hf := z_t c31 hr36
      refine lv_aload_n hx hb (zD_g DX6_tellsItem 48 rfl) rfl (lv_at hl 5 rfl) ?_
      refine lv_iload_n hx hb (zD_g DX6_tellsItem 49 rfl) rfl (lv_at hl 3 rfl) ?_
      refine lv_iload hx hb (zD_g DX6_tellsItem 50 rfl) (lv_at hl 2 rfl) ?_
      refine lv_iload hx hb (zD_g DX6_tellsItem 51 rfl) (lv_at hl 1 rfl) ?_
      refine lv_iload hx hb (zD_g DX6_tellsItem 52 rfl) (lv_at hl 0 rfl) ?_
      obtain ⟨r41, book_42, refused_43, hc44, hf⟩ := zb3_s hf
      refine z_Vm (As := [.int x4, .int x6, .int x8, .int x10]) (rest := []) (ws' := (cMod cI cZ q quiet mabove mbelow typed mat mstart mtoken mvalue many book_42 images mkept aside refused_43 text items drawn row best)) ⟨hx, hb, hml, hown, hts⟩ hK (c6_thing (quiet := quiet) (mabove := mabove) (mbelow := mbelow) (typed := typed) (mat := mat) (mstart := mstart) (mtoken := mtoken) (mvalue := mvalue) (many := many) (book := book) (images := images) (mkept := mkept) (aside := aside) (refused := refused) (text := text) (items := items) (drawn := drawn) (row := row) (best := best) (q := q) hc44) (cwV 4 hts gX6_tellsItem_X6_thing rfl rfl rfl hd6_thing ⟨Nat.le_of_ble_eq_true rfl, Nat.le_of_ble_eq_true rfl⟩) hP hD hS hA 11 [0, 1, 2, 3, 4, 5, 6, 7, 8, 9, 10] [] [0, 1, 2, 3, 4, 5, 6, 7, 8, 9, 10] (by decide +kernel) rfl rfl rfl rfl rfl rfl rfl hl.1 rfl rfl (Nat.le_of_ble_eq_true rfl) (zD_g DX6_tellsItem 53 rfl) ⟨Nat.zero_le _, Nat.zero_le _⟩ (fun H locs hP hD hS => ?_)
      refine lv_goto (tgt := 90) hx hb (zD_g DX6_tellsItem 54 rfl) (by decide) ?_
      cases hf
      exact hJ36 _ _ hP hD hS ls (lv_sub hl [] rfl)
theorem hd6_tellsItem : yX6_tellsItem.cls = RX6 ∧ yX6_tellsItem.cls ≠ "java/lang/invoke/MethodHandle" ∧ yX6_tellsItem.cls ≠ "java/lang/invoke/VarHandle" ∧ (parseMethodDescriptor yX6_tellsItem.desc).map (fun d => d.parameters.length) = some 1 := by decide +kernel
abbrev dlX6_read : List (Nat × Instr × Nat) := [(0, .aload_n 0, 1), (1, .invokevirtual 178, 3), (4, .ifCond .ne 11, 3), (7, .bipush (-10), 2), (9, .aload_n 0, 1), (10, .getfield 135, 3), (13, .isub, 1), (14, .ireturn, 1), (15, .iconst 0, 1), (16, .istore_n 1, 1), (17, .iload_n 1, 1), (18, .sipush 230, 3), (21, .if_icmp .ge 21, 3), (24, .aload_n 0, 1), (25, .getfield 20, 3), (28, .iload_n 1, 1), (29, .aload_n 0, 1), (30, .getfield 7, 3), (33, .iload_n 1, 1), (34, .iaload, 1), (35, .iastore, 1), (36, .iinc 1 1, 3), (39, .goto (-22), 3), (42, .aload_n 0, 1), (43, .invokevirtual 45, 3), (46, .aload_n 0, 1), (47, .iconst 1, 1), (48, .putfield 48, 3), (51, .iconst 0, 1), (52, .istore_n 1, 1), (53, .iload_n 1, 1), (54, .aload_n 0, 1), (55, .getfield 152, 3), (58, .if_icmp .ge 17, 3), (61, .aload_n 0, 1), (62, .iload_n 1, 1), (63, .invokevirtual 182, 3), (66, .ifCond .eq 9, 3), (69, .iinc 1 1, 3), (72, .goto (-19), 3), (75, .aload_n 0, 1), (76, .iconst 0, 1), (77, .putfield 48, 3), (80, .iload_n 1, 1), (81, .aload_n 0, 1), (82, .getfield 152, 3), (85, .if_icmp .ne 15, 3), (88, .aload_n 0, 1), (89, .getfield 7, 3), (92, .iconst 3, 1), (93, .iconst 0, 1), (94, .iastore, 1), (95, .aload_n 0, 1), (96, .getfield 152, 3), (99, .ireturn, 1), (100, .iconst 0, 1), (101, .istore_n 2, 1), (102, .iload_n 2, 1), (103, .sipush 230, 3), (106, .if_icmp .ge 21, 3), (109, .aload_n 0, 1), (110, .getfield 7, 3), (113, .iload_n 2, 1), (114, .aload_n 0, 1), (115, .getfield 20, 3), (118, .iload_n 2, 1), (119, .iaload, 1), (120, .iastore, 1), (121, .iinc 2 1, 3), (124, .goto (-22), 3), (127, .sipush (-1000), 3), (130, .iload_n 1, 1), (131, .isub, 1), (132, .ireturn, 1)]
theorem DX6_read : zD cX6_read dlX6_read = true := by decide +kernel
set_option maxRecDepth 20000 in
theorem ggX6_read_X6_reads : GoodIn wsX6_read wsX6_reads := goodIn_r _ [10, 11, 5, 12, 13, 14, 15, 16, 17, 9, 18, 1, 19, 20, 21, 22, 23, 24, 25, 26, 27, 28, 29, 30, 31, 32, 33, 34, 35, 36, 37, 38, 39, 40, 41, 42, 124, 125, 126, 127, 128, 129, 130, 131, 132, 133, 134, 135, 136, 137, 138, 139, 140, 141, 142] (by decide +kernel) (by decide +kernel)
set_option maxRecDepth 20000 in
theorem gX6_read_X6_reads : GoodIn wsX6_read (wsV RX6 178 RX6 yX6_reads wsX6_reads) := goodIn_app (goodIn_of _ (by decide +kernel)) ggX6_read_X6_reads
set_option maxRecDepth 20000 in
theorem ggX6_read_X6_empties : GoodIn wsX6_read wsX6_empties := goodIn_r _ [46, 3, 124, 125, 126, 127, 128, 129, 130, 131, 132, 133, 134, 135, 136, 137, 138, 139, 140, 141, 142] (by decide +kernel) (by decide +kernel)
set_option maxRecDepth 20000 in
theorem gX6_read_X6_empties : GoodIn wsX6_read (wsV RX6 45 RX6 yX6_empties wsX6_empties) := goodIn_app (goodIn_of _ (by decide +kernel)) ggX6_read_X6_empties
set_option maxRecDepth 20000 in
theorem ggX6_read_X6_tellsItem : GoodIn wsX6_read wsX6_tellsItem := goodIn_r _ [50, 13, 51, 52, 53, 9, 54, 55, 56, 3, 27, 28, 29, 57, 58, 59, 60, 61, 62, 63, 64, 65, 4, 66, 67, 68, 69, 70, 71, 72, 73, 74, 75, 76, 77, 78, 79, 80, 81, 82, 83, 84, 85, 86, 87, 88, 89, 90, 91, 92, 93, 94, 95, 96, 97, 98, 99, 100, 101, 102, 103, 104, 105, 106, 107, 108, 109, 110, 111, 112, 113, 114, 115, 116, 117, 118, 119, 120, 121, 122, 123, 124, 125, 126, 127, 128, 129, 130, 131, 132, 133, 134, 135, 136, 137, 138, 139, 140, 141, 142] (by decide +kernel) (by decide +kernel)
set_option maxRecDepth 20000 in
theorem gX6_read_X6_tellsItem : GoodIn wsX6_read (wsV RX6 182 RX6 yX6_tellsItem wsX6_tellsItem) := goodIn_app (goodIn_of _ (by decide +kernel)) ggX6_read_X6_tellsItem
def L6_read_17 (k12 : (Nat → Int32) → Option (Int32 × Int32 × Int32 × Int32 × Int32 × Int32 × Int32 × (Nat → Int32) × (Nat → Int32) × (Nat → Int32) × (Nat → Int32)))  (book : Nat → Int32) : Nat → Int32 → (Nat → Int32) → Option (Int32 × Int32 × Int32 × Int32 × Int32 × Int32 × Int32 × (Nat → Int32) × (Nat → Int32) × (Nat → Int32) × (Nat → Int32))
  | 0, _, _ => none
  | n12 + 1, y10, aside_11 => if (230 : Int32) ≤ y10 then k12 aside_11 else zg y10 230 (zl ((book y10.toNatClampNeg)) (fun x15 => zg y10 230 (L6_read_17 k12 book n12 (y10 + 1) (upd aside_11 y10.toNatClampNeg x15))))
def L6_read_53 (k23 : Int32 → (Nat → Int32) → (Nat → Int32) → Option (Int32 × Int32 × Int32 × Int32 × Int32 × Int32 × Int32 × (Nat → Int32) × (Nat → Int32) × (Nat → Int32) × (Nat → Int32)))  (many_6 : Int32) (items_7 : Nat → Int32) : Nat → Int32 → (Nat → Int32) → (Nat → Int32) → Option (Int32 × Int32 × Int32 × Int32 × Int32 × Int32 × Int32 × (Nat → Int32) × (Nat → Int32) × (Nat → Int32) × (Nat → Int32))
  | 0, _, _, _ => none
  | n23 + 1, y20, book_21, refused_22 => if many_6 ≤ y20 then k23 y20 book_21 refused_22 else zb3 (f6_tellsItem (1 : Int32) book_21 refused_22 items_7 y20) (fun r25 book_26 refused_27 => if r25 = 0 then k23 y20 book_26 refused_27 else L6_read_53 k23 many_6 items_7 n23 (y20 + 1) book_26 refused_27)
def L6_read_102 (k36 : (Nat → Int32) → Option (Int32 × Int32 × Int32 × Int32 × Int32 × Int32 × Int32 × (Nat → Int32) × (Nat → Int32) × (Nat → Int32) × (Nat → Int32)))  (aside_17 : Nat → Int32) : Nat → Int32 → (Nat → Int32) → Option (Int32 × Int32 × Int32 × Int32 × Int32 × Int32 × Int32 × (Nat → Int32) × (Nat → Int32) × (Nat → Int32) × (Nat → Int32))
  | 0, _, _ => none
  | n36 + 1, y34, book_35 => if (230 : Int32) ≤ y34 then k36 book_35 else zg y34 230 (zl ((aside_17 y34.toNatClampNeg)) (fun x39 => zg y34 230 (L6_read_102 k36 aside_17 n36 (y34 + 1) (upd book_35 y34.toNatClampNeg x39))))
def f6_read (quiet : Int32) (typed : Int32) (mat : Int32) (mstart : Int32) (mtoken : Int32) (mvalue : Int32) (many : Int32) (book : Nat → Int32) (aside : Nat → Int32) (refused : Nat → Int32) (text : Nat → Int32) (items : Nat → Int32) : Option (Int32 × Int32 × Int32 × Int32 × Int32 × Int32 × Int32 × (Nat → Int32) × (Nat → Int32) × (Nat → Int32) × (Nat → Int32)) := zb7 (f6_reads typed mat mstart mtoken mvalue many text items) (fun r1 mat_2 mstart_3 mtoken_4 mvalue_5 many_6 items_7 => if r1 = 0 then some (((-10 : Int32) - mstart_3), quiet, mat_2, mstart_3, mtoken_4, mvalue_5, many_6, book, aside, refused, items_7) else L6_read_17 (fun aside_17 => zb1 (f6_empties book) (fun book_18 => L6_read_53 (fun y30 book_31 refused_32 => if y30 = many_6 then some (many_6, (0 : Int32), mat_2, mstart_3, mtoken_4, mvalue_5, many_6, (upd book_31 3 (0 : Int32)), aside_17, refused_32, items_7) else L6_read_102 (fun book_41 => some (((-1000 : Int32) - y30), (0 : Int32), mat_2, mstart_3, mtoken_4, mvalue_5, many_6, book_41, aside_17, refused_32, items_7)) aside_17 FU (0 : Int32) book_31) many_6 items_7 FU (0 : Int32) book_18 refused)) book FU (0 : Int32) aside)
abbrev rm6_read : Room := { frames := 4, cells := 0, slots := 0, locals := 97 }
theorem in6_read_6 : ∀ w ∈ wsX60, w ∈ wsX6_read := fun w h => List.mem_cons_of_mem _ (List.mem_append_right _ h)
set_option maxHeartbeats 4000000 in
set_option maxRecDepth 100000 in
theorem c6_read {l : Launch} {D : va_G} {cI cZ cB : ClassId} {q : Nat → Nat} {sz : Nat} {quiet : Int32} {mabove : Int64} {mbelow : Int64} {typed : Int32} {mat : Int32} {mstart : Int32} {mtoken : Int32} {mvalue : Int32} {many : Int32} {book : Nat → Int32} {images : Nat → Int32} {mkept : Nat → Int32} {aside : Nat → Int32} {refused : Nat → Int32} {text : Nat → Int32} {items : Nat → Int32} {drawn : Nat → Int32} {row : Nat → Int32} {best : Nat → Int32}  {r : Int32} {d_quiet : Int32} {d_mat : Int32} {d_mstart : Int32} {d_mtoken : Int32} {d_mvalue : Int32} {d_many : Int32} {d_book : Nat → Int32} {d_aside : Nat → Int32} {d_refused : Nat → Int32} {d_items : Nat → Int32} (hf : f6_read quiet typed mat mstart mtoken mvalue many book aside refused text items = some (r, d_quiet, d_mat, d_mstart, d_mtoken, d_mvalue, d_many, d_book, d_aside, d_refused, d_items)) : Met l yX6_read wsX6_read rm6_read (zPm D cI cZ cB [.ref (q 0)] sz (cMod cI cZ q quiet mabove mbelow typed mat mstart mtoken mvalue many book images mkept aside refused text items drawn row best)) (zQm D (some (.int r)) (cMod cI cZ q d_quiet mabove mbelow typed d_mat d_mstart d_mtoken d_mvalue d_many d_book images mkept d_aside d_refused text d_items drawn row best) (va_A (cMod cI cZ q quiet mabove mbelow typed mat mstart mtoken mvalue many book images mkept aside refused text items drawn row best) sz)) 0 0 (va_A (cMod cI cZ q quiet mabove mbelow typed mat mstart mtoken mvalue many book images mkept aside refused text items drawn row best) sz) := by
  unfold f6_read at hf
  refine z_mutI RX6 (by decide +kernel) rfl rfl (Nat.le_of_ble_eq_true rfl) ?_
  intro p e s m args below meth c Q A ls hx hb hml hown hts hK hP hD hS hA hret hl
  have hl : lv_has ls 3 [(0, .ref (q 0))] := hl
  refine lv_aload_n hx hb (zD_g DX6_read 0 rfl) rfl (lv_at hl 0 rfl) ?_
  obtain ⟨r1, mat_2, mstart_3, mtoken_4, mvalue_5, many_6, items_7, hc8, hf⟩ := zb7_s hf
  refine z_Vm (As := []) (rest := []) (ws' := (cMod cI cZ q quiet mabove mbelow typed mat_2 mstart_3 mtoken_4 mvalue_5 many_6 book images mkept aside refused text items_7 drawn row best)) ⟨hx, hb, hml, hown, hts⟩ hK (c6_reads (quiet := quiet) (mabove := mabove) (mbelow := mbelow) (typed := typed) (mat := mat) (mstart := mstart) (mtoken := mtoken) (mvalue := mvalue) (many := many) (book := book) (images := images) (mkept := mkept) (aside := aside) (refused := refused) (text := text) (items := items) (drawn := drawn) (row := row) (best := best) (q := q) hc8) (cwV 0 hts gX6_read_X6_reads rfl rfl rfl hd6_reads ⟨Nat.le_of_ble_eq_true rfl, Nat.le_of_ble_eq_true rfl⟩) hP hD hS hA 11 [0, 1, 2, 3, 4, 5, 6, 7, 8, 9, 10] [] [0, 1, 2, 3, 4, 5, 6, 7, 8, 9, 10] (by decide +kernel) rfl rfl rfl rfl rfl rfl rfl hl.1 rfl rfl (Nat.le_of_ble_eq_true rfl) (zD_g DX6_read 1 rfl) ⟨Nat.zero_le _, Nat.zero_le _⟩ (fun H locs hP hD hS => ?_)
  refine lv_if_ne (tgt := 15) hx hb (zD_g DX6_read 2 rfl) (by decide) (fun c9 => ?_) (fun c9 => ?_)
  · replace hf := z_f c9 hf
    refine lv_iconst (v := (0 : Int32)) hx hb (zD_g DX6_read 8 rfl) (by decide) ?_
    refine lv_istore_n (lv' := [(1, .int (0 : Int32)), (0, .ref (q 0))]) hx hb (zD_g DX6_read 9 rfl) rfl hl (by decide) rfl (fun ls hl => ?_)
    have hL12 : ∀ (k12 : (Nat → Int32) → Option (Int32 × Int32 × Int32 × Int32 × Int32 × Int32 × Int32 × (Nat → Int32) × (Nat → Int32) × (Nat → Int32) × (Nat → Int32))) (hk12 : ∀ (aside_17 : Nat → Int32), k12 aside_17 = some (r, d_quiet, d_mat, d_mstart, d_mtoken, d_mvalue, d_many, d_book, d_aside, d_refused, d_items) → ∀ (H : Heap) (locs : List Loc), va_P D vwCl (cMod cI cZ q quiet mabove mbelow typed mat_2 mstart_3 mtoken_4 mvalue_5 many_6 book images mkept aside_17 refused text items_7 drawn row best) H → va_D A (cMod cI cZ q quiet mabove mbelow typed mat_2 mstart_3 mtoken_4 mvalue_5 many_6 book images mkept aside_17 refused text items_7 drawn row best) → va_S A s.heap H locs → ∀ (ls : Array Slot), lv_has ls 3 [(0, .ref (q 0))] → W p l e rm6_read s m args below meth c H locs 0 0 Q (F0 m 42 ls [])) (n12 : Nat) (y10 : Int32) (aside_11 : Nat → Int32), L6_read_17 k12 book n12 y10 aside_11 = some (r, d_quiet, d_mat, d_mstart, d_mtoken, d_mvalue, d_many, d_book, d_aside, d_refused, d_items) → ∀ (H : Heap) (locs : List Loc), va_P D vwCl (cMod cI cZ q quiet mabove mbelow typed mat_2 mstart_3 mtoken_4 mvalue_5 many_6 book images mkept aside_11 refused text items_7 drawn row best) H → va_D A (cMod cI cZ q quiet mabove mbelow typed mat_2 mstart_3 mtoken_4 mvalue_5 many_6 book images mkept aside_11 refused text items_7 drawn row best) → va_S A s.heap H locs → ∀ (ls : Array Slot), lv_has ls 3 [(0, .ref (q 0)), (1, .int y10)] → W p l e rm6_read s m args below meth c H locs 0 0 Q (F0 m 17 ls []) := by
      intro k12 hk12 n12
      induction n12 with
      | zero =>
        intro y10 aside_11 hf
        cases hf
      | succ n12 ih12 =>
        intro y10 aside_11 hf H locs hP hD hS ls hl
        rw [L6_read_17] at hf
        refine lv_iload_n hx hb (zD_g DX6_read 10 rfl) rfl (lv_at hl 1 rfl) ?_
        refine lv_sipush (v := (230 : Int32)) hx hb (zD_g DX6_read 11 rfl) (by decide) ?_
        refine lv_icmp_ge (tgt := 42) hx hb (zD_g DX6_read 12 rfl) (by decide) (fun c13 => ?_) (fun c13 => ?_)
        · replace hf := z_t c13 hf
          exact hk12 _ hf _ _ hP hD hS ls (lv_sub hl [0] rfl)
        · replace hf := z_f c13 hf
          refine lv_aload_n hx hb (zD_g DX6_read 13 rfl) rfl (lv_at hl 0 rfl) ?_
          refine va_get (D := D) (ci := 5) (v := .ref (q 4)) (C := RX6) (T := TX6) (N := 19) hx hb hts in6_read_6 hown hK.1 hP 0 rfl rfl 3 (by decide) (hts _ (List.mem_of_getElem? (i := 2) rfl)) (fun _ h9 => h9) rfl (zD_g DX6_read 14 rfl) ?_
          refine lv_iload_n hx hb (zD_g DX6_read 15 rfl) rfl (lv_at hl 1 rfl) ?_
          refine lv_aload_n hx hb (zD_g DX6_read 16 rfl) rfl (lv_at hl 0 rfl) ?_
          refine va_get (D := D) (ci := 5) (v := .ref (q 1)) (C := RX6) (T := TX6) (N := 19) hx hb hts in6_read_6 hown hK.1 hP 0 rfl rfl 0 (by decide) (hts _ (List.mem_of_getElem? (i := 3) rfl)) (fun _ h9 => h9) rfl (zD_g DX6_read 17 rfl) ?_
          refine lv_iload_n hx hb (zD_g DX6_read 18 rfl) rfl (lv_at hl 1 rfl) ?_
          obtain ⟨h14, hf⟩ := zg_s hf
          refine z_iald (k := y10.toNatClampNeg) hx hb hK.1 hP 1 0 rfl rfl h14 rfl (zD_g DX6_read 19 rfl) ?_
          refine lv_topi (fun x15 ex15 => ?_)
          replace hf := zl_s hf x15 ex15
          obtain ⟨h16, hf⟩ := zg_s hf
          refine z_iast (k := y10.toNatClampNeg) (ws' := (cMod cI cZ q quiet mabove mbelow typed mat_2 mstart_3 mtoken_4 mvalue_5 many_6 book images mkept (upd aside_11 y10.toNatClampNeg x15) refused text items_7 drawn row best)) hx hb hK.1 hP hD hS 4 0 rfl rfl h16 rfl rfl (zD_g DX6_read 20 rfl) (fun H locs hP hD hS => ?_)
          refine lv_iinc (v := y10 + 1) (lv' := [(1, .int (y10 + 1)), (0, .ref (q 0))]) (k := 1) hx hb (zD_g DX6_read 21 rfl) hl rfl rfl (by decide) rfl (fun ls hl => ?_)
          refine lv_goto (tgt := 17) hx hb (zD_g DX6_read 22 rfl) (by decide) ?_
          exact ih12 _ _ hf _ _ hP hD hS ls (lv_sub hl [1, 0] rfl)
    refine hL12 _ (fun aside_17 hf H locs hP hD hS ls hl => ?_) _ _ _ hf _ _ hP hD hS ls (lv_sub hl [1, 0] rfl)
    refine lv_aload_n hx hb (zD_g DX6_read 23 rfl) rfl (lv_at hl 0 rfl) ?_
    obtain ⟨book_18, hc19, hf⟩ := zb1_s hf
    refine z_Vm (As := []) (rest := []) (ws' := (cMod cI cZ q quiet mabove mbelow typed mat_2 mstart_3 mtoken_4 mvalue_5 many_6 book_18 images mkept aside_17 refused text items_7 drawn row best)) ⟨hx, hb, hml, hown, hts⟩ hK (c6_empties (quiet := quiet) (mabove := mabove) (mbelow := mbelow) (typed := typed) (mat := mat_2) (mstart := mstart_3) (mtoken := mtoken_4) (mvalue := mvalue_5) (many := many_6) (book := book) (images := images) (mkept := mkept) (aside := aside_17) (refused := refused) (text := text) (items := items_7) (drawn := drawn) (row := row) (best := best) (q := q) hc19) (cwV 0 hts gX6_read_X6_empties rfl rfl rfl hd6_empties ⟨Nat.le_of_ble_eq_true rfl, Nat.le_of_ble_eq_true rfl⟩) hP hD hS hA 11 [0, 1, 2, 3, 4, 5, 6, 7, 8, 9, 10] [] [0, 1, 2, 3, 4, 5, 6, 7, 8, 9, 10] (by decide +kernel) rfl rfl rfl rfl rfl rfl rfl hl.1 rfl rfl (Nat.le_of_ble_eq_true rfl) (zD_g DX6_read 24 rfl) ⟨Nat.zero_le _, Nat.zero_le _⟩ (fun H locs hP hD hS => ?_)
    refine lv_aload_n hx hb (zD_g DX6_read 25 rfl) rfl (lv_at hl 0 rfl) ?_
    refine lv_iconst (v := (1 : Int32)) hx hb (zD_g DX6_read 26 rfl) (by decide) ?_
    refine z_put (D := D) (ci := 5) (v := .int (1 : Int32)) (ty := .boolean) (C := RX6) (T := TX6) (N := 19) (ws' := (cMod cI cZ q (1 : Int32) mabove mbelow typed mat_2 mstart_3 mtoken_4 mvalue_5 many_6 book_18 images mkept aside_17 refused text items_7 drawn row best)) hx hb hts in6_read_6 tyX6 tyX6_ok nmX6 hown hK.1 hP hD hS 0 rfl rfl 5 (by decide) (hts _ (List.mem_of_getElem? (i := 4) rfl)) (fun _ h9 => h9) rfl (tyX6_ok 5 (by decide)) rfl rfl (Nat.le_of_ble_eq_true rfl) rfl (zD_g DX6_read 27 rfl) (fun H locs hP hD hS => ?_)
    refine lv_iconst (v := (0 : Int32)) hx hb (zD_g DX6_read 28 rfl) (by decide) ?_
    refine lv_istore_n (lv' := [(1, .int (0 : Int32)), (0, .ref (q 0))]) hx hb (zD_g DX6_read 29 rfl) rfl hl (by decide) rfl (fun ls hl => ?_)
    have hL23 : ∀ (k23 : Int32 → (Nat → Int32) → (Nat → Int32) → Option (Int32 × Int32 × Int32 × Int32 × Int32 × Int32 × Int32 × (Nat → Int32) × (Nat → Int32) × (Nat → Int32) × (Nat → Int32))) (hk23 : ∀ (y30 : Int32) (book_31 : Nat → Int32) (refused_32 : Nat → Int32), k23 y30 book_31 refused_32 = some (r, d_quiet, d_mat, d_mstart, d_mtoken, d_mvalue, d_many, d_book, d_aside, d_refused, d_items) → ∀ (H : Heap) (locs : List Loc), va_P D vwCl (cMod cI cZ q (1 : Int32) mabove mbelow typed mat_2 mstart_3 mtoken_4 mvalue_5 many_6 book_31 images mkept aside_17 refused_32 text items_7 drawn row best) H → va_D A (cMod cI cZ q (1 : Int32) mabove mbelow typed mat_2 mstart_3 mtoken_4 mvalue_5 many_6 book_31 images mkept aside_17 refused_32 text items_7 drawn row best) → va_S A s.heap H locs → ∀ (ls : Array Slot), lv_has ls 3 [(0, .ref (q 0)), (1, .int y30)] → W p l e rm6_read s m args below meth c H locs 0 0 Q (F0 m 75 ls [])) (n23 : Nat) (y20 : Int32) (book_21 : Nat → Int32) (refused_22 : Nat → Int32), L6_read_53 k23 many_6 items_7 n23 y20 book_21 refused_22 = some (r, d_quiet, d_mat, d_mstart, d_mtoken, d_mvalue, d_many, d_book, d_aside, d_refused, d_items) → ∀ (H : Heap) (locs : List Loc), va_P D vwCl (cMod cI cZ q (1 : Int32) mabove mbelow typed mat_2 mstart_3 mtoken_4 mvalue_5 many_6 book_21 images mkept aside_17 refused_22 text items_7 drawn row best) H → va_D A (cMod cI cZ q (1 : Int32) mabove mbelow typed mat_2 mstart_3 mtoken_4 mvalue_5 many_6 book_21 images mkept aside_17 refused_22 text items_7 drawn row best) → va_S A s.heap H locs → ∀ (ls : Array Slot), lv_has ls 3 [(0, .ref (q 0)), (1, .int y20)] → W p l e rm6_read s m args below meth c H locs 0 0 Q (F0 m 53 ls []) := by
      intro k23 hk23 n23
      induction n23 with
      | zero =>
        intro y20 book_21 refused_22 hf
        cases hf
      | succ n23 ih23 =>
        intro y20 book_21 refused_22 hf H locs hP hD hS ls hl
        rw [L6_read_53] at hf
        refine lv_iload_n hx hb (zD_g DX6_read 30 rfl) rfl (lv_at hl 1 rfl) ?_
        refine lv_aload_n hx hb (zD_g DX6_read 31 rfl) rfl (lv_at hl 0 rfl) ?_
        refine va_get (D := D) (ci := 5) (v := .int many_6) (C := RX6) (T := TX6) (N := 19) hx hb hts in6_read_6 hown hK.1 hP 0 rfl rfl 15 (by decide) (hts _ (List.mem_of_getElem? (i := 5) rfl)) (fun _ h9 => h9) rfl (zD_g DX6_read 32 rfl) ?_
        refine lv_icmp_ge (tgt := 75) hx hb (zD_g DX6_read 33 rfl) (by decide) (fun c24 => ?_) (fun c24 => ?_)
        · replace hf := z_t c24 hf
          exact hk23 _ _ _ hf _ _ hP hD hS ls (lv_sub hl [0, 1] rfl)
        · replace hf := z_f c24 hf
          refine lv_aload_n hx hb (zD_g DX6_read 34 rfl) rfl (lv_at hl 0 rfl) ?_
          refine lv_iload_n hx hb (zD_g DX6_read 35 rfl) rfl (lv_at hl 1 rfl) ?_
          obtain ⟨r25, book_26, refused_27, hc28, hf⟩ := zb3_s hf
          refine z_Vm (As := [.int y20]) (rest := []) (ws' := (cMod cI cZ q (1 : Int32) mabove mbelow typed mat_2 mstart_3 mtoken_4 mvalue_5 many_6 book_26 images mkept aside_17 refused_27 text items_7 drawn row best)) ⟨hx, hb, hml, hown, hts⟩ hK (c6_tellsItem (quiet := (1 : Int32)) (mabove := mabove) (mbelow := mbelow) (typed := typed) (mat := mat_2) (mstart := mstart_3) (mtoken := mtoken_4) (mvalue := mvalue_5) (many := many_6) (book := book_21) (images := images) (mkept := mkept) (aside := aside_17) (refused := refused_22) (text := text) (items := items_7) (drawn := drawn) (row := row) (best := best) (q := q) hc28) (cwV 1 hts gX6_read_X6_tellsItem rfl rfl rfl hd6_tellsItem ⟨Nat.le_of_ble_eq_true rfl, Nat.le_of_ble_eq_true rfl⟩) hP hD hS hA 11 [0, 1, 2, 3, 4, 5, 6, 7, 8, 9, 10] [] [0, 1, 2, 3, 4, 5, 6, 7, 8, 9, 10] (by decide +kernel) rfl rfl rfl rfl rfl rfl rfl hl.1 rfl rfl (Nat.le_of_ble_eq_true rfl) (zD_g DX6_read 36 rfl) ⟨Nat.zero_le _, Nat.zero_le _⟩ (fun H locs hP hD hS => ?_)
          refine lv_if_eq (tgt := 75) hx hb (zD_g DX6_read 37 rfl) (by decide) (fun c29 => ?_) (fun c29 => ?_)
          · replace hf := z_t c29 hf
            exact hk23 _ _ _ hf _ _ hP hD hS ls (lv_sub hl [0, 1] rfl)
          · replace hf := z_f c29 hf
            refine lv_iinc (v := y20 + 1) (lv' := [(1, .int (y20 + 1)), (0, .ref (q 0))]) (k := 1) hx hb (zD_g DX6_read 38 rfl) hl rfl rfl (by decide) rfl (fun ls hl => ?_)
            refine lv_goto (tgt := 53) hx hb (zD_g DX6_read 39 rfl) (by decide) ?_
            exact ih23 _ _ _ hf _ _ hP hD hS ls (lv_sub hl [1, 0] rfl)
    refine hL23 _ (fun y30 book_31 refused_32 hf H locs hP hD hS ls hl => ?_) _ _ _ _ hf _ _ hP hD hS ls (lv_sub hl [1, 0] rfl)
    refine lv_aload_n hx hb (zD_g DX6_read 40 rfl) rfl (lv_at hl 0 rfl) ?_
    refine lv_iconst (v := (0 : Int32)) hx hb (zD_g DX6_read 41 rfl) (by decide) ?_
    refine z_put (D := D) (ci := 5) (v := .int (0 : Int32)) (ty := .boolean) (C := RX6) (T := TX6) (N := 19) (ws' := (cMod cI cZ q (0 : Int32) mabove mbelow typed mat_2 mstart_3 mtoken_4 mvalue_5 many_6 book_31 images mkept aside_17 refused_32 text items_7 drawn row best)) hx hb hts in6_read_6 tyX6 tyX6_ok nmX6 hown hK.1 hP hD hS 0 rfl rfl 5 (by decide) (hts _ (List.mem_of_getElem? (i := 4) rfl)) (fun _ h9 => h9) rfl (tyX6_ok 5 (by decide)) rfl rfl (Nat.le_of_ble_eq_true rfl) rfl (zD_g DX6_read 42 rfl) (fun H locs hP hD hS => ?_)
    refine lv_iload_n hx hb (zD_g DX6_read 43 rfl) rfl (lv_at hl 1 rfl) ?_
    refine lv_aload_n hx hb (zD_g DX6_read 44 rfl) rfl (lv_at hl 0 rfl) ?_
    refine va_get (D := D) (ci := 5) (v := .int many_6) (C := RX6) (T := TX6) (N := 19) hx hb hts in6_read_6 hown hK.1 hP 0 rfl rfl 15 (by decide) (hts _ (List.mem_of_getElem? (i := 5) rfl)) (fun _ h9 => h9) rfl (zD_g DX6_read 45 rfl) ?_
    refine lv_icmp_ne (tgt := 100) hx hb (zD_g DX6_read 46 rfl) (by decide) (fun c33 => ?_) (fun c33 => ?_)
    · replace hf := z_f c33 hf
      refine lv_iconst (v := (0 : Int32)) hx hb (zD_g DX6_read 55 rfl) (by decide) ?_
      refine lv_istore_n (lv' := [(2, .int (0 : Int32)), (0, .ref (q 0)), (1, .int y30)]) hx hb (zD_g DX6_read 56 rfl) rfl hl (by decide) rfl (fun ls hl => ?_)
      have hL36 : ∀ (k36 : (Nat → Int32) → Option (Int32 × Int32 × Int32 × Int32 × Int32 × Int32 × Int32 × (Nat → Int32) × (Nat → Int32) × (Nat → Int32) × (Nat → Int32))) (hk36 : ∀ (book_41 : Nat → Int32), k36 book_41 = some (r, d_quiet, d_mat, d_mstart, d_mtoken, d_mvalue, d_many, d_book, d_aside, d_refused, d_items) → ∀ (H : Heap) (locs : List Loc), va_P D vwCl (cMod cI cZ q (0 : Int32) mabove mbelow typed mat_2 mstart_3 mtoken_4 mvalue_5 many_6 book_41 images mkept aside_17 refused_32 text items_7 drawn row best) H → va_D A (cMod cI cZ q (0 : Int32) mabove mbelow typed mat_2 mstart_3 mtoken_4 mvalue_5 many_6 book_41 images mkept aside_17 refused_32 text items_7 drawn row best) → va_S A s.heap H locs → ∀ (ls : Array Slot), lv_has ls 3 [(1, .int y30)] → W p l e rm6_read s m args below meth c H locs 0 0 Q (F0 m 127 ls [])) (n36 : Nat) (y34 : Int32) (book_35 : Nat → Int32), L6_read_102 k36 aside_17 n36 y34 book_35 = some (r, d_quiet, d_mat, d_mstart, d_mtoken, d_mvalue, d_many, d_book, d_aside, d_refused, d_items) → ∀ (H : Heap) (locs : List Loc), va_P D vwCl (cMod cI cZ q (0 : Int32) mabove mbelow typed mat_2 mstart_3 mtoken_4 mvalue_5 many_6 book_35 images mkept aside_17 refused_32 text items_7 drawn row best) H → va_D A (cMod cI cZ q (0 : Int32) mabove mbelow typed mat_2 mstart_3 mtoken_4 mvalue_5 many_6 book_35 images mkept aside_17 refused_32 text items_7 drawn row best) → va_S A s.heap H locs → ∀ (ls : Array Slot), lv_has ls 3 [(0, .ref (q 0)), (1, .int y30), (2, .int y34)] → W p l e rm6_read s m args below meth c H locs 0 0 Q (F0 m 102 ls []) := by
        intro k36 hk36 n36
        induction n36 with
        | zero =>
          intro y34 book_35 hf
          cases hf
        | succ n36 ih36 =>
          intro y34 book_35 hf H locs hP hD hS ls hl
          rw [L6_read_102] at hf
          refine lv_iload_n hx hb (zD_g DX6_read 57 rfl) rfl (lv_at hl 2 rfl) ?_
          refine lv_sipush (v := (230 : Int32)) hx hb (zD_g DX6_read 58 rfl) (by decide) ?_
          refine lv_icmp_ge (tgt := 127) hx hb (zD_g DX6_read 59 rfl) (by decide) (fun c37 => ?_) (fun c37 => ?_)
          · replace hf := z_t c37 hf
            exact hk36 _ hf _ _ hP hD hS ls (lv_sub hl [1] rfl)
          · replace hf := z_f c37 hf
            refine lv_aload_n hx hb (zD_g DX6_read 60 rfl) rfl (lv_at hl 0 rfl) ?_
            refine va_get (D := D) (ci := 5) (v := .ref (q 1)) (C := RX6) (T := TX6) (N := 19) hx hb hts in6_read_6 hown hK.1 hP 0 rfl rfl 0 (by decide) (hts _ (List.mem_of_getElem? (i := 3) rfl)) (fun _ h9 => h9) rfl (zD_g DX6_read 61 rfl) ?_
            refine lv_iload_n hx hb (zD_g DX6_read 62 rfl) rfl (lv_at hl 2 rfl) ?_
            refine lv_aload_n hx hb (zD_g DX6_read 63 rfl) rfl (lv_at hl 0 rfl) ?_
            refine va_get (D := D) (ci := 5) (v := .ref (q 4)) (C := RX6) (T := TX6) (N := 19) hx hb hts in6_read_6 hown hK.1 hP 0 rfl rfl 3 (by decide) (hts _ (List.mem_of_getElem? (i := 2) rfl)) (fun _ h9 => h9) rfl (zD_g DX6_read 64 rfl) ?_
            refine lv_iload_n hx hb (zD_g DX6_read 65 rfl) rfl (lv_at hl 2 rfl) ?_
            obtain ⟨h38, hf⟩ := zg_s hf
            refine z_iald (k := y34.toNatClampNeg) hx hb hK.1 hP 4 0 rfl rfl h38 rfl (zD_g DX6_read 66 rfl) ?_
            refine lv_topi (fun x39 ex39 => ?_)
            replace hf := zl_s hf x39 ex39
            obtain ⟨h40, hf⟩ := zg_s hf
            refine z_iast (k := y34.toNatClampNeg) (ws' := (cMod cI cZ q (0 : Int32) mabove mbelow typed mat_2 mstart_3 mtoken_4 mvalue_5 many_6 (upd book_35 y34.toNatClampNeg x39) images mkept aside_17 refused_32 text items_7 drawn row best)) hx hb hK.1 hP hD hS 1 0 rfl rfl h40 rfl rfl (zD_g DX6_read 67 rfl) (fun H locs hP hD hS => ?_)
            refine lv_iinc (v := y34 + 1) (lv' := [(2, .int (y34 + 1)), (0, .ref (q 0)), (1, .int y30)]) (k := 2) hx hb (zD_g DX6_read 68 rfl) hl rfl rfl (by decide) rfl (fun ls hl => ?_)
            refine lv_goto (tgt := 102) hx hb (zD_g DX6_read 69 rfl) (by decide) ?_
            exact ih36 _ _ hf _ _ hP hD hS ls (lv_sub hl [1, 2, 0] rfl)
      refine hL36 _ (fun book_41 hf H locs hP hD hS ls hl => ?_) _ _ _ hf _ _ hP hD hS ls (lv_sub hl [1, 2, 0] rfl)
      refine lv_sipush (v := (-1000 : Int32)) hx hb (zD_g DX6_read 70 rfl) (by decide) ?_
      refine lv_iload_n hx hb (zD_g DX6_read 71 rfl) rfl (lv_at hl 0 rfl) ?_
      refine lv_isub hx hb (zD_g DX6_read 72 rfl) ?_
      cases hf
      exact hret _ _ _ _ hP hD hS (zD_g DX6_read 73 rfl)
    · replace hf := z_t c33 hf
      refine lv_aload_n hx hb (zD_g DX6_read 47 rfl) rfl (lv_at hl 0 rfl) ?_
      refine va_get (D := D) (ci := 5) (v := .ref (q 1)) (C := RX6) (T := TX6) (N := 19) hx hb hts in6_read_6 hown hK.1 hP 0 rfl rfl 0 (by decide) (hts _ (List.mem_of_getElem? (i := 3) rfl)) (fun _ h9 => h9) rfl (zD_g DX6_read 48 rfl) ?_
      refine lv_iconst (v := (3 : Int32)) hx hb (zD_g DX6_read 49 rfl) (by decide) ?_
      refine lv_iconst (v := (0 : Int32)) hx hb (zD_g DX6_read 50 rfl) (by decide) ?_
      refine z_iast (k := 3) (ws' := (cMod cI cZ q (0 : Int32) mabove mbelow typed mat_2 mstart_3 mtoken_4 mvalue_5 many_6 (upd book_31 3 (0 : Int32)) images mkept aside_17 refused_32 text items_7 drawn row best)) hx hb hK.1 hP hD hS 1 0 rfl rfl (by decide) rfl rfl (zD_g DX6_read 51 rfl) (fun H locs hP hD hS => ?_)
      refine lv_aload_n hx hb (zD_g DX6_read 52 rfl) rfl (lv_at hl 0 rfl) ?_
      refine va_get (D := D) (ci := 5) (v := .int many_6) (C := RX6) (T := TX6) (N := 19) hx hb hts in6_read_6 hown hK.1 hP 0 rfl rfl 15 (by decide) (hts _ (List.mem_of_getElem? (i := 5) rfl)) (fun _ h9 => h9) rfl (zD_g DX6_read 53 rfl) ?_
      cases hf
      exact hret _ _ _ _ hP hD hS (zD_g DX6_read 54 rfl)
  · replace hf := z_t c9 hf
    refine lv_bipush (v := (-10 : Int32)) hx hb (zD_g DX6_read 3 rfl) (by decide) ?_
    refine lv_aload_n hx hb (zD_g DX6_read 4 rfl) rfl (lv_at hl 0 rfl) ?_
    refine va_get (D := D) (ci := 5) (v := .int mstart_3) (C := RX6) (T := TX6) (N := 19) hx hb hts in6_read_6 hown hK.1 hP 0 rfl rfl 11 (by decide) (hts _ (List.mem_of_getElem? (i := 1) rfl)) (fun _ h9 => h9) rfl (zD_g DX6_read 5 rfl) ?_
    refine lv_isub hx hb (zD_g DX6_read 6 rfl) ?_
    cases hf
    exact hret _ _ _ _ hP hD hS (zD_g DX6_read 7 rfl)
theorem hd6_read : yX6_read.cls = RX6 ∧ yX6_read.cls ≠ "java/lang/invoke/MethodHandle" ∧ yX6_read.cls ≠ "java/lang/invoke/VarHandle" ∧ (parseMethodDescriptor yX6_read.desc).map (fun d => d.parameters.length) = some 0 := by decide +kernel
abbrev dlX6_weighs : List (Nat × Instr × Nat) := [(0, .aload_n 0, 1), (1, .getfield 7, 3), (4, .bipush 44, 2), (6, .iload_n 1, 1), (7, .iadd, 1), (8, .iaload, 1), (9, .istore_n 3, 1), (10, .aload_n 0, 1), (11, .getfield 7, 3), (14, .iconst 2, 1), (15, .iaload, 1), (16, .bipush 9, 2), (18, .if_icmp .le 8, 3), (21, .bipush 9, 2), (23, .goto 9, 3), (26, .aload_n 0, 1), (27, .getfield 7, 3), (30, .iconst 2, 1), (31, .iaload, 1), (32, .istore 4, 2), (34, .iload_n 3, 1), (35, .iconst 2, 1), (36, .if_icmp .eq 8, 3), (39, .iload_n 3, 1), (40, .iconst 5, 1), (41, .if_icmp .ne 8, 3), (44, .iload 4, 2), (46, .goto 4, 3), (49, .iconst 0, 1), (50, .istore 5, 2), (52, .aload_n 0, 1), (53, .getfield 7, 3), (56, .bipush 50, 2), (58, .iload_n 1, 1), (59, .iadd, 1), (60, .iaload, 1), (61, .iload_n 3, 1), (62, .iconst 3, 1), (63, .if_icmp .ne 7, 3), (66, .iconst 0, 1), (67, .goto 9, 3), (70, .aload_n 0, 1), (71, .iload_n 2, 1), (72, .iconst 1, 1), (73, .invokevirtual 91, 3), (76, .iadd, 1), (77, .iload 5, 2), (79, .iadd, 1), (80, .ireturn, 1)]
theorem DX6_weighs : zD cX6_weighs dlX6_weighs = true := by decide +kernel
set_option maxRecDepth 20000 in
theorem ggX6_weighs_X6_sumOf : GoodIn wsX6_weighs wsX6_sumOf := goodIn_r _ [6, 1, 7, 8, 9, 10, 11, 12, 13, 14, 15, 16, 17, 18, 19, 20, 21, 22, 23, 24, 25] (by decide +kernel) (by decide +kernel)
set_option maxRecDepth 20000 in
theorem gX6_weighs_X6_sumOf : GoodIn wsX6_weighs (wsV RX6 91 RX6 yX6_sumOf wsX6_sumOf) := goodIn_app (goodIn_of _ (by decide +kernel)) ggX6_weighs_X6_sumOf
def f6_weighs (book : Nat → Int32) (a_g : Int32) (a_set : Int32) : Option (Int32) := zg ((44 : Int32) + a_g) 230 (zl ((book ((44 : Int32) + a_g).toNatClampNeg)) (fun x2 => zb1 (if (book 2) ≤ (9 : Int32) then some (book 2) else some (9 : Int32)) (fun v4 => zb1 (if x2 = (2 : Int32) then some v4 else if x2 = (5 : Int32) then some v4 else some (0 : Int32)) (fun v6 => zg ((50 : Int32) + a_g) 230 (if x2 = (3 : Int32) then some (((book ((50 : Int32) + a_g).toNatClampNeg) + (0 : Int32)) + v6) else zb1 (f6_sumOf book a_set (1 : Int32)) (fun r9 => some (((book ((50 : Int32) + a_g).toNatClampNeg) + r9) + v6)))))))
abbrev rm6_weighs : Room := { frames := 1, cells := 0, slots := 0, locals := 24 }
theorem in6_weighs_6 : ∀ w ∈ wsX60, w ∈ wsX6_weighs := fun w h => List.mem_cons_of_mem _ (List.mem_append_right _ h)
set_option maxHeartbeats 4000000 in
set_option maxRecDepth 100000 in
theorem c6_weighs {l : Launch} {D : va_G} {cI cZ cB : ClassId} {q : Nat → Nat} {quiet : Int32} {mabove : Int64} {mbelow : Int64} {typed : Int32} {mat : Int32} {mstart : Int32} {mtoken : Int32} {mvalue : Int32} {many : Int32} {book : Nat → Int32} {images : Nat → Int32} {mkept : Nat → Int32} {aside : Nat → Int32} {refused : Nat → Int32} {text : Nat → Int32} {items : Nat → Int32} {drawn : Nat → Int32} {row : Nat → Int32} {best : Nat → Int32} {a_g : Int32} {a_set : Int32} {r : Int32}  (hf : f6_weighs book a_g a_set = some r) : Met l yX6_weighs wsX6_weighs rm6_weighs (zPp D cI cZ cB [.ref (q 0), .int a_g, .int a_set] (cMod cI cZ q quiet mabove mbelow typed mat mstart mtoken mvalue many book images mkept aside refused text items drawn row best)) (zQp (some (.int r))) 0 0 (fun _ => False) := by
  unfold f6_weighs at hf
  refine z_pureI RX6 (by decide +kernel) rfl rfl (Nat.le_of_ble_eq_true rfl) ?_
  intro p e s m args below meth c Q ls hx hb hml hown hts hK hP hret hl
  have hl : lv_has ls 6 [(0, .ref (q 0)), (1, .int a_g), (2, .int a_set)] := hl
  refine lv_aload_n hx hb (zD_g DX6_weighs 0 rfl) rfl (lv_at hl 0 rfl) ?_
  refine va_get (D := D) (ci := 5) (v := .ref (q 1)) (C := RX6) (T := TX6) (N := 19) hx hb hts in6_weighs_6 hown hK.1 hP 0 rfl rfl 0 (by decide) (hts _ (List.mem_of_getElem? (i := 1) rfl)) (fun _ h9 => h9) rfl (zD_g DX6_weighs 1 rfl) ?_
  refine lv_bipush (v := (44 : Int32)) hx hb (zD_g DX6_weighs 2 rfl) (by decide) ?_
  refine lv_iload_n hx hb (zD_g DX6_weighs 3 rfl) rfl (lv_at hl 1 rfl) ?_
  refine lv_iadd hx hb (zD_g DX6_weighs 4 rfl) ?_
  obtain ⟨h1, hf⟩ := zg_s hf
  refine z_iald (k := ((44 : Int32) + a_g).toNatClampNeg) hx hb hK.1 hP 1 0 rfl rfl h1 rfl (zD_g DX6_weighs 5 rfl) ?_
  refine lv_topi (fun x2 ex2 => ?_)
  replace hf := zl_s hf x2 ex2
  refine lv_istore_n (lv' := [(3, .int x2), (0, .ref (q 0)), (1, .int a_g), (2, .int a_set)]) hx hb (zD_g DX6_weighs 6 rfl) rfl hl (by decide) rfl (fun ls hl => ?_)
  refine lv_aload_n hx hb (zD_g DX6_weighs 7 rfl) rfl (lv_at hl 1 rfl) ?_
  refine va_get (D := D) (ci := 5) (v := .ref (q 1)) (C := RX6) (T := TX6) (N := 19) hx hb hts in6_weighs_6 hown hK.1 hP 0 rfl rfl 0 (by decide) (hts _ (List.mem_of_getElem? (i := 1) rfl)) (fun _ h9 => h9) rfl (zD_g DX6_weighs 8 rfl) ?_
  refine lv_iconst (v := (2 : Int32)) hx hb (zD_g DX6_weighs 9 rfl) (by decide) ?_
  refine z_iald (k := 2) hx hb hK.1 hP 1 0 rfl rfl (by decide) rfl (zD_g DX6_weighs 10 rfl) ?_
  refine lv_bipush (v := (9 : Int32)) hx hb (zD_g DX6_weighs 11 rfl) (by decide) ?_
  obtain ⟨v4, hr13, hf⟩ := zb1_s hf
  have hJ13 : ∀ (ls : Array Slot), lv_has ls 6 [(0, .ref (q 0)), (1, .int a_g), (2, .int a_set), (3, .int x2)] → W p l e rm6_weighs s m args below meth c s.heap [] 0 0 Q (F0 m 32 ls [.int v4]) := by
    intro ls hl
    refine lv_istore (lv' := [(4, .int v4), (0, .ref (q 0)), (1, .int a_g), (2, .int a_set), (3, .int x2)]) hx hb (zD_g DX6_weighs 19 rfl) hl (by decide) rfl (fun ls hl => ?_)
    refine lv_iload_n hx hb (zD_g DX6_weighs 20 rfl) rfl (lv_at hl 4 rfl) ?_
    refine lv_iconst (v := (2 : Int32)) hx hb (zD_g DX6_weighs 21 rfl) (by decide) ?_
    obtain ⟨v6, hr11, hf⟩ := zb1_s hf
    have hJ11 : ∀ (ls : Array Slot), lv_has ls 6 [(0, .ref (q 0)), (1, .int a_g), (2, .int a_set), (3, .int x2)] → W p l e rm6_weighs s m args below meth c s.heap [] 0 0 Q (F0 m 50 ls [.int v6]) := by
      intro ls hl
      refine lv_istore (lv' := [(5, .int v6), (0, .ref (q 0)), (1, .int a_g), (2, .int a_set), (3, .int x2)]) hx hb (zD_g DX6_weighs 29 rfl) hl (by decide) rfl (fun ls hl => ?_)
      refine lv_aload_n hx hb (zD_g DX6_weighs 30 rfl) rfl (lv_at hl 1 rfl) ?_
      refine va_get (D := D) (ci := 5) (v := .ref (q 1)) (C := RX6) (T := TX6) (N := 19) hx hb hts in6_weighs_6 hown hK.1 hP 0 rfl rfl 0 (by decide) (hts _ (List.mem_of_getElem? (i := 1) rfl)) (fun _ h9 => h9) rfl (zD_g DX6_weighs 31 rfl) ?_
      refine lv_bipush (v := (50 : Int32)) hx hb (zD_g DX6_weighs 32 rfl) (by decide) ?_
      refine lv_iload_n hx hb (zD_g DX6_weighs 33 rfl) rfl (lv_at hl 2 rfl) ?_
      refine lv_iadd hx hb (zD_g DX6_weighs 34 rfl) ?_
      obtain ⟨h7, hf⟩ := zg_s hf
      refine z_iald (k := ((50 : Int32) + a_g).toNatClampNeg) hx hb hK.1 hP 1 0 rfl rfl h7 rfl (zD_g DX6_weighs 35 rfl) ?_
      refine lv_iload_n hx hb (zD_g DX6_weighs 36 rfl) rfl (lv_at hl 4 rfl) ?_
      refine lv_iconst (v := (3 : Int32)) hx hb (zD_g DX6_weighs 37 rfl) (by decide) ?_
      refine lv_icmp_ne (tgt := 70) hx hb (zD_g DX6_weighs 38 rfl) (by decide) (fun c8 => ?_) (fun c8 => ?_)
      · replace hf := z_f c8 hf
        refine lv_aload_n hx hb (zD_g DX6_weighs 41 rfl) rfl (lv_at hl 1 rfl) ?_
        refine lv_iload_n hx hb (zD_g DX6_weighs 42 rfl) rfl (lv_at hl 3 rfl) ?_
        refine lv_iconst (v := (1 : Int32)) hx hb (zD_g DX6_weighs 43 rfl) (by decide) ?_
        obtain ⟨r9, hc10, hf⟩ := zb1_s hf
        refine z_Vp (As := [.int a_set, .int (1 : Int32)]) (rest := [.int (book ((50 : Int32) + a_g).toNatClampNeg)]) ⟨hx, hb, hml, hown, hts⟩ hK (c6_sumOf (quiet := quiet) (mabove := mabove) (mbelow := mbelow) (typed := typed) (mat := mat) (mstart := mstart) (mtoken := mtoken) (mvalue := mvalue) (many := many) (book := book) (images := images) (mkept := mkept) (aside := aside) (refused := refused) (text := text) (items := items) (drawn := drawn) (row := row) (best := best) (q := q) hc10) (cwV 2 hts gX6_weighs_X6_sumOf rfl rfl rfl hd6_sumOf ⟨Nat.le_of_ble_eq_true rfl, Nat.le_of_ble_eq_true rfl⟩) hP rfl rfl rfl rfl hl.1 rfl rfl (Nat.le_of_ble_eq_true rfl) (zD_g DX6_weighs 44 rfl) ⟨Nat.zero_le _, Nat.zero_le _⟩ ?_
        refine lv_iadd hx hb (zD_g DX6_weighs 45 rfl) ?_
        refine lv_iload hx hb (zD_g DX6_weighs 46 rfl) (lv_at hl 0 rfl) ?_
        refine lv_iadd hx hb (zD_g DX6_weighs 47 rfl) ?_
        cases hf
        exact hret _ _ (zD_g DX6_weighs 48 rfl)
      · replace hf := z_t c8 hf
        refine lv_iconst (v := (0 : Int32)) hx hb (zD_g DX6_weighs 39 rfl) (by decide) ?_
        refine lv_goto (tgt := 76) hx hb (zD_g DX6_weighs 40 rfl) (by decide) ?_
        refine lv_iadd hx hb (zD_g DX6_weighs 45 rfl) ?_
        refine lv_iload hx hb (zD_g DX6_weighs 46 rfl) (lv_at hl 0 rfl) ?_
        refine lv_iadd hx hb (zD_g DX6_weighs 47 rfl) ?_
        cases hf
        exact hret _ _ (zD_g DX6_weighs 48 rfl)
    clear hf
    refine lv_icmp_eq (tgt := 44) hx hb (zD_g DX6_weighs 22 rfl) (by decide) (fun c5 => ?_) (fun c5 => ?_)
    · have hf := z_t c5 hr11
      refine lv_iload hx hb (zD_g DX6_weighs 26 rfl) (lv_at hl 0 rfl) ?_
      refine lv_goto (tgt := 50) hx hb (zD_g DX6_weighs 27 rfl) (by decide) ?_
      cases hf
      exact hJ11 ls (lv_sub hl [1, 2, 3, 4] rfl)
    · have hf := z_f c5 hr11
      refine lv_iload_n hx hb (zD_g DX6_weighs 23 rfl) rfl (lv_at hl 4 rfl) ?_
      refine lv_iconst (v := (5 : Int32)) hx hb (zD_g DX6_weighs 24 rfl) (by decide) ?_
      refine lv_icmp_ne (tgt := 49) hx hb (zD_g DX6_weighs 25 rfl) (by decide) (fun c12 => ?_) (fun c12 => ?_)
      · replace hf := z_f c12 hf
        refine lv_iconst (v := (0 : Int32)) hx hb (zD_g DX6_weighs 28 rfl) (by decide) ?_
        cases hf
        exact hJ11 ls (lv_sub hl [1, 2, 3, 4] rfl)
      · replace hf := z_t c12 hf
        refine lv_iload hx hb (zD_g DX6_weighs 26 rfl) (lv_at hl 0 rfl) ?_
        refine lv_goto (tgt := 50) hx hb (zD_g DX6_weighs 27 rfl) (by decide) ?_
        cases hf
        exact hJ11 ls (lv_sub hl [1, 2, 3, 4] rfl)
  clear hf
  refine lv_icmp_le (tgt := 26) hx hb (zD_g DX6_weighs 12 rfl) (by decide) (fun c3 => ?_) (fun c3 => ?_)
  · have hf := z_t c3 hr13
    refine lv_aload_n hx hb (zD_g DX6_weighs 15 rfl) rfl (lv_at hl 1 rfl) ?_
    refine va_get (D := D) (ci := 5) (v := .ref (q 1)) (C := RX6) (T := TX6) (N := 19) hx hb hts in6_weighs_6 hown hK.1 hP 0 rfl rfl 0 (by decide) (hts _ (List.mem_of_getElem? (i := 1) rfl)) (fun _ h9 => h9) rfl (zD_g DX6_weighs 16 rfl) ?_
    refine lv_iconst (v := (2 : Int32)) hx hb (zD_g DX6_weighs 17 rfl) (by decide) ?_
    refine z_iald (k := 2) hx hb hK.1 hP 1 0 rfl rfl (by decide) rfl (zD_g DX6_weighs 18 rfl) ?_
    cases hf
    exact hJ13 ls (lv_sub hl [1, 2, 3, 0] rfl)
  · have hf := z_f c3 hr13
    refine lv_bipush (v := (9 : Int32)) hx hb (zD_g DX6_weighs 13 rfl) (by decide) ?_
    refine lv_goto (tgt := 32) hx hb (zD_g DX6_weighs 14 rfl) (by decide) ?_
    cases hf
    exact hJ13 ls (lv_sub hl [1, 2, 3, 0] rfl)
theorem hd6_weighs : yX6_weighs.cls = RX6 ∧ yX6_weighs.cls ≠ "java/lang/invoke/MethodHandle" ∧ yX6_weighs.cls ≠ "java/lang/invoke/VarHandle" ∧ (parseMethodDescriptor yX6_weighs.desc).map (fun d => d.parameters.length) = some 2 := by decide +kernel
abbrev dlX6_sounds : List (Nat × Instr × Nat) := [(0, .aload_n 0, 1), (1, .getfield 7, 3), (4, .bipush 44, 2), (6, .iload_n 1, 1), (7, .iadd, 1), (8, .iaload, 1), (9, .istore_n 3, 1), (10, .aload_n 0, 1), (11, .iload_n 2, 1), (12, .iconst 2, 1), (13, .invokevirtual 91, 3), (16, .istore 4, 2), (18, .iload_n 3, 1), (19, .iconst 5, 1), (20, .if_icmp .ne 12, 3), (23, .iconst 2, 1), (24, .iload 4, 2), (26, .iconst 3, 1), (27, .iadd, 1), (28, .imul, 1), (29, .goto 17, 3), (32, .iload_n 3, 1), (33, .iconst 2, 1), (34, .if_icmp .ne 10, 3), (37, .iload 4, 2), (39, .iconst 3, 1), (40, .iadd, 1), (41, .goto 5, 3), (44, .iload 4, 2), (46, .istore 5, 2), (48, .iload_n 3, 1), (49, .iconst 1, 1), (50, .if_icmp .eq 8, 3), (53, .iload_n 3, 1), (54, .iconst 4, 1), (55, .if_icmp .ne 10, 3), (58, .iload 4, 2), (60, .iconst 2, 1), (61, .idiv, 1), (62, .goto 5, 3), (65, .iload 5, 2), (67, .ireturn, 1)]
theorem DX6_sounds : zD cX6_sounds dlX6_sounds = true := by decide +kernel
set_option maxRecDepth 20000 in
theorem ggX6_sounds_X6_sumOf : GoodIn wsX6_sounds wsX6_sumOf := goodIn_r _ [6, 1, 7, 8, 9, 10, 11, 12, 13, 14, 15, 16, 17, 18, 19, 20, 21, 22, 23, 24, 25] (by decide +kernel) (by decide +kernel)
set_option maxRecDepth 20000 in
theorem gX6_sounds_X6_sumOf : GoodIn wsX6_sounds (wsV RX6 91 RX6 yX6_sumOf wsX6_sumOf) := goodIn_app (goodIn_of _ (by decide +kernel)) ggX6_sounds_X6_sumOf
def f6_sounds (book : Nat → Int32) (a_g : Int32) (a_set : Int32) : Option (Int32) := zg ((44 : Int32) + a_g) 230 (zl ((book ((44 : Int32) + a_g).toNatClampNeg)) (fun x2 => zb1 (f6_sumOf book a_set (2 : Int32)) (fun r3 => zb1 (if x2 = (5 : Int32) then some ((2 : Int32) * (r3 + (3 : Int32))) else if x2 = (2 : Int32) then some (r3 + (3 : Int32)) else some r3) (fun v6 => if x2 = (1 : Int32) then some (r3 / (2 : Int32)) else if x2 = (4 : Int32) then some (r3 / (2 : Int32)) else some v6))))
abbrev rm6_sounds : Room := { frames := 1, cells := 0, slots := 0, locals := 24 }
theorem in6_sounds_6 : ∀ w ∈ wsX60, w ∈ wsX6_sounds := fun w h => List.mem_cons_of_mem _ (List.mem_append_right _ h)
set_option maxHeartbeats 4000000 in
set_option maxRecDepth 100000 in
theorem c6_sounds {l : Launch} {D : va_G} {cI cZ cB : ClassId} {q : Nat → Nat} {quiet : Int32} {mabove : Int64} {mbelow : Int64} {typed : Int32} {mat : Int32} {mstart : Int32} {mtoken : Int32} {mvalue : Int32} {many : Int32} {book : Nat → Int32} {images : Nat → Int32} {mkept : Nat → Int32} {aside : Nat → Int32} {refused : Nat → Int32} {text : Nat → Int32} {items : Nat → Int32} {drawn : Nat → Int32} {row : Nat → Int32} {best : Nat → Int32} {a_g : Int32} {a_set : Int32} {r : Int32}  (hf : f6_sounds book a_g a_set = some r) : Met l yX6_sounds wsX6_sounds rm6_sounds (zPp D cI cZ cB [.ref (q 0), .int a_g, .int a_set] (cMod cI cZ q quiet mabove mbelow typed mat mstart mtoken mvalue many book images mkept aside refused text items drawn row best)) (zQp (some (.int r))) 0 0 (fun _ => False) := by
  unfold f6_sounds at hf
  refine z_pureI RX6 (by decide +kernel) rfl rfl (Nat.le_of_ble_eq_true rfl) ?_
  intro p e s m args below meth c Q ls hx hb hml hown hts hK hP hret hl
  have hl : lv_has ls 6 [(0, .ref (q 0)), (1, .int a_g), (2, .int a_set)] := hl
  refine lv_aload_n hx hb (zD_g DX6_sounds 0 rfl) rfl (lv_at hl 0 rfl) ?_
  refine va_get (D := D) (ci := 5) (v := .ref (q 1)) (C := RX6) (T := TX6) (N := 19) hx hb hts in6_sounds_6 hown hK.1 hP 0 rfl rfl 0 (by decide) (hts _ (List.mem_of_getElem? (i := 1) rfl)) (fun _ h9 => h9) rfl (zD_g DX6_sounds 1 rfl) ?_
  refine lv_bipush (v := (44 : Int32)) hx hb (zD_g DX6_sounds 2 rfl) (by decide) ?_
  refine lv_iload_n hx hb (zD_g DX6_sounds 3 rfl) rfl (lv_at hl 1 rfl) ?_
  refine lv_iadd hx hb (zD_g DX6_sounds 4 rfl) ?_
  obtain ⟨h1, hf⟩ := zg_s hf
  refine z_iald (k := ((44 : Int32) + a_g).toNatClampNeg) hx hb hK.1 hP 1 0 rfl rfl h1 rfl (zD_g DX6_sounds 5 rfl) ?_
  refine lv_topi (fun x2 ex2 => ?_)
  replace hf := zl_s hf x2 ex2
  refine lv_istore_n (lv' := [(3, .int x2), (0, .ref (q 0)), (1, .int a_g), (2, .int a_set)]) hx hb (zD_g DX6_sounds 6 rfl) rfl hl (by decide) rfl (fun ls hl => ?_)
  refine lv_aload_n hx hb (zD_g DX6_sounds 7 rfl) rfl (lv_at hl 1 rfl) ?_
  refine lv_iload_n hx hb (zD_g DX6_sounds 8 rfl) rfl (lv_at hl 3 rfl) ?_
  refine lv_iconst (v := (2 : Int32)) hx hb (zD_g DX6_sounds 9 rfl) (by decide) ?_
  obtain ⟨r3, hc4, hf⟩ := zb1_s hf
  refine z_Vp (As := [.int a_set, .int (2 : Int32)]) (rest := []) ⟨hx, hb, hml, hown, hts⟩ hK (c6_sumOf (quiet := quiet) (mabove := mabove) (mbelow := mbelow) (typed := typed) (mat := mat) (mstart := mstart) (mtoken := mtoken) (mvalue := mvalue) (many := many) (book := book) (images := images) (mkept := mkept) (aside := aside) (refused := refused) (text := text) (items := items) (drawn := drawn) (row := row) (best := best) (q := q) hc4) (cwV 2 hts gX6_sounds_X6_sumOf rfl rfl rfl hd6_sumOf ⟨Nat.le_of_ble_eq_true rfl, Nat.le_of_ble_eq_true rfl⟩) hP rfl rfl rfl rfl hl.1 rfl rfl (Nat.le_of_ble_eq_true rfl) (zD_g DX6_sounds 10 rfl) ⟨Nat.zero_le _, Nat.zero_le _⟩ ?_
  refine lv_istore (lv' := [(4, .int r3), (3, .int x2), (0, .ref (q 0)), (1, .int a_g), (2, .int a_set)]) hx hb (zD_g DX6_sounds 11 rfl) hl (by decide) rfl (fun ls hl => ?_)
  refine lv_iload_n hx hb (zD_g DX6_sounds 12 rfl) rfl (lv_at hl 1 rfl) ?_
  refine lv_iconst (v := (5 : Int32)) hx hb (zD_g DX6_sounds 13 rfl) (by decide) ?_
  obtain ⟨v6, hr9, hf⟩ := zb1_s hf
  have hJ9 : ∀ (ls : Array Slot), lv_has ls 6 [(3, .int x2), (4, .int r3)] → W p l e rm6_sounds s m args below meth c s.heap [] 0 0 Q (F0 m 46 ls [.int v6]) := by
    intro ls hl
    refine lv_istore (lv' := [(5, .int v6), (3, .int x2), (4, .int r3)]) hx hb (zD_g DX6_sounds 29 rfl) hl (by decide) rfl (fun ls hl => ?_)
    refine lv_iload_n hx hb (zD_g DX6_sounds 30 rfl) rfl (lv_at hl 1 rfl) ?_
    refine lv_iconst (v := (1 : Int32)) hx hb (zD_g DX6_sounds 31 rfl) (by decide) ?_
    refine lv_icmp_eq (tgt := 58) hx hb (zD_g DX6_sounds 32 rfl) (by decide) (fun c7 => ?_) (fun c7 => ?_)
    · replace hf := z_t c7 hf
      refine lv_iload hx hb (zD_g DX6_sounds 36 rfl) (lv_at hl 2 rfl) ?_
      refine lv_iconst (v := (2 : Int32)) hx hb (zD_g DX6_sounds 37 rfl) (by decide) ?_
      refine lv_idiv hx hb (zD_g DX6_sounds 38 rfl) (by decide) ?_
      refine lv_goto (tgt := 67) hx hb (zD_g DX6_sounds 39 rfl) (by decide) ?_
      cases hf
      exact hret _ _ (zD_g DX6_sounds 41 rfl)
    · replace hf := z_f c7 hf
      refine lv_iload_n hx hb (zD_g DX6_sounds 33 rfl) rfl (lv_at hl 1 rfl) ?_
      refine lv_iconst (v := (4 : Int32)) hx hb (zD_g DX6_sounds 34 rfl) (by decide) ?_
      refine lv_icmp_ne (tgt := 65) hx hb (zD_g DX6_sounds 35 rfl) (by decide) (fun c8 => ?_) (fun c8 => ?_)
      · replace hf := z_f c8 hf
        refine lv_iload hx hb (zD_g DX6_sounds 40 rfl) (lv_at hl 0 rfl) ?_
        cases hf
        exact hret _ _ (zD_g DX6_sounds 41 rfl)
      · replace hf := z_t c8 hf
        refine lv_iload hx hb (zD_g DX6_sounds 36 rfl) (lv_at hl 2 rfl) ?_
        refine lv_iconst (v := (2 : Int32)) hx hb (zD_g DX6_sounds 37 rfl) (by decide) ?_
        refine lv_idiv hx hb (zD_g DX6_sounds 38 rfl) (by decide) ?_
        refine lv_goto (tgt := 67) hx hb (zD_g DX6_sounds 39 rfl) (by decide) ?_
        cases hf
        exact hret _ _ (zD_g DX6_sounds 41 rfl)
  clear hf
  refine lv_icmp_ne (tgt := 32) hx hb (zD_g DX6_sounds 14 rfl) (by decide) (fun c5 => ?_) (fun c5 => ?_)
  · have hf := z_f c5 hr9
    refine lv_iload_n hx hb (zD_g DX6_sounds 21 rfl) rfl (lv_at hl 1 rfl) ?_
    refine lv_iconst (v := (2 : Int32)) hx hb (zD_g DX6_sounds 22 rfl) (by decide) ?_
    refine lv_icmp_ne (tgt := 44) hx hb (zD_g DX6_sounds 23 rfl) (by decide) (fun c10 => ?_) (fun c10 => ?_)
    · replace hf := z_f c10 hf
      refine lv_iload hx hb (zD_g DX6_sounds 28 rfl) (lv_at hl 0 rfl) ?_
      cases hf
      exact hJ9 ls (lv_sub hl [1, 0] rfl)
    · replace hf := z_t c10 hf
      refine lv_iload hx hb (zD_g DX6_sounds 24 rfl) (lv_at hl 0 rfl) ?_
      refine lv_iconst (v := (3 : Int32)) hx hb (zD_g DX6_sounds 25 rfl) (by decide) ?_
      refine lv_iadd hx hb (zD_g DX6_sounds 26 rfl) ?_
      refine lv_goto (tgt := 46) hx hb (zD_g DX6_sounds 27 rfl) (by decide) ?_
      cases hf
      exact hJ9 ls (lv_sub hl [1, 0] rfl)
  · have hf := z_t c5 hr9
    refine lv_iconst (v := (2 : Int32)) hx hb (zD_g DX6_sounds 15 rfl) (by decide) ?_
    refine lv_iload hx hb (zD_g DX6_sounds 16 rfl) (lv_at hl 0 rfl) ?_
    refine lv_iconst (v := (3 : Int32)) hx hb (zD_g DX6_sounds 17 rfl) (by decide) ?_
    refine lv_iadd hx hb (zD_g DX6_sounds 18 rfl) ?_
    refine lv_imul hx hb (zD_g DX6_sounds 19 rfl) ?_
    refine lv_goto (tgt := 46) hx hb (zD_g DX6_sounds 20 rfl) (by decide) ?_
    cases hf
    exact hJ9 ls (lv_sub hl [1, 0] rfl)
theorem hd6_sounds : yX6_sounds.cls = RX6 ∧ yX6_sounds.cls ≠ "java/lang/invoke/MethodHandle" ∧ yX6_sounds.cls ≠ "java/lang/invoke/VarHandle" ∧ (parseMethodDescriptor yX6_sounds.desc).map (fun d => d.parameters.length) = some 2 := by decide +kernel
abbrev dlX6_harms : List (Nat × Instr × Nat) := [(0, .aload_n 0, 1), (1, .getfield 7, 3), (4, .bipush 44, 2), (6, .iload_n 1, 1), (7, .iadd, 1), (8, .iaload, 1), (9, .istore_n 3, 1), (10, .aload_n 0, 1), (11, .iload_n 2, 1), (12, .iconst 3, 1), (13, .invokevirtual 91, 3), (16, .istore 4, 2), (18, .iload_n 3, 1), (19, .iconst 5, 1), (20, .if_icmp .ne 19, 3), (23, .aload_n 0, 1), (24, .getfield 7, 3), (27, .iconst 2, 1), (28, .iaload, 1), (29, .iconst 2, 1), (30, .irem, 1), (31, .iconst 1, 1), (32, .if_icmp .ne 7, 3), (35, .iconst 0, 1), (36, .goto 5, 3), (39, .iload 4, 2), (41, .istore 5, 2), (43, .iload_n 3, 1), (44, .iconst 3, 1), (45, .if_icmp .ne 10, 3), (48, .iload 4, 2), (50, .iconst 2, 1), (51, .idiv, 1), (52, .goto 26, 3), (55, .iload_n 3, 1), (56, .iconst 4, 1), (57, .if_icmp .ne 19, 3), (60, .iload_n 2, 1), (61, .ifCond .ne 8, 3), (64, .iload 4, 2), (66, .goto 12, 3), (69, .iload 4, 2), (71, .iconst 2, 1), (72, .iadd, 1), (73, .goto 5, 3), (76, .iload 5, 2), (78, .ireturn, 1)]
theorem DX6_harms : zD cX6_harms dlX6_harms = true := by decide +kernel
set_option maxRecDepth 20000 in
theorem ggX6_harms_X6_sumOf : GoodIn wsX6_harms wsX6_sumOf := goodIn_r _ [6, 1, 7, 8, 9, 10, 11, 12, 13, 14, 15, 16, 17, 18, 19, 20, 21, 22, 23, 24, 25] (by decide +kernel) (by decide +kernel)
set_option maxRecDepth 20000 in
theorem gX6_harms_X6_sumOf : GoodIn wsX6_harms (wsV RX6 91 RX6 yX6_sumOf wsX6_sumOf) := goodIn_app (goodIn_of _ (by decide +kernel)) ggX6_harms_X6_sumOf
def f6_harms (book : Nat → Int32) (a_g : Int32) (a_set : Int32) : Option (Int32) := zg ((44 : Int32) + a_g) 230 (zl ((book ((44 : Int32) + a_g).toNatClampNeg)) (fun x2 => zb1 (f6_sumOf book a_set (3 : Int32)) (fun r3 => zb1 (if x2 = (5 : Int32) then zl ((book 2)) (fun x11 => if (x11 - x11 / (2 : Int32) * (2 : Int32)) = (1 : Int32) then some (0 : Int32) else some r3) else some r3) (fun v6 => if x2 = (3 : Int32) then some (r3 / (2 : Int32)) else if x2 = (4 : Int32) then if a_set = 0 then some r3 else some (r3 + (2 : Int32)) else some v6))))
abbrev rm6_harms : Room := { frames := 1, cells := 0, slots := 0, locals := 24 }
theorem in6_harms_6 : ∀ w ∈ wsX60, w ∈ wsX6_harms := fun w h => List.mem_cons_of_mem _ (List.mem_append_right _ h)
set_option maxHeartbeats 4000000 in
set_option maxRecDepth 100000 in
theorem c6_harms {l : Launch} {D : va_G} {cI cZ cB : ClassId} {q : Nat → Nat} {quiet : Int32} {mabove : Int64} {mbelow : Int64} {typed : Int32} {mat : Int32} {mstart : Int32} {mtoken : Int32} {mvalue : Int32} {many : Int32} {book : Nat → Int32} {images : Nat → Int32} {mkept : Nat → Int32} {aside : Nat → Int32} {refused : Nat → Int32} {text : Nat → Int32} {items : Nat → Int32} {drawn : Nat → Int32} {row : Nat → Int32} {best : Nat → Int32} {a_g : Int32} {a_set : Int32} {r : Int32}  (hf : f6_harms book a_g a_set = some r) : Met l yX6_harms wsX6_harms rm6_harms (zPp D cI cZ cB [.ref (q 0), .int a_g, .int a_set] (cMod cI cZ q quiet mabove mbelow typed mat mstart mtoken mvalue many book images mkept aside refused text items drawn row best)) (zQp (some (.int r))) 0 0 (fun _ => False) := by
  unfold f6_harms at hf
  refine z_pureI RX6 (by decide +kernel) rfl rfl (Nat.le_of_ble_eq_true rfl) ?_
  intro p e s m args below meth c Q ls hx hb hml hown hts hK hP hret hl
  have hl : lv_has ls 6 [(0, .ref (q 0)), (1, .int a_g), (2, .int a_set)] := hl
  refine lv_aload_n hx hb (zD_g DX6_harms 0 rfl) rfl (lv_at hl 0 rfl) ?_
  refine va_get (D := D) (ci := 5) (v := .ref (q 1)) (C := RX6) (T := TX6) (N := 19) hx hb hts in6_harms_6 hown hK.1 hP 0 rfl rfl 0 (by decide) (hts _ (List.mem_of_getElem? (i := 1) rfl)) (fun _ h9 => h9) rfl (zD_g DX6_harms 1 rfl) ?_
  refine lv_bipush (v := (44 : Int32)) hx hb (zD_g DX6_harms 2 rfl) (by decide) ?_
  refine lv_iload_n hx hb (zD_g DX6_harms 3 rfl) rfl (lv_at hl 1 rfl) ?_
  refine lv_iadd hx hb (zD_g DX6_harms 4 rfl) ?_
  obtain ⟨h1, hf⟩ := zg_s hf
  refine z_iald (k := ((44 : Int32) + a_g).toNatClampNeg) hx hb hK.1 hP 1 0 rfl rfl h1 rfl (zD_g DX6_harms 5 rfl) ?_
  refine lv_topi (fun x2 ex2 => ?_)
  replace hf := zl_s hf x2 ex2
  refine lv_istore_n (lv' := [(3, .int x2), (0, .ref (q 0)), (1, .int a_g), (2, .int a_set)]) hx hb (zD_g DX6_harms 6 rfl) rfl hl (by decide) rfl (fun ls hl => ?_)
  refine lv_aload_n hx hb (zD_g DX6_harms 7 rfl) rfl (lv_at hl 1 rfl) ?_
  refine lv_iload_n hx hb (zD_g DX6_harms 8 rfl) rfl (lv_at hl 3 rfl) ?_
  refine lv_iconst (v := (3 : Int32)) hx hb (zD_g DX6_harms 9 rfl) (by decide) ?_
  obtain ⟨r3, hc4, hf⟩ := zb1_s hf
  refine z_Vp (As := [.int a_set, .int (3 : Int32)]) (rest := []) ⟨hx, hb, hml, hown, hts⟩ hK (c6_sumOf (quiet := quiet) (mabove := mabove) (mbelow := mbelow) (typed := typed) (mat := mat) (mstart := mstart) (mtoken := mtoken) (mvalue := mvalue) (many := many) (book := book) (images := images) (mkept := mkept) (aside := aside) (refused := refused) (text := text) (items := items) (drawn := drawn) (row := row) (best := best) (q := q) hc4) (cwV 2 hts gX6_harms_X6_sumOf rfl rfl rfl hd6_sumOf ⟨Nat.le_of_ble_eq_true rfl, Nat.le_of_ble_eq_true rfl⟩) hP rfl rfl rfl rfl hl.1 rfl rfl (Nat.le_of_ble_eq_true rfl) (zD_g DX6_harms 10 rfl) ⟨Nat.zero_le _, Nat.zero_le _⟩ ?_
  refine lv_istore (lv' := [(4, .int r3), (3, .int x2), (0, .ref (q 0)), (1, .int a_g), (2, .int a_set)]) hx hb (zD_g DX6_harms 11 rfl) hl (by decide) rfl (fun ls hl => ?_)
  refine lv_iload_n hx hb (zD_g DX6_harms 12 rfl) rfl (lv_at hl 1 rfl) ?_
  refine lv_iconst (v := (5 : Int32)) hx hb (zD_g DX6_harms 13 rfl) (by decide) ?_
  obtain ⟨v6, hr10, hf⟩ := zb1_s hf
  have hJ10 : ∀ (ls : Array Slot), lv_has ls 6 [(2, .int a_set), (3, .int x2), (4, .int r3)] → W p l e rm6_harms s m args below meth c s.heap [] 0 0 Q (F0 m 41 ls [.int v6]) := by
    intro ls hl
    refine lv_istore (lv' := [(5, .int v6), (2, .int a_set), (3, .int x2), (4, .int r3)]) hx hb (zD_g DX6_harms 26 rfl) hl (by decide) rfl (fun ls hl => ?_)
    refine lv_iload_n hx hb (zD_g DX6_harms 27 rfl) rfl (lv_at hl 2 rfl) ?_
    refine lv_iconst (v := (3 : Int32)) hx hb (zD_g DX6_harms 28 rfl) (by decide) ?_
    refine lv_icmp_ne (tgt := 55) hx hb (zD_g DX6_harms 29 rfl) (by decide) (fun c7 => ?_) (fun c7 => ?_)
    · replace hf := z_f c7 hf
      refine lv_iload_n hx hb (zD_g DX6_harms 34 rfl) rfl (lv_at hl 2 rfl) ?_
      refine lv_iconst (v := (4 : Int32)) hx hb (zD_g DX6_harms 35 rfl) (by decide) ?_
      refine lv_icmp_ne (tgt := 76) hx hb (zD_g DX6_harms 36 rfl) (by decide) (fun c8 => ?_) (fun c8 => ?_)
      · replace hf := z_f c8 hf
        refine lv_iload hx hb (zD_g DX6_harms 45 rfl) (lv_at hl 0 rfl) ?_
        cases hf
        exact hret _ _ (zD_g DX6_harms 46 rfl)
      · replace hf := z_t c8 hf
        refine lv_iload_n hx hb (zD_g DX6_harms 37 rfl) rfl (lv_at hl 1 rfl) ?_
        refine lv_if_ne (tgt := 69) hx hb (zD_g DX6_harms 38 rfl) (by decide) (fun c9 => ?_) (fun c9 => ?_)
        · replace hf := z_f c9 hf
          refine lv_iload hx hb (zD_g DX6_harms 41 rfl) (lv_at hl 3 rfl) ?_
          refine lv_iconst (v := (2 : Int32)) hx hb (zD_g DX6_harms 42 rfl) (by decide) ?_
          refine lv_iadd hx hb (zD_g DX6_harms 43 rfl) ?_
          refine lv_goto (tgt := 78) hx hb (zD_g DX6_harms 44 rfl) (by decide) ?_
          cases hf
          exact hret _ _ (zD_g DX6_harms 46 rfl)
        · replace hf := z_t c9 hf
          refine lv_iload hx hb (zD_g DX6_harms 39 rfl) (lv_at hl 3 rfl) ?_
          refine lv_goto (tgt := 78) hx hb (zD_g DX6_harms 40 rfl) (by decide) ?_
          cases hf
          exact hret _ _ (zD_g DX6_harms 46 rfl)
    · replace hf := z_t c7 hf
      refine lv_iload hx hb (zD_g DX6_harms 30 rfl) (lv_at hl 3 rfl) ?_
      refine lv_iconst (v := (2 : Int32)) hx hb (zD_g DX6_harms 31 rfl) (by decide) ?_
      refine lv_idiv hx hb (zD_g DX6_harms 32 rfl) (by decide) ?_
      refine lv_goto (tgt := 78) hx hb (zD_g DX6_harms 33 rfl) (by decide) ?_
      cases hf
      exact hret _ _ (zD_g DX6_harms 46 rfl)
  clear hf
  refine lv_icmp_ne (tgt := 39) hx hb (zD_g DX6_harms 14 rfl) (by decide) (fun c5 => ?_) (fun c5 => ?_)
  · have hf := z_f c5 hr10
    refine lv_iload hx hb (zD_g DX6_harms 25 rfl) (lv_at hl 0 rfl) ?_
    cases hf
    exact hJ10 ls (lv_sub hl [4, 1, 0] rfl)
  · have hf := z_t c5 hr10
    refine lv_aload_n hx hb (zD_g DX6_harms 15 rfl) rfl (lv_at hl 2 rfl) ?_
    refine va_get (D := D) (ci := 5) (v := .ref (q 1)) (C := RX6) (T := TX6) (N := 19) hx hb hts in6_harms_6 hown hK.1 hP 0 rfl rfl 0 (by decide) (hts _ (List.mem_of_getElem? (i := 1) rfl)) (fun _ h9 => h9) rfl (zD_g DX6_harms 16 rfl) ?_
    refine lv_iconst (v := (2 : Int32)) hx hb (zD_g DX6_harms 17 rfl) (by decide) ?_
    refine z_iald (k := 2) hx hb hK.1 hP 1 0 rfl rfl (by decide) rfl (zD_g DX6_harms 18 rfl) ?_
    refine lv_topi (fun x11 ex11 => ?_)
    replace hf := zl_s hf x11 ex11
    refine lv_iconst (v := (2 : Int32)) hx hb (zD_g DX6_harms 19 rfl) (by decide) ?_
    refine lv_irem hx hb (zD_g DX6_harms 20 rfl) (by decide) ?_
    refine lv_iconst (v := (1 : Int32)) hx hb (zD_g DX6_harms 21 rfl) (by decide) ?_
    refine lv_icmp_ne (tgt := 39) hx hb (zD_g DX6_harms 22 rfl) (by decide) (fun c12 => ?_) (fun c12 => ?_)
    · replace hf := z_f c12 hf
      refine lv_iload hx hb (zD_g DX6_harms 25 rfl) (lv_at hl 0 rfl) ?_
      cases hf
      exact hJ10 ls (lv_sub hl [4, 1, 0] rfl)
    · replace hf := z_t c12 hf
      refine lv_iconst (v := (0 : Int32)) hx hb (zD_g DX6_harms 23 rfl) (by decide) ?_
      refine lv_goto (tgt := 41) hx hb (zD_g DX6_harms 24 rfl) (by decide) ?_
      cases hf
      exact hJ10 ls (lv_sub hl [4, 1, 0] rfl)
theorem hd6_harms : yX6_harms.cls = RX6 ∧ yX6_harms.cls ≠ "java/lang/invoke/MethodHandle" ∧ yX6_harms.cls ≠ "java/lang/invoke/VarHandle" ∧ (parseMethodDescriptor yX6_harms.desc).map (fun d => d.parameters.length) = some 2 := by decide +kernel
abbrev dlX6_other : List (Nat × Instr × Nat) := [(0, .iconst 1, 1), (1, .aload_n 0, 1), (2, .getfield 7, 3), (5, .bipush 68, 2), (7, .iload_n 1, 1), (8, .iadd, 1), (9, .iaload, 1), (10, .isub, 1), (11, .ireturn, 1)]
theorem DX6_other : zD cX6_other dlX6_other = true := by decide +kernel
def f6_other (book : Nat → Int32) (a_g : Int32) : Option (Int32) := zg ((68 : Int32) + a_g) 230 (some ((1 : Int32) - (book ((68 : Int32) + a_g).toNatClampNeg)))
abbrev rm6_other : Room := { frames := 0, cells := 0, slots := 0, locals := 0 }
theorem in6_other_6 : ∀ w ∈ wsX60, w ∈ wsX6_other := fun w h => List.mem_cons_of_mem _ (List.mem_append_right _ h)
set_option maxHeartbeats 4000000 in
set_option maxRecDepth 100000 in
theorem c6_other {l : Launch} {D : va_G} {cI cZ cB : ClassId} {q : Nat → Nat} {quiet : Int32} {mabove : Int64} {mbelow : Int64} {typed : Int32} {mat : Int32} {mstart : Int32} {mtoken : Int32} {mvalue : Int32} {many : Int32} {book : Nat → Int32} {images : Nat → Int32} {mkept : Nat → Int32} {aside : Nat → Int32} {refused : Nat → Int32} {text : Nat → Int32} {items : Nat → Int32} {drawn : Nat → Int32} {row : Nat → Int32} {best : Nat → Int32} {a_g : Int32} {r : Int32}  (hf : f6_other book a_g = some r) : Met l yX6_other wsX6_other rm6_other (zPp D cI cZ cB [.ref (q 0), .int a_g] (cMod cI cZ q quiet mabove mbelow typed mat mstart mtoken mvalue many book images mkept aside refused text items drawn row best)) (zQp (some (.int r))) 0 0 (fun _ => False) := by
  unfold f6_other at hf
  refine z_pureI RX6 (by decide +kernel) rfl rfl (Nat.le_of_ble_eq_true rfl) ?_
  intro p e s m args below meth c Q ls hx hb hml hown hts hK hP hret hl
  have hl : lv_has ls 2 [(0, .ref (q 0)), (1, .int a_g)] := hl
  refine lv_iconst (v := (1 : Int32)) hx hb (zD_g DX6_other 0 rfl) (by decide) ?_
  refine lv_aload_n hx hb (zD_g DX6_other 1 rfl) rfl (lv_at hl 0 rfl) ?_
  refine va_get (D := D) (ci := 5) (v := .ref (q 1)) (C := RX6) (T := TX6) (N := 19) hx hb hts in6_other_6 hown hK.1 hP 0 rfl rfl 0 (by decide) (hts _ (List.mem_of_getElem? (i := 1) rfl)) (fun _ h9 => h9) rfl (zD_g DX6_other 2 rfl) ?_
  refine lv_bipush (v := (68 : Int32)) hx hb (zD_g DX6_other 3 rfl) (by decide) ?_
  refine lv_iload_n hx hb (zD_g DX6_other 4 rfl) rfl (lv_at hl 1 rfl) ?_
  refine lv_iadd hx hb (zD_g DX6_other 5 rfl) ?_
  obtain ⟨h1, hf⟩ := zg_s hf
  refine z_iald (k := ((68 : Int32) + a_g).toNatClampNeg) hx hb hK.1 hP 1 0 rfl rfl h1 rfl (zD_g DX6_other 6 rfl) ?_
  refine lv_isub hx hb (zD_g DX6_other 7 rfl) ?_
  cases hf
  exact hret _ _ (zD_g DX6_other 8 rfl)
theorem hd6_other : yX6_other.cls = RX6 ∧ yX6_other.cls ≠ "java/lang/invoke/MethodHandle" ∧ yX6_other.cls ≠ "java/lang/invoke/VarHandle" ∧ (parseMethodDescriptor yX6_other.desc).map (fun d => d.parameters.length) = some 1 := by decide +kernel
abbrev dlX6_isHeard : List (Nat × Instr × Nat) := [(0, .aload_n 0, 1), (1, .iload_n 1, 1), (2, .iload_n 2, 1), (3, .invokevirtual 185, 3), (6, .aload_n 0, 1), (7, .getfield 7, 3), (10, .bipush 74, 2), (12, .iconst 3, 1), (13, .aload_n 0, 1), (14, .iload_n 1, 1), (15, .invokevirtual 188, 3), (18, .imul, 1), (19, .iadd, 1), (20, .iconst 1, 1), (21, .iadd, 1), (22, .iaload, 1), (23, .if_icmp .lt 7, 3), (26, .iconst 1, 1), (27, .goto 4, 3), (30, .iconst 0, 1), (31, .ireturn, 1)]
theorem DX6_isHeard : zD cX6_isHeard dlX6_isHeard = true := by decide +kernel
set_option maxRecDepth 20000 in
theorem ggX6_isHeard_X6_sounds : GoodIn wsX6_isHeard wsX6_sounds := goodIn_r _ [6, 1, 7, 8, 9, 5, 10, 15, 16, 17, 18, 19, 20, 21, 22, 23, 24, 25, 26, 27, 28, 29, 30, 31, 32, 33] (by decide +kernel) (by decide +kernel)
set_option maxRecDepth 20000 in
theorem gX6_isHeard_X6_sounds : GoodIn wsX6_isHeard (wsV RX6 185 RX6 yX6_sounds wsX6_sounds) := goodIn_app (goodIn_of _ (by decide +kernel)) ggX6_isHeard_X6_sounds
set_option maxRecDepth 20000 in
theorem ggX6_isHeard_X6_other : GoodIn wsX6_isHeard wsX6_other := goodIn_r _ [14, 1, 15, 16, 17, 18, 19, 20, 21, 22, 23, 24, 25, 26, 27, 28, 29, 30, 31, 32, 33] (by decide +kernel) (by decide +kernel)
set_option maxRecDepth 20000 in
theorem gX6_isHeard_X6_other : GoodIn wsX6_isHeard (wsV RX6 188 RX6 yX6_other wsX6_other) := goodIn_app (goodIn_of _ (by decide +kernel)) ggX6_isHeard_X6_other
def f6_isHeard (book : Nat → Int32) (a_g : Int32) (a_set : Int32) : Option (Int32) := zb1 (f6_sounds book a_g a_set) (fun r1 => zb1 (f6_other book a_g) (fun r3 => zg (((74 : Int32) + ((3 : Int32) * r3)) + (1 : Int32)) 230 (if r1 < (book (((74 : Int32) + ((3 : Int32) * r3)) + (1 : Int32)).toNatClampNeg) then some (0 : Int32) else some (1 : Int32))))
abbrev rm6_isHeard : Room := { frames := 2, cells := 0, slots := 0, locals := 49 }
theorem in6_isHeard_6 : ∀ w ∈ wsX60, w ∈ wsX6_isHeard := fun w h => List.mem_cons_of_mem _ (List.mem_append_right _ h)
set_option maxHeartbeats 4000000 in
set_option maxRecDepth 100000 in
theorem c6_isHeard {l : Launch} {D : va_G} {cI cZ cB : ClassId} {q : Nat → Nat} {quiet : Int32} {mabove : Int64} {mbelow : Int64} {typed : Int32} {mat : Int32} {mstart : Int32} {mtoken : Int32} {mvalue : Int32} {many : Int32} {book : Nat → Int32} {images : Nat → Int32} {mkept : Nat → Int32} {aside : Nat → Int32} {refused : Nat → Int32} {text : Nat → Int32} {items : Nat → Int32} {drawn : Nat → Int32} {row : Nat → Int32} {best : Nat → Int32} {a_g : Int32} {a_set : Int32} {r : Int32}  (hf : f6_isHeard book a_g a_set = some r) : Met l yX6_isHeard wsX6_isHeard rm6_isHeard (zPp D cI cZ cB [.ref (q 0), .int a_g, .int a_set] (cMod cI cZ q quiet mabove mbelow typed mat mstart mtoken mvalue many book images mkept aside refused text items drawn row best)) (zQp (some (.int r))) 0 0 (fun _ => False) := by
  unfold f6_isHeard at hf
  refine z_pureZ RX6 (by decide +kernel) rfl rfl (Nat.le_of_ble_eq_true rfl) ?_
  intro p e s m args below meth c Q ls hx hb hml hown hts hK hP hret hl
  have hl : lv_has ls 3 [(0, .ref (q 0)), (1, .int a_g), (2, .int a_set)] := hl
  refine lv_aload_n hx hb (zD_g DX6_isHeard 0 rfl) rfl (lv_at hl 0 rfl) ?_
  refine lv_iload_n hx hb (zD_g DX6_isHeard 1 rfl) rfl (lv_at hl 1 rfl) ?_
  refine lv_iload_n hx hb (zD_g DX6_isHeard 2 rfl) rfl (lv_at hl 2 rfl) ?_
  obtain ⟨r1, hc2, hf⟩ := zb1_s hf
  refine z_Vp (As := [.int a_g, .int a_set]) (rest := []) ⟨hx, hb, hml, hown, hts⟩ hK (c6_sounds (quiet := quiet) (mabove := mabove) (mbelow := mbelow) (typed := typed) (mat := mat) (mstart := mstart) (mtoken := mtoken) (mvalue := mvalue) (many := many) (book := book) (images := images) (mkept := mkept) (aside := aside) (refused := refused) (text := text) (items := items) (drawn := drawn) (row := row) (best := best) (q := q) hc2) (cwV 2 hts gX6_isHeard_X6_sounds rfl rfl rfl hd6_sounds ⟨Nat.le_of_ble_eq_true rfl, Nat.le_of_ble_eq_true rfl⟩) hP rfl rfl rfl rfl hl.1 rfl rfl (Nat.le_of_ble_eq_true rfl) (zD_g DX6_isHeard 3 rfl) ⟨Nat.zero_le _, Nat.zero_le _⟩ ?_
  refine lv_aload_n hx hb (zD_g DX6_isHeard 4 rfl) rfl (lv_at hl 0 rfl) ?_
  refine va_get (D := D) (ci := 5) (v := .ref (q 1)) (C := RX6) (T := TX6) (N := 19) hx hb hts in6_isHeard_6 hown hK.1 hP 0 rfl rfl 0 (by decide) (hts _ (List.mem_of_getElem? (i := 1) rfl)) (fun _ h9 => h9) rfl (zD_g DX6_isHeard 5 rfl) ?_
  refine lv_bipush (v := (74 : Int32)) hx hb (zD_g DX6_isHeard 6 rfl) (by decide) ?_
  refine lv_iconst (v := (3 : Int32)) hx hb (zD_g DX6_isHeard 7 rfl) (by decide) ?_
  refine lv_aload_n hx hb (zD_g DX6_isHeard 8 rfl) rfl (lv_at hl 0 rfl) ?_
  refine lv_iload_n hx hb (zD_g DX6_isHeard 9 rfl) rfl (lv_at hl 1 rfl) ?_
  obtain ⟨r3, hc4, hf⟩ := zb1_s hf
  refine z_Vp (As := [.int a_g]) (rest := [.int (3 : Int32), .int (74 : Int32), .ref (q 1), .int r1]) ⟨hx, hb, hml, hown, hts⟩ hK (c6_other (quiet := quiet) (mabove := mabove) (mbelow := mbelow) (typed := typed) (mat := mat) (mstart := mstart) (mtoken := mtoken) (mvalue := mvalue) (many := many) (book := book) (images := images) (mkept := mkept) (aside := aside) (refused := refused) (text := text) (items := items) (drawn := drawn) (row := row) (best := best) (q := q) hc4) (cwV 1 hts gX6_isHeard_X6_other rfl rfl rfl hd6_other ⟨Nat.le_of_ble_eq_true rfl, Nat.le_of_ble_eq_true rfl⟩) hP rfl rfl rfl rfl hl.1 rfl rfl (Nat.le_of_ble_eq_true rfl) (zD_g DX6_isHeard 10 rfl) ⟨Nat.zero_le _, Nat.zero_le _⟩ ?_
  refine lv_imul hx hb (zD_g DX6_isHeard 11 rfl) ?_
  refine lv_iadd hx hb (zD_g DX6_isHeard 12 rfl) ?_
  refine lv_iconst (v := (1 : Int32)) hx hb (zD_g DX6_isHeard 13 rfl) (by decide) ?_
  refine lv_iadd hx hb (zD_g DX6_isHeard 14 rfl) ?_
  obtain ⟨h5, hf⟩ := zg_s hf
  refine z_iald (k := (((74 : Int32) + ((3 : Int32) * r3)) + (1 : Int32)).toNatClampNeg) hx hb hK.1 hP 1 0 rfl rfl h5 rfl (zD_g DX6_isHeard 15 rfl) ?_
  refine lv_icmp_lt (tgt := 30) hx hb (zD_g DX6_isHeard 16 rfl) (by decide) (fun c6 => ?_) (fun c6 => ?_)
  · replace hf := z_t c6 hf
    refine lv_iconst (v := (0 : Int32)) hx hb (zD_g DX6_isHeard 19 rfl) (by decide) ?_
    cases hf
    exact hret _ _ rfl (zD_g DX6_isHeard 20 rfl)
  · replace hf := z_f c6 hf
    refine lv_iconst (v := (1 : Int32)) hx hb (zD_g DX6_isHeard 17 rfl) (by decide) ?_
    refine lv_goto (tgt := 31) hx hb (zD_g DX6_isHeard 18 rfl) (by decide) ?_
    cases hf
    exact hret _ _ rfl (zD_g DX6_isHeard 20 rfl)
theorem hd6_isHeard : yX6_isHeard.cls = RX6 ∧ yX6_isHeard.cls ≠ "java/lang/invoke/MethodHandle" ∧ yX6_isHeard.cls ≠ "java/lang/invoke/VarHandle" ∧ (parseMethodDescriptor yX6_isHeard.desc).map (fun d => d.parameters.length) = some 2 := by decide +kernel
abbrev dlX6_isHeavy : List (Nat × Instr × Nat) := [(0, .aload_n 0, 1), (1, .iload_n 1, 1), (2, .iload_n 2, 1), (3, .invokevirtual 191, 3), (6, .aload_n 0, 1), (7, .getfield 7, 3), (10, .bipush 74, 2), (12, .iconst 3, 1), (13, .aload_n 0, 1), (14, .iload_n 1, 1), (15, .invokevirtual 188, 3), (18, .imul, 1), (19, .iadd, 1), (20, .iconst 2, 1), (21, .iadd, 1), (22, .iaload, 1), (23, .if_icmp .le 7, 3), (26, .iconst 1, 1), (27, .goto 4, 3), (30, .iconst 0, 1), (31, .ireturn, 1)]
theorem DX6_isHeavy : zD cX6_isHeavy dlX6_isHeavy = true := by decide +kernel
set_option maxRecDepth 20000 in
theorem ggX6_isHeavy_X6_weighs : GoodIn wsX6_isHeavy wsX6_weighs := goodIn_r _ [6, 1, 7, 8, 9, 5, 10, 15, 16, 17, 18, 19, 20, 21, 22, 23, 24, 25, 26, 27, 28, 29, 30, 31, 32, 33] (by decide +kernel) (by decide +kernel)
set_option maxRecDepth 20000 in
theorem gX6_isHeavy_X6_weighs : GoodIn wsX6_isHeavy (wsV RX6 191 RX6 yX6_weighs wsX6_weighs) := goodIn_app (goodIn_of _ (by decide +kernel)) ggX6_isHeavy_X6_weighs
set_option maxRecDepth 20000 in
theorem ggX6_isHeavy_X6_other : GoodIn wsX6_isHeavy wsX6_other := goodIn_r _ [14, 1, 15, 16, 17, 18, 19, 20, 21, 22, 23, 24, 25, 26, 27, 28, 29, 30, 31, 32, 33] (by decide +kernel) (by decide +kernel)
set_option maxRecDepth 20000 in
theorem gX6_isHeavy_X6_other : GoodIn wsX6_isHeavy (wsV RX6 188 RX6 yX6_other wsX6_other) := goodIn_app (goodIn_of _ (by decide +kernel)) ggX6_isHeavy_X6_other
def f6_isHeavy (book : Nat → Int32) (a_g : Int32) (a_set : Int32) : Option (Int32) := zb1 (f6_weighs book a_g a_set) (fun r1 => zb1 (f6_other book a_g) (fun r3 => zg (((74 : Int32) + ((3 : Int32) * r3)) + (2 : Int32)) 230 (if r1 ≤ (book (((74 : Int32) + ((3 : Int32) * r3)) + (2 : Int32)).toNatClampNeg) then some (0 : Int32) else some (1 : Int32))))
abbrev rm6_isHeavy : Room := { frames := 2, cells := 0, slots := 0, locals := 49 }
theorem in6_isHeavy_6 : ∀ w ∈ wsX60, w ∈ wsX6_isHeavy := fun w h => List.mem_cons_of_mem _ (List.mem_append_right _ h)
set_option maxHeartbeats 4000000 in
set_option maxRecDepth 100000 in
theorem c6_isHeavy {l : Launch} {D : va_G} {cI cZ cB : ClassId} {q : Nat → Nat} {quiet : Int32} {mabove : Int64} {mbelow : Int64} {typed : Int32} {mat : Int32} {mstart : Int32} {mtoken : Int32} {mvalue : Int32} {many : Int32} {book : Nat → Int32} {images : Nat → Int32} {mkept : Nat → Int32} {aside : Nat → Int32} {refused : Nat → Int32} {text : Nat → Int32} {items : Nat → Int32} {drawn : Nat → Int32} {row : Nat → Int32} {best : Nat → Int32} {a_g : Int32} {a_set : Int32} {r : Int32}  (hf : f6_isHeavy book a_g a_set = some r) : Met l yX6_isHeavy wsX6_isHeavy rm6_isHeavy (zPp D cI cZ cB [.ref (q 0), .int a_g, .int a_set] (cMod cI cZ q quiet mabove mbelow typed mat mstart mtoken mvalue many book images mkept aside refused text items drawn row best)) (zQp (some (.int r))) 0 0 (fun _ => False) := by
  unfold f6_isHeavy at hf
  refine z_pureZ RX6 (by decide +kernel) rfl rfl (Nat.le_of_ble_eq_true rfl) ?_
  intro p e s m args below meth c Q ls hx hb hml hown hts hK hP hret hl
  have hl : lv_has ls 3 [(0, .ref (q 0)), (1, .int a_g), (2, .int a_set)] := hl
  refine lv_aload_n hx hb (zD_g DX6_isHeavy 0 rfl) rfl (lv_at hl 0 rfl) ?_
  refine lv_iload_n hx hb (zD_g DX6_isHeavy 1 rfl) rfl (lv_at hl 1 rfl) ?_
  refine lv_iload_n hx hb (zD_g DX6_isHeavy 2 rfl) rfl (lv_at hl 2 rfl) ?_
  obtain ⟨r1, hc2, hf⟩ := zb1_s hf
  refine z_Vp (As := [.int a_g, .int a_set]) (rest := []) ⟨hx, hb, hml, hown, hts⟩ hK (c6_weighs (quiet := quiet) (mabove := mabove) (mbelow := mbelow) (typed := typed) (mat := mat) (mstart := mstart) (mtoken := mtoken) (mvalue := mvalue) (many := many) (book := book) (images := images) (mkept := mkept) (aside := aside) (refused := refused) (text := text) (items := items) (drawn := drawn) (row := row) (best := best) (q := q) hc2) (cwV 2 hts gX6_isHeavy_X6_weighs rfl rfl rfl hd6_weighs ⟨Nat.le_of_ble_eq_true rfl, Nat.le_of_ble_eq_true rfl⟩) hP rfl rfl rfl rfl hl.1 rfl rfl (Nat.le_of_ble_eq_true rfl) (zD_g DX6_isHeavy 3 rfl) ⟨Nat.zero_le _, Nat.zero_le _⟩ ?_
  refine lv_aload_n hx hb (zD_g DX6_isHeavy 4 rfl) rfl (lv_at hl 0 rfl) ?_
  refine va_get (D := D) (ci := 5) (v := .ref (q 1)) (C := RX6) (T := TX6) (N := 19) hx hb hts in6_isHeavy_6 hown hK.1 hP 0 rfl rfl 0 (by decide) (hts _ (List.mem_of_getElem? (i := 1) rfl)) (fun _ h9 => h9) rfl (zD_g DX6_isHeavy 5 rfl) ?_
  refine lv_bipush (v := (74 : Int32)) hx hb (zD_g DX6_isHeavy 6 rfl) (by decide) ?_
  refine lv_iconst (v := (3 : Int32)) hx hb (zD_g DX6_isHeavy 7 rfl) (by decide) ?_
  refine lv_aload_n hx hb (zD_g DX6_isHeavy 8 rfl) rfl (lv_at hl 0 rfl) ?_
  refine lv_iload_n hx hb (zD_g DX6_isHeavy 9 rfl) rfl (lv_at hl 1 rfl) ?_
  obtain ⟨r3, hc4, hf⟩ := zb1_s hf
  refine z_Vp (As := [.int a_g]) (rest := [.int (3 : Int32), .int (74 : Int32), .ref (q 1), .int r1]) ⟨hx, hb, hml, hown, hts⟩ hK (c6_other (quiet := quiet) (mabove := mabove) (mbelow := mbelow) (typed := typed) (mat := mat) (mstart := mstart) (mtoken := mtoken) (mvalue := mvalue) (many := many) (book := book) (images := images) (mkept := mkept) (aside := aside) (refused := refused) (text := text) (items := items) (drawn := drawn) (row := row) (best := best) (q := q) hc4) (cwV 1 hts gX6_isHeavy_X6_other rfl rfl rfl hd6_other ⟨Nat.le_of_ble_eq_true rfl, Nat.le_of_ble_eq_true rfl⟩) hP rfl rfl rfl rfl hl.1 rfl rfl (Nat.le_of_ble_eq_true rfl) (zD_g DX6_isHeavy 10 rfl) ⟨Nat.zero_le _, Nat.zero_le _⟩ ?_
  refine lv_imul hx hb (zD_g DX6_isHeavy 11 rfl) ?_
  refine lv_iadd hx hb (zD_g DX6_isHeavy 12 rfl) ?_
  refine lv_iconst (v := (2 : Int32)) hx hb (zD_g DX6_isHeavy 13 rfl) (by decide) ?_
  refine lv_iadd hx hb (zD_g DX6_isHeavy 14 rfl) ?_
  obtain ⟨h5, hf⟩ := zg_s hf
  refine z_iald (k := (((74 : Int32) + ((3 : Int32) * r3)) + (2 : Int32)).toNatClampNeg) hx hb hK.1 hP 1 0 rfl rfl h5 rfl (zD_g DX6_isHeavy 15 rfl) ?_
  refine lv_icmp_le (tgt := 30) hx hb (zD_g DX6_isHeavy 16 rfl) (by decide) (fun c6 => ?_) (fun c6 => ?_)
  · replace hf := z_t c6 hf
    refine lv_iconst (v := (0 : Int32)) hx hb (zD_g DX6_isHeavy 19 rfl) (by decide) ?_
    cases hf
    exact hret _ _ rfl (zD_g DX6_isHeavy 20 rfl)
  · replace hf := z_f c6 hf
    refine lv_iconst (v := (1 : Int32)) hx hb (zD_g DX6_isHeavy 17 rfl) (by decide) ?_
    refine lv_goto (tgt := 31) hx hb (zD_g DX6_isHeavy 18 rfl) (by decide) ?_
    cases hf
    exact hret _ _ rfl (zD_g DX6_isHeavy 20 rfl)
theorem hd6_isHeavy : yX6_isHeavy.cls = RX6 ∧ yX6_isHeavy.cls ≠ "java/lang/invoke/MethodHandle" ∧ yX6_isHeavy.cls ≠ "java/lang/invoke/VarHandle" ∧ (parseMethodDescriptor yX6_isHeavy.desc).map (fun d => d.parameters.length) = some 2 := by decide +kernel
abbrev dlX6_passes : List (Nat × Instr × Nat) := [(0, .aload_n 0, 1), (1, .getfield 7, 3), (4, .bipush 56, 2), (6, .iload_n 1, 1), (7, .iadd, 1), (8, .iaload, 1), (9, .aload_n 0, 1), (10, .getfield 7, 3), (13, .bipush 74, 2), (15, .iconst 3, 1), (16, .aload_n 0, 1), (17, .iload_n 1, 1), (18, .invokevirtual 188, 3), (21, .imul, 1), (22, .iadd, 1), (23, .iaload, 1), (24, .if_icmp .gt 25, 3), (27, .aload_n 0, 1), (28, .iload_n 1, 1), (29, .iload_n 2, 1), (30, .invokevirtual 194, 3), (33, .ifCond .ne 16, 3), (36, .aload_n 0, 1), (37, .iload_n 1, 1), (38, .iload_n 2, 1), (39, .invokevirtual 197, 3), (42, .ifCond .ne 7, 3), (45, .iconst 1, 1), (46, .goto 4, 3), (49, .iconst 0, 1), (50, .ireturn, 1)]
theorem DX6_passes : zD cX6_passes dlX6_passes = true := by decide +kernel
set_option maxRecDepth 20000 in
theorem ggX6_passes_X6_other : GoodIn wsX6_passes wsX6_other := goodIn_r _ [6, 1, 27, 28, 29, 30, 31, 32, 33, 34, 35, 36, 37, 38, 39, 40, 41, 42, 43, 44, 45] (by decide +kernel) (by decide +kernel)
set_option maxRecDepth 20000 in
theorem gX6_passes_X6_other : GoodIn wsX6_passes (wsV RX6 188 RX6 yX6_other wsX6_other) := goodIn_app (goodIn_of _ (by decide +kernel)) ggX6_passes_X6_other
set_option maxRecDepth 20000 in
theorem ggX6_passes_X6_isHeard : GoodIn wsX6_passes wsX6_isHeard := goodIn_r _ [10, 1, 11, 12, 13, 5, 14, 15, 16, 17, 18, 2, 3, 4, 6, 27, 28, 29, 30, 31, 32, 33, 34, 35, 36, 37, 38, 39, 40, 41, 42, 43, 44, 45] (by decide +kernel) (by decide +kernel)
set_option maxRecDepth 20000 in
theorem gX6_passes_X6_isHeard : GoodIn wsX6_passes (wsV RX6 194 RX6 yX6_isHeard wsX6_isHeard) := goodIn_app (goodIn_of _ (by decide +kernel)) ggX6_passes_X6_isHeard
set_option maxRecDepth 20000 in
theorem ggX6_passes_X6_isHeavy : GoodIn wsX6_passes wsX6_isHeavy := goodIn_r _ [22, 1, 23, 24, 25, 5, 26, 15, 16, 17, 18, 2, 3, 4, 6, 27, 28, 29, 30, 31, 32, 33, 34, 35, 36, 37, 38, 39, 40, 41, 42, 43, 44, 45] (by decide +kernel) (by decide +kernel)
set_option maxRecDepth 20000 in
theorem gX6_passes_X6_isHeavy : GoodIn wsX6_passes (wsV RX6 197 RX6 yX6_isHeavy wsX6_isHeavy) := goodIn_app (goodIn_of _ (by decide +kernel)) ggX6_passes_X6_isHeavy
def f6_passes (book : Nat → Int32) (a_g : Int32) (a_set : Int32) : Option (Int32) := zg ((56 : Int32) + a_g) 230 (zb1 (f6_other book a_g) (fun r2 => zg ((74 : Int32) + ((3 : Int32) * r2)) 230 (if (book ((74 : Int32) + ((3 : Int32) * r2)).toNatClampNeg) < (book ((56 : Int32) + a_g).toNatClampNeg) then some (0 : Int32) else zb1 (f6_isHeard book a_g a_set) (fun r6 => if r6 = 0 then zb1 (f6_isHeavy book a_g a_set) (fun r9 => if r9 = 0 then some (1 : Int32) else some (0 : Int32)) else some (0 : Int32)))))
abbrev rm6_passes : Room := { frames := 3, cells := 0, slots := 0, locals := 71 }
theorem in6_passes_6 : ∀ w ∈ wsX60, w ∈ wsX6_passes := fun w h => List.mem_cons_of_mem _ (List.mem_append_right _ h)
set_option maxHeartbeats 4000000 in
set_option maxRecDepth 100000 in
theorem c6_passes {l : Launch} {D : va_G} {cI cZ cB : ClassId} {q : Nat → Nat} {quiet : Int32} {mabove : Int64} {mbelow : Int64} {typed : Int32} {mat : Int32} {mstart : Int32} {mtoken : Int32} {mvalue : Int32} {many : Int32} {book : Nat → Int32} {images : Nat → Int32} {mkept : Nat → Int32} {aside : Nat → Int32} {refused : Nat → Int32} {text : Nat → Int32} {items : Nat → Int32} {drawn : Nat → Int32} {row : Nat → Int32} {best : Nat → Int32} {a_g : Int32} {a_set : Int32} {r : Int32}  (hf : f6_passes book a_g a_set = some r) : Met l yX6_passes wsX6_passes rm6_passes (zPp D cI cZ cB [.ref (q 0), .int a_g, .int a_set] (cMod cI cZ q quiet mabove mbelow typed mat mstart mtoken mvalue many book images mkept aside refused text items drawn row best)) (zQp (some (.int r))) 0 0 (fun _ => False) := by
  unfold f6_passes at hf
  refine z_pureZ RX6 (by decide +kernel) rfl rfl (Nat.le_of_ble_eq_true rfl) ?_
  intro p e s m args below meth c Q ls hx hb hml hown hts hK hP hret hl
  have hl : lv_has ls 3 [(0, .ref (q 0)), (1, .int a_g), (2, .int a_set)] := hl
  refine lv_aload_n hx hb (zD_g DX6_passes 0 rfl) rfl (lv_at hl 0 rfl) ?_
  refine va_get (D := D) (ci := 5) (v := .ref (q 1)) (C := RX6) (T := TX6) (N := 19) hx hb hts in6_passes_6 hown hK.1 hP 0 rfl rfl 0 (by decide) (hts _ (List.mem_of_getElem? (i := 1) rfl)) (fun _ h9 => h9) rfl (zD_g DX6_passes 1 rfl) ?_
  refine lv_bipush (v := (56 : Int32)) hx hb (zD_g DX6_passes 2 rfl) (by decide) ?_
  refine lv_iload_n hx hb (zD_g DX6_passes 3 rfl) rfl (lv_at hl 1 rfl) ?_
  refine lv_iadd hx hb (zD_g DX6_passes 4 rfl) ?_
  obtain ⟨h1, hf⟩ := zg_s hf
  refine z_iald (k := ((56 : Int32) + a_g).toNatClampNeg) hx hb hK.1 hP 1 0 rfl rfl h1 rfl (zD_g DX6_passes 5 rfl) ?_
  refine lv_aload_n hx hb (zD_g DX6_passes 6 rfl) rfl (lv_at hl 0 rfl) ?_
  refine va_get (D := D) (ci := 5) (v := .ref (q 1)) (C := RX6) (T := TX6) (N := 19) hx hb hts in6_passes_6 hown hK.1 hP 0 rfl rfl 0 (by decide) (hts _ (List.mem_of_getElem? (i := 1) rfl)) (fun _ h9 => h9) rfl (zD_g DX6_passes 7 rfl) ?_
  refine lv_bipush (v := (74 : Int32)) hx hb (zD_g DX6_passes 8 rfl) (by decide) ?_
  refine lv_iconst (v := (3 : Int32)) hx hb (zD_g DX6_passes 9 rfl) (by decide) ?_
  refine lv_aload_n hx hb (zD_g DX6_passes 10 rfl) rfl (lv_at hl 0 rfl) ?_
  refine lv_iload_n hx hb (zD_g DX6_passes 11 rfl) rfl (lv_at hl 1 rfl) ?_
  obtain ⟨r2, hc3, hf⟩ := zb1_s hf
  refine z_Vp (As := [.int a_g]) (rest := [.int (3 : Int32), .int (74 : Int32), .ref (q 1), .int (book ((56 : Int32) + a_g).toNatClampNeg)]) ⟨hx, hb, hml, hown, hts⟩ hK (c6_other (quiet := quiet) (mabove := mabove) (mbelow := mbelow) (typed := typed) (mat := mat) (mstart := mstart) (mtoken := mtoken) (mvalue := mvalue) (many := many) (book := book) (images := images) (mkept := mkept) (aside := aside) (refused := refused) (text := text) (items := items) (drawn := drawn) (row := row) (best := best) (q := q) hc3) (cwV 1 hts gX6_passes_X6_other rfl rfl rfl hd6_other ⟨Nat.le_of_ble_eq_true rfl, Nat.le_of_ble_eq_true rfl⟩) hP rfl rfl rfl rfl hl.1 rfl rfl (Nat.le_of_ble_eq_true rfl) (zD_g DX6_passes 12 rfl) ⟨Nat.zero_le _, Nat.zero_le _⟩ ?_
  refine lv_imul hx hb (zD_g DX6_passes 13 rfl) ?_
  refine lv_iadd hx hb (zD_g DX6_passes 14 rfl) ?_
  obtain ⟨h4, hf⟩ := zg_s hf
  refine z_iald (k := ((74 : Int32) + ((3 : Int32) * r2)).toNatClampNeg) hx hb hK.1 hP 1 0 rfl rfl h4 rfl (zD_g DX6_passes 15 rfl) ?_
  refine lv_icmp_gt (tgt := 49) hx hb (zD_g DX6_passes 16 rfl) (by decide) (fun c5 => ?_) (fun c5 => ?_)
  · replace hf := z_t c5 hf
    refine lv_iconst (v := (0 : Int32)) hx hb (zD_g DX6_passes 29 rfl) (by decide) ?_
    cases hf
    exact hret _ _ rfl (zD_g DX6_passes 30 rfl)
  · replace hf := z_f c5 hf
    refine lv_aload_n hx hb (zD_g DX6_passes 17 rfl) rfl (lv_at hl 0 rfl) ?_
    refine lv_iload_n hx hb (zD_g DX6_passes 18 rfl) rfl (lv_at hl 1 rfl) ?_
    refine lv_iload_n hx hb (zD_g DX6_passes 19 rfl) rfl (lv_at hl 2 rfl) ?_
    obtain ⟨r6, hc7, hf⟩ := zb1_s hf
    refine z_Vp (As := [.int a_g, .int a_set]) (rest := []) ⟨hx, hb, hml, hown, hts⟩ hK (c6_isHeard (quiet := quiet) (mabove := mabove) (mbelow := mbelow) (typed := typed) (mat := mat) (mstart := mstart) (mtoken := mtoken) (mvalue := mvalue) (many := many) (book := book) (images := images) (mkept := mkept) (aside := aside) (refused := refused) (text := text) (items := items) (drawn := drawn) (row := row) (best := best) (q := q) hc7) (cwV 2 hts gX6_passes_X6_isHeard rfl rfl rfl hd6_isHeard ⟨Nat.le_of_ble_eq_true rfl, Nat.le_of_ble_eq_true rfl⟩) hP rfl rfl rfl rfl hl.1 rfl rfl (Nat.le_of_ble_eq_true rfl) (zD_g DX6_passes 20 rfl) ⟨Nat.zero_le _, Nat.zero_le _⟩ ?_
    refine lv_if_ne (tgt := 49) hx hb (zD_g DX6_passes 21 rfl) (by decide) (fun c8 => ?_) (fun c8 => ?_)
    · replace hf := z_f c8 hf
      refine lv_iconst (v := (0 : Int32)) hx hb (zD_g DX6_passes 29 rfl) (by decide) ?_
      cases hf
      exact hret _ _ rfl (zD_g DX6_passes 30 rfl)
    · replace hf := z_t c8 hf
      refine lv_aload_n hx hb (zD_g DX6_passes 22 rfl) rfl (lv_at hl 0 rfl) ?_
      refine lv_iload_n hx hb (zD_g DX6_passes 23 rfl) rfl (lv_at hl 1 rfl) ?_
      refine lv_iload_n hx hb (zD_g DX6_passes 24 rfl) rfl (lv_at hl 2 rfl) ?_
      obtain ⟨r9, hc10, hf⟩ := zb1_s hf
      refine z_Vp (As := [.int a_g, .int a_set]) (rest := []) ⟨hx, hb, hml, hown, hts⟩ hK (c6_isHeavy (quiet := quiet) (mabove := mabove) (mbelow := mbelow) (typed := typed) (mat := mat) (mstart := mstart) (mtoken := mtoken) (mvalue := mvalue) (many := many) (book := book) (images := images) (mkept := mkept) (aside := aside) (refused := refused) (text := text) (items := items) (drawn := drawn) (row := row) (best := best) (q := q) hc10) (cwV 2 hts gX6_passes_X6_isHeavy rfl rfl rfl hd6_isHeavy ⟨Nat.le_of_ble_eq_true rfl, Nat.le_of_ble_eq_true rfl⟩) hP rfl rfl rfl rfl hl.1 rfl rfl (Nat.le_of_ble_eq_true rfl) (zD_g DX6_passes 25 rfl) ⟨Nat.zero_le _, Nat.zero_le _⟩ ?_
      refine lv_if_ne (tgt := 49) hx hb (zD_g DX6_passes 26 rfl) (by decide) (fun c11 => ?_) (fun c11 => ?_)
      · replace hf := z_f c11 hf
        refine lv_iconst (v := (0 : Int32)) hx hb (zD_g DX6_passes 29 rfl) (by decide) ?_
        cases hf
        exact hret _ _ rfl (zD_g DX6_passes 30 rfl)
      · replace hf := z_t c11 hf
        refine lv_iconst (v := (1 : Int32)) hx hb (zD_g DX6_passes 27 rfl) (by decide) ?_
        refine lv_goto (tgt := 50) hx hb (zD_g DX6_passes 28 rfl) (by decide) ?_
        cases hf
        exact hret _ _ rfl (zD_g DX6_passes 30 rfl)
theorem hd6_passes : yX6_passes.cls = RX6 ∧ yX6_passes.cls ≠ "java/lang/invoke/MethodHandle" ∧ yX6_passes.cls ≠ "java/lang/invoke/VarHandle" ∧ (parseMethodDescriptor yX6_passes.desc).map (fun d => d.parameters.length) = some 2 := by decide +kernel
abbrev dlX6_loses : List (Nat × Instr × Nat) := [(0, .aload_n 0, 1), (1, .iload_n 1, 1), (2, .iload_n 2, 1), (3, .invokevirtual 200, 3), (6, .aload_n 0, 1), (7, .getfield 7, 3), (10, .bipush 80, 2), (12, .bipush 6, 2), (14, .aload_n 0, 1), (15, .iload_n 1, 1), (16, .invokevirtual 188, 3), (19, .imul, 1), (20, .iadd, 1), (21, .iload_n 3, 1), (22, .iadd, 1), (23, .iaload, 1), (24, .isub, 1), (25, .istore 4, 2), (27, .iload 4, 2), (29, .ifCond .ge 7, 3), (32, .iconst 0, 1), (33, .goto 5, 3), (36, .iload 4, 2), (38, .ireturn, 1)]
theorem DX6_loses : zD cX6_loses dlX6_loses = true := by decide +kernel
set_option maxRecDepth 20000 in
theorem ggX6_loses_X6_harms : GoodIn wsX6_loses wsX6_harms := goodIn_r _ [6, 1, 7, 8, 9, 5, 10, 15, 16, 17, 18, 19, 20, 21, 22, 23, 24, 25, 26, 27, 28, 29, 30, 31, 32, 33] (by decide +kernel) (by decide +kernel)
set_option maxRecDepth 20000 in
theorem gX6_loses_X6_harms : GoodIn wsX6_loses (wsV RX6 200 RX6 yX6_harms wsX6_harms) := goodIn_app (goodIn_of _ (by decide +kernel)) ggX6_loses_X6_harms
set_option maxRecDepth 20000 in
theorem ggX6_loses_X6_other : GoodIn wsX6_loses wsX6_other := goodIn_r _ [14, 1, 15, 16, 17, 18, 19, 20, 21, 22, 23, 24, 25, 26, 27, 28, 29, 30, 31, 32, 33] (by decide +kernel) (by decide +kernel)
set_option maxRecDepth 20000 in
theorem gX6_loses_X6_other : GoodIn wsX6_loses (wsV RX6 188 RX6 yX6_other wsX6_other) := goodIn_app (goodIn_of _ (by decide +kernel)) ggX6_loses_X6_other
def f6_loses (book : Nat → Int32) (a_g : Int32) (a_set : Int32) (a_hour : Int32) : Option (Int32) := zb1 (f6_harms book a_g a_set) (fun r1 => zb1 (f6_other book a_g) (fun r3 => zg (((80 : Int32) + ((6 : Int32) * r3)) + a_hour) 230 (zl ((r1 - (book (((80 : Int32) + ((6 : Int32) * r3)) + a_hour).toNatClampNeg))) (fun x6 => if 0 ≤ x6 then some x6 else some (0 : Int32)))))
abbrev rm6_loses : Room := { frames := 2, cells := 0, slots := 0, locals := 49 }
theorem in6_loses_6 : ∀ w ∈ wsX60, w ∈ wsX6_loses := fun w h => List.mem_cons_of_mem _ (List.mem_append_right _ h)
set_option maxHeartbeats 4000000 in
set_option maxRecDepth 100000 in
theorem c6_loses {l : Launch} {D : va_G} {cI cZ cB : ClassId} {q : Nat → Nat} {quiet : Int32} {mabove : Int64} {mbelow : Int64} {typed : Int32} {mat : Int32} {mstart : Int32} {mtoken : Int32} {mvalue : Int32} {many : Int32} {book : Nat → Int32} {images : Nat → Int32} {mkept : Nat → Int32} {aside : Nat → Int32} {refused : Nat → Int32} {text : Nat → Int32} {items : Nat → Int32} {drawn : Nat → Int32} {row : Nat → Int32} {best : Nat → Int32} {a_g : Int32} {a_set : Int32} {a_hour : Int32} {r : Int32}  (hf : f6_loses book a_g a_set a_hour = some r) : Met l yX6_loses wsX6_loses rm6_loses (zPp D cI cZ cB [.ref (q 0), .int a_g, .int a_set, .int a_hour] (cMod cI cZ q quiet mabove mbelow typed mat mstart mtoken mvalue many book images mkept aside refused text items drawn row best)) (zQp (some (.int r))) 0 0 (fun _ => False) := by
  unfold f6_loses at hf
  refine z_pureI RX6 (by decide +kernel) rfl rfl (Nat.le_of_ble_eq_true rfl) ?_
  intro p e s m args below meth c Q ls hx hb hml hown hts hK hP hret hl
  have hl : lv_has ls 5 [(0, .ref (q 0)), (1, .int a_g), (2, .int a_set), (3, .int a_hour)] := hl
  refine lv_aload_n hx hb (zD_g DX6_loses 0 rfl) rfl (lv_at hl 0 rfl) ?_
  refine lv_iload_n hx hb (zD_g DX6_loses 1 rfl) rfl (lv_at hl 1 rfl) ?_
  refine lv_iload_n hx hb (zD_g DX6_loses 2 rfl) rfl (lv_at hl 2 rfl) ?_
  obtain ⟨r1, hc2, hf⟩ := zb1_s hf
  refine z_Vp (As := [.int a_g, .int a_set]) (rest := []) ⟨hx, hb, hml, hown, hts⟩ hK (c6_harms (quiet := quiet) (mabove := mabove) (mbelow := mbelow) (typed := typed) (mat := mat) (mstart := mstart) (mtoken := mtoken) (mvalue := mvalue) (many := many) (book := book) (images := images) (mkept := mkept) (aside := aside) (refused := refused) (text := text) (items := items) (drawn := drawn) (row := row) (best := best) (q := q) hc2) (cwV 2 hts gX6_loses_X6_harms rfl rfl rfl hd6_harms ⟨Nat.le_of_ble_eq_true rfl, Nat.le_of_ble_eq_true rfl⟩) hP rfl rfl rfl rfl hl.1 rfl rfl (Nat.le_of_ble_eq_true rfl) (zD_g DX6_loses 3 rfl) ⟨Nat.zero_le _, Nat.zero_le _⟩ ?_
  refine lv_aload_n hx hb (zD_g DX6_loses 4 rfl) rfl (lv_at hl 0 rfl) ?_
  refine va_get (D := D) (ci := 5) (v := .ref (q 1)) (C := RX6) (T := TX6) (N := 19) hx hb hts in6_loses_6 hown hK.1 hP 0 rfl rfl 0 (by decide) (hts _ (List.mem_of_getElem? (i := 1) rfl)) (fun _ h9 => h9) rfl (zD_g DX6_loses 5 rfl) ?_
  refine lv_bipush (v := (80 : Int32)) hx hb (zD_g DX6_loses 6 rfl) (by decide) ?_
  refine lv_bipush (v := (6 : Int32)) hx hb (zD_g DX6_loses 7 rfl) (by decide) ?_
  refine lv_aload_n hx hb (zD_g DX6_loses 8 rfl) rfl (lv_at hl 0 rfl) ?_
  refine lv_iload_n hx hb (zD_g DX6_loses 9 rfl) rfl (lv_at hl 1 rfl) ?_
  obtain ⟨r3, hc4, hf⟩ := zb1_s hf
  refine z_Vp (As := [.int a_g]) (rest := [.int (6 : Int32), .int (80 : Int32), .ref (q 1), .int r1]) ⟨hx, hb, hml, hown, hts⟩ hK (c6_other (quiet := quiet) (mabove := mabove) (mbelow := mbelow) (typed := typed) (mat := mat) (mstart := mstart) (mtoken := mtoken) (mvalue := mvalue) (many := many) (book := book) (images := images) (mkept := mkept) (aside := aside) (refused := refused) (text := text) (items := items) (drawn := drawn) (row := row) (best := best) (q := q) hc4) (cwV 1 hts gX6_loses_X6_other rfl rfl rfl hd6_other ⟨Nat.le_of_ble_eq_true rfl, Nat.le_of_ble_eq_true rfl⟩) hP rfl rfl rfl rfl hl.1 rfl rfl (Nat.le_of_ble_eq_true rfl) (zD_g DX6_loses 10 rfl) ⟨Nat.zero_le _, Nat.zero_le _⟩ ?_
  refine lv_imul hx hb (zD_g DX6_loses 11 rfl) ?_
  refine lv_iadd hx hb (zD_g DX6_loses 12 rfl) ?_
  refine lv_iload_n hx hb (zD_g DX6_loses 13 rfl) rfl (lv_at hl 3 rfl) ?_
  refine lv_iadd hx hb (zD_g DX6_loses 14 rfl) ?_
  obtain ⟨h5, hf⟩ := zg_s hf
  refine z_iald (k := (((80 : Int32) + ((6 : Int32) * r3)) + a_hour).toNatClampNeg) hx hb hK.1 hP 1 0 rfl rfl h5 rfl (zD_g DX6_loses 15 rfl) ?_
  refine lv_isub hx hb (zD_g DX6_loses 16 rfl) ?_
  refine lv_topi (fun x6 ex6 => ?_)
  replace hf := zl_s hf x6 ex6
  refine lv_istore (lv' := [(4, .int x6), (0, .ref (q 0)), (1, .int a_g), (2, .int a_set), (3, .int a_hour)]) hx hb (zD_g DX6_loses 17 rfl) hl (by decide) rfl (fun ls hl => ?_)
  refine lv_iload hx hb (zD_g DX6_loses 18 rfl) (lv_at hl 0 rfl) ?_
  refine lv_if_ge (tgt := 36) hx hb (zD_g DX6_loses 19 rfl) (by decide) (fun c7 => ?_) (fun c7 => ?_)
  · replace hf := z_t c7 hf
    refine lv_iload hx hb (zD_g DX6_loses 22 rfl) (lv_at hl 0 rfl) ?_
    cases hf
    exact hret _ _ (zD_g DX6_loses 23 rfl)
  · replace hf := z_f c7 hf
    refine lv_iconst (v := (0 : Int32)) hx hb (zD_g DX6_loses 20 rfl) (by decide) ?_
    refine lv_goto (tgt := 38) hx hb (zD_g DX6_loses 21 rfl) (by decide) ?_
    cases hf
    exact hret _ _ (zD_g DX6_loses 23 rfl)
theorem hd6_loses : yX6_loses.cls = RX6 ∧ yX6_loses.cls ≠ "java/lang/invoke/MethodHandle" ∧ yX6_loses.cls ≠ "java/lang/invoke/VarHandle" ∧ (parseMethodDescriptor yX6_loses.desc).map (fun d => d.parameters.length) = some 3 := by decide +kernel
abbrev dlX6_sends : List (Nat × Instr × Nat) := [(0, .aload_n 0, 1), (1, .iload_n 1, 1), (2, .invokevirtual 87, 3), (5, .istore_n 3, 1), (6, .aload_n 0, 1), (7, .iload_n 1, 1), (8, .invokevirtual 188, 3), (11, .istore 4, 2), (13, .aload_n 0, 1), (14, .iload_n 1, 1), (15, .iload_n 3, 1), (16, .invokevirtual 203, 3), (19, .istore 5, 2), (21, .iload 5, 2), (23, .ifCond .eq 13, 3), (26, .aload_n 0, 1), (27, .iload_n 1, 1), (28, .iload_n 3, 1), (29, .iload_n 2, 1), (30, .invokevirtual 206, 3), (33, .goto 4, 3), (36, .iconst 1, 1), (37, .istore 6, 2), (39, .aload_n 0, 1), (40, .getfield 7, 3), (43, .bipush 92, 2), (45, .iload 4, 2), (47, .iadd, 1), (48, .dup2, 1), (49, .iaload, 1), (50, .iload 6, 2), (52, .iadd, 1), (53, .iastore, 1), (54, .iconst 0, 1), (55, .istore 7, 2), (57, .iload 7, 2), (59, .aload_n 0, 1), (60, .getfield 7, 3), (63, .iconst 0, 1), (64, .iaload, 1), (65, .if_icmp .ge 52, 3), (68, .iload 5, 2), (70, .ifCond .eq 47, 3), (73, .aload_n 0, 1), (74, .getfield 7, 3), (77, .bipush 36, 2), (79, .iload 7, 2), (81, .iadd, 1), (82, .aload_n 0, 1), (83, .getfield 7, 3), (86, .bipush 36, 2), (88, .iload 7, 2), (90, .iadd, 1), (91, .iaload, 1), (92, .iload_n 1, 1), (93, .if_icmp .ne 7, 3), (96, .iconst (-1), 1), (97, .goto 13, 3), (100, .aload_n 0, 1), (101, .getfield 7, 3), (104, .bipush 36, 2), (106, .iload 7, 2), (108, .iadd, 1), (109, .iaload, 1), (110, .iastore, 1), (111, .iinc 7 1, 3), (114, .goto (-57), 3), (117, .aload_n 0, 1), (118, .getfield 7, 3), (121, .bipush 68, 2), (123, .iload_n 1, 1), (124, .iadd, 1), (125, .iload 5, 2), (127, .ifCond .eq 8, 3), (130, .iload 4, 2), (132, .goto 12, 3), (135, .aload_n 0, 1), (136, .getfield 7, 3), (139, .bipush 68, 2), (141, .iload_n 1, 1), (142, .iadd, 1), (143, .iaload, 1), (144, .iastore, 1), (145, .aload_n 0, 1), (146, .getfield 7, 3), (149, .iconst 2, 1), (150, .dup2, 1), (151, .iaload, 1), (152, .iconst 1, 1), (153, .iadd, 1), (154, .iastore, 1), (155, .iload 5, 2), (157, .ifCond .eq 8, 3), (160, .iload 6, 2), (162, .goto 5, 3), (165, .bipush (-5), 2), (167, .ireturn, 1)]
theorem DX6_sends : zD cX6_sends dlX6_sends = true := by decide +kernel
set_option maxRecDepth 20000 in
theorem ggX6_sends_X6_thingsIn : GoodIn wsX6_sends wsX6_thingsIn := goodIn_r _ [6, 1, 43, 44, 45, 46, 47, 48, 49, 50, 51, 52, 53, 54, 55, 56, 57, 58, 59, 60, 61] (by decide +kernel) (by decide +kernel)
set_option maxRecDepth 20000 in
theorem gX6_sends_X6_thingsIn : GoodIn wsX6_sends (wsV RX6 87 RX6 yX6_thingsIn wsX6_thingsIn) := goodIn_app (goodIn_of _ (by decide +kernel)) ggX6_sends_X6_thingsIn
set_option maxRecDepth 20000 in
theorem ggX6_sends_X6_other : GoodIn wsX6_sends wsX6_other := goodIn_r _ [10, 1, 43, 44, 45, 46, 47, 48, 49, 50, 51, 52, 53, 54, 55, 56, 57, 58, 59, 60, 61] (by decide +kernel) (by decide +kernel)
set_option maxRecDepth 20000 in
theorem gX6_sends_X6_other : GoodIn wsX6_sends (wsV RX6 188 RX6 yX6_other wsX6_other) := goodIn_app (goodIn_of _ (by decide +kernel)) ggX6_sends_X6_other
set_option maxRecDepth 20000 in
theorem ggX6_sends_X6_passes : GoodIn wsX6_sends wsX6_passes := goodIn_r _ [14, 1, 7, 8, 9, 5, 10, 15, 16, 17, 18, 19, 20, 21, 22, 23, 24, 25, 26, 27, 28, 29, 30, 31, 32, 33, 34, 43, 44, 45, 46, 47, 48, 49, 50, 51, 52, 53, 54, 55, 56, 57, 58, 59, 60, 61] (by decide +kernel) (by decide +kernel)
set_option maxRecDepth 20000 in
theorem gX6_sends_X6_passes : GoodIn wsX6_sends (wsV RX6 203 RX6 yX6_passes wsX6_passes) := goodIn_app (goodIn_of _ (by decide +kernel)) ggX6_sends_X6_passes
set_option maxRecDepth 20000 in
theorem ggX6_sends_X6_loses : GoodIn wsX6_sends wsX6_loses := goodIn_r _ [38, 1, 39, 40, 41, 5, 42, 23, 24, 25, 26, 7, 8, 9, 10, 43, 44, 45, 46, 47, 48, 49, 50, 51, 52, 53, 54, 55, 56, 57, 58, 59, 60, 61] (by decide +kernel) (by decide +kernel)
set_option maxRecDepth 20000 in
theorem gX6_sends_X6_loses : GoodIn wsX6_sends (wsV RX6 206 RX6 yX6_loses wsX6_loses) := goodIn_app (goodIn_of _ (by decide +kernel)) ggX6_sends_X6_loses
def L6_sends_57 (k14 : (Nat → Int32) → Option (Int32 × (Nat → Int32)))  (a_g : Int32) (r5 : Int32) : Nat → Int32 → (Nat → Int32) → Option (Int32 × (Nat → Int32))
  | 0, _, _ => none
  | n14 + 1, y12, book_13 => if (book_13 0) ≤ y12 then k14 book_13 else if r5 = 0 then k14 book_13 else zg ((36 : Int32) + y12) 230 (if (book_13 ((36 : Int32) + y12).toNatClampNeg) = a_g then zg ((36 : Int32) + y12) 230 (L6_sends_57 k14 a_g r5 n14 (y12 + 1) (upd book_13 (((36 : Int32) + y12).toNatClampNeg) (-1 : Int32))) else zg ((36 : Int32) + y12) 230 (zl ((book_13 ((36 : Int32) + y12).toNatClampNeg)) (fun x20 => zg ((36 : Int32) + y12) 230 (L6_sends_57 k14 a_g r5 n14 (y12 + 1) (upd book_13 (((36 : Int32) + y12).toNatClampNeg) x20)))))
def f6_sends (book : Nat → Int32) (a_g : Int32) (a_hour : Int32) : Option (Int32 × (Nat → Int32)) := zb1 (f6_thingsIn book a_g) (fun r1 => zb1 (f6_other book a_g) (fun r3 => zb1 (f6_passes book a_g r1) (fun r5 => zb1 (if r5 = 0 then some (1 : Int32) else zb1 (f6_loses book a_g r1 a_hour) (fun r32 => some r32)) (fun v8 => zg ((92 : Int32) + r3) 230 (zl (((book ((92 : Int32) + r3).toNatClampNeg) + v8)) (fun x10 => zg ((92 : Int32) + r3) 230 (L6_sends_57 (fun book_23 => zb1 (if r5 = 0 then zg ((68 : Int32) + a_g) 230 (some (book_23 ((68 : Int32) + a_g).toNatClampNeg)) else some r3) (fun v25 => zg ((68 : Int32) + a_g) 230 (zl ((((upd book_23 (((68 : Int32) + a_g).toNatClampNeg) v25) 2) + (1 : Int32))) (fun x27 => if r5 = 0 then some ((-5 : Int32), (upd (upd book_23 (((68 : Int32) + a_g).toNatClampNeg) v25) 2 x27)) else some (v8, (upd (upd book_23 (((68 : Int32) + a_g).toNatClampNeg) v25) 2 x27)))))) a_g r5 FU (0 : Int32) (upd book (((92 : Int32) + r3).toNatClampNeg) x10))))))))
abbrev rm6_sends : Room := { frames := 4, cells := 0, slots := 0, locals := 93 }
theorem in6_sends_6 : ∀ w ∈ wsX60, w ∈ wsX6_sends := fun w h => List.mem_cons_of_mem _ (List.mem_append_right _ h)
set_option maxHeartbeats 4000000 in
set_option maxRecDepth 100000 in
theorem c6_sends {l : Launch} {D : va_G} {cI cZ cB : ClassId} {q : Nat → Nat} {sz : Nat} {quiet : Int32} {mabove : Int64} {mbelow : Int64} {typed : Int32} {mat : Int32} {mstart : Int32} {mtoken : Int32} {mvalue : Int32} {many : Int32} {book : Nat → Int32} {images : Nat → Int32} {mkept : Nat → Int32} {aside : Nat → Int32} {refused : Nat → Int32} {text : Nat → Int32} {items : Nat → Int32} {drawn : Nat → Int32} {row : Nat → Int32} {best : Nat → Int32} {a_g : Int32} {a_hour : Int32} {r : Int32} {d_book : Nat → Int32} (hf : f6_sends book a_g a_hour = some (r, d_book)) : Met l yX6_sends wsX6_sends rm6_sends (zPm D cI cZ cB [.ref (q 0), .int a_g, .int a_hour] sz (cMod cI cZ q quiet mabove mbelow typed mat mstart mtoken mvalue many book images mkept aside refused text items drawn row best)) (zQm D (some (.int r)) (cMod cI cZ q quiet mabove mbelow typed mat mstart mtoken mvalue many d_book images mkept aside refused text items drawn row best) (va_A (cMod cI cZ q quiet mabove mbelow typed mat mstart mtoken mvalue many book images mkept aside refused text items drawn row best) sz)) 0 0 (va_A (cMod cI cZ q quiet mabove mbelow typed mat mstart mtoken mvalue many book images mkept aside refused text items drawn row best) sz) := by
  unfold f6_sends at hf
  refine z_mutI RX6 (by decide +kernel) rfl rfl (Nat.le_of_ble_eq_true rfl) ?_
  intro p e s m args below meth c Q A ls hx hb hml hown hts hK hP hD hS hA hret hl
  have hl : lv_has ls 8 [(0, .ref (q 0)), (1, .int a_g), (2, .int a_hour)] := hl
  refine lv_aload_n hx hb (zD_g DX6_sends 0 rfl) rfl (lv_at hl 0 rfl) ?_
  refine lv_iload_n hx hb (zD_g DX6_sends 1 rfl) rfl (lv_at hl 1 rfl) ?_
  obtain ⟨r1, hc2, hf⟩ := zb1_s hf
  refine z_Vp (As := [.int a_g]) (rest := []) ⟨hx, hb, hml, hown, hts⟩ hK (c6_thingsIn (quiet := quiet) (mabove := mabove) (mbelow := mbelow) (typed := typed) (mat := mat) (mstart := mstart) (mtoken := mtoken) (mvalue := mvalue) (many := many) (book := book) (images := images) (mkept := mkept) (aside := aside) (refused := refused) (text := text) (items := items) (drawn := drawn) (row := row) (best := best) (q := q) hc2) (cwV 1 hts gX6_sends_X6_thingsIn rfl rfl rfl hd6_thingsIn ⟨Nat.le_of_ble_eq_true rfl, Nat.le_of_ble_eq_true rfl⟩) hP rfl rfl rfl rfl hl.1 rfl rfl (Nat.le_of_ble_eq_true rfl) (zD_g DX6_sends 2 rfl) ⟨Nat.zero_le _, Nat.zero_le _⟩ ?_
  refine lv_istore_n (lv' := [(3, .int r1), (0, .ref (q 0)), (1, .int a_g), (2, .int a_hour)]) hx hb (zD_g DX6_sends 3 rfl) rfl hl (by decide) rfl (fun ls hl => ?_)
  refine lv_aload_n hx hb (zD_g DX6_sends 4 rfl) rfl (lv_at hl 1 rfl) ?_
  refine lv_iload_n hx hb (zD_g DX6_sends 5 rfl) rfl (lv_at hl 2 rfl) ?_
  obtain ⟨r3, hc4, hf⟩ := zb1_s hf
  refine z_Vp (As := [.int a_g]) (rest := []) ⟨hx, hb, hml, hown, hts⟩ hK (c6_other (quiet := quiet) (mabove := mabove) (mbelow := mbelow) (typed := typed) (mat := mat) (mstart := mstart) (mtoken := mtoken) (mvalue := mvalue) (many := many) (book := book) (images := images) (mkept := mkept) (aside := aside) (refused := refused) (text := text) (items := items) (drawn := drawn) (row := row) (best := best) (q := q) hc4) (cwV 1 hts gX6_sends_X6_other rfl rfl rfl hd6_other ⟨Nat.le_of_ble_eq_true rfl, Nat.le_of_ble_eq_true rfl⟩) hP rfl rfl rfl rfl hl.1 rfl rfl (Nat.le_of_ble_eq_true rfl) (zD_g DX6_sends 6 rfl) ⟨Nat.zero_le _, Nat.zero_le _⟩ ?_
  refine lv_istore (lv' := [(4, .int r3), (3, .int r1), (0, .ref (q 0)), (1, .int a_g), (2, .int a_hour)]) hx hb (zD_g DX6_sends 7 rfl) hl (by decide) rfl (fun ls hl => ?_)
  refine lv_aload_n hx hb (zD_g DX6_sends 8 rfl) rfl (lv_at hl 2 rfl) ?_
  refine lv_iload_n hx hb (zD_g DX6_sends 9 rfl) rfl (lv_at hl 3 rfl) ?_
  refine lv_iload_n hx hb (zD_g DX6_sends 10 rfl) rfl (lv_at hl 1 rfl) ?_
  obtain ⟨r5, hc6, hf⟩ := zb1_s hf
  refine z_Vp (As := [.int a_g, .int r1]) (rest := []) ⟨hx, hb, hml, hown, hts⟩ hK (c6_passes (quiet := quiet) (mabove := mabove) (mbelow := mbelow) (typed := typed) (mat := mat) (mstart := mstart) (mtoken := mtoken) (mvalue := mvalue) (many := many) (book := book) (images := images) (mkept := mkept) (aside := aside) (refused := refused) (text := text) (items := items) (drawn := drawn) (row := row) (best := best) (q := q) hc6) (cwV 2 hts gX6_sends_X6_passes rfl rfl rfl hd6_passes ⟨Nat.le_of_ble_eq_true rfl, Nat.le_of_ble_eq_true rfl⟩) hP rfl rfl rfl rfl hl.1 rfl rfl (Nat.le_of_ble_eq_true rfl) (zD_g DX6_sends 11 rfl) ⟨Nat.zero_le _, Nat.zero_le _⟩ ?_
  refine lv_istore (lv' := [(5, .int r5), (4, .int r3), (3, .int r1), (0, .ref (q 0)), (1, .int a_g), (2, .int a_hour)]) hx hb (zD_g DX6_sends 12 rfl) hl (by decide) rfl (fun ls hl => ?_)
  refine lv_iload hx hb (zD_g DX6_sends 13 rfl) (lv_at hl 0 rfl) ?_
  obtain ⟨v8, hr31, hf⟩ := zb1_s hf
  have hJ31 : ∀ (H : Heap) (locs : List Loc), va_P D vwCl (cMod cI cZ q quiet mabove mbelow typed mat mstart mtoken mvalue many book images mkept aside refused text items drawn row best) H → va_D A (cMod cI cZ q quiet mabove mbelow typed mat mstart mtoken mvalue many book images mkept aside refused text items drawn row best) → va_S A s.heap H locs → ∀ (ls : Array Slot), lv_has ls 8 [(0, .ref (q 0)), (1, .int a_g), (4, .int r3), (5, .int r5)] → W p l e rm6_sends s m args below meth c H locs 0 0 Q (F0 m 37 ls [.int v8]) := by
    intro H locs hP hD hS ls hl
    refine lv_istore (lv' := [(6, .int v8), (0, .ref (q 0)), (1, .int a_g), (4, .int r3), (5, .int r5)]) hx hb (zD_g DX6_sends 22 rfl) hl (by decide) rfl (fun ls hl => ?_)
    refine lv_aload_n hx hb (zD_g DX6_sends 23 rfl) rfl (lv_at hl 1 rfl) ?_
    refine va_get (D := D) (ci := 5) (v := .ref (q 1)) (C := RX6) (T := TX6) (N := 19) hx hb hts in6_sends_6 hown hK.1 hP 0 rfl rfl 0 (by decide) (hts _ (List.mem_of_getElem? (i := 1) rfl)) (fun _ h9 => h9) rfl (zD_g DX6_sends 24 rfl) ?_
    refine lv_bipush (v := (92 : Int32)) hx hb (zD_g DX6_sends 25 rfl) (by decide) ?_
    refine lv_iload hx hb (zD_g DX6_sends 26 rfl) (lv_at hl 3 rfl) ?_
    refine lv_iadd hx hb (zD_g DX6_sends 27 rfl) ?_
    refine lv_dup2_11 hx hb (zD_g DX6_sends 28 rfl) rfl rfl ?_
    obtain ⟨h9, hf⟩ := zg_s hf
    refine z_iald (k := ((92 : Int32) + r3).toNatClampNeg) hx hb hK.1 hP 1 0 rfl rfl h9 rfl (zD_g DX6_sends 29 rfl) ?_
    refine lv_iload hx hb (zD_g DX6_sends 30 rfl) (lv_at hl 0 rfl) ?_
    refine lv_iadd hx hb (zD_g DX6_sends 31 rfl) ?_
    refine lv_topi (fun x10 ex10 => ?_)
    replace hf := zl_s hf x10 ex10
    obtain ⟨h11, hf⟩ := zg_s hf
    refine z_iast (k := ((92 : Int32) + r3).toNatClampNeg) (ws' := (cMod cI cZ q quiet mabove mbelow typed mat mstart mtoken mvalue many (upd book (((92 : Int32) + r3).toNatClampNeg) x10) images mkept aside refused text items drawn row best)) hx hb hK.1 hP hD hS 1 0 rfl rfl h11 rfl rfl (zD_g DX6_sends 32 rfl) (fun H locs hP hD hS => ?_)
    refine lv_iconst (v := (0 : Int32)) hx hb (zD_g DX6_sends 33 rfl) (by decide) ?_
    refine lv_istore (lv' := [(7, .int (0 : Int32)), (6, .int v8), (0, .ref (q 0)), (1, .int a_g), (4, .int r3), (5, .int r5)]) hx hb (zD_g DX6_sends 34 rfl) hl (by decide) rfl (fun ls hl => ?_)
    have hL14 : ∀ (k14 : (Nat → Int32) → Option (Int32 × (Nat → Int32))) (hk14 : ∀ (book_23 : Nat → Int32), k14 book_23 = some (r, d_book) → ∀ (H : Heap) (locs : List Loc), va_P D vwCl (cMod cI cZ q quiet mabove mbelow typed mat mstart mtoken mvalue many book_23 images mkept aside refused text items drawn row best) H → va_D A (cMod cI cZ q quiet mabove mbelow typed mat mstart mtoken mvalue many book_23 images mkept aside refused text items drawn row best) → va_S A s.heap H locs → ∀ (ls : Array Slot), lv_has ls 8 [(0, .ref (q 0)), (1, .int a_g), (4, .int r3), (5, .int r5), (6, .int v8)] → W p l e rm6_sends s m args below meth c H locs 0 0 Q (F0 m 117 ls [])) (n14 : Nat) (y12 : Int32) (book_13 : Nat → Int32), L6_sends_57 k14 a_g r5 n14 y12 book_13 = some (r, d_book) → ∀ (H : Heap) (locs : List Loc), va_P D vwCl (cMod cI cZ q quiet mabove mbelow typed mat mstart mtoken mvalue many book_13 images mkept aside refused text items drawn row best) H → va_D A (cMod cI cZ q quiet mabove mbelow typed mat mstart mtoken mvalue many book_13 images mkept aside refused text items drawn row best) → va_S A s.heap H locs → ∀ (ls : Array Slot), lv_has ls 8 [(0, .ref (q 0)), (1, .int a_g), (4, .int r3), (5, .int r5), (6, .int v8), (7, .int y12)] → W p l e rm6_sends s m args below meth c H locs 0 0 Q (F0 m 57 ls []) := by
      intro k14 hk14 n14
      induction n14 with
      | zero =>
        intro y12 book_13 hf
        cases hf
      | succ n14 ih14 =>
        intro y12 book_13 hf H locs hP hD hS ls hl
        rw [L6_sends_57] at hf
        refine lv_iload hx hb (zD_g DX6_sends 35 rfl) (lv_at hl 5 rfl) ?_
        refine lv_aload_n hx hb (zD_g DX6_sends 36 rfl) rfl (lv_at hl 0 rfl) ?_
        refine va_get (D := D) (ci := 5) (v := .ref (q 1)) (C := RX6) (T := TX6) (N := 19) hx hb hts in6_sends_6 hown hK.1 hP 0 rfl rfl 0 (by decide) (hts _ (List.mem_of_getElem? (i := 1) rfl)) (fun _ h9 => h9) rfl (zD_g DX6_sends 37 rfl) ?_
        refine lv_iconst (v := (0 : Int32)) hx hb (zD_g DX6_sends 38 rfl) (by decide) ?_
        refine z_iald (k := 0) hx hb hK.1 hP 1 0 rfl rfl (by decide) rfl (zD_g DX6_sends 39 rfl) ?_
        refine lv_icmp_ge (tgt := 117) hx hb (zD_g DX6_sends 40 rfl) (by decide) (fun c15 => ?_) (fun c15 => ?_)
        · replace hf := z_t c15 hf
          exact hk14 _ hf _ _ hP hD hS ls (lv_sub hl [0, 1, 2, 3, 4] rfl)
        · replace hf := z_f c15 hf
          refine lv_iload hx hb (zD_g DX6_sends 41 rfl) (lv_at hl 3 rfl) ?_
          refine lv_if_eq (tgt := 117) hx hb (zD_g DX6_sends 42 rfl) (by decide) (fun c16 => ?_) (fun c16 => ?_)
          · replace hf := z_t c16 hf
            exact hk14 _ hf _ _ hP hD hS ls (lv_sub hl [0, 1, 2, 3, 4] rfl)
          · replace hf := z_f c16 hf
            refine lv_aload_n hx hb (zD_g DX6_sends 43 rfl) rfl (lv_at hl 0 rfl) ?_
            refine va_get (D := D) (ci := 5) (v := .ref (q 1)) (C := RX6) (T := TX6) (N := 19) hx hb hts in6_sends_6 hown hK.1 hP 0 rfl rfl 0 (by decide) (hts _ (List.mem_of_getElem? (i := 1) rfl)) (fun _ h9 => h9) rfl (zD_g DX6_sends 44 rfl) ?_
            refine lv_bipush (v := (36 : Int32)) hx hb (zD_g DX6_sends 45 rfl) (by decide) ?_
            refine lv_iload hx hb (zD_g DX6_sends 46 rfl) (lv_at hl 5 rfl) ?_
            refine lv_iadd hx hb (zD_g DX6_sends 47 rfl) ?_
            refine lv_aload_n hx hb (zD_g DX6_sends 48 rfl) rfl (lv_at hl 0 rfl) ?_
            refine va_get (D := D) (ci := 5) (v := .ref (q 1)) (C := RX6) (T := TX6) (N := 19) hx hb hts in6_sends_6 hown hK.1 hP 0 rfl rfl 0 (by decide) (hts _ (List.mem_of_getElem? (i := 1) rfl)) (fun _ h9 => h9) rfl (zD_g DX6_sends 49 rfl) ?_
            refine lv_bipush (v := (36 : Int32)) hx hb (zD_g DX6_sends 50 rfl) (by decide) ?_
            refine lv_iload hx hb (zD_g DX6_sends 51 rfl) (lv_at hl 5 rfl) ?_
            refine lv_iadd hx hb (zD_g DX6_sends 52 rfl) ?_
            obtain ⟨h17, hf⟩ := zg_s hf
            refine z_iald (k := ((36 : Int32) + y12).toNatClampNeg) hx hb hK.1 hP 1 0 rfl rfl h17 rfl (zD_g DX6_sends 53 rfl) ?_
            refine lv_iload_n hx hb (zD_g DX6_sends 54 rfl) rfl (lv_at hl 1 rfl) ?_
            refine lv_icmp_ne (tgt := 100) hx hb (zD_g DX6_sends 55 rfl) (by decide) (fun c18 => ?_) (fun c18 => ?_)
            · replace hf := z_f c18 hf
              refine lv_aload_n hx hb (zD_g DX6_sends 58 rfl) rfl (lv_at hl 0 rfl) ?_
              refine va_get (D := D) (ci := 5) (v := .ref (q 1)) (C := RX6) (T := TX6) (N := 19) hx hb hts in6_sends_6 hown hK.1 hP 0 rfl rfl 0 (by decide) (hts _ (List.mem_of_getElem? (i := 1) rfl)) (fun _ h9 => h9) rfl (zD_g DX6_sends 59 rfl) ?_
              refine lv_bipush (v := (36 : Int32)) hx hb (zD_g DX6_sends 60 rfl) (by decide) ?_
              refine lv_iload hx hb (zD_g DX6_sends 61 rfl) (lv_at hl 5 rfl) ?_
              refine lv_iadd hx hb (zD_g DX6_sends 62 rfl) ?_
              obtain ⟨h19, hf⟩ := zg_s hf
              refine z_iald (k := ((36 : Int32) + y12).toNatClampNeg) hx hb hK.1 hP 1 0 rfl rfl h19 rfl (zD_g DX6_sends 63 rfl) ?_
              refine lv_topi (fun x20 ex20 => ?_)
              replace hf := zl_s hf x20 ex20
              obtain ⟨h21, hf⟩ := zg_s hf
              refine z_iast (k := ((36 : Int32) + y12).toNatClampNeg) (ws' := (cMod cI cZ q quiet mabove mbelow typed mat mstart mtoken mvalue many (upd book_13 (((36 : Int32) + y12).toNatClampNeg) x20) images mkept aside refused text items drawn row best)) hx hb hK.1 hP hD hS 1 0 rfl rfl h21 rfl rfl (zD_g DX6_sends 64 rfl) (fun H locs hP hD hS => ?_)
              refine lv_iinc (v := y12 + 1) (lv' := [(7, .int (y12 + 1)), (0, .ref (q 0)), (1, .int a_g), (4, .int r3), (5, .int r5), (6, .int v8)]) (k := 5) hx hb (zD_g DX6_sends 65 rfl) hl rfl rfl (by decide) rfl (fun ls hl => ?_)
              refine lv_goto (tgt := 57) hx hb (zD_g DX6_sends 66 rfl) (by decide) ?_
              exact ih14 _ _ hf _ _ hP hD hS ls (lv_sub hl [1, 2, 3, 4, 5, 0] rfl)
            · replace hf := z_t c18 hf
              refine lv_iconst (v := (-1 : Int32)) hx hb (zD_g DX6_sends 56 rfl) (by decide) ?_
              refine lv_goto (tgt := 110) hx hb (zD_g DX6_sends 57 rfl) (by decide) ?_
              obtain ⟨h22, hf⟩ := zg_s hf
              refine z_iast (k := ((36 : Int32) + y12).toNatClampNeg) (ws' := (cMod cI cZ q quiet mabove mbelow typed mat mstart mtoken mvalue many (upd book_13 (((36 : Int32) + y12).toNatClampNeg) (-1 : Int32)) images mkept aside refused text items drawn row best)) hx hb hK.1 hP hD hS 1 0 rfl rfl h22 rfl rfl (zD_g DX6_sends 64 rfl) (fun H locs hP hD hS => ?_)
              refine lv_iinc (v := y12 + 1) (lv' := [(7, .int (y12 + 1)), (0, .ref (q 0)), (1, .int a_g), (4, .int r3), (5, .int r5), (6, .int v8)]) (k := 5) hx hb (zD_g DX6_sends 65 rfl) hl rfl rfl (by decide) rfl (fun ls hl => ?_)
              refine lv_goto (tgt := 57) hx hb (zD_g DX6_sends 66 rfl) (by decide) ?_
              exact ih14 _ _ hf _ _ hP hD hS ls (lv_sub hl [1, 2, 3, 4, 5, 0] rfl)
    refine hL14 _ (fun book_23 hf H locs hP hD hS ls hl => ?_) _ _ _ hf _ _ hP hD hS ls (lv_sub hl [2, 3, 4, 5, 1, 0] rfl)
    refine lv_aload_n hx hb (zD_g DX6_sends 67 rfl) rfl (lv_at hl 0 rfl) ?_
    refine va_get (D := D) (ci := 5) (v := .ref (q 1)) (C := RX6) (T := TX6) (N := 19) hx hb hts in6_sends_6 hown hK.1 hP 0 rfl rfl 0 (by decide) (hts _ (List.mem_of_getElem? (i := 1) rfl)) (fun _ h9 => h9) rfl (zD_g DX6_sends 68 rfl) ?_
    refine lv_bipush (v := (68 : Int32)) hx hb (zD_g DX6_sends 69 rfl) (by decide) ?_
    refine lv_iload_n hx hb (zD_g DX6_sends 70 rfl) rfl (lv_at hl 1 rfl) ?_
    refine lv_iadd hx hb (zD_g DX6_sends 71 rfl) ?_
    refine lv_iload hx hb (zD_g DX6_sends 72 rfl) (lv_at hl 3 rfl) ?_
    obtain ⟨v25, hr29, hf⟩ := zb1_s hf
    have hJ29 : ∀ (H : Heap) (locs : List Loc), va_P D vwCl (cMod cI cZ q quiet mabove mbelow typed mat mstart mtoken mvalue many book_23 images mkept aside refused text items drawn row best) H → va_D A (cMod cI cZ q quiet mabove mbelow typed mat mstart mtoken mvalue many book_23 images mkept aside refused text items drawn row best) → va_S A s.heap H locs → ∀ (ls : Array Slot), lv_has ls 8 [(0, .ref (q 0)), (5, .int r5), (6, .int v8)] → W p l e rm6_sends s m args below meth c H locs 0 0 Q (F0 m 144 ls [.int v25, .int ((68 : Int32) + a_g), .ref (q 1)]) := by
      intro H locs hP hD hS ls hl
      obtain ⟨h26, hf⟩ := zg_s hf
      refine z_iast (k := ((68 : Int32) + a_g).toNatClampNeg) (ws' := (cMod cI cZ q quiet mabove mbelow typed mat mstart mtoken mvalue many (upd book_23 (((68 : Int32) + a_g).toNatClampNeg) v25) images mkept aside refused text items drawn row best)) hx hb hK.1 hP hD hS 1 0 rfl rfl h26 rfl rfl (zD_g DX6_sends 82 rfl) (fun H locs hP hD hS => ?_)
      refine lv_aload_n hx hb (zD_g DX6_sends 83 rfl) rfl (lv_at hl 0 rfl) ?_
      refine va_get (D := D) (ci := 5) (v := .ref (q 1)) (C := RX6) (T := TX6) (N := 19) hx hb hts in6_sends_6 hown hK.1 hP 0 rfl rfl 0 (by decide) (hts _ (List.mem_of_getElem? (i := 1) rfl)) (fun _ h9 => h9) rfl (zD_g DX6_sends 84 rfl) ?_
      refine lv_iconst (v := (2 : Int32)) hx hb (zD_g DX6_sends 85 rfl) (by decide) ?_
      refine lv_dup2_11 hx hb (zD_g DX6_sends 86 rfl) rfl rfl ?_
      refine z_iald (k := 2) hx hb hK.1 hP 1 0 rfl rfl (by decide) rfl (zD_g DX6_sends 87 rfl) ?_
      refine lv_iconst (v := (1 : Int32)) hx hb (zD_g DX6_sends 88 rfl) (by decide) ?_
      refine lv_iadd hx hb (zD_g DX6_sends 89 rfl) ?_
      refine lv_topi (fun x27 ex27 => ?_)
      replace hf := zl_s hf x27 ex27
      refine z_iast (k := 2) (ws' := (cMod cI cZ q quiet mabove mbelow typed mat mstart mtoken mvalue many (upd (upd book_23 (((68 : Int32) + a_g).toNatClampNeg) v25) 2 x27) images mkept aside refused text items drawn row best)) hx hb hK.1 hP hD hS 1 0 rfl rfl (by decide) rfl rfl (zD_g DX6_sends 90 rfl) (fun H locs hP hD hS => ?_)
      refine lv_iload hx hb (zD_g DX6_sends 91 rfl) (lv_at hl 1 rfl) ?_
      refine lv_if_eq (tgt := 165) hx hb (zD_g DX6_sends 92 rfl) (by decide) (fun c28 => ?_) (fun c28 => ?_)
      · replace hf := z_t c28 hf
        refine lv_bipush (v := (-5 : Int32)) hx hb (zD_g DX6_sends 95 rfl) (by decide) ?_
        cases hf
        exact hret _ _ _ _ hP hD hS (zD_g DX6_sends 96 rfl)
      · replace hf := z_f c28 hf
        refine lv_iload hx hb (zD_g DX6_sends 93 rfl) (lv_at hl 2 rfl) ?_
        refine lv_goto (tgt := 167) hx hb (zD_g DX6_sends 94 rfl) (by decide) ?_
        cases hf
        exact hret _ _ _ _ hP hD hS (zD_g DX6_sends 96 rfl)
    clear hf
    refine lv_if_eq (tgt := 135) hx hb (zD_g DX6_sends 73 rfl) (by decide) (fun c24 => ?_) (fun c24 => ?_)
    · have hf := z_t c24 hr29
      refine lv_aload_n hx hb (zD_g DX6_sends 76 rfl) rfl (lv_at hl 0 rfl) ?_
      refine va_get (D := D) (ci := 5) (v := .ref (q 1)) (C := RX6) (T := TX6) (N := 19) hx hb hts in6_sends_6 hown hK.1 hP 0 rfl rfl 0 (by decide) (hts _ (List.mem_of_getElem? (i := 1) rfl)) (fun _ h9 => h9) rfl (zD_g DX6_sends 77 rfl) ?_
      refine lv_bipush (v := (68 : Int32)) hx hb (zD_g DX6_sends 78 rfl) (by decide) ?_
      refine lv_iload_n hx hb (zD_g DX6_sends 79 rfl) rfl (lv_at hl 1 rfl) ?_
      refine lv_iadd hx hb (zD_g DX6_sends 80 rfl) ?_
      obtain ⟨h30, hf⟩ := zg_s hf
      refine z_iald (k := ((68 : Int32) + a_g).toNatClampNeg) hx hb hK.1 hP 1 0 rfl rfl h30 rfl (zD_g DX6_sends 81 rfl) ?_
      cases hf
      exact hJ29 _ _ hP hD hS ls (lv_sub hl [0, 3, 4] rfl)
    · have hf := z_f c24 hr29
      refine lv_iload hx hb (zD_g DX6_sends 74 rfl) (lv_at hl 2 rfl) ?_
      refine lv_goto (tgt := 144) hx hb (zD_g DX6_sends 75 rfl) (by decide) ?_
      cases hf
      exact hJ29 _ _ hP hD hS ls (lv_sub hl [0, 3, 4] rfl)
  clear hf
  refine lv_if_eq (tgt := 36) hx hb (zD_g DX6_sends 14 rfl) (by decide) (fun c7 => ?_) (fun c7 => ?_)
  · have hf := z_t c7 hr31
    refine lv_iconst (v := (1 : Int32)) hx hb (zD_g DX6_sends 21 rfl) (by decide) ?_
    cases hf
    exact hJ31 _ _ hP hD hS ls (lv_sub hl [3, 4, 1, 0] rfl)
  · have hf := z_f c7 hr31
    refine lv_aload_n hx hb (zD_g DX6_sends 15 rfl) rfl (lv_at hl 3 rfl) ?_
    refine lv_iload_n hx hb (zD_g DX6_sends 16 rfl) rfl (lv_at hl 4 rfl) ?_
    refine lv_iload_n hx hb (zD_g DX6_sends 17 rfl) rfl (lv_at hl 2 rfl) ?_
    refine lv_iload_n hx hb (zD_g DX6_sends 18 rfl) rfl (lv_at hl 5 rfl) ?_
    obtain ⟨r32, hc33, hf⟩ := zb1_s hf
    refine z_Vp (As := [.int a_g, .int r1, .int a_hour]) (rest := []) ⟨hx, hb, hml, hown, hts⟩ hK (c6_loses (quiet := quiet) (mabove := mabove) (mbelow := mbelow) (typed := typed) (mat := mat) (mstart := mstart) (mtoken := mtoken) (mvalue := mvalue) (many := many) (book := book) (images := images) (mkept := mkept) (aside := aside) (refused := refused) (text := text) (items := items) (drawn := drawn) (row := row) (best := best) (q := q) hc33) (cwV 3 hts gX6_sends_X6_loses rfl rfl rfl hd6_loses ⟨Nat.le_of_ble_eq_true rfl, Nat.le_of_ble_eq_true rfl⟩) hP rfl rfl rfl rfl hl.1 rfl rfl (Nat.le_of_ble_eq_true rfl) (zD_g DX6_sends 19 rfl) ⟨Nat.zero_le _, Nat.zero_le _⟩ ?_
    refine lv_goto (tgt := 37) hx hb (zD_g DX6_sends 20 rfl) (by decide) ?_
    cases hf
    exact hJ31 _ _ hP hD hS ls (lv_sub hl [3, 4, 1, 0] rfl)
theorem hd6_sends : yX6_sends.cls = RX6 ∧ yX6_sends.cls ≠ "java/lang/invoke/MethodHandle" ∧ yX6_sends.cls ≠ "java/lang/invoke/VarHandle" ∧ (parseMethodDescriptor yX6_sends.desc).map (fun d => d.parameters.length) = some 2 := by decide +kernel
abbrev dlX6_send : List (Nat × Instr × Nat) := [(0, .aload_n 0, 1), (1, .iload_n 1, 1), (2, .invokevirtual 84, 3), (5, .ifCond .eq 10, 3), (8, .iload_n 2, 1), (9, .invokestatic 105, 3), (12, .ifCond .ne 11, 3), (15, .aload_n 0, 1), (16, .iconst 0, 1), (17, .bipush (-10), 2), (19, .invokevirtual 52, 3), (22, .ireturn, 1), (23, .aload_n 0, 1), (24, .invokevirtual 97, 3), (27, .aload_n 0, 1), (28, .iload_n 1, 1), (29, .iload_n 2, 1), (30, .invokevirtual 209, 3), (33, .ireturn, 1)]
theorem DX6_send : zD cX6_send dlX6_send = true := by decide +kernel
set_option maxRecDepth 20000 in
theorem ggX6_send_X6_isGift : GoodIn wsX6_send wsX6_isGift := goodIn_r _ [5, 6, 7, 8, 4, 9, 68, 69, 70, 71, 72, 73, 74, 75, 76, 77, 78, 79, 80, 81, 82, 83, 84, 85, 86] (by decide +kernel) (by decide +kernel)
set_option maxRecDepth 20000 in
theorem gX6_send_X6_isGift : GoodIn wsX6_send (wsV RX6 84 RX6 yX6_isGift wsX6_isGift) := goodIn_app (goodIn_of _ (by decide +kernel)) ggX6_send_X6_isGift
set_option maxRecDepth 20000 in
theorem ggX6_send_X6_isHour : GoodIn wsX6_send wsX6_isHour := goodIn_r _ [12, 13, 7, 8, 4, 9] (by decide +kernel) (by decide +kernel)
set_option maxRecDepth 20000 in
theorem gX6_send_X6_isHour : GoodIn wsX6_send (va_wsS RX6 105 yX6_isHour wsX6_isHour) := goodIn_app (goodIn_of _ (by decide +kernel)) ggX6_send_X6_isHour
set_option maxRecDepth 20000 in
theorem ggX6_send_X6_refuses : GoodIn wsX6_send wsX6_refuses := goodIn_r _ [17, 18, 19, 68, 69, 70, 71, 72, 73, 74, 75, 76, 77, 78, 79, 80, 81, 82, 83, 84, 85, 86] (by decide +kernel) (by decide +kernel)
set_option maxRecDepth 20000 in
theorem gX6_send_X6_refuses : GoodIn wsX6_send (wsV RX6 52 RX6 yX6_refuses wsX6_refuses) := goodIn_app (goodIn_of _ (by decide +kernel)) ggX6_send_X6_refuses
set_option maxRecDepth 20000 in
theorem ggX6_send_X6_remembers : GoodIn wsX6_send wsX6_remembers := goodIn_r _ [23, 6, 68, 69, 70, 71, 72, 73, 74, 75, 76, 77, 78, 79, 80, 81, 82, 83, 84, 85, 86] (by decide +kernel) (by decide +kernel)
set_option maxRecDepth 20000 in
theorem gX6_send_X6_remembers : GoodIn wsX6_send (wsV RX6 97 RX6 yX6_remembers wsX6_remembers) := goodIn_app (goodIn_of _ (by decide +kernel)) ggX6_send_X6_remembers
set_option maxRecDepth 20000 in
theorem ggX6_send_X6_sends : GoodIn wsX6_send wsX6_sends := goodIn_r _ [27, 6, 28, 29, 30, 4, 31, 32, 33, 34, 35, 36, 37, 38, 39, 40, 41, 42, 43, 44, 45, 46, 47, 48, 49, 50, 51, 52, 53, 54, 55, 56, 57, 58, 59, 60, 61, 62, 63, 64, 65, 66, 67, 68, 69, 70, 71, 72, 73, 74, 75, 76, 77, 78, 79, 80, 81, 82, 83, 84, 85, 86] (by decide +kernel) (by decide +kernel)
set_option maxRecDepth 20000 in
theorem gX6_send_X6_sends : GoodIn wsX6_send (wsV RX6 209 RX6 yX6_sends wsX6_sends) := goodIn_app (goodIn_of _ (by decide +kernel)) ggX6_send_X6_sends
def f6_send (quiet : Int32) (book : Nat → Int32) (refused : Nat → Int32) (a_g : Int32) (a_hour : Int32) : Option (Int32 × (Nat → Int32) × (Nat → Int32)) := zb1 (f6_isGift book a_g) (fun r1 => if r1 = 0 then zb2 (f6_refuses quiet refused (0 : Int32) (-10 : Int32)) (fun r4 refused_5 => some (r4, book, refused_5)) else zb1 (f6_isHour a_hour) (fun r7 => if r7 = 0 then zb2 (f6_refuses quiet refused (0 : Int32) (-10 : Int32)) (fun r15 refused_16 => some (r15, book, refused_16)) else zb1 (f6_remembers book) (fun book_10 => zb2 (f6_sends book_10 a_g a_hour) (fun r12 book_13 => some (r12, book_13, refused)))))
abbrev rm6_send : Room := { frames := 5, cells := 0, slots := 0, locals := 120 }
set_option maxHeartbeats 4000000 in
set_option maxRecDepth 100000 in
theorem c6_send {l : Launch} {D : va_G} {cI cZ cB : ClassId} {q : Nat → Nat} {sz : Nat} {quiet : Int32} {mabove : Int64} {mbelow : Int64} {typed : Int32} {mat : Int32} {mstart : Int32} {mtoken : Int32} {mvalue : Int32} {many : Int32} {book : Nat → Int32} {images : Nat → Int32} {mkept : Nat → Int32} {aside : Nat → Int32} {refused : Nat → Int32} {text : Nat → Int32} {items : Nat → Int32} {drawn : Nat → Int32} {row : Nat → Int32} {best : Nat → Int32} {a_g : Int32} {a_hour : Int32} {r : Int32} {d_book : Nat → Int32} {d_refused : Nat → Int32} (hf : f6_send quiet book refused a_g a_hour = some (r, d_book, d_refused)) : Met l yX6_send wsX6_send rm6_send (zPm D cI cZ cB [.ref (q 0), .int a_g, .int a_hour] sz (cMod cI cZ q quiet mabove mbelow typed mat mstart mtoken mvalue many book images mkept aside refused text items drawn row best)) (zQm D (some (.int r)) (cMod cI cZ q quiet mabove mbelow typed mat mstart mtoken mvalue many d_book images mkept aside d_refused text items drawn row best) (va_A (cMod cI cZ q quiet mabove mbelow typed mat mstart mtoken mvalue many book images mkept aside refused text items drawn row best) sz)) 0 0 (va_A (cMod cI cZ q quiet mabove mbelow typed mat mstart mtoken mvalue many book images mkept aside refused text items drawn row best) sz) := by
  unfold f6_send at hf
  refine z_mutI RX6 (by decide +kernel) rfl rfl (Nat.le_of_ble_eq_true rfl) ?_
  intro p e s m args below meth c Q A ls hx hb hml hown hts hK hP hD hS hA hret hl
  have hl : lv_has ls 3 [(0, .ref (q 0)), (1, .int a_g), (2, .int a_hour)] := hl
  refine lv_aload_n hx hb (zD_g DX6_send 0 rfl) rfl (lv_at hl 0 rfl) ?_
  refine lv_iload_n hx hb (zD_g DX6_send 1 rfl) rfl (lv_at hl 1 rfl) ?_
  obtain ⟨r1, hc2, hf⟩ := zb1_s hf
  refine z_Vp (As := [.int a_g]) (rest := []) ⟨hx, hb, hml, hown, hts⟩ hK (c6_isGift (quiet := quiet) (mabove := mabove) (mbelow := mbelow) (typed := typed) (mat := mat) (mstart := mstart) (mtoken := mtoken) (mvalue := mvalue) (many := many) (book := book) (images := images) (mkept := mkept) (aside := aside) (refused := refused) (text := text) (items := items) (drawn := drawn) (row := row) (best := best) (q := q) hc2) (cwV 1 hts gX6_send_X6_isGift rfl rfl rfl hd6_isGift ⟨Nat.le_of_ble_eq_true rfl, Nat.le_of_ble_eq_true rfl⟩) hP rfl rfl rfl rfl hl.1 rfl rfl (Nat.le_of_ble_eq_true rfl) (zD_g DX6_send 2 rfl) ⟨Nat.zero_le _, Nat.zero_le _⟩ ?_
  refine lv_if_eq (tgt := 15) hx hb (zD_g DX6_send 3 rfl) (by decide) (fun c3 => ?_) (fun c3 => ?_)
  · replace hf := z_t c3 hf
    refine lv_aload_n hx hb (zD_g DX6_send 7 rfl) rfl (lv_at hl 0 rfl) ?_
    refine lv_iconst (v := (0 : Int32)) hx hb (zD_g DX6_send 8 rfl) (by decide) ?_
    refine lv_bipush (v := (-10 : Int32)) hx hb (zD_g DX6_send 9 rfl) (by decide) ?_
    obtain ⟨r4, refused_5, hc6, hf⟩ := zb2_s hf
    refine z_Vm (As := [.int (0 : Int32), .int (-10 : Int32)]) (rest := []) (ws' := (cMod cI cZ q quiet mabove mbelow typed mat mstart mtoken mvalue many book images mkept aside refused_5 text items drawn row best)) ⟨hx, hb, hml, hown, hts⟩ hK (c6_refuses (quiet := quiet) (mabove := mabove) (mbelow := mbelow) (typed := typed) (mat := mat) (mstart := mstart) (mtoken := mtoken) (mvalue := mvalue) (many := many) (book := book) (images := images) (mkept := mkept) (aside := aside) (refused := refused) (text := text) (items := items) (drawn := drawn) (row := row) (best := best) (q := q) hc6) (cwV 2 hts gX6_send_X6_refuses rfl rfl rfl hd6_refuses ⟨Nat.le_of_ble_eq_true rfl, Nat.le_of_ble_eq_true rfl⟩) hP hD hS hA 11 [0, 1, 2, 3, 4, 5, 6, 7, 8, 9, 10] [] [0, 1, 2, 3, 4, 5, 6, 7, 8, 9, 10] (by decide +kernel) rfl rfl rfl rfl rfl rfl rfl hl.1 rfl rfl (Nat.le_of_ble_eq_true rfl) (zD_g DX6_send 10 rfl) ⟨Nat.zero_le _, Nat.zero_le _⟩ (fun H locs hP hD hS => ?_)
    cases hf
    exact hret _ _ _ _ hP hD hS (zD_g DX6_send 11 rfl)
  · replace hf := z_f c3 hf
    refine lv_iload_n hx hb (zD_g DX6_send 4 rfl) rfl (lv_at hl 2 rfl) ?_
    obtain ⟨r7, hc8, hf⟩ := zb1_s hf
    refine z_Sp (As := [.int a_hour]) (rest := []) ⟨hx, hb, hml, hown, hts⟩ hK (c6_isHour  hc8) (va_cwS 1 hts gX6_send_X6_isHour rfl rfl rfl hd6_isHour ⟨Nat.le_of_ble_eq_true rfl, Nat.le_of_ble_eq_true rfl⟩) (hP.sub [] rfl) rfl hl.1 rfl rfl (Nat.le_of_ble_eq_true rfl) (zD_g DX6_send 5 rfl) ⟨Nat.zero_le _, Nat.zero_le _⟩ ?_
    refine lv_if_ne (tgt := 23) hx hb (zD_g DX6_send 6 rfl) (by decide) (fun c9 => ?_) (fun c9 => ?_)
    · replace hf := z_f c9 hf
      refine lv_aload_n hx hb (zD_g DX6_send 12 rfl) rfl (lv_at hl 0 rfl) ?_
      obtain ⟨book_10, hc11, hf⟩ := zb1_s hf
      refine z_Vm (As := []) (rest := []) (ws' := (cMod cI cZ q quiet mabove mbelow typed mat mstart mtoken mvalue many book_10 images mkept aside refused text items drawn row best)) ⟨hx, hb, hml, hown, hts⟩ hK (c6_remembers (quiet := quiet) (mabove := mabove) (mbelow := mbelow) (typed := typed) (mat := mat) (mstart := mstart) (mtoken := mtoken) (mvalue := mvalue) (many := many) (book := book) (images := images) (mkept := mkept) (aside := aside) (refused := refused) (text := text) (items := items) (drawn := drawn) (row := row) (best := best) (q := q) hc11) (cwV 0 hts gX6_send_X6_remembers rfl rfl rfl hd6_remembers ⟨Nat.le_of_ble_eq_true rfl, Nat.le_of_ble_eq_true rfl⟩) hP hD hS hA 11 [0, 1, 2, 3, 4, 5, 6, 7, 8, 9, 10] [] [0, 1, 2, 3, 4, 5, 6, 7, 8, 9, 10] (by decide +kernel) rfl rfl rfl rfl rfl rfl rfl hl.1 rfl rfl (Nat.le_of_ble_eq_true rfl) (zD_g DX6_send 13 rfl) ⟨Nat.zero_le _, Nat.zero_le _⟩ (fun H locs hP hD hS => ?_)
      refine lv_aload_n hx hb (zD_g DX6_send 14 rfl) rfl (lv_at hl 0 rfl) ?_
      refine lv_iload_n hx hb (zD_g DX6_send 15 rfl) rfl (lv_at hl 1 rfl) ?_
      refine lv_iload_n hx hb (zD_g DX6_send 16 rfl) rfl (lv_at hl 2 rfl) ?_
      obtain ⟨r12, book_13, hc14, hf⟩ := zb2_s hf
      refine z_Vm (As := [.int a_g, .int a_hour]) (rest := []) (ws' := (cMod cI cZ q quiet mabove mbelow typed mat mstart mtoken mvalue many book_13 images mkept aside refused text items drawn row best)) ⟨hx, hb, hml, hown, hts⟩ hK (c6_sends (quiet := quiet) (mabove := mabove) (mbelow := mbelow) (typed := typed) (mat := mat) (mstart := mstart) (mtoken := mtoken) (mvalue := mvalue) (many := many) (book := book_10) (images := images) (mkept := mkept) (aside := aside) (refused := refused) (text := text) (items := items) (drawn := drawn) (row := row) (best := best) (q := q) hc14) (cwV 2 hts gX6_send_X6_sends rfl rfl rfl hd6_sends ⟨Nat.le_of_ble_eq_true rfl, Nat.le_of_ble_eq_true rfl⟩) hP hD hS hA 11 [0, 1, 2, 3, 4, 5, 6, 7, 8, 9, 10] [] [0, 1, 2, 3, 4, 5, 6, 7, 8, 9, 10] (by decide +kernel) rfl rfl rfl rfl rfl rfl rfl hl.1 rfl rfl (Nat.le_of_ble_eq_true rfl) (zD_g DX6_send 17 rfl) ⟨Nat.zero_le _, Nat.zero_le _⟩ (fun H locs hP hD hS => ?_)
      cases hf
      exact hret _ _ _ _ hP hD hS (zD_g DX6_send 18 rfl)
    · replace hf := z_t c9 hf
      refine lv_aload_n hx hb (zD_g DX6_send 7 rfl) rfl (lv_at hl 0 rfl) ?_
      refine lv_iconst (v := (0 : Int32)) hx hb (zD_g DX6_send 8 rfl) (by decide) ?_
      refine lv_bipush (v := (-10 : Int32)) hx hb (zD_g DX6_send 9 rfl) (by decide) ?_
      obtain ⟨r15, refused_16, hc17, hf⟩ := zb2_s hf
      refine z_Vm (As := [.int (0 : Int32), .int (-10 : Int32)]) (rest := []) (ws' := (cMod cI cZ q quiet mabove mbelow typed mat mstart mtoken mvalue many book images mkept aside refused_16 text items drawn row best)) ⟨hx, hb, hml, hown, hts⟩ hK (c6_refuses (quiet := quiet) (mabove := mabove) (mbelow := mbelow) (typed := typed) (mat := mat) (mstart := mstart) (mtoken := mtoken) (mvalue := mvalue) (many := many) (book := book) (images := images) (mkept := mkept) (aside := aside) (refused := refused) (text := text) (items := items) (drawn := drawn) (row := row) (best := best) (q := q) hc17) (cwV 2 hts gX6_send_X6_refuses rfl rfl rfl hd6_refuses ⟨Nat.le_of_ble_eq_true rfl, Nat.le_of_ble_eq_true rfl⟩) hP hD hS hA 11 [0, 1, 2, 3, 4, 5, 6, 7, 8, 9, 10] [] [0, 1, 2, 3, 4, 5, 6, 7, 8, 9, 10] (by decide +kernel) rfl rfl rfl rfl rfl rfl rfl hl.1 rfl rfl (Nat.le_of_ble_eq_true rfl) (zD_g DX6_send 10 rfl) ⟨Nat.zero_le _, Nat.zero_le _⟩ (fun H locs hP hD hS => ?_)
      cases hf
      exact hret _ _ _ _ hP hD hS (zD_g DX6_send 11 rfl)
theorem hd6_send : yX6_send.cls = RX6 ∧ yX6_send.cls ≠ "java/lang/invoke/MethodHandle" ∧ yX6_send.cls ≠ "java/lang/invoke/VarHandle" ∧ (parseMethodDescriptor yX6_send.desc).map (fun d => d.parameters.length) = some 2 := by decide +kernel
abbrev dlX6_undo : List (Nat × Instr × Nat) := [(0, .aload_n 0, 1), (1, .getfield 7, 3), (4, .iconst 3, 1), (5, .iaload, 1), (6, .ifCond .ne 8, 3), (9, .aload_n 0, 1), (10, .invokevirtual 94, 3), (13, .ireturn, 1), (14, .aload_n 0, 1), (15, .getfield 7, 3), (18, .iconst 3, 1), (19, .dup2, 1), (20, .iaload, 1), (21, .iconst 1, 1), (22, .isub, 1), (23, .iastore, 1), (24, .bipush 94, 2), (26, .bipush 17, 2), (28, .aload_n 0, 1), (29, .getfield 7, 3), (32, .iconst 3, 1), (33, .iaload, 1), (34, .imul, 1), (35, .iadd, 1), (36, .istore_n 1, 1), (37, .iconst 0, 1), (38, .istore_n 2, 1), (39, .iload_n 2, 1), (40, .bipush 8, 2), (42, .if_icmp .ge 26, 3), (45, .aload_n 0, 1), (46, .getfield 7, 3), (49, .bipush 36, 2), (51, .iload_n 2, 1), (52, .iadd, 1), (53, .aload_n 0, 1), (54, .getfield 7, 3), (57, .iload_n 1, 1), (58, .iload_n 2, 1), (59, .iadd, 1), (60, .iaload, 1), (61, .iastore, 1), (62, .iinc 2 1, 3), (65, .goto (-26), 3), (68, .iconst 0, 1), (69, .istore_n 2, 1), (70, .iload_n 2, 1), (71, .bipush 6, 2), (73, .if_icmp .ge 29, 3), (76, .aload_n 0, 1), (77, .getfield 7, 3), (80, .bipush 68, 2), (82, .iload_n 2, 1), (83, .iadd, 1), (84, .aload_n 0, 1), (85, .getfield 7, 3), (88, .iload_n 1, 1), (89, .bipush 8, 2), (91, .iadd, 1), (92, .iload_n 2, 1), (93, .iadd, 1), (94, .iaload, 1), (95, .iastore, 1), (96, .iinc 2 1, 3), (99, .goto (-29), 3), (102, .aload_n 0, 1), (103, .getfield 7, 3), (106, .iconst 2, 1), (107, .aload_n 0, 1), (108, .getfield 7, 3), (111, .iload_n 1, 1), (112, .bipush 14, 2), (114, .iadd, 1), (115, .iaload, 1), (116, .iastore, 1), (117, .aload_n 0, 1), (118, .getfield 7, 3), (121, .bipush 92, 2), (123, .aload_n 0, 1), (124, .getfield 7, 3), (127, .iload_n 1, 1), (128, .bipush 15, 2), (130, .iadd, 1), (131, .iaload, 1), (132, .iastore, 1), (133, .aload_n 0, 1), (134, .getfield 7, 3), (137, .bipush 93, 2), (139, .aload_n 0, 1), (140, .getfield 7, 3), (143, .iload_n 1, 1), (144, .bipush 16, 2), (146, .iadd, 1), (147, .iaload, 1), (148, .iastore, 1), (149, .iconst 1, 1), (150, .ireturn, 1)]
theorem DX6_undo : zD cX6_undo dlX6_undo = true := by decide +kernel
set_option maxRecDepth 20000 in
theorem ggX6_undo_X6_no : GoodIn wsX6_undo wsX6_no := goodIn_r _ [6, 7, 8, 9, 5, 10, 11, 12, 13, 14, 15, 16, 17, 18, 19, 20, 21, 22, 23, 24, 25, 26, 27, 28, 29, 30, 31] (by decide +kernel) (by decide +kernel)
set_option maxRecDepth 20000 in
theorem gX6_undo_X6_no : GoodIn wsX6_undo (wsV RX6 94 RX6 yX6_no wsX6_no) := goodIn_app (goodIn_of _ (by decide +kernel)) ggX6_undo_X6_no
def L6_undo_39 (k6 : (Nat → Int32) → Option (Int32 × (Nat → Int32) × (Nat → Int32)))  (x3 : Int32) : Nat → Int32 → (Nat → Int32) → Option (Int32 × (Nat → Int32) × (Nat → Int32))
  | 0, _, _ => none
  | n6 + 1, y4, book_5 => if (8 : Int32) ≤ y4 then k6 book_5 else zg (x3 + y4) 230 (zl ((book_5 (x3 + y4).toNatClampNeg)) (fun x9 => zg ((36 : Int32) + y4) 230 (L6_undo_39 k6 x3 n6 (y4 + 1) (upd book_5 (((36 : Int32) + y4).toNatClampNeg) x9))))
def L6_undo_70 (k14 : (Nat → Int32) → Option (Int32 × (Nat → Int32) × (Nat → Int32)))  (x3 : Int32) : Nat → Int32 → (Nat → Int32) → Option (Int32 × (Nat → Int32) × (Nat → Int32))
  | 0, _, _ => none
  | n14 + 1, y12, book_13 => if (6 : Int32) ≤ y12 then k14 book_13 else zg ((x3 + (8 : Int32)) + y12) 230 (zl ((book_13 ((x3 + (8 : Int32)) + y12).toNatClampNeg)) (fun x17 => zg ((68 : Int32) + y12) 230 (L6_undo_70 k14 x3 n14 (y12 + 1) (upd book_13 (((68 : Int32) + y12).toNatClampNeg) x17))))
def f6_undo (quiet : Int32) (book : Nat → Int32) (refused : Nat → Int32) : Option (Int32 × (Nat → Int32) × (Nat → Int32)) := if (book 3) = 0 then zb2 (f6_no quiet refused) (fun r26 refused_27 => some (r26, book, refused_27)) else zl (((book 3) - (1 : Int32))) (fun x2 => zl (((94 : Int32) + ((17 : Int32) * ((upd book 3 x2) 3)))) (fun x3 => L6_undo_39 (fun book_11 => L6_undo_70 (fun book_19 => zg (x3 + (14 : Int32)) 230 (zl ((book_19 (x3 + (14 : Int32)).toNatClampNeg)) (fun x21 => zg (x3 + (15 : Int32)) 230 (zl (((upd book_19 2 x21) (x3 + (15 : Int32)).toNatClampNeg)) (fun x23 => zg (x3 + (16 : Int32)) 230 (zl (((upd (upd book_19 2 x21) 92 x23) (x3 + (16 : Int32)).toNatClampNeg)) (fun x25 => some ((1 : Int32), (upd (upd (upd book_19 2 x21) 92 x23) 93 x25), refused)))))))) x3 FU (0 : Int32) book_11) x3 FU (0 : Int32) (upd book 3 x2)))
abbrev rm6_undo : Room := { frames := 2, cells := 0, slots := 0, locals := 42 }
theorem in6_undo_6 : ∀ w ∈ wsX60, w ∈ wsX6_undo := fun w h => List.mem_cons_of_mem _ (List.mem_append_right _ h)
set_option maxHeartbeats 4000000 in
set_option maxRecDepth 100000 in
theorem c6_undo {l : Launch} {D : va_G} {cI cZ cB : ClassId} {q : Nat → Nat} {sz : Nat} {quiet : Int32} {mabove : Int64} {mbelow : Int64} {typed : Int32} {mat : Int32} {mstart : Int32} {mtoken : Int32} {mvalue : Int32} {many : Int32} {book : Nat → Int32} {images : Nat → Int32} {mkept : Nat → Int32} {aside : Nat → Int32} {refused : Nat → Int32} {text : Nat → Int32} {items : Nat → Int32} {drawn : Nat → Int32} {row : Nat → Int32} {best : Nat → Int32}  {r : Int32} {d_book : Nat → Int32} {d_refused : Nat → Int32} (hf : f6_undo quiet book refused = some (r, d_book, d_refused)) : Met l yX6_undo wsX6_undo rm6_undo (zPm D cI cZ cB [.ref (q 0)] sz (cMod cI cZ q quiet mabove mbelow typed mat mstart mtoken mvalue many book images mkept aside refused text items drawn row best)) (zQm D (some (.int r)) (cMod cI cZ q quiet mabove mbelow typed mat mstart mtoken mvalue many d_book images mkept aside d_refused text items drawn row best) (va_A (cMod cI cZ q quiet mabove mbelow typed mat mstart mtoken mvalue many book images mkept aside refused text items drawn row best) sz)) 0 0 (va_A (cMod cI cZ q quiet mabove mbelow typed mat mstart mtoken mvalue many book images mkept aside refused text items drawn row best) sz) := by
  unfold f6_undo at hf
  refine z_mutI RX6 (by decide +kernel) rfl rfl (Nat.le_of_ble_eq_true rfl) ?_
  intro p e s m args below meth c Q A ls hx hb hml hown hts hK hP hD hS hA hret hl
  have hl : lv_has ls 3 [(0, .ref (q 0))] := hl
  refine lv_aload_n hx hb (zD_g DX6_undo 0 rfl) rfl (lv_at hl 0 rfl) ?_
  refine va_get (D := D) (ci := 5) (v := .ref (q 1)) (C := RX6) (T := TX6) (N := 19) hx hb hts in6_undo_6 hown hK.1 hP 0 rfl rfl 0 (by decide) (hts _ (List.mem_of_getElem? (i := 1) rfl)) (fun _ h9 => h9) rfl (zD_g DX6_undo 1 rfl) ?_
  refine lv_iconst (v := (3 : Int32)) hx hb (zD_g DX6_undo 2 rfl) (by decide) ?_
  refine z_iald (k := 3) hx hb hK.1 hP 1 0 rfl rfl (by decide) rfl (zD_g DX6_undo 3 rfl) ?_
  refine lv_if_ne (tgt := 14) hx hb (zD_g DX6_undo 4 rfl) (by decide) (fun c1 => ?_) (fun c1 => ?_)
  · replace hf := z_f c1 hf
    refine lv_aload_n hx hb (zD_g DX6_undo 8 rfl) rfl (lv_at hl 0 rfl) ?_
    refine va_get (D := D) (ci := 5) (v := .ref (q 1)) (C := RX6) (T := TX6) (N := 19) hx hb hts in6_undo_6 hown hK.1 hP 0 rfl rfl 0 (by decide) (hts _ (List.mem_of_getElem? (i := 1) rfl)) (fun _ h9 => h9) rfl (zD_g DX6_undo 9 rfl) ?_
    refine lv_iconst (v := (3 : Int32)) hx hb (zD_g DX6_undo 10 rfl) (by decide) ?_
    refine lv_dup2_11 hx hb (zD_g DX6_undo 11 rfl) rfl rfl ?_
    refine z_iald (k := 3) hx hb hK.1 hP 1 0 rfl rfl (by decide) rfl (zD_g DX6_undo 12 rfl) ?_
    refine lv_iconst (v := (1 : Int32)) hx hb (zD_g DX6_undo 13 rfl) (by decide) ?_
    refine lv_isub hx hb (zD_g DX6_undo 14 rfl) ?_
    refine lv_topi (fun x2 ex2 => ?_)
    replace hf := zl_s hf x2 ex2
    refine z_iast (k := 3) (ws' := (cMod cI cZ q quiet mabove mbelow typed mat mstart mtoken mvalue many (upd book 3 x2) images mkept aside refused text items drawn row best)) hx hb hK.1 hP hD hS 1 0 rfl rfl (by decide) rfl rfl (zD_g DX6_undo 15 rfl) (fun H locs hP hD hS => ?_)
    refine lv_bipush (v := (94 : Int32)) hx hb (zD_g DX6_undo 16 rfl) (by decide) ?_
    refine lv_bipush (v := (17 : Int32)) hx hb (zD_g DX6_undo 17 rfl) (by decide) ?_
    refine lv_aload_n hx hb (zD_g DX6_undo 18 rfl) rfl (lv_at hl 0 rfl) ?_
    refine va_get (D := D) (ci := 5) (v := .ref (q 1)) (C := RX6) (T := TX6) (N := 19) hx hb hts in6_undo_6 hown hK.1 hP 0 rfl rfl 0 (by decide) (hts _ (List.mem_of_getElem? (i := 1) rfl)) (fun _ h9 => h9) rfl (zD_g DX6_undo 19 rfl) ?_
    refine lv_iconst (v := (3 : Int32)) hx hb (zD_g DX6_undo 20 rfl) (by decide) ?_
    refine z_iald (k := 3) hx hb hK.1 hP 1 0 rfl rfl (by decide) rfl (zD_g DX6_undo 21 rfl) ?_
    refine lv_imul hx hb (zD_g DX6_undo 22 rfl) ?_
    refine lv_iadd hx hb (zD_g DX6_undo 23 rfl) ?_
    refine lv_topi (fun x3 ex3 => ?_)
    replace hf := zl_s hf x3 ex3
    refine lv_istore_n (lv' := [(1, .int x3), (0, .ref (q 0))]) hx hb (zD_g DX6_undo 24 rfl) rfl hl (by decide) rfl (fun ls hl => ?_)
    refine lv_iconst (v := (0 : Int32)) hx hb (zD_g DX6_undo 25 rfl) (by decide) ?_
    refine lv_istore_n (lv' := [(2, .int (0 : Int32)), (1, .int x3), (0, .ref (q 0))]) hx hb (zD_g DX6_undo 26 rfl) rfl hl (by decide) rfl (fun ls hl => ?_)
    have hL6 : ∀ (k6 : (Nat → Int32) → Option (Int32 × (Nat → Int32) × (Nat → Int32))) (hk6 : ∀ (book_11 : Nat → Int32), k6 book_11 = some (r, d_book, d_refused) → ∀ (H : Heap) (locs : List Loc), va_P D vwCl (cMod cI cZ q quiet mabove mbelow typed mat mstart mtoken mvalue many book_11 images mkept aside refused text items drawn row best) H → va_D A (cMod cI cZ q quiet mabove mbelow typed mat mstart mtoken mvalue many book_11 images mkept aside refused text items drawn row best) → va_S A s.heap H locs → ∀ (ls : Array Slot), lv_has ls 3 [(0, .ref (q 0)), (1, .int x3)] → W p l e rm6_undo s m args below meth c H locs 0 0 Q (F0 m 68 ls [])) (n6 : Nat) (y4 : Int32) (book_5 : Nat → Int32), L6_undo_39 k6 x3 n6 y4 book_5 = some (r, d_book, d_refused) → ∀ (H : Heap) (locs : List Loc), va_P D vwCl (cMod cI cZ q quiet mabove mbelow typed mat mstart mtoken mvalue many book_5 images mkept aside refused text items drawn row best) H → va_D A (cMod cI cZ q quiet mabove mbelow typed mat mstart mtoken mvalue many book_5 images mkept aside refused text items drawn row best) → va_S A s.heap H locs → ∀ (ls : Array Slot), lv_has ls 3 [(0, .ref (q 0)), (1, .int x3), (2, .int y4)] → W p l e rm6_undo s m args below meth c H locs 0 0 Q (F0 m 39 ls []) := by
      intro k6 hk6 n6
      induction n6 with
      | zero =>
        intro y4 book_5 hf
        cases hf
      | succ n6 ih6 =>
        intro y4 book_5 hf H locs hP hD hS ls hl
        rw [L6_undo_39] at hf
        refine lv_iload_n hx hb (zD_g DX6_undo 27 rfl) rfl (lv_at hl 2 rfl) ?_
        refine lv_bipush (v := (8 : Int32)) hx hb (zD_g DX6_undo 28 rfl) (by decide) ?_
        refine lv_icmp_ge (tgt := 68) hx hb (zD_g DX6_undo 29 rfl) (by decide) (fun c7 => ?_) (fun c7 => ?_)
        · replace hf := z_t c7 hf
          exact hk6 _ hf _ _ hP hD hS ls (lv_sub hl [0, 1] rfl)
        · replace hf := z_f c7 hf
          refine lv_aload_n hx hb (zD_g DX6_undo 30 rfl) rfl (lv_at hl 0 rfl) ?_
          refine va_get (D := D) (ci := 5) (v := .ref (q 1)) (C := RX6) (T := TX6) (N := 19) hx hb hts in6_undo_6 hown hK.1 hP 0 rfl rfl 0 (by decide) (hts _ (List.mem_of_getElem? (i := 1) rfl)) (fun _ h9 => h9) rfl (zD_g DX6_undo 31 rfl) ?_
          refine lv_bipush (v := (36 : Int32)) hx hb (zD_g DX6_undo 32 rfl) (by decide) ?_
          refine lv_iload_n hx hb (zD_g DX6_undo 33 rfl) rfl (lv_at hl 2 rfl) ?_
          refine lv_iadd hx hb (zD_g DX6_undo 34 rfl) ?_
          refine lv_aload_n hx hb (zD_g DX6_undo 35 rfl) rfl (lv_at hl 0 rfl) ?_
          refine va_get (D := D) (ci := 5) (v := .ref (q 1)) (C := RX6) (T := TX6) (N := 19) hx hb hts in6_undo_6 hown hK.1 hP 0 rfl rfl 0 (by decide) (hts _ (List.mem_of_getElem? (i := 1) rfl)) (fun _ h9 => h9) rfl (zD_g DX6_undo 36 rfl) ?_
          refine lv_iload_n hx hb (zD_g DX6_undo 37 rfl) rfl (lv_at hl 1 rfl) ?_
          refine lv_iload_n hx hb (zD_g DX6_undo 38 rfl) rfl (lv_at hl 2 rfl) ?_
          refine lv_iadd hx hb (zD_g DX6_undo 39 rfl) ?_
          obtain ⟨h8, hf⟩ := zg_s hf
          refine z_iald (k := (x3 + y4).toNatClampNeg) hx hb hK.1 hP 1 0 rfl rfl h8 rfl (zD_g DX6_undo 40 rfl) ?_
          refine lv_topi (fun x9 ex9 => ?_)
          replace hf := zl_s hf x9 ex9
          obtain ⟨h10, hf⟩ := zg_s hf
          refine z_iast (k := ((36 : Int32) + y4).toNatClampNeg) (ws' := (cMod cI cZ q quiet mabove mbelow typed mat mstart mtoken mvalue many (upd book_5 (((36 : Int32) + y4).toNatClampNeg) x9) images mkept aside refused text items drawn row best)) hx hb hK.1 hP hD hS 1 0 rfl rfl h10 rfl rfl (zD_g DX6_undo 41 rfl) (fun H locs hP hD hS => ?_)
          refine lv_iinc (v := y4 + 1) (lv' := [(2, .int (y4 + 1)), (0, .ref (q 0)), (1, .int x3)]) (k := 2) hx hb (zD_g DX6_undo 42 rfl) hl rfl rfl (by decide) rfl (fun ls hl => ?_)
          refine lv_goto (tgt := 39) hx hb (zD_g DX6_undo 43 rfl) (by decide) ?_
          exact ih6 _ _ hf _ _ hP hD hS ls (lv_sub hl [1, 2, 0] rfl)
    refine hL6 _ (fun book_11 hf H locs hP hD hS ls hl => ?_) _ _ _ hf _ _ hP hD hS ls (lv_sub hl [2, 1, 0] rfl)
    refine lv_iconst (v := (0 : Int32)) hx hb (zD_g DX6_undo 44 rfl) (by decide) ?_
    refine lv_istore_n (lv' := [(2, .int (0 : Int32)), (0, .ref (q 0)), (1, .int x3)]) hx hb (zD_g DX6_undo 45 rfl) rfl hl (by decide) rfl (fun ls hl => ?_)
    have hL14 : ∀ (k14 : (Nat → Int32) → Option (Int32 × (Nat → Int32) × (Nat → Int32))) (hk14 : ∀ (book_19 : Nat → Int32), k14 book_19 = some (r, d_book, d_refused) → ∀ (H : Heap) (locs : List Loc), va_P D vwCl (cMod cI cZ q quiet mabove mbelow typed mat mstart mtoken mvalue many book_19 images mkept aside refused text items drawn row best) H → va_D A (cMod cI cZ q quiet mabove mbelow typed mat mstart mtoken mvalue many book_19 images mkept aside refused text items drawn row best) → va_S A s.heap H locs → ∀ (ls : Array Slot), lv_has ls 3 [(0, .ref (q 0)), (1, .int x3)] → W p l e rm6_undo s m args below meth c H locs 0 0 Q (F0 m 102 ls [])) (n14 : Nat) (y12 : Int32) (book_13 : Nat → Int32), L6_undo_70 k14 x3 n14 y12 book_13 = some (r, d_book, d_refused) → ∀ (H : Heap) (locs : List Loc), va_P D vwCl (cMod cI cZ q quiet mabove mbelow typed mat mstart mtoken mvalue many book_13 images mkept aside refused text items drawn row best) H → va_D A (cMod cI cZ q quiet mabove mbelow typed mat mstart mtoken mvalue many book_13 images mkept aside refused text items drawn row best) → va_S A s.heap H locs → ∀ (ls : Array Slot), lv_has ls 3 [(0, .ref (q 0)), (1, .int x3), (2, .int y12)] → W p l e rm6_undo s m args below meth c H locs 0 0 Q (F0 m 70 ls []) := by
      intro k14 hk14 n14
      induction n14 with
      | zero =>
        intro y12 book_13 hf
        cases hf
      | succ n14 ih14 =>
        intro y12 book_13 hf H locs hP hD hS ls hl
        rw [L6_undo_70] at hf
        refine lv_iload_n hx hb (zD_g DX6_undo 46 rfl) rfl (lv_at hl 2 rfl) ?_
        refine lv_bipush (v := (6 : Int32)) hx hb (zD_g DX6_undo 47 rfl) (by decide) ?_
        refine lv_icmp_ge (tgt := 102) hx hb (zD_g DX6_undo 48 rfl) (by decide) (fun c15 => ?_) (fun c15 => ?_)
        · replace hf := z_t c15 hf
          exact hk14 _ hf _ _ hP hD hS ls (lv_sub hl [0, 1] rfl)
        · replace hf := z_f c15 hf
          refine lv_aload_n hx hb (zD_g DX6_undo 49 rfl) rfl (lv_at hl 0 rfl) ?_
          refine va_get (D := D) (ci := 5) (v := .ref (q 1)) (C := RX6) (T := TX6) (N := 19) hx hb hts in6_undo_6 hown hK.1 hP 0 rfl rfl 0 (by decide) (hts _ (List.mem_of_getElem? (i := 1) rfl)) (fun _ h9 => h9) rfl (zD_g DX6_undo 50 rfl) ?_
          refine lv_bipush (v := (68 : Int32)) hx hb (zD_g DX6_undo 51 rfl) (by decide) ?_
          refine lv_iload_n hx hb (zD_g DX6_undo 52 rfl) rfl (lv_at hl 2 rfl) ?_
          refine lv_iadd hx hb (zD_g DX6_undo 53 rfl) ?_
          refine lv_aload_n hx hb (zD_g DX6_undo 54 rfl) rfl (lv_at hl 0 rfl) ?_
          refine va_get (D := D) (ci := 5) (v := .ref (q 1)) (C := RX6) (T := TX6) (N := 19) hx hb hts in6_undo_6 hown hK.1 hP 0 rfl rfl 0 (by decide) (hts _ (List.mem_of_getElem? (i := 1) rfl)) (fun _ h9 => h9) rfl (zD_g DX6_undo 55 rfl) ?_
          refine lv_iload_n hx hb (zD_g DX6_undo 56 rfl) rfl (lv_at hl 1 rfl) ?_
          refine lv_bipush (v := (8 : Int32)) hx hb (zD_g DX6_undo 57 rfl) (by decide) ?_
          refine lv_iadd hx hb (zD_g DX6_undo 58 rfl) ?_
          refine lv_iload_n hx hb (zD_g DX6_undo 59 rfl) rfl (lv_at hl 2 rfl) ?_
          refine lv_iadd hx hb (zD_g DX6_undo 60 rfl) ?_
          obtain ⟨h16, hf⟩ := zg_s hf
          refine z_iald (k := ((x3 + (8 : Int32)) + y12).toNatClampNeg) hx hb hK.1 hP 1 0 rfl rfl h16 rfl (zD_g DX6_undo 61 rfl) ?_
          refine lv_topi (fun x17 ex17 => ?_)
          replace hf := zl_s hf x17 ex17
          obtain ⟨h18, hf⟩ := zg_s hf
          refine z_iast (k := ((68 : Int32) + y12).toNatClampNeg) (ws' := (cMod cI cZ q quiet mabove mbelow typed mat mstart mtoken mvalue many (upd book_13 (((68 : Int32) + y12).toNatClampNeg) x17) images mkept aside refused text items drawn row best)) hx hb hK.1 hP hD hS 1 0 rfl rfl h18 rfl rfl (zD_g DX6_undo 62 rfl) (fun H locs hP hD hS => ?_)
          refine lv_iinc (v := y12 + 1) (lv' := [(2, .int (y12 + 1)), (0, .ref (q 0)), (1, .int x3)]) (k := 2) hx hb (zD_g DX6_undo 63 rfl) hl rfl rfl (by decide) rfl (fun ls hl => ?_)
          refine lv_goto (tgt := 70) hx hb (zD_g DX6_undo 64 rfl) (by decide) ?_
          exact ih14 _ _ hf _ _ hP hD hS ls (lv_sub hl [1, 2, 0] rfl)
    refine hL14 _ (fun book_19 hf H locs hP hD hS ls hl => ?_) _ _ _ hf _ _ hP hD hS ls (lv_sub hl [1, 2, 0] rfl)
    refine lv_aload_n hx hb (zD_g DX6_undo 65 rfl) rfl (lv_at hl 0 rfl) ?_
    refine va_get (D := D) (ci := 5) (v := .ref (q 1)) (C := RX6) (T := TX6) (N := 19) hx hb hts in6_undo_6 hown hK.1 hP 0 rfl rfl 0 (by decide) (hts _ (List.mem_of_getElem? (i := 1) rfl)) (fun _ h9 => h9) rfl (zD_g DX6_undo 66 rfl) ?_
    refine lv_iconst (v := (2 : Int32)) hx hb (zD_g DX6_undo 67 rfl) (by decide) ?_
    refine lv_aload_n hx hb (zD_g DX6_undo 68 rfl) rfl (lv_at hl 0 rfl) ?_
    refine va_get (D := D) (ci := 5) (v := .ref (q 1)) (C := RX6) (T := TX6) (N := 19) hx hb hts in6_undo_6 hown hK.1 hP 0 rfl rfl 0 (by decide) (hts _ (List.mem_of_getElem? (i := 1) rfl)) (fun _ h9 => h9) rfl (zD_g DX6_undo 69 rfl) ?_
    refine lv_iload_n hx hb (zD_g DX6_undo 70 rfl) rfl (lv_at hl 1 rfl) ?_
    refine lv_bipush (v := (14 : Int32)) hx hb (zD_g DX6_undo 71 rfl) (by decide) ?_
    refine lv_iadd hx hb (zD_g DX6_undo 72 rfl) ?_
    obtain ⟨h20, hf⟩ := zg_s hf
    refine z_iald (k := (x3 + (14 : Int32)).toNatClampNeg) hx hb hK.1 hP 1 0 rfl rfl h20 rfl (zD_g DX6_undo 73 rfl) ?_
    refine lv_topi (fun x21 ex21 => ?_)
    replace hf := zl_s hf x21 ex21
    refine z_iast (k := 2) (ws' := (cMod cI cZ q quiet mabove mbelow typed mat mstart mtoken mvalue many (upd book_19 2 x21) images mkept aside refused text items drawn row best)) hx hb hK.1 hP hD hS 1 0 rfl rfl (by decide) rfl rfl (zD_g DX6_undo 74 rfl) (fun H locs hP hD hS => ?_)
    refine lv_aload_n hx hb (zD_g DX6_undo 75 rfl) rfl (lv_at hl 0 rfl) ?_
    refine va_get (D := D) (ci := 5) (v := .ref (q 1)) (C := RX6) (T := TX6) (N := 19) hx hb hts in6_undo_6 hown hK.1 hP 0 rfl rfl 0 (by decide) (hts _ (List.mem_of_getElem? (i := 1) rfl)) (fun _ h9 => h9) rfl (zD_g DX6_undo 76 rfl) ?_
    refine lv_bipush (v := (92 : Int32)) hx hb (zD_g DX6_undo 77 rfl) (by decide) ?_
    refine lv_aload_n hx hb (zD_g DX6_undo 78 rfl) rfl (lv_at hl 0 rfl) ?_
    refine va_get (D := D) (ci := 5) (v := .ref (q 1)) (C := RX6) (T := TX6) (N := 19) hx hb hts in6_undo_6 hown hK.1 hP 0 rfl rfl 0 (by decide) (hts _ (List.mem_of_getElem? (i := 1) rfl)) (fun _ h9 => h9) rfl (zD_g DX6_undo 79 rfl) ?_
    refine lv_iload_n hx hb (zD_g DX6_undo 80 rfl) rfl (lv_at hl 1 rfl) ?_
    refine lv_bipush (v := (15 : Int32)) hx hb (zD_g DX6_undo 81 rfl) (by decide) ?_
    refine lv_iadd hx hb (zD_g DX6_undo 82 rfl) ?_
    obtain ⟨h22, hf⟩ := zg_s hf
    refine z_iald (k := (x3 + (15 : Int32)).toNatClampNeg) hx hb hK.1 hP 1 0 rfl rfl h22 rfl (zD_g DX6_undo 83 rfl) ?_
    refine lv_topi (fun x23 ex23 => ?_)
    replace hf := zl_s hf x23 ex23
    refine z_iast (k := 92) (ws' := (cMod cI cZ q quiet mabove mbelow typed mat mstart mtoken mvalue many (upd (upd book_19 2 x21) 92 x23) images mkept aside refused text items drawn row best)) hx hb hK.1 hP hD hS 1 0 rfl rfl (by decide) rfl rfl (zD_g DX6_undo 84 rfl) (fun H locs hP hD hS => ?_)
    refine lv_aload_n hx hb (zD_g DX6_undo 85 rfl) rfl (lv_at hl 0 rfl) ?_
    refine va_get (D := D) (ci := 5) (v := .ref (q 1)) (C := RX6) (T := TX6) (N := 19) hx hb hts in6_undo_6 hown hK.1 hP 0 rfl rfl 0 (by decide) (hts _ (List.mem_of_getElem? (i := 1) rfl)) (fun _ h9 => h9) rfl (zD_g DX6_undo 86 rfl) ?_
    refine lv_bipush (v := (93 : Int32)) hx hb (zD_g DX6_undo 87 rfl) (by decide) ?_
    refine lv_aload_n hx hb (zD_g DX6_undo 88 rfl) rfl (lv_at hl 0 rfl) ?_
    refine va_get (D := D) (ci := 5) (v := .ref (q 1)) (C := RX6) (T := TX6) (N := 19) hx hb hts in6_undo_6 hown hK.1 hP 0 rfl rfl 0 (by decide) (hts _ (List.mem_of_getElem? (i := 1) rfl)) (fun _ h9 => h9) rfl (zD_g DX6_undo 89 rfl) ?_
    refine lv_iload_n hx hb (zD_g DX6_undo 90 rfl) rfl (lv_at hl 1 rfl) ?_
    refine lv_bipush (v := (16 : Int32)) hx hb (zD_g DX6_undo 91 rfl) (by decide) ?_
    refine lv_iadd hx hb (zD_g DX6_undo 92 rfl) ?_
    obtain ⟨h24, hf⟩ := zg_s hf
    refine z_iald (k := (x3 + (16 : Int32)).toNatClampNeg) hx hb hK.1 hP 1 0 rfl rfl h24 rfl (zD_g DX6_undo 93 rfl) ?_
    refine lv_topi (fun x25 ex25 => ?_)
    replace hf := zl_s hf x25 ex25
    refine z_iast (k := 93) (ws' := (cMod cI cZ q quiet mabove mbelow typed mat mstart mtoken mvalue many (upd (upd (upd book_19 2 x21) 92 x23) 93 x25) images mkept aside refused text items drawn row best)) hx hb hK.1 hP hD hS 1 0 rfl rfl (by decide) rfl rfl (zD_g DX6_undo 94 rfl) (fun H locs hP hD hS => ?_)
    refine lv_iconst (v := (1 : Int32)) hx hb (zD_g DX6_undo 95 rfl) (by decide) ?_
    cases hf
    exact hret _ _ _ _ hP hD hS (zD_g DX6_undo 96 rfl)
  · replace hf := z_t c1 hf
    refine lv_aload_n hx hb (zD_g DX6_undo 5 rfl) rfl (lv_at hl 0 rfl) ?_
    obtain ⟨r26, refused_27, hc28, hf⟩ := zb2_s hf
    refine z_Vm (As := []) (rest := []) (ws' := (cMod cI cZ q quiet mabove mbelow typed mat mstart mtoken mvalue many book images mkept aside refused_27 text items drawn row best)) ⟨hx, hb, hml, hown, hts⟩ hK (c6_no (quiet := quiet) (mabove := mabove) (mbelow := mbelow) (typed := typed) (mat := mat) (mstart := mstart) (mtoken := mtoken) (mvalue := mvalue) (many := many) (book := book) (images := images) (mkept := mkept) (aside := aside) (refused := refused) (text := text) (items := items) (drawn := drawn) (row := row) (best := best) (q := q) hc28) (cwV 0 hts gX6_undo_X6_no rfl rfl rfl hd6_no ⟨Nat.le_of_ble_eq_true rfl, Nat.le_of_ble_eq_true rfl⟩) hP hD hS hA 11 [0, 1, 2, 3, 4, 5, 6, 7, 8, 9, 10] [] [0, 1, 2, 3, 4, 5, 6, 7, 8, 9, 10] (by decide +kernel) rfl rfl rfl rfl rfl rfl rfl hl.1 rfl rfl (Nat.le_of_ble_eq_true rfl) (zD_g DX6_undo 6 rfl) ⟨Nat.zero_le _, Nat.zero_le _⟩ (fun H locs hP hD hS => ?_)
    cases hf
    exact hret _ _ _ _ hP hD hS (zD_g DX6_undo 7 rfl)
theorem hd6_undo : yX6_undo.cls = RX6 ∧ yX6_undo.cls ≠ "java/lang/invoke/MethodHandle" ∧ yX6_undo.cls ≠ "java/lang/invoke/VarHandle" ∧ (parseMethodDescriptor yX6_undo.desc).map (fun d => d.parameters.length) = some 0 := by decide +kernel
abbrev dlX6_of : List (Nat × Instr × Nat) := [(0, .aload_n 0, 1), (1, .iload_n 1, 1), (2, .invokevirtual 84, 3), (5, .ifCond .eq 15, 3), (8, .iload_n 2, 1), (9, .i2l, 1), (10, .lconst 0, 1), (11, .ldc2_w 212, 3), (14, .invokestatic 56, 3), (17, .ifCond .ne 8, 3), (20, .aload_n 0, 1), (21, .invokevirtual 66, 3), (24, .ireturn, 1), (25, .aload_n 0, 1), (26, .iload_n 1, 1), (27, .invokevirtual 87, 3), (30, .istore_n 3, 1), (31, .iload_n 2, 1), (32, .iconst 4, 1), (33, .if_icmp .ne 12, 3), (36, .aload_n 0, 1), (37, .iload_n 1, 1), (38, .iload_n 3, 1), (39, .invokevirtual 200, 3), (42, .goto 26, 3), (45, .iload_n 2, 1), (46, .iconst 5, 1), (47, .if_icmp .ne 7, 3), (50, .iload_n 3, 1), (51, .goto 17, 3), (54, .aload_n 0, 1), (55, .iload_n 1, 1), (56, .iload_n 3, 1), (57, .invokevirtual 203, 3), (60, .ifCond .eq 7, 3), (63, .iconst 1, 1), (64, .goto 4, 3), (67, .iconst 0, 1), (68, .istore 4, 2), (70, .iload_n 2, 1), (71, .ifCond .ne 15, 3), (74, .aload_n 0, 1), (75, .getfield 7, 3), (78, .bipush 44, 2), (80, .iload_n 1, 1), (81, .iadd, 1), (82, .iaload, 1), (83, .goto 50, 3), (86, .iload_n 2, 1), (87, .iconst 1, 1), (88, .if_icmp .ne 15, 3), (91, .aload_n 0, 1), (92, .getfield 7, 3), (95, .bipush 68, 2), (97, .iload_n 1, 1), (98, .iadd, 1), (99, .iaload, 1), (100, .goto 33, 3), (103, .iload_n 2, 1), (104, .iconst 2, 1), (105, .if_icmp .ne 12, 3), (108, .aload_n 0, 1), (109, .iload_n 1, 1), (110, .iload_n 3, 1), (111, .invokevirtual 191, 3), (114, .goto 19, 3), (117, .iload_n 2, 1), (118, .iconst 3, 1), (119, .if_icmp .ne 12, 3), (122, .aload_n 0, 1), (123, .iload_n 1, 1), (124, .iload_n 3, 1), (125, .invokevirtual 185, 3), (128, .goto 5, 3), (131, .iload 4, 2), (133, .ireturn, 1)]
theorem DX6_of : zD cX6_of dlX6_of = true := by decide +kernel
set_option maxRecDepth 20000 in
theorem ggX6_of_X6_isGift : GoodIn wsX6_of wsX6_isGift := goodIn_r _ [7, 2, 8, 9, 6, 10, 57, 58, 59, 60, 61, 62, 63, 64, 65, 66, 67, 68, 69, 70, 71, 72, 73, 74, 75] (by decide +kernel) (by decide +kernel)
set_option maxRecDepth 20000 in
theorem gX6_of_X6_isGift : GoodIn wsX6_of (wsV RX6 84 RX6 yX6_isGift wsX6_isGift) := goodIn_app (goodIn_of _ (by decide +kernel)) ggX6_of_X6_isGift
set_option maxRecDepth 20000 in
theorem ggX6_of_X6_in : GoodIn wsX6_of wsX6_in := goodIn_r _ [10] (by decide +kernel) (by decide +kernel)
set_option maxRecDepth 20000 in
theorem gX6_of_X6_in : GoodIn wsX6_of (va_wsS RX6 56 yX6_in wsX6_in) := goodIn_app (goodIn_of _ (by decide +kernel)) ggX6_of_X6_in
set_option maxRecDepth 20000 in
theorem ggX6_of_X6_bad : GoodIn wsX6_of wsX6_bad := goodIn_r _ [14, 15, 16, 17, 6, 18, 19, 20, 57, 58, 59, 60, 61, 62, 63, 64, 65, 66, 67, 68, 69, 70, 71, 72, 73, 74, 75] (by decide +kernel) (by decide +kernel)
set_option maxRecDepth 20000 in
theorem gX6_of_X6_bad : GoodIn wsX6_of (wsV RX6 66 RX6 yX6_bad wsX6_bad) := goodIn_app (goodIn_of _ (by decide +kernel)) ggX6_of_X6_bad
set_option maxRecDepth 20000 in
theorem ggX6_of_X6_thingsIn : GoodIn wsX6_of wsX6_thingsIn := goodIn_r _ [24, 2, 57, 58, 59, 60, 61, 62, 63, 64, 65, 66, 67, 68, 69, 70, 71, 72, 73, 74, 75] (by decide +kernel) (by decide +kernel)
set_option maxRecDepth 20000 in
theorem gX6_of_X6_thingsIn : GoodIn wsX6_of (wsV RX6 87 RX6 yX6_thingsIn wsX6_thingsIn) := goodIn_app (goodIn_of _ (by decide +kernel)) ggX6_of_X6_thingsIn
set_option maxRecDepth 20000 in
theorem ggX6_of_X6_harms : GoodIn wsX6_of wsX6_harms := goodIn_r _ [28, 2, 29, 30, 31, 6, 32, 57, 58, 59, 60, 61, 62, 63, 64, 65, 66, 67, 68, 69, 70, 71, 72, 73, 74, 75] (by decide +kernel) (by decide +kernel)
set_option maxRecDepth 20000 in
theorem gX6_of_X6_harms : GoodIn wsX6_of (wsV RX6 200 RX6 yX6_harms wsX6_harms) := goodIn_app (goodIn_of _ (by decide +kernel)) ggX6_of_X6_harms
set_option maxRecDepth 20000 in
theorem ggX6_of_X6_passes : GoodIn wsX6_of wsX6_passes := goodIn_r _ [36, 2, 37, 38, 39, 6, 40, 41, 42, 43, 44, 45, 46, 47, 48, 29, 30, 31, 32, 49, 50, 51, 52, 53, 54, 55, 56, 57, 58, 59, 60, 61, 62, 63, 64, 65, 66, 67, 68, 69, 70, 71, 72, 73, 74, 75] (by decide +kernel) (by decide +kernel)
set_option maxRecDepth 20000 in
theorem gX6_of_X6_passes : GoodIn wsX6_of (wsV RX6 203 RX6 yX6_passes wsX6_passes) := goodIn_app (goodIn_of _ (by decide +kernel)) ggX6_of_X6_passes
set_option maxRecDepth 20000 in
theorem ggX6_of_X6_weighs : GoodIn wsX6_of wsX6_weighs := goodIn_r _ [56, 2, 29, 30, 31, 6, 32, 57, 58, 59, 60, 61, 62, 63, 64, 65, 66, 67, 68, 69, 70, 71, 72, 73, 74, 75] (by decide +kernel) (by decide +kernel)
set_option maxRecDepth 20000 in
theorem gX6_of_X6_weighs : GoodIn wsX6_of (wsV RX6 191 RX6 yX6_weighs wsX6_weighs) := goodIn_app (goodIn_of _ (by decide +kernel)) ggX6_of_X6_weighs
set_option maxRecDepth 20000 in
theorem ggX6_of_X6_sounds : GoodIn wsX6_of wsX6_sounds := goodIn_r _ [48, 2, 29, 30, 31, 6, 32, 57, 58, 59, 60, 61, 62, 63, 64, 65, 66, 67, 68, 69, 70, 71, 72, 73, 74, 75] (by decide +kernel) (by decide +kernel)
set_option maxRecDepth 20000 in
theorem gX6_of_X6_sounds : GoodIn wsX6_of (wsV RX6 185 RX6 yX6_sounds wsX6_sounds) := goodIn_app (goodIn_of _ (by decide +kernel)) ggX6_of_X6_sounds
def f6_of (quiet : Int32) (book : Nat → Int32) (refused : Nat → Int32) (a_g : Int32) (a_what : Int32) : Option (Int32 × (Nat → Int32)) := zb1 (f6_isGift book a_g) (fun r1 => if r1 = 0 then zb2 (f6_bad quiet refused) (fun r4 refused_5 => some (r4, refused_5)) else zb1 (f6_in ((a_what).toInt64) (0 : Int64) (6 : Int64)) (fun r7 => if r7 = 0 then zb2 (f6_bad quiet refused) (fun r31 refused_32 => some (r31, refused_32)) else zb1 (f6_thingsIn book a_g) (fun r10 => zb1 (if a_what = (4 : Int32) then zb1 (f6_harms book a_g r10) (fun r29 => some r29) else if a_what = (5 : Int32) then some r10 else zb1 (f6_passes book a_g r10) (fun r26 => if r26 = 0 then some (0 : Int32) else some (1 : Int32))) (fun v13 => if a_what = 0 then zg ((44 : Int32) + a_g) 230 (some ((book ((44 : Int32) + a_g).toNatClampNeg), refused)) else if a_what = (1 : Int32) then zg ((68 : Int32) + a_g) 230 (some ((book ((68 : Int32) + a_g).toNatClampNeg), refused)) else if a_what = (2 : Int32) then zb1 (f6_weighs book a_g r10) (fun r20 => some (r20, refused)) else if a_what = (3 : Int32) then zb1 (f6_sounds book a_g r10) (fun r18 => some (r18, refused)) else some (v13, refused)))))
abbrev rm6_of : Room := { frames := 4, cells := 0, slots := 0, locals := 93 }
theorem in6_of_6 : ∀ w ∈ wsX60, w ∈ wsX6_of := fun w h => List.mem_cons_of_mem _ (List.mem_append_right _ h)
set_option maxHeartbeats 4000000 in
set_option maxRecDepth 100000 in
theorem c6_of {l : Launch} {D : va_G} {cI cZ cB : ClassId} {q : Nat → Nat} {sz : Nat} {quiet : Int32} {mabove : Int64} {mbelow : Int64} {typed : Int32} {mat : Int32} {mstart : Int32} {mtoken : Int32} {mvalue : Int32} {many : Int32} {book : Nat → Int32} {images : Nat → Int32} {mkept : Nat → Int32} {aside : Nat → Int32} {refused : Nat → Int32} {text : Nat → Int32} {items : Nat → Int32} {drawn : Nat → Int32} {row : Nat → Int32} {best : Nat → Int32} {a_g : Int32} {a_what : Int32} {r : Int32} {d_refused : Nat → Int32} (hf : f6_of quiet book refused a_g a_what = some (r, d_refused)) : Met l yX6_of wsX6_of rm6_of (zPm D cI cZ cB [.ref (q 0), .int a_g, .int a_what] sz (cMod cI cZ q quiet mabove mbelow typed mat mstart mtoken mvalue many book images mkept aside refused text items drawn row best)) (zQm D (some (.int r)) (cMod cI cZ q quiet mabove mbelow typed mat mstart mtoken mvalue many book images mkept aside d_refused text items drawn row best) (va_A (cMod cI cZ q quiet mabove mbelow typed mat mstart mtoken mvalue many book images mkept aside refused text items drawn row best) sz)) 0 0 (va_A (cMod cI cZ q quiet mabove mbelow typed mat mstart mtoken mvalue many book images mkept aside refused text items drawn row best) sz) := by
  unfold f6_of at hf
  refine z_mutI RX6 (by decide +kernel) rfl rfl (Nat.le_of_ble_eq_true rfl) ?_
  intro p e s m args below meth c Q A ls hx hb hml hown hts hK hP hD hS hA hret hl
  have hl : lv_has ls 5 [(0, .ref (q 0)), (1, .int a_g), (2, .int a_what)] := hl
  refine lv_aload_n hx hb (zD_g DX6_of 0 rfl) rfl (lv_at hl 0 rfl) ?_
  refine lv_iload_n hx hb (zD_g DX6_of 1 rfl) rfl (lv_at hl 1 rfl) ?_
  obtain ⟨r1, hc2, hf⟩ := zb1_s hf
  refine z_Vp (As := [.int a_g]) (rest := []) ⟨hx, hb, hml, hown, hts⟩ hK (c6_isGift (quiet := quiet) (mabove := mabove) (mbelow := mbelow) (typed := typed) (mat := mat) (mstart := mstart) (mtoken := mtoken) (mvalue := mvalue) (many := many) (book := book) (images := images) (mkept := mkept) (aside := aside) (refused := refused) (text := text) (items := items) (drawn := drawn) (row := row) (best := best) (q := q) hc2) (cwV 1 hts gX6_of_X6_isGift rfl rfl rfl hd6_isGift ⟨Nat.le_of_ble_eq_true rfl, Nat.le_of_ble_eq_true rfl⟩) hP rfl rfl rfl rfl hl.1 rfl rfl (Nat.le_of_ble_eq_true rfl) (zD_g DX6_of 2 rfl) ⟨Nat.zero_le _, Nat.zero_le _⟩ ?_
  refine lv_if_eq (tgt := 20) hx hb (zD_g DX6_of 3 rfl) (by decide) (fun c3 => ?_) (fun c3 => ?_)
  · replace hf := z_t c3 hf
    refine lv_aload_n hx hb (zD_g DX6_of 10 rfl) rfl (lv_at hl 0 rfl) ?_
    obtain ⟨r4, refused_5, hc6, hf⟩ := zb2_s hf
    refine z_Vm (As := []) (rest := []) (ws' := (cMod cI cZ q quiet mabove mbelow typed mat mstart mtoken mvalue many book images mkept aside refused_5 text items drawn row best)) ⟨hx, hb, hml, hown, hts⟩ hK (c6_bad (quiet := quiet) (mabove := mabove) (mbelow := mbelow) (typed := typed) (mat := mat) (mstart := mstart) (mtoken := mtoken) (mvalue := mvalue) (many := many) (book := book) (images := images) (mkept := mkept) (aside := aside) (refused := refused) (text := text) (items := items) (drawn := drawn) (row := row) (best := best) (q := q) hc6) (cwV 0 hts gX6_of_X6_bad rfl rfl rfl hd6_bad ⟨Nat.le_of_ble_eq_true rfl, Nat.le_of_ble_eq_true rfl⟩) hP hD hS hA 11 [0, 1, 2, 3, 4, 5, 6, 7, 8, 9, 10] [] [0, 1, 2, 3, 4, 5, 6, 7, 8, 9, 10] (by decide +kernel) rfl rfl rfl rfl rfl rfl rfl hl.1 rfl rfl (Nat.le_of_ble_eq_true rfl) (zD_g DX6_of 11 rfl) ⟨Nat.zero_le _, Nat.zero_le _⟩ (fun H locs hP hD hS => ?_)
    cases hf
    exact hret _ _ _ _ hP hD hS (zD_g DX6_of 12 rfl)
  · replace hf := z_f c3 hf
    refine lv_iload_n hx hb (zD_g DX6_of 4 rfl) rfl (lv_at hl 2 rfl) ?_
    refine lv_i2l (v := (a_what).toInt64) hx hb (zD_g DX6_of 5 rfl) rfl ?_
    refine lv_lconst (v := (0 : Int64)) hx hb (zD_g DX6_of 6 rfl) (by decide) ?_
    refine lv_ldc2 (v := (6 : Int64)) hx hb hown (hts _ (List.mem_of_getElem? (i := 1) rfl)) (zD_g DX6_of 7 rfl) ?_
    obtain ⟨r7, hc8, hf⟩ := zb1_s hf
    refine z_Sp (As := [.long ((a_what).toInt64), .long (0 : Int64), .long (6 : Int64)]) (rest := []) ⟨hx, hb, hml, hown, hts⟩ hK (c6_in  hc8) (va_cwS 3 hts gX6_of_X6_in rfl rfl rfl hd6_in ⟨Nat.le_of_ble_eq_true rfl, Nat.le_of_ble_eq_true rfl⟩) (hP.sub [] rfl) rfl hl.1 rfl rfl (Nat.le_of_ble_eq_true rfl) (zD_g DX6_of 8 rfl) ⟨Nat.zero_le _, Nat.zero_le _⟩ ?_
    refine lv_if_ne (tgt := 25) hx hb (zD_g DX6_of 9 rfl) (by decide) (fun c9 => ?_) (fun c9 => ?_)
    · replace hf := z_f c9 hf
      refine lv_aload_n hx hb (zD_g DX6_of 13 rfl) rfl (lv_at hl 0 rfl) ?_
      refine lv_iload_n hx hb (zD_g DX6_of 14 rfl) rfl (lv_at hl 1 rfl) ?_
      obtain ⟨r10, hc11, hf⟩ := zb1_s hf
      refine z_Vp (As := [.int a_g]) (rest := []) ⟨hx, hb, hml, hown, hts⟩ hK (c6_thingsIn (quiet := quiet) (mabove := mabove) (mbelow := mbelow) (typed := typed) (mat := mat) (mstart := mstart) (mtoken := mtoken) (mvalue := mvalue) (many := many) (book := book) (images := images) (mkept := mkept) (aside := aside) (refused := refused) (text := text) (items := items) (drawn := drawn) (row := row) (best := best) (q := q) hc11) (cwV 1 hts gX6_of_X6_thingsIn rfl rfl rfl hd6_thingsIn ⟨Nat.le_of_ble_eq_true rfl, Nat.le_of_ble_eq_true rfl⟩) hP rfl rfl rfl rfl hl.1 rfl rfl (Nat.le_of_ble_eq_true rfl) (zD_g DX6_of 15 rfl) ⟨Nat.zero_le _, Nat.zero_le _⟩ ?_
      refine lv_istore_n (lv' := [(3, .int r10), (0, .ref (q 0)), (1, .int a_g), (2, .int a_what)]) hx hb (zD_g DX6_of 16 rfl) rfl hl (by decide) rfl (fun ls hl => ?_)
      refine lv_iload_n hx hb (zD_g DX6_of 17 rfl) rfl (lv_at hl 3 rfl) ?_
      refine lv_iconst (v := (4 : Int32)) hx hb (zD_g DX6_of 18 rfl) (by decide) ?_
      obtain ⟨v13, hr24, hf⟩ := zb1_s hf
      have hJ24 : ∀ (H : Heap) (locs : List Loc), va_P D vwCl (cMod cI cZ q quiet mabove mbelow typed mat mstart mtoken mvalue many book images mkept aside refused text items drawn row best) H → va_D A (cMod cI cZ q quiet mabove mbelow typed mat mstart mtoken mvalue many book images mkept aside refused text items drawn row best) → va_S A s.heap H locs → ∀ (ls : Array Slot), lv_has ls 5 [(0, .ref (q 0)), (1, .int a_g), (2, .int a_what), (3, .int r10)] → W p l e rm6_of s m args below meth c H locs 0 0 Q (F0 m 68 ls [.int v13]) := by
        intro H locs hP hD hS ls hl
        refine lv_istore (lv' := [(4, .int v13), (0, .ref (q 0)), (1, .int a_g), (2, .int a_what), (3, .int r10)]) hx hb (zD_g DX6_of 38 rfl) hl (by decide) rfl (fun ls hl => ?_)
        refine lv_iload_n hx hb (zD_g DX6_of 39 rfl) rfl (lv_at hl 3 rfl) ?_
        refine lv_if_ne (tgt := 86) hx hb (zD_g DX6_of 40 rfl) (by decide) (fun c14 => ?_) (fun c14 => ?_)
        · replace hf := z_f c14 hf
          refine lv_iload_n hx hb (zD_g DX6_of 48 rfl) rfl (lv_at hl 3 rfl) ?_
          refine lv_iconst (v := (1 : Int32)) hx hb (zD_g DX6_of 49 rfl) (by decide) ?_
          refine lv_icmp_ne (tgt := 103) hx hb (zD_g DX6_of 50 rfl) (by decide) (fun c15 => ?_) (fun c15 => ?_)
          · replace hf := z_f c15 hf
            refine lv_iload_n hx hb (zD_g DX6_of 58 rfl) rfl (lv_at hl 3 rfl) ?_
            refine lv_iconst (v := (2 : Int32)) hx hb (zD_g DX6_of 59 rfl) (by decide) ?_
            refine lv_icmp_ne (tgt := 117) hx hb (zD_g DX6_of 60 rfl) (by decide) (fun c16 => ?_) (fun c16 => ?_)
            · replace hf := z_f c16 hf
              refine lv_iload_n hx hb (zD_g DX6_of 66 rfl) rfl (lv_at hl 3 rfl) ?_
              refine lv_iconst (v := (3 : Int32)) hx hb (zD_g DX6_of 67 rfl) (by decide) ?_
              refine lv_icmp_ne (tgt := 131) hx hb (zD_g DX6_of 68 rfl) (by decide) (fun c17 => ?_) (fun c17 => ?_)
              · replace hf := z_f c17 hf
                refine lv_iload hx hb (zD_g DX6_of 74 rfl) (lv_at hl 0 rfl) ?_
                cases hf
                exact hret _ _ _ _ hP hD hS (zD_g DX6_of 75 rfl)
              · replace hf := z_t c17 hf
                refine lv_aload_n hx hb (zD_g DX6_of 69 rfl) rfl (lv_at hl 1 rfl) ?_
                refine lv_iload_n hx hb (zD_g DX6_of 70 rfl) rfl (lv_at hl 2 rfl) ?_
                refine lv_iload_n hx hb (zD_g DX6_of 71 rfl) rfl (lv_at hl 4 rfl) ?_
                obtain ⟨r18, hc19, hf⟩ := zb1_s hf
                refine z_Vp (As := [.int a_g, .int r10]) (rest := []) ⟨hx, hb, hml, hown, hts⟩ hK (c6_sounds (quiet := quiet) (mabove := mabove) (mbelow := mbelow) (typed := typed) (mat := mat) (mstart := mstart) (mtoken := mtoken) (mvalue := mvalue) (many := many) (book := book) (images := images) (mkept := mkept) (aside := aside) (refused := refused) (text := text) (items := items) (drawn := drawn) (row := row) (best := best) (q := q) hc19) (cwV 2 hts gX6_of_X6_sounds rfl rfl rfl hd6_sounds ⟨Nat.le_of_ble_eq_true rfl, Nat.le_of_ble_eq_true rfl⟩) hP rfl rfl rfl rfl hl.1 rfl rfl (Nat.le_of_ble_eq_true rfl) (zD_g DX6_of 72 rfl) ⟨Nat.zero_le _, Nat.zero_le _⟩ ?_
                refine lv_goto (tgt := 133) hx hb (zD_g DX6_of 73 rfl) (by decide) ?_
                cases hf
                exact hret _ _ _ _ hP hD hS (zD_g DX6_of 75 rfl)
            · replace hf := z_t c16 hf
              refine lv_aload_n hx hb (zD_g DX6_of 61 rfl) rfl (lv_at hl 1 rfl) ?_
              refine lv_iload_n hx hb (zD_g DX6_of 62 rfl) rfl (lv_at hl 2 rfl) ?_
              refine lv_iload_n hx hb (zD_g DX6_of 63 rfl) rfl (lv_at hl 4 rfl) ?_
              obtain ⟨r20, hc21, hf⟩ := zb1_s hf
              refine z_Vp (As := [.int a_g, .int r10]) (rest := []) ⟨hx, hb, hml, hown, hts⟩ hK (c6_weighs (quiet := quiet) (mabove := mabove) (mbelow := mbelow) (typed := typed) (mat := mat) (mstart := mstart) (mtoken := mtoken) (mvalue := mvalue) (many := many) (book := book) (images := images) (mkept := mkept) (aside := aside) (refused := refused) (text := text) (items := items) (drawn := drawn) (row := row) (best := best) (q := q) hc21) (cwV 2 hts gX6_of_X6_weighs rfl rfl rfl hd6_weighs ⟨Nat.le_of_ble_eq_true rfl, Nat.le_of_ble_eq_true rfl⟩) hP rfl rfl rfl rfl hl.1 rfl rfl (Nat.le_of_ble_eq_true rfl) (zD_g DX6_of 64 rfl) ⟨Nat.zero_le _, Nat.zero_le _⟩ ?_
              refine lv_goto (tgt := 133) hx hb (zD_g DX6_of 65 rfl) (by decide) ?_
              cases hf
              exact hret _ _ _ _ hP hD hS (zD_g DX6_of 75 rfl)
          · replace hf := z_t c15 hf
            refine lv_aload_n hx hb (zD_g DX6_of 51 rfl) rfl (lv_at hl 1 rfl) ?_
            refine va_get (D := D) (ci := 5) (v := .ref (q 1)) (C := RX6) (T := TX6) (N := 19) hx hb hts in6_of_6 hown hK.1 hP 0 rfl rfl 0 (by decide) (hts _ (List.mem_of_getElem? (i := 2) rfl)) (fun _ h9 => h9) rfl (zD_g DX6_of 52 rfl) ?_
            refine lv_bipush (v := (68 : Int32)) hx hb (zD_g DX6_of 53 rfl) (by decide) ?_
            refine lv_iload_n hx hb (zD_g DX6_of 54 rfl) rfl (lv_at hl 2 rfl) ?_
            refine lv_iadd hx hb (zD_g DX6_of 55 rfl) ?_
            obtain ⟨h22, hf⟩ := zg_s hf
            refine z_iald (k := ((68 : Int32) + a_g).toNatClampNeg) hx hb hK.1 hP 1 0 rfl rfl h22 rfl (zD_g DX6_of 56 rfl) ?_
            refine lv_goto (tgt := 133) hx hb (zD_g DX6_of 57 rfl) (by decide) ?_
            cases hf
            exact hret _ _ _ _ hP hD hS (zD_g DX6_of 75 rfl)
        · replace hf := z_t c14 hf
          refine lv_aload_n hx hb (zD_g DX6_of 41 rfl) rfl (lv_at hl 1 rfl) ?_
          refine va_get (D := D) (ci := 5) (v := .ref (q 1)) (C := RX6) (T := TX6) (N := 19) hx hb hts in6_of_6 hown hK.1 hP 0 rfl rfl 0 (by decide) (hts _ (List.mem_of_getElem? (i := 2) rfl)) (fun _ h9 => h9) rfl (zD_g DX6_of 42 rfl) ?_
          refine lv_bipush (v := (44 : Int32)) hx hb (zD_g DX6_of 43 rfl) (by decide) ?_
          refine lv_iload_n hx hb (zD_g DX6_of 44 rfl) rfl (lv_at hl 2 rfl) ?_
          refine lv_iadd hx hb (zD_g DX6_of 45 rfl) ?_
          obtain ⟨h23, hf⟩ := zg_s hf
          refine z_iald (k := ((44 : Int32) + a_g).toNatClampNeg) hx hb hK.1 hP 1 0 rfl rfl h23 rfl (zD_g DX6_of 46 rfl) ?_
          refine lv_goto (tgt := 133) hx hb (zD_g DX6_of 47 rfl) (by decide) ?_
          cases hf
          exact hret _ _ _ _ hP hD hS (zD_g DX6_of 75 rfl)
      clear hf
      refine lv_icmp_ne (tgt := 45) hx hb (zD_g DX6_of 19 rfl) (by decide) (fun c12 => ?_) (fun c12 => ?_)
      · have hf := z_f c12 hr24
        refine lv_iload_n hx hb (zD_g DX6_of 25 rfl) rfl (lv_at hl 3 rfl) ?_
        refine lv_iconst (v := (5 : Int32)) hx hb (zD_g DX6_of 26 rfl) (by decide) ?_
        refine lv_icmp_ne (tgt := 54) hx hb (zD_g DX6_of 27 rfl) (by decide) (fun c25 => ?_) (fun c25 => ?_)
        · replace hf := z_f c25 hf
          refine lv_aload_n hx hb (zD_g DX6_of 30 rfl) rfl (lv_at hl 1 rfl) ?_
          refine lv_iload_n hx hb (zD_g DX6_of 31 rfl) rfl (lv_at hl 2 rfl) ?_
          refine lv_iload_n hx hb (zD_g DX6_of 32 rfl) rfl (lv_at hl 0 rfl) ?_
          obtain ⟨r26, hc27, hf⟩ := zb1_s hf
          refine z_Vp (As := [.int a_g, .int r10]) (rest := []) ⟨hx, hb, hml, hown, hts⟩ hK (c6_passes (quiet := quiet) (mabove := mabove) (mbelow := mbelow) (typed := typed) (mat := mat) (mstart := mstart) (mtoken := mtoken) (mvalue := mvalue) (many := many) (book := book) (images := images) (mkept := mkept) (aside := aside) (refused := refused) (text := text) (items := items) (drawn := drawn) (row := row) (best := best) (q := q) hc27) (cwV 2 hts gX6_of_X6_passes rfl rfl rfl hd6_passes ⟨Nat.le_of_ble_eq_true rfl, Nat.le_of_ble_eq_true rfl⟩) hP rfl rfl rfl rfl hl.1 rfl rfl (Nat.le_of_ble_eq_true rfl) (zD_g DX6_of 33 rfl) ⟨Nat.zero_le _, Nat.zero_le _⟩ ?_
          refine lv_if_eq (tgt := 67) hx hb (zD_g DX6_of 34 rfl) (by decide) (fun c28 => ?_) (fun c28 => ?_)
          · replace hf := z_t c28 hf
            refine lv_iconst (v := (0 : Int32)) hx hb (zD_g DX6_of 37 rfl) (by decide) ?_
            cases hf
            exact hJ24 _ _ hP hD hS ls (lv_sub hl [1, 2, 3, 0] rfl)
          · replace hf := z_f c28 hf
            refine lv_iconst (v := (1 : Int32)) hx hb (zD_g DX6_of 35 rfl) (by decide) ?_
            refine lv_goto (tgt := 68) hx hb (zD_g DX6_of 36 rfl) (by decide) ?_
            cases hf
            exact hJ24 _ _ hP hD hS ls (lv_sub hl [1, 2, 3, 0] rfl)
        · replace hf := z_t c25 hf
          refine lv_iload_n hx hb (zD_g DX6_of 28 rfl) rfl (lv_at hl 0 rfl) ?_
          refine lv_goto (tgt := 68) hx hb (zD_g DX6_of 29 rfl) (by decide) ?_
          cases hf
          exact hJ24 _ _ hP hD hS ls (lv_sub hl [1, 2, 3, 0] rfl)
      · have hf := z_t c12 hr24
        refine lv_aload_n hx hb (zD_g DX6_of 20 rfl) rfl (lv_at hl 1 rfl) ?_
        refine lv_iload_n hx hb (zD_g DX6_of 21 rfl) rfl (lv_at hl 2 rfl) ?_
        refine lv_iload_n hx hb (zD_g DX6_of 22 rfl) rfl (lv_at hl 0 rfl) ?_
        obtain ⟨r29, hc30, hf⟩ := zb1_s hf
        refine z_Vp (As := [.int a_g, .int r10]) (rest := []) ⟨hx, hb, hml, hown, hts⟩ hK (c6_harms (quiet := quiet) (mabove := mabove) (mbelow := mbelow) (typed := typed) (mat := mat) (mstart := mstart) (mtoken := mtoken) (mvalue := mvalue) (many := many) (book := book) (images := images) (mkept := mkept) (aside := aside) (refused := refused) (text := text) (items := items) (drawn := drawn) (row := row) (best := best) (q := q) hc30) (cwV 2 hts gX6_of_X6_harms rfl rfl rfl hd6_harms ⟨Nat.le_of_ble_eq_true rfl, Nat.le_of_ble_eq_true rfl⟩) hP rfl rfl rfl rfl hl.1 rfl rfl (Nat.le_of_ble_eq_true rfl) (zD_g DX6_of 23 rfl) ⟨Nat.zero_le _, Nat.zero_le _⟩ ?_
        refine lv_goto (tgt := 68) hx hb (zD_g DX6_of 24 rfl) (by decide) ?_
        cases hf
        exact hJ24 _ _ hP hD hS ls (lv_sub hl [1, 2, 3, 0] rfl)
    · replace hf := z_t c9 hf
      refine lv_aload_n hx hb (zD_g DX6_of 10 rfl) rfl (lv_at hl 0 rfl) ?_
      obtain ⟨r31, refused_32, hc33, hf⟩ := zb2_s hf
      refine z_Vm (As := []) (rest := []) (ws' := (cMod cI cZ q quiet mabove mbelow typed mat mstart mtoken mvalue many book images mkept aside refused_32 text items drawn row best)) ⟨hx, hb, hml, hown, hts⟩ hK (c6_bad (quiet := quiet) (mabove := mabove) (mbelow := mbelow) (typed := typed) (mat := mat) (mstart := mstart) (mtoken := mtoken) (mvalue := mvalue) (many := many) (book := book) (images := images) (mkept := mkept) (aside := aside) (refused := refused) (text := text) (items := items) (drawn := drawn) (row := row) (best := best) (q := q) hc33) (cwV 0 hts gX6_of_X6_bad rfl rfl rfl hd6_bad ⟨Nat.le_of_ble_eq_true rfl, Nat.le_of_ble_eq_true rfl⟩) hP hD hS hA 11 [0, 1, 2, 3, 4, 5, 6, 7, 8, 9, 10] [] [0, 1, 2, 3, 4, 5, 6, 7, 8, 9, 10] (by decide +kernel) rfl rfl rfl rfl rfl rfl rfl hl.1 rfl rfl (Nat.le_of_ble_eq_true rfl) (zD_g DX6_of 11 rfl) ⟨Nat.zero_le _, Nat.zero_le _⟩ (fun H locs hP hD hS => ?_)
      cases hf
      exact hret _ _ _ _ hP hD hS (zD_g DX6_of 12 rfl)
theorem hd6_of : yX6_of.cls = RX6 ∧ yX6_of.cls ≠ "java/lang/invoke/MethodHandle" ∧ yX6_of.cls ≠ "java/lang/invoke/VarHandle" ∧ (parseMethodDescriptor yX6_of.desc).map (fun d => d.parameters.length) = some 2 := by decide +kernel
abbrev dlX6_giftsOf : List (Nat × Instr × Nat) := [(0, .iconst 0, 1), (1, .istore_n 2, 1), (2, .iconst 0, 1), (3, .istore_n 3, 1), (4, .iload_n 3, 1), (5, .aload_n 0, 1), (6, .getfield 7, 3), (9, .iconst 1, 1), (10, .iaload, 1), (11, .if_icmp .ge 32, 3), (14, .iload_n 2, 1), (15, .aload_n 0, 1), (16, .getfield 7, 3), (19, .bipush 68, 2), (21, .iload_n 3, 1), (22, .iadd, 1), (23, .iaload, 1), (24, .iload_n 1, 1), (25, .if_icmp .ne 9, 3), (28, .iconst 1, 1), (29, .iload_n 3, 1), (30, .ishl, 1), (31, .goto 4, 3), (34, .iconst 0, 1), (35, .ior, 1), (36, .istore_n 2, 1), (37, .iinc 3 1, 3), (40, .goto (-36), 3), (43, .iload_n 2, 1), (44, .ireturn, 1)]
theorem DX6_giftsOf : zD cX6_giftsOf dlX6_giftsOf = true := by decide +kernel
def L6_giftsOf_4 (k3 : Int32 → Option (Int32))  (book : Nat → Int32) (a_c : Int32) : Nat → Int32 → Int32 → Option (Int32)
  | 0, _, _ => none
  | n3 + 1, y1, y2 => if (book 1) ≤ y2 then k3 y1 else zg ((68 : Int32) + y2) 230 (if (book ((68 : Int32) + y2).toNatClampNeg) = a_c then zl ((y1 ||| ((1 : Int32) <<< (y2 &&& 31)))) (fun x8 => L6_giftsOf_4 k3 book a_c n3 x8 (y2 + 1)) else zl ((y1 ||| (0 : Int32))) (fun x7 => L6_giftsOf_4 k3 book a_c n3 x7 (y2 + 1)))
def f6_giftsOf (book : Nat → Int32) (a_c : Int32) : Option (Int32) := L6_giftsOf_4 (fun y9 => some y9) book a_c FU (0 : Int32) (0 : Int32)
abbrev rm6_giftsOf : Room := { frames := 0, cells := 0, slots := 0, locals := 0 }
theorem in6_giftsOf_6 : ∀ w ∈ wsX60, w ∈ wsX6_giftsOf := fun w h => List.mem_cons_of_mem _ (List.mem_append_right _ h)
set_option maxHeartbeats 4000000 in
set_option maxRecDepth 100000 in
theorem c6_giftsOf {l : Launch} {D : va_G} {cI cZ cB : ClassId} {q : Nat → Nat} {quiet : Int32} {mabove : Int64} {mbelow : Int64} {typed : Int32} {mat : Int32} {mstart : Int32} {mtoken : Int32} {mvalue : Int32} {many : Int32} {book : Nat → Int32} {images : Nat → Int32} {mkept : Nat → Int32} {aside : Nat → Int32} {refused : Nat → Int32} {text : Nat → Int32} {items : Nat → Int32} {drawn : Nat → Int32} {row : Nat → Int32} {best : Nat → Int32} {a_c : Int32} {r : Int32}  (hf : f6_giftsOf book a_c = some r) : Met l yX6_giftsOf wsX6_giftsOf rm6_giftsOf (zPp D cI cZ cB [.ref (q 0), .int a_c] (cMod cI cZ q quiet mabove mbelow typed mat mstart mtoken mvalue many book images mkept aside refused text items drawn row best)) (zQp (some (.int r))) 0 0 (fun _ => False) := by
  unfold f6_giftsOf at hf
  refine z_pureI RX6 (by decide +kernel) rfl rfl (Nat.le_of_ble_eq_true rfl) ?_
  intro p e s m args below meth c Q ls hx hb hml hown hts hK hP hret hl
  have hl : lv_has ls 4 [(0, .ref (q 0)), (1, .int a_c)] := hl
  refine lv_iconst (v := (0 : Int32)) hx hb (zD_g DX6_giftsOf 0 rfl) (by decide) ?_
  refine lv_istore_n (lv' := [(2, .int (0 : Int32)), (0, .ref (q 0)), (1, .int a_c)]) hx hb (zD_g DX6_giftsOf 1 rfl) rfl hl (by decide) rfl (fun ls hl => ?_)
  refine lv_iconst (v := (0 : Int32)) hx hb (zD_g DX6_giftsOf 2 rfl) (by decide) ?_
  refine lv_istore_n (lv' := [(3, .int (0 : Int32)), (2, .int (0 : Int32)), (0, .ref (q 0)), (1, .int a_c)]) hx hb (zD_g DX6_giftsOf 3 rfl) rfl hl (by decide) rfl (fun ls hl => ?_)
  have hL3 : ∀ (k3 : Int32 → Option (Int32)) (hk3 : ∀ (y9 : Int32), k3 y9 = some r → ∀ (ls : Array Slot), lv_has ls 4 [(2, .int y9)] → W p l e rm6_giftsOf s m args below meth c s.heap [] 0 0 Q (F0 m 43 ls [])) (n3 : Nat) (y1 : Int32) (y2 : Int32), L6_giftsOf_4 k3 book a_c n3 y1 y2 = some r → ∀ (ls : Array Slot), lv_has ls 4 [(0, .ref (q 0)), (1, .int a_c), (2, .int y1), (3, .int y2)] → W p l e rm6_giftsOf s m args below meth c s.heap [] 0 0 Q (F0 m 4 ls []) := by
    intro k3 hk3 n3
    induction n3 with
    | zero =>
      intro y1 y2 hf
      cases hf
    | succ n3 ih3 =>
      intro y1 y2 hf ls hl
      rw [L6_giftsOf_4] at hf
      refine lv_iload_n hx hb (zD_g DX6_giftsOf 4 rfl) rfl (lv_at hl 3 rfl) ?_
      refine lv_aload_n hx hb (zD_g DX6_giftsOf 5 rfl) rfl (lv_at hl 0 rfl) ?_
      refine va_get (D := D) (ci := 5) (v := .ref (q 1)) (C := RX6) (T := TX6) (N := 19) hx hb hts in6_giftsOf_6 hown hK.1 hP 0 rfl rfl 0 (by decide) (hts _ (List.mem_of_getElem? (i := 1) rfl)) (fun _ h9 => h9) rfl (zD_g DX6_giftsOf 6 rfl) ?_
      refine lv_iconst (v := (1 : Int32)) hx hb (zD_g DX6_giftsOf 7 rfl) (by decide) ?_
      refine z_iald (k := 1) hx hb hK.1 hP 1 0 rfl rfl (by decide) rfl (zD_g DX6_giftsOf 8 rfl) ?_
      refine lv_icmp_ge (tgt := 43) hx hb (zD_g DX6_giftsOf 9 rfl) (by decide) (fun c4 => ?_) (fun c4 => ?_)
      · replace hf := z_t c4 hf
        exact hk3 _ hf ls (lv_sub hl [2] rfl)
      · replace hf := z_f c4 hf
        refine lv_iload_n hx hb (zD_g DX6_giftsOf 10 rfl) rfl (lv_at hl 2 rfl) ?_
        refine lv_aload_n hx hb (zD_g DX6_giftsOf 11 rfl) rfl (lv_at hl 0 rfl) ?_
        refine va_get (D := D) (ci := 5) (v := .ref (q 1)) (C := RX6) (T := TX6) (N := 19) hx hb hts in6_giftsOf_6 hown hK.1 hP 0 rfl rfl 0 (by decide) (hts _ (List.mem_of_getElem? (i := 1) rfl)) (fun _ h9 => h9) rfl (zD_g DX6_giftsOf 12 rfl) ?_
        refine lv_bipush (v := (68 : Int32)) hx hb (zD_g DX6_giftsOf 13 rfl) (by decide) ?_
        refine lv_iload_n hx hb (zD_g DX6_giftsOf 14 rfl) rfl (lv_at hl 3 rfl) ?_
        refine lv_iadd hx hb (zD_g DX6_giftsOf 15 rfl) ?_
        obtain ⟨h5, hf⟩ := zg_s hf
        refine z_iald (k := ((68 : Int32) + y2).toNatClampNeg) hx hb hK.1 hP 1 0 rfl rfl h5 rfl (zD_g DX6_giftsOf 16 rfl) ?_
        refine lv_iload_n hx hb (zD_g DX6_giftsOf 17 rfl) rfl (lv_at hl 1 rfl) ?_
        refine lv_icmp_ne (tgt := 34) hx hb (zD_g DX6_giftsOf 18 rfl) (by decide) (fun c6 => ?_) (fun c6 => ?_)
        · replace hf := z_f c6 hf
          refine lv_iconst (v := (0 : Int32)) hx hb (zD_g DX6_giftsOf 23 rfl) (by decide) ?_
          refine lv_ior hx hb (zD_g DX6_giftsOf 24 rfl) ?_
          refine lv_topi (fun x7 ex7 => ?_)
          replace hf := zl_s hf x7 ex7
          refine lv_istore_n (lv' := [(2, .int x7), (0, .ref (q 0)), (1, .int a_c), (3, .int y2)]) hx hb (zD_g DX6_giftsOf 25 rfl) rfl hl (by decide) rfl (fun ls hl => ?_)
          refine lv_iinc (v := y2 + 1) (lv' := [(3, .int (y2 + 1)), (2, .int x7), (0, .ref (q 0)), (1, .int a_c)]) (k := 3) hx hb (zD_g DX6_giftsOf 26 rfl) hl rfl rfl (by decide) rfl (fun ls hl => ?_)
          refine lv_goto (tgt := 4) hx hb (zD_g DX6_giftsOf 27 rfl) (by decide) ?_
          exact ih3 _ _ hf ls (lv_sub hl [2, 3, 1, 0] rfl)
        · replace hf := z_t c6 hf
          refine lv_iconst (v := (1 : Int32)) hx hb (zD_g DX6_giftsOf 19 rfl) (by decide) ?_
          refine lv_iload_n hx hb (zD_g DX6_giftsOf 20 rfl) rfl (lv_at hl 3 rfl) ?_
          refine lv_ishl hx hb (zD_g DX6_giftsOf 21 rfl) ?_
          refine lv_goto (tgt := 35) hx hb (zD_g DX6_giftsOf 22 rfl) (by decide) ?_
          refine lv_ior hx hb (zD_g DX6_giftsOf 24 rfl) ?_
          refine lv_topi (fun x8 ex8 => ?_)
          replace hf := zl_s hf x8 ex8
          refine lv_istore_n (lv' := [(2, .int x8), (0, .ref (q 0)), (1, .int a_c), (3, .int y2)]) hx hb (zD_g DX6_giftsOf 25 rfl) rfl hl (by decide) rfl (fun ls hl => ?_)
          refine lv_iinc (v := y2 + 1) (lv' := [(3, .int (y2 + 1)), (2, .int x8), (0, .ref (q 0)), (1, .int a_c)]) (k := 3) hx hb (zD_g DX6_giftsOf 26 rfl) hl rfl rfl (by decide) rfl (fun ls hl => ?_)
          refine lv_goto (tgt := 4) hx hb (zD_g DX6_giftsOf 27 rfl) (by decide) ?_
          exact ih3 _ _ hf ls (lv_sub hl [2, 3, 1, 0] rfl)
  refine hL3 _ (fun y9 hf ls hl => ?_) _ _ _ hf ls (lv_sub hl [2, 3, 1, 0] rfl)
  refine lv_iload_n hx hb (zD_g DX6_giftsOf 28 rfl) rfl (lv_at hl 0 rfl) ?_
  cases hf
  exact hret _ _ (zD_g DX6_giftsOf 29 rfl)
theorem hd6_giftsOf : yX6_giftsOf.cls = RX6 ∧ yX6_giftsOf.cls ≠ "java/lang/invoke/MethodHandle" ∧ yX6_giftsOf.cls ≠ "java/lang/invoke/VarHandle" ∧ (parseMethodDescriptor yX6_giftsOf.desc).map (fun d => d.parameters.length) = some 1 := by decide +kernel
abbrev dlX6_about : List (Nat × Instr × Nat) := [(0, .iload_n 1, 1), (1, .invokestatic 73, 3), (4, .ifCond .eq 15, 3), (7, .iload_n 2, 1), (8, .i2l, 1), (9, .lconst 0, 1), (10, .ldc2_w 214, 3), (13, .invokestatic 56, 3), (16, .ifCond .ne 8, 3), (19, .aload_n 0, 1), (20, .invokevirtual 66, 3), (23, .ireturn, 1), (24, .iload_n 2, 1), (25, .iconst 3, 1), (26, .if_icmp .ge 19, 3), (29, .aload_n 0, 1), (30, .getfield 7, 3), (33, .bipush 74, 2), (35, .iconst 3, 1), (36, .iload_n 1, 1), (37, .imul, 1), (38, .iadd, 1), (39, .iload_n 2, 1), (40, .iadd, 1), (41, .iaload, 1), (42, .goto 25, 3), (45, .iload_n 2, 1), (46, .iconst 3, 1), (47, .if_icmp .ne 15, 3), (50, .aload_n 0, 1), (51, .getfield 7, 3), (54, .bipush 92, 2), (56, .iload_n 1, 1), (57, .iadd, 1), (58, .iaload, 1), (59, .goto 8, 3), (62, .aload_n 0, 1), (63, .iload_n 1, 1), (64, .invokevirtual 216, 3), (67, .ireturn, 1)]
theorem DX6_about : zD cX6_about dlX6_about = true := by decide +kernel
set_option maxRecDepth 20000 in
theorem ggX6_about_X6_isCity : GoodIn wsX6_about wsX6_isCity := goodIn_r _ [6, 7, 8, 5, 9] (by decide +kernel) (by decide +kernel)
set_option maxRecDepth 20000 in
theorem gX6_about_X6_isCity : GoodIn wsX6_about (va_wsS RX6 73 yX6_isCity wsX6_isCity) := goodIn_app (goodIn_of _ (by decide +kernel)) ggX6_about_X6_isCity
set_option maxRecDepth 20000 in
theorem ggX6_about_X6_in : GoodIn wsX6_about wsX6_in := goodIn_r _ [9] (by decide +kernel) (by decide +kernel)
set_option maxRecDepth 20000 in
theorem gX6_about_X6_in : GoodIn wsX6_about (va_wsS RX6 56 yX6_in wsX6_in) := goodIn_app (goodIn_of _ (by decide +kernel)) ggX6_about_X6_in
set_option maxRecDepth 20000 in
theorem ggX6_about_X6_bad : GoodIn wsX6_about wsX6_bad := goodIn_r _ [13, 14, 15, 16, 5, 17, 18, 19, 24, 25, 26, 27, 28, 29, 30, 31, 32, 33, 34, 35, 36, 37, 38, 39, 40, 41, 42] (by decide +kernel) (by decide +kernel)
set_option maxRecDepth 20000 in
theorem gX6_about_X6_bad : GoodIn wsX6_about (wsV RX6 66 RX6 yX6_bad wsX6_bad) := goodIn_app (goodIn_of _ (by decide +kernel)) ggX6_about_X6_bad
set_option maxRecDepth 20000 in
theorem ggX6_about_X6_giftsOf : GoodIn wsX6_about wsX6_giftsOf := goodIn_r _ [23, 2, 24, 25, 26, 27, 28, 29, 30, 31, 32, 33, 34, 35, 36, 37, 38, 39, 40, 41, 42] (by decide +kernel) (by decide +kernel)
set_option maxRecDepth 20000 in
theorem gX6_about_X6_giftsOf : GoodIn wsX6_about (wsV RX6 216 RX6 yX6_giftsOf wsX6_giftsOf) := goodIn_app (goodIn_of _ (by decide +kernel)) ggX6_about_X6_giftsOf
def f6_about (quiet : Int32) (book : Nat → Int32) (refused : Nat → Int32) (a_c : Int32) (a_what : Int32) : Option (Int32 × (Nat → Int32)) := zb1 (f6_isCity a_c) (fun r1 => if r1 = 0 then zb2 (f6_bad quiet refused) (fun r4 refused_5 => some (r4, refused_5)) else zb1 (f6_in ((a_what).toInt64) (0 : Int64) (4 : Int64)) (fun r7 => if r7 = 0 then zb2 (f6_bad quiet refused) (fun r16 refused_17 => some (r16, refused_17)) else if (3 : Int32) ≤ a_what then if a_what = (3 : Int32) then zg ((92 : Int32) + a_c) 230 (some ((book ((92 : Int32) + a_c).toNatClampNeg), refused)) else zb1 (f6_giftsOf book a_c) (fun r12 => some (r12, refused)) else zg (((74 : Int32) + ((3 : Int32) * a_c)) + a_what) 230 (some ((book (((74 : Int32) + ((3 : Int32) * a_c)) + a_what).toNatClampNeg), refused))))
abbrev rm6_about : Room := { frames := 2, cells := 0, slots := 0, locals := 45 }
theorem in6_about_6 : ∀ w ∈ wsX60, w ∈ wsX6_about := fun w h => List.mem_cons_of_mem _ (List.mem_append_right _ h)
set_option maxHeartbeats 4000000 in
set_option maxRecDepth 100000 in
theorem c6_about {l : Launch} {D : va_G} {cI cZ cB : ClassId} {q : Nat → Nat} {sz : Nat} {quiet : Int32} {mabove : Int64} {mbelow : Int64} {typed : Int32} {mat : Int32} {mstart : Int32} {mtoken : Int32} {mvalue : Int32} {many : Int32} {book : Nat → Int32} {images : Nat → Int32} {mkept : Nat → Int32} {aside : Nat → Int32} {refused : Nat → Int32} {text : Nat → Int32} {items : Nat → Int32} {drawn : Nat → Int32} {row : Nat → Int32} {best : Nat → Int32} {a_c : Int32} {a_what : Int32} {r : Int32} {d_refused : Nat → Int32} (hf : f6_about quiet book refused a_c a_what = some (r, d_refused)) : Met l yX6_about wsX6_about rm6_about (zPm D cI cZ cB [.ref (q 0), .int a_c, .int a_what] sz (cMod cI cZ q quiet mabove mbelow typed mat mstart mtoken mvalue many book images mkept aside refused text items drawn row best)) (zQm D (some (.int r)) (cMod cI cZ q quiet mabove mbelow typed mat mstart mtoken mvalue many book images mkept aside d_refused text items drawn row best) (va_A (cMod cI cZ q quiet mabove mbelow typed mat mstart mtoken mvalue many book images mkept aside refused text items drawn row best) sz)) 0 0 (va_A (cMod cI cZ q quiet mabove mbelow typed mat mstart mtoken mvalue many book images mkept aside refused text items drawn row best) sz) := by
  unfold f6_about at hf
  refine z_mutI RX6 (by decide +kernel) rfl rfl (Nat.le_of_ble_eq_true rfl) ?_
  intro p e s m args below meth c Q A ls hx hb hml hown hts hK hP hD hS hA hret hl
  have hl : lv_has ls 3 [(0, .ref (q 0)), (1, .int a_c), (2, .int a_what)] := hl
  refine lv_iload_n hx hb (zD_g DX6_about 0 rfl) rfl (lv_at hl 1 rfl) ?_
  obtain ⟨r1, hc2, hf⟩ := zb1_s hf
  refine z_Sp (As := [.int a_c]) (rest := []) ⟨hx, hb, hml, hown, hts⟩ hK (c6_isCity  hc2) (va_cwS 1 hts gX6_about_X6_isCity rfl rfl rfl hd6_isCity ⟨Nat.le_of_ble_eq_true rfl, Nat.le_of_ble_eq_true rfl⟩) (hP.sub [] rfl) rfl hl.1 rfl rfl (Nat.le_of_ble_eq_true rfl) (zD_g DX6_about 1 rfl) ⟨Nat.zero_le _, Nat.zero_le _⟩ ?_
  refine lv_if_eq (tgt := 19) hx hb (zD_g DX6_about 2 rfl) (by decide) (fun c3 => ?_) (fun c3 => ?_)
  · replace hf := z_t c3 hf
    refine lv_aload_n hx hb (zD_g DX6_about 9 rfl) rfl (lv_at hl 0 rfl) ?_
    obtain ⟨r4, refused_5, hc6, hf⟩ := zb2_s hf
    refine z_Vm (As := []) (rest := []) (ws' := (cMod cI cZ q quiet mabove mbelow typed mat mstart mtoken mvalue many book images mkept aside refused_5 text items drawn row best)) ⟨hx, hb, hml, hown, hts⟩ hK (c6_bad (quiet := quiet) (mabove := mabove) (mbelow := mbelow) (typed := typed) (mat := mat) (mstart := mstart) (mtoken := mtoken) (mvalue := mvalue) (many := many) (book := book) (images := images) (mkept := mkept) (aside := aside) (refused := refused) (text := text) (items := items) (drawn := drawn) (row := row) (best := best) (q := q) hc6) (cwV 0 hts gX6_about_X6_bad rfl rfl rfl hd6_bad ⟨Nat.le_of_ble_eq_true rfl, Nat.le_of_ble_eq_true rfl⟩) hP hD hS hA 11 [0, 1, 2, 3, 4, 5, 6, 7, 8, 9, 10] [] [0, 1, 2, 3, 4, 5, 6, 7, 8, 9, 10] (by decide +kernel) rfl rfl rfl rfl rfl rfl rfl hl.1 rfl rfl (Nat.le_of_ble_eq_true rfl) (zD_g DX6_about 10 rfl) ⟨Nat.zero_le _, Nat.zero_le _⟩ (fun H locs hP hD hS => ?_)
    cases hf
    exact hret _ _ _ _ hP hD hS (zD_g DX6_about 11 rfl)
  · replace hf := z_f c3 hf
    refine lv_iload_n hx hb (zD_g DX6_about 3 rfl) rfl (lv_at hl 2 rfl) ?_
    refine lv_i2l (v := (a_what).toInt64) hx hb (zD_g DX6_about 4 rfl) rfl ?_
    refine lv_lconst (v := (0 : Int64)) hx hb (zD_g DX6_about 5 rfl) (by decide) ?_
    refine lv_ldc2 (v := (4 : Int64)) hx hb hown (hts _ (List.mem_of_getElem? (i := 1) rfl)) (zD_g DX6_about 6 rfl) ?_
    obtain ⟨r7, hc8, hf⟩ := zb1_s hf
    refine z_Sp (As := [.long ((a_what).toInt64), .long (0 : Int64), .long (4 : Int64)]) (rest := []) ⟨hx, hb, hml, hown, hts⟩ hK (c6_in  hc8) (va_cwS 3 hts gX6_about_X6_in rfl rfl rfl hd6_in ⟨Nat.le_of_ble_eq_true rfl, Nat.le_of_ble_eq_true rfl⟩) (hP.sub [] rfl) rfl hl.1 rfl rfl (Nat.le_of_ble_eq_true rfl) (zD_g DX6_about 7 rfl) ⟨Nat.zero_le _, Nat.zero_le _⟩ ?_
    refine lv_if_ne (tgt := 24) hx hb (zD_g DX6_about 8 rfl) (by decide) (fun c9 => ?_) (fun c9 => ?_)
    · replace hf := z_f c9 hf
      refine lv_iload_n hx hb (zD_g DX6_about 12 rfl) rfl (lv_at hl 2 rfl) ?_
      refine lv_iconst (v := (3 : Int32)) hx hb (zD_g DX6_about 13 rfl) (by decide) ?_
      refine lv_icmp_ge (tgt := 45) hx hb (zD_g DX6_about 14 rfl) (by decide) (fun c10 => ?_) (fun c10 => ?_)
      · replace hf := z_t c10 hf
        refine lv_iload_n hx hb (zD_g DX6_about 26 rfl) rfl (lv_at hl 2 rfl) ?_
        refine lv_iconst (v := (3 : Int32)) hx hb (zD_g DX6_about 27 rfl) (by decide) ?_
        refine lv_icmp_ne (tgt := 62) hx hb (zD_g DX6_about 28 rfl) (by decide) (fun c11 => ?_) (fun c11 => ?_)
        · replace hf := z_f c11 hf
          refine lv_aload_n hx hb (zD_g DX6_about 36 rfl) rfl (lv_at hl 0 rfl) ?_
          refine lv_iload_n hx hb (zD_g DX6_about 37 rfl) rfl (lv_at hl 1 rfl) ?_
          obtain ⟨r12, hc13, hf⟩ := zb1_s hf
          refine z_Vp (As := [.int a_c]) (rest := []) ⟨hx, hb, hml, hown, hts⟩ hK (c6_giftsOf (quiet := quiet) (mabove := mabove) (mbelow := mbelow) (typed := typed) (mat := mat) (mstart := mstart) (mtoken := mtoken) (mvalue := mvalue) (many := many) (book := book) (images := images) (mkept := mkept) (aside := aside) (refused := refused) (text := text) (items := items) (drawn := drawn) (row := row) (best := best) (q := q) hc13) (cwV 1 hts gX6_about_X6_giftsOf rfl rfl rfl hd6_giftsOf ⟨Nat.le_of_ble_eq_true rfl, Nat.le_of_ble_eq_true rfl⟩) hP rfl rfl rfl rfl hl.1 rfl rfl (Nat.le_of_ble_eq_true rfl) (zD_g DX6_about 38 rfl) ⟨Nat.zero_le _, Nat.zero_le _⟩ ?_
          cases hf
          exact hret _ _ _ _ hP hD hS (zD_g DX6_about 39 rfl)
        · replace hf := z_t c11 hf
          refine lv_aload_n hx hb (zD_g DX6_about 29 rfl) rfl (lv_at hl 0 rfl) ?_
          refine va_get (D := D) (ci := 5) (v := .ref (q 1)) (C := RX6) (T := TX6) (N := 19) hx hb hts in6_about_6 hown hK.1 hP 0 rfl rfl 0 (by decide) (hts _ (List.mem_of_getElem? (i := 2) rfl)) (fun _ h9 => h9) rfl (zD_g DX6_about 30 rfl) ?_
          refine lv_bipush (v := (92 : Int32)) hx hb (zD_g DX6_about 31 rfl) (by decide) ?_
          refine lv_iload_n hx hb (zD_g DX6_about 32 rfl) rfl (lv_at hl 1 rfl) ?_
          refine lv_iadd hx hb (zD_g DX6_about 33 rfl) ?_
          obtain ⟨h14, hf⟩ := zg_s hf
          refine z_iald (k := ((92 : Int32) + a_c).toNatClampNeg) hx hb hK.1 hP 1 0 rfl rfl h14 rfl (zD_g DX6_about 34 rfl) ?_
          refine lv_goto (tgt := 67) hx hb (zD_g DX6_about 35 rfl) (by decide) ?_
          cases hf
          exact hret _ _ _ _ hP hD hS (zD_g DX6_about 39 rfl)
      · replace hf := z_f c10 hf
        refine lv_aload_n hx hb (zD_g DX6_about 15 rfl) rfl (lv_at hl 0 rfl) ?_
        refine va_get (D := D) (ci := 5) (v := .ref (q 1)) (C := RX6) (T := TX6) (N := 19) hx hb hts in6_about_6 hown hK.1 hP 0 rfl rfl 0 (by decide) (hts _ (List.mem_of_getElem? (i := 2) rfl)) (fun _ h9 => h9) rfl (zD_g DX6_about 16 rfl) ?_
        refine lv_bipush (v := (74 : Int32)) hx hb (zD_g DX6_about 17 rfl) (by decide) ?_
        refine lv_iconst (v := (3 : Int32)) hx hb (zD_g DX6_about 18 rfl) (by decide) ?_
        refine lv_iload_n hx hb (zD_g DX6_about 19 rfl) rfl (lv_at hl 1 rfl) ?_
        refine lv_imul hx hb (zD_g DX6_about 20 rfl) ?_
        refine lv_iadd hx hb (zD_g DX6_about 21 rfl) ?_
        refine lv_iload_n hx hb (zD_g DX6_about 22 rfl) rfl (lv_at hl 2 rfl) ?_
        refine lv_iadd hx hb (zD_g DX6_about 23 rfl) ?_
        obtain ⟨h15, hf⟩ := zg_s hf
        refine z_iald (k := (((74 : Int32) + ((3 : Int32) * a_c)) + a_what).toNatClampNeg) hx hb hK.1 hP 1 0 rfl rfl h15 rfl (zD_g DX6_about 24 rfl) ?_
        refine lv_goto (tgt := 67) hx hb (zD_g DX6_about 25 rfl) (by decide) ?_
        cases hf
        exact hret _ _ _ _ hP hD hS (zD_g DX6_about 39 rfl)
    · replace hf := z_t c9 hf
      refine lv_aload_n hx hb (zD_g DX6_about 9 rfl) rfl (lv_at hl 0 rfl) ?_
      obtain ⟨r16, refused_17, hc18, hf⟩ := zb2_s hf
      refine z_Vm (As := []) (rest := []) (ws' := (cMod cI cZ q quiet mabove mbelow typed mat mstart mtoken mvalue many book images mkept aside refused_17 text items drawn row best)) ⟨hx, hb, hml, hown, hts⟩ hK (c6_bad (quiet := quiet) (mabove := mabove) (mbelow := mbelow) (typed := typed) (mat := mat) (mstart := mstart) (mtoken := mtoken) (mvalue := mvalue) (many := many) (book := book) (images := images) (mkept := mkept) (aside := aside) (refused := refused) (text := text) (items := items) (drawn := drawn) (row := row) (best := best) (q := q) hc18) (cwV 0 hts gX6_about_X6_bad rfl rfl rfl hd6_bad ⟨Nat.le_of_ble_eq_true rfl, Nat.le_of_ble_eq_true rfl⟩) hP hD hS hA 11 [0, 1, 2, 3, 4, 5, 6, 7, 8, 9, 10] [] [0, 1, 2, 3, 4, 5, 6, 7, 8, 9, 10] (by decide +kernel) rfl rfl rfl rfl rfl rfl rfl hl.1 rfl rfl (Nat.le_of_ble_eq_true rfl) (zD_g DX6_about 10 rfl) ⟨Nat.zero_le _, Nat.zero_le _⟩ (fun H locs hP hD hS => ?_)
      cases hf
      exact hret _ _ _ _ hP hD hS (zD_g DX6_about 11 rfl)
theorem hd6_about : yX6_about.cls = RX6 ∧ yX6_about.cls ≠ "java/lang/invoke/MethodHandle" ∧ yX6_about.cls ≠ "java/lang/invoke/VarHandle" ∧ (parseMethodDescriptor yX6_about.desc).map (fun d => d.parameters.length) = some 2 := by decide +kernel
abbrev dlX6_bits : List (Nat × Instr × Nat) := [(0, .iconst 0, 1), (1, .istore_n 1, 1), (2, .iconst 0, 1), (3, .istore_n 2, 1), (4, .iload_n 2, 1), (5, .bipush 8, 2), (7, .if_icmp .ge 17, 3), (10, .iload_n 1, 1), (11, .iload_n 0, 1), (12, .iload_n 2, 1), (13, .ishr, 1), (14, .iconst 1, 1), (15, .iand, 1), (16, .iadd, 1), (17, .istore_n 1, 1), (18, .iinc 2 1, 3), (21, .goto (-17), 3), (24, .iload_n 1, 1), (25, .ireturn, 1)]
theorem DX6_bits : zD cX6_bits dlX6_bits = true := by decide +kernel
def L6_bits_4 (k3 : Int32 → Option (Int32))  (a_set : Int32) : Nat → Int32 → Int32 → Option (Int32)
  | 0, _, _ => none
  | n3 + 1, y1, y2 => if (8 : Int32) ≤ y2 then k3 y1 else zl ((y1 + ((a_set >>> (y2 &&& 31)) &&& (1 : Int32)))) (fun x5 => L6_bits_4 k3 a_set n3 x5 (y2 + 1))
def f6_bits (a_set : Int32) : Option (Int32) := L6_bits_4 (fun y6 => some y6) a_set FU (0 : Int32) (0 : Int32)
abbrev rm6_bits : Room := { frames := 0, cells := 0, slots := 0, locals := 0 }
set_option maxHeartbeats 4000000 in
set_option maxRecDepth 100000 in
theorem c6_bits {l : Launch} {D : va_G} {cI cZ cB : ClassId}   {a_set : Int32} {r : Int32}  (hf : f6_bits a_set = some r) : Met l yX6_bits wsX6_bits rm6_bits (zPp D cI cZ cB [.int a_set] ([] : va_W)) (zQp (some (.int r))) 0 0 (fun _ => False) := by
  unfold f6_bits at hf
  refine z_pureI RX6 (by decide +kernel) rfl rfl (Nat.le_of_ble_eq_true rfl) ?_
  intro p e s m args below meth c Q ls hx hb hml hown hts hK hP hret hl
  have hl : lv_has ls 3 [(0, .int a_set)] := hl
  refine lv_iconst (v := (0 : Int32)) hx hb (zD_g DX6_bits 0 rfl) (by decide) ?_
  refine lv_istore_n (lv' := [(1, .int (0 : Int32)), (0, .int a_set)]) hx hb (zD_g DX6_bits 1 rfl) rfl hl (by decide) rfl (fun ls hl => ?_)
  refine lv_iconst (v := (0 : Int32)) hx hb (zD_g DX6_bits 2 rfl) (by decide) ?_
  refine lv_istore_n (lv' := [(2, .int (0 : Int32)), (1, .int (0 : Int32)), (0, .int a_set)]) hx hb (zD_g DX6_bits 3 rfl) rfl hl (by decide) rfl (fun ls hl => ?_)
  have hL3 : ∀ (k3 : Int32 → Option (Int32)) (hk3 : ∀ (y6 : Int32), k3 y6 = some r → ∀ (ls : Array Slot), lv_has ls 3 [(1, .int y6)] → W p l e rm6_bits s m args below meth c s.heap [] 0 0 Q (F0 m 24 ls [])) (n3 : Nat) (y1 : Int32) (y2 : Int32), L6_bits_4 k3 a_set n3 y1 y2 = some r → ∀ (ls : Array Slot), lv_has ls 3 [(0, .int a_set), (1, .int y1), (2, .int y2)] → W p l e rm6_bits s m args below meth c s.heap [] 0 0 Q (F0 m 4 ls []) := by
    intro k3 hk3 n3
    induction n3 with
    | zero =>
      intro y1 y2 hf
      cases hf
    | succ n3 ih3 =>
      intro y1 y2 hf ls hl
      rw [L6_bits_4] at hf
      refine lv_iload_n hx hb (zD_g DX6_bits 4 rfl) rfl (lv_at hl 2 rfl) ?_
      refine lv_bipush (v := (8 : Int32)) hx hb (zD_g DX6_bits 5 rfl) (by decide) ?_
      refine lv_icmp_ge (tgt := 24) hx hb (zD_g DX6_bits 6 rfl) (by decide) (fun c4 => ?_) (fun c4 => ?_)
      · replace hf := z_t c4 hf
        exact hk3 _ hf ls (lv_sub hl [1] rfl)
      · replace hf := z_f c4 hf
        refine lv_iload_n hx hb (zD_g DX6_bits 7 rfl) rfl (lv_at hl 1 rfl) ?_
        refine lv_iload_n hx hb (zD_g DX6_bits 8 rfl) rfl (lv_at hl 0 rfl) ?_
        refine lv_iload_n hx hb (zD_g DX6_bits 9 rfl) rfl (lv_at hl 2 rfl) ?_
        refine lv_ishr hx hb (zD_g DX6_bits 10 rfl) ?_
        refine lv_iconst (v := (1 : Int32)) hx hb (zD_g DX6_bits 11 rfl) (by decide) ?_
        refine lv_iand hx hb (zD_g DX6_bits 12 rfl) ?_
        refine lv_iadd hx hb (zD_g DX6_bits 13 rfl) ?_
        refine lv_topi (fun x5 ex5 => ?_)
        replace hf := zl_s hf x5 ex5
        refine lv_istore_n (lv' := [(1, .int x5), (0, .int a_set), (2, .int y2)]) hx hb (zD_g DX6_bits 14 rfl) rfl hl (by decide) rfl (fun ls hl => ?_)
        refine lv_iinc (v := y2 + 1) (lv' := [(2, .int (y2 + 1)), (1, .int x5), (0, .int a_set)]) (k := 2) hx hb (zD_g DX6_bits 15 rfl) hl rfl rfl (by decide) rfl (fun ls hl => ?_)
        refine lv_goto (tgt := 4) hx hb (zD_g DX6_bits 16 rfl) (by decide) ?_
        exact ih3 _ _ hf ls (lv_sub hl [2, 1, 0] rfl)
  refine hL3 _ (fun y6 hf ls hl => ?_) _ _ _ hf ls (lv_sub hl [2, 1, 0] rfl)
  refine lv_iload_n hx hb (zD_g DX6_bits 17 rfl) rfl (lv_at hl 0 rfl) ?_
  cases hf
  exact hret _ _ (zD_g DX6_bits 18 rfl)
theorem hd6_bits : yX6_bits.cls ≠ "java/lang/invoke/MethodHandle" ∧ yX6_bits.cls ≠ "java/lang/invoke/VarHandle" ∧ (parseMethodDescriptor yX6_bits.desc).map (fun d => d.parameters.length) = some 1 := by decide +kernel
abbrev dlX6_hide : List (Nat × Instr × Nat) := [(0, .aload_n 0, 1), (1, .iload_n 1, 1), (2, .invokevirtual 84, 3), (5, .ifCond .eq 20, 3), (8, .iload_n 2, 1), (9, .invokestatic 105, 3), (12, .ifCond .eq 13, 3), (15, .iload_n 3, 1), (16, .i2l, 1), (17, .lconst 0, 1), (18, .lconst 1, 1), (19, .invokestatic 56, 3), (22, .ifCond .ne 11, 3), (25, .aload_n 0, 1), (26, .iconst 0, 1), (27, .bipush (-10), 2), (29, .invokevirtual 52, 3), (32, .ireturn, 1), (33, .aload_n 0, 1), (34, .iconst (-1), 1), (35, .invokevirtual 87, 3), (38, .aload_n 0, 1), (39, .iload_n 1, 1), (40, .invokevirtual 87, 3), (43, .ior, 1), (44, .istore 4, 2), (46, .iconst (-1), 1), (47, .istore 5, 2), (49, .iconst (-1), 1), (50, .istore 6, 2), (52, .iconst 0, 1), (53, .istore 7, 2), (55, .iload 7, 2), (57, .iconst 1, 1), (58, .aload_n 0, 1), (59, .getfield 7, 3), (62, .iconst 0, 1), (63, .iaload, 1), (64, .ishl, 1), (65, .if_icmp .ge 141, 3), (68, .iload 7, 2), (70, .iload 4, 2), (72, .iconst (-1), 1), (73, .ixor, 1), (74, .iand, 1), (75, .ifCond .ne 36, 3), (78, .aload_n 0, 1), (79, .iload 7, 2), (81, .iconst 0, 1), (82, .invokevirtual 91, 3), (85, .aload_n 0, 1), (86, .getfield 7, 3), (89, .bipush 56, 2), (91, .iload_n 1, 1), (92, .iadd, 1), (93, .iaload, 1), (94, .if_icmp .gt 17, 3), (97, .aload_n 0, 1), (98, .iload_n 1, 1), (99, .iload 7, 2), (101, .invokevirtual 203, 3), (104, .ifCond .eq 7, 3), (107, .iconst 1, 1), (108, .goto 4, 3), (111, .iconst 0, 1), (112, .istore 8, 2), (114, .iload 8, 2), (116, .ifCond .eq 14, 3), (119, .aload_n 0, 1), (120, .iload_n 1, 1), (121, .iload 7, 2), (123, .iload_n 2, 1), (124, .invokevirtual 206, 3), (127, .goto 4, 3), (130, .iconst (-1), 1), (131, .istore 9, 2), (133, .iload 9, 2), (135, .iload 6, 2), (137, .if_icmp .gt 28, 3), (140, .iload 8, 2), (142, .ifCond .eq 27, 3), (145, .iload 9, 2), (147, .iload 6, 2), (149, .if_icmp .ne 20, 3), (152, .iload 7, 2), (154, .invokestatic 219, 3), (157, .iload 5, 2), (159, .invokestatic 219, 3), (162, .if_icmp .ge 7, 3), (165, .iconst 1, 1), (166, .goto 4, 3), (169, .iconst 0, 1), (170, .istore 10, 2), (172, .iload 10, 2), (174, .ifCond .eq 8, 3), (177, .iload 7, 2), (179, .goto 5, 3), (182, .iload 5, 2), (184, .istore 5, 2), (186, .iload 10, 2), (188, .ifCond .eq 8, 3), (191, .iload 9, 2), (193, .goto 5, 3), (196, .iload 6, 2), (198, .istore 6, 2), (200, .iinc 7 1, 3), (203, .goto (-148), 3), (206, .iload_n 3, 1), (207, .ifCond .ne 8, 3), (210, .iload 5, 2), (212, .goto 5, 3), (215, .iload 6, 2), (217, .ireturn, 1)]
theorem DX6_hide : zD cX6_hide dlX6_hide = true := by decide +kernel
set_option maxRecDepth 20000 in
theorem ggX6_hide_X6_isGift : GoodIn wsX6_hide wsX6_isGift := goodIn_r _ [6, 1, 7, 8, 5, 9, 63, 64, 65, 66, 67, 68, 69, 70, 71, 72, 73, 74, 75, 76, 77, 78, 79, 80, 81] (by decide +kernel) (by decide +kernel)
set_option maxRecDepth 20000 in
theorem gX6_hide_X6_isGift : GoodIn wsX6_hide (wsV RX6 84 RX6 yX6_isGift wsX6_isGift) := goodIn_app (goodIn_of _ (by decide +kernel)) ggX6_hide_X6_isGift
set_option maxRecDepth 20000 in
theorem ggX6_hide_X6_isHour : GoodIn wsX6_hide wsX6_isHour := goodIn_r _ [12, 13, 7, 8, 5, 9] (by decide +kernel) (by decide +kernel)
set_option maxRecDepth 20000 in
theorem gX6_hide_X6_isHour : GoodIn wsX6_hide (va_wsS RX6 105 yX6_isHour wsX6_isHour) := goodIn_app (goodIn_of _ (by decide +kernel)) ggX6_hide_X6_isHour
set_option maxRecDepth 20000 in
theorem ggX6_hide_X6_in : GoodIn wsX6_hide wsX6_in := goodIn_r _ [9] (by decide +kernel) (by decide +kernel)
set_option maxRecDepth 20000 in
theorem gX6_hide_X6_in : GoodIn wsX6_hide (va_wsS RX6 56 yX6_in wsX6_in) := goodIn_app (goodIn_of _ (by decide +kernel)) ggX6_hide_X6_in
set_option maxRecDepth 20000 in
theorem ggX6_hide_X6_refuses : GoodIn wsX6_hide wsX6_refuses := goodIn_r _ [17, 18, 19, 63, 64, 65, 66, 67, 68, 69, 70, 71, 72, 73, 74, 75, 76, 77, 78, 79, 80, 81] (by decide +kernel) (by decide +kernel)
set_option maxRecDepth 20000 in
theorem gX6_hide_X6_refuses : GoodIn wsX6_hide (wsV RX6 52 RX6 yX6_refuses wsX6_refuses) := goodIn_app (goodIn_of _ (by decide +kernel)) ggX6_hide_X6_refuses
set_option maxRecDepth 20000 in
theorem ggX6_hide_X6_thingsIn : GoodIn wsX6_hide wsX6_thingsIn := goodIn_r _ [23, 1, 63, 64, 65, 66, 67, 68, 69, 70, 71, 72, 73, 74, 75, 76, 77, 78, 79, 80, 81] (by decide +kernel) (by decide +kernel)
set_option maxRecDepth 20000 in
theorem gX6_hide_X6_thingsIn : GoodIn wsX6_hide (wsV RX6 87 RX6 yX6_thingsIn wsX6_thingsIn) := goodIn_app (goodIn_of _ (by decide +kernel)) ggX6_hide_X6_thingsIn
set_option maxRecDepth 20000 in
theorem ggX6_hide_X6_sumOf : GoodIn wsX6_hide wsX6_sumOf := goodIn_r _ [27, 1, 63, 64, 65, 66, 67, 68, 69, 70, 71, 72, 73, 74, 75, 76, 77, 78, 79, 80, 81] (by decide +kernel) (by decide +kernel)
set_option maxRecDepth 20000 in
theorem gX6_hide_X6_sumOf : GoodIn wsX6_hide (wsV RX6 91 RX6 yX6_sumOf wsX6_sumOf) := goodIn_app (goodIn_of _ (by decide +kernel)) ggX6_hide_X6_sumOf
set_option maxRecDepth 20000 in
theorem ggX6_hide_X6_passes : GoodIn wsX6_hide wsX6_passes := goodIn_r _ [31, 1, 32, 33, 34, 5, 35, 36, 37, 38, 39, 40, 41, 42, 43, 24, 25, 26, 27, 44, 45, 46, 47, 48, 49, 50, 51, 63, 64, 65, 66, 67, 68, 69, 70, 71, 72, 73, 74, 75, 76, 77, 78, 79, 80, 81] (by decide +kernel) (by decide +kernel)
set_option maxRecDepth 20000 in
theorem gX6_hide_X6_passes : GoodIn wsX6_hide (wsV RX6 203 RX6 yX6_passes wsX6_passes) := goodIn_app (goodIn_of _ (by decide +kernel)) ggX6_hide_X6_passes
set_option maxRecDepth 20000 in
theorem ggX6_hide_X6_loses : GoodIn wsX6_hide wsX6_loses := goodIn_r _ [55, 1, 56, 57, 58, 5, 59, 24, 25, 26, 27, 32, 33, 34, 35, 63, 64, 65, 66, 67, 68, 69, 70, 71, 72, 73, 74, 75, 76, 77, 78, 79, 80, 81] (by decide +kernel) (by decide +kernel)
set_option maxRecDepth 20000 in
theorem gX6_hide_X6_loses : GoodIn wsX6_hide (wsV RX6 206 RX6 yX6_loses wsX6_loses) := goodIn_app (goodIn_of _ (by decide +kernel)) ggX6_hide_X6_loses
set_option maxRecDepth 20000 in
theorem ggX6_hide_X6_bits : GoodIn wsX6_hide wsX6_bits := goodIn_r _ [62] (by decide +kernel) (by decide +kernel)
set_option maxRecDepth 20000 in
theorem gX6_hide_X6_bits : GoodIn wsX6_hide (va_wsS RX6 219 yX6_bits wsX6_bits) := goodIn_app (goodIn_of _ (by decide +kernel)) ggX6_hide_X6_bits
def L6_hide_55 (k24 : Int32 → Int32 → Option (Int32 × (Nat → Int32)))  (book : Nat → Int32) (a_g : Int32) (a_hour : Int32) (x20 : Int32) : Nat → Int32 → Int32 → Int32 → Option (Int32 × (Nat → Int32))
  | 0, _, _, _ => none
  | n24 + 1, y21, y22, y23 => if ((1 : Int32) <<< ((book 0) &&& 31)) ≤ y23 then k24 y21 y22 else zb1 (if (y23 &&& (x20 ^^^ (-1 : Int32))) = 0 then zb1 (f6_sumOf book y23 (0 : Int32)) (fun r48 => zg ((56 : Int32) + a_g) 230 (if (book ((56 : Int32) + a_g).toNatClampNeg) < r48 then some (0 : Int32) else zb1 (f6_passes book a_g y23) (fun r52 => if r52 = 0 then some (0 : Int32) else some (1 : Int32)))) else some (0 : Int32)) (fun v27 => zb1 (if v27 = 0 then some (-1 : Int32) else zb1 (f6_loses book a_g y23 a_hour) (fun r45 => some r45)) (fun v29 => zb1 (if y22 < v29 then some (1 : Int32) else if v27 = 0 then some (0 : Int32) else if v29 = y22 then zb1 (f6_bits y23) (fun r39 => zb1 (f6_bits y21) (fun r41 => if r41 ≤ r39 then some (0 : Int32) else some (1 : Int32))) else some (0 : Int32)) (fun v31 => zb1 (if v31 = 0 then some y21 else some y23) (fun v33 => if v31 = 0 then L6_hide_55 k24 book a_g a_hour x20 n24 v33 y22 (y23 + 1) else L6_hide_55 k24 book a_g a_hour x20 n24 v33 v29 (y23 + 1)))))
def f6_hide (quiet : Int32) (book : Nat → Int32) (refused : Nat → Int32) (a_g : Int32) (a_hour : Int32) (a_what : Int32) : Option (Int32 × (Nat → Int32)) := zb1 (f6_isGift book a_g) (fun r1 => if r1 = 0 then zb2 (f6_refuses quiet refused (0 : Int32) (-10 : Int32)) (fun r4 refused_5 => some (r4, refused_5)) else zb1 (f6_isHour a_hour) (fun r7 => if r7 = 0 then zb2 (f6_refuses quiet refused (0 : Int32) (-10 : Int32)) (fun r10 refused_11 => some (r10, refused_11)) else zb1 (f6_in ((a_what).toInt64) (0 : Int64) (1 : Int64)) (fun r13 => if r13 = 0 then zb2 (f6_refuses quiet refused (0 : Int32) (-10 : Int32)) (fun r58 refused_59 => some (r58, refused_59)) else zb1 (f6_thingsIn book (-1 : Int32)) (fun r16 => zb1 (f6_thingsIn book a_g) (fun r18 => zl ((r16 ||| r18)) (fun x20 => L6_hide_55 (fun y55 y56 => if a_what = 0 then some (y55, refused) else some (y56, refused)) book a_g a_hour x20 FU (-1 : Int32) (-1 : Int32) (0 : Int32)))))))
abbrev rm6_hide : Room := { frames := 4, cells := 0, slots := 0, locals := 93 }
theorem in6_hide_6 : ∀ w ∈ wsX60, w ∈ wsX6_hide := fun w h => List.mem_cons_of_mem _ (List.mem_append_right _ h)
set_option maxHeartbeats 4000000 in
set_option maxRecDepth 100000 in
theorem c6_hide {l : Launch} {D : va_G} {cI cZ cB : ClassId} {q : Nat → Nat} {sz : Nat} {quiet : Int32} {mabove : Int64} {mbelow : Int64} {typed : Int32} {mat : Int32} {mstart : Int32} {mtoken : Int32} {mvalue : Int32} {many : Int32} {book : Nat → Int32} {images : Nat → Int32} {mkept : Nat → Int32} {aside : Nat → Int32} {refused : Nat → Int32} {text : Nat → Int32} {items : Nat → Int32} {drawn : Nat → Int32} {row : Nat → Int32} {best : Nat → Int32} {a_g : Int32} {a_hour : Int32} {a_what : Int32} {r : Int32} {d_refused : Nat → Int32} (hf : f6_hide quiet book refused a_g a_hour a_what = some (r, d_refused)) : Met l yX6_hide wsX6_hide rm6_hide (zPm D cI cZ cB [.ref (q 0), .int a_g, .int a_hour, .int a_what] sz (cMod cI cZ q quiet mabove mbelow typed mat mstart mtoken mvalue many book images mkept aside refused text items drawn row best)) (zQm D (some (.int r)) (cMod cI cZ q quiet mabove mbelow typed mat mstart mtoken mvalue many book images mkept aside d_refused text items drawn row best) (va_A (cMod cI cZ q quiet mabove mbelow typed mat mstart mtoken mvalue many book images mkept aside refused text items drawn row best) sz)) 0 0 (va_A (cMod cI cZ q quiet mabove mbelow typed mat mstart mtoken mvalue many book images mkept aside refused text items drawn row best) sz) := by
  unfold f6_hide at hf
  refine z_mutI RX6 (by decide +kernel) rfl rfl (Nat.le_of_ble_eq_true rfl) ?_
  intro p e s m args below meth c Q A ls hx hb hml hown hts hK hP hD hS hA hret hl
  have hl : lv_has ls 11 [(0, .ref (q 0)), (1, .int a_g), (2, .int a_hour), (3, .int a_what)] := hl
  refine lv_aload_n hx hb (zD_g DX6_hide 0 rfl) rfl (lv_at hl 0 rfl) ?_
  refine lv_iload_n hx hb (zD_g DX6_hide 1 rfl) rfl (lv_at hl 1 rfl) ?_
  obtain ⟨r1, hc2, hf⟩ := zb1_s hf
  refine z_Vp (As := [.int a_g]) (rest := []) ⟨hx, hb, hml, hown, hts⟩ hK (c6_isGift (quiet := quiet) (mabove := mabove) (mbelow := mbelow) (typed := typed) (mat := mat) (mstart := mstart) (mtoken := mtoken) (mvalue := mvalue) (many := many) (book := book) (images := images) (mkept := mkept) (aside := aside) (refused := refused) (text := text) (items := items) (drawn := drawn) (row := row) (best := best) (q := q) hc2) (cwV 1 hts gX6_hide_X6_isGift rfl rfl rfl hd6_isGift ⟨Nat.le_of_ble_eq_true rfl, Nat.le_of_ble_eq_true rfl⟩) hP rfl rfl rfl rfl hl.1 rfl rfl (Nat.le_of_ble_eq_true rfl) (zD_g DX6_hide 2 rfl) ⟨Nat.zero_le _, Nat.zero_le _⟩ ?_
  refine lv_if_eq (tgt := 25) hx hb (zD_g DX6_hide 3 rfl) (by decide) (fun c3 => ?_) (fun c3 => ?_)
  · replace hf := z_t c3 hf
    refine lv_aload_n hx hb (zD_g DX6_hide 13 rfl) rfl (lv_at hl 0 rfl) ?_
    refine lv_iconst (v := (0 : Int32)) hx hb (zD_g DX6_hide 14 rfl) (by decide) ?_
    refine lv_bipush (v := (-10 : Int32)) hx hb (zD_g DX6_hide 15 rfl) (by decide) ?_
    obtain ⟨r4, refused_5, hc6, hf⟩ := zb2_s hf
    refine z_Vm (As := [.int (0 : Int32), .int (-10 : Int32)]) (rest := []) (ws' := (cMod cI cZ q quiet mabove mbelow typed mat mstart mtoken mvalue many book images mkept aside refused_5 text items drawn row best)) ⟨hx, hb, hml, hown, hts⟩ hK (c6_refuses (quiet := quiet) (mabove := mabove) (mbelow := mbelow) (typed := typed) (mat := mat) (mstart := mstart) (mtoken := mtoken) (mvalue := mvalue) (many := many) (book := book) (images := images) (mkept := mkept) (aside := aside) (refused := refused) (text := text) (items := items) (drawn := drawn) (row := row) (best := best) (q := q) hc6) (cwV 2 hts gX6_hide_X6_refuses rfl rfl rfl hd6_refuses ⟨Nat.le_of_ble_eq_true rfl, Nat.le_of_ble_eq_true rfl⟩) hP hD hS hA 11 [0, 1, 2, 3, 4, 5, 6, 7, 8, 9, 10] [] [0, 1, 2, 3, 4, 5, 6, 7, 8, 9, 10] (by decide +kernel) rfl rfl rfl rfl rfl rfl rfl hl.1 rfl rfl (Nat.le_of_ble_eq_true rfl) (zD_g DX6_hide 16 rfl) ⟨Nat.zero_le _, Nat.zero_le _⟩ (fun H locs hP hD hS => ?_)
    cases hf
    exact hret _ _ _ _ hP hD hS (zD_g DX6_hide 17 rfl)
  · replace hf := z_f c3 hf
    refine lv_iload_n hx hb (zD_g DX6_hide 4 rfl) rfl (lv_at hl 2 rfl) ?_
    obtain ⟨r7, hc8, hf⟩ := zb1_s hf
    refine z_Sp (As := [.int a_hour]) (rest := []) ⟨hx, hb, hml, hown, hts⟩ hK (c6_isHour  hc8) (va_cwS 1 hts gX6_hide_X6_isHour rfl rfl rfl hd6_isHour ⟨Nat.le_of_ble_eq_true rfl, Nat.le_of_ble_eq_true rfl⟩) (hP.sub [] rfl) rfl hl.1 rfl rfl (Nat.le_of_ble_eq_true rfl) (zD_g DX6_hide 5 rfl) ⟨Nat.zero_le _, Nat.zero_le _⟩ ?_
    refine lv_if_eq (tgt := 25) hx hb (zD_g DX6_hide 6 rfl) (by decide) (fun c9 => ?_) (fun c9 => ?_)
    · replace hf := z_t c9 hf
      refine lv_aload_n hx hb (zD_g DX6_hide 13 rfl) rfl (lv_at hl 0 rfl) ?_
      refine lv_iconst (v := (0 : Int32)) hx hb (zD_g DX6_hide 14 rfl) (by decide) ?_
      refine lv_bipush (v := (-10 : Int32)) hx hb (zD_g DX6_hide 15 rfl) (by decide) ?_
      obtain ⟨r10, refused_11, hc12, hf⟩ := zb2_s hf
      refine z_Vm (As := [.int (0 : Int32), .int (-10 : Int32)]) (rest := []) (ws' := (cMod cI cZ q quiet mabove mbelow typed mat mstart mtoken mvalue many book images mkept aside refused_11 text items drawn row best)) ⟨hx, hb, hml, hown, hts⟩ hK (c6_refuses (quiet := quiet) (mabove := mabove) (mbelow := mbelow) (typed := typed) (mat := mat) (mstart := mstart) (mtoken := mtoken) (mvalue := mvalue) (many := many) (book := book) (images := images) (mkept := mkept) (aside := aside) (refused := refused) (text := text) (items := items) (drawn := drawn) (row := row) (best := best) (q := q) hc12) (cwV 2 hts gX6_hide_X6_refuses rfl rfl rfl hd6_refuses ⟨Nat.le_of_ble_eq_true rfl, Nat.le_of_ble_eq_true rfl⟩) hP hD hS hA 11 [0, 1, 2, 3, 4, 5, 6, 7, 8, 9, 10] [] [0, 1, 2, 3, 4, 5, 6, 7, 8, 9, 10] (by decide +kernel) rfl rfl rfl rfl rfl rfl rfl hl.1 rfl rfl (Nat.le_of_ble_eq_true rfl) (zD_g DX6_hide 16 rfl) ⟨Nat.zero_le _, Nat.zero_le _⟩ (fun H locs hP hD hS => ?_)
      cases hf
      exact hret _ _ _ _ hP hD hS (zD_g DX6_hide 17 rfl)
    · replace hf := z_f c9 hf
      refine lv_iload_n hx hb (zD_g DX6_hide 7 rfl) rfl (lv_at hl 3 rfl) ?_
      refine lv_i2l (v := (a_what).toInt64) hx hb (zD_g DX6_hide 8 rfl) rfl ?_
      refine lv_lconst (v := (0 : Int64)) hx hb (zD_g DX6_hide 9 rfl) (by decide) ?_
      refine lv_lconst (v := (1 : Int64)) hx hb (zD_g DX6_hide 10 rfl) (by decide) ?_
      obtain ⟨r13, hc14, hf⟩ := zb1_s hf
      refine z_Sp (As := [.long ((a_what).toInt64), .long (0 : Int64), .long (1 : Int64)]) (rest := []) ⟨hx, hb, hml, hown, hts⟩ hK (c6_in  hc14) (va_cwS 3 hts gX6_hide_X6_in rfl rfl rfl hd6_in ⟨Nat.le_of_ble_eq_true rfl, Nat.le_of_ble_eq_true rfl⟩) (hP.sub [] rfl) rfl hl.1 rfl rfl (Nat.le_of_ble_eq_true rfl) (zD_g DX6_hide 11 rfl) ⟨Nat.zero_le _, Nat.zero_le _⟩ ?_
      refine lv_if_ne (tgt := 33) hx hb (zD_g DX6_hide 12 rfl) (by decide) (fun c15 => ?_) (fun c15 => ?_)
      · replace hf := z_f c15 hf
        refine lv_aload_n hx hb (zD_g DX6_hide 18 rfl) rfl (lv_at hl 0 rfl) ?_
        refine lv_iconst (v := (-1 : Int32)) hx hb (zD_g DX6_hide 19 rfl) (by decide) ?_
        obtain ⟨r16, hc17, hf⟩ := zb1_s hf
        refine z_Vp (As := [.int (-1 : Int32)]) (rest := []) ⟨hx, hb, hml, hown, hts⟩ hK (c6_thingsIn (quiet := quiet) (mabove := mabove) (mbelow := mbelow) (typed := typed) (mat := mat) (mstart := mstart) (mtoken := mtoken) (mvalue := mvalue) (many := many) (book := book) (images := images) (mkept := mkept) (aside := aside) (refused := refused) (text := text) (items := items) (drawn := drawn) (row := row) (best := best) (q := q) hc17) (cwV 1 hts gX6_hide_X6_thingsIn rfl rfl rfl hd6_thingsIn ⟨Nat.le_of_ble_eq_true rfl, Nat.le_of_ble_eq_true rfl⟩) hP rfl rfl rfl rfl hl.1 rfl rfl (Nat.le_of_ble_eq_true rfl) (zD_g DX6_hide 20 rfl) ⟨Nat.zero_le _, Nat.zero_le _⟩ ?_
        refine lv_aload_n hx hb (zD_g DX6_hide 21 rfl) rfl (lv_at hl 0 rfl) ?_
        refine lv_iload_n hx hb (zD_g DX6_hide 22 rfl) rfl (lv_at hl 1 rfl) ?_
        obtain ⟨r18, hc19, hf⟩ := zb1_s hf
        refine z_Vp (As := [.int a_g]) (rest := [.int r16]) ⟨hx, hb, hml, hown, hts⟩ hK (c6_thingsIn (quiet := quiet) (mabove := mabove) (mbelow := mbelow) (typed := typed) (mat := mat) (mstart := mstart) (mtoken := mtoken) (mvalue := mvalue) (many := many) (book := book) (images := images) (mkept := mkept) (aside := aside) (refused := refused) (text := text) (items := items) (drawn := drawn) (row := row) (best := best) (q := q) hc19) (cwV 1 hts gX6_hide_X6_thingsIn rfl rfl rfl hd6_thingsIn ⟨Nat.le_of_ble_eq_true rfl, Nat.le_of_ble_eq_true rfl⟩) hP rfl rfl rfl rfl hl.1 rfl rfl (Nat.le_of_ble_eq_true rfl) (zD_g DX6_hide 23 rfl) ⟨Nat.zero_le _, Nat.zero_le _⟩ ?_
        refine lv_ior hx hb (zD_g DX6_hide 24 rfl) ?_
        refine lv_topi (fun x20 ex20 => ?_)
        replace hf := zl_s hf x20 ex20
        refine lv_istore (lv' := [(4, .int x20), (0, .ref (q 0)), (1, .int a_g), (2, .int a_hour), (3, .int a_what)]) hx hb (zD_g DX6_hide 25 rfl) hl (by decide) rfl (fun ls hl => ?_)
        refine lv_iconst (v := (-1 : Int32)) hx hb (zD_g DX6_hide 26 rfl) (by decide) ?_
        refine lv_istore (lv' := [(5, .int (-1 : Int32)), (4, .int x20), (0, .ref (q 0)), (1, .int a_g), (2, .int a_hour), (3, .int a_what)]) hx hb (zD_g DX6_hide 27 rfl) hl (by decide) rfl (fun ls hl => ?_)
        refine lv_iconst (v := (-1 : Int32)) hx hb (zD_g DX6_hide 28 rfl) (by decide) ?_
        refine lv_istore (lv' := [(6, .int (-1 : Int32)), (5, .int (-1 : Int32)), (4, .int x20), (0, .ref (q 0)), (1, .int a_g), (2, .int a_hour), (3, .int a_what)]) hx hb (zD_g DX6_hide 29 rfl) hl (by decide) rfl (fun ls hl => ?_)
        refine lv_iconst (v := (0 : Int32)) hx hb (zD_g DX6_hide 30 rfl) (by decide) ?_
        refine lv_istore (lv' := [(7, .int (0 : Int32)), (6, .int (-1 : Int32)), (5, .int (-1 : Int32)), (4, .int x20), (0, .ref (q 0)), (1, .int a_g), (2, .int a_hour), (3, .int a_what)]) hx hb (zD_g DX6_hide 31 rfl) hl (by decide) rfl (fun ls hl => ?_)
        have hL24 : ∀ (k24 : Int32 → Int32 → Option (Int32 × (Nat → Int32))) (hk24 : ∀ (y55 : Int32) (y56 : Int32), k24 y55 y56 = some (r, d_refused) → ∀ (H : Heap) (locs : List Loc), va_P D vwCl (cMod cI cZ q quiet mabove mbelow typed mat mstart mtoken mvalue many book images mkept aside refused text items drawn row best) H → va_D A (cMod cI cZ q quiet mabove mbelow typed mat mstart mtoken mvalue many book images mkept aside refused text items drawn row best) → va_S A s.heap H locs → ∀ (ls : Array Slot), lv_has ls 11 [(3, .int a_what), (5, .int y55), (6, .int y56)] → W p l e rm6_hide s m args below meth c H locs 0 0 Q (F0 m 206 ls [])) (n24 : Nat) (y21 : Int32) (y22 : Int32) (y23 : Int32), L6_hide_55 k24 book a_g a_hour x20 n24 y21 y22 y23 = some (r, d_refused) → ∀ (H : Heap) (locs : List Loc), va_P D vwCl (cMod cI cZ q quiet mabove mbelow typed mat mstart mtoken mvalue many book images mkept aside refused text items drawn row best) H → va_D A (cMod cI cZ q quiet mabove mbelow typed mat mstart mtoken mvalue many book images mkept aside refused text items drawn row best) → va_S A s.heap H locs → ∀ (ls : Array Slot), lv_has ls 11 [(0, .ref (q 0)), (1, .int a_g), (2, .int a_hour), (3, .int a_what), (4, .int x20), (5, .int y21), (6, .int y22), (7, .int y23)] → W p l e rm6_hide s m args below meth c H locs 0 0 Q (F0 m 55 ls []) := by
          intro k24 hk24 n24
          induction n24 with
          | zero =>
            intro y21 y22 y23 hf
            cases hf
          | succ n24 ih24 =>
            intro y21 y22 y23 hf H locs hP hD hS ls hl
            rw [L6_hide_55] at hf
            refine lv_iload hx hb (zD_g DX6_hide 32 rfl) (lv_at hl 7 rfl) ?_
            refine lv_iconst (v := (1 : Int32)) hx hb (zD_g DX6_hide 33 rfl) (by decide) ?_
            refine lv_aload_n hx hb (zD_g DX6_hide 34 rfl) rfl (lv_at hl 0 rfl) ?_
            refine va_get (D := D) (ci := 5) (v := .ref (q 1)) (C := RX6) (T := TX6) (N := 19) hx hb hts in6_hide_6 hown hK.1 hP 0 rfl rfl 0 (by decide) (hts _ (List.mem_of_getElem? (i := 1) rfl)) (fun _ h9 => h9) rfl (zD_g DX6_hide 35 rfl) ?_
            refine lv_iconst (v := (0 : Int32)) hx hb (zD_g DX6_hide 36 rfl) (by decide) ?_
            refine z_iald (k := 0) hx hb hK.1 hP 1 0 rfl rfl (by decide) rfl (zD_g DX6_hide 37 rfl) ?_
            refine lv_ishl hx hb (zD_g DX6_hide 38 rfl) ?_
            refine lv_icmp_ge (tgt := 206) hx hb (zD_g DX6_hide 39 rfl) (by decide) (fun c25 => ?_) (fun c25 => ?_)
            · replace hf := z_t c25 hf
              exact hk24 _ _ hf _ _ hP hD hS ls (lv_sub hl [3, 5, 6] rfl)
            · replace hf := z_f c25 hf
              refine lv_iload hx hb (zD_g DX6_hide 40 rfl) (lv_at hl 7 rfl) ?_
              refine lv_iload hx hb (zD_g DX6_hide 41 rfl) (lv_at hl 4 rfl) ?_
              refine lv_iconst (v := (-1 : Int32)) hx hb (zD_g DX6_hide 42 rfl) (by decide) ?_
              refine lv_ixor hx hb (zD_g DX6_hide 43 rfl) ?_
              refine lv_iand hx hb (zD_g DX6_hide 44 rfl) ?_
              obtain ⟨v27, hr47, hf⟩ := zb1_s hf
              have hJ47 : ∀ (H : Heap) (locs : List Loc), va_P D vwCl (cMod cI cZ q quiet mabove mbelow typed mat mstart mtoken mvalue many book images mkept aside refused text items drawn row best) H → va_D A (cMod cI cZ q quiet mabove mbelow typed mat mstart mtoken mvalue many book images mkept aside refused text items drawn row best) → va_S A s.heap H locs → ∀ (ls : Array Slot), lv_has ls 11 [(0, .ref (q 0)), (1, .int a_g), (2, .int a_hour), (3, .int a_what), (4, .int x20), (5, .int y21), (6, .int y22), (7, .int y23)] → W p l e rm6_hide s m args below meth c H locs 0 0 Q (F0 m 112 ls [.int v27]) := by
                intro H locs hP hD hS ls hl
                refine lv_istore (lv' := [(8, .int v27), (0, .ref (q 0)), (1, .int a_g), (2, .int a_hour), (3, .int a_what), (4, .int x20), (5, .int y21), (6, .int y22), (7, .int y23)]) hx hb (zD_g DX6_hide 65 rfl) hl (by decide) rfl (fun ls hl => ?_)
                refine lv_iload hx hb (zD_g DX6_hide 66 rfl) (lv_at hl 0 rfl) ?_
                obtain ⟨v29, hr44, hf⟩ := zb1_s hf
                have hJ44 : ∀ (H : Heap) (locs : List Loc), va_P D vwCl (cMod cI cZ q quiet mabove mbelow typed mat mstart mtoken mvalue many book images mkept aside refused text items drawn row best) H → va_D A (cMod cI cZ q quiet mabove mbelow typed mat mstart mtoken mvalue many book images mkept aside refused text items drawn row best) → va_S A s.heap H locs → ∀ (ls : Array Slot), lv_has ls 11 [(0, .ref (q 0)), (1, .int a_g), (2, .int a_hour), (3, .int a_what), (4, .int x20), (5, .int y21), (6, .int y22), (7, .int y23), (8, .int v27)] → W p l e rm6_hide s m args below meth c H locs 0 0 Q (F0 m 131 ls [.int v29]) := by
                  intro H locs hP hD hS ls hl
                  refine lv_istore (lv' := [(9, .int v29), (0, .ref (q 0)), (1, .int a_g), (2, .int a_hour), (3, .int a_what), (4, .int x20), (5, .int y21), (6, .int y22), (7, .int y23), (8, .int v27)]) hx hb (zD_g DX6_hide 75 rfl) hl (by decide) rfl (fun ls hl => ?_)
                  refine lv_iload hx hb (zD_g DX6_hide 76 rfl) (lv_at hl 0 rfl) ?_
                  refine lv_iload hx hb (zD_g DX6_hide 77 rfl) (lv_at hl 7 rfl) ?_
                  obtain ⟨v31, hr36, hf⟩ := zb1_s hf
                  have hJ36 : ∀ (H : Heap) (locs : List Loc), va_P D vwCl (cMod cI cZ q quiet mabove mbelow typed mat mstart mtoken mvalue many book images mkept aside refused text items drawn row best) H → va_D A (cMod cI cZ q quiet mabove mbelow typed mat mstart mtoken mvalue many book images mkept aside refused text items drawn row best) → va_S A s.heap H locs → ∀ (ls : Array Slot), lv_has ls 11 [(0, .ref (q 0)), (1, .int a_g), (2, .int a_hour), (3, .int a_what), (4, .int x20), (5, .int y21), (6, .int y22), (7, .int y23), (9, .int v29)] → W p l e rm6_hide s m args below meth c H locs 0 0 Q (F0 m 170 ls [.int v31]) := by
                    intro H locs hP hD hS ls hl
                    refine lv_istore (lv' := [(10, .int v31), (0, .ref (q 0)), (1, .int a_g), (2, .int a_hour), (3, .int a_what), (4, .int x20), (5, .int y21), (6, .int y22), (7, .int y23), (9, .int v29)]) hx hb (zD_g DX6_hide 92 rfl) hl (by decide) rfl (fun ls hl => ?_)
                    refine lv_iload hx hb (zD_g DX6_hide 93 rfl) (lv_at hl 0 rfl) ?_
                    obtain ⟨v33, hr35, hf⟩ := zb1_s hf
                    have hJ35 : ∀ (H : Heap) (locs : List Loc), va_P D vwCl (cMod cI cZ q quiet mabove mbelow typed mat mstart mtoken mvalue many book images mkept aside refused text items drawn row best) H → va_D A (cMod cI cZ q quiet mabove mbelow typed mat mstart mtoken mvalue many book images mkept aside refused text items drawn row best) → va_S A s.heap H locs → ∀ (ls : Array Slot), lv_has ls 11 [(0, .ref (q 0)), (1, .int a_g), (2, .int a_hour), (3, .int a_what), (4, .int x20), (6, .int y22), (7, .int y23), (9, .int v29), (10, .int v31)] → W p l e rm6_hide s m args below meth c H locs 0 0 Q (F0 m 184 ls [.int v33]) := by
                      intro H locs hP hD hS ls hl
                      refine lv_istore (lv' := [(5, .int v33), (0, .ref (q 0)), (1, .int a_g), (2, .int a_hour), (3, .int a_what), (4, .int x20), (6, .int y22), (7, .int y23), (9, .int v29), (10, .int v31)]) hx hb (zD_g DX6_hide 98 rfl) hl (by decide) rfl (fun ls hl => ?_)
                      refine lv_iload hx hb (zD_g DX6_hide 99 rfl) (lv_at hl 9 rfl) ?_
                      refine lv_if_eq (tgt := 196) hx hb (zD_g DX6_hide 100 rfl) (by decide) (fun c34 => ?_) (fun c34 => ?_)
                      · replace hf := z_t c34 hf
                        refine lv_iload hx hb (zD_g DX6_hide 103 rfl) (lv_at hl 6 rfl) ?_
                        refine lv_istore (lv' := [(6, .int y22), (5, .int v33), (0, .ref (q 0)), (1, .int a_g), (2, .int a_hour), (3, .int a_what), (4, .int x20), (7, .int y23), (9, .int v29), (10, .int v31)]) hx hb (zD_g DX6_hide 104 rfl) hl (by decide) rfl (fun ls hl => ?_)
                        refine lv_iinc (v := y23 + 1) (lv' := [(7, .int (y23 + 1)), (6, .int y22), (5, .int v33), (0, .ref (q 0)), (1, .int a_g), (2, .int a_hour), (3, .int a_what), (4, .int x20), (9, .int v29), (10, .int v31)]) (k := 7) hx hb (zD_g DX6_hide 105 rfl) hl rfl rfl (by decide) rfl (fun ls hl => ?_)
                        refine lv_goto (tgt := 55) hx hb (zD_g DX6_hide 106 rfl) (by decide) ?_
                        exact ih24 _ _ _ hf _ _ hP hD hS ls (lv_sub hl [3, 4, 5, 6, 7, 2, 1, 0] rfl)
                      · replace hf := z_f c34 hf
                        refine lv_iload hx hb (zD_g DX6_hide 101 rfl) (lv_at hl 8 rfl) ?_
                        refine lv_goto (tgt := 198) hx hb (zD_g DX6_hide 102 rfl) (by decide) ?_
                        refine lv_istore (lv' := [(6, .int v29), (5, .int v33), (0, .ref (q 0)), (1, .int a_g), (2, .int a_hour), (3, .int a_what), (4, .int x20), (7, .int y23), (9, .int v29), (10, .int v31)]) hx hb (zD_g DX6_hide 104 rfl) hl (by decide) rfl (fun ls hl => ?_)
                        refine lv_iinc (v := y23 + 1) (lv' := [(7, .int (y23 + 1)), (6, .int v29), (5, .int v33), (0, .ref (q 0)), (1, .int a_g), (2, .int a_hour), (3, .int a_what), (4, .int x20), (9, .int v29), (10, .int v31)]) (k := 7) hx hb (zD_g DX6_hide 105 rfl) hl rfl rfl (by decide) rfl (fun ls hl => ?_)
                        refine lv_goto (tgt := 55) hx hb (zD_g DX6_hide 106 rfl) (by decide) ?_
                        exact ih24 _ _ _ hf _ _ hP hD hS ls (lv_sub hl [3, 4, 5, 6, 7, 2, 1, 0] rfl)
                    clear hf
                    refine lv_if_eq (tgt := 182) hx hb (zD_g DX6_hide 94 rfl) (by decide) (fun c32 => ?_) (fun c32 => ?_)
                    · have hf := z_t c32 hr35
                      refine lv_iload hx hb (zD_g DX6_hide 97 rfl) (lv_at hl 6 rfl) ?_
                      cases hf
                      exact hJ35 _ _ hP hD hS ls (lv_sub hl [1, 2, 3, 4, 5, 7, 8, 9, 0] rfl)
                    · have hf := z_f c32 hr35
                      refine lv_iload hx hb (zD_g DX6_hide 95 rfl) (lv_at hl 8 rfl) ?_
                      refine lv_goto (tgt := 184) hx hb (zD_g DX6_hide 96 rfl) (by decide) ?_
                      cases hf
                      exact hJ35 _ _ hP hD hS ls (lv_sub hl [1, 2, 3, 4, 5, 7, 8, 9, 0] rfl)
                  clear hf
                  refine lv_icmp_gt (tgt := 165) hx hb (zD_g DX6_hide 78 rfl) (by decide) (fun c30 => ?_) (fun c30 => ?_)
                  · have hf := z_t c30 hr36
                    refine lv_iconst (v := (1 : Int32)) hx hb (zD_g DX6_hide 89 rfl) (by decide) ?_
                    refine lv_goto (tgt := 170) hx hb (zD_g DX6_hide 90 rfl) (by decide) ?_
                    cases hf
                    exact hJ36 _ _ hP hD hS ls (lv_sub hl [1, 2, 3, 4, 5, 6, 7, 8, 0] rfl)
                  · have hf := z_f c30 hr36
                    refine lv_iload hx hb (zD_g DX6_hide 79 rfl) (lv_at hl 9 rfl) ?_
                    refine lv_if_eq (tgt := 169) hx hb (zD_g DX6_hide 80 rfl) (by decide) (fun c37 => ?_) (fun c37 => ?_)
                    · replace hf := z_t c37 hf
                      refine lv_iconst (v := (0 : Int32)) hx hb (zD_g DX6_hide 91 rfl) (by decide) ?_
                      cases hf
                      exact hJ36 _ _ hP hD hS ls (lv_sub hl [1, 2, 3, 4, 5, 6, 7, 8, 0] rfl)
                    · replace hf := z_f c37 hf
                      refine lv_iload hx hb (zD_g DX6_hide 81 rfl) (lv_at hl 0 rfl) ?_
                      refine lv_iload hx hb (zD_g DX6_hide 82 rfl) (lv_at hl 7 rfl) ?_
                      refine lv_icmp_ne (tgt := 169) hx hb (zD_g DX6_hide 83 rfl) (by decide) (fun c38 => ?_) (fun c38 => ?_)
                      · replace hf := z_f c38 hf
                        refine lv_iconst (v := (0 : Int32)) hx hb (zD_g DX6_hide 91 rfl) (by decide) ?_
                        cases hf
                        exact hJ36 _ _ hP hD hS ls (lv_sub hl [1, 2, 3, 4, 5, 6, 7, 8, 0] rfl)
                      · replace hf := z_t c38 hf
                        refine lv_iload hx hb (zD_g DX6_hide 84 rfl) (lv_at hl 8 rfl) ?_
                        obtain ⟨r39, hc40, hf⟩ := zb1_s hf
                        refine z_Sp (As := [.int y23]) (rest := []) ⟨hx, hb, hml, hown, hts⟩ hK (c6_bits  hc40) (va_cwS 1 hts gX6_hide_X6_bits rfl rfl rfl hd6_bits ⟨Nat.le_of_ble_eq_true rfl, Nat.le_of_ble_eq_true rfl⟩) (hP.sub [] rfl) rfl hl.1 rfl rfl (Nat.le_of_ble_eq_true rfl) (zD_g DX6_hide 85 rfl) ⟨Nat.zero_le _, Nat.zero_le _⟩ ?_
                        refine lv_iload hx hb (zD_g DX6_hide 86 rfl) (lv_at hl 6 rfl) ?_
                        obtain ⟨r41, hc42, hf⟩ := zb1_s hf
                        refine z_Sp (As := [.int y21]) (rest := [.int r39]) ⟨hx, hb, hml, hown, hts⟩ hK (c6_bits  hc42) (va_cwS 1 hts gX6_hide_X6_bits rfl rfl rfl hd6_bits ⟨Nat.le_of_ble_eq_true rfl, Nat.le_of_ble_eq_true rfl⟩) (hP.sub [] rfl) rfl hl.1 rfl rfl (Nat.le_of_ble_eq_true rfl) (zD_g DX6_hide 87 rfl) ⟨Nat.zero_le _, Nat.zero_le _⟩ ?_
                        refine lv_icmp_ge (tgt := 169) hx hb (zD_g DX6_hide 88 rfl) (by decide) (fun c43 => ?_) (fun c43 => ?_)
                        · replace hf := z_t c43 hf
                          refine lv_iconst (v := (0 : Int32)) hx hb (zD_g DX6_hide 91 rfl) (by decide) ?_
                          cases hf
                          exact hJ36 _ _ hP hD hS ls (lv_sub hl [1, 2, 3, 4, 5, 6, 7, 8, 0] rfl)
                        · replace hf := z_f c43 hf
                          refine lv_iconst (v := (1 : Int32)) hx hb (zD_g DX6_hide 89 rfl) (by decide) ?_
                          refine lv_goto (tgt := 170) hx hb (zD_g DX6_hide 90 rfl) (by decide) ?_
                          cases hf
                          exact hJ36 _ _ hP hD hS ls (lv_sub hl [1, 2, 3, 4, 5, 6, 7, 8, 0] rfl)
                clear hf
                refine lv_if_eq (tgt := 130) hx hb (zD_g DX6_hide 67 rfl) (by decide) (fun c28 => ?_) (fun c28 => ?_)
                · have hf := z_t c28 hr44
                  refine lv_iconst (v := (-1 : Int32)) hx hb (zD_g DX6_hide 74 rfl) (by decide) ?_
                  cases hf
                  exact hJ44 _ _ hP hD hS ls (lv_sub hl [1, 2, 3, 4, 5, 6, 7, 8, 0] rfl)
                · have hf := z_f c28 hr44
                  refine lv_aload_n hx hb (zD_g DX6_hide 68 rfl) rfl (lv_at hl 1 rfl) ?_
                  refine lv_iload_n hx hb (zD_g DX6_hide 69 rfl) rfl (lv_at hl 2 rfl) ?_
                  refine lv_iload hx hb (zD_g DX6_hide 70 rfl) (lv_at hl 8 rfl) ?_
                  refine lv_iload_n hx hb (zD_g DX6_hide 71 rfl) rfl (lv_at hl 3 rfl) ?_
                  obtain ⟨r45, hc46, hf⟩ := zb1_s hf
                  refine z_Vp (As := [.int a_g, .int y23, .int a_hour]) (rest := []) ⟨hx, hb, hml, hown, hts⟩ hK (c6_loses (quiet := quiet) (mabove := mabove) (mbelow := mbelow) (typed := typed) (mat := mat) (mstart := mstart) (mtoken := mtoken) (mvalue := mvalue) (many := many) (book := book) (images := images) (mkept := mkept) (aside := aside) (refused := refused) (text := text) (items := items) (drawn := drawn) (row := row) (best := best) (q := q) hc46) (cwV 3 hts gX6_hide_X6_loses rfl rfl rfl hd6_loses ⟨Nat.le_of_ble_eq_true rfl, Nat.le_of_ble_eq_true rfl⟩) hP rfl rfl rfl rfl hl.1 rfl rfl (Nat.le_of_ble_eq_true rfl) (zD_g DX6_hide 72 rfl) ⟨Nat.zero_le _, Nat.zero_le _⟩ ?_
                  refine lv_goto (tgt := 131) hx hb (zD_g DX6_hide 73 rfl) (by decide) ?_
                  cases hf
                  exact hJ44 _ _ hP hD hS ls (lv_sub hl [1, 2, 3, 4, 5, 6, 7, 8, 0] rfl)
              clear hf
              refine lv_if_ne (tgt := 111) hx hb (zD_g DX6_hide 45 rfl) (by decide) (fun c26 => ?_) (fun c26 => ?_)
              · have hf := z_f c26 hr47
                refine lv_iconst (v := (0 : Int32)) hx hb (zD_g DX6_hide 64 rfl) (by decide) ?_
                cases hf
                exact hJ47 _ _ hP hD hS ls (lv_sub hl [0, 1, 2, 3, 4, 5, 6, 7] rfl)
              · have hf := z_t c26 hr47
                refine lv_aload_n hx hb (zD_g DX6_hide 46 rfl) rfl (lv_at hl 0 rfl) ?_
                refine lv_iload hx hb (zD_g DX6_hide 47 rfl) (lv_at hl 7 rfl) ?_
                refine lv_iconst (v := (0 : Int32)) hx hb (zD_g DX6_hide 48 rfl) (by decide) ?_
                obtain ⟨r48, hc49, hf⟩ := zb1_s hf
                refine z_Vp (As := [.int y23, .int (0 : Int32)]) (rest := []) ⟨hx, hb, hml, hown, hts⟩ hK (c6_sumOf (quiet := quiet) (mabove := mabove) (mbelow := mbelow) (typed := typed) (mat := mat) (mstart := mstart) (mtoken := mtoken) (mvalue := mvalue) (many := many) (book := book) (images := images) (mkept := mkept) (aside := aside) (refused := refused) (text := text) (items := items) (drawn := drawn) (row := row) (best := best) (q := q) hc49) (cwV 2 hts gX6_hide_X6_sumOf rfl rfl rfl hd6_sumOf ⟨Nat.le_of_ble_eq_true rfl, Nat.le_of_ble_eq_true rfl⟩) hP rfl rfl rfl rfl hl.1 rfl rfl (Nat.le_of_ble_eq_true rfl) (zD_g DX6_hide 49 rfl) ⟨Nat.zero_le _, Nat.zero_le _⟩ ?_
                refine lv_aload_n hx hb (zD_g DX6_hide 50 rfl) rfl (lv_at hl 0 rfl) ?_
                refine va_get (D := D) (ci := 5) (v := .ref (q 1)) (C := RX6) (T := TX6) (N := 19) hx hb hts in6_hide_6 hown hK.1 hP 0 rfl rfl 0 (by decide) (hts _ (List.mem_of_getElem? (i := 1) rfl)) (fun _ h9 => h9) rfl (zD_g DX6_hide 51 rfl) ?_
                refine lv_bipush (v := (56 : Int32)) hx hb (zD_g DX6_hide 52 rfl) (by decide) ?_
                refine lv_iload_n hx hb (zD_g DX6_hide 53 rfl) rfl (lv_at hl 1 rfl) ?_
                refine lv_iadd hx hb (zD_g DX6_hide 54 rfl) ?_
                obtain ⟨h50, hf⟩ := zg_s hf
                refine z_iald (k := ((56 : Int32) + a_g).toNatClampNeg) hx hb hK.1 hP 1 0 rfl rfl h50 rfl (zD_g DX6_hide 55 rfl) ?_
                refine lv_icmp_gt (tgt := 111) hx hb (zD_g DX6_hide 56 rfl) (by decide) (fun c51 => ?_) (fun c51 => ?_)
                · replace hf := z_t c51 hf
                  refine lv_iconst (v := (0 : Int32)) hx hb (zD_g DX6_hide 64 rfl) (by decide) ?_
                  cases hf
                  exact hJ47 _ _ hP hD hS ls (lv_sub hl [0, 1, 2, 3, 4, 5, 6, 7] rfl)
                · replace hf := z_f c51 hf
                  refine lv_aload_n hx hb (zD_g DX6_hide 57 rfl) rfl (lv_at hl 0 rfl) ?_
                  refine lv_iload_n hx hb (zD_g DX6_hide 58 rfl) rfl (lv_at hl 1 rfl) ?_
                  refine lv_iload hx hb (zD_g DX6_hide 59 rfl) (lv_at hl 7 rfl) ?_
                  obtain ⟨r52, hc53, hf⟩ := zb1_s hf
                  refine z_Vp (As := [.int a_g, .int y23]) (rest := []) ⟨hx, hb, hml, hown, hts⟩ hK (c6_passes (quiet := quiet) (mabove := mabove) (mbelow := mbelow) (typed := typed) (mat := mat) (mstart := mstart) (mtoken := mtoken) (mvalue := mvalue) (many := many) (book := book) (images := images) (mkept := mkept) (aside := aside) (refused := refused) (text := text) (items := items) (drawn := drawn) (row := row) (best := best) (q := q) hc53) (cwV 2 hts gX6_hide_X6_passes rfl rfl rfl hd6_passes ⟨Nat.le_of_ble_eq_true rfl, Nat.le_of_ble_eq_true rfl⟩) hP rfl rfl rfl rfl hl.1 rfl rfl (Nat.le_of_ble_eq_true rfl) (zD_g DX6_hide 60 rfl) ⟨Nat.zero_le _, Nat.zero_le _⟩ ?_
                  refine lv_if_eq (tgt := 111) hx hb (zD_g DX6_hide 61 rfl) (by decide) (fun c54 => ?_) (fun c54 => ?_)
                  · replace hf := z_t c54 hf
                    refine lv_iconst (v := (0 : Int32)) hx hb (zD_g DX6_hide 64 rfl) (by decide) ?_
                    cases hf
                    exact hJ47 _ _ hP hD hS ls (lv_sub hl [0, 1, 2, 3, 4, 5, 6, 7] rfl)
                  · replace hf := z_f c54 hf
                    refine lv_iconst (v := (1 : Int32)) hx hb (zD_g DX6_hide 62 rfl) (by decide) ?_
                    refine lv_goto (tgt := 112) hx hb (zD_g DX6_hide 63 rfl) (by decide) ?_
                    cases hf
                    exact hJ47 _ _ hP hD hS ls (lv_sub hl [0, 1, 2, 3, 4, 5, 6, 7] rfl)
        refine hL24 _ (fun y55 y56 hf H locs hP hD hS ls hl => ?_) _ _ _ _ hf _ _ hP hD hS ls (lv_sub hl [4, 5, 6, 7, 3, 2, 1, 0] rfl)
        refine lv_iload_n hx hb (zD_g DX6_hide 107 rfl) rfl (lv_at hl 0 rfl) ?_
        refine lv_if_ne (tgt := 215) hx hb (zD_g DX6_hide 108 rfl) (by decide) (fun c57 => ?_) (fun c57 => ?_)
        · replace hf := z_f c57 hf
          refine lv_iload hx hb (zD_g DX6_hide 111 rfl) (lv_at hl 2 rfl) ?_
          cases hf
          exact hret _ _ _ _ hP hD hS (zD_g DX6_hide 112 rfl)
        · replace hf := z_t c57 hf
          refine lv_iload hx hb (zD_g DX6_hide 109 rfl) (lv_at hl 1 rfl) ?_
          refine lv_goto (tgt := 217) hx hb (zD_g DX6_hide 110 rfl) (by decide) ?_
          cases hf
          exact hret _ _ _ _ hP hD hS (zD_g DX6_hide 112 rfl)
      · replace hf := z_t c15 hf
        refine lv_aload_n hx hb (zD_g DX6_hide 13 rfl) rfl (lv_at hl 0 rfl) ?_
        refine lv_iconst (v := (0 : Int32)) hx hb (zD_g DX6_hide 14 rfl) (by decide) ?_
        refine lv_bipush (v := (-10 : Int32)) hx hb (zD_g DX6_hide 15 rfl) (by decide) ?_
        obtain ⟨r58, refused_59, hc60, hf⟩ := zb2_s hf
        refine z_Vm (As := [.int (0 : Int32), .int (-10 : Int32)]) (rest := []) (ws' := (cMod cI cZ q quiet mabove mbelow typed mat mstart mtoken mvalue many book images mkept aside refused_59 text items drawn row best)) ⟨hx, hb, hml, hown, hts⟩ hK (c6_refuses (quiet := quiet) (mabove := mabove) (mbelow := mbelow) (typed := typed) (mat := mat) (mstart := mstart) (mtoken := mtoken) (mvalue := mvalue) (many := many) (book := book) (images := images) (mkept := mkept) (aside := aside) (refused := refused) (text := text) (items := items) (drawn := drawn) (row := row) (best := best) (q := q) hc60) (cwV 2 hts gX6_hide_X6_refuses rfl rfl rfl hd6_refuses ⟨Nat.le_of_ble_eq_true rfl, Nat.le_of_ble_eq_true rfl⟩) hP hD hS hA 11 [0, 1, 2, 3, 4, 5, 6, 7, 8, 9, 10] [] [0, 1, 2, 3, 4, 5, 6, 7, 8, 9, 10] (by decide +kernel) rfl rfl rfl rfl rfl rfl rfl hl.1 rfl rfl (Nat.le_of_ble_eq_true rfl) (zD_g DX6_hide 16 rfl) ⟨Nat.zero_le _, Nat.zero_le _⟩ (fun H locs hP hD hS => ?_)
        cases hf
        exact hret _ _ _ _ hP hD hS (zD_g DX6_hide 17 rfl)
theorem hd6_hide : yX6_hide.cls = RX6 ∧ yX6_hide.cls ≠ "java/lang/invoke/MethodHandle" ∧ yX6_hide.cls ≠ "java/lang/invoke/VarHandle" ∧ (parseMethodDescriptor yX6_hide.desc).map (fun d => d.parameters.length) = some 3 := by decide +kernel
abbrev dlX6_wide : List (Nat × Instr × Nat) := [(0, .iload_n 1, 1), (1, .invokestatic 73, 3), (4, .ifCond .eq 13, 3), (7, .iload_n 2, 1), (8, .i2l, 1), (9, .lconst 0, 1), (10, .lconst 1, 1), (11, .invokestatic 56, 3), (14, .ifCond .ne 8, 3), (17, .aload_n 0, 1), (18, .invokevirtual 66, 3), (21, .ireturn, 1), (22, .bipush 74, 2), (24, .iconst 3, 1), (25, .iconst 1, 1), (26, .iload_n 1, 1), (27, .isub, 1), (28, .imul, 1), (29, .iadd, 1), (30, .iload_n 2, 1), (31, .iadd, 1), (32, .istore_n 3, 1), (33, .aload_n 0, 1), (34, .getfield 7, 3), (37, .iload_n 3, 1), (38, .iaload, 1), (39, .istore 4, 2), (41, .iconst (-1), 1), (42, .istore 5, 2), (44, .iload_n 2, 1), (45, .ifCond .ne 8, 3), (48, .bipush 30, 2), (50, .goto 5, 3), (53, .bipush 50, 2), (55, .istore 6, 2), (57, .iload 6, 2), (59, .ifCond .lt 104, 3), (62, .aload_n 0, 1), (63, .getfield 7, 3), (66, .iload_n 3, 1), (67, .iload 6, 2), (69, .iastore, 1), (70, .iconst 1, 1), (71, .istore 7, 2), (73, .iconst 0, 1), (74, .istore 8, 2), (76, .iload 8, 2), (78, .aload_n 0, 1), (79, .getfield 7, 3), (82, .iconst 1, 1), (83, .iaload, 1), (84, .if_icmp .ge 59, 3), (87, .aload_n 0, 1), (88, .iload 8, 2), (90, .invokevirtual 87, 3), (93, .istore 9, 2), (95, .iload 7, 2), (97, .ifCond .eq 37, 3), (100, .aload_n 0, 1), (101, .getfield 7, 3), (104, .bipush 68, 2), (106, .iload 8, 2), (108, .iadd, 1), (109, .iaload, 1), (110, .iload_n 1, 1), (111, .if_icmp .ne 19, 3), (114, .iload 9, 2), (116, .ifCond .eq 14, 3), (119, .aload_n 0, 1), (120, .iload 8, 2), (122, .iload 9, 2), (124, .invokevirtual 203, 3), (127, .ifCond .eq 7, 3), (130, .iconst 1, 1), (131, .goto 4, 3), (134, .iconst 0, 1), (135, .istore 7, 2), (137, .iinc 8 1, 3), (140, .goto (-64), 3), (143, .iload 7, 2), (145, .ifCond .eq 8, 3), (148, .iload 6, 2), (150, .goto 5, 3), (153, .iload 5, 2), (155, .istore 5, 2), (157, .iinc 6 (-1), 3), (160, .goto (-103), 3), (163, .aload_n 0, 1), (164, .getfield 7, 3), (167, .iload_n 3, 1), (168, .iload 4, 2), (170, .iastore, 1), (171, .iload 5, 2), (173, .ireturn, 1)]
theorem DX6_wide : zD cX6_wide dlX6_wide = true := by decide +kernel
set_option maxRecDepth 20000 in
theorem ggX6_wide_X6_isCity : GoodIn wsX6_wide wsX6_isCity := goodIn_r _ [5, 6, 7, 4, 8] (by decide +kernel) (by decide +kernel)
set_option maxRecDepth 20000 in
theorem gX6_wide_X6_isCity : GoodIn wsX6_wide (va_wsS RX6 73 yX6_isCity wsX6_isCity) := goodIn_app (goodIn_of _ (by decide +kernel)) ggX6_wide_X6_isCity
set_option maxRecDepth 20000 in
theorem ggX6_wide_X6_in : GoodIn wsX6_wide wsX6_in := goodIn_r _ [8] (by decide +kernel) (by decide +kernel)
set_option maxRecDepth 20000 in
theorem gX6_wide_X6_in : GoodIn wsX6_wide (va_wsS RX6 56 yX6_in wsX6_in) := goodIn_app (goodIn_of _ (by decide +kernel)) ggX6_wide_X6_in
set_option maxRecDepth 20000 in
theorem ggX6_wide_X6_bad : GoodIn wsX6_wide wsX6_bad := goodIn_r _ [12, 13, 14, 15, 4, 16, 17, 18, 51, 52, 53, 54, 55, 56, 57, 58, 59, 60, 61, 62, 63, 64, 65, 66, 67, 68, 69] (by decide +kernel) (by decide +kernel)
set_option maxRecDepth 20000 in
theorem gX6_wide_X6_bad : GoodIn wsX6_wide (wsV RX6 66 RX6 yX6_bad wsX6_bad) := goodIn_app (goodIn_of _ (by decide +kernel)) ggX6_wide_X6_bad
set_option maxRecDepth 20000 in
theorem ggX6_wide_X6_thingsIn : GoodIn wsX6_wide wsX6_thingsIn := goodIn_r _ [22, 1, 51, 52, 53, 54, 55, 56, 57, 58, 59, 60, 61, 62, 63, 64, 65, 66, 67, 68, 69] (by decide +kernel) (by decide +kernel)
set_option maxRecDepth 20000 in
theorem gX6_wide_X6_thingsIn : GoodIn wsX6_wide (wsV RX6 87 RX6 yX6_thingsIn wsX6_thingsIn) := goodIn_app (goodIn_of _ (by decide +kernel)) ggX6_wide_X6_thingsIn
set_option maxRecDepth 20000 in
theorem ggX6_wide_X6_passes : GoodIn wsX6_wide wsX6_passes := goodIn_r _ [26, 1, 27, 28, 29, 4, 30, 31, 32, 33, 34, 35, 36, 37, 38, 39, 40, 41, 42, 43, 44, 45, 46, 47, 48, 49, 50, 51, 52, 53, 54, 55, 56, 57, 58, 59, 60, 61, 62, 63, 64, 65, 66, 67, 68, 69] (by decide +kernel) (by decide +kernel)
set_option maxRecDepth 20000 in
theorem gX6_wide_X6_passes : GoodIn wsX6_wide (wsV RX6 203 RX6 yX6_passes wsX6_passes) := goodIn_app (goodIn_of _ (by decide +kernel)) ggX6_wide_X6_passes
def L6_wide_76 (k23 : Int32 → Option (Int32 × (Nat → Int32) × (Nat → Int32)))  (a_c : Int32) (x10 : Int32) (y16 : Int32) (book_17 : Nat → Int32) : Nat → Int32 → Int32 → Option (Int32 × (Nat → Int32) × (Nat → Int32))
  | 0, _, _ => none
  | n23 + 1, y21, y22 => if ((upd book_17 x10.toNatClampNeg y16) 1) ≤ y22 then k23 y21 else zb1 (f6_thingsIn (upd book_17 x10.toNatClampNeg y16) y22) (fun r25 => if y21 = 0 then L6_wide_76 k23 a_c x10 y16 book_17 n23 (0 : Int32) (y22 + 1) else zg ((68 : Int32) + y22) 230 (if ((upd book_17 x10.toNatClampNeg y16) ((68 : Int32) + y22).toNatClampNeg) = a_c then if r25 = 0 then L6_wide_76 k23 a_c x10 y16 book_17 n23 (1 : Int32) (y22 + 1) else zb1 (f6_passes (upd book_17 x10.toNatClampNeg y16) y22 r25) (fun r31 => if r31 = 0 then L6_wide_76 k23 a_c x10 y16 book_17 n23 (0 : Int32) (y22 + 1) else L6_wide_76 k23 a_c x10 y16 book_17 n23 (1 : Int32) (y22 + 1)) else L6_wide_76 k23 a_c x10 y16 book_17 n23 (1 : Int32) (y22 + 1)))
def L6_wide_57 (k18 : Int32 → (Nat → Int32) → Option (Int32 × (Nat → Int32) × (Nat → Int32)))  (a_c : Int32) (x10 : Int32) : Nat → Int32 → Int32 → (Nat → Int32) → Option (Int32 × (Nat → Int32) × (Nat → Int32))
  | 0, _, _, _ => none
  | n18 + 1, y15, y16, book_17 => if y16 < 0 then k18 y15 book_17 else zg x10 230 (L6_wide_76 (fun y34 => if y34 = 0 then L6_wide_57 k18 a_c x10 n18 y15 (y16 + (-1)) (upd book_17 x10.toNatClampNeg y16) else L6_wide_57 k18 a_c x10 n18 y16 (y16 + (-1)) (upd book_17 x10.toNatClampNeg y16)) a_c x10 y16 book_17 FU (1 : Int32) (0 : Int32))
def f6_wide (quiet : Int32) (book : Nat → Int32) (refused : Nat → Int32) (a_c : Int32) (a_what : Int32) : Option (Int32 × (Nat → Int32) × (Nat → Int32)) := zb1 (f6_isCity a_c) (fun r1 => if r1 = 0 then zb2 (f6_bad quiet refused) (fun r4 refused_5 => some (r4, book, refused_5)) else zb1 (f6_in ((a_what).toInt64) (0 : Int64) (1 : Int64)) (fun r7 => if r7 = 0 then zb2 (f6_bad quiet refused) (fun r40 refused_41 => some (r40, book, refused_41)) else zl ((((74 : Int32) + ((3 : Int32) * ((1 : Int32) - a_c))) + a_what)) (fun x10 => zg x10 230 (zl ((book x10.toNatClampNeg)) (fun x12 => zb1 (if a_what = 0 then some (30 : Int32) else some (50 : Int32)) (fun v14 => L6_wide_57 (fun y36 book_37 => zg x10 230 (some (y36, (upd book_37 x10.toNatClampNeg x12), refused))) a_c x10 FU (-1 : Int32) v14 book))))))
abbrev rm6_wide : Room := { frames := 4, cells := 0, slots := 0, locals := 93 }
theorem in6_wide_6 : ∀ w ∈ wsX60, w ∈ wsX6_wide := fun w h => List.mem_cons_of_mem _ (List.mem_append_right _ h)
set_option maxHeartbeats 4000000 in
set_option maxRecDepth 100000 in
theorem c6_wide {l : Launch} {D : va_G} {cI cZ cB : ClassId} {q : Nat → Nat} {sz : Nat} {quiet : Int32} {mabove : Int64} {mbelow : Int64} {typed : Int32} {mat : Int32} {mstart : Int32} {mtoken : Int32} {mvalue : Int32} {many : Int32} {book : Nat → Int32} {images : Nat → Int32} {mkept : Nat → Int32} {aside : Nat → Int32} {refused : Nat → Int32} {text : Nat → Int32} {items : Nat → Int32} {drawn : Nat → Int32} {row : Nat → Int32} {best : Nat → Int32} {a_c : Int32} {a_what : Int32} {r : Int32} {d_book : Nat → Int32} {d_refused : Nat → Int32} (hf : f6_wide quiet book refused a_c a_what = some (r, d_book, d_refused)) : Met l yX6_wide wsX6_wide rm6_wide (zPm D cI cZ cB [.ref (q 0), .int a_c, .int a_what] sz (cMod cI cZ q quiet mabove mbelow typed mat mstart mtoken mvalue many book images mkept aside refused text items drawn row best)) (zQm D (some (.int r)) (cMod cI cZ q quiet mabove mbelow typed mat mstart mtoken mvalue many d_book images mkept aside d_refused text items drawn row best) (va_A (cMod cI cZ q quiet mabove mbelow typed mat mstart mtoken mvalue many book images mkept aside refused text items drawn row best) sz)) 0 0 (va_A (cMod cI cZ q quiet mabove mbelow typed mat mstart mtoken mvalue many book images mkept aside refused text items drawn row best) sz) := by
  unfold f6_wide at hf
  refine z_mutI RX6 (by decide +kernel) rfl rfl (Nat.le_of_ble_eq_true rfl) ?_
  intro p e s m args below meth c Q A ls hx hb hml hown hts hK hP hD hS hA hret hl
  have hl : lv_has ls 10 [(0, .ref (q 0)), (1, .int a_c), (2, .int a_what)] := hl
  refine lv_iload_n hx hb (zD_g DX6_wide 0 rfl) rfl (lv_at hl 1 rfl) ?_
  obtain ⟨r1, hc2, hf⟩ := zb1_s hf
  refine z_Sp (As := [.int a_c]) (rest := []) ⟨hx, hb, hml, hown, hts⟩ hK (c6_isCity  hc2) (va_cwS 1 hts gX6_wide_X6_isCity rfl rfl rfl hd6_isCity ⟨Nat.le_of_ble_eq_true rfl, Nat.le_of_ble_eq_true rfl⟩) (hP.sub [] rfl) rfl hl.1 rfl rfl (Nat.le_of_ble_eq_true rfl) (zD_g DX6_wide 1 rfl) ⟨Nat.zero_le _, Nat.zero_le _⟩ ?_
  refine lv_if_eq (tgt := 17) hx hb (zD_g DX6_wide 2 rfl) (by decide) (fun c3 => ?_) (fun c3 => ?_)
  · replace hf := z_t c3 hf
    refine lv_aload_n hx hb (zD_g DX6_wide 9 rfl) rfl (lv_at hl 0 rfl) ?_
    obtain ⟨r4, refused_5, hc6, hf⟩ := zb2_s hf
    refine z_Vm (As := []) (rest := []) (ws' := (cMod cI cZ q quiet mabove mbelow typed mat mstart mtoken mvalue many book images mkept aside refused_5 text items drawn row best)) ⟨hx, hb, hml, hown, hts⟩ hK (c6_bad (quiet := quiet) (mabove := mabove) (mbelow := mbelow) (typed := typed) (mat := mat) (mstart := mstart) (mtoken := mtoken) (mvalue := mvalue) (many := many) (book := book) (images := images) (mkept := mkept) (aside := aside) (refused := refused) (text := text) (items := items) (drawn := drawn) (row := row) (best := best) (q := q) hc6) (cwV 0 hts gX6_wide_X6_bad rfl rfl rfl hd6_bad ⟨Nat.le_of_ble_eq_true rfl, Nat.le_of_ble_eq_true rfl⟩) hP hD hS hA 11 [0, 1, 2, 3, 4, 5, 6, 7, 8, 9, 10] [] [0, 1, 2, 3, 4, 5, 6, 7, 8, 9, 10] (by decide +kernel) rfl rfl rfl rfl rfl rfl rfl hl.1 rfl rfl (Nat.le_of_ble_eq_true rfl) (zD_g DX6_wide 10 rfl) ⟨Nat.zero_le _, Nat.zero_le _⟩ (fun H locs hP hD hS => ?_)
    cases hf
    exact hret _ _ _ _ hP hD hS (zD_g DX6_wide 11 rfl)
  · replace hf := z_f c3 hf
    refine lv_iload_n hx hb (zD_g DX6_wide 3 rfl) rfl (lv_at hl 2 rfl) ?_
    refine lv_i2l (v := (a_what).toInt64) hx hb (zD_g DX6_wide 4 rfl) rfl ?_
    refine lv_lconst (v := (0 : Int64)) hx hb (zD_g DX6_wide 5 rfl) (by decide) ?_
    refine lv_lconst (v := (1 : Int64)) hx hb (zD_g DX6_wide 6 rfl) (by decide) ?_
    obtain ⟨r7, hc8, hf⟩ := zb1_s hf
    refine z_Sp (As := [.long ((a_what).toInt64), .long (0 : Int64), .long (1 : Int64)]) (rest := []) ⟨hx, hb, hml, hown, hts⟩ hK (c6_in  hc8) (va_cwS 3 hts gX6_wide_X6_in rfl rfl rfl hd6_in ⟨Nat.le_of_ble_eq_true rfl, Nat.le_of_ble_eq_true rfl⟩) (hP.sub [] rfl) rfl hl.1 rfl rfl (Nat.le_of_ble_eq_true rfl) (zD_g DX6_wide 7 rfl) ⟨Nat.zero_le _, Nat.zero_le _⟩ ?_
    refine lv_if_ne (tgt := 22) hx hb (zD_g DX6_wide 8 rfl) (by decide) (fun c9 => ?_) (fun c9 => ?_)
    · replace hf := z_f c9 hf
      refine lv_bipush (v := (74 : Int32)) hx hb (zD_g DX6_wide 12 rfl) (by decide) ?_
      refine lv_iconst (v := (3 : Int32)) hx hb (zD_g DX6_wide 13 rfl) (by decide) ?_
      refine lv_iconst (v := (1 : Int32)) hx hb (zD_g DX6_wide 14 rfl) (by decide) ?_
      refine lv_iload_n hx hb (zD_g DX6_wide 15 rfl) rfl (lv_at hl 1 rfl) ?_
      refine lv_isub hx hb (zD_g DX6_wide 16 rfl) ?_
      refine lv_imul hx hb (zD_g DX6_wide 17 rfl) ?_
      refine lv_iadd hx hb (zD_g DX6_wide 18 rfl) ?_
      refine lv_iload_n hx hb (zD_g DX6_wide 19 rfl) rfl (lv_at hl 2 rfl) ?_
      refine lv_iadd hx hb (zD_g DX6_wide 20 rfl) ?_
      refine lv_topi (fun x10 ex10 => ?_)
      replace hf := zl_s hf x10 ex10
      refine lv_istore_n (lv' := [(3, .int x10), (0, .ref (q 0)), (1, .int a_c), (2, .int a_what)]) hx hb (zD_g DX6_wide 21 rfl) rfl hl (by decide) rfl (fun ls hl => ?_)
      refine lv_aload_n hx hb (zD_g DX6_wide 22 rfl) rfl (lv_at hl 1 rfl) ?_
      refine va_get (D := D) (ci := 5) (v := .ref (q 1)) (C := RX6) (T := TX6) (N := 19) hx hb hts in6_wide_6 hown hK.1 hP 0 rfl rfl 0 (by decide) (hts _ (List.mem_of_getElem? (i := 1) rfl)) (fun _ h9 => h9) rfl (zD_g DX6_wide 23 rfl) ?_
      refine lv_iload_n hx hb (zD_g DX6_wide 24 rfl) rfl (lv_at hl 0 rfl) ?_
      obtain ⟨h11, hf⟩ := zg_s hf
      refine z_iald (k := x10.toNatClampNeg) hx hb hK.1 hP 1 0 rfl rfl h11 rfl (zD_g DX6_wide 25 rfl) ?_
      refine lv_topi (fun x12 ex12 => ?_)
      replace hf := zl_s hf x12 ex12
      refine lv_istore (lv' := [(4, .int x12), (3, .int x10), (0, .ref (q 0)), (1, .int a_c), (2, .int a_what)]) hx hb (zD_g DX6_wide 26 rfl) hl (by decide) rfl (fun ls hl => ?_)
      refine lv_iconst (v := (-1 : Int32)) hx hb (zD_g DX6_wide 27 rfl) (by decide) ?_
      refine lv_istore (lv' := [(5, .int (-1 : Int32)), (4, .int x12), (3, .int x10), (0, .ref (q 0)), (1, .int a_c), (2, .int a_what)]) hx hb (zD_g DX6_wide 28 rfl) hl (by decide) rfl (fun ls hl => ?_)
      refine lv_iload_n hx hb (zD_g DX6_wide 29 rfl) rfl (lv_at hl 5 rfl) ?_
      obtain ⟨v14, hr39, hf⟩ := zb1_s hf
      have hJ39 : ∀ (H : Heap) (locs : List Loc), va_P D vwCl (cMod cI cZ q quiet mabove mbelow typed mat mstart mtoken mvalue many book images mkept aside refused text items drawn row best) H → va_D A (cMod cI cZ q quiet mabove mbelow typed mat mstart mtoken mvalue many book images mkept aside refused text items drawn row best) → va_S A s.heap H locs → ∀ (ls : Array Slot), lv_has ls 10 [(0, .ref (q 0)), (1, .int a_c), (3, .int x10), (4, .int x12), (5, .int (-1 : Int32))] → W p l e rm6_wide s m args below meth c H locs 0 0 Q (F0 m 55 ls [.int v14]) := by
        intro H locs hP hD hS ls hl
        refine lv_istore (lv' := [(6, .int v14), (0, .ref (q 0)), (1, .int a_c), (3, .int x10), (4, .int x12), (5, .int (-1 : Int32))]) hx hb (zD_g DX6_wide 34 rfl) hl (by decide) rfl (fun ls hl => ?_)
        have hL18 : ∀ (k18 : Int32 → (Nat → Int32) → Option (Int32 × (Nat → Int32) × (Nat → Int32))) (hk18 : ∀ (y36 : Int32) (book_37 : Nat → Int32), k18 y36 book_37 = some (r, d_book, d_refused) → ∀ (H : Heap) (locs : List Loc), va_P D vwCl (cMod cI cZ q quiet mabove mbelow typed mat mstart mtoken mvalue many book_37 images mkept aside refused text items drawn row best) H → va_D A (cMod cI cZ q quiet mabove mbelow typed mat mstart mtoken mvalue many book_37 images mkept aside refused text items drawn row best) → va_S A s.heap H locs → ∀ (ls : Array Slot), lv_has ls 10 [(0, .ref (q 0)), (3, .int x10), (4, .int x12), (5, .int y36)] → W p l e rm6_wide s m args below meth c H locs 0 0 Q (F0 m 163 ls [])) (n18 : Nat) (y15 : Int32) (y16 : Int32) (book_17 : Nat → Int32), L6_wide_57 k18 a_c x10 n18 y15 y16 book_17 = some (r, d_book, d_refused) → ∀ (H : Heap) (locs : List Loc), va_P D vwCl (cMod cI cZ q quiet mabove mbelow typed mat mstart mtoken mvalue many book_17 images mkept aside refused text items drawn row best) H → va_D A (cMod cI cZ q quiet mabove mbelow typed mat mstart mtoken mvalue many book_17 images mkept aside refused text items drawn row best) → va_S A s.heap H locs → ∀ (ls : Array Slot), lv_has ls 10 [(0, .ref (q 0)), (1, .int a_c), (3, .int x10), (4, .int x12), (5, .int y15), (6, .int y16)] → W p l e rm6_wide s m args below meth c H locs 0 0 Q (F0 m 57 ls []) := by
          intro k18 hk18 n18
          induction n18 with
          | zero =>
            intro y15 y16 book_17 hf
            cases hf
          | succ n18 ih18 =>
            intro y15 y16 book_17 hf H locs hP hD hS ls hl
            rw [L6_wide_57] at hf
            refine lv_iload hx hb (zD_g DX6_wide 35 rfl) (lv_at hl 5 rfl) ?_
            refine lv_if_lt (tgt := 163) hx hb (zD_g DX6_wide 36 rfl) (by decide) (fun c19 => ?_) (fun c19 => ?_)
            · replace hf := z_t c19 hf
              exact hk18 _ _ hf _ _ hP hD hS ls (lv_sub hl [0, 2, 3, 4] rfl)
            · replace hf := z_f c19 hf
              refine lv_aload_n hx hb (zD_g DX6_wide 37 rfl) rfl (lv_at hl 0 rfl) ?_
              refine va_get (D := D) (ci := 5) (v := .ref (q 1)) (C := RX6) (T := TX6) (N := 19) hx hb hts in6_wide_6 hown hK.1 hP 0 rfl rfl 0 (by decide) (hts _ (List.mem_of_getElem? (i := 1) rfl)) (fun _ h9 => h9) rfl (zD_g DX6_wide 38 rfl) ?_
              refine lv_iload_n hx hb (zD_g DX6_wide 39 rfl) rfl (lv_at hl 2 rfl) ?_
              refine lv_iload hx hb (zD_g DX6_wide 40 rfl) (lv_at hl 5 rfl) ?_
              obtain ⟨h20, hf⟩ := zg_s hf
              refine z_iast (k := x10.toNatClampNeg) (ws' := (cMod cI cZ q quiet mabove mbelow typed mat mstart mtoken mvalue many (upd book_17 x10.toNatClampNeg y16) images mkept aside refused text items drawn row best)) hx hb hK.1 hP hD hS 1 0 rfl rfl h20 rfl rfl (zD_g DX6_wide 41 rfl) (fun H locs hP hD hS => ?_)
              refine lv_iconst (v := (1 : Int32)) hx hb (zD_g DX6_wide 42 rfl) (by decide) ?_
              refine lv_istore (lv' := [(7, .int (1 : Int32)), (0, .ref (q 0)), (1, .int a_c), (3, .int x10), (4, .int x12), (5, .int y15), (6, .int y16)]) hx hb (zD_g DX6_wide 43 rfl) hl (by decide) rfl (fun ls hl => ?_)
              refine lv_iconst (v := (0 : Int32)) hx hb (zD_g DX6_wide 44 rfl) (by decide) ?_
              refine lv_istore (lv' := [(8, .int (0 : Int32)), (7, .int (1 : Int32)), (0, .ref (q 0)), (1, .int a_c), (3, .int x10), (4, .int x12), (5, .int y15), (6, .int y16)]) hx hb (zD_g DX6_wide 45 rfl) hl (by decide) rfl (fun ls hl => ?_)
              have hL23 : ∀ (k23 : Int32 → Option (Int32 × (Nat → Int32) × (Nat → Int32))) (hk23 : ∀ (y34 : Int32), k23 y34 = some (r, d_book, d_refused) → ∀ (H : Heap) (locs : List Loc), va_P D vwCl (cMod cI cZ q quiet mabove mbelow typed mat mstart mtoken mvalue many (upd book_17 x10.toNatClampNeg y16) images mkept aside refused text items drawn row best) H → va_D A (cMod cI cZ q quiet mabove mbelow typed mat mstart mtoken mvalue many (upd book_17 x10.toNatClampNeg y16) images mkept aside refused text items drawn row best) → va_S A s.heap H locs → ∀ (ls : Array Slot), lv_has ls 10 [(0, .ref (q 0)), (1, .int a_c), (3, .int x10), (4, .int x12), (5, .int y15), (6, .int y16), (7, .int y34)] → W p l e rm6_wide s m args below meth c H locs 0 0 Q (F0 m 143 ls [])) (n23 : Nat) (y21 : Int32) (y22 : Int32), L6_wide_76 k23 a_c x10 y16 book_17 n23 y21 y22 = some (r, d_book, d_refused) → ∀ (H : Heap) (locs : List Loc), va_P D vwCl (cMod cI cZ q quiet mabove mbelow typed mat mstart mtoken mvalue many (upd book_17 x10.toNatClampNeg y16) images mkept aside refused text items drawn row best) H → va_D A (cMod cI cZ q quiet mabove mbelow typed mat mstart mtoken mvalue many (upd book_17 x10.toNatClampNeg y16) images mkept aside refused text items drawn row best) → va_S A s.heap H locs → ∀ (ls : Array Slot), lv_has ls 10 [(0, .ref (q 0)), (1, .int a_c), (3, .int x10), (4, .int x12), (5, .int y15), (6, .int y16), (7, .int y21), (8, .int y22)] → W p l e rm6_wide s m args below meth c H locs 0 0 Q (F0 m 76 ls []) := by
                intro k23 hk23 n23
                induction n23 with
                | zero =>
                  intro y21 y22 hf
                  cases hf
                | succ n23 ih23 =>
                  intro y21 y22 hf H locs hP hD hS ls hl
                  rw [L6_wide_76] at hf
                  refine lv_iload hx hb (zD_g DX6_wide 46 rfl) (lv_at hl 7 rfl) ?_
                  refine lv_aload_n hx hb (zD_g DX6_wide 47 rfl) rfl (lv_at hl 0 rfl) ?_
                  refine va_get (D := D) (ci := 5) (v := .ref (q 1)) (C := RX6) (T := TX6) (N := 19) hx hb hts in6_wide_6 hown hK.1 hP 0 rfl rfl 0 (by decide) (hts _ (List.mem_of_getElem? (i := 1) rfl)) (fun _ h9 => h9) rfl (zD_g DX6_wide 48 rfl) ?_
                  refine lv_iconst (v := (1 : Int32)) hx hb (zD_g DX6_wide 49 rfl) (by decide) ?_
                  refine z_iald (k := 1) hx hb hK.1 hP 1 0 rfl rfl (by decide) rfl (zD_g DX6_wide 50 rfl) ?_
                  refine lv_icmp_ge (tgt := 143) hx hb (zD_g DX6_wide 51 rfl) (by decide) (fun c24 => ?_) (fun c24 => ?_)
                  · replace hf := z_t c24 hf
                    exact hk23 _ hf _ _ hP hD hS ls (lv_sub hl [0, 1, 2, 3, 4, 5, 6] rfl)
                  · replace hf := z_f c24 hf
                    refine lv_aload_n hx hb (zD_g DX6_wide 52 rfl) rfl (lv_at hl 0 rfl) ?_
                    refine lv_iload hx hb (zD_g DX6_wide 53 rfl) (lv_at hl 7 rfl) ?_
                    obtain ⟨r25, hc26, hf⟩ := zb1_s hf
                    refine z_Vp (As := [.int y22]) (rest := []) ⟨hx, hb, hml, hown, hts⟩ hK (c6_thingsIn (quiet := quiet) (mabove := mabove) (mbelow := mbelow) (typed := typed) (mat := mat) (mstart := mstart) (mtoken := mtoken) (mvalue := mvalue) (many := many) (book := (upd book_17 x10.toNatClampNeg y16)) (images := images) (mkept := mkept) (aside := aside) (refused := refused) (text := text) (items := items) (drawn := drawn) (row := row) (best := best) (q := q) hc26) (cwV 1 hts gX6_wide_X6_thingsIn rfl rfl rfl hd6_thingsIn ⟨Nat.le_of_ble_eq_true rfl, Nat.le_of_ble_eq_true rfl⟩) hP rfl rfl rfl rfl hl.1 rfl rfl (Nat.le_of_ble_eq_true rfl) (zD_g DX6_wide 54 rfl) ⟨Nat.zero_le _, Nat.zero_le _⟩ ?_
                    refine lv_istore (lv' := [(9, .int r25), (0, .ref (q 0)), (1, .int a_c), (3, .int x10), (4, .int x12), (5, .int y15), (6, .int y16), (7, .int y21), (8, .int y22)]) hx hb (zD_g DX6_wide 55 rfl) hl (by decide) rfl (fun ls hl => ?_)
                    refine lv_iload hx hb (zD_g DX6_wide 56 rfl) (lv_at hl 7 rfl) ?_
                    refine lv_if_eq (tgt := 134) hx hb (zD_g DX6_wide 57 rfl) (by decide) (fun c27 => ?_) (fun c27 => ?_)
                    · replace hf := z_t c27 hf
                      refine lv_iconst (v := (0 : Int32)) hx hb (zD_g DX6_wide 75 rfl) (by decide) ?_
                      refine lv_istore (lv' := [(7, .int (0 : Int32)), (9, .int r25), (0, .ref (q 0)), (1, .int a_c), (3, .int x10), (4, .int x12), (5, .int y15), (6, .int y16), (8, .int y22)]) hx hb (zD_g DX6_wide 76 rfl) hl (by decide) rfl (fun ls hl => ?_)
                      refine lv_iinc (v := y22 + 1) (lv' := [(8, .int (y22 + 1)), (7, .int (0 : Int32)), (9, .int r25), (0, .ref (q 0)), (1, .int a_c), (3, .int x10), (4, .int x12), (5, .int y15), (6, .int y16)]) (k := 8) hx hb (zD_g DX6_wide 77 rfl) hl rfl rfl (by decide) rfl (fun ls hl => ?_)
                      refine lv_goto (tgt := 76) hx hb (zD_g DX6_wide 78 rfl) (by decide) ?_
                      exact ih23 _ _ hf _ _ hP hD hS ls (lv_sub hl [3, 4, 5, 6, 7, 8, 1, 0] rfl)
                    · replace hf := z_f c27 hf
                      refine lv_aload_n hx hb (zD_g DX6_wide 58 rfl) rfl (lv_at hl 1 rfl) ?_
                      refine va_get (D := D) (ci := 5) (v := .ref (q 1)) (C := RX6) (T := TX6) (N := 19) hx hb hts in6_wide_6 hown hK.1 hP 0 rfl rfl 0 (by decide) (hts _ (List.mem_of_getElem? (i := 1) rfl)) (fun _ h9 => h9) rfl (zD_g DX6_wide 59 rfl) ?_
                      refine lv_bipush (v := (68 : Int32)) hx hb (zD_g DX6_wide 60 rfl) (by decide) ?_
                      refine lv_iload hx hb (zD_g DX6_wide 61 rfl) (lv_at hl 8 rfl) ?_
                      refine lv_iadd hx hb (zD_g DX6_wide 62 rfl) ?_
                      obtain ⟨h28, hf⟩ := zg_s hf
                      refine z_iald (k := ((68 : Int32) + y22).toNatClampNeg) hx hb hK.1 hP 1 0 rfl rfl h28 rfl (zD_g DX6_wide 63 rfl) ?_
                      refine lv_iload_n hx hb (zD_g DX6_wide 64 rfl) rfl (lv_at hl 2 rfl) ?_
                      refine lv_icmp_ne (tgt := 130) hx hb (zD_g DX6_wide 65 rfl) (by decide) (fun c29 => ?_) (fun c29 => ?_)
                      · replace hf := z_f c29 hf
                        refine lv_iconst (v := (1 : Int32)) hx hb (zD_g DX6_wide 73 rfl) (by decide) ?_
                        refine lv_goto (tgt := 135) hx hb (zD_g DX6_wide 74 rfl) (by decide) ?_
                        refine lv_istore (lv' := [(7, .int (1 : Int32)), (9, .int r25), (0, .ref (q 0)), (1, .int a_c), (3, .int x10), (4, .int x12), (5, .int y15), (6, .int y16), (8, .int y22)]) hx hb (zD_g DX6_wide 76 rfl) hl (by decide) rfl (fun ls hl => ?_)
                        refine lv_iinc (v := y22 + 1) (lv' := [(8, .int (y22 + 1)), (7, .int (1 : Int32)), (9, .int r25), (0, .ref (q 0)), (1, .int a_c), (3, .int x10), (4, .int x12), (5, .int y15), (6, .int y16)]) (k := 8) hx hb (zD_g DX6_wide 77 rfl) hl rfl rfl (by decide) rfl (fun ls hl => ?_)
                        refine lv_goto (tgt := 76) hx hb (zD_g DX6_wide 78 rfl) (by decide) ?_
                        exact ih23 _ _ hf _ _ hP hD hS ls (lv_sub hl [3, 4, 5, 6, 7, 8, 1, 0] rfl)
                      · replace hf := z_t c29 hf
                        refine lv_iload hx hb (zD_g DX6_wide 66 rfl) (lv_at hl 0 rfl) ?_
                        refine lv_if_eq (tgt := 130) hx hb (zD_g DX6_wide 67 rfl) (by decide) (fun c30 => ?_) (fun c30 => ?_)
                        · replace hf := z_t c30 hf
                          refine lv_iconst (v := (1 : Int32)) hx hb (zD_g DX6_wide 73 rfl) (by decide) ?_
                          refine lv_goto (tgt := 135) hx hb (zD_g DX6_wide 74 rfl) (by decide) ?_
                          refine lv_istore (lv' := [(7, .int (1 : Int32)), (9, .int r25), (0, .ref (q 0)), (1, .int a_c), (3, .int x10), (4, .int x12), (5, .int y15), (6, .int y16), (8, .int y22)]) hx hb (zD_g DX6_wide 76 rfl) hl (by decide) rfl (fun ls hl => ?_)
                          refine lv_iinc (v := y22 + 1) (lv' := [(8, .int (y22 + 1)), (7, .int (1 : Int32)), (9, .int r25), (0, .ref (q 0)), (1, .int a_c), (3, .int x10), (4, .int x12), (5, .int y15), (6, .int y16)]) (k := 8) hx hb (zD_g DX6_wide 77 rfl) hl rfl rfl (by decide) rfl (fun ls hl => ?_)
                          refine lv_goto (tgt := 76) hx hb (zD_g DX6_wide 78 rfl) (by decide) ?_
                          exact ih23 _ _ hf _ _ hP hD hS ls (lv_sub hl [3, 4, 5, 6, 7, 8, 1, 0] rfl)
                        · replace hf := z_f c30 hf
                          refine lv_aload_n hx hb (zD_g DX6_wide 68 rfl) rfl (lv_at hl 1 rfl) ?_
                          refine lv_iload hx hb (zD_g DX6_wide 69 rfl) (lv_at hl 8 rfl) ?_
                          refine lv_iload hx hb (zD_g DX6_wide 70 rfl) (lv_at hl 0 rfl) ?_
                          obtain ⟨r31, hc32, hf⟩ := zb1_s hf
                          refine z_Vp (As := [.int y22, .int r25]) (rest := []) ⟨hx, hb, hml, hown, hts⟩ hK (c6_passes (quiet := quiet) (mabove := mabove) (mbelow := mbelow) (typed := typed) (mat := mat) (mstart := mstart) (mtoken := mtoken) (mvalue := mvalue) (many := many) (book := (upd book_17 x10.toNatClampNeg y16)) (images := images) (mkept := mkept) (aside := aside) (refused := refused) (text := text) (items := items) (drawn := drawn) (row := row) (best := best) (q := q) hc32) (cwV 2 hts gX6_wide_X6_passes rfl rfl rfl hd6_passes ⟨Nat.le_of_ble_eq_true rfl, Nat.le_of_ble_eq_true rfl⟩) hP rfl rfl rfl rfl hl.1 rfl rfl (Nat.le_of_ble_eq_true rfl) (zD_g DX6_wide 71 rfl) ⟨Nat.zero_le _, Nat.zero_le _⟩ ?_
                          refine lv_if_eq (tgt := 134) hx hb (zD_g DX6_wide 72 rfl) (by decide) (fun c33 => ?_) (fun c33 => ?_)
                          · replace hf := z_t c33 hf
                            refine lv_iconst (v := (0 : Int32)) hx hb (zD_g DX6_wide 75 rfl) (by decide) ?_
                            refine lv_istore (lv' := [(7, .int (0 : Int32)), (9, .int r25), (0, .ref (q 0)), (1, .int a_c), (3, .int x10), (4, .int x12), (5, .int y15), (6, .int y16), (8, .int y22)]) hx hb (zD_g DX6_wide 76 rfl) hl (by decide) rfl (fun ls hl => ?_)
                            refine lv_iinc (v := y22 + 1) (lv' := [(8, .int (y22 + 1)), (7, .int (0 : Int32)), (9, .int r25), (0, .ref (q 0)), (1, .int a_c), (3, .int x10), (4, .int x12), (5, .int y15), (6, .int y16)]) (k := 8) hx hb (zD_g DX6_wide 77 rfl) hl rfl rfl (by decide) rfl (fun ls hl => ?_)
                            refine lv_goto (tgt := 76) hx hb (zD_g DX6_wide 78 rfl) (by decide) ?_
                            exact ih23 _ _ hf _ _ hP hD hS ls (lv_sub hl [3, 4, 5, 6, 7, 8, 1, 0] rfl)
                          · replace hf := z_f c33 hf
                            refine lv_iconst (v := (1 : Int32)) hx hb (zD_g DX6_wide 73 rfl) (by decide) ?_
                            refine lv_goto (tgt := 135) hx hb (zD_g DX6_wide 74 rfl) (by decide) ?_
                            refine lv_istore (lv' := [(7, .int (1 : Int32)), (9, .int r25), (0, .ref (q 0)), (1, .int a_c), (3, .int x10), (4, .int x12), (5, .int y15), (6, .int y16), (8, .int y22)]) hx hb (zD_g DX6_wide 76 rfl) hl (by decide) rfl (fun ls hl => ?_)
                            refine lv_iinc (v := y22 + 1) (lv' := [(8, .int (y22 + 1)), (7, .int (1 : Int32)), (9, .int r25), (0, .ref (q 0)), (1, .int a_c), (3, .int x10), (4, .int x12), (5, .int y15), (6, .int y16)]) (k := 8) hx hb (zD_g DX6_wide 77 rfl) hl rfl rfl (by decide) rfl (fun ls hl => ?_)
                            refine lv_goto (tgt := 76) hx hb (zD_g DX6_wide 78 rfl) (by decide) ?_
                            exact ih23 _ _ hf _ _ hP hD hS ls (lv_sub hl [3, 4, 5, 6, 7, 8, 1, 0] rfl)
              refine hL23 _ (fun y34 hf H locs hP hD hS ls hl => ?_) _ _ _ hf _ _ hP hD hS ls (lv_sub hl [2, 3, 4, 5, 6, 7, 1, 0] rfl)
              refine lv_iload hx hb (zD_g DX6_wide 79 rfl) (lv_at hl 6 rfl) ?_
              refine lv_if_eq (tgt := 153) hx hb (zD_g DX6_wide 80 rfl) (by decide) (fun c35 => ?_) (fun c35 => ?_)
              · replace hf := z_t c35 hf
                refine lv_iload hx hb (zD_g DX6_wide 83 rfl) (lv_at hl 4 rfl) ?_
                refine lv_istore (lv' := [(5, .int y15), (0, .ref (q 0)), (1, .int a_c), (3, .int x10), (4, .int x12), (6, .int y16), (7, .int y34)]) hx hb (zD_g DX6_wide 84 rfl) hl (by decide) rfl (fun ls hl => ?_)
                refine lv_iinc (v := y16 + (-1)) (lv' := [(6, .int (y16 + (-1))), (5, .int y15), (0, .ref (q 0)), (1, .int a_c), (3, .int x10), (4, .int x12), (7, .int y34)]) (k := 5) hx hb (zD_g DX6_wide 85 rfl) hl rfl rfl (by decide) rfl (fun ls hl => ?_)
                refine lv_goto (tgt := 57) hx hb (zD_g DX6_wide 86 rfl) (by decide) ?_
                exact ih18 _ _ _ hf _ _ hP hD hS ls (lv_sub hl [2, 3, 4, 5, 1, 0] rfl)
              · replace hf := z_f c35 hf
                refine lv_iload hx hb (zD_g DX6_wide 81 rfl) (lv_at hl 5 rfl) ?_
                refine lv_goto (tgt := 155) hx hb (zD_g DX6_wide 82 rfl) (by decide) ?_
                refine lv_istore (lv' := [(5, .int y16), (0, .ref (q 0)), (1, .int a_c), (3, .int x10), (4, .int x12), (6, .int y16), (7, .int y34)]) hx hb (zD_g DX6_wide 84 rfl) hl (by decide) rfl (fun ls hl => ?_)
                refine lv_iinc (v := y16 + (-1)) (lv' := [(6, .int (y16 + (-1))), (5, .int y16), (0, .ref (q 0)), (1, .int a_c), (3, .int x10), (4, .int x12), (7, .int y34)]) (k := 5) hx hb (zD_g DX6_wide 85 rfl) hl rfl rfl (by decide) rfl (fun ls hl => ?_)
                refine lv_goto (tgt := 57) hx hb (zD_g DX6_wide 86 rfl) (by decide) ?_
                exact ih18 _ _ _ hf _ _ hP hD hS ls (lv_sub hl [2, 3, 4, 5, 1, 0] rfl)
        refine hL18 _ (fun y36 book_37 hf H locs hP hD hS ls hl => ?_) _ _ _ _ hf _ _ hP hD hS ls (lv_sub hl [1, 2, 3, 4, 5, 0] rfl)
        refine lv_aload_n hx hb (zD_g DX6_wide 87 rfl) rfl (lv_at hl 0 rfl) ?_
        refine va_get (D := D) (ci := 5) (v := .ref (q 1)) (C := RX6) (T := TX6) (N := 19) hx hb hts in6_wide_6 hown hK.1 hP 0 rfl rfl 0 (by decide) (hts _ (List.mem_of_getElem? (i := 1) rfl)) (fun _ h9 => h9) rfl (zD_g DX6_wide 88 rfl) ?_
        refine lv_iload_n hx hb (zD_g DX6_wide 89 rfl) rfl (lv_at hl 1 rfl) ?_
        refine lv_iload hx hb (zD_g DX6_wide 90 rfl) (lv_at hl 2 rfl) ?_
        obtain ⟨h38, hf⟩ := zg_s hf
        refine z_iast (k := x10.toNatClampNeg) (ws' := (cMod cI cZ q quiet mabove mbelow typed mat mstart mtoken mvalue many (upd book_37 x10.toNatClampNeg x12) images mkept aside refused text items drawn row best)) hx hb hK.1 hP hD hS 1 0 rfl rfl h38 rfl rfl (zD_g DX6_wide 91 rfl) (fun H locs hP hD hS => ?_)
        refine lv_iload hx hb (zD_g DX6_wide 92 rfl) (lv_at hl 3 rfl) ?_
        cases hf
        exact hret _ _ _ _ hP hD hS (zD_g DX6_wide 93 rfl)
      clear hf
      refine lv_if_ne (tgt := 53) hx hb (zD_g DX6_wide 30 rfl) (by decide) (fun c13 => ?_) (fun c13 => ?_)
      · have hf := z_f c13 hr39
        refine lv_bipush (v := (50 : Int32)) hx hb (zD_g DX6_wide 33 rfl) (by decide) ?_
        cases hf
        exact hJ39 _ _ hP hD hS ls (lv_sub hl [3, 4, 2, 1, 0] rfl)
      · have hf := z_t c13 hr39
        refine lv_bipush (v := (30 : Int32)) hx hb (zD_g DX6_wide 31 rfl) (by decide) ?_
        refine lv_goto (tgt := 55) hx hb (zD_g DX6_wide 32 rfl) (by decide) ?_
        cases hf
        exact hJ39 _ _ hP hD hS ls (lv_sub hl [3, 4, 2, 1, 0] rfl)
    · replace hf := z_t c9 hf
      refine lv_aload_n hx hb (zD_g DX6_wide 9 rfl) rfl (lv_at hl 0 rfl) ?_
      obtain ⟨r40, refused_41, hc42, hf⟩ := zb2_s hf
      refine z_Vm (As := []) (rest := []) (ws' := (cMod cI cZ q quiet mabove mbelow typed mat mstart mtoken mvalue many book images mkept aside refused_41 text items drawn row best)) ⟨hx, hb, hml, hown, hts⟩ hK (c6_bad (quiet := quiet) (mabove := mabove) (mbelow := mbelow) (typed := typed) (mat := mat) (mstart := mstart) (mtoken := mtoken) (mvalue := mvalue) (many := many) (book := book) (images := images) (mkept := mkept) (aside := aside) (refused := refused) (text := text) (items := items) (drawn := drawn) (row := row) (best := best) (q := q) hc42) (cwV 0 hts gX6_wide_X6_bad rfl rfl rfl hd6_bad ⟨Nat.le_of_ble_eq_true rfl, Nat.le_of_ble_eq_true rfl⟩) hP hD hS hA 11 [0, 1, 2, 3, 4, 5, 6, 7, 8, 9, 10] [] [0, 1, 2, 3, 4, 5, 6, 7, 8, 9, 10] (by decide +kernel) rfl rfl rfl rfl rfl rfl rfl hl.1 rfl rfl (Nat.le_of_ble_eq_true rfl) (zD_g DX6_wide 10 rfl) ⟨Nat.zero_le _, Nat.zero_le _⟩ (fun H locs hP hD hS => ?_)
      cases hf
      exact hret _ _ _ _ hP hD hS (zD_g DX6_wide 11 rfl)
theorem hd6_wide : yX6_wide.cls = RX6 ∧ yX6_wide.cls ≠ "java/lang/invoke/MethodHandle" ∧ yX6_wide.cls ≠ "java/lang/invoke/VarHandle" ∧ (parseMethodDescriptor yX6_wide.desc).map (fun d => d.parameters.length) = some 2 := by decide +kernel
abbrev dlX6_divisor : List (Nat × Instr × Nat) := [(0, .lload_n 0, 1), (1, .lstore 4, 2), (3, .lload_n 2, 1), (4, .lstore 6, 2), (6, .lload 6, 2), (8, .lconst 0, 1), (9, .lcmp, 1), (10, .ifCond .eq 21, 3), (13, .lload 4, 2), (15, .lload 6, 2), (17, .lrem, 1), (18, .lstore 8, 2), (20, .lload 6, 2), (22, .lstore 4, 2), (24, .lload 8, 2), (26, .lstore 6, 2), (28, .goto (-22), 3), (31, .lload 4, 2), (33, .lreturn, 1)]
theorem DX6_divisor : zD cX6_divisor dlX6_divisor = true := by decide +kernel
def L6_divisor_6 (k3 : Int64 → Option (Int64))   : Nat → Int64 → Int64 → Option (Int64)
  | 0, _, _ => none
  | n3 + 1, y1, y2 => if (lg_cmp y2 (0 : Int64)) = 0 then k3 y1 else zdl y2 (zl ((y1 - y1 / y2 * y2)) (fun x6 => L6_divisor_6 k3 n3 y2 x6))
def f6_divisor (a_a : Int64) (a_b : Int64) : Option (Int64) := L6_divisor_6 (fun y7 => some y7) FU a_a a_b
abbrev rm6_divisor : Room := { frames := 0, cells := 0, slots := 0, locals := 0 }
set_option maxHeartbeats 4000000 in
set_option maxRecDepth 100000 in
theorem c6_divisor {l : Launch} {D : va_G} {cI cZ cB : ClassId}   {a_a : Int64} {a_b : Int64} {r : Int64}  (hf : f6_divisor a_a a_b = some r) : Met l yX6_divisor wsX6_divisor rm6_divisor (zPp D cI cZ cB [.long a_a, .long a_b] ([] : va_W)) (zQp (some (.long r))) 0 0 (fun _ => False) := by
  unfold f6_divisor at hf
  refine z_pureL RX6 (by decide +kernel) rfl rfl (Nat.le_of_ble_eq_true rfl) ?_
  intro p e s m args below meth c Q ls hx hb hml hown hts hK hP hret hl
  have hl : lv_has ls 10 [(0, .long a_a), (2, .long a_b)] := hl
  refine lv_lload_n hx hb (zD_g DX6_divisor 0 rfl) rfl (lv_at hl 0 rfl) ?_
  refine lv_lstore (lv' := [(4, .long a_a), (0, .long a_a), (2, .long a_b)]) hx hb (zD_g DX6_divisor 1 rfl) hl (by decide) rfl (fun ls hl => ?_)
  refine lv_lload_n hx hb (zD_g DX6_divisor 2 rfl) rfl (lv_at hl 2 rfl) ?_
  refine lv_lstore (lv' := [(6, .long a_b), (4, .long a_a), (0, .long a_a), (2, .long a_b)]) hx hb (zD_g DX6_divisor 3 rfl) hl (by decide) rfl (fun ls hl => ?_)
  have hL3 : ∀ (k3 : Int64 → Option (Int64)) (hk3 : ∀ (y7 : Int64), k3 y7 = some r → ∀ (ls : Array Slot), lv_has ls 10 [(4, .long y7)] → W p l e rm6_divisor s m args below meth c s.heap [] 0 0 Q (F0 m 31 ls [])) (n3 : Nat) (y1 : Int64) (y2 : Int64), L6_divisor_6 k3 n3 y1 y2 = some r → ∀ (ls : Array Slot), lv_has ls 10 [(4, .long y1), (6, .long y2)] → W p l e rm6_divisor s m args below meth c s.heap [] 0 0 Q (F0 m 6 ls []) := by
    intro k3 hk3 n3
    induction n3 with
    | zero =>
      intro y1 y2 hf
      cases hf
    | succ n3 ih3 =>
      intro y1 y2 hf ls hl
      rw [L6_divisor_6] at hf
      refine lv_lload hx hb (zD_g DX6_divisor 4 rfl) (lv_at hl 1 rfl) ?_
      refine lv_lconst (v := (0 : Int64)) hx hb (zD_g DX6_divisor 5 rfl) (by decide) ?_
      refine W.lcmp hx hb (zD_g DX6_divisor 6 rfl) ?_
      refine lv_if_eq (tgt := 31) hx hb (zD_g DX6_divisor 7 rfl) (by decide) (fun c4 => ?_) (fun c4 => ?_)
      · replace hf := z_t c4 hf
        exact hk3 _ hf ls (lv_sub hl [0] rfl)
      · replace hf := z_f c4 hf
        refine lv_lload hx hb (zD_g DX6_divisor 8 rfl) (lv_at hl 0 rfl) ?_
        refine lv_lload hx hb (zD_g DX6_divisor 9 rfl) (lv_at hl 1 rfl) ?_
        obtain ⟨h5, hf⟩ := zdl_s hf
        refine lv_lrem hx hb (zD_g DX6_divisor 10 rfl) h5 ?_
        refine lv_topl (fun x6 ex6 => ?_)
        replace hf := zl_s hf x6 ex6
        refine lv_lstore (lv' := [(8, .long x6), (4, .long y1), (6, .long y2)]) hx hb (zD_g DX6_divisor 11 rfl) hl (by decide) rfl (fun ls hl => ?_)
        refine lv_lload hx hb (zD_g DX6_divisor 12 rfl) (lv_at hl 2 rfl) ?_
        refine lv_lstore (lv' := [(4, .long y2), (8, .long x6), (6, .long y2)]) hx hb (zD_g DX6_divisor 13 rfl) hl (by decide) rfl (fun ls hl => ?_)
        refine lv_lload hx hb (zD_g DX6_divisor 14 rfl) (lv_at hl 1 rfl) ?_
        refine lv_lstore (lv' := [(6, .long x6), (4, .long y2), (8, .long x6)]) hx hb (zD_g DX6_divisor 15 rfl) hl (by decide) rfl (fun ls hl => ?_)
        refine lv_goto (tgt := 6) hx hb (zD_g DX6_divisor 16 rfl) (by decide) ?_
        exact ih3 _ _ hf ls (lv_sub hl [1, 0] rfl)
  refine hL3 _ (fun y7 hf ls hl => ?_) _ _ _ hf ls (lv_sub hl [1, 0] rfl)
  refine lv_lload hx hb (zD_g DX6_divisor 17 rfl) (lv_at hl 0 rfl) ?_
  cases hf
  exact hret _ _ (zD_g DX6_divisor 18 rfl)
theorem hd6_divisor : yX6_divisor.cls ≠ "java/lang/invoke/MethodHandle" ∧ yX6_divisor.cls ≠ "java/lang/invoke/VarHandle" ∧ (parseMethodDescriptor yX6_divisor.desc).map (fun d => d.parameters.length) = some 2 := by decide +kernel
