abbrev dlX6_from : List (Nat × Instr × Nat) := [(0, .iload_n 1, 1), (1, .i2l, 1), (2, .lconst 0, 1), (3, .lconst 1, 1), (4, .invokestatic 56, 3), (7, .ifCond .ne 8, 3), (10, .aload_n 0, 1), (11, .invokevirtual 66, 3), (14, .ireturn, 1), (15, .aload_n 0, 1), (16, .getfield 16, 3), (19, .iload_n 1, 1), (20, .baload, 1), (21, .ifCond .ne 8, 3), (24, .aload_n 0, 1), (25, .invokevirtual 94, 3), (28, .ireturn, 1), (29, .iconst 0, 1), (30, .istore_n 2, 1), (31, .iload_n 2, 1), (32, .sipush 230, 3), (35, .if_icmp .ge 27, 3), (38, .aload_n 0, 1), (39, .getfield 7, 3), (42, .iload_n 2, 1), (43, .aload_n 0, 1), (44, .getfield 13, 3), (47, .sipush 230, 3), (50, .iload_n 1, 1), (51, .imul, 1), (52, .iload_n 2, 1), (53, .iadd, 1), (54, .iaload, 1), (55, .iastore, 1), (56, .iinc 2 1, 3), (59, .goto (-28), 3), (62, .iconst 1, 1), (63, .ireturn, 1)]
theorem DX6_from : zD cX6_from dlX6_from = true := by decide +kernel
set_option maxRecDepth 20000 in
theorem ggX6_from_X6_in : GoodIn wsX6_from wsX6_in := goodIn_r _ [7] (by decide +kernel) (by decide +kernel)
set_option maxRecDepth 20000 in
theorem gX6_from_X6_in : GoodIn wsX6_from (va_wsS RX6 56 yX6_in wsX6_in) := goodIn_app (goodIn_of _ (by decide +kernel)) ggX6_from_X6_in
set_option maxRecDepth 20000 in
theorem ggX6_from_X6_bad : GoodIn wsX6_from wsX6_bad := goodIn_r _ [11, 12, 13, 14, 6, 15, 16, 17, 22, 23, 24, 25, 26, 27, 28, 29, 30, 31, 32, 33, 34, 35, 36, 37, 38, 39, 40] (by decide +kernel) (by decide +kernel)
set_option maxRecDepth 20000 in
theorem gX6_from_X6_bad : GoodIn wsX6_from (wsV RX6 66 RX6 yX6_bad wsX6_bad) := goodIn_app (goodIn_of _ (by decide +kernel)) ggX6_from_X6_bad
set_option maxRecDepth 20000 in
theorem ggX6_from_X6_no : GoodIn wsX6_from wsX6_no := goodIn_r _ [21, 12, 13, 14, 6, 15, 16, 17, 22, 23, 24, 25, 26, 27, 28, 29, 30, 31, 32, 33, 34, 35, 36, 37, 38, 39, 40] (by decide +kernel) (by decide +kernel)
set_option maxRecDepth 20000 in
theorem gX6_from_X6_no : GoodIn wsX6_from (wsV RX6 94 RX6 yX6_no wsX6_no) := goodIn_app (goodIn_of _ (by decide +kernel)) ggX6_from_X6_no
def L6_from_31 (k8 : (Nat → Int32) → Option (Int32 × (Nat → Int32) × (Nat → Int32)))  (images : Nat → Int32) (a_i : Int32) : Nat → Int32 → (Nat → Int32) → Option (Int32 × (Nat → Int32) × (Nat → Int32))
  | 0, _, _ => none
  | n8 + 1, y6, book_7 => if (230 : Int32) ≤ y6 then k8 book_7 else zg (((230 : Int32) * a_i) + y6) 460 (zl ((images (((230 : Int32) * a_i) + y6).toNatClampNeg)) (fun x11 => zg y6 230 (L6_from_31 k8 images a_i n8 (y6 + 1) (upd book_7 y6.toNatClampNeg x11))))
def f6_from (quiet : Int32) (book : Nat → Int32) (images : Nat → Int32) (mkept : Nat → Int32) (refused : Nat → Int32) (a_i : Int32) : Option (Int32 × (Nat → Int32) × (Nat → Int32)) := zb1 (f6_in ((a_i).toInt64) (0 : Int64) (1 : Int64)) (fun r1 => if r1 = 0 then zb2 (f6_bad quiet refused) (fun r17 refused_18 => some (r17, book, refused_18)) else zg a_i 2 (if (mkept a_i.toNatClampNeg) = 0 then zb2 (f6_no quiet refused) (fun r14 refused_15 => some (r14, book, refused_15)) else L6_from_31 (fun book_13 => some ((1 : Int32), book_13, refused)) images a_i FU (0 : Int32) book))
abbrev rm6_from : Room := { frames := 2, cells := 0, slots := 0, locals := 42 }
theorem in6_from_6 : ∀ w ∈ wsX60, w ∈ wsX6_from := fun w h => List.mem_cons_of_mem _ (List.mem_append_right _ h)
set_option maxHeartbeats 4000000 in
set_option maxRecDepth 100000 in
theorem c6_from {l : Launch} {D : va_G} {cI cZ cB : ClassId} {q : Nat → Nat} {sz : Nat} {quiet : Int32} {mabove : Int64} {mbelow : Int64} {typed : Int32} {mat : Int32} {mstart : Int32} {mtoken : Int32} {mvalue : Int32} {many : Int32} {book : Nat → Int32} {images : Nat → Int32} {mkept : Nat → Int32} {aside : Nat → Int32} {refused : Nat → Int32} {text : Nat → Int32} {items : Nat → Int32} {drawn : Nat → Int32} {row : Nat → Int32} {best : Nat → Int32} {a_i : Int32} {r : Int32} {d_book : Nat → Int32} {d_refused : Nat → Int32} (hf : f6_from quiet book images mkept refused a_i = some (r, d_book, d_refused)) : Met l yX6_from wsX6_from rm6_from (zPm D cI cZ cB [.ref (q 0), .int a_i] sz (cMod cI cZ q quiet mabove mbelow typed mat mstart mtoken mvalue many book images mkept aside refused text items drawn row best)) (zQm D (some (.int r)) (cMod cI cZ q quiet mabove mbelow typed mat mstart mtoken mvalue many d_book images mkept aside d_refused text items drawn row best) (va_A (cMod cI cZ q quiet mabove mbelow typed mat mstart mtoken mvalue many book images mkept aside refused text items drawn row best) sz)) 0 0 (va_A (cMod cI cZ q quiet mabove mbelow typed mat mstart mtoken mvalue many book images mkept aside refused text items drawn row best) sz) := by
  unfold f6_from at hf
  refine z_mutI RX6 (by decide +kernel) rfl rfl (Nat.le_of_ble_eq_true rfl) ?_
  intro p e s m args below meth c Q A ls hx hb hml hown hts hK hP hD hS hA hret hl
  have hl : lv_has ls 3 [(0, .ref (q 0)), (1, .int a_i)] := hl
  refine lv_iload_n hx hb (zD_g DX6_from 0 rfl) rfl (lv_at hl 1 rfl) ?_
  refine lv_i2l (v := (a_i).toInt64) hx hb (zD_g DX6_from 1 rfl) rfl ?_
  refine lv_lconst (v := (0 : Int64)) hx hb (zD_g DX6_from 2 rfl) (by decide) ?_
  refine lv_lconst (v := (1 : Int64)) hx hb (zD_g DX6_from 3 rfl) (by decide) ?_
  obtain ⟨r1, hc2, hf⟩ := zb1_s hf
  refine z_Sp (As := [.long ((a_i).toInt64), .long (0 : Int64), .long (1 : Int64)]) (rest := []) ⟨hx, hb, hml, hown, hts⟩ hK (c6_in  hc2) (va_cwS 3 hts gX6_from_X6_in rfl rfl rfl hd6_in ⟨Nat.le_of_ble_eq_true rfl, Nat.le_of_ble_eq_true rfl⟩) (hP.sub [] rfl) rfl hl.1 rfl rfl (Nat.le_of_ble_eq_true rfl) (zD_g DX6_from 4 rfl) ⟨Nat.zero_le _, Nat.zero_le _⟩ ?_
  refine lv_if_ne (tgt := 15) hx hb (zD_g DX6_from 5 rfl) (by decide) (fun c3 => ?_) (fun c3 => ?_)
  · replace hf := z_f c3 hf
    refine lv_aload_n hx hb (zD_g DX6_from 9 rfl) rfl (lv_at hl 0 rfl) ?_
    refine va_get (D := D) (ci := 5) (v := .ref (q 3)) (C := RX6) (T := TX6) (N := 19) hx hb hts in6_from_6 hown hK.1 hP 0 rfl rfl 2 (by decide) (hts _ (List.mem_of_getElem? (i := 1) rfl)) (fun _ h9 => h9) rfl (zD_g DX6_from 10 rfl) ?_
    refine lv_iload_n hx hb (zD_g DX6_from 11 rfl) rfl (lv_at hl 1 rfl) ?_
    obtain ⟨h4, hf⟩ := zg_s hf
    refine z_zald (k := a_i.toNatClampNeg) hx hb hK.1 hP 3 1 rfl rfl h4 rfl (zD_g DX6_from 12 rfl) ?_
    refine lv_if_ne (tgt := 29) hx hb (zD_g DX6_from 13 rfl) (by decide) (fun c5 => ?_) (fun c5 => ?_)
    · replace hf := z_f c5 hf
      refine lv_iconst (v := (0 : Int32)) hx hb (zD_g DX6_from 17 rfl) (by decide) ?_
      refine lv_istore_n (lv' := [(2, .int (0 : Int32)), (0, .ref (q 0)), (1, .int a_i)]) hx hb (zD_g DX6_from 18 rfl) rfl hl (by decide) rfl (fun ls hl => ?_)
      have hL8 : ∀ (k8 : (Nat → Int32) → Option (Int32 × (Nat → Int32) × (Nat → Int32))) (hk8 : ∀ (book_13 : Nat → Int32), k8 book_13 = some (r, d_book, d_refused) → ∀ (H : Heap) (locs : List Loc), va_P D vwCl (cMod cI cZ q quiet mabove mbelow typed mat mstart mtoken mvalue many book_13 images mkept aside refused text items drawn row best) H → va_D A (cMod cI cZ q quiet mabove mbelow typed mat mstart mtoken mvalue many book_13 images mkept aside refused text items drawn row best) → va_S A s.heap H locs → ∀ (ls : Array Slot), lv_has ls 3 [] → W p l e rm6_from s m args below meth c H locs 0 0 Q (F0 m 62 ls [])) (n8 : Nat) (y6 : Int32) (book_7 : Nat → Int32), L6_from_31 k8 images a_i n8 y6 book_7 = some (r, d_book, d_refused) → ∀ (H : Heap) (locs : List Loc), va_P D vwCl (cMod cI cZ q quiet mabove mbelow typed mat mstart mtoken mvalue many book_7 images mkept aside refused text items drawn row best) H → va_D A (cMod cI cZ q quiet mabove mbelow typed mat mstart mtoken mvalue many book_7 images mkept aside refused text items drawn row best) → va_S A s.heap H locs → ∀ (ls : Array Slot), lv_has ls 3 [(0, .ref (q 0)), (1, .int a_i), (2, .int y6)] → W p l e rm6_from s m args below meth c H locs 0 0 Q (F0 m 31 ls []) := by
        intro k8 hk8 n8
        induction n8 with
        | zero =>
          intro y6 book_7 hf
          cases hf
        | succ n8 ih8 =>
          intro y6 book_7 hf H locs hP hD hS ls hl
          rw [L6_from_31] at hf
          refine lv_iload_n hx hb (zD_g DX6_from 19 rfl) rfl (lv_at hl 2 rfl) ?_
          refine lv_sipush (v := (230 : Int32)) hx hb (zD_g DX6_from 20 rfl) (by decide) ?_
          refine lv_icmp_ge (tgt := 62) hx hb (zD_g DX6_from 21 rfl) (by decide) (fun c9 => ?_) (fun c9 => ?_)
          · replace hf := z_t c9 hf
            exact hk8 _ hf _ _ hP hD hS ls (lv_sub hl [] rfl)
          · replace hf := z_f c9 hf
            refine lv_aload_n hx hb (zD_g DX6_from 22 rfl) rfl (lv_at hl 0 rfl) ?_
            refine va_get (D := D) (ci := 5) (v := .ref (q 1)) (C := RX6) (T := TX6) (N := 19) hx hb hts in6_from_6 hown hK.1 hP 0 rfl rfl 0 (by decide) (hts _ (List.mem_of_getElem? (i := 2) rfl)) (fun _ h9 => h9) rfl (zD_g DX6_from 23 rfl) ?_
            refine lv_iload_n hx hb (zD_g DX6_from 24 rfl) rfl (lv_at hl 2 rfl) ?_
            refine lv_aload_n hx hb (zD_g DX6_from 25 rfl) rfl (lv_at hl 0 rfl) ?_
            refine va_get (D := D) (ci := 5) (v := .ref (q 2)) (C := RX6) (T := TX6) (N := 19) hx hb hts in6_from_6 hown hK.1 hP 0 rfl rfl 1 (by decide) (hts _ (List.mem_of_getElem? (i := 3) rfl)) (fun _ h9 => h9) rfl (zD_g DX6_from 26 rfl) ?_
            refine lv_sipush (v := (230 : Int32)) hx hb (zD_g DX6_from 27 rfl) (by decide) ?_
            refine lv_iload_n hx hb (zD_g DX6_from 28 rfl) rfl (lv_at hl 1 rfl) ?_
            refine lv_imul hx hb (zD_g DX6_from 29 rfl) ?_
            refine lv_iload_n hx hb (zD_g DX6_from 30 rfl) rfl (lv_at hl 2 rfl) ?_
            refine lv_iadd hx hb (zD_g DX6_from 31 rfl) ?_
            obtain ⟨h10, hf⟩ := zg_s hf
            refine z_iald (k := (((230 : Int32) * a_i) + y6).toNatClampNeg) hx hb hK.1 hP 2 0 rfl rfl h10 rfl (zD_g DX6_from 32 rfl) ?_
            refine lv_topi (fun x11 ex11 => ?_)
            replace hf := zl_s hf x11 ex11
            obtain ⟨h12, hf⟩ := zg_s hf
            refine z_iast (k := y6.toNatClampNeg) (ws' := (cMod cI cZ q quiet mabove mbelow typed mat mstart mtoken mvalue many (upd book_7 y6.toNatClampNeg x11) images mkept aside refused text items drawn row best)) hx hb hK.1 hP hD hS 1 0 rfl rfl h12 rfl rfl (zD_g DX6_from 33 rfl) (fun H locs hP hD hS => ?_)
            refine lv_iinc (v := y6 + 1) (lv' := [(2, .int (y6 + 1)), (0, .ref (q 0)), (1, .int a_i)]) (k := 2) hx hb (zD_g DX6_from 34 rfl) hl rfl rfl (by decide) rfl (fun ls hl => ?_)
            refine lv_goto (tgt := 31) hx hb (zD_g DX6_from 35 rfl) (by decide) ?_
            exact ih8 _ _ hf _ _ hP hD hS ls (lv_sub hl [1, 2, 0] rfl)
      refine hL8 _ (fun book_13 hf H locs hP hD hS ls hl => ?_) _ _ _ hf _ _ hP hD hS ls (lv_sub hl [1, 2, 0] rfl)
      refine lv_iconst (v := (1 : Int32)) hx hb (zD_g DX6_from 36 rfl) (by decide) ?_
      cases hf
      exact hret _ _ _ _ hP hD hS (zD_g DX6_from 37 rfl)
    · replace hf := z_t c5 hf
      refine lv_aload_n hx hb (zD_g DX6_from 14 rfl) rfl (lv_at hl 0 rfl) ?_
      obtain ⟨r14, refused_15, hc16, hf⟩ := zb2_s hf
      refine z_Vm (As := []) (rest := []) (ws' := (cMod cI cZ q quiet mabove mbelow typed mat mstart mtoken mvalue many book images mkept aside refused_15 text items drawn row best)) ⟨hx, hb, hml, hown, hts⟩ hK (c6_no (quiet := quiet) (mabove := mabove) (mbelow := mbelow) (typed := typed) (mat := mat) (mstart := mstart) (mtoken := mtoken) (mvalue := mvalue) (many := many) (book := book) (images := images) (mkept := mkept) (aside := aside) (refused := refused) (text := text) (items := items) (drawn := drawn) (row := row) (best := best) (q := q) hc16) (cwV 0 hts gX6_from_X6_no rfl rfl rfl hd6_no ⟨Nat.le_of_ble_eq_true rfl, Nat.le_of_ble_eq_true rfl⟩) hP hD hS hA 11 [0, 1, 2, 3, 4, 5, 6, 7, 8, 9, 10] [] [0, 1, 2, 3, 4, 5, 6, 7, 8, 9, 10] (by decide +kernel) rfl rfl rfl rfl rfl rfl rfl hl.1 rfl rfl (Nat.le_of_ble_eq_true rfl) (zD_g DX6_from 15 rfl) ⟨Nat.zero_le _, Nat.zero_le _⟩ (fun H locs hP hD hS => ?_)
      cases hf
      exact hret _ _ _ _ hP hD hS (zD_g DX6_from 16 rfl)
  · replace hf := z_t c3 hf
    refine lv_aload_n hx hb (zD_g DX6_from 6 rfl) rfl (lv_at hl 0 rfl) ?_
    obtain ⟨r17, refused_18, hc19, hf⟩ := zb2_s hf
    refine z_Vm (As := []) (rest := []) (ws' := (cMod cI cZ q quiet mabove mbelow typed mat mstart mtoken mvalue many book images mkept aside refused_18 text items drawn row best)) ⟨hx, hb, hml, hown, hts⟩ hK (c6_bad (quiet := quiet) (mabove := mabove) (mbelow := mbelow) (typed := typed) (mat := mat) (mstart := mstart) (mtoken := mtoken) (mvalue := mvalue) (many := many) (book := book) (images := images) (mkept := mkept) (aside := aside) (refused := refused) (text := text) (items := items) (drawn := drawn) (row := row) (best := best) (q := q) hc19) (cwV 0 hts gX6_from_X6_bad rfl rfl rfl hd6_bad ⟨Nat.le_of_ble_eq_true rfl, Nat.le_of_ble_eq_true rfl⟩) hP hD hS hA 11 [0, 1, 2, 3, 4, 5, 6, 7, 8, 9, 10] [] [0, 1, 2, 3, 4, 5, 6, 7, 8, 9, 10] (by decide +kernel) rfl rfl rfl rfl rfl rfl rfl hl.1 rfl rfl (Nat.le_of_ble_eq_true rfl) (zD_g DX6_from 7 rfl) ⟨Nat.zero_le _, Nat.zero_le _⟩ (fun H locs hP hD hS => ?_)
    cases hf
    exact hret _ _ _ _ hP hD hS (zD_g DX6_from 8 rfl)
theorem hd6_from : yX6_from.cls = RX6 ∧ yX6_from.cls ≠ "java/lang/invoke/MethodHandle" ∧ yX6_from.cls ≠ "java/lang/invoke/VarHandle" ∧ (parseMethodDescriptor yX6_from.desc).map (fun d => d.parameters.length) = some 1 := by decide +kernel
abbrev dlX6_status : List (Nat × Instr × Nat) := [(0, .iload_n 1, 1), (1, .i2l, 1), (2, .lconst 0, 1), (3, .ldc2_w 103, 3), (6, .invokestatic 56, 3), (9, .ifCond .eq 12, 3), (12, .aload_n 0, 1), (13, .getfield 23, 3), (16, .iload_n 1, 1), (17, .iaload, 1), (18, .goto 9, 3), (21, .aload_n 0, 1), (22, .iconst 0, 1), (23, .iconst (-1), 1), (24, .invokevirtual 52, 3), (27, .ireturn, 1)]
theorem DX6_status : zD cX6_status dlX6_status = true := by decide +kernel
set_option maxRecDepth 20000 in
theorem ggX6_status_X6_in : GoodIn wsX6_status wsX6_in := goodIn_r _ [6] (by decide +kernel) (by decide +kernel)
set_option maxRecDepth 20000 in
theorem gX6_status_X6_in : GoodIn wsX6_status (va_wsS RX6 56 yX6_in wsX6_in) := goodIn_app (goodIn_of _ (by decide +kernel)) ggX6_status_X6_in
set_option maxRecDepth 20000 in
theorem ggX6_status_X6_refuses : GoodIn wsX6_status wsX6_refuses := goodIn_r _ [10, 2, 11, 12, 13, 14, 15, 16, 17, 18, 19, 20, 21, 22, 23, 24, 25, 26, 27, 28, 29, 30] (by decide +kernel) (by decide +kernel)
set_option maxRecDepth 20000 in
theorem gX6_status_X6_refuses : GoodIn wsX6_status (wsV RX6 52 RX6 yX6_refuses wsX6_refuses) := goodIn_app (goodIn_of _ (by decide +kernel)) ggX6_status_X6_refuses
def f6_status (quiet : Int32) (refused : Nat → Int32) (a_what : Int32) : Option (Int32 × (Nat → Int32)) := zb1 (f6_in ((a_what).toInt64) (0 : Int64) (2 : Int64)) (fun r1 => if r1 = 0 then zb2 (f6_refuses quiet refused (0 : Int32) (-1 : Int32)) (fun r4 refused_5 => some (r4, refused_5)) else zg a_what 3 (some ((refused a_what.toNatClampNeg), refused)))
abbrev rm6_status : Room := { frames := 1, cells := 0, slots := 0, locals := 25 }
theorem in6_status_6 : ∀ w ∈ wsX60, w ∈ wsX6_status := fun w h => List.mem_cons_of_mem _ (List.mem_append_right _ h)
set_option maxHeartbeats 4000000 in
set_option maxRecDepth 100000 in
theorem c6_status {l : Launch} {D : va_G} {cI cZ cB : ClassId} {q : Nat → Nat} {sz : Nat} {quiet : Int32} {mabove : Int64} {mbelow : Int64} {typed : Int32} {mat : Int32} {mstart : Int32} {mtoken : Int32} {mvalue : Int32} {many : Int32} {book : Nat → Int32} {images : Nat → Int32} {mkept : Nat → Int32} {aside : Nat → Int32} {refused : Nat → Int32} {text : Nat → Int32} {items : Nat → Int32} {drawn : Nat → Int32} {row : Nat → Int32} {best : Nat → Int32} {a_what : Int32} {r : Int32} {d_refused : Nat → Int32} (hf : f6_status quiet refused a_what = some (r, d_refused)) : Met l yX6_status wsX6_status rm6_status (zPm D cI cZ cB [.ref (q 0), .int a_what] sz (cMod cI cZ q quiet mabove mbelow typed mat mstart mtoken mvalue many book images mkept aside refused text items drawn row best)) (zQm D (some (.int r)) (cMod cI cZ q quiet mabove mbelow typed mat mstart mtoken mvalue many book images mkept aside d_refused text items drawn row best) (va_A (cMod cI cZ q quiet mabove mbelow typed mat mstart mtoken mvalue many book images mkept aside refused text items drawn row best) sz)) 0 0 (va_A (cMod cI cZ q quiet mabove mbelow typed mat mstart mtoken mvalue many book images mkept aside refused text items drawn row best) sz) := by
  unfold f6_status at hf
  refine z_mutI RX6 (by decide +kernel) rfl rfl (Nat.le_of_ble_eq_true rfl) ?_
  intro p e s m args below meth c Q A ls hx hb hml hown hts hK hP hD hS hA hret hl
  have hl : lv_has ls 2 [(0, .ref (q 0)), (1, .int a_what)] := hl
  refine lv_iload_n hx hb (zD_g DX6_status 0 rfl) rfl (lv_at hl 1 rfl) ?_
  refine lv_i2l (v := (a_what).toInt64) hx hb (zD_g DX6_status 1 rfl) rfl ?_
  refine lv_lconst (v := (0 : Int64)) hx hb (zD_g DX6_status 2 rfl) (by decide) ?_
  refine lv_ldc2 (v := (2 : Int64)) hx hb hown (hts _ (List.mem_of_getElem? (i := 1) rfl)) (zD_g DX6_status 3 rfl) ?_
  obtain ⟨r1, hc2, hf⟩ := zb1_s hf
  refine z_Sp (As := [.long ((a_what).toInt64), .long (0 : Int64), .long (2 : Int64)]) (rest := []) ⟨hx, hb, hml, hown, hts⟩ hK (c6_in  hc2) (va_cwS 3 hts gX6_status_X6_in rfl rfl rfl hd6_in ⟨Nat.le_of_ble_eq_true rfl, Nat.le_of_ble_eq_true rfl⟩) (hP.sub [] rfl) rfl hl.1 rfl rfl (Nat.le_of_ble_eq_true rfl) (zD_g DX6_status 4 rfl) ⟨Nat.zero_le _, Nat.zero_le _⟩ ?_
  refine lv_if_eq (tgt := 21) hx hb (zD_g DX6_status 5 rfl) (by decide) (fun c3 => ?_) (fun c3 => ?_)
  · replace hf := z_t c3 hf
    refine lv_aload_n hx hb (zD_g DX6_status 11 rfl) rfl (lv_at hl 0 rfl) ?_
    refine lv_iconst (v := (0 : Int32)) hx hb (zD_g DX6_status 12 rfl) (by decide) ?_
    refine lv_iconst (v := (-1 : Int32)) hx hb (zD_g DX6_status 13 rfl) (by decide) ?_
    obtain ⟨r4, refused_5, hc6, hf⟩ := zb2_s hf
    refine z_Vm (As := [.int (0 : Int32), .int (-1 : Int32)]) (rest := []) (ws' := (cMod cI cZ q quiet mabove mbelow typed mat mstart mtoken mvalue many book images mkept aside refused_5 text items drawn row best)) ⟨hx, hb, hml, hown, hts⟩ hK (c6_refuses (quiet := quiet) (mabove := mabove) (mbelow := mbelow) (typed := typed) (mat := mat) (mstart := mstart) (mtoken := mtoken) (mvalue := mvalue) (many := many) (book := book) (images := images) (mkept := mkept) (aside := aside) (refused := refused) (text := text) (items := items) (drawn := drawn) (row := row) (best := best) (q := q) hc6) (cwV 2 hts gX6_status_X6_refuses rfl rfl rfl hd6_refuses ⟨Nat.le_of_ble_eq_true rfl, Nat.le_of_ble_eq_true rfl⟩) hP hD hS hA 11 [0, 1, 2, 3, 4, 5, 6, 7, 8, 9, 10] [] [0, 1, 2, 3, 4, 5, 6, 7, 8, 9, 10] (by decide +kernel) rfl rfl rfl rfl rfl rfl rfl hl.1 rfl rfl (Nat.le_of_ble_eq_true rfl) (zD_g DX6_status 14 rfl) ⟨Nat.zero_le _, Nat.zero_le _⟩ (fun H locs hP hD hS => ?_)
    cases hf
    exact hret _ _ _ _ hP hD hS (zD_g DX6_status 15 rfl)
  · replace hf := z_f c3 hf
    refine lv_aload_n hx hb (zD_g DX6_status 6 rfl) rfl (lv_at hl 0 rfl) ?_
    refine va_get (D := D) (ci := 5) (v := .ref (q 5)) (C := RX6) (T := TX6) (N := 19) hx hb hts in6_status_6 hown hK.1 hP 0 rfl rfl 4 (by decide) (hts _ (List.mem_of_getElem? (i := 2) rfl)) (fun _ h9 => h9) rfl (zD_g DX6_status 7 rfl) ?_
    refine lv_iload_n hx hb (zD_g DX6_status 8 rfl) rfl (lv_at hl 1 rfl) ?_
    obtain ⟨h7, hf⟩ := zg_s hf
    refine z_iald (k := a_what.toNatClampNeg) hx hb hK.1 hP 5 0 rfl rfl h7 rfl (zD_g DX6_status 9 rfl) ?_
    refine lv_goto (tgt := 27) hx hb (zD_g DX6_status 10 rfl) (by decide) ?_
    cases hf
    exact hret _ _ _ _ hP hD hS (zD_g DX6_status 15 rfl)
theorem hd6_status : yX6_status.cls = RX6 ∧ yX6_status.cls ≠ "java/lang/invoke/MethodHandle" ∧ yX6_status.cls ≠ "java/lang/invoke/VarHandle" ∧ (parseMethodDescriptor yX6_status.desc).map (fun d => d.parameters.length) = some 1 := by decide +kernel
abbrev dlX6_countOf : List (Nat × Instr × Nat) := [(0, .aload_n 0, 1), (1, .getfield 7, 3), (4, .iconst 0, 1), (5, .iaload, 1), (6, .aload_n 0, 1), (7, .iconst (-1), 1), (8, .invokevirtual 87, 3), (11, .invokestatic 219, 3), (14, .isub, 1), (15, .istore_n 2, 1), (16, .iload_n 1, 1), (17, .iconst 3, 1), (18, .if_icmp .ge 12, 3), (21, .aload_n 0, 1), (22, .getfield 7, 3), (25, .iload_n 1, 1), (26, .iaload, 1), (27, .goto 30, 3), (30, .iload_n 1, 1), (31, .iconst 3, 1), (32, .if_icmp .ne 7, 3), (35, .iload_n 2, 1), (36, .goto 21, 3), (39, .iload_n 1, 1), (40, .iconst 4, 1), (41, .if_icmp .ne 12, 3), (44, .aload_n 0, 1), (45, .getfield 7, 3), (48, .iconst 3, 1), (49, .iaload, 1), (50, .goto 7, 3), (53, .aload_n 0, 1), (54, .getfield 110, 3), (57, .ireturn, 1)]
theorem DX6_countOf : zD cX6_countOf dlX6_countOf = true := by decide +kernel
set_option maxRecDepth 20000 in
theorem ggX6_countOf_X6_thingsIn : GoodIn wsX6_countOf wsX6_thingsIn := goodIn_r _ [7, 1, 11, 12, 13, 14, 15, 16, 17, 18, 19, 20, 21, 22, 23, 24, 25, 26, 27, 28, 29] (by decide +kernel) (by decide +kernel)
set_option maxRecDepth 20000 in
theorem gX6_countOf_X6_thingsIn : GoodIn wsX6_countOf (wsV RX6 87 RX6 yX6_thingsIn wsX6_thingsIn) := goodIn_app (goodIn_of _ (by decide +kernel)) ggX6_countOf_X6_thingsIn
set_option maxRecDepth 20000 in
theorem ggX6_countOf_X6_bits : GoodIn wsX6_countOf wsX6_bits := goodIn_r _ [10] (by decide +kernel) (by decide +kernel)
set_option maxRecDepth 20000 in
theorem gX6_countOf_X6_bits : GoodIn wsX6_countOf (va_wsS RX6 219 yX6_bits wsX6_bits) := goodIn_app (goodIn_of _ (by decide +kernel)) ggX6_countOf_X6_bits
def f6_countOf (typed : Int32) (book : Nat → Int32) (a_what : Int32) : Option (Int32) := zb1 (f6_thingsIn book (-1 : Int32)) (fun r1 => zb1 (f6_bits r1) (fun r3 => zl (((book 0) - r3)) (fun x5 => if (3 : Int32) ≤ a_what then if a_what = (3 : Int32) then some x5 else if a_what = (4 : Int32) then some (book 3) else some typed else zg a_what 230 (some (book a_what.toNatClampNeg)))))
abbrev rm6_countOf : Room := { frames := 1, cells := 0, slots := 0, locals := 23 }
theorem in6_countOf_6 : ∀ w ∈ wsX60, w ∈ wsX6_countOf := fun w h => List.mem_cons_of_mem _ (List.mem_append_right _ h)
set_option maxHeartbeats 4000000 in
set_option maxRecDepth 100000 in
theorem c6_countOf {l : Launch} {D : va_G} {cI cZ cB : ClassId} {q : Nat → Nat} {quiet : Int32} {mabove : Int64} {mbelow : Int64} {typed : Int32} {mat : Int32} {mstart : Int32} {mtoken : Int32} {mvalue : Int32} {many : Int32} {book : Nat → Int32} {images : Nat → Int32} {mkept : Nat → Int32} {aside : Nat → Int32} {refused : Nat → Int32} {text : Nat → Int32} {items : Nat → Int32} {drawn : Nat → Int32} {row : Nat → Int32} {best : Nat → Int32} {a_what : Int32} {r : Int32}  (hf : f6_countOf typed book a_what = some r) : Met l yX6_countOf wsX6_countOf rm6_countOf (zPp D cI cZ cB [.ref (q 0), .int a_what] (cMod cI cZ q quiet mabove mbelow typed mat mstart mtoken mvalue many book images mkept aside refused text items drawn row best)) (zQp (some (.int r))) 0 0 (fun _ => False) := by
  unfold f6_countOf at hf
  refine z_pureI RX6 (by decide +kernel) rfl rfl (Nat.le_of_ble_eq_true rfl) ?_
  intro p e s m args below meth c Q ls hx hb hml hown hts hK hP hret hl
  have hl : lv_has ls 3 [(0, .ref (q 0)), (1, .int a_what)] := hl
  refine lv_aload_n hx hb (zD_g DX6_countOf 0 rfl) rfl (lv_at hl 0 rfl) ?_
  refine va_get (D := D) (ci := 5) (v := .ref (q 1)) (C := RX6) (T := TX6) (N := 19) hx hb hts in6_countOf_6 hown hK.1 hP 0 rfl rfl 0 (by decide) (hts _ (List.mem_of_getElem? (i := 1) rfl)) (fun _ h9 => h9) rfl (zD_g DX6_countOf 1 rfl) ?_
  refine lv_iconst (v := (0 : Int32)) hx hb (zD_g DX6_countOf 2 rfl) (by decide) ?_
  refine z_iald (k := 0) hx hb hK.1 hP 1 0 rfl rfl (by decide) rfl (zD_g DX6_countOf 3 rfl) ?_
  refine lv_aload_n hx hb (zD_g DX6_countOf 4 rfl) rfl (lv_at hl 0 rfl) ?_
  refine lv_iconst (v := (-1 : Int32)) hx hb (zD_g DX6_countOf 5 rfl) (by decide) ?_
  obtain ⟨r1, hc2, hf⟩ := zb1_s hf
  refine z_Vp (As := [.int (-1 : Int32)]) (rest := [.int (book 0)]) ⟨hx, hb, hml, hown, hts⟩ hK (c6_thingsIn (quiet := quiet) (mabove := mabove) (mbelow := mbelow) (typed := typed) (mat := mat) (mstart := mstart) (mtoken := mtoken) (mvalue := mvalue) (many := many) (book := book) (images := images) (mkept := mkept) (aside := aside) (refused := refused) (text := text) (items := items) (drawn := drawn) (row := row) (best := best) (q := q) hc2) (cwV 1 hts gX6_countOf_X6_thingsIn rfl rfl rfl hd6_thingsIn ⟨Nat.le_of_ble_eq_true rfl, Nat.le_of_ble_eq_true rfl⟩) hP rfl rfl rfl rfl hl.1 rfl rfl (Nat.le_of_ble_eq_true rfl) (zD_g DX6_countOf 6 rfl) ⟨Nat.zero_le _, Nat.zero_le _⟩ ?_
  obtain ⟨r3, hc4, hf⟩ := zb1_s hf
  refine z_Sp (As := [.int r1]) (rest := [.int (book 0)]) ⟨hx, hb, hml, hown, hts⟩ hK (c6_bits  hc4) (va_cwS 1 hts gX6_countOf_X6_bits rfl rfl rfl hd6_bits ⟨Nat.le_of_ble_eq_true rfl, Nat.le_of_ble_eq_true rfl⟩) (hP.sub [] rfl) rfl hl.1 rfl rfl (Nat.le_of_ble_eq_true rfl) (zD_g DX6_countOf 7 rfl) ⟨Nat.zero_le _, Nat.zero_le _⟩ ?_
  refine lv_isub hx hb (zD_g DX6_countOf 8 rfl) ?_
  refine lv_topi (fun x5 ex5 => ?_)
  replace hf := zl_s hf x5 ex5
  refine lv_istore_n (lv' := [(2, .int x5), (0, .ref (q 0)), (1, .int a_what)]) hx hb (zD_g DX6_countOf 9 rfl) rfl hl (by decide) rfl (fun ls hl => ?_)
  refine lv_iload_n hx hb (zD_g DX6_countOf 10 rfl) rfl (lv_at hl 2 rfl) ?_
  refine lv_iconst (v := (3 : Int32)) hx hb (zD_g DX6_countOf 11 rfl) (by decide) ?_
  refine lv_icmp_ge (tgt := 30) hx hb (zD_g DX6_countOf 12 rfl) (by decide) (fun c6 => ?_) (fun c6 => ?_)
  · replace hf := z_t c6 hf
    refine lv_iload_n hx hb (zD_g DX6_countOf 18 rfl) rfl (lv_at hl 2 rfl) ?_
    refine lv_iconst (v := (3 : Int32)) hx hb (zD_g DX6_countOf 19 rfl) (by decide) ?_
    refine lv_icmp_ne (tgt := 39) hx hb (zD_g DX6_countOf 20 rfl) (by decide) (fun c7 => ?_) (fun c7 => ?_)
    · replace hf := z_f c7 hf
      refine lv_iload_n hx hb (zD_g DX6_countOf 23 rfl) rfl (lv_at hl 2 rfl) ?_
      refine lv_iconst (v := (4 : Int32)) hx hb (zD_g DX6_countOf 24 rfl) (by decide) ?_
      refine lv_icmp_ne (tgt := 53) hx hb (zD_g DX6_countOf 25 rfl) (by decide) (fun c8 => ?_) (fun c8 => ?_)
      · replace hf := z_f c8 hf
        refine lv_aload_n hx hb (zD_g DX6_countOf 31 rfl) rfl (lv_at hl 1 rfl) ?_
        refine va_get (D := D) (ci := 5) (v := .int typed) (C := RX6) (T := TX6) (N := 19) hx hb hts in6_countOf_6 hown hK.1 hP 0 rfl rfl 9 (by decide) (hts _ (List.mem_of_getElem? (i := 2) rfl)) (fun _ h9 => h9) rfl (zD_g DX6_countOf 32 rfl) ?_
        cases hf
        exact hret _ _ (zD_g DX6_countOf 33 rfl)
      · replace hf := z_t c8 hf
        refine lv_aload_n hx hb (zD_g DX6_countOf 26 rfl) rfl (lv_at hl 1 rfl) ?_
        refine va_get (D := D) (ci := 5) (v := .ref (q 1)) (C := RX6) (T := TX6) (N := 19) hx hb hts in6_countOf_6 hown hK.1 hP 0 rfl rfl 0 (by decide) (hts _ (List.mem_of_getElem? (i := 1) rfl)) (fun _ h9 => h9) rfl (zD_g DX6_countOf 27 rfl) ?_
        refine lv_iconst (v := (3 : Int32)) hx hb (zD_g DX6_countOf 28 rfl) (by decide) ?_
        refine z_iald (k := 3) hx hb hK.1 hP 1 0 rfl rfl (by decide) rfl (zD_g DX6_countOf 29 rfl) ?_
        refine lv_goto (tgt := 57) hx hb (zD_g DX6_countOf 30 rfl) (by decide) ?_
        cases hf
        exact hret _ _ (zD_g DX6_countOf 33 rfl)
    · replace hf := z_t c7 hf
      refine lv_iload_n hx hb (zD_g DX6_countOf 21 rfl) rfl (lv_at hl 0 rfl) ?_
      refine lv_goto (tgt := 57) hx hb (zD_g DX6_countOf 22 rfl) (by decide) ?_
      cases hf
      exact hret _ _ (zD_g DX6_countOf 33 rfl)
  · replace hf := z_f c6 hf
    refine lv_aload_n hx hb (zD_g DX6_countOf 13 rfl) rfl (lv_at hl 1 rfl) ?_
    refine va_get (D := D) (ci := 5) (v := .ref (q 1)) (C := RX6) (T := TX6) (N := 19) hx hb hts in6_countOf_6 hown hK.1 hP 0 rfl rfl 0 (by decide) (hts _ (List.mem_of_getElem? (i := 1) rfl)) (fun _ h9 => h9) rfl (zD_g DX6_countOf 14 rfl) ?_
    refine lv_iload_n hx hb (zD_g DX6_countOf 15 rfl) rfl (lv_at hl 2 rfl) ?_
    obtain ⟨h9, hf⟩ := zg_s hf
    refine z_iald (k := a_what.toNatClampNeg) hx hb hK.1 hP 1 0 rfl rfl h9 rfl (zD_g DX6_countOf 16 rfl) ?_
    refine lv_goto (tgt := 57) hx hb (zD_g DX6_countOf 17 rfl) (by decide) ?_
    cases hf
    exact hret _ _ (zD_g DX6_countOf 33 rfl)
theorem hd6_countOf : yX6_countOf.cls = RX6 ∧ yX6_countOf.cls ≠ "java/lang/invoke/MethodHandle" ∧ yX6_countOf.cls ≠ "java/lang/invoke/VarHandle" ∧ (parseMethodDescriptor yX6_countOf.desc).map (fun d => d.parameters.length) = some 1 := by decide +kernel
abbrev dlX6_count : List (Nat × Instr × Nat) := [(0, .iload_n 1, 1), (1, .i2l, 1), (2, .lconst 0, 1), (3, .ldc2_w 60, 3), (6, .invokestatic 56, 3), (9, .ifCond .eq 11, 3), (12, .aload_n 0, 1), (13, .iload_n 1, 1), (14, .invokevirtual 265, 3), (17, .goto 7, 3), (20, .aload_n 0, 1), (21, .invokevirtual 66, 3), (24, .ireturn, 1)]
theorem DX6_count : zD cX6_count dlX6_count = true := by decide +kernel
set_option maxRecDepth 20000 in
theorem ggX6_count_X6_in : GoodIn wsX6_count wsX6_in := goodIn_r _ [5] (by decide +kernel) (by decide +kernel)
set_option maxRecDepth 20000 in
theorem gX6_count_X6_in : GoodIn wsX6_count (va_wsS RX6 56 yX6_in wsX6_in) := goodIn_app (goodIn_of _ (by decide +kernel)) ggX6_count_X6_in
set_option maxRecDepth 20000 in
theorem ggX6_count_X6_countOf : GoodIn wsX6_count wsX6_countOf := goodIn_r _ [9, 10, 11, 12, 13, 14, 4, 15, 16, 17, 18, 29, 30, 31, 32, 33, 34, 35, 36, 37, 38, 39, 40, 41, 42, 43, 44, 45, 46, 47] (by decide +kernel) (by decide +kernel)
set_option maxRecDepth 20000 in
theorem gX6_count_X6_countOf : GoodIn wsX6_count (wsV RX6 265 RX6 yX6_countOf wsX6_countOf) := goodIn_app (goodIn_of _ (by decide +kernel)) ggX6_count_X6_countOf
set_option maxRecDepth 20000 in
theorem ggX6_count_X6_bad : GoodIn wsX6_count wsX6_bad := goodIn_r _ [22, 23, 24, 25, 4, 26, 27, 28, 29, 30, 31, 32, 33, 34, 35, 36, 37, 38, 39, 40, 41, 42, 43, 44, 45, 46, 47] (by decide +kernel) (by decide +kernel)
set_option maxRecDepth 20000 in
theorem gX6_count_X6_bad : GoodIn wsX6_count (wsV RX6 66 RX6 yX6_bad wsX6_bad) := goodIn_app (goodIn_of _ (by decide +kernel)) ggX6_count_X6_bad
def f6_count (quiet : Int32) (typed : Int32) (book : Nat → Int32) (refused : Nat → Int32) (a_what : Int32) : Option (Int32 × (Nat → Int32)) := zb1 (f6_in ((a_what).toInt64) (0 : Int64) (5 : Int64)) (fun r1 => if r1 = 0 then zb2 (f6_bad quiet refused) (fun r4 refused_5 => some (r4, refused_5)) else zb1 (f6_countOf typed book a_what) (fun r7 => some (r7, refused)))
abbrev rm6_count : Room := { frames := 2, cells := 0, slots := 0, locals := 45 }
set_option maxHeartbeats 4000000 in
set_option maxRecDepth 100000 in
theorem c6_count {l : Launch} {D : va_G} {cI cZ cB : ClassId} {q : Nat → Nat} {sz : Nat} {quiet : Int32} {mabove : Int64} {mbelow : Int64} {typed : Int32} {mat : Int32} {mstart : Int32} {mtoken : Int32} {mvalue : Int32} {many : Int32} {book : Nat → Int32} {images : Nat → Int32} {mkept : Nat → Int32} {aside : Nat → Int32} {refused : Nat → Int32} {text : Nat → Int32} {items : Nat → Int32} {drawn : Nat → Int32} {row : Nat → Int32} {best : Nat → Int32} {a_what : Int32} {r : Int32} {d_refused : Nat → Int32} (hf : f6_count quiet typed book refused a_what = some (r, d_refused)) : Met l yX6_count wsX6_count rm6_count (zPm D cI cZ cB [.ref (q 0), .int a_what] sz (cMod cI cZ q quiet mabove mbelow typed mat mstart mtoken mvalue many book images mkept aside refused text items drawn row best)) (zQm D (some (.int r)) (cMod cI cZ q quiet mabove mbelow typed mat mstart mtoken mvalue many book images mkept aside d_refused text items drawn row best) (va_A (cMod cI cZ q quiet mabove mbelow typed mat mstart mtoken mvalue many book images mkept aside refused text items drawn row best) sz)) 0 0 (va_A (cMod cI cZ q quiet mabove mbelow typed mat mstart mtoken mvalue many book images mkept aside refused text items drawn row best) sz) := by
  unfold f6_count at hf
  refine z_mutI RX6 (by decide +kernel) rfl rfl (Nat.le_of_ble_eq_true rfl) ?_
  intro p e s m args below meth c Q A ls hx hb hml hown hts hK hP hD hS hA hret hl
  have hl : lv_has ls 2 [(0, .ref (q 0)), (1, .int a_what)] := hl
  refine lv_iload_n hx hb (zD_g DX6_count 0 rfl) rfl (lv_at hl 1 rfl) ?_
  refine lv_i2l (v := (a_what).toInt64) hx hb (zD_g DX6_count 1 rfl) rfl ?_
  refine lv_lconst (v := (0 : Int64)) hx hb (zD_g DX6_count 2 rfl) (by decide) ?_
  refine lv_ldc2 (v := (5 : Int64)) hx hb hown (hts _ (List.mem_of_getElem? (i := 1) rfl)) (zD_g DX6_count 3 rfl) ?_
  obtain ⟨r1, hc2, hf⟩ := zb1_s hf
  refine z_Sp (As := [.long ((a_what).toInt64), .long (0 : Int64), .long (5 : Int64)]) (rest := []) ⟨hx, hb, hml, hown, hts⟩ hK (c6_in  hc2) (va_cwS 3 hts gX6_count_X6_in rfl rfl rfl hd6_in ⟨Nat.le_of_ble_eq_true rfl, Nat.le_of_ble_eq_true rfl⟩) (hP.sub [] rfl) rfl hl.1 rfl rfl (Nat.le_of_ble_eq_true rfl) (zD_g DX6_count 4 rfl) ⟨Nat.zero_le _, Nat.zero_le _⟩ ?_
  refine lv_if_eq (tgt := 20) hx hb (zD_g DX6_count 5 rfl) (by decide) (fun c3 => ?_) (fun c3 => ?_)
  · replace hf := z_t c3 hf
    refine lv_aload_n hx hb (zD_g DX6_count 10 rfl) rfl (lv_at hl 0 rfl) ?_
    obtain ⟨r4, refused_5, hc6, hf⟩ := zb2_s hf
    refine z_Vm (As := []) (rest := []) (ws' := (cMod cI cZ q quiet mabove mbelow typed mat mstart mtoken mvalue many book images mkept aside refused_5 text items drawn row best)) ⟨hx, hb, hml, hown, hts⟩ hK (c6_bad (quiet := quiet) (mabove := mabove) (mbelow := mbelow) (typed := typed) (mat := mat) (mstart := mstart) (mtoken := mtoken) (mvalue := mvalue) (many := many) (book := book) (images := images) (mkept := mkept) (aside := aside) (refused := refused) (text := text) (items := items) (drawn := drawn) (row := row) (best := best) (q := q) hc6) (cwV 0 hts gX6_count_X6_bad rfl rfl rfl hd6_bad ⟨Nat.le_of_ble_eq_true rfl, Nat.le_of_ble_eq_true rfl⟩) hP hD hS hA 11 [0, 1, 2, 3, 4, 5, 6, 7, 8, 9, 10] [] [0, 1, 2, 3, 4, 5, 6, 7, 8, 9, 10] (by decide +kernel) rfl rfl rfl rfl rfl rfl rfl hl.1 rfl rfl (Nat.le_of_ble_eq_true rfl) (zD_g DX6_count 11 rfl) ⟨Nat.zero_le _, Nat.zero_le _⟩ (fun H locs hP hD hS => ?_)
    cases hf
    exact hret _ _ _ _ hP hD hS (zD_g DX6_count 12 rfl)
  · replace hf := z_f c3 hf
    refine lv_aload_n hx hb (zD_g DX6_count 6 rfl) rfl (lv_at hl 0 rfl) ?_
    refine lv_iload_n hx hb (zD_g DX6_count 7 rfl) rfl (lv_at hl 1 rfl) ?_
    obtain ⟨r7, hc8, hf⟩ := zb1_s hf
    refine z_Vp (As := [.int a_what]) (rest := []) ⟨hx, hb, hml, hown, hts⟩ hK (c6_countOf (quiet := quiet) (mabove := mabove) (mbelow := mbelow) (typed := typed) (mat := mat) (mstart := mstart) (mtoken := mtoken) (mvalue := mvalue) (many := many) (book := book) (images := images) (mkept := mkept) (aside := aside) (refused := refused) (text := text) (items := items) (drawn := drawn) (row := row) (best := best) (q := q) hc8) (cwV 1 hts gX6_count_X6_countOf rfl rfl rfl hd6_countOf ⟨Nat.le_of_ble_eq_true rfl, Nat.le_of_ble_eq_true rfl⟩) hP rfl rfl rfl rfl hl.1 rfl rfl (Nat.le_of_ble_eq_true rfl) (zD_g DX6_count 8 rfl) ⟨Nat.zero_le _, Nat.zero_le _⟩ ?_
    refine lv_goto (tgt := 24) hx hb (zD_g DX6_count 9 rfl) (by decide) ?_
    cases hf
    exact hret _ _ _ _ hP hD hS (zD_g DX6_count 12 rfl)
theorem hd6_count : yX6_count.cls = RX6 ∧ yX6_count.cls ≠ "java/lang/invoke/MethodHandle" ∧ yX6_count.cls ≠ "java/lang/invoke/VarHandle" ∧ (parseMethodDescriptor yX6_count.desc).map (fun d => d.parameters.length) = some 1 := by decide +kernel
abbrev dlX6_mixed : List (Nat × Instr × Nat) := [(0, .lload_n 1, 1), (1, .lstore 5, 2), (3, .iconst 0, 1), (4, .istore 7, 2), (6, .iload 7, 2), (8, .iload 4, 2), (10, .if_icmp .ge 28, 3), (13, .ldc2_w 268, 3), (16, .lload 5, 2), (18, .lmul, 1), (19, .aload_n 0, 1), (20, .getfield 7, 3), (23, .iload_n 3, 1), (24, .iload 7, 2), (26, .iadd, 1), (27, .iaload, 1), (28, .i2l, 1), (29, .ladd, 1), (30, .lstore 5, 2), (32, .iinc 7 1, 3), (35, .goto (-29), 3), (38, .lload 5, 2), (40, .lreturn, 1)]
theorem DX6_mixed : zD cX6_mixed dlX6_mixed = true := by decide +kernel
def L6_mixed_6 (k3 : Int64 → Option (Int64))  (book : Nat → Int32) (a_at0 : Int32) (a_n : Int32) : Nat → Int64 → Int32 → Option (Int64)
  | 0, _, _ => none
  | n3 + 1, y1, y2 => if a_n ≤ y2 then k3 y1 else zg (a_at0 + y2) 230 (zl ((((31 : Int64) * y1) + (((book (a_at0 + y2).toNatClampNeg)).toInt64))) (fun x6 => L6_mixed_6 k3 book a_at0 a_n n3 x6 (y2 + 1)))
def f6_mixed (book : Nat → Int32) (a_h0 : Int64) (a_at0 : Int32) (a_n : Int32) : Option (Int64) := L6_mixed_6 (fun y7 => some y7) book a_at0 a_n FU a_h0 (0 : Int32)
abbrev rm6_mixed : Room := { frames := 0, cells := 0, slots := 0, locals := 0 }
theorem in6_mixed_6 : ∀ w ∈ wsX60, w ∈ wsX6_mixed := fun w h => List.mem_cons_of_mem _ (List.mem_append_right _ h)
set_option maxHeartbeats 4000000 in
set_option maxRecDepth 100000 in
theorem c6_mixed {l : Launch} {D : va_G} {cI cZ cB : ClassId} {q : Nat → Nat} {quiet : Int32} {mabove : Int64} {mbelow : Int64} {typed : Int32} {mat : Int32} {mstart : Int32} {mtoken : Int32} {mvalue : Int32} {many : Int32} {book : Nat → Int32} {images : Nat → Int32} {mkept : Nat → Int32} {aside : Nat → Int32} {refused : Nat → Int32} {text : Nat → Int32} {items : Nat → Int32} {drawn : Nat → Int32} {row : Nat → Int32} {best : Nat → Int32} {a_h0 : Int64} {a_at0 : Int32} {a_n : Int32} {r : Int64}  (hf : f6_mixed book a_h0 a_at0 a_n = some r) : Met l yX6_mixed wsX6_mixed rm6_mixed (zPp D cI cZ cB [.ref (q 0), .long a_h0, .int a_at0, .int a_n] (cMod cI cZ q quiet mabove mbelow typed mat mstart mtoken mvalue many book images mkept aside refused text items drawn row best)) (zQp (some (.long r))) 0 0 (fun _ => False) := by
  unfold f6_mixed at hf
  refine z_pureL RX6 (by decide +kernel) rfl rfl (Nat.le_of_ble_eq_true rfl) ?_
  intro p e s m args below meth c Q ls hx hb hml hown hts hK hP hret hl
  have hl : lv_has ls 8 [(0, .ref (q 0)), (1, .long a_h0), (3, .int a_at0), (4, .int a_n)] := hl
  refine lv_lload_n hx hb (zD_g DX6_mixed 0 rfl) rfl (lv_at hl 1 rfl) ?_
  refine lv_lstore (lv' := [(5, .long a_h0), (0, .ref (q 0)), (1, .long a_h0), (3, .int a_at0), (4, .int a_n)]) hx hb (zD_g DX6_mixed 1 rfl) hl (by decide) rfl (fun ls hl => ?_)
  refine lv_iconst (v := (0 : Int32)) hx hb (zD_g DX6_mixed 2 rfl) (by decide) ?_
  refine lv_istore (lv' := [(7, .int (0 : Int32)), (5, .long a_h0), (0, .ref (q 0)), (1, .long a_h0), (3, .int a_at0), (4, .int a_n)]) hx hb (zD_g DX6_mixed 3 rfl) hl (by decide) rfl (fun ls hl => ?_)
  have hL3 : ∀ (k3 : Int64 → Option (Int64)) (hk3 : ∀ (y7 : Int64), k3 y7 = some r → ∀ (ls : Array Slot), lv_has ls 8 [(5, .long y7)] → W p l e rm6_mixed s m args below meth c s.heap [] 0 0 Q (F0 m 38 ls [])) (n3 : Nat) (y1 : Int64) (y2 : Int32), L6_mixed_6 k3 book a_at0 a_n n3 y1 y2 = some r → ∀ (ls : Array Slot), lv_has ls 8 [(0, .ref (q 0)), (3, .int a_at0), (4, .int a_n), (5, .long y1), (7, .int y2)] → W p l e rm6_mixed s m args below meth c s.heap [] 0 0 Q (F0 m 6 ls []) := by
    intro k3 hk3 n3
    induction n3 with
    | zero =>
      intro y1 y2 hf
      cases hf
    | succ n3 ih3 =>
      intro y1 y2 hf ls hl
      rw [L6_mixed_6] at hf
      refine lv_iload hx hb (zD_g DX6_mixed 4 rfl) (lv_at hl 4 rfl) ?_
      refine lv_iload hx hb (zD_g DX6_mixed 5 rfl) (lv_at hl 2 rfl) ?_
      refine lv_icmp_ge (tgt := 38) hx hb (zD_g DX6_mixed 6 rfl) (by decide) (fun c4 => ?_) (fun c4 => ?_)
      · replace hf := z_t c4 hf
        exact hk3 _ hf ls (lv_sub hl [3] rfl)
      · replace hf := z_f c4 hf
        refine lv_ldc2 (v := (31 : Int64)) hx hb hown (hts _ (List.mem_of_getElem? (i := 1) rfl)) (zD_g DX6_mixed 7 rfl) ?_
        refine lv_lload hx hb (zD_g DX6_mixed 8 rfl) (lv_at hl 3 rfl) ?_
        refine lv_lmul hx hb (zD_g DX6_mixed 9 rfl) ?_
        refine lv_aload_n hx hb (zD_g DX6_mixed 10 rfl) rfl (lv_at hl 0 rfl) ?_
        refine va_get (D := D) (ci := 5) (v := .ref (q 1)) (C := RX6) (T := TX6) (N := 19) hx hb hts in6_mixed_6 hown hK.1 hP 0 rfl rfl 0 (by decide) (hts _ (List.mem_of_getElem? (i := 2) rfl)) (fun _ h9 => h9) rfl (zD_g DX6_mixed 11 rfl) ?_
        refine lv_iload_n hx hb (zD_g DX6_mixed 12 rfl) rfl (lv_at hl 1 rfl) ?_
        refine lv_iload hx hb (zD_g DX6_mixed 13 rfl) (lv_at hl 4 rfl) ?_
        refine lv_iadd hx hb (zD_g DX6_mixed 14 rfl) ?_
        obtain ⟨h5, hf⟩ := zg_s hf
        refine z_iald (k := (a_at0 + y2).toNatClampNeg) hx hb hK.1 hP 1 0 rfl rfl h5 rfl (zD_g DX6_mixed 15 rfl) ?_
        refine lv_i2l (v := ((book (a_at0 + y2).toNatClampNeg)).toInt64) hx hb (zD_g DX6_mixed 16 rfl) rfl ?_
        refine lv_ladd hx hb (zD_g DX6_mixed 17 rfl) ?_
        refine lv_topl (fun x6 ex6 => ?_)
        replace hf := zl_s hf x6 ex6
        refine lv_lstore (lv' := [(5, .long x6), (0, .ref (q 0)), (3, .int a_at0), (4, .int a_n), (7, .int y2)]) hx hb (zD_g DX6_mixed 18 rfl) hl (by decide) rfl (fun ls hl => ?_)
        refine lv_iinc (v := y2 + 1) (lv' := [(7, .int (y2 + 1)), (5, .long x6), (0, .ref (q 0)), (3, .int a_at0), (4, .int a_n)]) (k := 4) hx hb (zD_g DX6_mixed 19 rfl) hl rfl rfl (by decide) rfl (fun ls hl => ?_)
        refine lv_goto (tgt := 6) hx hb (zD_g DX6_mixed 20 rfl) (by decide) ?_
        exact ih3 _ _ hf ls (lv_sub hl [2, 3, 4, 1, 0] rfl)
  refine hL3 _ (fun y7 hf ls hl => ?_) _ _ _ hf ls (lv_sub hl [2, 4, 5, 1, 0] rfl)
  refine lv_lload hx hb (zD_g DX6_mixed 21 rfl) (lv_at hl 0 rfl) ?_
  cases hf
  exact hret _ _ (zD_g DX6_mixed 22 rfl)
theorem hd6_mixed : yX6_mixed.cls = RX6 ∧ yX6_mixed.cls ≠ "java/lang/invoke/MethodHandle" ∧ yX6_mixed.cls ≠ "java/lang/invoke/VarHandle" ∧ (parseMethodDescriptor yX6_mixed.desc).map (fun d => d.parameters.length) = some 3 := by decide +kernel
abbrev dlX6_digest : List (Nat × Instr × Nat) := [(0, .ldc2_w 270, 3), (3, .lstore_n 1, 1), (4, .iconst 0, 1), (5, .istore_n 3, 1), (6, .iload_n 3, 1), (7, .bipush 6, 2), (9, .if_icmp .ge 22, 3), (12, .ldc2_w 268, 3), (15, .lload_n 1, 1), (16, .lmul, 1), (17, .aload_n 0, 1), (18, .iload_n 3, 1), (19, .invokevirtual 265, 3), (22, .i2l, 1), (23, .ladd, 1), (24, .lstore_n 1, 1), (25, .iinc 3 1, 3), (28, .goto (-22), 3), (31, .iconst 0, 1), (32, .istore_n 3, 1), (33, .iload_n 3, 1), (34, .aload_n 0, 1), (35, .getfield 7, 3), (38, .iconst 0, 1), (39, .iaload, 1), (40, .if_icmp .ge 36, 3), (43, .ldc2_w 268, 3), (46, .aload_n 0, 1), (47, .lload_n 1, 1), (48, .iconst 4, 1), (49, .iconst 4, 1), (50, .iload_n 3, 1), (51, .imul, 1), (52, .iadd, 1), (53, .iconst 4, 1), (54, .invokevirtual 272, 3), (57, .lmul, 1), (58, .aload_n 0, 1), (59, .getfield 7, 3), (62, .bipush 36, 2), (64, .iload_n 3, 1), (65, .iadd, 1), (66, .iaload, 1), (67, .i2l, 1), (68, .ladd, 1), (69, .lstore_n 1, 1), (70, .iinc 3 1, 3), (73, .goto (-40), 3), (76, .iconst 0, 1), (77, .istore_n 3, 1), (78, .iload_n 3, 1), (79, .aload_n 0, 1), (80, .getfield 7, 3), (83, .iconst 1, 1), (84, .iaload, 1), (85, .if_icmp .ge 88, 3), (88, .ldc2_w 268, 3), (91, .ldc2_w 268, 3), (94, .lload_n 1, 1), (95, .lmul, 1), (96, .aload_n 0, 1), (97, .getfield 7, 3), (100, .bipush 44, 2), (102, .iload_n 3, 1), (103, .iadd, 1), (104, .iaload, 1), (105, .i2l, 1), (106, .ladd, 1), (107, .lmul, 1), (108, .aload_n 0, 1), (109, .getfield 7, 3), (112, .bipush 68, 2), (114, .iload_n 3, 1), (115, .iadd, 1), (116, .iaload, 1), (117, .i2l, 1), (118, .ladd, 1), (119, .lstore_n 1, 1), (120, .ldc2_w 268, 3), (123, .ldc2_w 268, 3), (126, .ldc2_w 268, 3), (129, .lload_n 1, 1), (130, .lmul, 1), (131, .aload_n 0, 1), (132, .getfield 7, 3), (135, .bipush 50, 2), (137, .iload_n 3, 1), (138, .iadd, 1), (139, .iaload, 1), (140, .i2l, 1), (141, .ladd, 1), (142, .lmul, 1), (143, .aload_n 0, 1), (144, .getfield 7, 3), (147, .bipush 56, 2), (149, .iload_n 3, 1), (150, .iadd, 1), (151, .iaload, 1), (152, .i2l, 1), (153, .ladd, 1), (154, .lmul, 1), (155, .aload_n 0, 1), (156, .getfield 7, 3), (159, .bipush 62, 2), (161, .iload_n 3, 1), (162, .iadd, 1), (163, .iaload, 1), (164, .i2l, 1), (165, .ladd, 1), (166, .lstore_n 1, 1), (167, .iinc 3 1, 3), (170, .goto (-92), 3), (173, .iconst 0, 1), (174, .istore_n 3, 1), (175, .iload_n 3, 1), (176, .iconst 2, 1), (177, .if_icmp .ge 52, 3), (180, .aload_n 0, 1), (181, .lload_n 1, 1), (182, .bipush 74, 2), (184, .iconst 3, 1), (185, .iload_n 3, 1), (186, .imul, 1), (187, .iadd, 1), (188, .iconst 3, 1), (189, .invokevirtual 272, 3), (192, .lstore_n 1, 1), (193, .ldc2_w 268, 3), (196, .aload_n 0, 1), (197, .lload_n 1, 1), (198, .bipush 80, 2), (200, .bipush 6, 2), (202, .iload_n 3, 1), (203, .imul, 1), (204, .iadd, 1), (205, .bipush 6, 2), (207, .invokevirtual 272, 3), (210, .lmul, 1), (211, .aload_n 0, 1), (212, .getfield 7, 3), (215, .bipush 92, 2), (217, .iload_n 3, 1), (218, .iadd, 1), (219, .iaload, 1), (220, .i2l, 1), (221, .ladd, 1), (222, .lstore_n 1, 1), (223, .iinc 3 1, 3), (226, .goto (-51), 3), (229, .ldc2_w 268, 3), (232, .ldc2_w 268, 3), (235, .lload_n 1, 1), (236, .lmul, 1), (237, .aload_n 0, 1), (238, .getfield 228, 3), (241, .ladd, 1), (242, .lmul, 1), (243, .aload_n 0, 1), (244, .getfield 41, 3), (247, .ladd, 1), (248, .lreturn, 1)]
theorem DX6_digest : zD cX6_digest dlX6_digest = true := by decide +kernel
set_option maxRecDepth 20000 in
theorem ggX6_digest_X6_countOf : GoodIn wsX6_digest wsX6_countOf := goodIn_r _ [10, 3, 11, 12, 13, 14, 9, 15, 16, 17, 18, 23, 24, 25, 26, 27, 28, 29, 30, 31, 32, 33, 34, 35, 36, 37, 38, 39, 40, 41] (by decide +kernel) (by decide +kernel)
set_option maxRecDepth 20000 in
theorem gX6_digest_X6_countOf : GoodIn wsX6_digest (wsV RX6 265 RX6 yX6_countOf wsX6_countOf) := goodIn_app (goodIn_of _ (by decide +kernel)) ggX6_digest_X6_countOf
set_option maxRecDepth 20000 in
theorem ggX6_digest_X6_mixed : GoodIn wsX6_digest wsX6_mixed := goodIn_r _ [22, 2, 3, 23, 24, 25, 26, 27, 28, 29, 30, 31, 32, 33, 34, 35, 36, 37, 38, 39, 40, 41] (by decide +kernel) (by decide +kernel)
set_option maxRecDepth 20000 in
theorem gX6_digest_X6_mixed : GoodIn wsX6_digest (wsV RX6 272 RX6 yX6_mixed wsX6_mixed) := goodIn_app (goodIn_of _ (by decide +kernel)) ggX6_digest_X6_mixed
def L6_digest_6 (k3 : Int64 → Option (Int64))  (typed : Int32) (book : Nat → Int32) : Nat → Int64 → Int32 → Option (Int64)
  | 0, _, _ => none
  | n3 + 1, y1, y2 => if (6 : Int32) ≤ y2 then k3 y1 else zb1 (f6_countOf typed book y2) (fun r5 => zl ((((31 : Int64) * y1) + ((r5).toInt64))) (fun x7 => L6_digest_6 k3 typed book n3 x7 (y2 + 1)))
def L6_digest_33 (k11 : Int64 → Option (Int64))  (book : Nat → Int32) : Nat → Int64 → Int32 → Option (Int64)
  | 0, _, _ => none
  | n11 + 1, y9, y10 => if (book 0) ≤ y10 then k11 y9 else zb1 (f6_mixed book y9 ((4 : Int32) + ((4 : Int32) * y10)) (4 : Int32)) (fun r13 => zg ((36 : Int32) + y10) 230 (zl ((((31 : Int64) * r13) + (((book ((36 : Int32) + y10).toNatClampNeg)).toInt64))) (fun x16 => L6_digest_33 k11 book n11 x16 (y10 + 1))))
def L6_digest_78 (k20 : Int64 → Option (Int64))  (book : Nat → Int32) : Nat → Int64 → Int32 → Option (Int64)
  | 0, _, _ => none
  | n20 + 1, y18, y19 => if (book 1) ≤ y19 then k20 y18 else zg ((44 : Int32) + y19) 230 (zg ((68 : Int32) + y19) 230 (zl ((((31 : Int64) * (((31 : Int64) * y18) + (((book ((44 : Int32) + y19).toNatClampNeg)).toInt64))) + (((book ((68 : Int32) + y19).toNatClampNeg)).toInt64))) (fun x24 => zg ((50 : Int32) + y19) 230 (zg ((56 : Int32) + y19) 230 (zg ((62 : Int32) + y19) 230 (zl ((((31 : Int64) * (((31 : Int64) * (((31 : Int64) * x24) + (((book ((50 : Int32) + y19).toNatClampNeg)).toInt64))) + (((book ((56 : Int32) + y19).toNatClampNeg)).toInt64))) + (((book ((62 : Int32) + y19).toNatClampNeg)).toInt64))) (fun x28 => L6_digest_78 k20 book n20 x28 (y19 + 1))))))))
def L6_digest_175 (k32 : Int64 → Option (Int64))  (book : Nat → Int32) : Nat → Int64 → Int32 → Option (Int64)
  | 0, _, _ => none
  | n32 + 1, y30, y31 => if (2 : Int32) ≤ y31 then k32 y30 else zb1 (f6_mixed book y30 ((74 : Int32) + ((3 : Int32) * y31)) (3 : Int32)) (fun r34 => zb1 (f6_mixed book r34 ((80 : Int32) + ((6 : Int32) * y31)) (6 : Int32)) (fun r36 => zg ((92 : Int32) + y31) 230 (zl ((((31 : Int64) * r36) + (((book ((92 : Int32) + y31).toNatClampNeg)).toInt64))) (fun x39 => L6_digest_175 k32 book n32 x39 (y31 + 1)))))
def f6_digest (mabove : Int64) (mbelow : Int64) (typed : Int32) (book : Nat → Int32) : Option (Int64) := L6_digest_6 (fun y8 => L6_digest_33 (fun y17 => L6_digest_78 (fun y29 => L6_digest_175 (fun y40 => some (((31 : Int64) * (((31 : Int64) * y40) + mabove)) + mbelow)) book FU y29 (0 : Int32)) book FU y17 (0 : Int32)) book FU y8 (0 : Int32)) typed book FU (863 : Int64) (0 : Int32)
abbrev rm6_digest : Room := { frames := 2, cells := 0, slots := 0, locals := 45 }
theorem in6_digest_6 : ∀ w ∈ wsX60, w ∈ wsX6_digest := fun w h => List.mem_cons_of_mem _ (List.mem_append_right _ h)
set_option maxHeartbeats 4000000 in
set_option maxRecDepth 100000 in
theorem c6_digest {l : Launch} {D : va_G} {cI cZ cB : ClassId} {q : Nat → Nat} {quiet : Int32} {mabove : Int64} {mbelow : Int64} {typed : Int32} {mat : Int32} {mstart : Int32} {mtoken : Int32} {mvalue : Int32} {many : Int32} {book : Nat → Int32} {images : Nat → Int32} {mkept : Nat → Int32} {aside : Nat → Int32} {refused : Nat → Int32} {text : Nat → Int32} {items : Nat → Int32} {drawn : Nat → Int32} {row : Nat → Int32} {best : Nat → Int32}  {r : Int64}  (hf : f6_digest mabove mbelow typed book = some r) : Met l yX6_digest wsX6_digest rm6_digest (zPp D cI cZ cB [.ref (q 0)] (cMod cI cZ q quiet mabove mbelow typed mat mstart mtoken mvalue many book images mkept aside refused text items drawn row best)) (zQp (some (.long r))) 0 0 (fun _ => False) := by
  unfold f6_digest at hf
  refine z_pureL RX6 (by decide +kernel) rfl rfl (Nat.le_of_ble_eq_true rfl) ?_
  intro p e s m args below meth c Q ls hx hb hml hown hts hK hP hret hl
  have hl : lv_has ls 4 [(0, .ref (q 0))] := hl
  refine lv_ldc2 (v := (863 : Int64)) hx hb hown (hts _ (List.mem_of_getElem? (i := 1) rfl)) (zD_g DX6_digest 0 rfl) ?_
  refine lv_lstore_n (lv' := [(1, .long (863 : Int64)), (0, .ref (q 0))]) hx hb (zD_g DX6_digest 1 rfl) rfl hl (by decide) rfl (fun ls hl => ?_)
  refine lv_iconst (v := (0 : Int32)) hx hb (zD_g DX6_digest 2 rfl) (by decide) ?_
  refine lv_istore_n (lv' := [(3, .int (0 : Int32)), (1, .long (863 : Int64)), (0, .ref (q 0))]) hx hb (zD_g DX6_digest 3 rfl) rfl hl (by decide) rfl (fun ls hl => ?_)
  have hL3 : ∀ (k3 : Int64 → Option (Int64)) (hk3 : ∀ (y8 : Int64), k3 y8 = some r → ∀ (ls : Array Slot), lv_has ls 4 [(0, .ref (q 0)), (1, .long y8)] → W p l e rm6_digest s m args below meth c s.heap [] 0 0 Q (F0 m 31 ls [])) (n3 : Nat) (y1 : Int64) (y2 : Int32), L6_digest_6 k3 typed book n3 y1 y2 = some r → ∀ (ls : Array Slot), lv_has ls 4 [(0, .ref (q 0)), (1, .long y1), (3, .int y2)] → W p l e rm6_digest s m args below meth c s.heap [] 0 0 Q (F0 m 6 ls []) := by
    intro k3 hk3 n3
    induction n3 with
    | zero =>
      intro y1 y2 hf
      cases hf
    | succ n3 ih3 =>
      intro y1 y2 hf ls hl
      rw [L6_digest_6] at hf
      refine lv_iload_n hx hb (zD_g DX6_digest 4 rfl) rfl (lv_at hl 2 rfl) ?_
      refine lv_bipush (v := (6 : Int32)) hx hb (zD_g DX6_digest 5 rfl) (by decide) ?_
      refine lv_icmp_ge (tgt := 31) hx hb (zD_g DX6_digest 6 rfl) (by decide) (fun c4 => ?_) (fun c4 => ?_)
      · replace hf := z_t c4 hf
        exact hk3 _ hf ls (lv_sub hl [0, 1] rfl)
      · replace hf := z_f c4 hf
        refine lv_ldc2 (v := (31 : Int64)) hx hb hown (hts _ (List.mem_of_getElem? (i := 2) rfl)) (zD_g DX6_digest 7 rfl) ?_
        refine lv_lload_n hx hb (zD_g DX6_digest 8 rfl) rfl (lv_at hl 1 rfl) ?_
        refine lv_lmul hx hb (zD_g DX6_digest 9 rfl) ?_
        refine lv_aload_n hx hb (zD_g DX6_digest 10 rfl) rfl (lv_at hl 0 rfl) ?_
        refine lv_iload_n hx hb (zD_g DX6_digest 11 rfl) rfl (lv_at hl 2 rfl) ?_
        obtain ⟨r5, hc6, hf⟩ := zb1_s hf
        refine z_Vp (As := [.int y2]) (rest := [.long ((31 : Int64) * y1)]) ⟨hx, hb, hml, hown, hts⟩ hK (c6_countOf (quiet := quiet) (mabove := mabove) (mbelow := mbelow) (typed := typed) (mat := mat) (mstart := mstart) (mtoken := mtoken) (mvalue := mvalue) (many := many) (book := book) (images := images) (mkept := mkept) (aside := aside) (refused := refused) (text := text) (items := items) (drawn := drawn) (row := row) (best := best) (q := q) hc6) (cwV 1 hts gX6_digest_X6_countOf rfl rfl rfl hd6_countOf ⟨Nat.le_of_ble_eq_true rfl, Nat.le_of_ble_eq_true rfl⟩) hP rfl rfl rfl rfl hl.1 rfl rfl (Nat.le_of_ble_eq_true rfl) (zD_g DX6_digest 12 rfl) ⟨Nat.zero_le _, Nat.zero_le _⟩ ?_
        refine lv_i2l (v := (r5).toInt64) hx hb (zD_g DX6_digest 13 rfl) rfl ?_
        refine lv_ladd hx hb (zD_g DX6_digest 14 rfl) ?_
        refine lv_topl (fun x7 ex7 => ?_)
        replace hf := zl_s hf x7 ex7
        refine lv_lstore_n (lv' := [(1, .long x7), (0, .ref (q 0)), (3, .int y2)]) hx hb (zD_g DX6_digest 15 rfl) rfl hl (by decide) rfl (fun ls hl => ?_)
        refine lv_iinc (v := y2 + 1) (lv' := [(3, .int (y2 + 1)), (1, .long x7), (0, .ref (q 0))]) (k := 2) hx hb (zD_g DX6_digest 16 rfl) hl rfl rfl (by decide) rfl (fun ls hl => ?_)
        refine lv_goto (tgt := 6) hx hb (zD_g DX6_digest 17 rfl) (by decide) ?_
        exact ih3 _ _ hf ls (lv_sub hl [2, 1, 0] rfl)
  refine hL3 _ (fun y8 hf ls hl => ?_) _ _ _ hf ls (lv_sub hl [2, 1, 0] rfl)
  refine lv_iconst (v := (0 : Int32)) hx hb (zD_g DX6_digest 18 rfl) (by decide) ?_
  refine lv_istore_n (lv' := [(3, .int (0 : Int32)), (0, .ref (q 0)), (1, .long y8)]) hx hb (zD_g DX6_digest 19 rfl) rfl hl (by decide) rfl (fun ls hl => ?_)
  have hL11 : ∀ (k11 : Int64 → Option (Int64)) (hk11 : ∀ (y17 : Int64), k11 y17 = some r → ∀ (ls : Array Slot), lv_has ls 4 [(0, .ref (q 0)), (1, .long y17)] → W p l e rm6_digest s m args below meth c s.heap [] 0 0 Q (F0 m 76 ls [])) (n11 : Nat) (y9 : Int64) (y10 : Int32), L6_digest_33 k11 book n11 y9 y10 = some r → ∀ (ls : Array Slot), lv_has ls 4 [(0, .ref (q 0)), (1, .long y9), (3, .int y10)] → W p l e rm6_digest s m args below meth c s.heap [] 0 0 Q (F0 m 33 ls []) := by
    intro k11 hk11 n11
    induction n11 with
    | zero =>
      intro y9 y10 hf
      cases hf
    | succ n11 ih11 =>
      intro y9 y10 hf ls hl
      rw [L6_digest_33] at hf
      refine lv_iload_n hx hb (zD_g DX6_digest 20 rfl) rfl (lv_at hl 2 rfl) ?_
      refine lv_aload_n hx hb (zD_g DX6_digest 21 rfl) rfl (lv_at hl 0 rfl) ?_
      refine va_get (D := D) (ci := 5) (v := .ref (q 1)) (C := RX6) (T := TX6) (N := 19) hx hb hts in6_digest_6 hown hK.1 hP 0 rfl rfl 0 (by decide) (hts _ (List.mem_of_getElem? (i := 3) rfl)) (fun _ h9 => h9) rfl (zD_g DX6_digest 22 rfl) ?_
      refine lv_iconst (v := (0 : Int32)) hx hb (zD_g DX6_digest 23 rfl) (by decide) ?_
      refine z_iald (k := 0) hx hb hK.1 hP 1 0 rfl rfl (by decide) rfl (zD_g DX6_digest 24 rfl) ?_
      refine lv_icmp_ge (tgt := 76) hx hb (zD_g DX6_digest 25 rfl) (by decide) (fun c12 => ?_) (fun c12 => ?_)
      · replace hf := z_t c12 hf
        exact hk11 _ hf ls (lv_sub hl [0, 1] rfl)
      · replace hf := z_f c12 hf
        refine lv_ldc2 (v := (31 : Int64)) hx hb hown (hts _ (List.mem_of_getElem? (i := 2) rfl)) (zD_g DX6_digest 26 rfl) ?_
        refine lv_aload_n hx hb (zD_g DX6_digest 27 rfl) rfl (lv_at hl 0 rfl) ?_
        refine lv_lload_n hx hb (zD_g DX6_digest 28 rfl) rfl (lv_at hl 1 rfl) ?_
        refine lv_iconst (v := (4 : Int32)) hx hb (zD_g DX6_digest 29 rfl) (by decide) ?_
        refine lv_iconst (v := (4 : Int32)) hx hb (zD_g DX6_digest 30 rfl) (by decide) ?_
        refine lv_iload_n hx hb (zD_g DX6_digest 31 rfl) rfl (lv_at hl 2 rfl) ?_
        refine lv_imul hx hb (zD_g DX6_digest 32 rfl) ?_
        refine lv_iadd hx hb (zD_g DX6_digest 33 rfl) ?_
        refine lv_iconst (v := (4 : Int32)) hx hb (zD_g DX6_digest 34 rfl) (by decide) ?_
        obtain ⟨r13, hc14, hf⟩ := zb1_s hf
        refine z_Vp (As := [.long y9, .int ((4 : Int32) + ((4 : Int32) * y10)), .int (4 : Int32)]) (rest := [.long (31 : Int64)]) ⟨hx, hb, hml, hown, hts⟩ hK (c6_mixed (quiet := quiet) (mabove := mabove) (mbelow := mbelow) (typed := typed) (mat := mat) (mstart := mstart) (mtoken := mtoken) (mvalue := mvalue) (many := many) (book := book) (images := images) (mkept := mkept) (aside := aside) (refused := refused) (text := text) (items := items) (drawn := drawn) (row := row) (best := best) (q := q) hc14) (cwV 3 hts gX6_digest_X6_mixed rfl rfl rfl hd6_mixed ⟨Nat.le_of_ble_eq_true rfl, Nat.le_of_ble_eq_true rfl⟩) hP rfl rfl rfl rfl hl.1 rfl rfl (Nat.le_of_ble_eq_true rfl) (zD_g DX6_digest 35 rfl) ⟨Nat.zero_le _, Nat.zero_le _⟩ ?_
        refine lv_lmul hx hb (zD_g DX6_digest 36 rfl) ?_
        refine lv_aload_n hx hb (zD_g DX6_digest 37 rfl) rfl (lv_at hl 0 rfl) ?_
        refine va_get (D := D) (ci := 5) (v := .ref (q 1)) (C := RX6) (T := TX6) (N := 19) hx hb hts in6_digest_6 hown hK.1 hP 0 rfl rfl 0 (by decide) (hts _ (List.mem_of_getElem? (i := 3) rfl)) (fun _ h9 => h9) rfl (zD_g DX6_digest 38 rfl) ?_
        refine lv_bipush (v := (36 : Int32)) hx hb (zD_g DX6_digest 39 rfl) (by decide) ?_
        refine lv_iload_n hx hb (zD_g DX6_digest 40 rfl) rfl (lv_at hl 2 rfl) ?_
        refine lv_iadd hx hb (zD_g DX6_digest 41 rfl) ?_
        obtain ⟨h15, hf⟩ := zg_s hf
        refine z_iald (k := ((36 : Int32) + y10).toNatClampNeg) hx hb hK.1 hP 1 0 rfl rfl h15 rfl (zD_g DX6_digest 42 rfl) ?_
        refine lv_i2l (v := ((book ((36 : Int32) + y10).toNatClampNeg)).toInt64) hx hb (zD_g DX6_digest 43 rfl) rfl ?_
        refine lv_ladd hx hb (zD_g DX6_digest 44 rfl) ?_
        refine lv_topl (fun x16 ex16 => ?_)
        replace hf := zl_s hf x16 ex16
        refine lv_lstore_n (lv' := [(1, .long x16), (0, .ref (q 0)), (3, .int y10)]) hx hb (zD_g DX6_digest 45 rfl) rfl hl (by decide) rfl (fun ls hl => ?_)
        refine lv_iinc (v := y10 + 1) (lv' := [(3, .int (y10 + 1)), (1, .long x16), (0, .ref (q 0))]) (k := 2) hx hb (zD_g DX6_digest 46 rfl) hl rfl rfl (by decide) rfl (fun ls hl => ?_)
        refine lv_goto (tgt := 33) hx hb (zD_g DX6_digest 47 rfl) (by decide) ?_
        exact ih11 _ _ hf ls (lv_sub hl [2, 1, 0] rfl)
  refine hL11 _ (fun y17 hf ls hl => ?_) _ _ _ hf ls (lv_sub hl [1, 2, 0] rfl)
  refine lv_iconst (v := (0 : Int32)) hx hb (zD_g DX6_digest 48 rfl) (by decide) ?_
  refine lv_istore_n (lv' := [(3, .int (0 : Int32)), (0, .ref (q 0)), (1, .long y17)]) hx hb (zD_g DX6_digest 49 rfl) rfl hl (by decide) rfl (fun ls hl => ?_)
  have hL20 : ∀ (k20 : Int64 → Option (Int64)) (hk20 : ∀ (y29 : Int64), k20 y29 = some r → ∀ (ls : Array Slot), lv_has ls 4 [(0, .ref (q 0)), (1, .long y29)] → W p l e rm6_digest s m args below meth c s.heap [] 0 0 Q (F0 m 173 ls [])) (n20 : Nat) (y18 : Int64) (y19 : Int32), L6_digest_78 k20 book n20 y18 y19 = some r → ∀ (ls : Array Slot), lv_has ls 4 [(0, .ref (q 0)), (1, .long y18), (3, .int y19)] → W p l e rm6_digest s m args below meth c s.heap [] 0 0 Q (F0 m 78 ls []) := by
    intro k20 hk20 n20
    induction n20 with
    | zero =>
      intro y18 y19 hf
      cases hf
    | succ n20 ih20 =>
      intro y18 y19 hf ls hl
      rw [L6_digest_78] at hf
      refine lv_iload_n hx hb (zD_g DX6_digest 50 rfl) rfl (lv_at hl 2 rfl) ?_
      refine lv_aload_n hx hb (zD_g DX6_digest 51 rfl) rfl (lv_at hl 0 rfl) ?_
      refine va_get (D := D) (ci := 5) (v := .ref (q 1)) (C := RX6) (T := TX6) (N := 19) hx hb hts in6_digest_6 hown hK.1 hP 0 rfl rfl 0 (by decide) (hts _ (List.mem_of_getElem? (i := 3) rfl)) (fun _ h9 => h9) rfl (zD_g DX6_digest 52 rfl) ?_
      refine lv_iconst (v := (1 : Int32)) hx hb (zD_g DX6_digest 53 rfl) (by decide) ?_
      refine z_iald (k := 1) hx hb hK.1 hP 1 0 rfl rfl (by decide) rfl (zD_g DX6_digest 54 rfl) ?_
      refine lv_icmp_ge (tgt := 173) hx hb (zD_g DX6_digest 55 rfl) (by decide) (fun c21 => ?_) (fun c21 => ?_)
      · replace hf := z_t c21 hf
        exact hk20 _ hf ls (lv_sub hl [0, 1] rfl)
      · replace hf := z_f c21 hf
        refine lv_ldc2 (v := (31 : Int64)) hx hb hown (hts _ (List.mem_of_getElem? (i := 2) rfl)) (zD_g DX6_digest 56 rfl) ?_
        refine lv_ldc2 (v := (31 : Int64)) hx hb hown (hts _ (List.mem_of_getElem? (i := 2) rfl)) (zD_g DX6_digest 57 rfl) ?_
        refine lv_lload_n hx hb (zD_g DX6_digest 58 rfl) rfl (lv_at hl 1 rfl) ?_
        refine lv_lmul hx hb (zD_g DX6_digest 59 rfl) ?_
        refine lv_aload_n hx hb (zD_g DX6_digest 60 rfl) rfl (lv_at hl 0 rfl) ?_
        refine va_get (D := D) (ci := 5) (v := .ref (q 1)) (C := RX6) (T := TX6) (N := 19) hx hb hts in6_digest_6 hown hK.1 hP 0 rfl rfl 0 (by decide) (hts _ (List.mem_of_getElem? (i := 3) rfl)) (fun _ h9 => h9) rfl (zD_g DX6_digest 61 rfl) ?_
        refine lv_bipush (v := (44 : Int32)) hx hb (zD_g DX6_digest 62 rfl) (by decide) ?_
        refine lv_iload_n hx hb (zD_g DX6_digest 63 rfl) rfl (lv_at hl 2 rfl) ?_
        refine lv_iadd hx hb (zD_g DX6_digest 64 rfl) ?_
        obtain ⟨h22, hf⟩ := zg_s hf
        refine z_iald (k := ((44 : Int32) + y19).toNatClampNeg) hx hb hK.1 hP 1 0 rfl rfl h22 rfl (zD_g DX6_digest 65 rfl) ?_
        refine lv_i2l (v := ((book ((44 : Int32) + y19).toNatClampNeg)).toInt64) hx hb (zD_g DX6_digest 66 rfl) rfl ?_
        refine lv_ladd hx hb (zD_g DX6_digest 67 rfl) ?_
        refine lv_lmul hx hb (zD_g DX6_digest 68 rfl) ?_
        refine lv_aload_n hx hb (zD_g DX6_digest 69 rfl) rfl (lv_at hl 0 rfl) ?_
        refine va_get (D := D) (ci := 5) (v := .ref (q 1)) (C := RX6) (T := TX6) (N := 19) hx hb hts in6_digest_6 hown hK.1 hP 0 rfl rfl 0 (by decide) (hts _ (List.mem_of_getElem? (i := 3) rfl)) (fun _ h9 => h9) rfl (zD_g DX6_digest 70 rfl) ?_
        refine lv_bipush (v := (68 : Int32)) hx hb (zD_g DX6_digest 71 rfl) (by decide) ?_
        refine lv_iload_n hx hb (zD_g DX6_digest 72 rfl) rfl (lv_at hl 2 rfl) ?_
        refine lv_iadd hx hb (zD_g DX6_digest 73 rfl) ?_
        obtain ⟨h23, hf⟩ := zg_s hf
        refine z_iald (k := ((68 : Int32) + y19).toNatClampNeg) hx hb hK.1 hP 1 0 rfl rfl h23 rfl (zD_g DX6_digest 74 rfl) ?_
        refine lv_i2l (v := ((book ((68 : Int32) + y19).toNatClampNeg)).toInt64) hx hb (zD_g DX6_digest 75 rfl) rfl ?_
        refine lv_ladd hx hb (zD_g DX6_digest 76 rfl) ?_
        refine lv_topl (fun x24 ex24 => ?_)
        replace hf := zl_s hf x24 ex24
        refine lv_lstore_n (lv' := [(1, .long x24), (0, .ref (q 0)), (3, .int y19)]) hx hb (zD_g DX6_digest 77 rfl) rfl hl (by decide) rfl (fun ls hl => ?_)
        refine lv_ldc2 (v := (31 : Int64)) hx hb hown (hts _ (List.mem_of_getElem? (i := 2) rfl)) (zD_g DX6_digest 78 rfl) ?_
        refine lv_ldc2 (v := (31 : Int64)) hx hb hown (hts _ (List.mem_of_getElem? (i := 2) rfl)) (zD_g DX6_digest 79 rfl) ?_
        refine lv_ldc2 (v := (31 : Int64)) hx hb hown (hts _ (List.mem_of_getElem? (i := 2) rfl)) (zD_g DX6_digest 80 rfl) ?_
        refine lv_lload_n hx hb (zD_g DX6_digest 81 rfl) rfl (lv_at hl 0 rfl) ?_
        refine lv_lmul hx hb (zD_g DX6_digest 82 rfl) ?_
        refine lv_aload_n hx hb (zD_g DX6_digest 83 rfl) rfl (lv_at hl 1 rfl) ?_
        refine va_get (D := D) (ci := 5) (v := .ref (q 1)) (C := RX6) (T := TX6) (N := 19) hx hb hts in6_digest_6 hown hK.1 hP 0 rfl rfl 0 (by decide) (hts _ (List.mem_of_getElem? (i := 3) rfl)) (fun _ h9 => h9) rfl (zD_g DX6_digest 84 rfl) ?_
        refine lv_bipush (v := (50 : Int32)) hx hb (zD_g DX6_digest 85 rfl) (by decide) ?_
        refine lv_iload_n hx hb (zD_g DX6_digest 86 rfl) rfl (lv_at hl 2 rfl) ?_
        refine lv_iadd hx hb (zD_g DX6_digest 87 rfl) ?_
        obtain ⟨h25, hf⟩ := zg_s hf
        refine z_iald (k := ((50 : Int32) + y19).toNatClampNeg) hx hb hK.1 hP 1 0 rfl rfl h25 rfl (zD_g DX6_digest 88 rfl) ?_
        refine lv_i2l (v := ((book ((50 : Int32) + y19).toNatClampNeg)).toInt64) hx hb (zD_g DX6_digest 89 rfl) rfl ?_
        refine lv_ladd hx hb (zD_g DX6_digest 90 rfl) ?_
        refine lv_lmul hx hb (zD_g DX6_digest 91 rfl) ?_
        refine lv_aload_n hx hb (zD_g DX6_digest 92 rfl) rfl (lv_at hl 1 rfl) ?_
        refine va_get (D := D) (ci := 5) (v := .ref (q 1)) (C := RX6) (T := TX6) (N := 19) hx hb hts in6_digest_6 hown hK.1 hP 0 rfl rfl 0 (by decide) (hts _ (List.mem_of_getElem? (i := 3) rfl)) (fun _ h9 => h9) rfl (zD_g DX6_digest 93 rfl) ?_
        refine lv_bipush (v := (56 : Int32)) hx hb (zD_g DX6_digest 94 rfl) (by decide) ?_
        refine lv_iload_n hx hb (zD_g DX6_digest 95 rfl) rfl (lv_at hl 2 rfl) ?_
        refine lv_iadd hx hb (zD_g DX6_digest 96 rfl) ?_
        obtain ⟨h26, hf⟩ := zg_s hf
        refine z_iald (k := ((56 : Int32) + y19).toNatClampNeg) hx hb hK.1 hP 1 0 rfl rfl h26 rfl (zD_g DX6_digest 97 rfl) ?_
        refine lv_i2l (v := ((book ((56 : Int32) + y19).toNatClampNeg)).toInt64) hx hb (zD_g DX6_digest 98 rfl) rfl ?_
        refine lv_ladd hx hb (zD_g DX6_digest 99 rfl) ?_
        refine lv_lmul hx hb (zD_g DX6_digest 100 rfl) ?_
        refine lv_aload_n hx hb (zD_g DX6_digest 101 rfl) rfl (lv_at hl 1 rfl) ?_
        refine va_get (D := D) (ci := 5) (v := .ref (q 1)) (C := RX6) (T := TX6) (N := 19) hx hb hts in6_digest_6 hown hK.1 hP 0 rfl rfl 0 (by decide) (hts _ (List.mem_of_getElem? (i := 3) rfl)) (fun _ h9 => h9) rfl (zD_g DX6_digest 102 rfl) ?_
        refine lv_bipush (v := (62 : Int32)) hx hb (zD_g DX6_digest 103 rfl) (by decide) ?_
        refine lv_iload_n hx hb (zD_g DX6_digest 104 rfl) rfl (lv_at hl 2 rfl) ?_
        refine lv_iadd hx hb (zD_g DX6_digest 105 rfl) ?_
        obtain ⟨h27, hf⟩ := zg_s hf
        refine z_iald (k := ((62 : Int32) + y19).toNatClampNeg) hx hb hK.1 hP 1 0 rfl rfl h27 rfl (zD_g DX6_digest 106 rfl) ?_
        refine lv_i2l (v := ((book ((62 : Int32) + y19).toNatClampNeg)).toInt64) hx hb (zD_g DX6_digest 107 rfl) rfl ?_
        refine lv_ladd hx hb (zD_g DX6_digest 108 rfl) ?_
        refine lv_topl (fun x28 ex28 => ?_)
        replace hf := zl_s hf x28 ex28
        refine lv_lstore_n (lv' := [(1, .long x28), (0, .ref (q 0)), (3, .int y19)]) hx hb (zD_g DX6_digest 109 rfl) rfl hl (by decide) rfl (fun ls hl => ?_)
        refine lv_iinc (v := y19 + 1) (lv' := [(3, .int (y19 + 1)), (1, .long x28), (0, .ref (q 0))]) (k := 2) hx hb (zD_g DX6_digest 110 rfl) hl rfl rfl (by decide) rfl (fun ls hl => ?_)
        refine lv_goto (tgt := 78) hx hb (zD_g DX6_digest 111 rfl) (by decide) ?_
        exact ih20 _ _ hf ls (lv_sub hl [2, 1, 0] rfl)
  refine hL20 _ (fun y29 hf ls hl => ?_) _ _ _ hf ls (lv_sub hl [1, 2, 0] rfl)
  refine lv_iconst (v := (0 : Int32)) hx hb (zD_g DX6_digest 112 rfl) (by decide) ?_
  refine lv_istore_n (lv' := [(3, .int (0 : Int32)), (0, .ref (q 0)), (1, .long y29)]) hx hb (zD_g DX6_digest 113 rfl) rfl hl (by decide) rfl (fun ls hl => ?_)
  have hL32 : ∀ (k32 : Int64 → Option (Int64)) (hk32 : ∀ (y40 : Int64), k32 y40 = some r → ∀ (ls : Array Slot), lv_has ls 4 [(0, .ref (q 0)), (1, .long y40)] → W p l e rm6_digest s m args below meth c s.heap [] 0 0 Q (F0 m 229 ls [])) (n32 : Nat) (y30 : Int64) (y31 : Int32), L6_digest_175 k32 book n32 y30 y31 = some r → ∀ (ls : Array Slot), lv_has ls 4 [(0, .ref (q 0)), (1, .long y30), (3, .int y31)] → W p l e rm6_digest s m args below meth c s.heap [] 0 0 Q (F0 m 175 ls []) := by
    intro k32 hk32 n32
    induction n32 with
    | zero =>
      intro y30 y31 hf
      cases hf
    | succ n32 ih32 =>
      intro y30 y31 hf ls hl
      rw [L6_digest_175] at hf
      refine lv_iload_n hx hb (zD_g DX6_digest 114 rfl) rfl (lv_at hl 2 rfl) ?_
      refine lv_iconst (v := (2 : Int32)) hx hb (zD_g DX6_digest 115 rfl) (by decide) ?_
      refine lv_icmp_ge (tgt := 229) hx hb (zD_g DX6_digest 116 rfl) (by decide) (fun c33 => ?_) (fun c33 => ?_)
      · replace hf := z_t c33 hf
        exact hk32 _ hf ls (lv_sub hl [0, 1] rfl)
      · replace hf := z_f c33 hf
        refine lv_aload_n hx hb (zD_g DX6_digest 117 rfl) rfl (lv_at hl 0 rfl) ?_
        refine lv_lload_n hx hb (zD_g DX6_digest 118 rfl) rfl (lv_at hl 1 rfl) ?_
        refine lv_bipush (v := (74 : Int32)) hx hb (zD_g DX6_digest 119 rfl) (by decide) ?_
        refine lv_iconst (v := (3 : Int32)) hx hb (zD_g DX6_digest 120 rfl) (by decide) ?_
        refine lv_iload_n hx hb (zD_g DX6_digest 121 rfl) rfl (lv_at hl 2 rfl) ?_
        refine lv_imul hx hb (zD_g DX6_digest 122 rfl) ?_
        refine lv_iadd hx hb (zD_g DX6_digest 123 rfl) ?_
        refine lv_iconst (v := (3 : Int32)) hx hb (zD_g DX6_digest 124 rfl) (by decide) ?_
        obtain ⟨r34, hc35, hf⟩ := zb1_s hf
        refine z_Vp (As := [.long y30, .int ((74 : Int32) + ((3 : Int32) * y31)), .int (3 : Int32)]) (rest := []) ⟨hx, hb, hml, hown, hts⟩ hK (c6_mixed (quiet := quiet) (mabove := mabove) (mbelow := mbelow) (typed := typed) (mat := mat) (mstart := mstart) (mtoken := mtoken) (mvalue := mvalue) (many := many) (book := book) (images := images) (mkept := mkept) (aside := aside) (refused := refused) (text := text) (items := items) (drawn := drawn) (row := row) (best := best) (q := q) hc35) (cwV 3 hts gX6_digest_X6_mixed rfl rfl rfl hd6_mixed ⟨Nat.le_of_ble_eq_true rfl, Nat.le_of_ble_eq_true rfl⟩) hP rfl rfl rfl rfl hl.1 rfl rfl (Nat.le_of_ble_eq_true rfl) (zD_g DX6_digest 125 rfl) ⟨Nat.zero_le _, Nat.zero_le _⟩ ?_
        refine lv_lstore_n (lv' := [(1, .long r34), (0, .ref (q 0)), (3, .int y31)]) hx hb (zD_g DX6_digest 126 rfl) rfl hl (by decide) rfl (fun ls hl => ?_)
        refine lv_ldc2 (v := (31 : Int64)) hx hb hown (hts _ (List.mem_of_getElem? (i := 2) rfl)) (zD_g DX6_digest 127 rfl) ?_
        refine lv_aload_n hx hb (zD_g DX6_digest 128 rfl) rfl (lv_at hl 1 rfl) ?_
        refine lv_lload_n hx hb (zD_g DX6_digest 129 rfl) rfl (lv_at hl 0 rfl) ?_
        refine lv_bipush (v := (80 : Int32)) hx hb (zD_g DX6_digest 130 rfl) (by decide) ?_
        refine lv_bipush (v := (6 : Int32)) hx hb (zD_g DX6_digest 131 rfl) (by decide) ?_
        refine lv_iload_n hx hb (zD_g DX6_digest 132 rfl) rfl (lv_at hl 2 rfl) ?_
        refine lv_imul hx hb (zD_g DX6_digest 133 rfl) ?_
        refine lv_iadd hx hb (zD_g DX6_digest 134 rfl) ?_
        refine lv_bipush (v := (6 : Int32)) hx hb (zD_g DX6_digest 135 rfl) (by decide) ?_
        obtain ⟨r36, hc37, hf⟩ := zb1_s hf
        refine z_Vp (As := [.long r34, .int ((80 : Int32) + ((6 : Int32) * y31)), .int (6 : Int32)]) (rest := [.long (31 : Int64)]) ⟨hx, hb, hml, hown, hts⟩ hK (c6_mixed (quiet := quiet) (mabove := mabove) (mbelow := mbelow) (typed := typed) (mat := mat) (mstart := mstart) (mtoken := mtoken) (mvalue := mvalue) (many := many) (book := book) (images := images) (mkept := mkept) (aside := aside) (refused := refused) (text := text) (items := items) (drawn := drawn) (row := row) (best := best) (q := q) hc37) (cwV 3 hts gX6_digest_X6_mixed rfl rfl rfl hd6_mixed ⟨Nat.le_of_ble_eq_true rfl, Nat.le_of_ble_eq_true rfl⟩) hP rfl rfl rfl rfl hl.1 rfl rfl (Nat.le_of_ble_eq_true rfl) (zD_g DX6_digest 136 rfl) ⟨Nat.zero_le _, Nat.zero_le _⟩ ?_
        refine lv_lmul hx hb (zD_g DX6_digest 137 rfl) ?_
        refine lv_aload_n hx hb (zD_g DX6_digest 138 rfl) rfl (lv_at hl 1 rfl) ?_
        refine va_get (D := D) (ci := 5) (v := .ref (q 1)) (C := RX6) (T := TX6) (N := 19) hx hb hts in6_digest_6 hown hK.1 hP 0 rfl rfl 0 (by decide) (hts _ (List.mem_of_getElem? (i := 3) rfl)) (fun _ h9 => h9) rfl (zD_g DX6_digest 139 rfl) ?_
        refine lv_bipush (v := (92 : Int32)) hx hb (zD_g DX6_digest 140 rfl) (by decide) ?_
        refine lv_iload_n hx hb (zD_g DX6_digest 141 rfl) rfl (lv_at hl 2 rfl) ?_
        refine lv_iadd hx hb (zD_g DX6_digest 142 rfl) ?_
        obtain ⟨h38, hf⟩ := zg_s hf
        refine z_iald (k := ((92 : Int32) + y31).toNatClampNeg) hx hb hK.1 hP 1 0 rfl rfl h38 rfl (zD_g DX6_digest 143 rfl) ?_
        refine lv_i2l (v := ((book ((92 : Int32) + y31).toNatClampNeg)).toInt64) hx hb (zD_g DX6_digest 144 rfl) rfl ?_
        refine lv_ladd hx hb (zD_g DX6_digest 145 rfl) ?_
        refine lv_topl (fun x39 ex39 => ?_)
        replace hf := zl_s hf x39 ex39
        refine lv_lstore_n (lv' := [(1, .long x39), (0, .ref (q 0)), (3, .int y31)]) hx hb (zD_g DX6_digest 146 rfl) rfl hl (by decide) rfl (fun ls hl => ?_)
        refine lv_iinc (v := y31 + 1) (lv' := [(3, .int (y31 + 1)), (1, .long x39), (0, .ref (q 0))]) (k := 2) hx hb (zD_g DX6_digest 147 rfl) hl rfl rfl (by decide) rfl (fun ls hl => ?_)
        refine lv_goto (tgt := 175) hx hb (zD_g DX6_digest 148 rfl) (by decide) ?_
        exact ih32 _ _ hf ls (lv_sub hl [2, 1, 0] rfl)
  refine hL32 _ (fun y40 hf ls hl => ?_) _ _ _ hf ls (lv_sub hl [1, 2, 0] rfl)
  refine lv_ldc2 (v := (31 : Int64)) hx hb hown (hts _ (List.mem_of_getElem? (i := 2) rfl)) (zD_g DX6_digest 149 rfl) ?_
  refine lv_ldc2 (v := (31 : Int64)) hx hb hown (hts _ (List.mem_of_getElem? (i := 2) rfl)) (zD_g DX6_digest 150 rfl) ?_
  refine lv_lload_n hx hb (zD_g DX6_digest 151 rfl) rfl (lv_at hl 1 rfl) ?_
  refine lv_lmul hx hb (zD_g DX6_digest 152 rfl) ?_
  refine lv_aload_n hx hb (zD_g DX6_digest 153 rfl) rfl (lv_at hl 0 rfl) ?_
  refine va_get (D := D) (ci := 5) (v := .long mabove) (C := RX6) (T := TX6) (N := 19) hx hb hts in6_digest_6 hown hK.1 hP 0 rfl rfl 6 (by decide) (hts _ (List.mem_of_getElem? (i := 4) rfl)) (fun _ h9 => h9) rfl (zD_g DX6_digest 154 rfl) ?_
  refine lv_ladd hx hb (zD_g DX6_digest 155 rfl) ?_
  refine lv_lmul hx hb (zD_g DX6_digest 156 rfl) ?_
  refine lv_aload_n hx hb (zD_g DX6_digest 157 rfl) rfl (lv_at hl 0 rfl) ?_
  refine va_get (D := D) (ci := 5) (v := .long mbelow) (C := RX6) (T := TX6) (N := 19) hx hb hts in6_digest_6 hown hK.1 hP 0 rfl rfl 7 (by decide) (hts _ (List.mem_of_getElem? (i := 5) rfl)) (fun _ h9 => h9) rfl (zD_g DX6_digest 158 rfl) ?_
  refine lv_ladd hx hb (zD_g DX6_digest 159 rfl) ?_
  cases hf
  exact hret _ _ (zD_g DX6_digest 160 rfl)
theorem hd6_digest : yX6_digest.cls = RX6 ∧ yX6_digest.cls ≠ "java/lang/invoke/MethodHandle" ∧ yX6_digest.cls ≠ "java/lang/invoke/VarHandle" ∧ (parseMethodDescriptor yX6_digest.desc).map (fun d => d.parameters.length) = some 0 := by decide +kernel
