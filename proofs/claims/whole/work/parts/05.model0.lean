abbrev dlX6_in : List (Nat × Instr × Nat) := [(0, .lload_n 0, 1), (1, .lload_n 2, 1), (2, .lcmp, 1), (3, .ifCond .lt 14, 3), (6, .lload_n 0, 1), (7, .lload 4, 2), (9, .lcmp, 1), (10, .ifCond .gt 7, 3), (13, .iconst 1, 1), (14, .goto 4, 3), (17, .iconst 0, 1), (18, .ireturn, 1)]
theorem DX6_in : zD cX6_in dlX6_in = true := by decide +kernel
theorem hd6_in : yX6_in.cls ≠ "java/lang/invoke/MethodHandle" ∧ yX6_in.cls ≠ "java/lang/invoke/VarHandle" ∧ (parseMethodDescriptor yX6_in.desc).map (fun d => d.parameters.length) = some 3 := by decide +kernel
abbrev rm6_in : Room := { frames := 0, cells := 0, slots := 0, locals := 0 }
set_option maxHeartbeats 4000000 in
set_option maxRecDepth 100000 in
theorem c6_in {l : Launch} {D : va_G} {cI cZ cB : ClassId}   {a_v : Int64} {a_low : Int64} {a_high : Int64} {r : Int32}  (hf : f6_in a_v a_low a_high = some r) : Met l yX6_in wsX6_in rm6_in (zPp D cI cZ cB [.long a_v, .long a_low, .long a_high] ([] : va_W)) (zQp (some (.int r))) 0 0 (fun _ => False) := by
  unfold f6_in at hf
  refine z_pureZ RX6 (by decide +kernel) rfl rfl (Nat.le_of_ble_eq_true rfl) ?_
  intro p e s m args below meth c Q ls hx hb hml hown hts hK hP hret hl
  have hl : lv_has ls 6 [(0, .long a_v), (2, .long a_low), (4, .long a_high)] := hl
  refine lv_lload_n hx hb (zD_g DX6_in 0 rfl) rfl (lv_at hl 0 rfl) ?_
  refine lv_lload_n hx hb (zD_g DX6_in 1 rfl) rfl (lv_at hl 1 rfl) ?_
  refine W.lcmp hx hb (zD_g DX6_in 2 rfl) ?_
  refine lv_if_lt (tgt := 17) hx hb (zD_g DX6_in 3 rfl) (by decide) (fun c1 => ?_) (fun c1 => ?_)
  · replace hf := z_t c1 hf
    refine lv_iconst (v := (0 : Int32)) hx hb (zD_g DX6_in 10 rfl) (by decide) ?_
    cases hf
    exact hret _ _ rfl (zD_g DX6_in 11 rfl)
  · replace hf := z_f c1 hf
    refine lv_lload_n hx hb (zD_g DX6_in 4 rfl) rfl (lv_at hl 0 rfl) ?_
    refine lv_lload hx hb (zD_g DX6_in 5 rfl) (lv_at hl 2 rfl) ?_
    refine W.lcmp hx hb (zD_g DX6_in 6 rfl) ?_
    refine lv_if_gt (tgt := 17) hx hb (zD_g DX6_in 7 rfl) (by decide) (fun c2 => ?_) (fun c2 => ?_)
    · replace hf := z_t c2 hf
      refine lv_iconst (v := (0 : Int32)) hx hb (zD_g DX6_in 10 rfl) (by decide) ?_
      cases hf
      exact hret _ _ rfl (zD_g DX6_in 11 rfl)
    · replace hf := z_f c2 hf
      refine lv_iconst (v := (1 : Int32)) hx hb (zD_g DX6_in 8 rfl) (by decide) ?_
      refine lv_goto (tgt := 18) hx hb (zD_g DX6_in 9 rfl) (by decide) ?_
      cases hf
      exact hret _ _ rfl (zD_g DX6_in 11 rfl)
abbrev dlX6_empties : List (Nat × Instr × Nat) := [(0, .iconst 0, 1), (1, .istore_n 1, 1), (2, .iload_n 1, 1), (3, .sipush 230, 3), (6, .if_icmp .ge 16, 3), (9, .aload_n 0, 1), (10, .getfield 7, 3), (13, .iload_n 1, 1), (14, .iconst 0, 1), (15, .iastore, 1), (16, .iinc 1 1, 3), (19, .goto (-17), 3), (22, .iconst 0, 1), (23, .istore_n 1, 1), (24, .iload_n 1, 1), (25, .iconst 2, 1), (26, .if_icmp .ge 52, 3), (29, .aload_n 0, 1), (30, .getfield 7, 3), (33, .bipush 74, 2), (35, .iconst 3, 1), (36, .iload_n 1, 1), (37, .imul, 1), (38, .iadd, 1), (39, .bipush 15, 2), (41, .iastore, 1), (42, .aload_n 0, 1), (43, .getfield 7, 3), (46, .bipush 74, 2), (48, .iconst 3, 1), (49, .iload_n 1, 1), (50, .imul, 1), (51, .iadd, 1), (52, .iconst 1, 1), (53, .iadd, 1), (54, .bipush 10, 2), (56, .iastore, 1), (57, .aload_n 0, 1), (58, .getfield 7, 3), (61, .bipush 74, 2), (63, .iconst 3, 1), (64, .iload_n 1, 1), (65, .imul, 1), (66, .iadd, 1), (67, .iconst 2, 1), (68, .iadd, 1), (69, .bipush 60, 2), (71, .iastore, 1), (72, .iinc 1 1, 3), (75, .goto (-51), 3), (78, .return_, 1)]
theorem DX6_empties : zD cX6_empties dlX6_empties = true := by decide +kernel
theorem hd6_empties : yX6_empties.cls = RX6 ∧ yX6_empties.cls ≠ "java/lang/invoke/MethodHandle" ∧ yX6_empties.cls ≠ "java/lang/invoke/VarHandle" ∧ (parseMethodDescriptor yX6_empties.desc).map (fun d => d.parameters.length) = some 0 := by decide +kernel
abbrev rm6_empties : Room := { frames := 0, cells := 0, slots := 0, locals := 0 }
theorem in6_empties_6 : ∀ w ∈ wsX60, w ∈ wsX6_empties := fun w h => List.mem_cons_of_mem _ (List.mem_append_right _ h)
set_option maxHeartbeats 4000000 in
set_option maxRecDepth 100000 in
theorem c6_empties {l : Launch} {D : va_G} {cI cZ cB : ClassId} {q : Nat → Nat} {sz : Nat} {quiet : Int32} {mabove : Int64} {mbelow : Int64} {typed : Int32} {mat : Int32} {mstart : Int32} {mtoken : Int32} {mvalue : Int32} {many : Int32} {book : Nat → Int32} {images : Nat → Int32} {mkept : Nat → Int32} {aside : Nat → Int32} {refused : Nat → Int32} {text : Nat → Int32} {items : Nat → Int32} {drawn : Nat → Int32} {row : Nat → Int32} {best : Nat → Int32}   {d_book : Nat → Int32} (hf : f6_empties book = some d_book) : Met l yX6_empties wsX6_empties rm6_empties (zPm D cI cZ cB [.ref (q 0)] sz (cMod cI cZ q quiet mabove mbelow typed mat mstart mtoken mvalue many book images mkept aside refused text items drawn row best)) (zQm D none (cMod cI cZ q quiet mabove mbelow typed mat mstart mtoken mvalue many d_book images mkept aside refused text items drawn row best) (va_A (cMod cI cZ q quiet mabove mbelow typed mat mstart mtoken mvalue many book images mkept aside refused text items drawn row best) sz)) 0 0 (va_A (cMod cI cZ q quiet mabove mbelow typed mat mstart mtoken mvalue many book images mkept aside refused text items drawn row best) sz) := by
  unfold f6_empties at hf
  refine z_mutV RX6 (by decide +kernel) rfl rfl (Nat.le_of_ble_eq_true rfl) ?_
  intro p e s m args below meth c Q A ls hx hb hml hown hts hK hP hD hS hA hret hl
  have hl : lv_has ls 2 [(0, .ref (q 0))] := hl
  refine lv_iconst (v := (0 : Int32)) hx hb (zD_g DX6_empties 0 rfl) (by decide) ?_
  refine lv_istore_n (lv' := [(1, .int (0 : Int32)), (0, .ref (q 0))]) hx hb (zD_g DX6_empties 1 rfl) rfl hl (by decide) rfl (fun ls hl => ?_)
  have hL3 : ∀ (k3 : (Nat → Int32) → Option ((Nat → Int32))) (hk3 : ∀ (book_6 : Nat → Int32), k3 book_6 = some d_book → ∀ (H : Heap) (locs : List Loc), va_P D vwCl (cMod cI cZ q quiet mabove mbelow typed mat mstart mtoken mvalue many book_6 images mkept aside refused text items drawn row best) H → va_D A (cMod cI cZ q quiet mabove mbelow typed mat mstart mtoken mvalue many book_6 images mkept aside refused text items drawn row best) → va_S A s.heap H locs → ∀ (ls : Array Slot), lv_has ls 2 [(0, .ref (q 0))] → W p l e rm6_empties s m args below meth c H locs 0 0 Q (F0 m 22 ls [])) (n3 : Nat) (y1 : Int32) (book_2 : Nat → Int32), L6_empties_2 k3 n3 y1 book_2 = some d_book → ∀ (H : Heap) (locs : List Loc), va_P D vwCl (cMod cI cZ q quiet mabove mbelow typed mat mstart mtoken mvalue many book_2 images mkept aside refused text items drawn row best) H → va_D A (cMod cI cZ q quiet mabove mbelow typed mat mstart mtoken mvalue many book_2 images mkept aside refused text items drawn row best) → va_S A s.heap H locs → ∀ (ls : Array Slot), lv_has ls 2 [(0, .ref (q 0)), (1, .int y1)] → W p l e rm6_empties s m args below meth c H locs 0 0 Q (F0 m 2 ls []) := by
    intro k3 hk3 n3
    induction n3 with
    | zero =>
      intro y1 book_2 hf
      cases hf
    | succ n3 ih3 =>
      intro y1 book_2 hf H locs hP hD hS ls hl
      rw [L6_empties_2] at hf
      refine lv_iload_n hx hb (zD_g DX6_empties 2 rfl) rfl (lv_at hl 1 rfl) ?_
      refine lv_sipush (v := (230 : Int32)) hx hb (zD_g DX6_empties 3 rfl) (by decide) ?_
      refine lv_icmp_ge (tgt := 22) hx hb (zD_g DX6_empties 4 rfl) (by decide) (fun c4 => ?_) (fun c4 => ?_)
      · replace hf := z_t c4 hf
        exact hk3 _ hf _ _ hP hD hS ls (lv_sub hl [0] rfl)
      · replace hf := z_f c4 hf
        refine lv_aload_n hx hb (zD_g DX6_empties 5 rfl) rfl (lv_at hl 0 rfl) ?_
        refine va_get (D := D) (ci := 5) (v := .ref (q 1)) (C := RX6) (T := TX6) (N := 19) hx hb hts in6_empties_6 hown hK.1 hP 0 rfl rfl 0 (by decide) (hts _ (List.mem_of_getElem? (i := 1) rfl)) (fun _ h9 => h9) rfl (zD_g DX6_empties 6 rfl) ?_
        refine lv_iload_n hx hb (zD_g DX6_empties 7 rfl) rfl (lv_at hl 1 rfl) ?_
        refine lv_iconst (v := (0 : Int32)) hx hb (zD_g DX6_empties 8 rfl) (by decide) ?_
        obtain ⟨h5, hf⟩ := zg_s hf
        refine z_iast (k := y1.toNatClampNeg) (ws' := (cMod cI cZ q quiet mabove mbelow typed mat mstart mtoken mvalue many (upd book_2 y1.toNatClampNeg (0 : Int32)) images mkept aside refused text items drawn row best)) hx hb hK.1 hP hD hS 1 0 rfl rfl h5 rfl rfl (zD_g DX6_empties 9 rfl) (fun H locs hP hD hS => ?_)
        refine lv_iinc (v := y1 + 1) (lv' := [(1, .int (y1 + 1)), (0, .ref (q 0))]) (k := 1) hx hb (zD_g DX6_empties 10 rfl) hl rfl rfl (by decide) rfl (fun ls hl => ?_)
        refine lv_goto (tgt := 2) hx hb (zD_g DX6_empties 11 rfl) (by decide) ?_
        exact ih3 _ _ hf _ _ hP hD hS ls (lv_sub hl [1, 0] rfl)
  refine hL3 _ (fun book_6 hf H locs hP hD hS ls hl => ?_) _ _ _ hf _ _ hP hD hS ls (lv_sub hl [1, 0] rfl)
  refine lv_iconst (v := (0 : Int32)) hx hb (zD_g DX6_empties 12 rfl) (by decide) ?_
  refine lv_istore_n (lv' := [(1, .int (0 : Int32)), (0, .ref (q 0))]) hx hb (zD_g DX6_empties 13 rfl) rfl hl (by decide) rfl (fun ls hl => ?_)
  have hL9 : ∀ (k9 : (Nat → Int32) → Option ((Nat → Int32))) (hk9 : ∀ (book_14 : Nat → Int32), k9 book_14 = some d_book → ∀ (H : Heap) (locs : List Loc), va_P D vwCl (cMod cI cZ q quiet mabove mbelow typed mat mstart mtoken mvalue many book_14 images mkept aside refused text items drawn row best) H → va_D A (cMod cI cZ q quiet mabove mbelow typed mat mstart mtoken mvalue many book_14 images mkept aside refused text items drawn row best) → va_S A s.heap H locs → ∀ (ls : Array Slot), lv_has ls 2 [] → W p l e rm6_empties s m args below meth c H locs 0 0 Q (F0 m 78 ls [])) (n9 : Nat) (y7 : Int32) (book_8 : Nat → Int32), L6_empties_24 k9 n9 y7 book_8 = some d_book → ∀ (H : Heap) (locs : List Loc), va_P D vwCl (cMod cI cZ q quiet mabove mbelow typed mat mstart mtoken mvalue many book_8 images mkept aside refused text items drawn row best) H → va_D A (cMod cI cZ q quiet mabove mbelow typed mat mstart mtoken mvalue many book_8 images mkept aside refused text items drawn row best) → va_S A s.heap H locs → ∀ (ls : Array Slot), lv_has ls 2 [(0, .ref (q 0)), (1, .int y7)] → W p l e rm6_empties s m args below meth c H locs 0 0 Q (F0 m 24 ls []) := by
    intro k9 hk9 n9
    induction n9 with
    | zero =>
      intro y7 book_8 hf
      cases hf
    | succ n9 ih9 =>
      intro y7 book_8 hf H locs hP hD hS ls hl
      rw [L6_empties_24] at hf
      refine lv_iload_n hx hb (zD_g DX6_empties 14 rfl) rfl (lv_at hl 1 rfl) ?_
      refine lv_iconst (v := (2 : Int32)) hx hb (zD_g DX6_empties 15 rfl) (by decide) ?_
      refine lv_icmp_ge (tgt := 78) hx hb (zD_g DX6_empties 16 rfl) (by decide) (fun c10 => ?_) (fun c10 => ?_)
      · replace hf := z_t c10 hf
        exact hk9 _ hf _ _ hP hD hS ls (lv_sub hl [] rfl)
      · replace hf := z_f c10 hf
        refine lv_aload_n hx hb (zD_g DX6_empties 17 rfl) rfl (lv_at hl 0 rfl) ?_
        refine va_get (D := D) (ci := 5) (v := .ref (q 1)) (C := RX6) (T := TX6) (N := 19) hx hb hts in6_empties_6 hown hK.1 hP 0 rfl rfl 0 (by decide) (hts _ (List.mem_of_getElem? (i := 1) rfl)) (fun _ h9 => h9) rfl (zD_g DX6_empties 18 rfl) ?_
        refine lv_bipush (v := (74 : Int32)) hx hb (zD_g DX6_empties 19 rfl) (by decide) ?_
        refine lv_iconst (v := (3 : Int32)) hx hb (zD_g DX6_empties 20 rfl) (by decide) ?_
        refine lv_iload_n hx hb (zD_g DX6_empties 21 rfl) rfl (lv_at hl 1 rfl) ?_
        refine lv_imul hx hb (zD_g DX6_empties 22 rfl) ?_
        refine lv_iadd hx hb (zD_g DX6_empties 23 rfl) ?_
        refine lv_bipush (v := (15 : Int32)) hx hb (zD_g DX6_empties 24 rfl) (by decide) ?_
        obtain ⟨h11, hf⟩ := zg_s hf
        refine z_iast (k := ((74 : Int32) + ((3 : Int32) * y7)).toNatClampNeg) (ws' := (cMod cI cZ q quiet mabove mbelow typed mat mstart mtoken mvalue many (upd book_8 (((74 : Int32) + ((3 : Int32) * y7)).toNatClampNeg) (15 : Int32)) images mkept aside refused text items drawn row best)) hx hb hK.1 hP hD hS 1 0 rfl rfl h11 rfl rfl (zD_g DX6_empties 25 rfl) (fun H locs hP hD hS => ?_)
        refine lv_aload_n hx hb (zD_g DX6_empties 26 rfl) rfl (lv_at hl 0 rfl) ?_
        refine va_get (D := D) (ci := 5) (v := .ref (q 1)) (C := RX6) (T := TX6) (N := 19) hx hb hts in6_empties_6 hown hK.1 hP 0 rfl rfl 0 (by decide) (hts _ (List.mem_of_getElem? (i := 1) rfl)) (fun _ h9 => h9) rfl (zD_g DX6_empties 27 rfl) ?_
        refine lv_bipush (v := (74 : Int32)) hx hb (zD_g DX6_empties 28 rfl) (by decide) ?_
        refine lv_iconst (v := (3 : Int32)) hx hb (zD_g DX6_empties 29 rfl) (by decide) ?_
        refine lv_iload_n hx hb (zD_g DX6_empties 30 rfl) rfl (lv_at hl 1 rfl) ?_
        refine lv_imul hx hb (zD_g DX6_empties 31 rfl) ?_
        refine lv_iadd hx hb (zD_g DX6_empties 32 rfl) ?_
        refine lv_iconst (v := (1 : Int32)) hx hb (zD_g DX6_empties 33 rfl) (by decide) ?_
        refine lv_iadd hx hb (zD_g DX6_empties 34 rfl) ?_
        refine lv_bipush (v := (10 : Int32)) hx hb (zD_g DX6_empties 35 rfl) (by decide) ?_
        obtain ⟨h12, hf⟩ := zg_s hf
        refine z_iast (k := (((74 : Int32) + ((3 : Int32) * y7)) + (1 : Int32)).toNatClampNeg) (ws' := (cMod cI cZ q quiet mabove mbelow typed mat mstart mtoken mvalue many (upd (upd book_8 (((74 : Int32) + ((3 : Int32) * y7)).toNatClampNeg) (15 : Int32)) ((((74 : Int32) + ((3 : Int32) * y7)) + (1 : Int32)).toNatClampNeg) (10 : Int32)) images mkept aside refused text items drawn row best)) hx hb hK.1 hP hD hS 1 0 rfl rfl h12 rfl rfl (zD_g DX6_empties 36 rfl) (fun H locs hP hD hS => ?_)
        refine lv_aload_n hx hb (zD_g DX6_empties 37 rfl) rfl (lv_at hl 0 rfl) ?_
        refine va_get (D := D) (ci := 5) (v := .ref (q 1)) (C := RX6) (T := TX6) (N := 19) hx hb hts in6_empties_6 hown hK.1 hP 0 rfl rfl 0 (by decide) (hts _ (List.mem_of_getElem? (i := 1) rfl)) (fun _ h9 => h9) rfl (zD_g DX6_empties 38 rfl) ?_
        refine lv_bipush (v := (74 : Int32)) hx hb (zD_g DX6_empties 39 rfl) (by decide) ?_
        refine lv_iconst (v := (3 : Int32)) hx hb (zD_g DX6_empties 40 rfl) (by decide) ?_
        refine lv_iload_n hx hb (zD_g DX6_empties 41 rfl) rfl (lv_at hl 1 rfl) ?_
        refine lv_imul hx hb (zD_g DX6_empties 42 rfl) ?_
        refine lv_iadd hx hb (zD_g DX6_empties 43 rfl) ?_
        refine lv_iconst (v := (2 : Int32)) hx hb (zD_g DX6_empties 44 rfl) (by decide) ?_
        refine lv_iadd hx hb (zD_g DX6_empties 45 rfl) ?_
        refine lv_bipush (v := (60 : Int32)) hx hb (zD_g DX6_empties 46 rfl) (by decide) ?_
        obtain ⟨h13, hf⟩ := zg_s hf
        refine z_iast (k := (((74 : Int32) + ((3 : Int32) * y7)) + (2 : Int32)).toNatClampNeg) (ws' := (cMod cI cZ q quiet mabove mbelow typed mat mstart mtoken mvalue many (upd (upd (upd book_8 (((74 : Int32) + ((3 : Int32) * y7)).toNatClampNeg) (15 : Int32)) ((((74 : Int32) + ((3 : Int32) * y7)) + (1 : Int32)).toNatClampNeg) (10 : Int32)) ((((74 : Int32) + ((3 : Int32) * y7)) + (2 : Int32)).toNatClampNeg) (60 : Int32)) images mkept aside refused text items drawn row best)) hx hb hK.1 hP hD hS 1 0 rfl rfl h13 rfl rfl (zD_g DX6_empties 47 rfl) (fun H locs hP hD hS => ?_)
        refine lv_iinc (v := y7 + 1) (lv' := [(1, .int (y7 + 1)), (0, .ref (q 0))]) (k := 1) hx hb (zD_g DX6_empties 48 rfl) hl rfl rfl (by decide) rfl (fun ls hl => ?_)
        refine lv_goto (tgt := 24) hx hb (zD_g DX6_empties 49 rfl) (by decide) ?_
        exact ih9 _ _ hf _ _ hP hD hS ls (lv_sub hl [1, 0] rfl)
  refine hL9 _ (fun book_14 hf H locs hP hD hS ls hl => ?_) _ _ _ hf _ _ hP hD hS ls (lv_sub hl [1, 0] rfl)
  cases hf
  exact hret _ _ _ _ hP hD hS (zD_g DX6_empties 50 rfl)
abbrev dlX6_refuses : List (Nat × Instr × Nat) := [(0, .aload_n 0, 1), (1, .getfield 23, 3), (4, .iload_n 1, 1), (5, .dup2, 1), (6, .iaload, 1), (7, .aload_n 0, 1), (8, .getfield 48, 3), (11, .ifCond .eq 7, 3), (14, .iconst 0, 1), (15, .goto 4, 3), (18, .iconst 1, 1), (19, .iadd, 1), (20, .iastore, 1), (21, .iload_n 2, 1), (22, .ireturn, 1)]
theorem DX6_refuses : zD cX6_refuses dlX6_refuses = true := by decide +kernel
theorem hd6_refuses : yX6_refuses.cls = RX6 ∧ yX6_refuses.cls ≠ "java/lang/invoke/MethodHandle" ∧ yX6_refuses.cls ≠ "java/lang/invoke/VarHandle" ∧ (parseMethodDescriptor yX6_refuses.desc).map (fun d => d.parameters.length) = some 2 := by decide +kernel
abbrev rm6_refuses : Room := { frames := 0, cells := 0, slots := 0, locals := 0 }
theorem in6_refuses_6 : ∀ w ∈ wsX60, w ∈ wsX6_refuses := fun w h => List.mem_cons_of_mem _ (List.mem_append_right _ h)
set_option maxHeartbeats 4000000 in
set_option maxRecDepth 100000 in
theorem c6_refuses {l : Launch} {D : va_G} {cI cZ cB : ClassId} {q : Nat → Nat} {sz : Nat} {quiet : Int32} {mabove : Int64} {mbelow : Int64} {typed : Int32} {mat : Int32} {mstart : Int32} {mtoken : Int32} {mvalue : Int32} {many : Int32} {book : Nat → Int32} {images : Nat → Int32} {mkept : Nat → Int32} {aside : Nat → Int32} {refused : Nat → Int32} {text : Nat → Int32} {items : Nat → Int32} {drawn : Nat → Int32} {row : Nat → Int32} {best : Nat → Int32} {a_sort : Int32} {a_v : Int32} {r : Int32} {d_refused : Nat → Int32} (hf : f6_refuses quiet refused a_sort a_v = some (r, d_refused)) : Met l yX6_refuses wsX6_refuses rm6_refuses (zPm D cI cZ cB [.ref (q 0), .int a_sort, .int a_v] sz (cMod cI cZ q quiet mabove mbelow typed mat mstart mtoken mvalue many book images mkept aside refused text items drawn row best)) (zQm D (some (.int r)) (cMod cI cZ q quiet mabove mbelow typed mat mstart mtoken mvalue many book images mkept aside d_refused text items drawn row best) (va_A (cMod cI cZ q quiet mabove mbelow typed mat mstart mtoken mvalue many book images mkept aside refused text items drawn row best) sz)) 0 0 (va_A (cMod cI cZ q quiet mabove mbelow typed mat mstart mtoken mvalue many book images mkept aside refused text items drawn row best) sz) := by
  unfold f6_refuses at hf
  refine z_mutI RX6 (by decide +kernel) rfl rfl (Nat.le_of_ble_eq_true rfl) ?_
  intro p e s m args below meth c Q A ls hx hb hml hown hts hK hP hD hS hA hret hl
  have hl : lv_has ls 3 [(0, .ref (q 0)), (1, .int a_sort), (2, .int a_v)] := hl
  refine lv_aload_n hx hb (zD_g DX6_refuses 0 rfl) rfl (lv_at hl 0 rfl) ?_
  refine va_get (D := D) (ci := 5) (v := .ref (q 5)) (C := RX6) (T := TX6) (N := 19) hx hb hts in6_refuses_6 hown hK.1 hP 0 rfl rfl 4 (by decide) (hts _ (List.mem_of_getElem? (i := 1) rfl)) (fun _ h9 => h9) rfl (zD_g DX6_refuses 1 rfl) ?_
  refine lv_iload_n hx hb (zD_g DX6_refuses 2 rfl) rfl (lv_at hl 1 rfl) ?_
  refine lv_dup2_11 hx hb (zD_g DX6_refuses 3 rfl) rfl rfl ?_
  obtain ⟨h1, hf⟩ := zg_s hf
  refine z_iald (k := a_sort.toNatClampNeg) hx hb hK.1 hP 5 0 rfl rfl h1 rfl (zD_g DX6_refuses 4 rfl) ?_
  refine lv_aload_n hx hb (zD_g DX6_refuses 5 rfl) rfl (lv_at hl 0 rfl) ?_
  refine va_get (D := D) (ci := 5) (v := .int quiet) (C := RX6) (T := TX6) (N := 19) hx hb hts in6_refuses_6 hown hK.1 hP 0 rfl rfl 5 (by decide) (hts _ (List.mem_of_getElem? (i := 2) rfl)) (fun _ h9 => h9) rfl (zD_g DX6_refuses 6 rfl) ?_
  refine lv_if_eq (tgt := 18) hx hb (zD_g DX6_refuses 7 rfl) (by decide) (fun c2 => ?_) (fun c2 => ?_)
  · replace hf := z_t c2 hf
    refine lv_iconst (v := (1 : Int32)) hx hb (zD_g DX6_refuses 10 rfl) (by decide) ?_
    refine lv_iadd hx hb (zD_g DX6_refuses 11 rfl) ?_
    refine lv_topi (fun x3 ex3 => ?_)
    replace hf := zl_s hf x3 ex3
    obtain ⟨h4, hf⟩ := zg_s hf
    refine z_iast (k := a_sort.toNatClampNeg) (ws' := (cMod cI cZ q quiet mabove mbelow typed mat mstart mtoken mvalue many book images mkept aside (upd refused a_sort.toNatClampNeg x3) text items drawn row best)) hx hb hK.1 hP hD hS 5 0 rfl rfl h4 rfl rfl (zD_g DX6_refuses 12 rfl) (fun H locs hP hD hS => ?_)
    refine lv_iload_n hx hb (zD_g DX6_refuses 13 rfl) rfl (lv_at hl 2 rfl) ?_
    cases hf
    exact hret _ _ _ _ hP hD hS (zD_g DX6_refuses 14 rfl)
  · replace hf := z_f c2 hf
    refine lv_iconst (v := (0 : Int32)) hx hb (zD_g DX6_refuses 8 rfl) (by decide) ?_
    refine lv_goto (tgt := 19) hx hb (zD_g DX6_refuses 9 rfl) (by decide) ?_
    refine lv_iadd hx hb (zD_g DX6_refuses 11 rfl) ?_
    refine lv_topi (fun x5 ex5 => ?_)
    replace hf := zl_s hf x5 ex5
    obtain ⟨h6, hf⟩ := zg_s hf
    refine z_iast (k := a_sort.toNatClampNeg) (ws' := (cMod cI cZ q quiet mabove mbelow typed mat mstart mtoken mvalue many book images mkept aside (upd refused a_sort.toNatClampNeg x5) text items drawn row best)) hx hb hK.1 hP hD hS 5 0 rfl rfl h6 rfl rfl (zD_g DX6_refuses 12 rfl) (fun H locs hP hD hS => ?_)
    refine lv_iload_n hx hb (zD_g DX6_refuses 13 rfl) rfl (lv_at hl 2 rfl) ?_
    cases hf
    exact hret _ _ _ _ hP hD hS (zD_g DX6_refuses 14 rfl)
abbrev dlX6_bad : List (Nat × Instr × Nat) := [(0, .aload_n 0, 1), (1, .iconst 0, 1), (2, .bipush (-2), 2), (4, .invokevirtual 52, 3), (7, .ireturn, 1)]
theorem DX6_bad : zD cX6_bad dlX6_bad = true := by decide +kernel
set_option maxRecDepth 20000 in
theorem ggX6_bad_X6_refuses : GoodIn wsX6_bad wsX6_refuses := goodIn_r _ [5, 6, 7, 8, 9, 10, 11, 12, 13, 14, 15, 16, 17, 18, 19, 20, 21, 22, 23, 24, 25, 26] (by decide +kernel) (by decide +kernel)
set_option maxRecDepth 20000 in
theorem gX6_bad_X6_refuses : GoodIn wsX6_bad (wsV RX6 52 RX6 yX6_refuses wsX6_refuses) := goodIn_app (goodIn_of _ (by decide +kernel)) ggX6_bad_X6_refuses
theorem hd6_bad : yX6_bad.cls = RX6 ∧ yX6_bad.cls ≠ "java/lang/invoke/MethodHandle" ∧ yX6_bad.cls ≠ "java/lang/invoke/VarHandle" ∧ (parseMethodDescriptor yX6_bad.desc).map (fun d => d.parameters.length) = some 0 := by decide +kernel
abbrev rm6_bad : Room := { frames := 1, cells := 0, slots := 0, locals := 22 }
set_option maxHeartbeats 4000000 in
set_option maxRecDepth 100000 in
theorem c6_bad {l : Launch} {D : va_G} {cI cZ cB : ClassId} {q : Nat → Nat} {sz : Nat} {quiet : Int32} {mabove : Int64} {mbelow : Int64} {typed : Int32} {mat : Int32} {mstart : Int32} {mtoken : Int32} {mvalue : Int32} {many : Int32} {book : Nat → Int32} {images : Nat → Int32} {mkept : Nat → Int32} {aside : Nat → Int32} {refused : Nat → Int32} {text : Nat → Int32} {items : Nat → Int32} {drawn : Nat → Int32} {row : Nat → Int32} {best : Nat → Int32}  {r : Int32} {d_refused : Nat → Int32} (hf : f6_bad quiet refused = some (r, d_refused)) : Met l yX6_bad wsX6_bad rm6_bad (zPm D cI cZ cB [.ref (q 0)] sz (cMod cI cZ q quiet mabove mbelow typed mat mstart mtoken mvalue many book images mkept aside refused text items drawn row best)) (zQm D (some (.int r)) (cMod cI cZ q quiet mabove mbelow typed mat mstart mtoken mvalue many book images mkept aside d_refused text items drawn row best) (va_A (cMod cI cZ q quiet mabove mbelow typed mat mstart mtoken mvalue many book images mkept aside refused text items drawn row best) sz)) 0 0 (va_A (cMod cI cZ q quiet mabove mbelow typed mat mstart mtoken mvalue many book images mkept aside refused text items drawn row best) sz) := by
  unfold f6_bad at hf
  refine z_mutI RX6 (by decide +kernel) rfl rfl (Nat.le_of_ble_eq_true rfl) ?_
  intro p e s m args below meth c Q A ls hx hb hml hown hts hK hP hD hS hA hret hl
  have hl : lv_has ls 1 [(0, .ref (q 0))] := hl
  refine lv_aload_n hx hb (zD_g DX6_bad 0 rfl) rfl (lv_at hl 0 rfl) ?_
  refine lv_iconst (v := (0 : Int32)) hx hb (zD_g DX6_bad 1 rfl) (by decide) ?_
  refine lv_bipush (v := (-2 : Int32)) hx hb (zD_g DX6_bad 2 rfl) (by decide) ?_
  obtain ⟨r1, refused_2, hc3, hf⟩ := zb2_s hf
  refine z_Vm (As := [.int (0 : Int32), .int (-2 : Int32)]) (rest := []) (ws' := (cMod cI cZ q quiet mabove mbelow typed mat mstart mtoken mvalue many book images mkept aside refused_2 text items drawn row best)) ⟨hx, hb, hml, hown, hts⟩ hK (c6_refuses (quiet := quiet) (mabove := mabove) (mbelow := mbelow) (typed := typed) (mat := mat) (mstart := mstart) (mtoken := mtoken) (mvalue := mvalue) (many := many) (book := book) (images := images) (mkept := mkept) (aside := aside) (refused := refused) (text := text) (items := items) (drawn := drawn) (row := row) (best := best) (q := q) hc3) (cwV 2 hts gX6_bad_X6_refuses rfl rfl rfl hd6_refuses ⟨Nat.le_of_ble_eq_true rfl, Nat.le_of_ble_eq_true rfl⟩) hP hD hS hA 11 [0, 1, 2, 3, 4, 5, 6, 7, 8, 9, 10] [] [0, 1, 2, 3, 4, 5, 6, 7, 8, 9, 10] (by decide +kernel) rfl rfl rfl rfl rfl rfl rfl hl.1 rfl rfl (Nat.le_of_ble_eq_true rfl) (zD_g DX6_bad 3 rfl) ⟨Nat.zero_le _, Nat.zero_le _⟩ (fun H locs hP hD hS => ?_)
  cases hf
  exact hret _ _ _ _ hP hD hS (zD_g DX6_bad 4 rfl)
abbrev dlX6_no : List (Nat × Instr × Nat) := [(0, .aload_n 0, 1), (1, .iconst 1, 1), (2, .bipush (-3), 2), (4, .invokevirtual 52, 3), (7, .ireturn, 1)]
theorem DX6_no : zD cX6_no dlX6_no = true := by decide +kernel
set_option maxRecDepth 20000 in
theorem ggX6_no_X6_refuses : GoodIn wsX6_no wsX6_refuses := goodIn_r _ [5, 6, 7, 8, 9, 10, 11, 12, 13, 14, 15, 16, 17, 18, 19, 20, 21, 22, 23, 24, 25, 26] (by decide +kernel) (by decide +kernel)
set_option maxRecDepth 20000 in
theorem gX6_no_X6_refuses : GoodIn wsX6_no (wsV RX6 52 RX6 yX6_refuses wsX6_refuses) := goodIn_app (goodIn_of _ (by decide +kernel)) ggX6_no_X6_refuses
theorem hd6_no : yX6_no.cls = RX6 ∧ yX6_no.cls ≠ "java/lang/invoke/MethodHandle" ∧ yX6_no.cls ≠ "java/lang/invoke/VarHandle" ∧ (parseMethodDescriptor yX6_no.desc).map (fun d => d.parameters.length) = some 0 := by decide +kernel
abbrev rm6_no : Room := { frames := 1, cells := 0, slots := 0, locals := 22 }
set_option maxHeartbeats 4000000 in
set_option maxRecDepth 100000 in
theorem c6_no {l : Launch} {D : va_G} {cI cZ cB : ClassId} {q : Nat → Nat} {sz : Nat} {quiet : Int32} {mabove : Int64} {mbelow : Int64} {typed : Int32} {mat : Int32} {mstart : Int32} {mtoken : Int32} {mvalue : Int32} {many : Int32} {book : Nat → Int32} {images : Nat → Int32} {mkept : Nat → Int32} {aside : Nat → Int32} {refused : Nat → Int32} {text : Nat → Int32} {items : Nat → Int32} {drawn : Nat → Int32} {row : Nat → Int32} {best : Nat → Int32}  {r : Int32} {d_refused : Nat → Int32} (hf : f6_no quiet refused = some (r, d_refused)) : Met l yX6_no wsX6_no rm6_no (zPm D cI cZ cB [.ref (q 0)] sz (cMod cI cZ q quiet mabove mbelow typed mat mstart mtoken mvalue many book images mkept aside refused text items drawn row best)) (zQm D (some (.int r)) (cMod cI cZ q quiet mabove mbelow typed mat mstart mtoken mvalue many book images mkept aside d_refused text items drawn row best) (va_A (cMod cI cZ q quiet mabove mbelow typed mat mstart mtoken mvalue many book images mkept aside refused text items drawn row best) sz)) 0 0 (va_A (cMod cI cZ q quiet mabove mbelow typed mat mstart mtoken mvalue many book images mkept aside refused text items drawn row best) sz) := by
  unfold f6_no at hf
  refine z_mutI RX6 (by decide +kernel) rfl rfl (Nat.le_of_ble_eq_true rfl) ?_
  intro p e s m args below meth c Q A ls hx hb hml hown hts hK hP hD hS hA hret hl
  have hl : lv_has ls 1 [(0, .ref (q 0))] := hl
  refine lv_aload_n hx hb (zD_g DX6_no 0 rfl) rfl (lv_at hl 0 rfl) ?_
  refine lv_iconst (v := (1 : Int32)) hx hb (zD_g DX6_no 1 rfl) (by decide) ?_
  refine lv_bipush (v := (-3 : Int32)) hx hb (zD_g DX6_no 2 rfl) (by decide) ?_
  obtain ⟨r1, refused_2, hc3, hf⟩ := zb2_s hf
  refine z_Vm (As := [.int (1 : Int32), .int (-3 : Int32)]) (rest := []) (ws' := (cMod cI cZ q quiet mabove mbelow typed mat mstart mtoken mvalue many book images mkept aside refused_2 text items drawn row best)) ⟨hx, hb, hml, hown, hts⟩ hK (c6_refuses (quiet := quiet) (mabove := mabove) (mbelow := mbelow) (typed := typed) (mat := mat) (mstart := mstart) (mtoken := mtoken) (mvalue := mvalue) (many := many) (book := book) (images := images) (mkept := mkept) (aside := aside) (refused := refused) (text := text) (items := items) (drawn := drawn) (row := row) (best := best) (q := q) hc3) (cwV 2 hts gX6_no_X6_refuses rfl rfl rfl hd6_refuses ⟨Nat.le_of_ble_eq_true rfl, Nat.le_of_ble_eq_true rfl⟩) hP hD hS hA 11 [0, 1, 2, 3, 4, 5, 6, 7, 8, 9, 10] [] [0, 1, 2, 3, 4, 5, 6, 7, 8, 9, 10] (by decide +kernel) rfl rfl rfl rfl rfl rfl rfl hl.1 rfl rfl (Nat.le_of_ble_eq_true rfl) (zD_g DX6_no 3 rfl) ⟨Nat.zero_le _, Nat.zero_le _⟩ (fun H locs hP hD hS => ?_)
  cases hf
  exact hret _ _ _ _ hP hD hS (zD_g DX6_no 4 rfl)
abbrev dlX6_full : List (Nat × Instr × Nat) := [(0, .aload_n 0, 1), (1, .iconst 2, 1), (2, .bipush (-4), 2), (4, .invokevirtual 52, 3), (7, .ireturn, 1)]
theorem DX6_full : zD cX6_full dlX6_full = true := by decide +kernel
set_option maxRecDepth 20000 in
theorem ggX6_full_X6_refuses : GoodIn wsX6_full wsX6_refuses := goodIn_r _ [5, 6, 7, 8, 9, 10, 11, 12, 13, 14, 15, 16, 17, 18, 19, 20, 21, 22, 23, 24, 25, 26] (by decide +kernel) (by decide +kernel)
set_option maxRecDepth 20000 in
theorem gX6_full_X6_refuses : GoodIn wsX6_full (wsV RX6 52 RX6 yX6_refuses wsX6_refuses) := goodIn_app (goodIn_of _ (by decide +kernel)) ggX6_full_X6_refuses
theorem hd6_full : yX6_full.cls = RX6 ∧ yX6_full.cls ≠ "java/lang/invoke/MethodHandle" ∧ yX6_full.cls ≠ "java/lang/invoke/VarHandle" ∧ (parseMethodDescriptor yX6_full.desc).map (fun d => d.parameters.length) = some 0 := by decide +kernel
abbrev rm6_full : Room := { frames := 1, cells := 0, slots := 0, locals := 22 }
set_option maxHeartbeats 4000000 in
set_option maxRecDepth 100000 in
theorem c6_full {l : Launch} {D : va_G} {cI cZ cB : ClassId} {q : Nat → Nat} {sz : Nat} {quiet : Int32} {mabove : Int64} {mbelow : Int64} {typed : Int32} {mat : Int32} {mstart : Int32} {mtoken : Int32} {mvalue : Int32} {many : Int32} {book : Nat → Int32} {images : Nat → Int32} {mkept : Nat → Int32} {aside : Nat → Int32} {refused : Nat → Int32} {text : Nat → Int32} {items : Nat → Int32} {drawn : Nat → Int32} {row : Nat → Int32} {best : Nat → Int32}  {r : Int32} {d_refused : Nat → Int32} (hf : f6_full quiet refused = some (r, d_refused)) : Met l yX6_full wsX6_full rm6_full (zPm D cI cZ cB [.ref (q 0)] sz (cMod cI cZ q quiet mabove mbelow typed mat mstart mtoken mvalue many book images mkept aside refused text items drawn row best)) (zQm D (some (.int r)) (cMod cI cZ q quiet mabove mbelow typed mat mstart mtoken mvalue many book images mkept aside d_refused text items drawn row best) (va_A (cMod cI cZ q quiet mabove mbelow typed mat mstart mtoken mvalue many book images mkept aside refused text items drawn row best) sz)) 0 0 (va_A (cMod cI cZ q quiet mabove mbelow typed mat mstart mtoken mvalue many book images mkept aside refused text items drawn row best) sz) := by
  unfold f6_full at hf
  refine z_mutI RX6 (by decide +kernel) rfl rfl (Nat.le_of_ble_eq_true rfl) ?_
  intro p e s m args below meth c Q A ls hx hb hml hown hts hK hP hD hS hA hret hl
  have hl : lv_has ls 1 [(0, .ref (q 0))] := hl
  refine lv_aload_n hx hb (zD_g DX6_full 0 rfl) rfl (lv_at hl 0 rfl) ?_
  refine lv_iconst (v := (2 : Int32)) hx hb (zD_g DX6_full 1 rfl) (by decide) ?_
  refine lv_bipush (v := (-4 : Int32)) hx hb (zD_g DX6_full 2 rfl) (by decide) ?_
  obtain ⟨r1, refused_2, hc3, hf⟩ := zb2_s hf
  refine z_Vm (As := [.int (2 : Int32), .int (-4 : Int32)]) (rest := []) (ws' := (cMod cI cZ q quiet mabove mbelow typed mat mstart mtoken mvalue many book images mkept aside refused_2 text items drawn row best)) ⟨hx, hb, hml, hown, hts⟩ hK (c6_refuses (quiet := quiet) (mabove := mabove) (mbelow := mbelow) (typed := typed) (mat := mat) (mstart := mstart) (mtoken := mtoken) (mvalue := mvalue) (many := many) (book := book) (images := images) (mkept := mkept) (aside := aside) (refused := refused) (text := text) (items := items) (drawn := drawn) (row := row) (best := best) (q := q) hc3) (cwV 2 hts gX6_full_X6_refuses rfl rfl rfl hd6_refuses ⟨Nat.le_of_ble_eq_true rfl, Nat.le_of_ble_eq_true rfl⟩) hP hD hS hA 11 [0, 1, 2, 3, 4, 5, 6, 7, 8, 9, 10] [] [0, 1, 2, 3, 4, 5, 6, 7, 8, 9, 10] (by decide +kernel) rfl rfl rfl rfl rfl rfl rfl hl.1 rfl rfl (Nat.le_of_ble_eq_true rfl) (zD_g DX6_full 3 rfl) ⟨Nat.zero_le _, Nat.zero_le _⟩ (fun H locs hP hD hS => ?_)
  cases hf
  exact hret _ _ _ _ hP hD hS (zD_g DX6_full 4 rfl)
abbrev dlX6_isThing : List (Nat × Instr × Nat) := [(0, .iload_n 1, 1), (1, .i2l, 1), (2, .lconst 0, 1), (3, .aload_n 0, 1), (4, .getfield 7, 3), (7, .iconst 0, 1), (8, .iaload, 1), (9, .iconst 1, 1), (10, .isub, 1), (11, .i2l, 1), (12, .invokestatic 56, 3), (15, .ireturn, 1)]
theorem DX6_isThing : zD cX6_isThing dlX6_isThing = true := by decide +kernel
set_option maxRecDepth 20000 in
theorem ggX6_isThing_X6_in : GoodIn wsX6_isThing wsX6_in := goodIn_r _ [5] (by decide +kernel) (by decide +kernel)
set_option maxRecDepth 20000 in
theorem gX6_isThing_X6_in : GoodIn wsX6_isThing (va_wsS RX6 56 yX6_in wsX6_in) := goodIn_app (goodIn_of _ (by decide +kernel)) ggX6_isThing_X6_in
theorem hd6_isThing : yX6_isThing.cls = RX6 ∧ yX6_isThing.cls ≠ "java/lang/invoke/MethodHandle" ∧ yX6_isThing.cls ≠ "java/lang/invoke/VarHandle" ∧ (parseMethodDescriptor yX6_isThing.desc).map (fun d => d.parameters.length) = some 1 := by decide +kernel
abbrev rm6_isThing : Room := { frames := 1, cells := 0, slots := 0, locals := 25 }
theorem in6_isThing_6 : ∀ w ∈ wsX60, w ∈ wsX6_isThing := fun w h => List.mem_cons_of_mem _ (List.mem_append_right _ h)
set_option maxHeartbeats 4000000 in
set_option maxRecDepth 100000 in
theorem c6_isThing {l : Launch} {D : va_G} {cI cZ cB : ClassId} {q : Nat → Nat} {quiet : Int32} {mabove : Int64} {mbelow : Int64} {typed : Int32} {mat : Int32} {mstart : Int32} {mtoken : Int32} {mvalue : Int32} {many : Int32} {book : Nat → Int32} {images : Nat → Int32} {mkept : Nat → Int32} {aside : Nat → Int32} {refused : Nat → Int32} {text : Nat → Int32} {items : Nat → Int32} {drawn : Nat → Int32} {row : Nat → Int32} {best : Nat → Int32} {a_t : Int32} {r : Int32}  (hf : f6_isThing book a_t = some r) : Met l yX6_isThing wsX6_isThing rm6_isThing (zPp D cI cZ cB [.ref (q 0), .int a_t] (cMod cI cZ q quiet mabove mbelow typed mat mstart mtoken mvalue many book images mkept aside refused text items drawn row best)) (zQp (some (.int r))) 0 0 (fun _ => False) := by
  unfold f6_isThing at hf
  refine z_pureZ RX6 (by decide +kernel) rfl rfl (Nat.le_of_ble_eq_true rfl) ?_
  intro p e s m args below meth c Q ls hx hb hml hown hts hK hP hret hl
  have hl : lv_has ls 2 [(0, .ref (q 0)), (1, .int a_t)] := hl
  refine lv_iload_n hx hb (zD_g DX6_isThing 0 rfl) rfl (lv_at hl 1 rfl) ?_
  refine lv_i2l (v := (a_t).toInt64) hx hb (zD_g DX6_isThing 1 rfl) rfl ?_
  refine lv_lconst (v := (0 : Int64)) hx hb (zD_g DX6_isThing 2 rfl) (by decide) ?_
  refine lv_aload_n hx hb (zD_g DX6_isThing 3 rfl) rfl (lv_at hl 0 rfl) ?_
  refine va_get (D := D) (ci := 5) (v := .ref (q 1)) (C := RX6) (T := TX6) (N := 19) hx hb hts in6_isThing_6 hown hK.1 hP 0 rfl rfl 0 (by decide) (hts _ (List.mem_of_getElem? (i := 1) rfl)) (fun _ h9 => h9) rfl (zD_g DX6_isThing 4 rfl) ?_
  refine lv_iconst (v := (0 : Int32)) hx hb (zD_g DX6_isThing 5 rfl) (by decide) ?_
  refine z_iald (k := 0) hx hb hK.1 hP 1 0 rfl rfl (by unfold vp_in; decide) rfl (zD_g DX6_isThing 6 rfl) ?_
  refine lv_iconst (v := (1 : Int32)) hx hb (zD_g DX6_isThing 7 rfl) (by decide) ?_
  refine lv_isub hx hb (zD_g DX6_isThing 8 rfl) ?_
  refine lv_i2l (v := (((book 0) - (1 : Int32))).toInt64) hx hb (zD_g DX6_isThing 9 rfl) rfl ?_
  obtain ⟨r1, hc2, hf⟩ := zb1_s hf
  refine z_Sp (As := [.long ((a_t).toInt64), .long (0 : Int64), .long ((((book 0) - (1 : Int32))).toInt64)]) (rest := []) ⟨hx, hb, hml, hown, hts⟩ hK (c6_in  hc2) (va_cwS 3 hts gX6_isThing_X6_in rfl rfl rfl hd6_in ⟨Nat.le_of_ble_eq_true rfl, Nat.le_of_ble_eq_true rfl⟩) (hP.sub [] rfl) rfl hl.1 rfl rfl (Nat.le_of_ble_eq_true rfl) (zD_g DX6_isThing 10 rfl) ⟨Nat.zero_le _, Nat.zero_le _⟩ ?_
  obtain ⟨hz3, hf⟩ := zgb_s hf
  cases hf
  exact hret _ _ hz3 (zD_g DX6_isThing 11 rfl)
abbrev dlX6_isGift : List (Nat × Instr × Nat) := [(0, .iload_n 1, 1), (1, .i2l, 1), (2, .lconst 0, 1), (3, .aload_n 0, 1), (4, .getfield 7, 3), (7, .iconst 1, 1), (8, .iaload, 1), (9, .iconst 1, 1), (10, .isub, 1), (11, .i2l, 1), (12, .invokestatic 56, 3), (15, .ireturn, 1)]
theorem DX6_isGift : zD cX6_isGift dlX6_isGift = true := by decide +kernel
set_option maxRecDepth 20000 in
theorem ggX6_isGift_X6_in : GoodIn wsX6_isGift wsX6_in := goodIn_r _ [5] (by decide +kernel) (by decide +kernel)
set_option maxRecDepth 20000 in
theorem gX6_isGift_X6_in : GoodIn wsX6_isGift (va_wsS RX6 56 yX6_in wsX6_in) := goodIn_app (goodIn_of _ (by decide +kernel)) ggX6_isGift_X6_in
theorem hd6_isGift : yX6_isGift.cls = RX6 ∧ yX6_isGift.cls ≠ "java/lang/invoke/MethodHandle" ∧ yX6_isGift.cls ≠ "java/lang/invoke/VarHandle" ∧ (parseMethodDescriptor yX6_isGift.desc).map (fun d => d.parameters.length) = some 1 := by decide +kernel
abbrev rm6_isGift : Room := { frames := 1, cells := 0, slots := 0, locals := 25 }
theorem in6_isGift_6 : ∀ w ∈ wsX60, w ∈ wsX6_isGift := fun w h => List.mem_cons_of_mem _ (List.mem_append_right _ h)
set_option maxHeartbeats 4000000 in
set_option maxRecDepth 100000 in
theorem c6_isGift {l : Launch} {D : va_G} {cI cZ cB : ClassId} {q : Nat → Nat} {quiet : Int32} {mabove : Int64} {mbelow : Int64} {typed : Int32} {mat : Int32} {mstart : Int32} {mtoken : Int32} {mvalue : Int32} {many : Int32} {book : Nat → Int32} {images : Nat → Int32} {mkept : Nat → Int32} {aside : Nat → Int32} {refused : Nat → Int32} {text : Nat → Int32} {items : Nat → Int32} {drawn : Nat → Int32} {row : Nat → Int32} {best : Nat → Int32} {a_g : Int32} {r : Int32}  (hf : f6_isGift book a_g = some r) : Met l yX6_isGift wsX6_isGift rm6_isGift (zPp D cI cZ cB [.ref (q 0), .int a_g] (cMod cI cZ q quiet mabove mbelow typed mat mstart mtoken mvalue many book images mkept aside refused text items drawn row best)) (zQp (some (.int r))) 0 0 (fun _ => False) := by
  unfold f6_isGift at hf
  refine z_pureZ RX6 (by decide +kernel) rfl rfl (Nat.le_of_ble_eq_true rfl) ?_
  intro p e s m args below meth c Q ls hx hb hml hown hts hK hP hret hl
  have hl : lv_has ls 2 [(0, .ref (q 0)), (1, .int a_g)] := hl
  refine lv_iload_n hx hb (zD_g DX6_isGift 0 rfl) rfl (lv_at hl 1 rfl) ?_
  refine lv_i2l (v := (a_g).toInt64) hx hb (zD_g DX6_isGift 1 rfl) rfl ?_
  refine lv_lconst (v := (0 : Int64)) hx hb (zD_g DX6_isGift 2 rfl) (by decide) ?_
  refine lv_aload_n hx hb (zD_g DX6_isGift 3 rfl) rfl (lv_at hl 0 rfl) ?_
  refine va_get (D := D) (ci := 5) (v := .ref (q 1)) (C := RX6) (T := TX6) (N := 19) hx hb hts in6_isGift_6 hown hK.1 hP 0 rfl rfl 0 (by decide) (hts _ (List.mem_of_getElem? (i := 1) rfl)) (fun _ h9 => h9) rfl (zD_g DX6_isGift 4 rfl) ?_
  refine lv_iconst (v := (1 : Int32)) hx hb (zD_g DX6_isGift 5 rfl) (by decide) ?_
  refine z_iald (k := 1) hx hb hK.1 hP 1 0 rfl rfl (by unfold vp_in; decide) rfl (zD_g DX6_isGift 6 rfl) ?_
  refine lv_iconst (v := (1 : Int32)) hx hb (zD_g DX6_isGift 7 rfl) (by decide) ?_
  refine lv_isub hx hb (zD_g DX6_isGift 8 rfl) ?_
  refine lv_i2l (v := (((book 1) - (1 : Int32))).toInt64) hx hb (zD_g DX6_isGift 9 rfl) rfl ?_
  obtain ⟨r1, hc2, hf⟩ := zb1_s hf
  refine z_Sp (As := [.long ((a_g).toInt64), .long (0 : Int64), .long ((((book 1) - (1 : Int32))).toInt64)]) (rest := []) ⟨hx, hb, hml, hown, hts⟩ hK (c6_in  hc2) (va_cwS 3 hts gX6_isGift_X6_in rfl rfl rfl hd6_in ⟨Nat.le_of_ble_eq_true rfl, Nat.le_of_ble_eq_true rfl⟩) (hP.sub [] rfl) rfl hl.1 rfl rfl (Nat.le_of_ble_eq_true rfl) (zD_g DX6_isGift 10 rfl) ⟨Nat.zero_le _, Nat.zero_le _⟩ ?_
  obtain ⟨hz3, hf⟩ := zgb_s hf
  cases hf
  exact hret _ _ hz3 (zD_g DX6_isGift 11 rfl)
abbrev dlX6_isCity : List (Nat × Instr × Nat) := [(0, .iload_n 0, 1), (1, .i2l, 1), (2, .lconst 0, 1), (3, .lconst 1, 1), (4, .invokestatic 56, 3), (7, .ireturn, 1)]
theorem DX6_isCity : zD cX6_isCity dlX6_isCity = true := by decide +kernel
set_option maxRecDepth 20000 in
theorem ggX6_isCity_X6_in : GoodIn wsX6_isCity wsX6_in := goodIn_r _ [4] (by decide +kernel) (by decide +kernel)
set_option maxRecDepth 20000 in
theorem gX6_isCity_X6_in : GoodIn wsX6_isCity (va_wsS RX6 56 yX6_in wsX6_in) := goodIn_app (goodIn_of _ (by decide +kernel)) ggX6_isCity_X6_in
theorem hd6_isCity : yX6_isCity.cls ≠ "java/lang/invoke/MethodHandle" ∧ yX6_isCity.cls ≠ "java/lang/invoke/VarHandle" ∧ (parseMethodDescriptor yX6_isCity.desc).map (fun d => d.parameters.length) = some 1 := by decide +kernel
abbrev rm6_isCity : Room := { frames := 1, cells := 0, slots := 0, locals := 25 }
set_option maxHeartbeats 4000000 in
set_option maxRecDepth 100000 in
theorem c6_isCity {l : Launch} {D : va_G} {cI cZ cB : ClassId}   {a_c : Int32} {r : Int32}  (hf : f6_isCity a_c = some r) : Met l yX6_isCity wsX6_isCity rm6_isCity (zPp D cI cZ cB [.int a_c] ([] : va_W)) (zQp (some (.int r))) 0 0 (fun _ => False) := by
  unfold f6_isCity at hf
  refine z_pureZ RX6 (by decide +kernel) rfl rfl (Nat.le_of_ble_eq_true rfl) ?_
  intro p e s m args below meth c Q ls hx hb hml hown hts hK hP hret hl
  have hl : lv_has ls 1 [(0, .int a_c)] := hl
  refine lv_iload_n hx hb (zD_g DX6_isCity 0 rfl) rfl (lv_at hl 0 rfl) ?_
  refine lv_i2l (v := (a_c).toInt64) hx hb (zD_g DX6_isCity 1 rfl) rfl ?_
  refine lv_lconst (v := (0 : Int64)) hx hb (zD_g DX6_isCity 2 rfl) (by decide) ?_
  refine lv_lconst (v := (1 : Int64)) hx hb (zD_g DX6_isCity 3 rfl) (by decide) ?_
  obtain ⟨r1, hc2, hf⟩ := zb1_s hf
  refine z_Sp (As := [.long ((a_c).toInt64), .long (0 : Int64), .long (1 : Int64)]) (rest := []) ⟨hx, hb, hml, hown, hts⟩ hK (c6_in  hc2) (va_cwS 3 hts gX6_isCity_X6_in rfl rfl rfl hd6_in ⟨Nat.le_of_ble_eq_true rfl, Nat.le_of_ble_eq_true rfl⟩) hP rfl hl.1 rfl rfl (Nat.le_of_ble_eq_true rfl) (zD_g DX6_isCity 4 rfl) ⟨Nat.zero_le _, Nat.zero_le _⟩ ?_
  obtain ⟨hz3, hf⟩ := zgb_s hf
  cases hf
  exact hret _ _ hz3 (zD_g DX6_isCity 5 rfl)
abbrev dlX6_isHour : List (Nat × Instr × Nat) := [(0, .iload_n 0, 1), (1, .i2l, 1), (2, .lconst 0, 1), (3, .ldc2_w 60, 3), (6, .invokestatic 56, 3), (9, .ireturn, 1)]
theorem DX6_isHour : zD cX6_isHour dlX6_isHour = true := by decide +kernel
set_option maxRecDepth 20000 in
theorem ggX6_isHour_X6_in : GoodIn wsX6_isHour wsX6_in := goodIn_r _ [5] (by decide +kernel) (by decide +kernel)
set_option maxRecDepth 20000 in
theorem gX6_isHour_X6_in : GoodIn wsX6_isHour (va_wsS RX6 56 yX6_in wsX6_in) := goodIn_app (goodIn_of _ (by decide +kernel)) ggX6_isHour_X6_in
theorem hd6_isHour : yX6_isHour.cls ≠ "java/lang/invoke/MethodHandle" ∧ yX6_isHour.cls ≠ "java/lang/invoke/VarHandle" ∧ (parseMethodDescriptor yX6_isHour.desc).map (fun d => d.parameters.length) = some 1 := by decide +kernel
abbrev rm6_isHour : Room := { frames := 1, cells := 0, slots := 0, locals := 25 }
set_option maxHeartbeats 4000000 in
set_option maxRecDepth 100000 in
theorem c6_isHour {l : Launch} {D : va_G} {cI cZ cB : ClassId}   {a_h : Int32} {r : Int32}  (hf : f6_isHour a_h = some r) : Met l yX6_isHour wsX6_isHour rm6_isHour (zPp D cI cZ cB [.int a_h] ([] : va_W)) (zQp (some (.int r))) 0 0 (fun _ => False) := by
  unfold f6_isHour at hf
  refine z_pureZ RX6 (by decide +kernel) rfl rfl (Nat.le_of_ble_eq_true rfl) ?_
  intro p e s m args below meth c Q ls hx hb hml hown hts hK hP hret hl
  have hl : lv_has ls 1 [(0, .int a_h)] := hl
  refine lv_iload_n hx hb (zD_g DX6_isHour 0 rfl) rfl (lv_at hl 0 rfl) ?_
  refine lv_i2l (v := (a_h).toInt64) hx hb (zD_g DX6_isHour 1 rfl) rfl ?_
  refine lv_lconst (v := (0 : Int64)) hx hb (zD_g DX6_isHour 2 rfl) (by decide) ?_
  refine lv_ldc2 (v := (5 : Int64)) hx hb hown (hts _ (List.mem_of_getElem? (i := 1) rfl)) (zD_g DX6_isHour 3 rfl) ?_
  obtain ⟨r1, hc2, hf⟩ := zb1_s hf
  refine z_Sp (As := [.long ((a_h).toInt64), .long (0 : Int64), .long (5 : Int64)]) (rest := []) ⟨hx, hb, hml, hown, hts⟩ hK (c6_in  hc2) (va_cwS 3 hts gX6_isHour_X6_in rfl rfl rfl hd6_in ⟨Nat.le_of_ble_eq_true rfl, Nat.le_of_ble_eq_true rfl⟩) hP rfl hl.1 rfl rfl (Nat.le_of_ble_eq_true rfl) (zD_g DX6_isHour 4 rfl) ⟨Nat.zero_le _, Nat.zero_le _⟩ ?_
  obtain ⟨hz3, hf⟩ := zgb_s hf
  cases hf
  exact hret _ _ hz3 (zD_g DX6_isHour 5 rfl)
abbrev dlX6_puts : List (Nat × Instr × Nat) := [(0, .aload_n 0, 1), (1, .getfield 7, 3), (4, .iload_n 1, 1), (5, .iaload, 1), (6, .istore_n 3, 1), (7, .aload_n 0, 1), (8, .getfield 7, 3), (11, .iload_n 1, 1), (12, .iload_n 2, 1), (13, .iastore, 1), (14, .iload_n 3, 1), (15, .ireturn, 1)]
theorem DX6_puts : zD cX6_puts dlX6_puts = true := by decide +kernel
theorem hd6_puts : yX6_puts.cls = RX6 ∧ yX6_puts.cls ≠ "java/lang/invoke/MethodHandle" ∧ yX6_puts.cls ≠ "java/lang/invoke/VarHandle" ∧ (parseMethodDescriptor yX6_puts.desc).map (fun d => d.parameters.length) = some 2 := by decide +kernel
abbrev rm6_puts : Room := { frames := 0, cells := 0, slots := 0, locals := 0 }
theorem in6_puts_6 : ∀ w ∈ wsX60, w ∈ wsX6_puts := fun w h => List.mem_cons_of_mem _ (List.mem_append_right _ h)
set_option maxHeartbeats 4000000 in
set_option maxRecDepth 100000 in
theorem c6_puts {l : Launch} {D : va_G} {cI cZ cB : ClassId} {q : Nat → Nat} {sz : Nat} {quiet : Int32} {mabove : Int64} {mbelow : Int64} {typed : Int32} {mat : Int32} {mstart : Int32} {mtoken : Int32} {mvalue : Int32} {many : Int32} {book : Nat → Int32} {images : Nat → Int32} {mkept : Nat → Int32} {aside : Nat → Int32} {refused : Nat → Int32} {text : Nat → Int32} {items : Nat → Int32} {drawn : Nat → Int32} {row : Nat → Int32} {best : Nat → Int32} {a_at0 : Int32} {a_v : Int32} {r : Int32} {d_book : Nat → Int32} (hf : f6_puts book a_at0 a_v = some (r, d_book)) : Met l yX6_puts wsX6_puts rm6_puts (zPm D cI cZ cB [.ref (q 0), .int a_at0, .int a_v] sz (cMod cI cZ q quiet mabove mbelow typed mat mstart mtoken mvalue many book images mkept aside refused text items drawn row best)) (zQm D (some (.int r)) (cMod cI cZ q quiet mabove mbelow typed mat mstart mtoken mvalue many d_book images mkept aside refused text items drawn row best) (va_A (cMod cI cZ q quiet mabove mbelow typed mat mstart mtoken mvalue many book images mkept aside refused text items drawn row best) sz)) 0 0 (va_A (cMod cI cZ q quiet mabove mbelow typed mat mstart mtoken mvalue many book images mkept aside refused text items drawn row best) sz) := by
  unfold f6_puts at hf
  refine z_mutI RX6 (by decide +kernel) rfl rfl (Nat.le_of_ble_eq_true rfl) ?_
  intro p e s m args below meth c Q A ls hx hb hml hown hts hK hP hD hS hA hret hl
  have hl : lv_has ls 4 [(0, .ref (q 0)), (1, .int a_at0), (2, .int a_v)] := hl
  refine lv_aload_n hx hb (zD_g DX6_puts 0 rfl) rfl (lv_at hl 0 rfl) ?_
  refine va_get (D := D) (ci := 5) (v := .ref (q 1)) (C := RX6) (T := TX6) (N := 19) hx hb hts in6_puts_6 hown hK.1 hP 0 rfl rfl 0 (by decide) (hts _ (List.mem_of_getElem? (i := 1) rfl)) (fun _ h9 => h9) rfl (zD_g DX6_puts 1 rfl) ?_
  refine lv_iload_n hx hb (zD_g DX6_puts 2 rfl) rfl (lv_at hl 1 rfl) ?_
  obtain ⟨h1, hf⟩ := zg_s hf
  refine z_iald (k := a_at0.toNatClampNeg) hx hb hK.1 hP 1 0 rfl rfl h1 rfl (zD_g DX6_puts 3 rfl) ?_
  refine lv_topi (fun x2 ex2 => ?_)
  replace hf := zl_s hf x2 ex2
  refine lv_istore_n (lv' := [(3, .int x2), (0, .ref (q 0)), (1, .int a_at0), (2, .int a_v)]) hx hb (zD_g DX6_puts 4 rfl) rfl hl (by decide) rfl (fun ls hl => ?_)
  refine lv_aload_n hx hb (zD_g DX6_puts 5 rfl) rfl (lv_at hl 1 rfl) ?_
  refine va_get (D := D) (ci := 5) (v := .ref (q 1)) (C := RX6) (T := TX6) (N := 19) hx hb hts in6_puts_6 hown hK.1 hP 0 rfl rfl 0 (by decide) (hts _ (List.mem_of_getElem? (i := 1) rfl)) (fun _ h9 => h9) rfl (zD_g DX6_puts 6 rfl) ?_
  refine lv_iload_n hx hb (zD_g DX6_puts 7 rfl) rfl (lv_at hl 2 rfl) ?_
  refine lv_iload_n hx hb (zD_g DX6_puts 8 rfl) rfl (lv_at hl 3 rfl) ?_
  obtain ⟨h3, hf⟩ := zg_s hf
  refine z_iast (k := a_at0.toNatClampNeg) (ws' := (cMod cI cZ q quiet mabove mbelow typed mat mstart mtoken mvalue many (upd book a_at0.toNatClampNeg a_v) images mkept aside refused text items drawn row best)) hx hb hK.1 hP hD hS 1 0 rfl rfl h3 rfl rfl (zD_g DX6_puts 9 rfl) (fun H locs hP hD hS => ?_)
  refine lv_iload_n hx hb (zD_g DX6_puts 10 rfl) rfl (lv_at hl 0 rfl) ?_
  cases hf
  exact hret _ _ _ _ hP hD hS (zD_g DX6_puts 11 rfl)
abbrev dlX6_thing : List (Nat × Instr × Nat) := [(0, .iload_n 1, 1), (1, .i2l, 1), (2, .lconst 1, 1), (3, .ldc2_w 62, 3), (6, .invokestatic 56, 3), (9, .ifCond .eq 40, 3), (12, .iload_n 2, 1), (13, .i2l, 1), (14, .lconst 0, 1), (15, .ldc2_w 64, 3), (18, .invokestatic 56, 3), (21, .ifCond .eq 28, 3), (24, .iload_n 3, 1), (25, .i2l, 1), (26, .lconst 0, 1), (27, .ldc2_w 64, 3), (30, .invokestatic 56, 3), (33, .ifCond .eq 16, 3), (36, .iload 4, 2), (38, .i2l, 1), (39, .lconst 0, 1), (40, .ldc2_w 64, 3), (43, .invokestatic 56, 3), (46, .ifCond .ne 8, 3), (49, .aload_n 0, 1), (50, .invokevirtual 66, 3), (53, .ireturn, 1), (54, .aload_n 0, 1), (55, .getfield 7, 3), (58, .iconst 0, 1), (59, .iaload, 1), (60, .bipush 8, 2), (62, .if_icmp .ne 8, 3), (65, .aload_n 0, 1), (66, .invokevirtual 70, 3), (69, .ireturn, 1), (70, .aload_n 0, 1), (71, .getfield 7, 3), (74, .iconst 0, 1), (75, .iaload, 1), (76, .istore 5, 2), (78, .aload_n 0, 1), (79, .getfield 7, 3), (82, .iconst 4, 1), (83, .iconst 4, 1), (84, .iload 5, 2), (86, .imul, 1), (87, .iadd, 1), (88, .iload_n 1, 1), (89, .iastore, 1), (90, .aload_n 0, 1), (91, .getfield 7, 3), (94, .iconst 4, 1), (95, .iconst 4, 1), (96, .iload 5, 2), (98, .imul, 1), (99, .iadd, 1), (100, .iconst 1, 1), (101, .iadd, 1), (102, .iload_n 2, 1), (103, .iastore, 1), (104, .aload_n 0, 1), (105, .getfield 7, 3), (108, .iconst 4, 1), (109, .iconst 4, 1), (110, .iload 5, 2), (112, .imul, 1), (113, .iadd, 1), (114, .iconst 2, 1), (115, .iadd, 1), (116, .iload_n 3, 1), (117, .iastore, 1), (118, .aload_n 0, 1), (119, .getfield 7, 3), (122, .iconst 4, 1), (123, .iconst 4, 1), (124, .iload 5, 2), (126, .imul, 1), (127, .iadd, 1), (128, .iconst 3, 1), (129, .iadd, 1), (130, .iload 4, 2), (132, .iastore, 1), (133, .aload_n 0, 1), (134, .getfield 7, 3), (137, .bipush 36, 2), (139, .iload 5, 2), (141, .iadd, 1), (142, .iconst (-1), 1), (143, .iastore, 1), (144, .aload_n 0, 1), (145, .getfield 7, 3), (148, .iconst 0, 1), (149, .dup2, 1), (150, .iaload, 1), (151, .iconst 1, 1), (152, .iadd, 1), (153, .iastore, 1), (154, .aload_n 0, 1), (155, .getfield 7, 3), (158, .iconst 3, 1), (159, .iconst 0, 1), (160, .iastore, 1), (161, .iload 5, 2), (163, .ireturn, 1)]
theorem DX6_thing : zD cX6_thing dlX6_thing = true := by decide +kernel
set_option maxRecDepth 20000 in
theorem ggX6_thing_X6_in : GoodIn wsX6_thing wsX6_in := goodIn_r _ [7] (by decide +kernel) (by decide +kernel)
set_option maxRecDepth 20000 in
theorem gX6_thing_X6_in : GoodIn wsX6_thing (va_wsS RX6 56 yX6_in wsX6_in) := goodIn_app (goodIn_of _ (by decide +kernel)) ggX6_thing_X6_in
set_option maxRecDepth 20000 in
theorem ggX6_thing_X6_bad : GoodIn wsX6_thing wsX6_bad := goodIn_r _ [11, 12, 13, 14, 6, 15, 16, 17, 22, 23, 24, 25, 26, 27, 28, 29, 30, 31, 32, 33, 34, 35, 36, 37, 38, 39, 40] (by decide +kernel) (by decide +kernel)
set_option maxRecDepth 20000 in
theorem gX6_thing_X6_bad : GoodIn wsX6_thing (wsV RX6 66 RX6 yX6_bad wsX6_bad) := goodIn_app (goodIn_of _ (by decide +kernel)) ggX6_thing_X6_bad
set_option maxRecDepth 20000 in
theorem ggX6_thing_X6_full : GoodIn wsX6_thing wsX6_full := goodIn_r _ [21, 12, 13, 14, 6, 15, 16, 17, 22, 23, 24, 25, 26, 27, 28, 29, 30, 31, 32, 33, 34, 35, 36, 37, 38, 39, 40] (by decide +kernel) (by decide +kernel)
set_option maxRecDepth 20000 in
theorem gX6_thing_X6_full : GoodIn wsX6_thing (wsV RX6 70 RX6 yX6_full wsX6_full) := goodIn_app (goodIn_of _ (by decide +kernel)) ggX6_thing_X6_full
theorem hd6_thing : yX6_thing.cls = RX6 ∧ yX6_thing.cls ≠ "java/lang/invoke/MethodHandle" ∧ yX6_thing.cls ≠ "java/lang/invoke/VarHandle" ∧ (parseMethodDescriptor yX6_thing.desc).map (fun d => d.parameters.length) = some 4 := by decide +kernel
abbrev rm6_thing : Room := { frames := 2, cells := 0, slots := 0, locals := 42 }
theorem in6_thing_6 : ∀ w ∈ wsX60, w ∈ wsX6_thing := fun w h => List.mem_cons_of_mem _ (List.mem_append_right _ h)
set_option maxHeartbeats 4000000 in
set_option maxRecDepth 100000 in
theorem c6_thing {l : Launch} {D : va_G} {cI cZ cB : ClassId} {q : Nat → Nat} {sz : Nat} {quiet : Int32} {mabove : Int64} {mbelow : Int64} {typed : Int32} {mat : Int32} {mstart : Int32} {mtoken : Int32} {mvalue : Int32} {many : Int32} {book : Nat → Int32} {images : Nat → Int32} {mkept : Nat → Int32} {aside : Nat → Int32} {refused : Nat → Int32} {text : Nat → Int32} {items : Nat → Int32} {drawn : Nat → Int32} {row : Nat → Int32} {best : Nat → Int32} {a_size : Int32} {a_weight : Int32} {a_sound : Int32} {a_harm : Int32} {r : Int32} {d_book : Nat → Int32} {d_refused : Nat → Int32} (hf : f6_thing quiet book refused a_size a_weight a_sound a_harm = some (r, d_book, d_refused)) : Met l yX6_thing wsX6_thing rm6_thing (zPm D cI cZ cB [.ref (q 0), .int a_size, .int a_weight, .int a_sound, .int a_harm] sz (cMod cI cZ q quiet mabove mbelow typed mat mstart mtoken mvalue many book images mkept aside refused text items drawn row best)) (zQm D (some (.int r)) (cMod cI cZ q quiet mabove mbelow typed mat mstart mtoken mvalue many d_book images mkept aside d_refused text items drawn row best) (va_A (cMod cI cZ q quiet mabove mbelow typed mat mstart mtoken mvalue many book images mkept aside refused text items drawn row best) sz)) 0 0 (va_A (cMod cI cZ q quiet mabove mbelow typed mat mstart mtoken mvalue many book images mkept aside refused text items drawn row best) sz) := by
  unfold f6_thing at hf
  refine z_mutI RX6 (by decide +kernel) rfl rfl (Nat.le_of_ble_eq_true rfl) ?_
  intro p e s m args below meth c Q A ls hx hb hml hown hts hK hP hD hS hA hret hl
  have hl : lv_has ls 6 [(0, .ref (q 0)), (1, .int a_size), (2, .int a_weight), (3, .int a_sound), (4, .int a_harm)] := hl
  refine lv_iload_n hx hb (zD_g DX6_thing 0 rfl) rfl (lv_at hl 1 rfl) ?_
  refine lv_i2l (v := (a_size).toInt64) hx hb (zD_g DX6_thing 1 rfl) rfl ?_
  refine lv_lconst (v := (1 : Int64)) hx hb (zD_g DX6_thing 2 rfl) (by decide) ?_
  refine lv_ldc2 (v := (9 : Int64)) hx hb hown (hts _ (List.mem_of_getElem? (i := 1) rfl)) (zD_g DX6_thing 3 rfl) ?_
  obtain ⟨r1, hc2, hf⟩ := zb1_s hf
  refine z_Sp (As := [.long ((a_size).toInt64), .long (1 : Int64), .long (9 : Int64)]) (rest := []) ⟨hx, hb, hml, hown, hts⟩ hK (c6_in  hc2) (va_cwS 3 hts gX6_thing_X6_in rfl rfl rfl hd6_in ⟨Nat.le_of_ble_eq_true rfl, Nat.le_of_ble_eq_true rfl⟩) (hP.sub [] rfl) rfl hl.1 rfl rfl (Nat.le_of_ble_eq_true rfl) (zD_g DX6_thing 4 rfl) ⟨Nat.zero_le _, Nat.zero_le _⟩ ?_
  refine lv_if_eq (tgt := 49) hx hb (zD_g DX6_thing 5 rfl) (by decide) (fun c3 => ?_) (fun c3 => ?_)
  · replace hf := z_t c3 hf
    refine lv_aload_n hx hb (zD_g DX6_thing 24 rfl) rfl (lv_at hl 0 rfl) ?_
    obtain ⟨r4, refused_5, hc6, hf⟩ := zb2_s hf
    refine z_Vm (As := []) (rest := []) (ws' := (cMod cI cZ q quiet mabove mbelow typed mat mstart mtoken mvalue many book images mkept aside refused_5 text items drawn row best)) ⟨hx, hb, hml, hown, hts⟩ hK (c6_bad (quiet := quiet) (mabove := mabove) (mbelow := mbelow) (typed := typed) (mat := mat) (mstart := mstart) (mtoken := mtoken) (mvalue := mvalue) (many := many) (book := book) (images := images) (mkept := mkept) (aside := aside) (refused := refused) (text := text) (items := items) (drawn := drawn) (row := row) (best := best) (q := q) hc6) (cwV 0 hts gX6_thing_X6_bad rfl rfl rfl hd6_bad ⟨Nat.le_of_ble_eq_true rfl, Nat.le_of_ble_eq_true rfl⟩) hP hD hS hA 11 [0, 1, 2, 3, 4, 5, 6, 7, 8, 9, 10] [] [0, 1, 2, 3, 4, 5, 6, 7, 8, 9, 10] (by decide +kernel) rfl rfl rfl rfl rfl rfl rfl hl.1 rfl rfl (Nat.le_of_ble_eq_true rfl) (zD_g DX6_thing 25 rfl) ⟨Nat.zero_le _, Nat.zero_le _⟩ (fun H locs hP hD hS => ?_)
    cases hf
    exact hret _ _ _ _ hP hD hS (zD_g DX6_thing 26 rfl)
  · replace hf := z_f c3 hf
    refine lv_iload_n hx hb (zD_g DX6_thing 6 rfl) rfl (lv_at hl 2 rfl) ?_
    refine lv_i2l (v := (a_weight).toInt64) hx hb (zD_g DX6_thing 7 rfl) rfl ?_
    refine lv_lconst (v := (0 : Int64)) hx hb (zD_g DX6_thing 8 rfl) (by decide) ?_
    refine lv_ldc2 (v := (20 : Int64)) hx hb hown (hts _ (List.mem_of_getElem? (i := 2) rfl)) (zD_g DX6_thing 9 rfl) ?_
    obtain ⟨r7, hc8, hf⟩ := zb1_s hf
    refine z_Sp (As := [.long ((a_weight).toInt64), .long (0 : Int64), .long (20 : Int64)]) (rest := []) ⟨hx, hb, hml, hown, hts⟩ hK (c6_in  hc8) (va_cwS 3 hts gX6_thing_X6_in rfl rfl rfl hd6_in ⟨Nat.le_of_ble_eq_true rfl, Nat.le_of_ble_eq_true rfl⟩) (hP.sub [] rfl) rfl hl.1 rfl rfl (Nat.le_of_ble_eq_true rfl) (zD_g DX6_thing 10 rfl) ⟨Nat.zero_le _, Nat.zero_le _⟩ ?_
    refine lv_if_eq (tgt := 49) hx hb (zD_g DX6_thing 11 rfl) (by decide) (fun c9 => ?_) (fun c9 => ?_)
    · replace hf := z_t c9 hf
      refine lv_aload_n hx hb (zD_g DX6_thing 24 rfl) rfl (lv_at hl 0 rfl) ?_
      obtain ⟨r10, refused_11, hc12, hf⟩ := zb2_s hf
      refine z_Vm (As := []) (rest := []) (ws' := (cMod cI cZ q quiet mabove mbelow typed mat mstart mtoken mvalue many book images mkept aside refused_11 text items drawn row best)) ⟨hx, hb, hml, hown, hts⟩ hK (c6_bad (quiet := quiet) (mabove := mabove) (mbelow := mbelow) (typed := typed) (mat := mat) (mstart := mstart) (mtoken := mtoken) (mvalue := mvalue) (many := many) (book := book) (images := images) (mkept := mkept) (aside := aside) (refused := refused) (text := text) (items := items) (drawn := drawn) (row := row) (best := best) (q := q) hc12) (cwV 0 hts gX6_thing_X6_bad rfl rfl rfl hd6_bad ⟨Nat.le_of_ble_eq_true rfl, Nat.le_of_ble_eq_true rfl⟩) hP hD hS hA 11 [0, 1, 2, 3, 4, 5, 6, 7, 8, 9, 10] [] [0, 1, 2, 3, 4, 5, 6, 7, 8, 9, 10] (by decide +kernel) rfl rfl rfl rfl rfl rfl rfl hl.1 rfl rfl (Nat.le_of_ble_eq_true rfl) (zD_g DX6_thing 25 rfl) ⟨Nat.zero_le _, Nat.zero_le _⟩ (fun H locs hP hD hS => ?_)
      cases hf
      exact hret _ _ _ _ hP hD hS (zD_g DX6_thing 26 rfl)
    · replace hf := z_f c9 hf
      refine lv_iload_n hx hb (zD_g DX6_thing 12 rfl) rfl (lv_at hl 3 rfl) ?_
      refine lv_i2l (v := (a_sound).toInt64) hx hb (zD_g DX6_thing 13 rfl) rfl ?_
      refine lv_lconst (v := (0 : Int64)) hx hb (zD_g DX6_thing 14 rfl) (by decide) ?_
      refine lv_ldc2 (v := (20 : Int64)) hx hb hown (hts _ (List.mem_of_getElem? (i := 2) rfl)) (zD_g DX6_thing 15 rfl) ?_
      obtain ⟨r13, hc14, hf⟩ := zb1_s hf
      refine z_Sp (As := [.long ((a_sound).toInt64), .long (0 : Int64), .long (20 : Int64)]) (rest := []) ⟨hx, hb, hml, hown, hts⟩ hK (c6_in  hc14) (va_cwS 3 hts gX6_thing_X6_in rfl rfl rfl hd6_in ⟨Nat.le_of_ble_eq_true rfl, Nat.le_of_ble_eq_true rfl⟩) (hP.sub [] rfl) rfl hl.1 rfl rfl (Nat.le_of_ble_eq_true rfl) (zD_g DX6_thing 16 rfl) ⟨Nat.zero_le _, Nat.zero_le _⟩ ?_
      refine lv_if_eq (tgt := 49) hx hb (zD_g DX6_thing 17 rfl) (by decide) (fun c15 => ?_) (fun c15 => ?_)
      · replace hf := z_t c15 hf
        refine lv_aload_n hx hb (zD_g DX6_thing 24 rfl) rfl (lv_at hl 0 rfl) ?_
        obtain ⟨r16, refused_17, hc18, hf⟩ := zb2_s hf
        refine z_Vm (As := []) (rest := []) (ws' := (cMod cI cZ q quiet mabove mbelow typed mat mstart mtoken mvalue many book images mkept aside refused_17 text items drawn row best)) ⟨hx, hb, hml, hown, hts⟩ hK (c6_bad (quiet := quiet) (mabove := mabove) (mbelow := mbelow) (typed := typed) (mat := mat) (mstart := mstart) (mtoken := mtoken) (mvalue := mvalue) (many := many) (book := book) (images := images) (mkept := mkept) (aside := aside) (refused := refused) (text := text) (items := items) (drawn := drawn) (row := row) (best := best) (q := q) hc18) (cwV 0 hts gX6_thing_X6_bad rfl rfl rfl hd6_bad ⟨Nat.le_of_ble_eq_true rfl, Nat.le_of_ble_eq_true rfl⟩) hP hD hS hA 11 [0, 1, 2, 3, 4, 5, 6, 7, 8, 9, 10] [] [0, 1, 2, 3, 4, 5, 6, 7, 8, 9, 10] (by decide +kernel) rfl rfl rfl rfl rfl rfl rfl hl.1 rfl rfl (Nat.le_of_ble_eq_true rfl) (zD_g DX6_thing 25 rfl) ⟨Nat.zero_le _, Nat.zero_le _⟩ (fun H locs hP hD hS => ?_)
        cases hf
        exact hret _ _ _ _ hP hD hS (zD_g DX6_thing 26 rfl)
      · replace hf := z_f c15 hf
        refine lv_iload hx hb (zD_g DX6_thing 18 rfl) (lv_at hl 4 rfl) ?_
        refine lv_i2l (v := (a_harm).toInt64) hx hb (zD_g DX6_thing 19 rfl) rfl ?_
        refine lv_lconst (v := (0 : Int64)) hx hb (zD_g DX6_thing 20 rfl) (by decide) ?_
        refine lv_ldc2 (v := (20 : Int64)) hx hb hown (hts _ (List.mem_of_getElem? (i := 2) rfl)) (zD_g DX6_thing 21 rfl) ?_
        obtain ⟨r19, hc20, hf⟩ := zb1_s hf
        refine z_Sp (As := [.long ((a_harm).toInt64), .long (0 : Int64), .long (20 : Int64)]) (rest := []) ⟨hx, hb, hml, hown, hts⟩ hK (c6_in  hc20) (va_cwS 3 hts gX6_thing_X6_in rfl rfl rfl hd6_in ⟨Nat.le_of_ble_eq_true rfl, Nat.le_of_ble_eq_true rfl⟩) (hP.sub [] rfl) rfl hl.1 rfl rfl (Nat.le_of_ble_eq_true rfl) (zD_g DX6_thing 22 rfl) ⟨Nat.zero_le _, Nat.zero_le _⟩ ?_
        refine lv_if_ne (tgt := 54) hx hb (zD_g DX6_thing 23 rfl) (by decide) (fun c21 => ?_) (fun c21 => ?_)
        · replace hf := z_f c21 hf
          refine lv_aload_n hx hb (zD_g DX6_thing 27 rfl) rfl (lv_at hl 0 rfl) ?_
          refine va_get (D := D) (ci := 5) (v := .ref (q 1)) (C := RX6) (T := TX6) (N := 19) hx hb hts in6_thing_6 hown hK.1 hP 0 rfl rfl 0 (by decide) (hts _ (List.mem_of_getElem? (i := 3) rfl)) (fun _ h9 => h9) rfl (zD_g DX6_thing 28 rfl) ?_
          refine lv_iconst (v := (0 : Int32)) hx hb (zD_g DX6_thing 29 rfl) (by decide) ?_
          refine z_iald (k := 0) hx hb hK.1 hP 1 0 rfl rfl (by unfold vp_in; decide) rfl (zD_g DX6_thing 30 rfl) ?_
          refine lv_bipush (v := (8 : Int32)) hx hb (zD_g DX6_thing 31 rfl) (by decide) ?_
          refine lv_icmp_ne (tgt := 70) hx hb (zD_g DX6_thing 32 rfl) (by decide) (fun c22 => ?_) (fun c22 => ?_)
          · replace hf := z_f c22 hf
            refine lv_aload_n hx hb (zD_g DX6_thing 36 rfl) rfl (lv_at hl 0 rfl) ?_
            refine va_get (D := D) (ci := 5) (v := .ref (q 1)) (C := RX6) (T := TX6) (N := 19) hx hb hts in6_thing_6 hown hK.1 hP 0 rfl rfl 0 (by decide) (hts _ (List.mem_of_getElem? (i := 3) rfl)) (fun _ h9 => h9) rfl (zD_g DX6_thing 37 rfl) ?_
            refine lv_iconst (v := (0 : Int32)) hx hb (zD_g DX6_thing 38 rfl) (by decide) ?_
            refine z_iald (k := 0) hx hb hK.1 hP 1 0 rfl rfl (by unfold vp_in; decide) rfl (zD_g DX6_thing 39 rfl) ?_
            refine lv_topi (fun x23 ex23 => ?_)
            replace hf := zl_s hf x23 ex23
            refine lv_istore (lv' := [(5, .int x23), (0, .ref (q 0)), (1, .int a_size), (2, .int a_weight), (3, .int a_sound), (4, .int a_harm)]) hx hb (zD_g DX6_thing 40 rfl) hl (by decide) rfl (fun ls hl => ?_)
            refine lv_aload_n hx hb (zD_g DX6_thing 41 rfl) rfl (lv_at hl 1 rfl) ?_
            refine va_get (D := D) (ci := 5) (v := .ref (q 1)) (C := RX6) (T := TX6) (N := 19) hx hb hts in6_thing_6 hown hK.1 hP 0 rfl rfl 0 (by decide) (hts _ (List.mem_of_getElem? (i := 3) rfl)) (fun _ h9 => h9) rfl (zD_g DX6_thing 42 rfl) ?_
            refine lv_iconst (v := (4 : Int32)) hx hb (zD_g DX6_thing 43 rfl) (by decide) ?_
            refine lv_iconst (v := (4 : Int32)) hx hb (zD_g DX6_thing 44 rfl) (by decide) ?_
            refine lv_iload hx hb (zD_g DX6_thing 45 rfl) (lv_at hl 0 rfl) ?_
            refine lv_imul hx hb (zD_g DX6_thing 46 rfl) ?_
            refine lv_iadd hx hb (zD_g DX6_thing 47 rfl) ?_
            refine lv_iload_n hx hb (zD_g DX6_thing 48 rfl) rfl (lv_at hl 2 rfl) ?_
            obtain ⟨h24, hf⟩ := zg_s hf
            refine z_iast (k := ((4 : Int32) + ((4 : Int32) * x23)).toNatClampNeg) (ws' := (cMod cI cZ q quiet mabove mbelow typed mat mstart mtoken mvalue many (upd book (((4 : Int32) + ((4 : Int32) * x23)).toNatClampNeg) a_size) images mkept aside refused text items drawn row best)) hx hb hK.1 hP hD hS 1 0 rfl rfl h24 rfl rfl (zD_g DX6_thing 49 rfl) (fun H locs hP hD hS => ?_)
            refine lv_aload_n hx hb (zD_g DX6_thing 50 rfl) rfl (lv_at hl 1 rfl) ?_
            refine va_get (D := D) (ci := 5) (v := .ref (q 1)) (C := RX6) (T := TX6) (N := 19) hx hb hts in6_thing_6 hown hK.1 hP 0 rfl rfl 0 (by decide) (hts _ (List.mem_of_getElem? (i := 3) rfl)) (fun _ h9 => h9) rfl (zD_g DX6_thing 51 rfl) ?_
            refine lv_iconst (v := (4 : Int32)) hx hb (zD_g DX6_thing 52 rfl) (by decide) ?_
            refine lv_iconst (v := (4 : Int32)) hx hb (zD_g DX6_thing 53 rfl) (by decide) ?_
            refine lv_iload hx hb (zD_g DX6_thing 54 rfl) (lv_at hl 0 rfl) ?_
            refine lv_imul hx hb (zD_g DX6_thing 55 rfl) ?_
            refine lv_iadd hx hb (zD_g DX6_thing 56 rfl) ?_
            refine lv_iconst (v := (1 : Int32)) hx hb (zD_g DX6_thing 57 rfl) (by decide) ?_
            refine lv_iadd hx hb (zD_g DX6_thing 58 rfl) ?_
            refine lv_iload_n hx hb (zD_g DX6_thing 59 rfl) rfl (lv_at hl 3 rfl) ?_
            obtain ⟨h25, hf⟩ := zg_s hf
            refine z_iast (k := (((4 : Int32) + ((4 : Int32) * x23)) + (1 : Int32)).toNatClampNeg) (ws' := (cMod cI cZ q quiet mabove mbelow typed mat mstart mtoken mvalue many (upd (upd book (((4 : Int32) + ((4 : Int32) * x23)).toNatClampNeg) a_size) ((((4 : Int32) + ((4 : Int32) * x23)) + (1 : Int32)).toNatClampNeg) a_weight) images mkept aside refused text items drawn row best)) hx hb hK.1 hP hD hS 1 0 rfl rfl h25 rfl rfl (zD_g DX6_thing 60 rfl) (fun H locs hP hD hS => ?_)
            refine lv_aload_n hx hb (zD_g DX6_thing 61 rfl) rfl (lv_at hl 1 rfl) ?_
            refine va_get (D := D) (ci := 5) (v := .ref (q 1)) (C := RX6) (T := TX6) (N := 19) hx hb hts in6_thing_6 hown hK.1 hP 0 rfl rfl 0 (by decide) (hts _ (List.mem_of_getElem? (i := 3) rfl)) (fun _ h9 => h9) rfl (zD_g DX6_thing 62 rfl) ?_
            refine lv_iconst (v := (4 : Int32)) hx hb (zD_g DX6_thing 63 rfl) (by decide) ?_
            refine lv_iconst (v := (4 : Int32)) hx hb (zD_g DX6_thing 64 rfl) (by decide) ?_
            refine lv_iload hx hb (zD_g DX6_thing 65 rfl) (lv_at hl 0 rfl) ?_
            refine lv_imul hx hb (zD_g DX6_thing 66 rfl) ?_
            refine lv_iadd hx hb (zD_g DX6_thing 67 rfl) ?_
            refine lv_iconst (v := (2 : Int32)) hx hb (zD_g DX6_thing 68 rfl) (by decide) ?_
            refine lv_iadd hx hb (zD_g DX6_thing 69 rfl) ?_
            refine lv_iload_n hx hb (zD_g DX6_thing 70 rfl) rfl (lv_at hl 4 rfl) ?_
            obtain ⟨h26, hf⟩ := zg_s hf
            refine z_iast (k := (((4 : Int32) + ((4 : Int32) * x23)) + (2 : Int32)).toNatClampNeg) (ws' := (cMod cI cZ q quiet mabove mbelow typed mat mstart mtoken mvalue many (upd (upd (upd book (((4 : Int32) + ((4 : Int32) * x23)).toNatClampNeg) a_size) ((((4 : Int32) + ((4 : Int32) * x23)) + (1 : Int32)).toNatClampNeg) a_weight) ((((4 : Int32) + ((4 : Int32) * x23)) + (2 : Int32)).toNatClampNeg) a_sound) images mkept aside refused text items drawn row best)) hx hb hK.1 hP hD hS 1 0 rfl rfl h26 rfl rfl (zD_g DX6_thing 71 rfl) (fun H locs hP hD hS => ?_)
            refine lv_aload_n hx hb (zD_g DX6_thing 72 rfl) rfl (lv_at hl 1 rfl) ?_
            refine va_get (D := D) (ci := 5) (v := .ref (q 1)) (C := RX6) (T := TX6) (N := 19) hx hb hts in6_thing_6 hown hK.1 hP 0 rfl rfl 0 (by decide) (hts _ (List.mem_of_getElem? (i := 3) rfl)) (fun _ h9 => h9) rfl (zD_g DX6_thing 73 rfl) ?_
            refine lv_iconst (v := (4 : Int32)) hx hb (zD_g DX6_thing 74 rfl) (by decide) ?_
            refine lv_iconst (v := (4 : Int32)) hx hb (zD_g DX6_thing 75 rfl) (by decide) ?_
            refine lv_iload hx hb (zD_g DX6_thing 76 rfl) (lv_at hl 0 rfl) ?_
            refine lv_imul hx hb (zD_g DX6_thing 77 rfl) ?_
            refine lv_iadd hx hb (zD_g DX6_thing 78 rfl) ?_
            refine lv_iconst (v := (3 : Int32)) hx hb (zD_g DX6_thing 79 rfl) (by decide) ?_
            refine lv_iadd hx hb (zD_g DX6_thing 80 rfl) ?_
            refine lv_iload hx hb (zD_g DX6_thing 81 rfl) (lv_at hl 5 rfl) ?_
            obtain ⟨h27, hf⟩ := zg_s hf
            refine z_iast (k := (((4 : Int32) + ((4 : Int32) * x23)) + (3 : Int32)).toNatClampNeg) (ws' := (cMod cI cZ q quiet mabove mbelow typed mat mstart mtoken mvalue many (upd (upd (upd (upd book (((4 : Int32) + ((4 : Int32) * x23)).toNatClampNeg) a_size) ((((4 : Int32) + ((4 : Int32) * x23)) + (1 : Int32)).toNatClampNeg) a_weight) ((((4 : Int32) + ((4 : Int32) * x23)) + (2 : Int32)).toNatClampNeg) a_sound) ((((4 : Int32) + ((4 : Int32) * x23)) + (3 : Int32)).toNatClampNeg) a_harm) images mkept aside refused text items drawn row best)) hx hb hK.1 hP hD hS 1 0 rfl rfl h27 rfl rfl (zD_g DX6_thing 82 rfl) (fun H locs hP hD hS => ?_)
            refine lv_aload_n hx hb (zD_g DX6_thing 83 rfl) rfl (lv_at hl 1 rfl) ?_
            refine va_get (D := D) (ci := 5) (v := .ref (q 1)) (C := RX6) (T := TX6) (N := 19) hx hb hts in6_thing_6 hown hK.1 hP 0 rfl rfl 0 (by decide) (hts _ (List.mem_of_getElem? (i := 3) rfl)) (fun _ h9 => h9) rfl (zD_g DX6_thing 84 rfl) ?_
            refine lv_bipush (v := (36 : Int32)) hx hb (zD_g DX6_thing 85 rfl) (by decide) ?_
            refine lv_iload hx hb (zD_g DX6_thing 86 rfl) (lv_at hl 0 rfl) ?_
            refine lv_iadd hx hb (zD_g DX6_thing 87 rfl) ?_
            refine lv_iconst (v := (-1 : Int32)) hx hb (zD_g DX6_thing 88 rfl) (by decide) ?_
            obtain ⟨h28, hf⟩ := zg_s hf
            refine z_iast (k := ((36 : Int32) + x23).toNatClampNeg) (ws' := (cMod cI cZ q quiet mabove mbelow typed mat mstart mtoken mvalue many (upd (upd (upd (upd (upd book (((4 : Int32) + ((4 : Int32) * x23)).toNatClampNeg) a_size) ((((4 : Int32) + ((4 : Int32) * x23)) + (1 : Int32)).toNatClampNeg) a_weight) ((((4 : Int32) + ((4 : Int32) * x23)) + (2 : Int32)).toNatClampNeg) a_sound) ((((4 : Int32) + ((4 : Int32) * x23)) + (3 : Int32)).toNatClampNeg) a_harm) (((36 : Int32) + x23).toNatClampNeg) (-1 : Int32)) images mkept aside refused text items drawn row best)) hx hb hK.1 hP hD hS 1 0 rfl rfl h28 rfl rfl (zD_g DX6_thing 89 rfl) (fun H locs hP hD hS => ?_)
            refine lv_aload_n hx hb (zD_g DX6_thing 90 rfl) rfl (lv_at hl 1 rfl) ?_
            refine va_get (D := D) (ci := 5) (v := .ref (q 1)) (C := RX6) (T := TX6) (N := 19) hx hb hts in6_thing_6 hown hK.1 hP 0 rfl rfl 0 (by decide) (hts _ (List.mem_of_getElem? (i := 3) rfl)) (fun _ h9 => h9) rfl (zD_g DX6_thing 91 rfl) ?_
            refine lv_iconst (v := (0 : Int32)) hx hb (zD_g DX6_thing 92 rfl) (by decide) ?_
            refine lv_dup2_11 hx hb (zD_g DX6_thing 93 rfl) rfl rfl ?_
            refine z_iald (k := 0) hx hb hK.1 hP 1 0 rfl rfl (by unfold vp_in; decide) rfl (zD_g DX6_thing 94 rfl) ?_
            refine lv_iconst (v := (1 : Int32)) hx hb (zD_g DX6_thing 95 rfl) (by decide) ?_
            refine lv_iadd hx hb (zD_g DX6_thing 96 rfl) ?_
            refine lv_topi (fun x29 ex29 => ?_)
            replace hf := zl_s hf x29 ex29
            refine z_iast (k := 0) (ws' := (cMod cI cZ q quiet mabove mbelow typed mat mstart mtoken mvalue many (upd (upd (upd (upd (upd (upd book (((4 : Int32) + ((4 : Int32) * x23)).toNatClampNeg) a_size) ((((4 : Int32) + ((4 : Int32) * x23)) + (1 : Int32)).toNatClampNeg) a_weight) ((((4 : Int32) + ((4 : Int32) * x23)) + (2 : Int32)).toNatClampNeg) a_sound) ((((4 : Int32) + ((4 : Int32) * x23)) + (3 : Int32)).toNatClampNeg) a_harm) (((36 : Int32) + x23).toNatClampNeg) (-1 : Int32)) 0 x29) images mkept aside refused text items drawn row best)) hx hb hK.1 hP hD hS 1 0 rfl rfl (by unfold vp_in; decide) rfl rfl (zD_g DX6_thing 97 rfl) (fun H locs hP hD hS => ?_)
            refine lv_aload_n hx hb (zD_g DX6_thing 98 rfl) rfl (lv_at hl 1 rfl) ?_
            refine va_get (D := D) (ci := 5) (v := .ref (q 1)) (C := RX6) (T := TX6) (N := 19) hx hb hts in6_thing_6 hown hK.1 hP 0 rfl rfl 0 (by decide) (hts _ (List.mem_of_getElem? (i := 3) rfl)) (fun _ h9 => h9) rfl (zD_g DX6_thing 99 rfl) ?_
            refine lv_iconst (v := (3 : Int32)) hx hb (zD_g DX6_thing 100 rfl) (by decide) ?_
            refine lv_iconst (v := (0 : Int32)) hx hb (zD_g DX6_thing 101 rfl) (by decide) ?_
            refine z_iast (k := 3) (ws' := (cMod cI cZ q quiet mabove mbelow typed mat mstart mtoken mvalue many (upd (upd (upd (upd (upd (upd (upd book (((4 : Int32) + ((4 : Int32) * x23)).toNatClampNeg) a_size) ((((4 : Int32) + ((4 : Int32) * x23)) + (1 : Int32)).toNatClampNeg) a_weight) ((((4 : Int32) + ((4 : Int32) * x23)) + (2 : Int32)).toNatClampNeg) a_sound) ((((4 : Int32) + ((4 : Int32) * x23)) + (3 : Int32)).toNatClampNeg) a_harm) (((36 : Int32) + x23).toNatClampNeg) (-1 : Int32)) 0 x29) 3 (0 : Int32)) images mkept aside refused text items drawn row best)) hx hb hK.1 hP hD hS 1 0 rfl rfl (by unfold vp_in; decide) rfl rfl (zD_g DX6_thing 102 rfl) (fun H locs hP hD hS => ?_)
            refine lv_iload hx hb (zD_g DX6_thing 103 rfl) (lv_at hl 0 rfl) ?_
            cases hf
            exact hret _ _ _ _ hP hD hS (zD_g DX6_thing 104 rfl)
          · replace hf := z_t c22 hf
            refine lv_aload_n hx hb (zD_g DX6_thing 33 rfl) rfl (lv_at hl 0 rfl) ?_
            obtain ⟨r30, refused_31, hc32, hf⟩ := zb2_s hf
            refine z_Vm (As := []) (rest := []) (ws' := (cMod cI cZ q quiet mabove mbelow typed mat mstart mtoken mvalue many book images mkept aside refused_31 text items drawn row best)) ⟨hx, hb, hml, hown, hts⟩ hK (c6_full (quiet := quiet) (mabove := mabove) (mbelow := mbelow) (typed := typed) (mat := mat) (mstart := mstart) (mtoken := mtoken) (mvalue := mvalue) (many := many) (book := book) (images := images) (mkept := mkept) (aside := aside) (refused := refused) (text := text) (items := items) (drawn := drawn) (row := row) (best := best) (q := q) hc32) (cwV 0 hts gX6_thing_X6_full rfl rfl rfl hd6_full ⟨Nat.le_of_ble_eq_true rfl, Nat.le_of_ble_eq_true rfl⟩) hP hD hS hA 11 [0, 1, 2, 3, 4, 5, 6, 7, 8, 9, 10] [] [0, 1, 2, 3, 4, 5, 6, 7, 8, 9, 10] (by decide +kernel) rfl rfl rfl rfl rfl rfl rfl hl.1 rfl rfl (Nat.le_of_ble_eq_true rfl) (zD_g DX6_thing 34 rfl) ⟨Nat.zero_le _, Nat.zero_le _⟩ (fun H locs hP hD hS => ?_)
            cases hf
            exact hret _ _ _ _ hP hD hS (zD_g DX6_thing 35 rfl)
        · replace hf := z_t c21 hf
          refine lv_aload_n hx hb (zD_g DX6_thing 24 rfl) rfl (lv_at hl 0 rfl) ?_
          obtain ⟨r33, refused_34, hc35, hf⟩ := zb2_s hf
          refine z_Vm (As := []) (rest := []) (ws' := (cMod cI cZ q quiet mabove mbelow typed mat mstart mtoken mvalue many book images mkept aside refused_34 text items drawn row best)) ⟨hx, hb, hml, hown, hts⟩ hK (c6_bad (quiet := quiet) (mabove := mabove) (mbelow := mbelow) (typed := typed) (mat := mat) (mstart := mstart) (mtoken := mtoken) (mvalue := mvalue) (many := many) (book := book) (images := images) (mkept := mkept) (aside := aside) (refused := refused) (text := text) (items := items) (drawn := drawn) (row := row) (best := best) (q := q) hc35) (cwV 0 hts gX6_thing_X6_bad rfl rfl rfl hd6_bad ⟨Nat.le_of_ble_eq_true rfl, Nat.le_of_ble_eq_true rfl⟩) hP hD hS hA 11 [0, 1, 2, 3, 4, 5, 6, 7, 8, 9, 10] [] [0, 1, 2, 3, 4, 5, 6, 7, 8, 9, 10] (by decide +kernel) rfl rfl rfl rfl rfl rfl rfl hl.1 rfl rfl (Nat.le_of_ble_eq_true rfl) (zD_g DX6_thing 25 rfl) ⟨Nat.zero_le _, Nat.zero_le _⟩ (fun H locs hP hD hS => ?_)
          cases hf
          exact hret _ _ _ _ hP hD hS (zD_g DX6_thing 26 rfl)
abbrev dlX6_gift : List (Nat × Instr × Nat) := [(0, .iload_n 1, 1), (1, .i2l, 1), (2, .lconst 0, 1), (3, .ldc2_w 60, 3), (6, .invokestatic 56, 3), (9, .ifCond .eq 35, 3), (12, .iload_n 2, 1), (13, .invokestatic 73, 3), (16, .ifCond .eq 28, 3), (19, .iload_n 3, 1), (20, .i2l, 1), (21, .lconst 0, 1), (22, .ldc2_w 77, 3), (25, .invokestatic 56, 3), (28, .ifCond .eq 16, 3), (31, .iload 4, 2), (33, .i2l, 1), (34, .lconst 0, 1), (35, .ldc2_w 79, 3), (38, .invokestatic 56, 3), (41, .ifCond .ne 8, 3), (44, .aload_n 0, 1), (45, .invokevirtual 66, 3), (48, .ireturn, 1), (49, .aload_n 0, 1), (50, .getfield 7, 3), (53, .iconst 1, 1), (54, .iaload, 1), (55, .bipush 6, 2), (57, .if_icmp .ne 8, 3), (60, .aload_n 0, 1), (61, .invokevirtual 70, 3), (64, .ireturn, 1), (65, .aload_n 0, 1), (66, .getfield 7, 3), (69, .iconst 1, 1), (70, .iaload, 1), (71, .istore 5, 2), (73, .aload_n 0, 1), (74, .getfield 7, 3), (77, .bipush 44, 2), (79, .iload 5, 2), (81, .iadd, 1), (82, .iload_n 1, 1), (83, .iastore, 1), (84, .aload_n 0, 1), (85, .getfield 7, 3), (88, .bipush 50, 2), (90, .iload 5, 2), (92, .iadd, 1), (93, .iload_n 3, 1), (94, .iastore, 1), (95, .aload_n 0, 1), (96, .getfield 7, 3), (99, .bipush 56, 2), (101, .iload 5, 2), (103, .iadd, 1), (104, .iload 4, 2), (106, .iastore, 1), (107, .aload_n 0, 1), (108, .getfield 7, 3), (111, .bipush 62, 2), (113, .iload 5, 2), (115, .iadd, 1), (116, .iconst 0, 1), (117, .iastore, 1), (118, .aload_n 0, 1), (119, .getfield 7, 3), (122, .bipush 68, 2), (124, .iload 5, 2), (126, .iadd, 1), (127, .iload_n 2, 1), (128, .iastore, 1), (129, .aload_n 0, 1), (130, .getfield 7, 3), (133, .iconst 1, 1), (134, .dup2, 1), (135, .iaload, 1), (136, .iconst 1, 1), (137, .iadd, 1), (138, .iastore, 1), (139, .aload_n 0, 1), (140, .getfield 7, 3), (143, .iconst 3, 1), (144, .iconst 0, 1), (145, .iastore, 1), (146, .iload 5, 2), (148, .ireturn, 1)]
theorem DX6_gift : zD cX6_gift dlX6_gift = true := by decide +kernel
set_option maxRecDepth 20000 in
theorem ggX6_gift_X6_in : GoodIn wsX6_gift wsX6_in := goodIn_r _ [8] (by decide +kernel) (by decide +kernel)
set_option maxRecDepth 20000 in
theorem gX6_gift_X6_in : GoodIn wsX6_gift (va_wsS RX6 56 yX6_in wsX6_in) := goodIn_app (goodIn_of _ (by decide +kernel)) ggX6_gift_X6_in
set_option maxRecDepth 20000 in
theorem ggX6_gift_X6_isCity : GoodIn wsX6_gift wsX6_isCity := goodIn_r _ [11, 5, 6, 7, 8] (by decide +kernel) (by decide +kernel)
set_option maxRecDepth 20000 in
theorem gX6_gift_X6_isCity : GoodIn wsX6_gift (va_wsS RX6 73 yX6_isCity wsX6_isCity) := goodIn_app (goodIn_of _ (by decide +kernel)) ggX6_gift_X6_isCity
set_option maxRecDepth 20000 in
theorem ggX6_gift_X6_bad : GoodIn wsX6_gift wsX6_bad := goodIn_r _ [15, 16, 17, 18, 7, 19, 20, 21, 26, 27, 28, 29, 30, 31, 32, 33, 34, 35, 36, 37, 38, 39, 40, 41, 42, 43, 44] (by decide +kernel) (by decide +kernel)
set_option maxRecDepth 20000 in
theorem gX6_gift_X6_bad : GoodIn wsX6_gift (wsV RX6 66 RX6 yX6_bad wsX6_bad) := goodIn_app (goodIn_of _ (by decide +kernel)) ggX6_gift_X6_bad
set_option maxRecDepth 20000 in
theorem ggX6_gift_X6_full : GoodIn wsX6_gift wsX6_full := goodIn_r _ [25, 16, 17, 18, 7, 19, 20, 21, 26, 27, 28, 29, 30, 31, 32, 33, 34, 35, 36, 37, 38, 39, 40, 41, 42, 43, 44] (by decide +kernel) (by decide +kernel)
set_option maxRecDepth 20000 in
theorem gX6_gift_X6_full : GoodIn wsX6_gift (wsV RX6 70 RX6 yX6_full wsX6_full) := goodIn_app (goodIn_of _ (by decide +kernel)) ggX6_gift_X6_full
theorem hd6_gift : yX6_gift.cls = RX6 ∧ yX6_gift.cls ≠ "java/lang/invoke/MethodHandle" ∧ yX6_gift.cls ≠ "java/lang/invoke/VarHandle" ∧ (parseMethodDescriptor yX6_gift.desc).map (fun d => d.parameters.length) = some 4 := by decide +kernel
abbrev rm6_gift : Room := { frames := 2, cells := 0, slots := 0, locals := 45 }
theorem in6_gift_6 : ∀ w ∈ wsX60, w ∈ wsX6_gift := fun w h => List.mem_cons_of_mem _ (List.mem_append_right _ h)
set_option maxHeartbeats 4000000 in
set_option maxRecDepth 100000 in
theorem c6_gift {l : Launch} {D : va_G} {cI cZ cB : ClassId} {q : Nat → Nat} {sz : Nat} {quiet : Int32} {mabove : Int64} {mbelow : Int64} {typed : Int32} {mat : Int32} {mstart : Int32} {mtoken : Int32} {mvalue : Int32} {many : Int32} {book : Nat → Int32} {images : Nat → Int32} {mkept : Nat → Int32} {aside : Nat → Int32} {refused : Nat → Int32} {text : Nat → Int32} {items : Nat → Int32} {drawn : Nat → Int32} {row : Nat → Int32} {best : Nat → Int32} {a_kind : Int32} {a_city : Int32} {a_empty : Int32} {a_room : Int32} {r : Int32} {d_book : Nat → Int32} {d_refused : Nat → Int32} (hf : f6_gift quiet book refused a_kind a_city a_empty a_room = some (r, d_book, d_refused)) : Met l yX6_gift wsX6_gift rm6_gift (zPm D cI cZ cB [.ref (q 0), .int a_kind, .int a_city, .int a_empty, .int a_room] sz (cMod cI cZ q quiet mabove mbelow typed mat mstart mtoken mvalue many book images mkept aside refused text items drawn row best)) (zQm D (some (.int r)) (cMod cI cZ q quiet mabove mbelow typed mat mstart mtoken mvalue many d_book images mkept aside d_refused text items drawn row best) (va_A (cMod cI cZ q quiet mabove mbelow typed mat mstart mtoken mvalue many book images mkept aside refused text items drawn row best) sz)) 0 0 (va_A (cMod cI cZ q quiet mabove mbelow typed mat mstart mtoken mvalue many book images mkept aside refused text items drawn row best) sz) := by
  unfold f6_gift at hf
  refine z_mutI RX6 (by decide +kernel) rfl rfl (Nat.le_of_ble_eq_true rfl) ?_
  intro p e s m args below meth c Q A ls hx hb hml hown hts hK hP hD hS hA hret hl
  have hl : lv_has ls 6 [(0, .ref (q 0)), (1, .int a_kind), (2, .int a_city), (3, .int a_empty), (4, .int a_room)] := hl
  refine lv_iload_n hx hb (zD_g DX6_gift 0 rfl) rfl (lv_at hl 1 rfl) ?_
  refine lv_i2l (v := (a_kind).toInt64) hx hb (zD_g DX6_gift 1 rfl) rfl ?_
  refine lv_lconst (v := (0 : Int64)) hx hb (zD_g DX6_gift 2 rfl) (by decide) ?_
  refine lv_ldc2 (v := (5 : Int64)) hx hb hown (hts _ (List.mem_of_getElem? (i := 1) rfl)) (zD_g DX6_gift 3 rfl) ?_
  obtain ⟨r1, hc2, hf⟩ := zb1_s hf
  refine z_Sp (As := [.long ((a_kind).toInt64), .long (0 : Int64), .long (5 : Int64)]) (rest := []) ⟨hx, hb, hml, hown, hts⟩ hK (c6_in  hc2) (va_cwS 3 hts gX6_gift_X6_in rfl rfl rfl hd6_in ⟨Nat.le_of_ble_eq_true rfl, Nat.le_of_ble_eq_true rfl⟩) (hP.sub [] rfl) rfl hl.1 rfl rfl (Nat.le_of_ble_eq_true rfl) (zD_g DX6_gift 4 rfl) ⟨Nat.zero_le _, Nat.zero_le _⟩ ?_
  refine lv_if_eq (tgt := 44) hx hb (zD_g DX6_gift 5 rfl) (by decide) (fun c3 => ?_) (fun c3 => ?_)
  · replace hf := z_t c3 hf
    refine lv_aload_n hx hb (zD_g DX6_gift 21 rfl) rfl (lv_at hl 0 rfl) ?_
    obtain ⟨r4, refused_5, hc6, hf⟩ := zb2_s hf
    refine z_Vm (As := []) (rest := []) (ws' := (cMod cI cZ q quiet mabove mbelow typed mat mstart mtoken mvalue many book images mkept aside refused_5 text items drawn row best)) ⟨hx, hb, hml, hown, hts⟩ hK (c6_bad (quiet := quiet) (mabove := mabove) (mbelow := mbelow) (typed := typed) (mat := mat) (mstart := mstart) (mtoken := mtoken) (mvalue := mvalue) (many := many) (book := book) (images := images) (mkept := mkept) (aside := aside) (refused := refused) (text := text) (items := items) (drawn := drawn) (row := row) (best := best) (q := q) hc6) (cwV 0 hts gX6_gift_X6_bad rfl rfl rfl hd6_bad ⟨Nat.le_of_ble_eq_true rfl, Nat.le_of_ble_eq_true rfl⟩) hP hD hS hA 11 [0, 1, 2, 3, 4, 5, 6, 7, 8, 9, 10] [] [0, 1, 2, 3, 4, 5, 6, 7, 8, 9, 10] (by decide +kernel) rfl rfl rfl rfl rfl rfl rfl hl.1 rfl rfl (Nat.le_of_ble_eq_true rfl) (zD_g DX6_gift 22 rfl) ⟨Nat.zero_le _, Nat.zero_le _⟩ (fun H locs hP hD hS => ?_)
    cases hf
    exact hret _ _ _ _ hP hD hS (zD_g DX6_gift 23 rfl)
  · replace hf := z_f c3 hf
    refine lv_iload_n hx hb (zD_g DX6_gift 6 rfl) rfl (lv_at hl 2 rfl) ?_
    obtain ⟨r7, hc8, hf⟩ := zb1_s hf
    refine z_Sp (As := [.int a_city]) (rest := []) ⟨hx, hb, hml, hown, hts⟩ hK (c6_isCity  hc8) (va_cwS 1 hts gX6_gift_X6_isCity rfl rfl rfl hd6_isCity ⟨Nat.le_of_ble_eq_true rfl, Nat.le_of_ble_eq_true rfl⟩) (hP.sub [] rfl) rfl hl.1 rfl rfl (Nat.le_of_ble_eq_true rfl) (zD_g DX6_gift 7 rfl) ⟨Nat.zero_le _, Nat.zero_le _⟩ ?_
    refine lv_if_eq (tgt := 44) hx hb (zD_g DX6_gift 8 rfl) (by decide) (fun c9 => ?_) (fun c9 => ?_)
    · replace hf := z_t c9 hf
      refine lv_aload_n hx hb (zD_g DX6_gift 21 rfl) rfl (lv_at hl 0 rfl) ?_
      obtain ⟨r10, refused_11, hc12, hf⟩ := zb2_s hf
      refine z_Vm (As := []) (rest := []) (ws' := (cMod cI cZ q quiet mabove mbelow typed mat mstart mtoken mvalue many book images mkept aside refused_11 text items drawn row best)) ⟨hx, hb, hml, hown, hts⟩ hK (c6_bad (quiet := quiet) (mabove := mabove) (mbelow := mbelow) (typed := typed) (mat := mat) (mstart := mstart) (mtoken := mtoken) (mvalue := mvalue) (many := many) (book := book) (images := images) (mkept := mkept) (aside := aside) (refused := refused) (text := text) (items := items) (drawn := drawn) (row := row) (best := best) (q := q) hc12) (cwV 0 hts gX6_gift_X6_bad rfl rfl rfl hd6_bad ⟨Nat.le_of_ble_eq_true rfl, Nat.le_of_ble_eq_true rfl⟩) hP hD hS hA 11 [0, 1, 2, 3, 4, 5, 6, 7, 8, 9, 10] [] [0, 1, 2, 3, 4, 5, 6, 7, 8, 9, 10] (by decide +kernel) rfl rfl rfl rfl rfl rfl rfl hl.1 rfl rfl (Nat.le_of_ble_eq_true rfl) (zD_g DX6_gift 22 rfl) ⟨Nat.zero_le _, Nat.zero_le _⟩ (fun H locs hP hD hS => ?_)
      cases hf
      exact hret _ _ _ _ hP hD hS (zD_g DX6_gift 23 rfl)
    · replace hf := z_f c9 hf
      refine lv_iload_n hx hb (zD_g DX6_gift 9 rfl) rfl (lv_at hl 3 rfl) ?_
      refine lv_i2l (v := (a_empty).toInt64) hx hb (zD_g DX6_gift 10 rfl) rfl ?_
      refine lv_lconst (v := (0 : Int64)) hx hb (zD_g DX6_gift 11 rfl) (by decide) ?_
      refine lv_ldc2 (v := (50 : Int64)) hx hb hown (hts _ (List.mem_of_getElem? (i := 2) rfl)) (zD_g DX6_gift 12 rfl) ?_
      obtain ⟨r13, hc14, hf⟩ := zb1_s hf
      refine z_Sp (As := [.long ((a_empty).toInt64), .long (0 : Int64), .long (50 : Int64)]) (rest := []) ⟨hx, hb, hml, hown, hts⟩ hK (c6_in  hc14) (va_cwS 3 hts gX6_gift_X6_in rfl rfl rfl hd6_in ⟨Nat.le_of_ble_eq_true rfl, Nat.le_of_ble_eq_true rfl⟩) (hP.sub [] rfl) rfl hl.1 rfl rfl (Nat.le_of_ble_eq_true rfl) (zD_g DX6_gift 13 rfl) ⟨Nat.zero_le _, Nat.zero_le _⟩ ?_
      refine lv_if_eq (tgt := 44) hx hb (zD_g DX6_gift 14 rfl) (by decide) (fun c15 => ?_) (fun c15 => ?_)
      · replace hf := z_t c15 hf
        refine lv_aload_n hx hb (zD_g DX6_gift 21 rfl) rfl (lv_at hl 0 rfl) ?_
        obtain ⟨r16, refused_17, hc18, hf⟩ := zb2_s hf
        refine z_Vm (As := []) (rest := []) (ws' := (cMod cI cZ q quiet mabove mbelow typed mat mstart mtoken mvalue many book images mkept aside refused_17 text items drawn row best)) ⟨hx, hb, hml, hown, hts⟩ hK (c6_bad (quiet := quiet) (mabove := mabove) (mbelow := mbelow) (typed := typed) (mat := mat) (mstart := mstart) (mtoken := mtoken) (mvalue := mvalue) (many := many) (book := book) (images := images) (mkept := mkept) (aside := aside) (refused := refused) (text := text) (items := items) (drawn := drawn) (row := row) (best := best) (q := q) hc18) (cwV 0 hts gX6_gift_X6_bad rfl rfl rfl hd6_bad ⟨Nat.le_of_ble_eq_true rfl, Nat.le_of_ble_eq_true rfl⟩) hP hD hS hA 11 [0, 1, 2, 3, 4, 5, 6, 7, 8, 9, 10] [] [0, 1, 2, 3, 4, 5, 6, 7, 8, 9, 10] (by decide +kernel) rfl rfl rfl rfl rfl rfl rfl hl.1 rfl rfl (Nat.le_of_ble_eq_true rfl) (zD_g DX6_gift 22 rfl) ⟨Nat.zero_le _, Nat.zero_le _⟩ (fun H locs hP hD hS => ?_)
        cases hf
        exact hret _ _ _ _ hP hD hS (zD_g DX6_gift 23 rfl)
      · replace hf := z_f c15 hf
        refine lv_iload hx hb (zD_g DX6_gift 15 rfl) (lv_at hl 4 rfl) ?_
        refine lv_i2l (v := (a_room).toInt64) hx hb (zD_g DX6_gift 16 rfl) rfl ?_
        refine lv_lconst (v := (0 : Int64)) hx hb (zD_g DX6_gift 17 rfl) (by decide) ?_
        refine lv_ldc2 (v := (30 : Int64)) hx hb hown (hts _ (List.mem_of_getElem? (i := 3) rfl)) (zD_g DX6_gift 18 rfl) ?_
        obtain ⟨r19, hc20, hf⟩ := zb1_s hf
        refine z_Sp (As := [.long ((a_room).toInt64), .long (0 : Int64), .long (30 : Int64)]) (rest := []) ⟨hx, hb, hml, hown, hts⟩ hK (c6_in  hc20) (va_cwS 3 hts gX6_gift_X6_in rfl rfl rfl hd6_in ⟨Nat.le_of_ble_eq_true rfl, Nat.le_of_ble_eq_true rfl⟩) (hP.sub [] rfl) rfl hl.1 rfl rfl (Nat.le_of_ble_eq_true rfl) (zD_g DX6_gift 19 rfl) ⟨Nat.zero_le _, Nat.zero_le _⟩ ?_
        refine lv_if_ne (tgt := 49) hx hb (zD_g DX6_gift 20 rfl) (by decide) (fun c21 => ?_) (fun c21 => ?_)
        · replace hf := z_f c21 hf
          refine lv_aload_n hx hb (zD_g DX6_gift 24 rfl) rfl (lv_at hl 0 rfl) ?_
          refine va_get (D := D) (ci := 5) (v := .ref (q 1)) (C := RX6) (T := TX6) (N := 19) hx hb hts in6_gift_6 hown hK.1 hP 0 rfl rfl 0 (by decide) (hts _ (List.mem_of_getElem? (i := 4) rfl)) (fun _ h9 => h9) rfl (zD_g DX6_gift 25 rfl) ?_
          refine lv_iconst (v := (1 : Int32)) hx hb (zD_g DX6_gift 26 rfl) (by decide) ?_
          refine z_iald (k := 1) hx hb hK.1 hP 1 0 rfl rfl (by unfold vp_in; decide) rfl (zD_g DX6_gift 27 rfl) ?_
          refine lv_bipush (v := (6 : Int32)) hx hb (zD_g DX6_gift 28 rfl) (by decide) ?_
          refine lv_icmp_ne (tgt := 65) hx hb (zD_g DX6_gift 29 rfl) (by decide) (fun c22 => ?_) (fun c22 => ?_)
          · replace hf := z_f c22 hf
            refine lv_aload_n hx hb (zD_g DX6_gift 33 rfl) rfl (lv_at hl 0 rfl) ?_
            refine va_get (D := D) (ci := 5) (v := .ref (q 1)) (C := RX6) (T := TX6) (N := 19) hx hb hts in6_gift_6 hown hK.1 hP 0 rfl rfl 0 (by decide) (hts _ (List.mem_of_getElem? (i := 4) rfl)) (fun _ h9 => h9) rfl (zD_g DX6_gift 34 rfl) ?_
            refine lv_iconst (v := (1 : Int32)) hx hb (zD_g DX6_gift 35 rfl) (by decide) ?_
            refine z_iald (k := 1) hx hb hK.1 hP 1 0 rfl rfl (by unfold vp_in; decide) rfl (zD_g DX6_gift 36 rfl) ?_
            refine lv_topi (fun x23 ex23 => ?_)
            replace hf := zl_s hf x23 ex23
            refine lv_istore (lv' := [(5, .int x23), (0, .ref (q 0)), (1, .int a_kind), (2, .int a_city), (3, .int a_empty), (4, .int a_room)]) hx hb (zD_g DX6_gift 37 rfl) hl (by decide) rfl (fun ls hl => ?_)
            refine lv_aload_n hx hb (zD_g DX6_gift 38 rfl) rfl (lv_at hl 1 rfl) ?_
            refine va_get (D := D) (ci := 5) (v := .ref (q 1)) (C := RX6) (T := TX6) (N := 19) hx hb hts in6_gift_6 hown hK.1 hP 0 rfl rfl 0 (by decide) (hts _ (List.mem_of_getElem? (i := 4) rfl)) (fun _ h9 => h9) rfl (zD_g DX6_gift 39 rfl) ?_
            refine lv_bipush (v := (44 : Int32)) hx hb (zD_g DX6_gift 40 rfl) (by decide) ?_
            refine lv_iload hx hb (zD_g DX6_gift 41 rfl) (lv_at hl 0 rfl) ?_
            refine lv_iadd hx hb (zD_g DX6_gift 42 rfl) ?_
            refine lv_iload_n hx hb (zD_g DX6_gift 43 rfl) rfl (lv_at hl 2 rfl) ?_
            obtain ⟨h24, hf⟩ := zg_s hf
            refine z_iast (k := ((44 : Int32) + x23).toNatClampNeg) (ws' := (cMod cI cZ q quiet mabove mbelow typed mat mstart mtoken mvalue many (upd book (((44 : Int32) + x23).toNatClampNeg) a_kind) images mkept aside refused text items drawn row best)) hx hb hK.1 hP hD hS 1 0 rfl rfl h24 rfl rfl (zD_g DX6_gift 44 rfl) (fun H locs hP hD hS => ?_)
            refine lv_aload_n hx hb (zD_g DX6_gift 45 rfl) rfl (lv_at hl 1 rfl) ?_
            refine va_get (D := D) (ci := 5) (v := .ref (q 1)) (C := RX6) (T := TX6) (N := 19) hx hb hts in6_gift_6 hown hK.1 hP 0 rfl rfl 0 (by decide) (hts _ (List.mem_of_getElem? (i := 4) rfl)) (fun _ h9 => h9) rfl (zD_g DX6_gift 46 rfl) ?_
            refine lv_bipush (v := (50 : Int32)) hx hb (zD_g DX6_gift 47 rfl) (by decide) ?_
            refine lv_iload hx hb (zD_g DX6_gift 48 rfl) (lv_at hl 0 rfl) ?_
            refine lv_iadd hx hb (zD_g DX6_gift 49 rfl) ?_
            refine lv_iload_n hx hb (zD_g DX6_gift 50 rfl) rfl (lv_at hl 4 rfl) ?_
            obtain ⟨h25, hf⟩ := zg_s hf
            refine z_iast (k := ((50 : Int32) + x23).toNatClampNeg) (ws' := (cMod cI cZ q quiet mabove mbelow typed mat mstart mtoken mvalue many (upd (upd book (((44 : Int32) + x23).toNatClampNeg) a_kind) (((50 : Int32) + x23).toNatClampNeg) a_empty) images mkept aside refused text items drawn row best)) hx hb hK.1 hP hD hS 1 0 rfl rfl h25 rfl rfl (zD_g DX6_gift 51 rfl) (fun H locs hP hD hS => ?_)
            refine lv_aload_n hx hb (zD_g DX6_gift 52 rfl) rfl (lv_at hl 1 rfl) ?_
            refine va_get (D := D) (ci := 5) (v := .ref (q 1)) (C := RX6) (T := TX6) (N := 19) hx hb hts in6_gift_6 hown hK.1 hP 0 rfl rfl 0 (by decide) (hts _ (List.mem_of_getElem? (i := 4) rfl)) (fun _ h9 => h9) rfl (zD_g DX6_gift 53 rfl) ?_
            refine lv_bipush (v := (56 : Int32)) hx hb (zD_g DX6_gift 54 rfl) (by decide) ?_
            refine lv_iload hx hb (zD_g DX6_gift 55 rfl) (lv_at hl 0 rfl) ?_
            refine lv_iadd hx hb (zD_g DX6_gift 56 rfl) ?_
            refine lv_iload hx hb (zD_g DX6_gift 57 rfl) (lv_at hl 5 rfl) ?_
            obtain ⟨h26, hf⟩ := zg_s hf
            refine z_iast (k := ((56 : Int32) + x23).toNatClampNeg) (ws' := (cMod cI cZ q quiet mabove mbelow typed mat mstart mtoken mvalue many (upd (upd (upd book (((44 : Int32) + x23).toNatClampNeg) a_kind) (((50 : Int32) + x23).toNatClampNeg) a_empty) (((56 : Int32) + x23).toNatClampNeg) a_room) images mkept aside refused text items drawn row best)) hx hb hK.1 hP hD hS 1 0 rfl rfl h26 rfl rfl (zD_g DX6_gift 58 rfl) (fun H locs hP hD hS => ?_)
            refine lv_aload_n hx hb (zD_g DX6_gift 59 rfl) rfl (lv_at hl 1 rfl) ?_
            refine va_get (D := D) (ci := 5) (v := .ref (q 1)) (C := RX6) (T := TX6) (N := 19) hx hb hts in6_gift_6 hown hK.1 hP 0 rfl rfl 0 (by decide) (hts _ (List.mem_of_getElem? (i := 4) rfl)) (fun _ h9 => h9) rfl (zD_g DX6_gift 60 rfl) ?_
            refine lv_bipush (v := (62 : Int32)) hx hb (zD_g DX6_gift 61 rfl) (by decide) ?_
            refine lv_iload hx hb (zD_g DX6_gift 62 rfl) (lv_at hl 0 rfl) ?_
            refine lv_iadd hx hb (zD_g DX6_gift 63 rfl) ?_
            refine lv_iconst (v := (0 : Int32)) hx hb (zD_g DX6_gift 64 rfl) (by decide) ?_
            obtain ⟨h27, hf⟩ := zg_s hf
            refine z_iast (k := ((62 : Int32) + x23).toNatClampNeg) (ws' := (cMod cI cZ q quiet mabove mbelow typed mat mstart mtoken mvalue many (upd (upd (upd (upd book (((44 : Int32) + x23).toNatClampNeg) a_kind) (((50 : Int32) + x23).toNatClampNeg) a_empty) (((56 : Int32) + x23).toNatClampNeg) a_room) (((62 : Int32) + x23).toNatClampNeg) (0 : Int32)) images mkept aside refused text items drawn row best)) hx hb hK.1 hP hD hS 1 0 rfl rfl h27 rfl rfl (zD_g DX6_gift 65 rfl) (fun H locs hP hD hS => ?_)
            refine lv_aload_n hx hb (zD_g DX6_gift 66 rfl) rfl (lv_at hl 1 rfl) ?_
            refine va_get (D := D) (ci := 5) (v := .ref (q 1)) (C := RX6) (T := TX6) (N := 19) hx hb hts in6_gift_6 hown hK.1 hP 0 rfl rfl 0 (by decide) (hts _ (List.mem_of_getElem? (i := 4) rfl)) (fun _ h9 => h9) rfl (zD_g DX6_gift 67 rfl) ?_
            refine lv_bipush (v := (68 : Int32)) hx hb (zD_g DX6_gift 68 rfl) (by decide) ?_
            refine lv_iload hx hb (zD_g DX6_gift 69 rfl) (lv_at hl 0 rfl) ?_
            refine lv_iadd hx hb (zD_g DX6_gift 70 rfl) ?_
            refine lv_iload_n hx hb (zD_g DX6_gift 71 rfl) rfl (lv_at hl 3 rfl) ?_
            obtain ⟨h28, hf⟩ := zg_s hf
            refine z_iast (k := ((68 : Int32) + x23).toNatClampNeg) (ws' := (cMod cI cZ q quiet mabove mbelow typed mat mstart mtoken mvalue many (upd (upd (upd (upd (upd book (((44 : Int32) + x23).toNatClampNeg) a_kind) (((50 : Int32) + x23).toNatClampNeg) a_empty) (((56 : Int32) + x23).toNatClampNeg) a_room) (((62 : Int32) + x23).toNatClampNeg) (0 : Int32)) (((68 : Int32) + x23).toNatClampNeg) a_city) images mkept aside refused text items drawn row best)) hx hb hK.1 hP hD hS 1 0 rfl rfl h28 rfl rfl (zD_g DX6_gift 72 rfl) (fun H locs hP hD hS => ?_)
            refine lv_aload_n hx hb (zD_g DX6_gift 73 rfl) rfl (lv_at hl 1 rfl) ?_
            refine va_get (D := D) (ci := 5) (v := .ref (q 1)) (C := RX6) (T := TX6) (N := 19) hx hb hts in6_gift_6 hown hK.1 hP 0 rfl rfl 0 (by decide) (hts _ (List.mem_of_getElem? (i := 4) rfl)) (fun _ h9 => h9) rfl (zD_g DX6_gift 74 rfl) ?_
            refine lv_iconst (v := (1 : Int32)) hx hb (zD_g DX6_gift 75 rfl) (by decide) ?_
            refine lv_dup2_11 hx hb (zD_g DX6_gift 76 rfl) rfl rfl ?_
            refine z_iald (k := 1) hx hb hK.1 hP 1 0 rfl rfl (by unfold vp_in; decide) rfl (zD_g DX6_gift 77 rfl) ?_
            refine lv_iconst (v := (1 : Int32)) hx hb (zD_g DX6_gift 78 rfl) (by decide) ?_
            refine lv_iadd hx hb (zD_g DX6_gift 79 rfl) ?_
            refine lv_topi (fun x29 ex29 => ?_)
            replace hf := zl_s hf x29 ex29
            refine z_iast (k := 1) (ws' := (cMod cI cZ q quiet mabove mbelow typed mat mstart mtoken mvalue many (upd (upd (upd (upd (upd (upd book (((44 : Int32) + x23).toNatClampNeg) a_kind) (((50 : Int32) + x23).toNatClampNeg) a_empty) (((56 : Int32) + x23).toNatClampNeg) a_room) (((62 : Int32) + x23).toNatClampNeg) (0 : Int32)) (((68 : Int32) + x23).toNatClampNeg) a_city) 1 x29) images mkept aside refused text items drawn row best)) hx hb hK.1 hP hD hS 1 0 rfl rfl (by unfold vp_in; decide) rfl rfl (zD_g DX6_gift 80 rfl) (fun H locs hP hD hS => ?_)
            refine lv_aload_n hx hb (zD_g DX6_gift 81 rfl) rfl (lv_at hl 1 rfl) ?_
            refine va_get (D := D) (ci := 5) (v := .ref (q 1)) (C := RX6) (T := TX6) (N := 19) hx hb hts in6_gift_6 hown hK.1 hP 0 rfl rfl 0 (by decide) (hts _ (List.mem_of_getElem? (i := 4) rfl)) (fun _ h9 => h9) rfl (zD_g DX6_gift 82 rfl) ?_
            refine lv_iconst (v := (3 : Int32)) hx hb (zD_g DX6_gift 83 rfl) (by decide) ?_
            refine lv_iconst (v := (0 : Int32)) hx hb (zD_g DX6_gift 84 rfl) (by decide) ?_
            refine z_iast (k := 3) (ws' := (cMod cI cZ q quiet mabove mbelow typed mat mstart mtoken mvalue many (upd (upd (upd (upd (upd (upd (upd book (((44 : Int32) + x23).toNatClampNeg) a_kind) (((50 : Int32) + x23).toNatClampNeg) a_empty) (((56 : Int32) + x23).toNatClampNeg) a_room) (((62 : Int32) + x23).toNatClampNeg) (0 : Int32)) (((68 : Int32) + x23).toNatClampNeg) a_city) 1 x29) 3 (0 : Int32)) images mkept aside refused text items drawn row best)) hx hb hK.1 hP hD hS 1 0 rfl rfl (by unfold vp_in; decide) rfl rfl (zD_g DX6_gift 85 rfl) (fun H locs hP hD hS => ?_)
            refine lv_iload hx hb (zD_g DX6_gift 86 rfl) (lv_at hl 0 rfl) ?_
            cases hf
            exact hret _ _ _ _ hP hD hS (zD_g DX6_gift 87 rfl)
          · replace hf := z_t c22 hf
            refine lv_aload_n hx hb (zD_g DX6_gift 30 rfl) rfl (lv_at hl 0 rfl) ?_
            obtain ⟨r30, refused_31, hc32, hf⟩ := zb2_s hf
            refine z_Vm (As := []) (rest := []) (ws' := (cMod cI cZ q quiet mabove mbelow typed mat mstart mtoken mvalue many book images mkept aside refused_31 text items drawn row best)) ⟨hx, hb, hml, hown, hts⟩ hK (c6_full (quiet := quiet) (mabove := mabove) (mbelow := mbelow) (typed := typed) (mat := mat) (mstart := mstart) (mtoken := mtoken) (mvalue := mvalue) (many := many) (book := book) (images := images) (mkept := mkept) (aside := aside) (refused := refused) (text := text) (items := items) (drawn := drawn) (row := row) (best := best) (q := q) hc32) (cwV 0 hts gX6_gift_X6_full rfl rfl rfl hd6_full ⟨Nat.le_of_ble_eq_true rfl, Nat.le_of_ble_eq_true rfl⟩) hP hD hS hA 11 [0, 1, 2, 3, 4, 5, 6, 7, 8, 9, 10] [] [0, 1, 2, 3, 4, 5, 6, 7, 8, 9, 10] (by decide +kernel) rfl rfl rfl rfl rfl rfl rfl hl.1 rfl rfl (Nat.le_of_ble_eq_true rfl) (zD_g DX6_gift 31 rfl) ⟨Nat.zero_le _, Nat.zero_le _⟩ (fun H locs hP hD hS => ?_)
            cases hf
            exact hret _ _ _ _ hP hD hS (zD_g DX6_gift 32 rfl)
        · replace hf := z_t c21 hf
          refine lv_aload_n hx hb (zD_g DX6_gift 21 rfl) rfl (lv_at hl 0 rfl) ?_
          obtain ⟨r33, refused_34, hc35, hf⟩ := zb2_s hf
          refine z_Vm (As := []) (rest := []) (ws' := (cMod cI cZ q quiet mabove mbelow typed mat mstart mtoken mvalue many book images mkept aside refused_34 text items drawn row best)) ⟨hx, hb, hml, hown, hts⟩ hK (c6_bad (quiet := quiet) (mabove := mabove) (mbelow := mbelow) (typed := typed) (mat := mat) (mstart := mstart) (mtoken := mtoken) (mvalue := mvalue) (many := many) (book := book) (images := images) (mkept := mkept) (aside := aside) (refused := refused) (text := text) (items := items) (drawn := drawn) (row := row) (best := best) (q := q) hc35) (cwV 0 hts gX6_gift_X6_bad rfl rfl rfl hd6_bad ⟨Nat.le_of_ble_eq_true rfl, Nat.le_of_ble_eq_true rfl⟩) hP hD hS hA 11 [0, 1, 2, 3, 4, 5, 6, 7, 8, 9, 10] [] [0, 1, 2, 3, 4, 5, 6, 7, 8, 9, 10] (by decide +kernel) rfl rfl rfl rfl rfl rfl rfl hl.1 rfl rfl (Nat.le_of_ble_eq_true rfl) (zD_g DX6_gift 22 rfl) ⟨Nat.zero_le _, Nat.zero_le _⟩ (fun H locs hP hD hS => ?_)
          cases hf
          exact hret _ _ _ _ hP hD hS (zD_g DX6_gift 23 rfl)
abbrev dlX6_sumOf : List (Nat × Instr × Nat) := [(0, .iconst 0, 1), (1, .istore_n 3, 1), (2, .iconst 0, 1), (3, .istore 4, 2), (5, .iload 4, 2), (7, .aload_n 0, 1), (8, .getfield 7, 3), (11, .iconst 0, 1), (12, .iaload, 1), (13, .if_icmp .ge 32, 3), (16, .iload_n 3, 1), (17, .iload_n 1, 1), (18, .iload 4, 2), (20, .ishr, 1), (21, .iconst 1, 1), (22, .iand, 1), (23, .aload_n 0, 1), (24, .getfield 7, 3), (27, .iconst 4, 1), (28, .iconst 4, 1), (29, .iload 4, 2), (31, .imul, 1), (32, .iadd, 1), (33, .iload_n 2, 1), (34, .iadd, 1), (35, .iaload, 1), (36, .imul, 1), (37, .iadd, 1), (38, .istore_n 3, 1), (39, .iinc 4 1, 3), (42, .goto (-37), 3), (45, .iload_n 3, 1), (46, .ireturn, 1)]
theorem DX6_sumOf : zD cX6_sumOf dlX6_sumOf = true := by decide +kernel
theorem hd6_sumOf : yX6_sumOf.cls = RX6 ∧ yX6_sumOf.cls ≠ "java/lang/invoke/MethodHandle" ∧ yX6_sumOf.cls ≠ "java/lang/invoke/VarHandle" ∧ (parseMethodDescriptor yX6_sumOf.desc).map (fun d => d.parameters.length) = some 2 := by decide +kernel
abbrev rm6_sumOf : Room := { frames := 0, cells := 0, slots := 0, locals := 0 }
theorem in6_sumOf_6 : ∀ w ∈ wsX60, w ∈ wsX6_sumOf := fun w h => List.mem_cons_of_mem _ (List.mem_append_right _ h)
set_option maxHeartbeats 4000000 in
set_option maxRecDepth 100000 in
theorem c6_sumOf {l : Launch} {D : va_G} {cI cZ cB : ClassId} {q : Nat → Nat} {quiet : Int32} {mabove : Int64} {mbelow : Int64} {typed : Int32} {mat : Int32} {mstart : Int32} {mtoken : Int32} {mvalue : Int32} {many : Int32} {book : Nat → Int32} {images : Nat → Int32} {mkept : Nat → Int32} {aside : Nat → Int32} {refused : Nat → Int32} {text : Nat → Int32} {items : Nat → Int32} {drawn : Nat → Int32} {row : Nat → Int32} {best : Nat → Int32} {a_set : Int32} {a_what : Int32} {r : Int32}  (hf : f6_sumOf book a_set a_what = some r) : Met l yX6_sumOf wsX6_sumOf rm6_sumOf (zPp D cI cZ cB [.ref (q 0), .int a_set, .int a_what] (cMod cI cZ q quiet mabove mbelow typed mat mstart mtoken mvalue many book images mkept aside refused text items drawn row best)) (zQp (some (.int r))) 0 0 (fun _ => False) := by
  unfold f6_sumOf at hf
  refine z_pureI RX6 (by decide +kernel) rfl rfl (Nat.le_of_ble_eq_true rfl) ?_
  intro p e s m args below meth c Q ls hx hb hml hown hts hK hP hret hl
  have hl : lv_has ls 5 [(0, .ref (q 0)), (1, .int a_set), (2, .int a_what)] := hl
  refine lv_iconst (v := (0 : Int32)) hx hb (zD_g DX6_sumOf 0 rfl) (by decide) ?_
  refine lv_istore_n (lv' := [(3, .int (0 : Int32)), (0, .ref (q 0)), (1, .int a_set), (2, .int a_what)]) hx hb (zD_g DX6_sumOf 1 rfl) rfl hl (by decide) rfl (fun ls hl => ?_)
  refine lv_iconst (v := (0 : Int32)) hx hb (zD_g DX6_sumOf 2 rfl) (by decide) ?_
  refine lv_istore (lv' := [(4, .int (0 : Int32)), (3, .int (0 : Int32)), (0, .ref (q 0)), (1, .int a_set), (2, .int a_what)]) hx hb (zD_g DX6_sumOf 3 rfl) hl (by decide) rfl (fun ls hl => ?_)
  have hL3 : ∀ (k3 : Int32 → Option (Int32)) (hk3 : ∀ (y7 : Int32), k3 y7 = some r → ∀ (ls : Array Slot), lv_has ls 5 [(3, .int y7)] → W p l e rm6_sumOf s m args below meth c s.heap [] 0 0 Q (F0 m 45 ls [])) (n3 : Nat) (y1 : Int32) (y2 : Int32), L6_sumOf_5 k3 book a_set a_what n3 y1 y2 = some r → ∀ (ls : Array Slot), lv_has ls 5 [(0, .ref (q 0)), (1, .int a_set), (2, .int a_what), (3, .int y1), (4, .int y2)] → W p l e rm6_sumOf s m args below meth c s.heap [] 0 0 Q (F0 m 5 ls []) := by
    intro k3 hk3 n3
    induction n3 with
    | zero =>
      intro y1 y2 hf
      cases hf
    | succ n3 ih3 =>
      intro y1 y2 hf ls hl
      rw [L6_sumOf_5] at hf
      refine lv_iload hx hb (zD_g DX6_sumOf 4 rfl) (lv_at hl 4 rfl) ?_
      refine lv_aload_n hx hb (zD_g DX6_sumOf 5 rfl) rfl (lv_at hl 0 rfl) ?_
      refine va_get (D := D) (ci := 5) (v := .ref (q 1)) (C := RX6) (T := TX6) (N := 19) hx hb hts in6_sumOf_6 hown hK.1 hP 0 rfl rfl 0 (by decide) (hts _ (List.mem_of_getElem? (i := 1) rfl)) (fun _ h9 => h9) rfl (zD_g DX6_sumOf 6 rfl) ?_
      refine lv_iconst (v := (0 : Int32)) hx hb (zD_g DX6_sumOf 7 rfl) (by decide) ?_
      refine z_iald (k := 0) hx hb hK.1 hP 1 0 rfl rfl (by unfold vp_in; decide) rfl (zD_g DX6_sumOf 8 rfl) ?_
      refine lv_icmp_ge (tgt := 45) hx hb (zD_g DX6_sumOf 9 rfl) (by decide) (fun c4 => ?_) (fun c4 => ?_)
      · replace hf := z_t c4 hf
        exact hk3 _ hf ls (lv_sub hl [3] rfl)
      · replace hf := z_f c4 hf
        refine lv_iload_n hx hb (zD_g DX6_sumOf 10 rfl) rfl (lv_at hl 3 rfl) ?_
        refine lv_iload_n hx hb (zD_g DX6_sumOf 11 rfl) rfl (lv_at hl 1 rfl) ?_
        refine lv_iload hx hb (zD_g DX6_sumOf 12 rfl) (lv_at hl 4 rfl) ?_
        refine lv_ishr hx hb (zD_g DX6_sumOf 13 rfl) ?_
        refine lv_iconst (v := (1 : Int32)) hx hb (zD_g DX6_sumOf 14 rfl) (by decide) ?_
        refine lv_iand hx hb (zD_g DX6_sumOf 15 rfl) ?_
        refine lv_aload_n hx hb (zD_g DX6_sumOf 16 rfl) rfl (lv_at hl 0 rfl) ?_
        refine va_get (D := D) (ci := 5) (v := .ref (q 1)) (C := RX6) (T := TX6) (N := 19) hx hb hts in6_sumOf_6 hown hK.1 hP 0 rfl rfl 0 (by decide) (hts _ (List.mem_of_getElem? (i := 1) rfl)) (fun _ h9 => h9) rfl (zD_g DX6_sumOf 17 rfl) ?_
        refine lv_iconst (v := (4 : Int32)) hx hb (zD_g DX6_sumOf 18 rfl) (by decide) ?_
        refine lv_iconst (v := (4 : Int32)) hx hb (zD_g DX6_sumOf 19 rfl) (by decide) ?_
        refine lv_iload hx hb (zD_g DX6_sumOf 20 rfl) (lv_at hl 4 rfl) ?_
        refine lv_imul hx hb (zD_g DX6_sumOf 21 rfl) ?_
        refine lv_iadd hx hb (zD_g DX6_sumOf 22 rfl) ?_
        refine lv_iload_n hx hb (zD_g DX6_sumOf 23 rfl) rfl (lv_at hl 2 rfl) ?_
        refine lv_iadd hx hb (zD_g DX6_sumOf 24 rfl) ?_
        obtain ⟨h5, hf⟩ := zg_s hf
        refine z_iald (k := (((4 : Int32) + ((4 : Int32) * y2)) + a_what).toNatClampNeg) hx hb hK.1 hP 1 0 rfl rfl h5 rfl (zD_g DX6_sumOf 25 rfl) ?_
        refine lv_imul hx hb (zD_g DX6_sumOf 26 rfl) ?_
        refine lv_iadd hx hb (zD_g DX6_sumOf 27 rfl) ?_
        refine lv_topi (fun x6 ex6 => ?_)
        replace hf := zl_s hf x6 ex6
        refine lv_istore_n (lv' := [(3, .int x6), (0, .ref (q 0)), (1, .int a_set), (2, .int a_what), (4, .int y2)]) hx hb (zD_g DX6_sumOf 28 rfl) rfl hl (by decide) rfl (fun ls hl => ?_)
        refine lv_iinc (v := y2 + 1) (lv' := [(4, .int (y2 + 1)), (3, .int x6), (0, .ref (q 0)), (1, .int a_set), (2, .int a_what)]) (k := 4) hx hb (zD_g DX6_sumOf 29 rfl) hl rfl rfl (by decide) rfl (fun ls hl => ?_)
        refine lv_goto (tgt := 5) hx hb (zD_g DX6_sumOf 30 rfl) (by decide) ?_
        exact ih3 _ _ hf ls (lv_sub hl [2, 3, 4, 1, 0] rfl)
  refine hL3 _ (fun y7 hf ls hl => ?_) _ _ _ hf ls (lv_sub hl [2, 3, 4, 1, 0] rfl)
  refine lv_iload_n hx hb (zD_g DX6_sumOf 31 rfl) rfl (lv_at hl 0 rfl) ?_
  cases hf
  exact hret _ _ (zD_g DX6_sumOf 32 rfl)
abbrev dlX6_thingsIn : List (Nat × Instr × Nat) := [(0, .iconst 0, 1), (1, .istore_n 2, 1), (2, .iconst 0, 1), (3, .istore_n 3, 1), (4, .iload_n 3, 1), (5, .aload_n 0, 1), (6, .getfield 7, 3), (9, .iconst 0, 1), (10, .iaload, 1), (11, .if_icmp .ge 32, 3), (14, .iload_n 2, 1), (15, .aload_n 0, 1), (16, .getfield 7, 3), (19, .bipush 36, 2), (21, .iload_n 3, 1), (22, .iadd, 1), (23, .iaload, 1), (24, .iload_n 1, 1), (25, .if_icmp .ne 9, 3), (28, .iconst 1, 1), (29, .iload_n 3, 1), (30, .ishl, 1), (31, .goto 4, 3), (34, .iconst 0, 1), (35, .ior, 1), (36, .istore_n 2, 1), (37, .iinc 3 1, 3), (40, .goto (-36), 3), (43, .iload_n 2, 1), (44, .ireturn, 1)]
theorem DX6_thingsIn : zD cX6_thingsIn dlX6_thingsIn = true := by decide +kernel
theorem hd6_thingsIn : yX6_thingsIn.cls = RX6 ∧ yX6_thingsIn.cls ≠ "java/lang/invoke/MethodHandle" ∧ yX6_thingsIn.cls ≠ "java/lang/invoke/VarHandle" ∧ (parseMethodDescriptor yX6_thingsIn.desc).map (fun d => d.parameters.length) = some 1 := by decide +kernel
abbrev rm6_thingsIn : Room := { frames := 0, cells := 0, slots := 0, locals := 0 }
theorem in6_thingsIn_6 : ∀ w ∈ wsX60, w ∈ wsX6_thingsIn := fun w h => List.mem_cons_of_mem _ (List.mem_append_right _ h)
set_option maxHeartbeats 4000000 in
set_option maxRecDepth 100000 in
theorem c6_thingsIn {l : Launch} {D : va_G} {cI cZ cB : ClassId} {q : Nat → Nat} {quiet : Int32} {mabove : Int64} {mbelow : Int64} {typed : Int32} {mat : Int32} {mstart : Int32} {mtoken : Int32} {mvalue : Int32} {many : Int32} {book : Nat → Int32} {images : Nat → Int32} {mkept : Nat → Int32} {aside : Nat → Int32} {refused : Nat → Int32} {text : Nat → Int32} {items : Nat → Int32} {drawn : Nat → Int32} {row : Nat → Int32} {best : Nat → Int32} {a_g : Int32} {r : Int32}  (hf : f6_thingsIn book a_g = some r) : Met l yX6_thingsIn wsX6_thingsIn rm6_thingsIn (zPp D cI cZ cB [.ref (q 0), .int a_g] (cMod cI cZ q quiet mabove mbelow typed mat mstart mtoken mvalue many book images mkept aside refused text items drawn row best)) (zQp (some (.int r))) 0 0 (fun _ => False) := by
  unfold f6_thingsIn at hf
  refine z_pureI RX6 (by decide +kernel) rfl rfl (Nat.le_of_ble_eq_true rfl) ?_
  intro p e s m args below meth c Q ls hx hb hml hown hts hK hP hret hl
  have hl : lv_has ls 4 [(0, .ref (q 0)), (1, .int a_g)] := hl
  refine lv_iconst (v := (0 : Int32)) hx hb (zD_g DX6_thingsIn 0 rfl) (by decide) ?_
  refine lv_istore_n (lv' := [(2, .int (0 : Int32)), (0, .ref (q 0)), (1, .int a_g)]) hx hb (zD_g DX6_thingsIn 1 rfl) rfl hl (by decide) rfl (fun ls hl => ?_)
  refine lv_iconst (v := (0 : Int32)) hx hb (zD_g DX6_thingsIn 2 rfl) (by decide) ?_
  refine lv_istore_n (lv' := [(3, .int (0 : Int32)), (2, .int (0 : Int32)), (0, .ref (q 0)), (1, .int a_g)]) hx hb (zD_g DX6_thingsIn 3 rfl) rfl hl (by decide) rfl (fun ls hl => ?_)
  have hL3 : ∀ (k3 : Int32 → Option (Int32)) (hk3 : ∀ (y9 : Int32), k3 y9 = some r → ∀ (ls : Array Slot), lv_has ls 4 [(2, .int y9)] → W p l e rm6_thingsIn s m args below meth c s.heap [] 0 0 Q (F0 m 43 ls [])) (n3 : Nat) (y1 : Int32) (y2 : Int32), L6_thingsIn_4 k3 book a_g n3 y1 y2 = some r → ∀ (ls : Array Slot), lv_has ls 4 [(0, .ref (q 0)), (1, .int a_g), (2, .int y1), (3, .int y2)] → W p l e rm6_thingsIn s m args below meth c s.heap [] 0 0 Q (F0 m 4 ls []) := by
    intro k3 hk3 n3
    induction n3 with
    | zero =>
      intro y1 y2 hf
      cases hf
    | succ n3 ih3 =>
      intro y1 y2 hf ls hl
      rw [L6_thingsIn_4] at hf
      refine lv_iload_n hx hb (zD_g DX6_thingsIn 4 rfl) rfl (lv_at hl 3 rfl) ?_
      refine lv_aload_n hx hb (zD_g DX6_thingsIn 5 rfl) rfl (lv_at hl 0 rfl) ?_
      refine va_get (D := D) (ci := 5) (v := .ref (q 1)) (C := RX6) (T := TX6) (N := 19) hx hb hts in6_thingsIn_6 hown hK.1 hP 0 rfl rfl 0 (by decide) (hts _ (List.mem_of_getElem? (i := 1) rfl)) (fun _ h9 => h9) rfl (zD_g DX6_thingsIn 6 rfl) ?_
      refine lv_iconst (v := (0 : Int32)) hx hb (zD_g DX6_thingsIn 7 rfl) (by decide) ?_
      refine z_iald (k := 0) hx hb hK.1 hP 1 0 rfl rfl (by unfold vp_in; decide) rfl (zD_g DX6_thingsIn 8 rfl) ?_
      refine lv_icmp_ge (tgt := 43) hx hb (zD_g DX6_thingsIn 9 rfl) (by decide) (fun c4 => ?_) (fun c4 => ?_)
      · replace hf := z_t c4 hf
        exact hk3 _ hf ls (lv_sub hl [2] rfl)
      · replace hf := z_f c4 hf
        refine lv_iload_n hx hb (zD_g DX6_thingsIn 10 rfl) rfl (lv_at hl 2 rfl) ?_
        refine lv_aload_n hx hb (zD_g DX6_thingsIn 11 rfl) rfl (lv_at hl 0 rfl) ?_
        refine va_get (D := D) (ci := 5) (v := .ref (q 1)) (C := RX6) (T := TX6) (N := 19) hx hb hts in6_thingsIn_6 hown hK.1 hP 0 rfl rfl 0 (by decide) (hts _ (List.mem_of_getElem? (i := 1) rfl)) (fun _ h9 => h9) rfl (zD_g DX6_thingsIn 12 rfl) ?_
        refine lv_bipush (v := (36 : Int32)) hx hb (zD_g DX6_thingsIn 13 rfl) (by decide) ?_
        refine lv_iload_n hx hb (zD_g DX6_thingsIn 14 rfl) rfl (lv_at hl 3 rfl) ?_
        refine lv_iadd hx hb (zD_g DX6_thingsIn 15 rfl) ?_
        obtain ⟨h5, hf⟩ := zg_s hf
        refine z_iald (k := ((36 : Int32) + y2).toNatClampNeg) hx hb hK.1 hP 1 0 rfl rfl h5 rfl (zD_g DX6_thingsIn 16 rfl) ?_
        refine lv_iload_n hx hb (zD_g DX6_thingsIn 17 rfl) rfl (lv_at hl 1 rfl) ?_
        refine lv_icmp_ne (tgt := 34) hx hb (zD_g DX6_thingsIn 18 rfl) (by decide) (fun c6 => ?_) (fun c6 => ?_)
        · replace hf := z_f c6 hf
          refine lv_iconst (v := (0 : Int32)) hx hb (zD_g DX6_thingsIn 23 rfl) (by decide) ?_
          refine lv_ior hx hb (zD_g DX6_thingsIn 24 rfl) ?_
          refine lv_topi (fun x7 ex7 => ?_)
          replace hf := zl_s hf x7 ex7
          refine lv_istore_n (lv' := [(2, .int x7), (0, .ref (q 0)), (1, .int a_g), (3, .int y2)]) hx hb (zD_g DX6_thingsIn 25 rfl) rfl hl (by decide) rfl (fun ls hl => ?_)
          refine lv_iinc (v := y2 + 1) (lv' := [(3, .int (y2 + 1)), (2, .int x7), (0, .ref (q 0)), (1, .int a_g)]) (k := 3) hx hb (zD_g DX6_thingsIn 26 rfl) hl rfl rfl (by decide) rfl (fun ls hl => ?_)
          refine lv_goto (tgt := 4) hx hb (zD_g DX6_thingsIn 27 rfl) (by decide) ?_
          exact ih3 _ _ hf ls (lv_sub hl [2, 3, 1, 0] rfl)
        · replace hf := z_t c6 hf
          refine lv_iconst (v := (1 : Int32)) hx hb (zD_g DX6_thingsIn 19 rfl) (by decide) ?_
          refine lv_iload_n hx hb (zD_g DX6_thingsIn 20 rfl) rfl (lv_at hl 3 rfl) ?_
          refine lv_ishl hx hb (zD_g DX6_thingsIn 21 rfl) ?_
          refine lv_goto (tgt := 35) hx hb (zD_g DX6_thingsIn 22 rfl) (by decide) ?_
          refine lv_ior hx hb (zD_g DX6_thingsIn 24 rfl) ?_
          refine lv_topi (fun x8 ex8 => ?_)
          replace hf := zl_s hf x8 ex8
          refine lv_istore_n (lv' := [(2, .int x8), (0, .ref (q 0)), (1, .int a_g), (3, .int y2)]) hx hb (zD_g DX6_thingsIn 25 rfl) rfl hl (by decide) rfl (fun ls hl => ?_)
          refine lv_iinc (v := y2 + 1) (lv' := [(3, .int (y2 + 1)), (2, .int x8), (0, .ref (q 0)), (1, .int a_g)]) (k := 3) hx hb (zD_g DX6_thingsIn 26 rfl) hl rfl rfl (by decide) rfl (fun ls hl => ?_)
          refine lv_goto (tgt := 4) hx hb (zD_g DX6_thingsIn 27 rfl) (by decide) ?_
          exact ih3 _ _ hf ls (lv_sub hl [2, 3, 1, 0] rfl)
  refine hL3 _ (fun y9 hf ls hl => ?_) _ _ _ hf ls (lv_sub hl [2, 3, 1, 0] rfl)
  refine lv_iload_n hx hb (zD_g DX6_thingsIn 28 rfl) rfl (lv_at hl 0 rfl) ?_
  cases hf
  exact hret _ _ (zD_g DX6_thingsIn 29 rfl)
abbrev dlX6_remembers : List (Nat × Instr × Nat) := [(0, .aload_n 0, 1), (1, .getfield 7, 3), (4, .iconst 3, 1), (5, .iaload, 1), (6, .bipush 8, 2), (8, .if_icmp .ne 48, 3), (11, .iconst 0, 1), (12, .istore_n 1, 1), (13, .iload_n 1, 1), (14, .bipush 119, 2), (16, .if_icmp .ge 30, 3), (19, .aload_n 0, 1), (20, .getfield 7, 3), (23, .bipush 94, 2), (25, .iload_n 1, 1), (26, .iadd, 1), (27, .aload_n 0, 1), (28, .getfield 7, 3), (31, .bipush 94, 2), (33, .iload_n 1, 1), (34, .iadd, 1), (35, .bipush 17, 2), (37, .iadd, 1), (38, .iaload, 1), (39, .iastore, 1), (40, .iinc 1 1, 3), (43, .goto (-30), 3), (46, .aload_n 0, 1), (47, .getfield 7, 3), (50, .iconst 3, 1), (51, .dup2, 1), (52, .iaload, 1), (53, .iconst 1, 1), (54, .isub, 1), (55, .iastore, 1), (56, .bipush 94, 2), (58, .bipush 17, 2), (60, .aload_n 0, 1), (61, .getfield 7, 3), (64, .iconst 3, 1), (65, .iaload, 1), (66, .imul, 1), (67, .iadd, 1), (68, .istore_n 1, 1), (69, .iconst 0, 1), (70, .istore_n 2, 1), (71, .iload_n 2, 1), (72, .bipush 8, 2), (74, .if_icmp .ge 26, 3), (77, .aload_n 0, 1), (78, .getfield 7, 3), (81, .iload_n 1, 1), (82, .iload_n 2, 1), (83, .iadd, 1), (84, .aload_n 0, 1), (85, .getfield 7, 3), (88, .bipush 36, 2), (90, .iload_n 2, 1), (91, .iadd, 1), (92, .iaload, 1), (93, .iastore, 1), (94, .iinc 2 1, 3), (97, .goto (-26), 3), (100, .iconst 0, 1), (101, .istore_n 2, 1), (102, .iload_n 2, 1), (103, .bipush 6, 2), (105, .if_icmp .ge 29, 3), (108, .aload_n 0, 1), (109, .getfield 7, 3), (112, .iload_n 1, 1), (113, .bipush 8, 2), (115, .iadd, 1), (116, .iload_n 2, 1), (117, .iadd, 1), (118, .aload_n 0, 1), (119, .getfield 7, 3), (122, .bipush 68, 2), (124, .iload_n 2, 1), (125, .iadd, 1), (126, .iaload, 1), (127, .iastore, 1), (128, .iinc 2 1, 3), (131, .goto (-29), 3), (134, .aload_n 0, 1), (135, .getfield 7, 3), (138, .iload_n 1, 1), (139, .bipush 14, 2), (141, .iadd, 1), (142, .aload_n 0, 1), (143, .getfield 7, 3), (146, .iconst 2, 1), (147, .iaload, 1), (148, .iastore, 1), (149, .aload_n 0, 1), (150, .getfield 7, 3), (153, .iload_n 1, 1), (154, .bipush 15, 2), (156, .iadd, 1), (157, .aload_n 0, 1), (158, .getfield 7, 3), (161, .bipush 92, 2), (163, .iaload, 1), (164, .iastore, 1), (165, .aload_n 0, 1), (166, .getfield 7, 3), (169, .iload_n 1, 1), (170, .bipush 16, 2), (172, .iadd, 1), (173, .aload_n 0, 1), (174, .getfield 7, 3), (177, .bipush 93, 2), (179, .iaload, 1), (180, .iastore, 1), (181, .aload_n 0, 1), (182, .getfield 7, 3), (185, .iconst 3, 1), (186, .dup2, 1), (187, .iaload, 1), (188, .iconst 1, 1), (189, .iadd, 1), (190, .iastore, 1), (191, .return_, 1)]
theorem DX6_remembers : zD cX6_remembers dlX6_remembers = true := by decide +kernel
theorem hd6_remembers : yX6_remembers.cls = RX6 ∧ yX6_remembers.cls ≠ "java/lang/invoke/MethodHandle" ∧ yX6_remembers.cls ≠ "java/lang/invoke/VarHandle" ∧ (parseMethodDescriptor yX6_remembers.desc).map (fun d => d.parameters.length) = some 0 := by decide +kernel
abbrev rm6_remembers : Room := { frames := 0, cells := 0, slots := 0, locals := 0 }
theorem in6_remembers_6 : ∀ w ∈ wsX60, w ∈ wsX6_remembers := fun w h => List.mem_cons_of_mem _ (List.mem_append_right _ h)
set_option maxHeartbeats 4000000 in
set_option maxRecDepth 100000 in
theorem c6_remembers {l : Launch} {D : va_G} {cI cZ cB : ClassId} {q : Nat → Nat} {sz : Nat} {quiet : Int32} {mabove : Int64} {mbelow : Int64} {typed : Int32} {mat : Int32} {mstart : Int32} {mtoken : Int32} {mvalue : Int32} {many : Int32} {book : Nat → Int32} {images : Nat → Int32} {mkept : Nat → Int32} {aside : Nat → Int32} {refused : Nat → Int32} {text : Nat → Int32} {items : Nat → Int32} {drawn : Nat → Int32} {row : Nat → Int32} {best : Nat → Int32}   {d_book : Nat → Int32} (hf : f6_remembers book = some d_book) : Met l yX6_remembers wsX6_remembers rm6_remembers (zPm D cI cZ cB [.ref (q 0)] sz (cMod cI cZ q quiet mabove mbelow typed mat mstart mtoken mvalue many book images mkept aside refused text items drawn row best)) (zQm D none (cMod cI cZ q quiet mabove mbelow typed mat mstart mtoken mvalue many d_book images mkept aside refused text items drawn row best) (va_A (cMod cI cZ q quiet mabove mbelow typed mat mstart mtoken mvalue many book images mkept aside refused text items drawn row best) sz)) 0 0 (va_A (cMod cI cZ q quiet mabove mbelow typed mat mstart mtoken mvalue many book images mkept aside refused text items drawn row best) sz) := by
  unfold f6_remembers at hf
  refine z_mutV RX6 (by decide +kernel) rfl rfl (Nat.le_of_ble_eq_true rfl) ?_
  intro p e s m args below meth c Q A ls hx hb hml hown hts hK hP hD hS hA hret hl
  have hl : lv_has ls 3 [(0, .ref (q 0))] := hl
  refine lv_aload_n hx hb (zD_g DX6_remembers 0 rfl) rfl (lv_at hl 0 rfl) ?_
  refine va_get (D := D) (ci := 5) (v := .ref (q 1)) (C := RX6) (T := TX6) (N := 19) hx hb hts in6_remembers_6 hown hK.1 hP 0 rfl rfl 0 (by decide) (hts _ (List.mem_of_getElem? (i := 1) rfl)) (fun _ h9 => h9) rfl (zD_g DX6_remembers 1 rfl) ?_
  refine lv_iconst (v := (3 : Int32)) hx hb (zD_g DX6_remembers 2 rfl) (by decide) ?_
  refine z_iald (k := 3) hx hb hK.1 hP 1 0 rfl rfl (by unfold vp_in; decide) rfl (zD_g DX6_remembers 3 rfl) ?_
  refine lv_bipush (v := (8 : Int32)) hx hb (zD_g DX6_remembers 4 rfl) (by decide) ?_
  obtain ⟨book_2, hr27, hf⟩ := zb1_s hf
  have hJ27 : ∀ (H : Heap) (locs : List Loc), va_P D vwCl (cMod cI cZ q quiet mabove mbelow typed mat mstart mtoken mvalue many book_2 images mkept aside refused text items drawn row best) H → va_D A (cMod cI cZ q quiet mabove mbelow typed mat mstart mtoken mvalue many book_2 images mkept aside refused text items drawn row best) → va_S A s.heap H locs → ∀ (ls : Array Slot), lv_has ls 3 [(0, .ref (q 0))] → W p l e rm6_remembers s m args below meth c H locs 0 0 Q (F0 m 56 ls []) := by
    intro H locs hP hD hS ls hl
    refine lv_bipush (v := (94 : Int32)) hx hb (zD_g DX6_remembers 35 rfl) (by decide) ?_
    refine lv_bipush (v := (17 : Int32)) hx hb (zD_g DX6_remembers 36 rfl) (by decide) ?_
    refine lv_aload_n hx hb (zD_g DX6_remembers 37 rfl) rfl (lv_at hl 0 rfl) ?_
    refine va_get (D := D) (ci := 5) (v := .ref (q 1)) (C := RX6) (T := TX6) (N := 19) hx hb hts in6_remembers_6 hown hK.1 hP 0 rfl rfl 0 (by decide) (hts _ (List.mem_of_getElem? (i := 1) rfl)) (fun _ h9 => h9) rfl (zD_g DX6_remembers 38 rfl) ?_
    refine lv_iconst (v := (3 : Int32)) hx hb (zD_g DX6_remembers 39 rfl) (by decide) ?_
    refine z_iald (k := 3) hx hb hK.1 hP 1 0 rfl rfl (by unfold vp_in; decide) rfl (zD_g DX6_remembers 40 rfl) ?_
    refine lv_imul hx hb (zD_g DX6_remembers 41 rfl) ?_
    refine lv_iadd hx hb (zD_g DX6_remembers 42 rfl) ?_
    refine lv_topi (fun x3 ex3 => ?_)
    replace hf := zl_s hf x3 ex3
    refine lv_istore_n (lv' := [(1, .int x3), (0, .ref (q 0))]) hx hb (zD_g DX6_remembers 43 rfl) rfl hl (by decide) rfl (fun ls hl => ?_)
    refine lv_iconst (v := (0 : Int32)) hx hb (zD_g DX6_remembers 44 rfl) (by decide) ?_
    refine lv_istore_n (lv' := [(2, .int (0 : Int32)), (1, .int x3), (0, .ref (q 0))]) hx hb (zD_g DX6_remembers 45 rfl) rfl hl (by decide) rfl (fun ls hl => ?_)
    have hL6 : ∀ (k6 : (Nat → Int32) → Option ((Nat → Int32))) (hk6 : ∀ (book_11 : Nat → Int32), k6 book_11 = some d_book → ∀ (H : Heap) (locs : List Loc), va_P D vwCl (cMod cI cZ q quiet mabove mbelow typed mat mstart mtoken mvalue many book_11 images mkept aside refused text items drawn row best) H → va_D A (cMod cI cZ q quiet mabove mbelow typed mat mstart mtoken mvalue many book_11 images mkept aside refused text items drawn row best) → va_S A s.heap H locs → ∀ (ls : Array Slot), lv_has ls 3 [(0, .ref (q 0)), (1, .int x3)] → W p l e rm6_remembers s m args below meth c H locs 0 0 Q (F0 m 100 ls [])) (n6 : Nat) (y4 : Int32) (book_5 : Nat → Int32), L6_remembers_71 k6 x3 n6 y4 book_5 = some d_book → ∀ (H : Heap) (locs : List Loc), va_P D vwCl (cMod cI cZ q quiet mabove mbelow typed mat mstart mtoken mvalue many book_5 images mkept aside refused text items drawn row best) H → va_D A (cMod cI cZ q quiet mabove mbelow typed mat mstart mtoken mvalue many book_5 images mkept aside refused text items drawn row best) → va_S A s.heap H locs → ∀ (ls : Array Slot), lv_has ls 3 [(0, .ref (q 0)), (1, .int x3), (2, .int y4)] → W p l e rm6_remembers s m args below meth c H locs 0 0 Q (F0 m 71 ls []) := by
      intro k6 hk6 n6
      induction n6 with
      | zero =>
        intro y4 book_5 hf
        cases hf
      | succ n6 ih6 =>
        intro y4 book_5 hf H locs hP hD hS ls hl
        rw [L6_remembers_71] at hf
        refine lv_iload_n hx hb (zD_g DX6_remembers 46 rfl) rfl (lv_at hl 2 rfl) ?_
        refine lv_bipush (v := (8 : Int32)) hx hb (zD_g DX6_remembers 47 rfl) (by decide) ?_
        refine lv_icmp_ge (tgt := 100) hx hb (zD_g DX6_remembers 48 rfl) (by decide) (fun c7 => ?_) (fun c7 => ?_)
        · replace hf := z_t c7 hf
          exact hk6 _ hf _ _ hP hD hS ls (lv_sub hl [0, 1] rfl)
        · replace hf := z_f c7 hf
          refine lv_aload_n hx hb (zD_g DX6_remembers 49 rfl) rfl (lv_at hl 0 rfl) ?_
          refine va_get (D := D) (ci := 5) (v := .ref (q 1)) (C := RX6) (T := TX6) (N := 19) hx hb hts in6_remembers_6 hown hK.1 hP 0 rfl rfl 0 (by decide) (hts _ (List.mem_of_getElem? (i := 1) rfl)) (fun _ h9 => h9) rfl (zD_g DX6_remembers 50 rfl) ?_
          refine lv_iload_n hx hb (zD_g DX6_remembers 51 rfl) rfl (lv_at hl 1 rfl) ?_
          refine lv_iload_n hx hb (zD_g DX6_remembers 52 rfl) rfl (lv_at hl 2 rfl) ?_
          refine lv_iadd hx hb (zD_g DX6_remembers 53 rfl) ?_
          refine lv_aload_n hx hb (zD_g DX6_remembers 54 rfl) rfl (lv_at hl 0 rfl) ?_
          refine va_get (D := D) (ci := 5) (v := .ref (q 1)) (C := RX6) (T := TX6) (N := 19) hx hb hts in6_remembers_6 hown hK.1 hP 0 rfl rfl 0 (by decide) (hts _ (List.mem_of_getElem? (i := 1) rfl)) (fun _ h9 => h9) rfl (zD_g DX6_remembers 55 rfl) ?_
          refine lv_bipush (v := (36 : Int32)) hx hb (zD_g DX6_remembers 56 rfl) (by decide) ?_
          refine lv_iload_n hx hb (zD_g DX6_remembers 57 rfl) rfl (lv_at hl 2 rfl) ?_
          refine lv_iadd hx hb (zD_g DX6_remembers 58 rfl) ?_
          obtain ⟨h8, hf⟩ := zg_s hf
          refine z_iald (k := ((36 : Int32) + y4).toNatClampNeg) hx hb hK.1 hP 1 0 rfl rfl h8 rfl (zD_g DX6_remembers 59 rfl) ?_
          refine lv_topi (fun x9 ex9 => ?_)
          replace hf := zl_s hf x9 ex9
          obtain ⟨h10, hf⟩ := zg_s hf
          refine z_iast (k := (x3 + y4).toNatClampNeg) (ws' := (cMod cI cZ q quiet mabove mbelow typed mat mstart mtoken mvalue many (upd book_5 ((x3 + y4).toNatClampNeg) x9) images mkept aside refused text items drawn row best)) hx hb hK.1 hP hD hS 1 0 rfl rfl h10 rfl rfl (zD_g DX6_remembers 60 rfl) (fun H locs hP hD hS => ?_)
          refine lv_iinc (v := y4 + 1) (lv' := [(2, .int (y4 + 1)), (0, .ref (q 0)), (1, .int x3)]) (k := 2) hx hb (zD_g DX6_remembers 61 rfl) hl rfl rfl (by decide) rfl (fun ls hl => ?_)
          refine lv_goto (tgt := 71) hx hb (zD_g DX6_remembers 62 rfl) (by decide) ?_
          exact ih6 _ _ hf _ _ hP hD hS ls (lv_sub hl [1, 2, 0] rfl)
    refine hL6 _ (fun book_11 hf H locs hP hD hS ls hl => ?_) _ _ _ hf _ _ hP hD hS ls (lv_sub hl [2, 1, 0] rfl)
    refine lv_iconst (v := (0 : Int32)) hx hb (zD_g DX6_remembers 63 rfl) (by decide) ?_
    refine lv_istore_n (lv' := [(2, .int (0 : Int32)), (0, .ref (q 0)), (1, .int x3)]) hx hb (zD_g DX6_remembers 64 rfl) rfl hl (by decide) rfl (fun ls hl => ?_)
    have hL14 : ∀ (k14 : (Nat → Int32) → Option ((Nat → Int32))) (hk14 : ∀ (book_19 : Nat → Int32), k14 book_19 = some d_book → ∀ (H : Heap) (locs : List Loc), va_P D vwCl (cMod cI cZ q quiet mabove mbelow typed mat mstart mtoken mvalue many book_19 images mkept aside refused text items drawn row best) H → va_D A (cMod cI cZ q quiet mabove mbelow typed mat mstart mtoken mvalue many book_19 images mkept aside refused text items drawn row best) → va_S A s.heap H locs → ∀ (ls : Array Slot), lv_has ls 3 [(0, .ref (q 0)), (1, .int x3)] → W p l e rm6_remembers s m args below meth c H locs 0 0 Q (F0 m 134 ls [])) (n14 : Nat) (y12 : Int32) (book_13 : Nat → Int32), L6_remembers_102 k14 x3 n14 y12 book_13 = some d_book → ∀ (H : Heap) (locs : List Loc), va_P D vwCl (cMod cI cZ q quiet mabove mbelow typed mat mstart mtoken mvalue many book_13 images mkept aside refused text items drawn row best) H → va_D A (cMod cI cZ q quiet mabove mbelow typed mat mstart mtoken mvalue many book_13 images mkept aside refused text items drawn row best) → va_S A s.heap H locs → ∀ (ls : Array Slot), lv_has ls 3 [(0, .ref (q 0)), (1, .int x3), (2, .int y12)] → W p l e rm6_remembers s m args below meth c H locs 0 0 Q (F0 m 102 ls []) := by
      intro k14 hk14 n14
      induction n14 with
      | zero =>
        intro y12 book_13 hf
        cases hf
      | succ n14 ih14 =>
        intro y12 book_13 hf H locs hP hD hS ls hl
        rw [L6_remembers_102] at hf
        refine lv_iload_n hx hb (zD_g DX6_remembers 65 rfl) rfl (lv_at hl 2 rfl) ?_
        refine lv_bipush (v := (6 : Int32)) hx hb (zD_g DX6_remembers 66 rfl) (by decide) ?_
        refine lv_icmp_ge (tgt := 134) hx hb (zD_g DX6_remembers 67 rfl) (by decide) (fun c15 => ?_) (fun c15 => ?_)
        · replace hf := z_t c15 hf
          exact hk14 _ hf _ _ hP hD hS ls (lv_sub hl [0, 1] rfl)
        · replace hf := z_f c15 hf
          refine lv_aload_n hx hb (zD_g DX6_remembers 68 rfl) rfl (lv_at hl 0 rfl) ?_
          refine va_get (D := D) (ci := 5) (v := .ref (q 1)) (C := RX6) (T := TX6) (N := 19) hx hb hts in6_remembers_6 hown hK.1 hP 0 rfl rfl 0 (by decide) (hts _ (List.mem_of_getElem? (i := 1) rfl)) (fun _ h9 => h9) rfl (zD_g DX6_remembers 69 rfl) ?_
          refine lv_iload_n hx hb (zD_g DX6_remembers 70 rfl) rfl (lv_at hl 1 rfl) ?_
          refine lv_bipush (v := (8 : Int32)) hx hb (zD_g DX6_remembers 71 rfl) (by decide) ?_
          refine lv_iadd hx hb (zD_g DX6_remembers 72 rfl) ?_
          refine lv_iload_n hx hb (zD_g DX6_remembers 73 rfl) rfl (lv_at hl 2 rfl) ?_
          refine lv_iadd hx hb (zD_g DX6_remembers 74 rfl) ?_
          refine lv_aload_n hx hb (zD_g DX6_remembers 75 rfl) rfl (lv_at hl 0 rfl) ?_
          refine va_get (D := D) (ci := 5) (v := .ref (q 1)) (C := RX6) (T := TX6) (N := 19) hx hb hts in6_remembers_6 hown hK.1 hP 0 rfl rfl 0 (by decide) (hts _ (List.mem_of_getElem? (i := 1) rfl)) (fun _ h9 => h9) rfl (zD_g DX6_remembers 76 rfl) ?_
          refine lv_bipush (v := (68 : Int32)) hx hb (zD_g DX6_remembers 77 rfl) (by decide) ?_
          refine lv_iload_n hx hb (zD_g DX6_remembers 78 rfl) rfl (lv_at hl 2 rfl) ?_
          refine lv_iadd hx hb (zD_g DX6_remembers 79 rfl) ?_
          obtain ⟨h16, hf⟩ := zg_s hf
          refine z_iald (k := ((68 : Int32) + y12).toNatClampNeg) hx hb hK.1 hP 1 0 rfl rfl h16 rfl (zD_g DX6_remembers 80 rfl) ?_
          refine lv_topi (fun x17 ex17 => ?_)
          replace hf := zl_s hf x17 ex17
          obtain ⟨h18, hf⟩ := zg_s hf
          refine z_iast (k := ((x3 + (8 : Int32)) + y12).toNatClampNeg) (ws' := (cMod cI cZ q quiet mabove mbelow typed mat mstart mtoken mvalue many (upd book_13 (((x3 + (8 : Int32)) + y12).toNatClampNeg) x17) images mkept aside refused text items drawn row best)) hx hb hK.1 hP hD hS 1 0 rfl rfl h18 rfl rfl (zD_g DX6_remembers 81 rfl) (fun H locs hP hD hS => ?_)
          refine lv_iinc (v := y12 + 1) (lv' := [(2, .int (y12 + 1)), (0, .ref (q 0)), (1, .int x3)]) (k := 2) hx hb (zD_g DX6_remembers 82 rfl) hl rfl rfl (by decide) rfl (fun ls hl => ?_)
          refine lv_goto (tgt := 102) hx hb (zD_g DX6_remembers 83 rfl) (by decide) ?_
          exact ih14 _ _ hf _ _ hP hD hS ls (lv_sub hl [1, 2, 0] rfl)
    refine hL14 _ (fun book_19 hf H locs hP hD hS ls hl => ?_) _ _ _ hf _ _ hP hD hS ls (lv_sub hl [1, 2, 0] rfl)
    refine lv_aload_n hx hb (zD_g DX6_remembers 84 rfl) rfl (lv_at hl 0 rfl) ?_
    refine va_get (D := D) (ci := 5) (v := .ref (q 1)) (C := RX6) (T := TX6) (N := 19) hx hb hts in6_remembers_6 hown hK.1 hP 0 rfl rfl 0 (by decide) (hts _ (List.mem_of_getElem? (i := 1) rfl)) (fun _ h9 => h9) rfl (zD_g DX6_remembers 85 rfl) ?_
    refine lv_iload_n hx hb (zD_g DX6_remembers 86 rfl) rfl (lv_at hl 1 rfl) ?_
    refine lv_bipush (v := (14 : Int32)) hx hb (zD_g DX6_remembers 87 rfl) (by decide) ?_
    refine lv_iadd hx hb (zD_g DX6_remembers 88 rfl) ?_
    refine lv_aload_n hx hb (zD_g DX6_remembers 89 rfl) rfl (lv_at hl 0 rfl) ?_
    refine va_get (D := D) (ci := 5) (v := .ref (q 1)) (C := RX6) (T := TX6) (N := 19) hx hb hts in6_remembers_6 hown hK.1 hP 0 rfl rfl 0 (by decide) (hts _ (List.mem_of_getElem? (i := 1) rfl)) (fun _ h9 => h9) rfl (zD_g DX6_remembers 90 rfl) ?_
    refine lv_iconst (v := (2 : Int32)) hx hb (zD_g DX6_remembers 91 rfl) (by decide) ?_
    refine z_iald (k := 2) hx hb hK.1 hP 1 0 rfl rfl (by unfold vp_in; decide) rfl (zD_g DX6_remembers 92 rfl) ?_
    refine lv_topi (fun x20 ex20 => ?_)
    replace hf := zl_s hf x20 ex20
    obtain ⟨h21, hf⟩ := zg_s hf
    refine z_iast (k := (x3 + (14 : Int32)).toNatClampNeg) (ws' := (cMod cI cZ q quiet mabove mbelow typed mat mstart mtoken mvalue many (upd book_19 ((x3 + (14 : Int32)).toNatClampNeg) x20) images mkept aside refused text items drawn row best)) hx hb hK.1 hP hD hS 1 0 rfl rfl h21 rfl rfl (zD_g DX6_remembers 93 rfl) (fun H locs hP hD hS => ?_)
    refine lv_aload_n hx hb (zD_g DX6_remembers 94 rfl) rfl (lv_at hl 0 rfl) ?_
    refine va_get (D := D) (ci := 5) (v := .ref (q 1)) (C := RX6) (T := TX6) (N := 19) hx hb hts in6_remembers_6 hown hK.1 hP 0 rfl rfl 0 (by decide) (hts _ (List.mem_of_getElem? (i := 1) rfl)) (fun _ h9 => h9) rfl (zD_g DX6_remembers 95 rfl) ?_
    refine lv_iload_n hx hb (zD_g DX6_remembers 96 rfl) rfl (lv_at hl 1 rfl) ?_
    refine lv_bipush (v := (15 : Int32)) hx hb (zD_g DX6_remembers 97 rfl) (by decide) ?_
    refine lv_iadd hx hb (zD_g DX6_remembers 98 rfl) ?_
    refine lv_aload_n hx hb (zD_g DX6_remembers 99 rfl) rfl (lv_at hl 0 rfl) ?_
    refine va_get (D := D) (ci := 5) (v := .ref (q 1)) (C := RX6) (T := TX6) (N := 19) hx hb hts in6_remembers_6 hown hK.1 hP 0 rfl rfl 0 (by decide) (hts _ (List.mem_of_getElem? (i := 1) rfl)) (fun _ h9 => h9) rfl (zD_g DX6_remembers 100 rfl) ?_
    refine lv_bipush (v := (92 : Int32)) hx hb (zD_g DX6_remembers 101 rfl) (by decide) ?_
    refine z_iald (k := 92) hx hb hK.1 hP 1 0 rfl rfl (by unfold vp_in; decide) rfl (zD_g DX6_remembers 102 rfl) ?_
    refine lv_topi (fun x22 ex22 => ?_)
    replace hf := zl_s hf x22 ex22
    obtain ⟨h23, hf⟩ := zg_s hf
    refine z_iast (k := (x3 + (15 : Int32)).toNatClampNeg) (ws' := (cMod cI cZ q quiet mabove mbelow typed mat mstart mtoken mvalue many (upd (upd book_19 ((x3 + (14 : Int32)).toNatClampNeg) x20) ((x3 + (15 : Int32)).toNatClampNeg) x22) images mkept aside refused text items drawn row best)) hx hb hK.1 hP hD hS 1 0 rfl rfl h23 rfl rfl (zD_g DX6_remembers 103 rfl) (fun H locs hP hD hS => ?_)
    refine lv_aload_n hx hb (zD_g DX6_remembers 104 rfl) rfl (lv_at hl 0 rfl) ?_
    refine va_get (D := D) (ci := 5) (v := .ref (q 1)) (C := RX6) (T := TX6) (N := 19) hx hb hts in6_remembers_6 hown hK.1 hP 0 rfl rfl 0 (by decide) (hts _ (List.mem_of_getElem? (i := 1) rfl)) (fun _ h9 => h9) rfl (zD_g DX6_remembers 105 rfl) ?_
    refine lv_iload_n hx hb (zD_g DX6_remembers 106 rfl) rfl (lv_at hl 1 rfl) ?_
    refine lv_bipush (v := (16 : Int32)) hx hb (zD_g DX6_remembers 107 rfl) (by decide) ?_
    refine lv_iadd hx hb (zD_g DX6_remembers 108 rfl) ?_
    refine lv_aload_n hx hb (zD_g DX6_remembers 109 rfl) rfl (lv_at hl 0 rfl) ?_
    refine va_get (D := D) (ci := 5) (v := .ref (q 1)) (C := RX6) (T := TX6) (N := 19) hx hb hts in6_remembers_6 hown hK.1 hP 0 rfl rfl 0 (by decide) (hts _ (List.mem_of_getElem? (i := 1) rfl)) (fun _ h9 => h9) rfl (zD_g DX6_remembers 110 rfl) ?_
    refine lv_bipush (v := (93 : Int32)) hx hb (zD_g DX6_remembers 111 rfl) (by decide) ?_
    refine z_iald (k := 93) hx hb hK.1 hP 1 0 rfl rfl (by unfold vp_in; decide) rfl (zD_g DX6_remembers 112 rfl) ?_
    refine lv_topi (fun x24 ex24 => ?_)
    replace hf := zl_s hf x24 ex24
    obtain ⟨h25, hf⟩ := zg_s hf
    refine z_iast (k := (x3 + (16 : Int32)).toNatClampNeg) (ws' := (cMod cI cZ q quiet mabove mbelow typed mat mstart mtoken mvalue many (upd (upd (upd book_19 ((x3 + (14 : Int32)).toNatClampNeg) x20) ((x3 + (15 : Int32)).toNatClampNeg) x22) ((x3 + (16 : Int32)).toNatClampNeg) x24) images mkept aside refused text items drawn row best)) hx hb hK.1 hP hD hS 1 0 rfl rfl h25 rfl rfl (zD_g DX6_remembers 113 rfl) (fun H locs hP hD hS => ?_)
    refine lv_aload_n hx hb (zD_g DX6_remembers 114 rfl) rfl (lv_at hl 0 rfl) ?_
    refine va_get (D := D) (ci := 5) (v := .ref (q 1)) (C := RX6) (T := TX6) (N := 19) hx hb hts in6_remembers_6 hown hK.1 hP 0 rfl rfl 0 (by decide) (hts _ (List.mem_of_getElem? (i := 1) rfl)) (fun _ h9 => h9) rfl (zD_g DX6_remembers 115 rfl) ?_
    refine lv_iconst (v := (3 : Int32)) hx hb (zD_g DX6_remembers 116 rfl) (by decide) ?_
    refine lv_dup2_11 hx hb (zD_g DX6_remembers 117 rfl) rfl rfl ?_
    refine z_iald (k := 3) hx hb hK.1 hP 1 0 rfl rfl (by unfold vp_in; decide) rfl (zD_g DX6_remembers 118 rfl) ?_
    refine lv_iconst (v := (1 : Int32)) hx hb (zD_g DX6_remembers 119 rfl) (by decide) ?_
    refine lv_iadd hx hb (zD_g DX6_remembers 120 rfl) ?_
    refine lv_topi (fun x26 ex26 => ?_)
    replace hf := zl_s hf x26 ex26
    refine z_iast (k := 3) (ws' := (cMod cI cZ q quiet mabove mbelow typed mat mstart mtoken mvalue many (upd (upd (upd (upd book_19 ((x3 + (14 : Int32)).toNatClampNeg) x20) ((x3 + (15 : Int32)).toNatClampNeg) x22) ((x3 + (16 : Int32)).toNatClampNeg) x24) 3 x26) images mkept aside refused text items drawn row best)) hx hb hK.1 hP hD hS 1 0 rfl rfl (by unfold vp_in; decide) rfl rfl (zD_g DX6_remembers 121 rfl) (fun H locs hP hD hS => ?_)
    cases hf
    exact hret _ _ _ _ hP hD hS (zD_g DX6_remembers 122 rfl)
  clear hf
  have hf := hr27
  refine lv_icmp_ne (tgt := 56) hx hb (zD_g DX6_remembers 5 rfl) (by decide) (fun c1 => ?_) (fun c1 => ?_)
  · replace hf := z_f c1 hf
    cases hf
    exact hJ27 _ _ hP hD hS ls (lv_sub hl [0] rfl)
  · replace hf := z_t c1 hf
    refine lv_iconst (v := (0 : Int32)) hx hb (zD_g DX6_remembers 6 rfl) (by decide) ?_
    refine lv_istore_n (lv' := [(1, .int (0 : Int32)), (0, .ref (q 0))]) hx hb (zD_g DX6_remembers 7 rfl) rfl hl (by decide) rfl (fun ls hl => ?_)
    have hL30 : ∀ (k30 : (Nat → Int32) → Option ((Nat → Int32))) (hk30 : ∀ (book_35 : Nat → Int32), k30 book_35 = some book_2 → ∀ (H : Heap) (locs : List Loc), va_P D vwCl (cMod cI cZ q quiet mabove mbelow typed mat mstart mtoken mvalue many book_35 images mkept aside refused text items drawn row best) H → va_D A (cMod cI cZ q quiet mabove mbelow typed mat mstart mtoken mvalue many book_35 images mkept aside refused text items drawn row best) → va_S A s.heap H locs → ∀ (ls : Array Slot), lv_has ls 3 [(0, .ref (q 0))] → W p l e rm6_remembers s m args below meth c H locs 0 0 Q (F0 m 46 ls [])) (n30 : Nat) (y28 : Int32) (book_29 : Nat → Int32), L6_remembers_13 k30 n30 y28 book_29 = some book_2 → ∀ (H : Heap) (locs : List Loc), va_P D vwCl (cMod cI cZ q quiet mabove mbelow typed mat mstart mtoken mvalue many book_29 images mkept aside refused text items drawn row best) H → va_D A (cMod cI cZ q quiet mabove mbelow typed mat mstart mtoken mvalue many book_29 images mkept aside refused text items drawn row best) → va_S A s.heap H locs → ∀ (ls : Array Slot), lv_has ls 3 [(0, .ref (q 0)), (1, .int y28)] → W p l e rm6_remembers s m args below meth c H locs 0 0 Q (F0 m 13 ls []) := by
      intro k30 hk30 n30
      induction n30 with
      | zero =>
        intro y28 book_29 hf
        cases hf
      | succ n30 ih30 =>
        intro y28 book_29 hf H locs hP hD hS ls hl
        rw [L6_remembers_13] at hf
        refine lv_iload_n hx hb (zD_g DX6_remembers 8 rfl) rfl (lv_at hl 1 rfl) ?_
        refine lv_bipush (v := (119 : Int32)) hx hb (zD_g DX6_remembers 9 rfl) (by decide) ?_
        refine lv_icmp_ge (tgt := 46) hx hb (zD_g DX6_remembers 10 rfl) (by decide) (fun c31 => ?_) (fun c31 => ?_)
        · replace hf := z_t c31 hf
          exact hk30 _ hf _ _ hP hD hS ls (lv_sub hl [0] rfl)
        · replace hf := z_f c31 hf
          refine lv_aload_n hx hb (zD_g DX6_remembers 11 rfl) rfl (lv_at hl 0 rfl) ?_
          refine va_get (D := D) (ci := 5) (v := .ref (q 1)) (C := RX6) (T := TX6) (N := 19) hx hb hts in6_remembers_6 hown hK.1 hP 0 rfl rfl 0 (by decide) (hts _ (List.mem_of_getElem? (i := 1) rfl)) (fun _ h9 => h9) rfl (zD_g DX6_remembers 12 rfl) ?_
          refine lv_bipush (v := (94 : Int32)) hx hb (zD_g DX6_remembers 13 rfl) (by decide) ?_
          refine lv_iload_n hx hb (zD_g DX6_remembers 14 rfl) rfl (lv_at hl 1 rfl) ?_
          refine lv_iadd hx hb (zD_g DX6_remembers 15 rfl) ?_
          refine lv_aload_n hx hb (zD_g DX6_remembers 16 rfl) rfl (lv_at hl 0 rfl) ?_
          refine va_get (D := D) (ci := 5) (v := .ref (q 1)) (C := RX6) (T := TX6) (N := 19) hx hb hts in6_remembers_6 hown hK.1 hP 0 rfl rfl 0 (by decide) (hts _ (List.mem_of_getElem? (i := 1) rfl)) (fun _ h9 => h9) rfl (zD_g DX6_remembers 17 rfl) ?_
          refine lv_bipush (v := (94 : Int32)) hx hb (zD_g DX6_remembers 18 rfl) (by decide) ?_
          refine lv_iload_n hx hb (zD_g DX6_remembers 19 rfl) rfl (lv_at hl 1 rfl) ?_
          refine lv_iadd hx hb (zD_g DX6_remembers 20 rfl) ?_
          refine lv_bipush (v := (17 : Int32)) hx hb (zD_g DX6_remembers 21 rfl) (by decide) ?_
          refine lv_iadd hx hb (zD_g DX6_remembers 22 rfl) ?_
          obtain ⟨h32, hf⟩ := zg_s hf
          refine z_iald (k := (((94 : Int32) + y28) + (17 : Int32)).toNatClampNeg) hx hb hK.1 hP 1 0 rfl rfl h32 rfl (zD_g DX6_remembers 23 rfl) ?_
          refine lv_topi (fun x33 ex33 => ?_)
          replace hf := zl_s hf x33 ex33
          obtain ⟨h34, hf⟩ := zg_s hf
          refine z_iast (k := ((94 : Int32) + y28).toNatClampNeg) (ws' := (cMod cI cZ q quiet mabove mbelow typed mat mstart mtoken mvalue many (upd book_29 (((94 : Int32) + y28).toNatClampNeg) x33) images mkept aside refused text items drawn row best)) hx hb hK.1 hP hD hS 1 0 rfl rfl h34 rfl rfl (zD_g DX6_remembers 24 rfl) (fun H locs hP hD hS => ?_)
          refine lv_iinc (v := y28 + 1) (lv' := [(1, .int (y28 + 1)), (0, .ref (q 0))]) (k := 1) hx hb (zD_g DX6_remembers 25 rfl) hl rfl rfl (by decide) rfl (fun ls hl => ?_)
          refine lv_goto (tgt := 13) hx hb (zD_g DX6_remembers 26 rfl) (by decide) ?_
          exact ih30 _ _ hf _ _ hP hD hS ls (lv_sub hl [1, 0] rfl)
    refine hL30 _ (fun book_35 hf H locs hP hD hS ls hl => ?_) _ _ _ hf _ _ hP hD hS ls (lv_sub hl [1, 0] rfl)
    refine lv_aload_n hx hb (zD_g DX6_remembers 27 rfl) rfl (lv_at hl 0 rfl) ?_
    refine va_get (D := D) (ci := 5) (v := .ref (q 1)) (C := RX6) (T := TX6) (N := 19) hx hb hts in6_remembers_6 hown hK.1 hP 0 rfl rfl 0 (by decide) (hts _ (List.mem_of_getElem? (i := 1) rfl)) (fun _ h9 => h9) rfl (zD_g DX6_remembers 28 rfl) ?_
    refine lv_iconst (v := (3 : Int32)) hx hb (zD_g DX6_remembers 29 rfl) (by decide) ?_
    refine lv_dup2_11 hx hb (zD_g DX6_remembers 30 rfl) rfl rfl ?_
    refine z_iald (k := 3) hx hb hK.1 hP 1 0 rfl rfl (by unfold vp_in; decide) rfl (zD_g DX6_remembers 31 rfl) ?_
    refine lv_iconst (v := (1 : Int32)) hx hb (zD_g DX6_remembers 32 rfl) (by decide) ?_
    refine lv_isub hx hb (zD_g DX6_remembers 33 rfl) ?_
    refine lv_topi (fun x36 ex36 => ?_)
    replace hf := zl_s hf x36 ex36
    refine z_iast (k := 3) (ws' := (cMod cI cZ q quiet mabove mbelow typed mat mstart mtoken mvalue many (upd book_35 3 x36) images mkept aside refused text items drawn row best)) hx hb hK.1 hP hD hS 1 0 rfl rfl (by unfold vp_in; decide) rfl rfl (zD_g DX6_remembers 34 rfl) (fun H locs hP hD hS => ?_)
    cases hf
    exact hJ27 _ _ hP hD hS ls (lv_sub hl [0] rfl)
abbrev dlX6_put : List (Nat × Instr × Nat) := [(0, .aload_n 0, 1), (1, .iload_n 1, 1), (2, .invokevirtual 81, 3), (5, .ifCond .eq 11, 3), (8, .aload_n 0, 1), (9, .iload_n 2, 1), (10, .invokevirtual 84, 3), (13, .ifCond .ne 8, 3), (16, .aload_n 0, 1), (17, .invokevirtual 66, 3), (20, .ireturn, 1), (21, .aload_n 0, 1), (22, .getfield 7, 3), (25, .bipush 36, 2), (27, .iload_n 1, 1), (28, .iadd, 1), (29, .iaload, 1), (30, .iconst (-1), 1), (31, .if_icmp .ne 29, 3), (34, .aload_n 0, 1), (35, .aload_n 0, 1), (36, .iload_n 2, 1), (37, .invokevirtual 87, 3), (40, .iconst 1, 1), (41, .iload_n 1, 1), (42, .ishl, 1), (43, .ior, 1), (44, .iconst 0, 1), (45, .invokevirtual 91, 3), (48, .aload_n 0, 1), (49, .getfield 7, 3), (52, .bipush 56, 2), (54, .iload_n 2, 1), (55, .iadd, 1), (56, .iaload, 1), (57, .if_icmp .le 8, 3), (60, .aload_n 0, 1), (61, .invokevirtual 94, 3), (64, .ireturn, 1), (65, .aload_n 0, 1), (66, .invokevirtual 97, 3), (69, .aload_n 0, 1), (70, .getfield 7, 3), (73, .bipush 36, 2), (75, .iload_n 1, 1), (76, .iadd, 1), (77, .iload_n 2, 1), (78, .iastore, 1), (79, .iconst 1, 1), (80, .ireturn, 1)]
theorem DX6_put : zD cX6_put dlX6_put = true := by decide +kernel
set_option maxRecDepth 20000 in
theorem ggX6_put_X6_isThing : GoodIn wsX6_put wsX6_isThing := goodIn_r _ [6, 1, 7, 8, 5, 9, 40, 41, 42, 43, 44, 45, 46, 47, 48, 49, 50, 51, 52, 53, 54, 55, 56, 57, 58] (by decide +kernel) (by decide +kernel)
set_option maxRecDepth 20000 in
theorem gX6_put_X6_isThing : GoodIn wsX6_put (wsV RX6 81 RX6 yX6_isThing wsX6_isThing) := goodIn_app (goodIn_of _ (by decide +kernel)) ggX6_put_X6_isThing
set_option maxRecDepth 20000 in
theorem ggX6_put_X6_isGift : GoodIn wsX6_put wsX6_isGift := goodIn_r _ [13, 1, 7, 8, 5, 9, 40, 41, 42, 43, 44, 45, 46, 47, 48, 49, 50, 51, 52, 53, 54, 55, 56, 57, 58] (by decide +kernel) (by decide +kernel)
set_option maxRecDepth 20000 in
theorem gX6_put_X6_isGift : GoodIn wsX6_put (wsV RX6 84 RX6 yX6_isGift wsX6_isGift) := goodIn_app (goodIn_of _ (by decide +kernel)) ggX6_put_X6_isGift
set_option maxRecDepth 20000 in
theorem ggX6_put_X6_bad : GoodIn wsX6_put wsX6_bad := goodIn_r _ [17, 18, 19, 20, 5, 21, 22, 23, 40, 41, 42, 43, 44, 45, 46, 47, 48, 49, 50, 51, 52, 53, 54, 55, 56, 57, 58] (by decide +kernel) (by decide +kernel)
set_option maxRecDepth 20000 in
theorem gX6_put_X6_bad : GoodIn wsX6_put (wsV RX6 66 RX6 yX6_bad wsX6_bad) := goodIn_app (goodIn_of _ (by decide +kernel)) ggX6_put_X6_bad
set_option maxRecDepth 20000 in
theorem ggX6_put_X6_thingsIn : GoodIn wsX6_put wsX6_thingsIn := goodIn_r _ [27, 1, 40, 41, 42, 43, 44, 45, 46, 47, 48, 49, 50, 51, 52, 53, 54, 55, 56, 57, 58] (by decide +kernel) (by decide +kernel)
set_option maxRecDepth 20000 in
theorem gX6_put_X6_thingsIn : GoodIn wsX6_put (wsV RX6 87 RX6 yX6_thingsIn wsX6_thingsIn) := goodIn_app (goodIn_of _ (by decide +kernel)) ggX6_put_X6_thingsIn
set_option maxRecDepth 20000 in
theorem ggX6_put_X6_sumOf : GoodIn wsX6_put wsX6_sumOf := goodIn_r _ [31, 1, 40, 41, 42, 43, 44, 45, 46, 47, 48, 49, 50, 51, 52, 53, 54, 55, 56, 57, 58] (by decide +kernel) (by decide +kernel)
set_option maxRecDepth 20000 in
theorem gX6_put_X6_sumOf : GoodIn wsX6_put (wsV RX6 91 RX6 yX6_sumOf wsX6_sumOf) := goodIn_app (goodIn_of _ (by decide +kernel)) ggX6_put_X6_sumOf
set_option maxRecDepth 20000 in
theorem ggX6_put_X6_no : GoodIn wsX6_put wsX6_no := goodIn_r _ [35, 18, 19, 20, 5, 21, 22, 23, 40, 41, 42, 43, 44, 45, 46, 47, 48, 49, 50, 51, 52, 53, 54, 55, 56, 57, 58] (by decide +kernel) (by decide +kernel)
set_option maxRecDepth 20000 in
theorem gX6_put_X6_no : GoodIn wsX6_put (wsV RX6 94 RX6 yX6_no wsX6_no) := goodIn_app (goodIn_of _ (by decide +kernel)) ggX6_put_X6_no
set_option maxRecDepth 20000 in
theorem ggX6_put_X6_remembers : GoodIn wsX6_put wsX6_remembers := goodIn_r _ [39, 1, 40, 41, 42, 43, 44, 45, 46, 47, 48, 49, 50, 51, 52, 53, 54, 55, 56, 57, 58] (by decide +kernel) (by decide +kernel)
set_option maxRecDepth 20000 in
theorem gX6_put_X6_remembers : GoodIn wsX6_put (wsV RX6 97 RX6 yX6_remembers wsX6_remembers) := goodIn_app (goodIn_of _ (by decide +kernel)) ggX6_put_X6_remembers
theorem hd6_put : yX6_put.cls = RX6 ∧ yX6_put.cls ≠ "java/lang/invoke/MethodHandle" ∧ yX6_put.cls ≠ "java/lang/invoke/VarHandle" ∧ (parseMethodDescriptor yX6_put.desc).map (fun d => d.parameters.length) = some 2 := by decide +kernel
abbrev rm6_put : Room := { frames := 2, cells := 0, slots := 0, locals := 46 }
theorem in6_put_6 : ∀ w ∈ wsX60, w ∈ wsX6_put := fun w h => List.mem_cons_of_mem _ (List.mem_append_right _ h)
set_option maxHeartbeats 4000000 in
set_option maxRecDepth 100000 in
theorem c6_put {l : Launch} {D : va_G} {cI cZ cB : ClassId} {q : Nat → Nat} {sz : Nat} {quiet : Int32} {mabove : Int64} {mbelow : Int64} {typed : Int32} {mat : Int32} {mstart : Int32} {mtoken : Int32} {mvalue : Int32} {many : Int32} {book : Nat → Int32} {images : Nat → Int32} {mkept : Nat → Int32} {aside : Nat → Int32} {refused : Nat → Int32} {text : Nat → Int32} {items : Nat → Int32} {drawn : Nat → Int32} {row : Nat → Int32} {best : Nat → Int32} {a_t : Int32} {a_g : Int32} {r : Int32} {d_book : Nat → Int32} {d_refused : Nat → Int32} (hf : f6_put quiet book refused a_t a_g = some (r, d_book, d_refused)) : Met l yX6_put wsX6_put rm6_put (zPm D cI cZ cB [.ref (q 0), .int a_t, .int a_g] sz (cMod cI cZ q quiet mabove mbelow typed mat mstart mtoken mvalue many book images mkept aside refused text items drawn row best)) (zQm D (some (.int r)) (cMod cI cZ q quiet mabove mbelow typed mat mstart mtoken mvalue many d_book images mkept aside d_refused text items drawn row best) (va_A (cMod cI cZ q quiet mabove mbelow typed mat mstart mtoken mvalue many book images mkept aside refused text items drawn row best) sz)) 0 0 (va_A (cMod cI cZ q quiet mabove mbelow typed mat mstart mtoken mvalue many book images mkept aside refused text items drawn row best) sz) := by
  unfold f6_put at hf
  refine z_mutI RX6 (by decide +kernel) rfl rfl (Nat.le_of_ble_eq_true rfl) ?_
  intro p e s m args below meth c Q A ls hx hb hml hown hts hK hP hD hS hA hret hl
  have hl : lv_has ls 3 [(0, .ref (q 0)), (1, .int a_t), (2, .int a_g)] := hl
  refine lv_aload_n hx hb (zD_g DX6_put 0 rfl) rfl (lv_at hl 0 rfl) ?_
  refine lv_iload_n hx hb (zD_g DX6_put 1 rfl) rfl (lv_at hl 1 rfl) ?_
  obtain ⟨r1, hc2, hf⟩ := zb1_s hf
  refine z_Vp (As := [.int a_t]) (rest := []) ⟨hx, hb, hml, hown, hts⟩ hK (c6_isThing (quiet := quiet) (mabove := mabove) (mbelow := mbelow) (typed := typed) (mat := mat) (mstart := mstart) (mtoken := mtoken) (mvalue := mvalue) (many := many) (book := book) (images := images) (mkept := mkept) (aside := aside) (refused := refused) (text := text) (items := items) (drawn := drawn) (row := row) (best := best) (q := q) hc2) (cwV 1 hts gX6_put_X6_isThing rfl rfl rfl hd6_isThing ⟨Nat.le_of_ble_eq_true rfl, Nat.le_of_ble_eq_true rfl⟩) hP rfl rfl rfl rfl hl.1 rfl rfl (Nat.le_of_ble_eq_true rfl) (zD_g DX6_put 2 rfl) ⟨Nat.zero_le _, Nat.zero_le _⟩ ?_
  refine lv_if_eq (tgt := 16) hx hb (zD_g DX6_put 3 rfl) (by decide) (fun c3 => ?_) (fun c3 => ?_)
  · replace hf := z_t c3 hf
    refine lv_aload_n hx hb (zD_g DX6_put 8 rfl) rfl (lv_at hl 0 rfl) ?_
    obtain ⟨r4, refused_5, hc6, hf⟩ := zb2_s hf
    refine z_Vm (As := []) (rest := []) (ws' := (cMod cI cZ q quiet mabove mbelow typed mat mstart mtoken mvalue many book images mkept aside refused_5 text items drawn row best)) ⟨hx, hb, hml, hown, hts⟩ hK (c6_bad (quiet := quiet) (mabove := mabove) (mbelow := mbelow) (typed := typed) (mat := mat) (mstart := mstart) (mtoken := mtoken) (mvalue := mvalue) (many := many) (book := book) (images := images) (mkept := mkept) (aside := aside) (refused := refused) (text := text) (items := items) (drawn := drawn) (row := row) (best := best) (q := q) hc6) (cwV 0 hts gX6_put_X6_bad rfl rfl rfl hd6_bad ⟨Nat.le_of_ble_eq_true rfl, Nat.le_of_ble_eq_true rfl⟩) hP hD hS hA 11 [0, 1, 2, 3, 4, 5, 6, 7, 8, 9, 10] [] [0, 1, 2, 3, 4, 5, 6, 7, 8, 9, 10] (by decide +kernel) rfl rfl rfl rfl rfl rfl rfl hl.1 rfl rfl (Nat.le_of_ble_eq_true rfl) (zD_g DX6_put 9 rfl) ⟨Nat.zero_le _, Nat.zero_le _⟩ (fun H locs hP hD hS => ?_)
    cases hf
    exact hret _ _ _ _ hP hD hS (zD_g DX6_put 10 rfl)
  · replace hf := z_f c3 hf
    refine lv_aload_n hx hb (zD_g DX6_put 4 rfl) rfl (lv_at hl 0 rfl) ?_
    refine lv_iload_n hx hb (zD_g DX6_put 5 rfl) rfl (lv_at hl 2 rfl) ?_
    obtain ⟨r7, hc8, hf⟩ := zb1_s hf
    refine z_Vp (As := [.int a_g]) (rest := []) ⟨hx, hb, hml, hown, hts⟩ hK (c6_isGift (quiet := quiet) (mabove := mabove) (mbelow := mbelow) (typed := typed) (mat := mat) (mstart := mstart) (mtoken := mtoken) (mvalue := mvalue) (many := many) (book := book) (images := images) (mkept := mkept) (aside := aside) (refused := refused) (text := text) (items := items) (drawn := drawn) (row := row) (best := best) (q := q) hc8) (cwV 1 hts gX6_put_X6_isGift rfl rfl rfl hd6_isGift ⟨Nat.le_of_ble_eq_true rfl, Nat.le_of_ble_eq_true rfl⟩) hP rfl rfl rfl rfl hl.1 rfl rfl (Nat.le_of_ble_eq_true rfl) (zD_g DX6_put 6 rfl) ⟨Nat.zero_le _, Nat.zero_le _⟩ ?_
    refine lv_if_ne (tgt := 21) hx hb (zD_g DX6_put 7 rfl) (by decide) (fun c9 => ?_) (fun c9 => ?_)
    · replace hf := z_f c9 hf
      refine lv_aload_n hx hb (zD_g DX6_put 11 rfl) rfl (lv_at hl 0 rfl) ?_
      refine va_get (D := D) (ci := 5) (v := .ref (q 1)) (C := RX6) (T := TX6) (N := 19) hx hb hts in6_put_6 hown hK.1 hP 0 rfl rfl 0 (by decide) (hts _ (List.mem_of_getElem? (i := 1) rfl)) (fun _ h9 => h9) rfl (zD_g DX6_put 12 rfl) ?_
      refine lv_bipush (v := (36 : Int32)) hx hb (zD_g DX6_put 13 rfl) (by decide) ?_
      refine lv_iload_n hx hb (zD_g DX6_put 14 rfl) rfl (lv_at hl 1 rfl) ?_
      refine lv_iadd hx hb (zD_g DX6_put 15 rfl) ?_
      obtain ⟨h10, hf⟩ := zg_s hf
      refine z_iald (k := ((36 : Int32) + a_t).toNatClampNeg) hx hb hK.1 hP 1 0 rfl rfl h10 rfl (zD_g DX6_put 16 rfl) ?_
      refine lv_iconst (v := (-1 : Int32)) hx hb (zD_g DX6_put 17 rfl) (by decide) ?_
      refine lv_icmp_ne (tgt := 60) hx hb (zD_g DX6_put 18 rfl) (by decide) (fun c11 => ?_) (fun c11 => ?_)
      · replace hf := z_f c11 hf
        refine lv_aload_n hx hb (zD_g DX6_put 36 rfl) rfl (lv_at hl 0 rfl) ?_
        obtain ⟨r12, refused_13, hc14, hf⟩ := zb2_s hf
        refine z_Vm (As := []) (rest := []) (ws' := (cMod cI cZ q quiet mabove mbelow typed mat mstart mtoken mvalue many book images mkept aside refused_13 text items drawn row best)) ⟨hx, hb, hml, hown, hts⟩ hK (c6_no (quiet := quiet) (mabove := mabove) (mbelow := mbelow) (typed := typed) (mat := mat) (mstart := mstart) (mtoken := mtoken) (mvalue := mvalue) (many := many) (book := book) (images := images) (mkept := mkept) (aside := aside) (refused := refused) (text := text) (items := items) (drawn := drawn) (row := row) (best := best) (q := q) hc14) (cwV 0 hts gX6_put_X6_no rfl rfl rfl hd6_no ⟨Nat.le_of_ble_eq_true rfl, Nat.le_of_ble_eq_true rfl⟩) hP hD hS hA 11 [0, 1, 2, 3, 4, 5, 6, 7, 8, 9, 10] [] [0, 1, 2, 3, 4, 5, 6, 7, 8, 9, 10] (by decide +kernel) rfl rfl rfl rfl rfl rfl rfl hl.1 rfl rfl (Nat.le_of_ble_eq_true rfl) (zD_g DX6_put 37 rfl) ⟨Nat.zero_le _, Nat.zero_le _⟩ (fun H locs hP hD hS => ?_)
        cases hf
        exact hret _ _ _ _ hP hD hS (zD_g DX6_put 38 rfl)
      · replace hf := z_t c11 hf
        refine lv_aload_n hx hb (zD_g DX6_put 19 rfl) rfl (lv_at hl 0 rfl) ?_
        refine lv_aload_n hx hb (zD_g DX6_put 20 rfl) rfl (lv_at hl 0 rfl) ?_
        refine lv_iload_n hx hb (zD_g DX6_put 21 rfl) rfl (lv_at hl 2 rfl) ?_
        obtain ⟨r15, hc16, hf⟩ := zb1_s hf
        refine z_Vp (As := [.int a_g]) (rest := [.ref (q 0)]) ⟨hx, hb, hml, hown, hts⟩ hK (c6_thingsIn (quiet := quiet) (mabove := mabove) (mbelow := mbelow) (typed := typed) (mat := mat) (mstart := mstart) (mtoken := mtoken) (mvalue := mvalue) (many := many) (book := book) (images := images) (mkept := mkept) (aside := aside) (refused := refused) (text := text) (items := items) (drawn := drawn) (row := row) (best := best) (q := q) hc16) (cwV 1 hts gX6_put_X6_thingsIn rfl rfl rfl hd6_thingsIn ⟨Nat.le_of_ble_eq_true rfl, Nat.le_of_ble_eq_true rfl⟩) hP rfl rfl rfl rfl hl.1 rfl rfl (Nat.le_of_ble_eq_true rfl) (zD_g DX6_put 22 rfl) ⟨Nat.zero_le _, Nat.zero_le _⟩ ?_
        refine lv_iconst (v := (1 : Int32)) hx hb (zD_g DX6_put 23 rfl) (by decide) ?_
        refine lv_iload_n hx hb (zD_g DX6_put 24 rfl) rfl (lv_at hl 1 rfl) ?_
        refine lv_ishl hx hb (zD_g DX6_put 25 rfl) ?_
        refine lv_ior hx hb (zD_g DX6_put 26 rfl) ?_
        refine lv_iconst (v := (0 : Int32)) hx hb (zD_g DX6_put 27 rfl) (by decide) ?_
        obtain ⟨r17, hc18, hf⟩ := zb1_s hf
        refine z_Vp (As := [.int (r15 ||| ((1 : Int32) <<< (a_t &&& 31))), .int (0 : Int32)]) (rest := []) ⟨hx, hb, hml, hown, hts⟩ hK (c6_sumOf (quiet := quiet) (mabove := mabove) (mbelow := mbelow) (typed := typed) (mat := mat) (mstart := mstart) (mtoken := mtoken) (mvalue := mvalue) (many := many) (book := book) (images := images) (mkept := mkept) (aside := aside) (refused := refused) (text := text) (items := items) (drawn := drawn) (row := row) (best := best) (q := q) hc18) (cwV 2 hts gX6_put_X6_sumOf rfl rfl rfl hd6_sumOf ⟨Nat.le_of_ble_eq_true rfl, Nat.le_of_ble_eq_true rfl⟩) hP rfl rfl rfl rfl hl.1 rfl rfl (Nat.le_of_ble_eq_true rfl) (zD_g DX6_put 28 rfl) ⟨Nat.zero_le _, Nat.zero_le _⟩ ?_
        refine lv_aload_n hx hb (zD_g DX6_put 29 rfl) rfl (lv_at hl 0 rfl) ?_
        refine va_get (D := D) (ci := 5) (v := .ref (q 1)) (C := RX6) (T := TX6) (N := 19) hx hb hts in6_put_6 hown hK.1 hP 0 rfl rfl 0 (by decide) (hts _ (List.mem_of_getElem? (i := 1) rfl)) (fun _ h9 => h9) rfl (zD_g DX6_put 30 rfl) ?_
        refine lv_bipush (v := (56 : Int32)) hx hb (zD_g DX6_put 31 rfl) (by decide) ?_
        refine lv_iload_n hx hb (zD_g DX6_put 32 rfl) rfl (lv_at hl 2 rfl) ?_
        refine lv_iadd hx hb (zD_g DX6_put 33 rfl) ?_
        obtain ⟨h19, hf⟩ := zg_s hf
        refine z_iald (k := ((56 : Int32) + a_g).toNatClampNeg) hx hb hK.1 hP 1 0 rfl rfl h19 rfl (zD_g DX6_put 34 rfl) ?_
        refine lv_icmp_le (tgt := 65) hx hb (zD_g DX6_put 35 rfl) (by decide) (fun c20 => ?_) (fun c20 => ?_)
        · replace hf := z_t c20 hf
          refine lv_aload_n hx hb (zD_g DX6_put 39 rfl) rfl (lv_at hl 0 rfl) ?_
          obtain ⟨book_21, hc22, hf⟩ := zb1_s hf
          refine z_Vm (As := []) (rest := []) (ws' := (cMod cI cZ q quiet mabove mbelow typed mat mstart mtoken mvalue many book_21 images mkept aside refused text items drawn row best)) ⟨hx, hb, hml, hown, hts⟩ hK (c6_remembers (quiet := quiet) (mabove := mabove) (mbelow := mbelow) (typed := typed) (mat := mat) (mstart := mstart) (mtoken := mtoken) (mvalue := mvalue) (many := many) (book := book) (images := images) (mkept := mkept) (aside := aside) (refused := refused) (text := text) (items := items) (drawn := drawn) (row := row) (best := best) (q := q) hc22) (cwV 0 hts gX6_put_X6_remembers rfl rfl rfl hd6_remembers ⟨Nat.le_of_ble_eq_true rfl, Nat.le_of_ble_eq_true rfl⟩) hP hD hS hA 11 [0, 1, 2, 3, 4, 5, 6, 7, 8, 9, 10] [] [0, 1, 2, 3, 4, 5, 6, 7, 8, 9, 10] (by decide +kernel) rfl rfl rfl rfl rfl rfl rfl hl.1 rfl rfl (Nat.le_of_ble_eq_true rfl) (zD_g DX6_put 40 rfl) ⟨Nat.zero_le _, Nat.zero_le _⟩ (fun H locs hP hD hS => ?_)
          refine lv_aload_n hx hb (zD_g DX6_put 41 rfl) rfl (lv_at hl 0 rfl) ?_
          refine va_get (D := D) (ci := 5) (v := .ref (q 1)) (C := RX6) (T := TX6) (N := 19) hx hb hts in6_put_6 hown hK.1 hP 0 rfl rfl 0 (by decide) (hts _ (List.mem_of_getElem? (i := 1) rfl)) (fun _ h9 => h9) rfl (zD_g DX6_put 42 rfl) ?_
          refine lv_bipush (v := (36 : Int32)) hx hb (zD_g DX6_put 43 rfl) (by decide) ?_
          refine lv_iload_n hx hb (zD_g DX6_put 44 rfl) rfl (lv_at hl 1 rfl) ?_
          refine lv_iadd hx hb (zD_g DX6_put 45 rfl) ?_
          refine lv_iload_n hx hb (zD_g DX6_put 46 rfl) rfl (lv_at hl 2 rfl) ?_
          obtain ⟨h23, hf⟩ := zg_s hf
          refine z_iast (k := ((36 : Int32) + a_t).toNatClampNeg) (ws' := (cMod cI cZ q quiet mabove mbelow typed mat mstart mtoken mvalue many (upd book_21 (((36 : Int32) + a_t).toNatClampNeg) a_g) images mkept aside refused text items drawn row best)) hx hb hK.1 hP hD hS 1 0 rfl rfl h23 rfl rfl (zD_g DX6_put 47 rfl) (fun H locs hP hD hS => ?_)
          refine lv_iconst (v := (1 : Int32)) hx hb (zD_g DX6_put 48 rfl) (by decide) ?_
          cases hf
          exact hret _ _ _ _ hP hD hS (zD_g DX6_put 49 rfl)
        · replace hf := z_f c20 hf
          refine lv_aload_n hx hb (zD_g DX6_put 36 rfl) rfl (lv_at hl 0 rfl) ?_
          obtain ⟨r24, refused_25, hc26, hf⟩ := zb2_s hf
          refine z_Vm (As := []) (rest := []) (ws' := (cMod cI cZ q quiet mabove mbelow typed mat mstart mtoken mvalue many book images mkept aside refused_25 text items drawn row best)) ⟨hx, hb, hml, hown, hts⟩ hK (c6_no (quiet := quiet) (mabove := mabove) (mbelow := mbelow) (typed := typed) (mat := mat) (mstart := mstart) (mtoken := mtoken) (mvalue := mvalue) (many := many) (book := book) (images := images) (mkept := mkept) (aside := aside) (refused := refused) (text := text) (items := items) (drawn := drawn) (row := row) (best := best) (q := q) hc26) (cwV 0 hts gX6_put_X6_no rfl rfl rfl hd6_no ⟨Nat.le_of_ble_eq_true rfl, Nat.le_of_ble_eq_true rfl⟩) hP hD hS hA 11 [0, 1, 2, 3, 4, 5, 6, 7, 8, 9, 10] [] [0, 1, 2, 3, 4, 5, 6, 7, 8, 9, 10] (by decide +kernel) rfl rfl rfl rfl rfl rfl rfl hl.1 rfl rfl (Nat.le_of_ble_eq_true rfl) (zD_g DX6_put 37 rfl) ⟨Nat.zero_le _, Nat.zero_le _⟩ (fun H locs hP hD hS => ?_)
          cases hf
          exact hret _ _ _ _ hP hD hS (zD_g DX6_put 38 rfl)
    · replace hf := z_t c9 hf
      refine lv_aload_n hx hb (zD_g DX6_put 8 rfl) rfl (lv_at hl 0 rfl) ?_
      obtain ⟨r27, refused_28, hc29, hf⟩ := zb2_s hf
      refine z_Vm (As := []) (rest := []) (ws' := (cMod cI cZ q quiet mabove mbelow typed mat mstart mtoken mvalue many book images mkept aside refused_28 text items drawn row best)) ⟨hx, hb, hml, hown, hts⟩ hK (c6_bad (quiet := quiet) (mabove := mabove) (mbelow := mbelow) (typed := typed) (mat := mat) (mstart := mstart) (mtoken := mtoken) (mvalue := mvalue) (many := many) (book := book) (images := images) (mkept := mkept) (aside := aside) (refused := refused) (text := text) (items := items) (drawn := drawn) (row := row) (best := best) (q := q) hc29) (cwV 0 hts gX6_put_X6_bad rfl rfl rfl hd6_bad ⟨Nat.le_of_ble_eq_true rfl, Nat.le_of_ble_eq_true rfl⟩) hP hD hS hA 11 [0, 1, 2, 3, 4, 5, 6, 7, 8, 9, 10] [] [0, 1, 2, 3, 4, 5, 6, 7, 8, 9, 10] (by decide +kernel) rfl rfl rfl rfl rfl rfl rfl hl.1 rfl rfl (Nat.le_of_ble_eq_true rfl) (zD_g DX6_put 9 rfl) ⟨Nat.zero_le _, Nat.zero_le _⟩ (fun H locs hP hD hS => ?_)
      cases hf
      exact hret _ _ _ _ hP hD hS (zD_g DX6_put 10 rfl)
abbrev dlX6_out : List (Nat × Instr × Nat) := [(0, .aload_n 0, 1), (1, .iload_n 1, 1), (2, .invokevirtual 81, 3), (5, .ifCond .ne 8, 3), (8, .aload_n 0, 1), (9, .invokevirtual 66, 3), (12, .ireturn, 1), (13, .aload_n 0, 1), (14, .getfield 7, 3), (17, .bipush 36, 2), (19, .iload_n 1, 1), (20, .iadd, 1), (21, .iaload, 1), (22, .iconst (-1), 1), (23, .if_icmp .ne 8, 3), (26, .aload_n 0, 1), (27, .invokevirtual 94, 3), (30, .ireturn, 1), (31, .aload_n 0, 1), (32, .invokevirtual 97, 3), (35, .aload_n 0, 1), (36, .bipush 36, 2), (38, .iload_n 1, 1), (39, .iadd, 1), (40, .iconst (-1), 1), (41, .invokevirtual 100, 3), (44, .ireturn, 1)]
theorem DX6_out : zD cX6_out dlX6_out = true := by decide +kernel
set_option maxRecDepth 20000 in
theorem ggX6_out_X6_isThing : GoodIn wsX6_out wsX6_isThing := goodIn_r _ [6, 1, 7, 8, 5, 9, 32, 33, 34, 35, 36, 37, 38, 39, 40, 41, 42, 43, 44, 45, 46, 47, 48, 49, 50] (by decide +kernel) (by decide +kernel)
set_option maxRecDepth 20000 in
theorem gX6_out_X6_isThing : GoodIn wsX6_out (wsV RX6 81 RX6 yX6_isThing wsX6_isThing) := goodIn_app (goodIn_of _ (by decide +kernel)) ggX6_out_X6_isThing
set_option maxRecDepth 20000 in
theorem ggX6_out_X6_bad : GoodIn wsX6_out wsX6_bad := goodIn_r _ [13, 14, 15, 16, 5, 17, 18, 19, 32, 33, 34, 35, 36, 37, 38, 39, 40, 41, 42, 43, 44, 45, 46, 47, 48, 49, 50] (by decide +kernel) (by decide +kernel)
set_option maxRecDepth 20000 in
theorem gX6_out_X6_bad : GoodIn wsX6_out (wsV RX6 66 RX6 yX6_bad wsX6_bad) := goodIn_app (goodIn_of _ (by decide +kernel)) ggX6_out_X6_bad
set_option maxRecDepth 20000 in
theorem ggX6_out_X6_no : GoodIn wsX6_out wsX6_no := goodIn_r _ [23, 14, 15, 16, 5, 17, 18, 19, 32, 33, 34, 35, 36, 37, 38, 39, 40, 41, 42, 43, 44, 45, 46, 47, 48, 49, 50] (by decide +kernel) (by decide +kernel)
set_option maxRecDepth 20000 in
theorem gX6_out_X6_no : GoodIn wsX6_out (wsV RX6 94 RX6 yX6_no wsX6_no) := goodIn_app (goodIn_of _ (by decide +kernel)) ggX6_out_X6_no
set_option maxRecDepth 20000 in
theorem ggX6_out_X6_remembers : GoodIn wsX6_out wsX6_remembers := goodIn_r _ [27, 1, 32, 33, 34, 35, 36, 37, 38, 39, 40, 41, 42, 43, 44, 45, 46, 47, 48, 49, 50] (by decide +kernel) (by decide +kernel)
set_option maxRecDepth 20000 in
theorem gX6_out_X6_remembers : GoodIn wsX6_out (wsV RX6 97 RX6 yX6_remembers wsX6_remembers) := goodIn_app (goodIn_of _ (by decide +kernel)) ggX6_out_X6_remembers
set_option maxRecDepth 20000 in
theorem ggX6_out_X6_puts : GoodIn wsX6_out wsX6_puts := goodIn_r _ [31, 1, 32, 33, 34, 35, 36, 37, 38, 39, 40, 41, 42, 43, 44, 45, 46, 47, 48, 49, 50] (by decide +kernel) (by decide +kernel)
set_option maxRecDepth 20000 in
theorem gX6_out_X6_puts : GoodIn wsX6_out (wsV RX6 100 RX6 yX6_puts wsX6_puts) := goodIn_app (goodIn_of _ (by decide +kernel)) ggX6_out_X6_puts
theorem hd6_out : yX6_out.cls = RX6 ∧ yX6_out.cls ≠ "java/lang/invoke/MethodHandle" ∧ yX6_out.cls ≠ "java/lang/invoke/VarHandle" ∧ (parseMethodDescriptor yX6_out.desc).map (fun d => d.parameters.length) = some 1 := by decide +kernel
abbrev rm6_out : Room := { frames := 2, cells := 0, slots := 0, locals := 46 }
theorem in6_out_6 : ∀ w ∈ wsX60, w ∈ wsX6_out := fun w h => List.mem_cons_of_mem _ (List.mem_append_right _ h)
set_option maxHeartbeats 4000000 in
set_option maxRecDepth 100000 in
theorem c6_out {l : Launch} {D : va_G} {cI cZ cB : ClassId} {q : Nat → Nat} {sz : Nat} {quiet : Int32} {mabove : Int64} {mbelow : Int64} {typed : Int32} {mat : Int32} {mstart : Int32} {mtoken : Int32} {mvalue : Int32} {many : Int32} {book : Nat → Int32} {images : Nat → Int32} {mkept : Nat → Int32} {aside : Nat → Int32} {refused : Nat → Int32} {text : Nat → Int32} {items : Nat → Int32} {drawn : Nat → Int32} {row : Nat → Int32} {best : Nat → Int32} {a_t : Int32} {r : Int32} {d_book : Nat → Int32} {d_refused : Nat → Int32} (hf : f6_out quiet book refused a_t = some (r, d_book, d_refused)) : Met l yX6_out wsX6_out rm6_out (zPm D cI cZ cB [.ref (q 0), .int a_t] sz (cMod cI cZ q quiet mabove mbelow typed mat mstart mtoken mvalue many book images mkept aside refused text items drawn row best)) (zQm D (some (.int r)) (cMod cI cZ q quiet mabove mbelow typed mat mstart mtoken mvalue many d_book images mkept aside d_refused text items drawn row best) (va_A (cMod cI cZ q quiet mabove mbelow typed mat mstart mtoken mvalue many book images mkept aside refused text items drawn row best) sz)) 0 0 (va_A (cMod cI cZ q quiet mabove mbelow typed mat mstart mtoken mvalue many book images mkept aside refused text items drawn row best) sz) := by
  unfold f6_out at hf
  refine z_mutI RX6 (by decide +kernel) rfl rfl (Nat.le_of_ble_eq_true rfl) ?_
  intro p e s m args below meth c Q A ls hx hb hml hown hts hK hP hD hS hA hret hl
  have hl : lv_has ls 2 [(0, .ref (q 0)), (1, .int a_t)] := hl
  refine lv_aload_n hx hb (zD_g DX6_out 0 rfl) rfl (lv_at hl 0 rfl) ?_
  refine lv_iload_n hx hb (zD_g DX6_out 1 rfl) rfl (lv_at hl 1 rfl) ?_
  obtain ⟨r1, hc2, hf⟩ := zb1_s hf
  refine z_Vp (As := [.int a_t]) (rest := []) ⟨hx, hb, hml, hown, hts⟩ hK (c6_isThing (quiet := quiet) (mabove := mabove) (mbelow := mbelow) (typed := typed) (mat := mat) (mstart := mstart) (mtoken := mtoken) (mvalue := mvalue) (many := many) (book := book) (images := images) (mkept := mkept) (aside := aside) (refused := refused) (text := text) (items := items) (drawn := drawn) (row := row) (best := best) (q := q) hc2) (cwV 1 hts gX6_out_X6_isThing rfl rfl rfl hd6_isThing ⟨Nat.le_of_ble_eq_true rfl, Nat.le_of_ble_eq_true rfl⟩) hP rfl rfl rfl rfl hl.1 rfl rfl (Nat.le_of_ble_eq_true rfl) (zD_g DX6_out 2 rfl) ⟨Nat.zero_le _, Nat.zero_le _⟩ ?_
  refine lv_if_ne (tgt := 13) hx hb (zD_g DX6_out 3 rfl) (by decide) (fun c3 => ?_) (fun c3 => ?_)
  · replace hf := z_f c3 hf
    refine lv_aload_n hx hb (zD_g DX6_out 7 rfl) rfl (lv_at hl 0 rfl) ?_
    refine va_get (D := D) (ci := 5) (v := .ref (q 1)) (C := RX6) (T := TX6) (N := 19) hx hb hts in6_out_6 hown hK.1 hP 0 rfl rfl 0 (by decide) (hts _ (List.mem_of_getElem? (i := 1) rfl)) (fun _ h9 => h9) rfl (zD_g DX6_out 8 rfl) ?_
    refine lv_bipush (v := (36 : Int32)) hx hb (zD_g DX6_out 9 rfl) (by decide) ?_
    refine lv_iload_n hx hb (zD_g DX6_out 10 rfl) rfl (lv_at hl 1 rfl) ?_
    refine lv_iadd hx hb (zD_g DX6_out 11 rfl) ?_
    obtain ⟨h4, hf⟩ := zg_s hf
    refine z_iald (k := ((36 : Int32) + a_t).toNatClampNeg) hx hb hK.1 hP 1 0 rfl rfl h4 rfl (zD_g DX6_out 12 rfl) ?_
    refine lv_iconst (v := (-1 : Int32)) hx hb (zD_g DX6_out 13 rfl) (by decide) ?_
    refine lv_icmp_ne (tgt := 31) hx hb (zD_g DX6_out 14 rfl) (by decide) (fun c5 => ?_) (fun c5 => ?_)
    · replace hf := z_f c5 hf
      refine lv_aload_n hx hb (zD_g DX6_out 18 rfl) rfl (lv_at hl 0 rfl) ?_
      obtain ⟨book_6, hc7, hf⟩ := zb1_s hf
      refine z_Vm (As := []) (rest := []) (ws' := (cMod cI cZ q quiet mabove mbelow typed mat mstart mtoken mvalue many book_6 images mkept aside refused text items drawn row best)) ⟨hx, hb, hml, hown, hts⟩ hK (c6_remembers (quiet := quiet) (mabove := mabove) (mbelow := mbelow) (typed := typed) (mat := mat) (mstart := mstart) (mtoken := mtoken) (mvalue := mvalue) (many := many) (book := book) (images := images) (mkept := mkept) (aside := aside) (refused := refused) (text := text) (items := items) (drawn := drawn) (row := row) (best := best) (q := q) hc7) (cwV 0 hts gX6_out_X6_remembers rfl rfl rfl hd6_remembers ⟨Nat.le_of_ble_eq_true rfl, Nat.le_of_ble_eq_true rfl⟩) hP hD hS hA 11 [0, 1, 2, 3, 4, 5, 6, 7, 8, 9, 10] [] [0, 1, 2, 3, 4, 5, 6, 7, 8, 9, 10] (by decide +kernel) rfl rfl rfl rfl rfl rfl rfl hl.1 rfl rfl (Nat.le_of_ble_eq_true rfl) (zD_g DX6_out 19 rfl) ⟨Nat.zero_le _, Nat.zero_le _⟩ (fun H locs hP hD hS => ?_)
      refine lv_aload_n hx hb (zD_g DX6_out 20 rfl) rfl (lv_at hl 0 rfl) ?_
      refine lv_bipush (v := (36 : Int32)) hx hb (zD_g DX6_out 21 rfl) (by decide) ?_
      refine lv_iload_n hx hb (zD_g DX6_out 22 rfl) rfl (lv_at hl 1 rfl) ?_
      refine lv_iadd hx hb (zD_g DX6_out 23 rfl) ?_
      refine lv_iconst (v := (-1 : Int32)) hx hb (zD_g DX6_out 24 rfl) (by decide) ?_
      obtain ⟨r8, book_9, hc10, hf⟩ := zb2_s hf
      refine z_Vm (As := [.int ((36 : Int32) + a_t), .int (-1 : Int32)]) (rest := []) (ws' := (cMod cI cZ q quiet mabove mbelow typed mat mstart mtoken mvalue many book_9 images mkept aside refused text items drawn row best)) ⟨hx, hb, hml, hown, hts⟩ hK (c6_puts (quiet := quiet) (mabove := mabove) (mbelow := mbelow) (typed := typed) (mat := mat) (mstart := mstart) (mtoken := mtoken) (mvalue := mvalue) (many := many) (book := book_6) (images := images) (mkept := mkept) (aside := aside) (refused := refused) (text := text) (items := items) (drawn := drawn) (row := row) (best := best) (q := q) hc10) (cwV 2 hts gX6_out_X6_puts rfl rfl rfl hd6_puts ⟨Nat.le_of_ble_eq_true rfl, Nat.le_of_ble_eq_true rfl⟩) hP hD hS hA 11 [0, 1, 2, 3, 4, 5, 6, 7, 8, 9, 10] [] [0, 1, 2, 3, 4, 5, 6, 7, 8, 9, 10] (by decide +kernel) rfl rfl rfl rfl rfl rfl rfl hl.1 rfl rfl (Nat.le_of_ble_eq_true rfl) (zD_g DX6_out 25 rfl) ⟨Nat.zero_le _, Nat.zero_le _⟩ (fun H locs hP hD hS => ?_)
      cases hf
      exact hret _ _ _ _ hP hD hS (zD_g DX6_out 26 rfl)
    · replace hf := z_t c5 hf
      refine lv_aload_n hx hb (zD_g DX6_out 15 rfl) rfl (lv_at hl 0 rfl) ?_
      obtain ⟨r11, refused_12, hc13, hf⟩ := zb2_s hf
      refine z_Vm (As := []) (rest := []) (ws' := (cMod cI cZ q quiet mabove mbelow typed mat mstart mtoken mvalue many book images mkept aside refused_12 text items drawn row best)) ⟨hx, hb, hml, hown, hts⟩ hK (c6_no (quiet := quiet) (mabove := mabove) (mbelow := mbelow) (typed := typed) (mat := mat) (mstart := mstart) (mtoken := mtoken) (mvalue := mvalue) (many := many) (book := book) (images := images) (mkept := mkept) (aside := aside) (refused := refused) (text := text) (items := items) (drawn := drawn) (row := row) (best := best) (q := q) hc13) (cwV 0 hts gX6_out_X6_no rfl rfl rfl hd6_no ⟨Nat.le_of_ble_eq_true rfl, Nat.le_of_ble_eq_true rfl⟩) hP hD hS hA 11 [0, 1, 2, 3, 4, 5, 6, 7, 8, 9, 10] [] [0, 1, 2, 3, 4, 5, 6, 7, 8, 9, 10] (by decide +kernel) rfl rfl rfl rfl rfl rfl rfl hl.1 rfl rfl (Nat.le_of_ble_eq_true rfl) (zD_g DX6_out 16 rfl) ⟨Nat.zero_le _, Nat.zero_le _⟩ (fun H locs hP hD hS => ?_)
      cases hf
      exact hret _ _ _ _ hP hD hS (zD_g DX6_out 17 rfl)
  · replace hf := z_t c3 hf
    refine lv_aload_n hx hb (zD_g DX6_out 4 rfl) rfl (lv_at hl 0 rfl) ?_
    obtain ⟨r14, refused_15, hc16, hf⟩ := zb2_s hf
    refine z_Vm (As := []) (rest := []) (ws' := (cMod cI cZ q quiet mabove mbelow typed mat mstart mtoken mvalue many book images mkept aside refused_15 text items drawn row best)) ⟨hx, hb, hml, hown, hts⟩ hK (c6_bad (quiet := quiet) (mabove := mabove) (mbelow := mbelow) (typed := typed) (mat := mat) (mstart := mstart) (mtoken := mtoken) (mvalue := mvalue) (many := many) (book := book) (images := images) (mkept := mkept) (aside := aside) (refused := refused) (text := text) (items := items) (drawn := drawn) (row := row) (best := best) (q := q) hc16) (cwV 0 hts gX6_out_X6_bad rfl rfl rfl hd6_bad ⟨Nat.le_of_ble_eq_true rfl, Nat.le_of_ble_eq_true rfl⟩) hP hD hS hA 11 [0, 1, 2, 3, 4, 5, 6, 7, 8, 9, 10] [] [0, 1, 2, 3, 4, 5, 6, 7, 8, 9, 10] (by decide +kernel) rfl rfl rfl rfl rfl rfl rfl hl.1 rfl rfl (Nat.le_of_ble_eq_true rfl) (zD_g DX6_out 5 rfl) ⟨Nat.zero_le _, Nat.zero_le _⟩ (fun H locs hP hD hS => ?_)
    cases hf
    exact hret _ _ _ _ hP hD hS (zD_g DX6_out 6 rfl)
abbrev dlX6_city : List (Nat × Instr × Nat) := [(0, .iload_n 2, 1), (1, .ifCond .ne 8, 3), (4, .bipush 30, 2), (6, .goto 16, 3), (9, .iload_n 2, 1), (10, .iconst 1, 1), (11, .if_icmp .ne 8, 3), (14, .bipush 50, 2), (16, .goto 6, 3), (19, .sipush 200, 3), (22, .istore 4, 2), (24, .iload_n 1, 1), (25, .invokestatic 73, 3), (28, .ifCond .eq 43, 3), (31, .iload_n 2, 1), (32, .i2l, 1), (33, .lconst 0, 1), (34, .ldc2_w 103, 3), (37, .invokestatic 56, 3), (40, .ifCond .eq 31, 3), (43, .iload_n 3, 1), (44, .i2l, 1), (45, .lconst 0, 1), (46, .iload 4, 2), (48, .i2l, 1), (49, .invokestatic 56, 3), (52, .ifCond .eq 19, 3), (55, .aload_n 0, 1), (56, .bipush 74, 2), (58, .iconst 3, 1), (59, .iload_n 1, 1), (60, .imul, 1), (61, .iadd, 1), (62, .iload_n 2, 1), (63, .iadd, 1), (64, .iload_n 3, 1), (65, .invokevirtual 100, 3), (68, .goto 7, 3), (71, .aload_n 0, 1), (72, .invokevirtual 66, 3), (75, .ireturn, 1)]
theorem DX6_city : zD cX6_city dlX6_city = true := by decide +kernel
set_option maxRecDepth 20000 in
theorem ggX6_city_X6_isCity : GoodIn wsX6_city wsX6_isCity := goodIn_r _ [5, 6, 7, 4, 8] (by decide +kernel) (by decide +kernel)
set_option maxRecDepth 20000 in
theorem gX6_city_X6_isCity : GoodIn wsX6_city (va_wsS RX6 73 yX6_isCity wsX6_isCity) := goodIn_app (goodIn_of _ (by decide +kernel)) ggX6_city_X6_isCity
set_option maxRecDepth 20000 in
theorem ggX6_city_X6_in : GoodIn wsX6_city wsX6_in := goodIn_r _ [8] (by decide +kernel) (by decide +kernel)
set_option maxRecDepth 20000 in
theorem gX6_city_X6_in : GoodIn wsX6_city (va_wsS RX6 56 yX6_in wsX6_in) := goodIn_app (goodIn_of _ (by decide +kernel)) ggX6_city_X6_in
set_option maxRecDepth 20000 in
theorem ggX6_city_X6_puts : GoodIn wsX6_city wsX6_puts := goodIn_r _ [12, 13, 24, 25, 26, 27, 28, 29, 30, 31, 32, 33, 34, 35, 36, 37, 38, 39, 40, 41, 42] (by decide +kernel) (by decide +kernel)
set_option maxRecDepth 20000 in
theorem gX6_city_X6_puts : GoodIn wsX6_city (wsV RX6 100 RX6 yX6_puts wsX6_puts) := goodIn_app (goodIn_of _ (by decide +kernel)) ggX6_city_X6_puts
set_option maxRecDepth 20000 in
theorem ggX6_city_X6_bad : GoodIn wsX6_city wsX6_bad := goodIn_r _ [17, 18, 19, 20, 4, 21, 22, 23, 24, 25, 26, 27, 28, 29, 30, 31, 32, 33, 34, 35, 36, 37, 38, 39, 40, 41, 42] (by decide +kernel) (by decide +kernel)
set_option maxRecDepth 20000 in
theorem gX6_city_X6_bad : GoodIn wsX6_city (wsV RX6 66 RX6 yX6_bad wsX6_bad) := goodIn_app (goodIn_of _ (by decide +kernel)) ggX6_city_X6_bad
theorem hd6_city : yX6_city.cls = RX6 ∧ yX6_city.cls ≠ "java/lang/invoke/MethodHandle" ∧ yX6_city.cls ≠ "java/lang/invoke/VarHandle" ∧ (parseMethodDescriptor yX6_city.desc).map (fun d => d.parameters.length) = some 3 := by decide +kernel
abbrev rm6_city : Room := { frames := 2, cells := 0, slots := 0, locals := 45 }
set_option maxHeartbeats 4000000 in
set_option maxRecDepth 100000 in
theorem c6_city {l : Launch} {D : va_G} {cI cZ cB : ClassId} {q : Nat → Nat} {sz : Nat} {quiet : Int32} {mabove : Int64} {mbelow : Int64} {typed : Int32} {mat : Int32} {mstart : Int32} {mtoken : Int32} {mvalue : Int32} {many : Int32} {book : Nat → Int32} {images : Nat → Int32} {mkept : Nat → Int32} {aside : Nat → Int32} {refused : Nat → Int32} {text : Nat → Int32} {items : Nat → Int32} {drawn : Nat → Int32} {row : Nat → Int32} {best : Nat → Int32} {a_c : Int32} {a_what : Int32} {a_n : Int32} {r : Int32} {d_book : Nat → Int32} {d_refused : Nat → Int32} (hf : f6_city quiet book refused a_c a_what a_n = some (r, d_book, d_refused)) : Met l yX6_city wsX6_city rm6_city (zPm D cI cZ cB [.ref (q 0), .int a_c, .int a_what, .int a_n] sz (cMod cI cZ q quiet mabove mbelow typed mat mstart mtoken mvalue many book images mkept aside refused text items drawn row best)) (zQm D (some (.int r)) (cMod cI cZ q quiet mabove mbelow typed mat mstart mtoken mvalue many d_book images mkept aside d_refused text items drawn row best) (va_A (cMod cI cZ q quiet mabove mbelow typed mat mstart mtoken mvalue many book images mkept aside refused text items drawn row best) sz)) 0 0 (va_A (cMod cI cZ q quiet mabove mbelow typed mat mstart mtoken mvalue many book images mkept aside refused text items drawn row best) sz) := by
  unfold f6_city at hf
  refine z_mutI RX6 (by decide +kernel) rfl rfl (Nat.le_of_ble_eq_true rfl) ?_
  intro p e s m args below meth c Q A ls hx hb hml hown hts hK hP hD hS hA hret hl
  have hl : lv_has ls 5 [(0, .ref (q 0)), (1, .int a_c), (2, .int a_what), (3, .int a_n)] := hl
  refine lv_iload_n hx hb (zD_g DX6_city 0 rfl) rfl (lv_at hl 2 rfl) ?_
  obtain ⟨v2, hr24, hf⟩ := zb1_s hf
  have hJ24 : ∀ (H : Heap) (locs : List Loc), va_P D vwCl (cMod cI cZ q quiet mabove mbelow typed mat mstart mtoken mvalue many book images mkept aside refused text items drawn row best) H → va_D A (cMod cI cZ q quiet mabove mbelow typed mat mstart mtoken mvalue many book images mkept aside refused text items drawn row best) → va_S A s.heap H locs → ∀ (ls : Array Slot), lv_has ls 5 [(0, .ref (q 0)), (1, .int a_c), (2, .int a_what), (3, .int a_n)] → W p l e rm6_city s m args below meth c H locs 0 0 Q (F0 m 22 ls [.int v2]) := by
    intro H locs hP hD hS ls hl
    refine lv_istore (lv' := [(4, .int v2), (0, .ref (q 0)), (1, .int a_c), (2, .int a_what), (3, .int a_n)]) hx hb (zD_g DX6_city 10 rfl) hl (by decide) rfl (fun ls hl => ?_)
    refine lv_iload_n hx hb (zD_g DX6_city 11 rfl) rfl (lv_at hl 2 rfl) ?_
    obtain ⟨r3, hc4, hf⟩ := zb1_s hf
    refine z_Sp (As := [.int a_c]) (rest := []) ⟨hx, hb, hml, hown, hts⟩ hK (c6_isCity  hc4) (va_cwS 1 hts gX6_city_X6_isCity rfl rfl rfl hd6_isCity ⟨Nat.le_of_ble_eq_true rfl, Nat.le_of_ble_eq_true rfl⟩) (hP.sub [] rfl) rfl hl.1 rfl rfl (Nat.le_of_ble_eq_true rfl) (zD_g DX6_city 12 rfl) ⟨Nat.zero_le _, Nat.zero_le _⟩ ?_
    refine lv_if_eq (tgt := 71) hx hb (zD_g DX6_city 13 rfl) (by decide) (fun c5 => ?_) (fun c5 => ?_)
    · replace hf := z_t c5 hf
      refine lv_aload_n hx hb (zD_g DX6_city 38 rfl) rfl (lv_at hl 1 rfl) ?_
      obtain ⟨r6, refused_7, hc8, hf⟩ := zb2_s hf
      refine z_Vm (As := []) (rest := []) (ws' := (cMod cI cZ q quiet mabove mbelow typed mat mstart mtoken mvalue many book images mkept aside refused_7 text items drawn row best)) ⟨hx, hb, hml, hown, hts⟩ hK (c6_bad (quiet := quiet) (mabove := mabove) (mbelow := mbelow) (typed := typed) (mat := mat) (mstart := mstart) (mtoken := mtoken) (mvalue := mvalue) (many := many) (book := book) (images := images) (mkept := mkept) (aside := aside) (refused := refused) (text := text) (items := items) (drawn := drawn) (row := row) (best := best) (q := q) hc8) (cwV 0 hts gX6_city_X6_bad rfl rfl rfl hd6_bad ⟨Nat.le_of_ble_eq_true rfl, Nat.le_of_ble_eq_true rfl⟩) hP hD hS hA 11 [0, 1, 2, 3, 4, 5, 6, 7, 8, 9, 10] [] [0, 1, 2, 3, 4, 5, 6, 7, 8, 9, 10] (by decide +kernel) rfl rfl rfl rfl rfl rfl rfl hl.1 rfl rfl (Nat.le_of_ble_eq_true rfl) (zD_g DX6_city 39 rfl) ⟨Nat.zero_le _, Nat.zero_le _⟩ (fun H locs hP hD hS => ?_)
      cases hf
      exact hret _ _ _ _ hP hD hS (zD_g DX6_city 40 rfl)
    · replace hf := z_f c5 hf
      refine lv_iload_n hx hb (zD_g DX6_city 14 rfl) rfl (lv_at hl 3 rfl) ?_
      refine lv_i2l (v := (a_what).toInt64) hx hb (zD_g DX6_city 15 rfl) rfl ?_
      refine lv_lconst (v := (0 : Int64)) hx hb (zD_g DX6_city 16 rfl) (by decide) ?_
      refine lv_ldc2 (v := (2 : Int64)) hx hb hown (hts _ (List.mem_of_getElem? (i := 1) rfl)) (zD_g DX6_city 17 rfl) ?_
      obtain ⟨r9, hc10, hf⟩ := zb1_s hf
      refine z_Sp (As := [.long ((a_what).toInt64), .long (0 : Int64), .long (2 : Int64)]) (rest := []) ⟨hx, hb, hml, hown, hts⟩ hK (c6_in  hc10) (va_cwS 3 hts gX6_city_X6_in rfl rfl rfl hd6_in ⟨Nat.le_of_ble_eq_true rfl, Nat.le_of_ble_eq_true rfl⟩) (hP.sub [] rfl) rfl hl.1 rfl rfl (Nat.le_of_ble_eq_true rfl) (zD_g DX6_city 18 rfl) ⟨Nat.zero_le _, Nat.zero_le _⟩ ?_
      refine lv_if_eq (tgt := 71) hx hb (zD_g DX6_city 19 rfl) (by decide) (fun c11 => ?_) (fun c11 => ?_)
      · replace hf := z_t c11 hf
        refine lv_aload_n hx hb (zD_g DX6_city 38 rfl) rfl (lv_at hl 1 rfl) ?_
        obtain ⟨r12, refused_13, hc14, hf⟩ := zb2_s hf
        refine z_Vm (As := []) (rest := []) (ws' := (cMod cI cZ q quiet mabove mbelow typed mat mstart mtoken mvalue many book images mkept aside refused_13 text items drawn row best)) ⟨hx, hb, hml, hown, hts⟩ hK (c6_bad (quiet := quiet) (mabove := mabove) (mbelow := mbelow) (typed := typed) (mat := mat) (mstart := mstart) (mtoken := mtoken) (mvalue := mvalue) (many := many) (book := book) (images := images) (mkept := mkept) (aside := aside) (refused := refused) (text := text) (items := items) (drawn := drawn) (row := row) (best := best) (q := q) hc14) (cwV 0 hts gX6_city_X6_bad rfl rfl rfl hd6_bad ⟨Nat.le_of_ble_eq_true rfl, Nat.le_of_ble_eq_true rfl⟩) hP hD hS hA 11 [0, 1, 2, 3, 4, 5, 6, 7, 8, 9, 10] [] [0, 1, 2, 3, 4, 5, 6, 7, 8, 9, 10] (by decide +kernel) rfl rfl rfl rfl rfl rfl rfl hl.1 rfl rfl (Nat.le_of_ble_eq_true rfl) (zD_g DX6_city 39 rfl) ⟨Nat.zero_le _, Nat.zero_le _⟩ (fun H locs hP hD hS => ?_)
        cases hf
        exact hret _ _ _ _ hP hD hS (zD_g DX6_city 40 rfl)
      · replace hf := z_f c11 hf
        refine lv_iload_n hx hb (zD_g DX6_city 20 rfl) rfl (lv_at hl 4 rfl) ?_
        refine lv_i2l (v := (a_n).toInt64) hx hb (zD_g DX6_city 21 rfl) rfl ?_
        refine lv_lconst (v := (0 : Int64)) hx hb (zD_g DX6_city 22 rfl) (by decide) ?_
        refine lv_iload hx hb (zD_g DX6_city 23 rfl) (lv_at hl 0 rfl) ?_
        refine lv_i2l (v := (v2).toInt64) hx hb (zD_g DX6_city 24 rfl) rfl ?_
        obtain ⟨r15, hc16, hf⟩ := zb1_s hf
        refine z_Sp (As := [.long ((a_n).toInt64), .long (0 : Int64), .long ((v2).toInt64)]) (rest := []) ⟨hx, hb, hml, hown, hts⟩ hK (c6_in  hc16) (va_cwS 3 hts gX6_city_X6_in rfl rfl rfl hd6_in ⟨Nat.le_of_ble_eq_true rfl, Nat.le_of_ble_eq_true rfl⟩) (hP.sub [] rfl) rfl hl.1 rfl rfl (Nat.le_of_ble_eq_true rfl) (zD_g DX6_city 25 rfl) ⟨Nat.zero_le _, Nat.zero_le _⟩ ?_
        refine lv_if_eq (tgt := 71) hx hb (zD_g DX6_city 26 rfl) (by decide) (fun c17 => ?_) (fun c17 => ?_)
        · replace hf := z_t c17 hf
          refine lv_aload_n hx hb (zD_g DX6_city 38 rfl) rfl (lv_at hl 1 rfl) ?_
          obtain ⟨r18, refused_19, hc20, hf⟩ := zb2_s hf
          refine z_Vm (As := []) (rest := []) (ws' := (cMod cI cZ q quiet mabove mbelow typed mat mstart mtoken mvalue many book images mkept aside refused_19 text items drawn row best)) ⟨hx, hb, hml, hown, hts⟩ hK (c6_bad (quiet := quiet) (mabove := mabove) (mbelow := mbelow) (typed := typed) (mat := mat) (mstart := mstart) (mtoken := mtoken) (mvalue := mvalue) (many := many) (book := book) (images := images) (mkept := mkept) (aside := aside) (refused := refused) (text := text) (items := items) (drawn := drawn) (row := row) (best := best) (q := q) hc20) (cwV 0 hts gX6_city_X6_bad rfl rfl rfl hd6_bad ⟨Nat.le_of_ble_eq_true rfl, Nat.le_of_ble_eq_true rfl⟩) hP hD hS hA 11 [0, 1, 2, 3, 4, 5, 6, 7, 8, 9, 10] [] [0, 1, 2, 3, 4, 5, 6, 7, 8, 9, 10] (by decide +kernel) rfl rfl rfl rfl rfl rfl rfl hl.1 rfl rfl (Nat.le_of_ble_eq_true rfl) (zD_g DX6_city 39 rfl) ⟨Nat.zero_le _, Nat.zero_le _⟩ (fun H locs hP hD hS => ?_)
          cases hf
          exact hret _ _ _ _ hP hD hS (zD_g DX6_city 40 rfl)
        · replace hf := z_f c17 hf
          refine lv_aload_n hx hb (zD_g DX6_city 27 rfl) rfl (lv_at hl 1 rfl) ?_
          refine lv_bipush (v := (74 : Int32)) hx hb (zD_g DX6_city 28 rfl) (by decide) ?_
          refine lv_iconst (v := (3 : Int32)) hx hb (zD_g DX6_city 29 rfl) (by decide) ?_
          refine lv_iload_n hx hb (zD_g DX6_city 30 rfl) rfl (lv_at hl 2 rfl) ?_
          refine lv_imul hx hb (zD_g DX6_city 31 rfl) ?_
          refine lv_iadd hx hb (zD_g DX6_city 32 rfl) ?_
          refine lv_iload_n hx hb (zD_g DX6_city 33 rfl) rfl (lv_at hl 3 rfl) ?_
          refine lv_iadd hx hb (zD_g DX6_city 34 rfl) ?_
          refine lv_iload_n hx hb (zD_g DX6_city 35 rfl) rfl (lv_at hl 4 rfl) ?_
          obtain ⟨r21, book_22, hc23, hf⟩ := zb2_s hf
          refine z_Vm (As := [.int (((74 : Int32) + ((3 : Int32) * a_c)) + a_what), .int a_n]) (rest := []) (ws' := (cMod cI cZ q quiet mabove mbelow typed mat mstart mtoken mvalue many book_22 images mkept aside refused text items drawn row best)) ⟨hx, hb, hml, hown, hts⟩ hK (c6_puts (quiet := quiet) (mabove := mabove) (mbelow := mbelow) (typed := typed) (mat := mat) (mstart := mstart) (mtoken := mtoken) (mvalue := mvalue) (many := many) (book := book) (images := images) (mkept := mkept) (aside := aside) (refused := refused) (text := text) (items := items) (drawn := drawn) (row := row) (best := best) (q := q) hc23) (cwV 2 hts gX6_city_X6_puts rfl rfl rfl hd6_puts ⟨Nat.le_of_ble_eq_true rfl, Nat.le_of_ble_eq_true rfl⟩) hP hD hS hA 11 [0, 1, 2, 3, 4, 5, 6, 7, 8, 9, 10] [] [0, 1, 2, 3, 4, 5, 6, 7, 8, 9, 10] (by decide +kernel) rfl rfl rfl rfl rfl rfl rfl hl.1 rfl rfl (Nat.le_of_ble_eq_true rfl) (zD_g DX6_city 36 rfl) ⟨Nat.zero_le _, Nat.zero_le _⟩ (fun H locs hP hD hS => ?_)
          refine lv_goto (tgt := 75) hx hb (zD_g DX6_city 37 rfl) (by decide) ?_
          cases hf
          exact hret _ _ _ _ hP hD hS (zD_g DX6_city 40 rfl)
  clear hf
  have hf := hr24
  refine lv_if_ne (tgt := 9) hx hb (zD_g DX6_city 1 rfl) (by decide) (fun c1 => ?_) (fun c1 => ?_)
  · replace hf := z_f c1 hf
    refine lv_iload_n hx hb (zD_g DX6_city 4 rfl) rfl (lv_at hl 2 rfl) ?_
    refine lv_iconst (v := (1 : Int32)) hx hb (zD_g DX6_city 5 rfl) (by decide) ?_
    refine lv_icmp_ne (tgt := 19) hx hb (zD_g DX6_city 6 rfl) (by decide) (fun c25 => ?_) (fun c25 => ?_)
    · replace hf := z_f c25 hf
      refine lv_sipush (v := (200 : Int32)) hx hb (zD_g DX6_city 9 rfl) (by decide) ?_
      cases hf
      exact hJ24 _ _ hP hD hS ls (lv_sub hl [0, 1, 2, 3] rfl)
    · replace hf := z_t c25 hf
      refine lv_bipush (v := (50 : Int32)) hx hb (zD_g DX6_city 7 rfl) (by decide) ?_
      refine lv_goto (tgt := 22) hx hb (zD_g DX6_city 8 rfl) (by decide) ?_
      cases hf
      exact hJ24 _ _ hP hD hS ls (lv_sub hl [0, 1, 2, 3] rfl)
  · replace hf := z_t c1 hf
    refine lv_bipush (v := (30 : Int32)) hx hb (zD_g DX6_city 2 rfl) (by decide) ?_
    refine lv_goto (tgt := 22) hx hb (zD_g DX6_city 3 rfl) (by decide) ?_
    cases hf
    exact hJ24 _ _ hP hD hS ls (lv_sub hl [0, 1, 2, 3] rfl)
abbrev dlX6_watch : List (Nat × Instr × Nat) := [(0, .iload_n 1, 1), (1, .invokestatic 73, 3), (4, .ifCond .eq 39, 3), (7, .iload_n 2, 1), (8, .invokestatic 105, 3), (11, .ifCond .eq 32, 3), (14, .iload_n 3, 1), (15, .i2l, 1), (16, .lconst 0, 1), (17, .ldc2_w 64, 3), (20, .invokestatic 56, 3), (23, .ifCond .eq 20, 3), (26, .aload_n 0, 1), (27, .bipush 80, 2), (29, .bipush 6, 2), (31, .iload_n 1, 1), (32, .imul, 1), (33, .iadd, 1), (34, .iload_n 2, 1), (35, .iadd, 1), (36, .iload_n 3, 1), (37, .invokevirtual 100, 3), (40, .goto 7, 3), (43, .aload_n 0, 1), (44, .invokevirtual 66, 3), (47, .ireturn, 1)]
theorem DX6_watch : zD cX6_watch dlX6_watch = true := by decide +kernel
set_option maxRecDepth 20000 in
theorem ggX6_watch_X6_isCity : GoodIn wsX6_watch wsX6_isCity := goodIn_r _ [5, 6, 7, 4, 8] (by decide +kernel) (by decide +kernel)
set_option maxRecDepth 20000 in
theorem gX6_watch_X6_isCity : GoodIn wsX6_watch (va_wsS RX6 73 yX6_isCity wsX6_isCity) := goodIn_app (goodIn_of _ (by decide +kernel)) ggX6_watch_X6_isCity
set_option maxRecDepth 20000 in
theorem ggX6_watch_X6_isHour : GoodIn wsX6_watch wsX6_isHour := goodIn_r _ [11, 12, 6, 7, 4, 8] (by decide +kernel) (by decide +kernel)
set_option maxRecDepth 20000 in
theorem gX6_watch_X6_isHour : GoodIn wsX6_watch (va_wsS RX6 105 yX6_isHour wsX6_isHour) := goodIn_app (goodIn_of _ (by decide +kernel)) ggX6_watch_X6_isHour
set_option maxRecDepth 20000 in
theorem ggX6_watch_X6_in : GoodIn wsX6_watch wsX6_in := goodIn_r _ [8] (by decide +kernel) (by decide +kernel)
set_option maxRecDepth 20000 in
theorem gX6_watch_X6_in : GoodIn wsX6_watch (va_wsS RX6 56 yX6_in wsX6_in) := goodIn_app (goodIn_of _ (by decide +kernel)) ggX6_watch_X6_in
set_option maxRecDepth 20000 in
theorem ggX6_watch_X6_puts : GoodIn wsX6_watch wsX6_puts := goodIn_r _ [16, 17, 28, 29, 30, 31, 32, 33, 34, 35, 36, 37, 38, 39, 40, 41, 42, 43, 44, 45, 46] (by decide +kernel) (by decide +kernel)
set_option maxRecDepth 20000 in
theorem gX6_watch_X6_puts : GoodIn wsX6_watch (wsV RX6 100 RX6 yX6_puts wsX6_puts) := goodIn_app (goodIn_of _ (by decide +kernel)) ggX6_watch_X6_puts
set_option maxRecDepth 20000 in
theorem ggX6_watch_X6_bad : GoodIn wsX6_watch wsX6_bad := goodIn_r _ [21, 22, 23, 24, 4, 25, 26, 27, 28, 29, 30, 31, 32, 33, 34, 35, 36, 37, 38, 39, 40, 41, 42, 43, 44, 45, 46] (by decide +kernel) (by decide +kernel)
set_option maxRecDepth 20000 in
theorem gX6_watch_X6_bad : GoodIn wsX6_watch (wsV RX6 66 RX6 yX6_bad wsX6_bad) := goodIn_app (goodIn_of _ (by decide +kernel)) ggX6_watch_X6_bad
theorem hd6_watch : yX6_watch.cls = RX6 ∧ yX6_watch.cls ≠ "java/lang/invoke/MethodHandle" ∧ yX6_watch.cls ≠ "java/lang/invoke/VarHandle" ∧ (parseMethodDescriptor yX6_watch.desc).map (fun d => d.parameters.length) = some 3 := by decide +kernel
abbrev rm6_watch : Room := { frames := 2, cells := 0, slots := 0, locals := 45 }
set_option maxHeartbeats 4000000 in
set_option maxRecDepth 100000 in
theorem c6_watch {l : Launch} {D : va_G} {cI cZ cB : ClassId} {q : Nat → Nat} {sz : Nat} {quiet : Int32} {mabove : Int64} {mbelow : Int64} {typed : Int32} {mat : Int32} {mstart : Int32} {mtoken : Int32} {mvalue : Int32} {many : Int32} {book : Nat → Int32} {images : Nat → Int32} {mkept : Nat → Int32} {aside : Nat → Int32} {refused : Nat → Int32} {text : Nat → Int32} {items : Nat → Int32} {drawn : Nat → Int32} {row : Nat → Int32} {best : Nat → Int32} {a_c : Int32} {a_hour : Int32} {a_n : Int32} {r : Int32} {d_book : Nat → Int32} {d_refused : Nat → Int32} (hf : f6_watch quiet book refused a_c a_hour a_n = some (r, d_book, d_refused)) : Met l yX6_watch wsX6_watch rm6_watch (zPm D cI cZ cB [.ref (q 0), .int a_c, .int a_hour, .int a_n] sz (cMod cI cZ q quiet mabove mbelow typed mat mstart mtoken mvalue many book images mkept aside refused text items drawn row best)) (zQm D (some (.int r)) (cMod cI cZ q quiet mabove mbelow typed mat mstart mtoken mvalue many d_book images mkept aside d_refused text items drawn row best) (va_A (cMod cI cZ q quiet mabove mbelow typed mat mstart mtoken mvalue many book images mkept aside refused text items drawn row best) sz)) 0 0 (va_A (cMod cI cZ q quiet mabove mbelow typed mat mstart mtoken mvalue many book images mkept aside refused text items drawn row best) sz) := by
  unfold f6_watch at hf
  refine z_mutI RX6 (by decide +kernel) rfl rfl (Nat.le_of_ble_eq_true rfl) ?_
  intro p e s m args below meth c Q A ls hx hb hml hown hts hK hP hD hS hA hret hl
  have hl : lv_has ls 4 [(0, .ref (q 0)), (1, .int a_c), (2, .int a_hour), (3, .int a_n)] := hl
  refine lv_iload_n hx hb (zD_g DX6_watch 0 rfl) rfl (lv_at hl 1 rfl) ?_
  obtain ⟨r1, hc2, hf⟩ := zb1_s hf
  refine z_Sp (As := [.int a_c]) (rest := []) ⟨hx, hb, hml, hown, hts⟩ hK (c6_isCity  hc2) (va_cwS 1 hts gX6_watch_X6_isCity rfl rfl rfl hd6_isCity ⟨Nat.le_of_ble_eq_true rfl, Nat.le_of_ble_eq_true rfl⟩) (hP.sub [] rfl) rfl hl.1 rfl rfl (Nat.le_of_ble_eq_true rfl) (zD_g DX6_watch 1 rfl) ⟨Nat.zero_le _, Nat.zero_le _⟩ ?_
  refine lv_if_eq (tgt := 43) hx hb (zD_g DX6_watch 2 rfl) (by decide) (fun c3 => ?_) (fun c3 => ?_)
  · replace hf := z_t c3 hf
    refine lv_aload_n hx hb (zD_g DX6_watch 23 rfl) rfl (lv_at hl 0 rfl) ?_
    obtain ⟨r4, refused_5, hc6, hf⟩ := zb2_s hf
    refine z_Vm (As := []) (rest := []) (ws' := (cMod cI cZ q quiet mabove mbelow typed mat mstart mtoken mvalue many book images mkept aside refused_5 text items drawn row best)) ⟨hx, hb, hml, hown, hts⟩ hK (c6_bad (quiet := quiet) (mabove := mabove) (mbelow := mbelow) (typed := typed) (mat := mat) (mstart := mstart) (mtoken := mtoken) (mvalue := mvalue) (many := many) (book := book) (images := images) (mkept := mkept) (aside := aside) (refused := refused) (text := text) (items := items) (drawn := drawn) (row := row) (best := best) (q := q) hc6) (cwV 0 hts gX6_watch_X6_bad rfl rfl rfl hd6_bad ⟨Nat.le_of_ble_eq_true rfl, Nat.le_of_ble_eq_true rfl⟩) hP hD hS hA 11 [0, 1, 2, 3, 4, 5, 6, 7, 8, 9, 10] [] [0, 1, 2, 3, 4, 5, 6, 7, 8, 9, 10] (by decide +kernel) rfl rfl rfl rfl rfl rfl rfl hl.1 rfl rfl (Nat.le_of_ble_eq_true rfl) (zD_g DX6_watch 24 rfl) ⟨Nat.zero_le _, Nat.zero_le _⟩ (fun H locs hP hD hS => ?_)
    cases hf
    exact hret _ _ _ _ hP hD hS (zD_g DX6_watch 25 rfl)
  · replace hf := z_f c3 hf
    refine lv_iload_n hx hb (zD_g DX6_watch 3 rfl) rfl (lv_at hl 2 rfl) ?_
    obtain ⟨r7, hc8, hf⟩ := zb1_s hf
    refine z_Sp (As := [.int a_hour]) (rest := []) ⟨hx, hb, hml, hown, hts⟩ hK (c6_isHour  hc8) (va_cwS 1 hts gX6_watch_X6_isHour rfl rfl rfl hd6_isHour ⟨Nat.le_of_ble_eq_true rfl, Nat.le_of_ble_eq_true rfl⟩) (hP.sub [] rfl) rfl hl.1 rfl rfl (Nat.le_of_ble_eq_true rfl) (zD_g DX6_watch 4 rfl) ⟨Nat.zero_le _, Nat.zero_le _⟩ ?_
    refine lv_if_eq (tgt := 43) hx hb (zD_g DX6_watch 5 rfl) (by decide) (fun c9 => ?_) (fun c9 => ?_)
    · replace hf := z_t c9 hf
      refine lv_aload_n hx hb (zD_g DX6_watch 23 rfl) rfl (lv_at hl 0 rfl) ?_
      obtain ⟨r10, refused_11, hc12, hf⟩ := zb2_s hf
      refine z_Vm (As := []) (rest := []) (ws' := (cMod cI cZ q quiet mabove mbelow typed mat mstart mtoken mvalue many book images mkept aside refused_11 text items drawn row best)) ⟨hx, hb, hml, hown, hts⟩ hK (c6_bad (quiet := quiet) (mabove := mabove) (mbelow := mbelow) (typed := typed) (mat := mat) (mstart := mstart) (mtoken := mtoken) (mvalue := mvalue) (many := many) (book := book) (images := images) (mkept := mkept) (aside := aside) (refused := refused) (text := text) (items := items) (drawn := drawn) (row := row) (best := best) (q := q) hc12) (cwV 0 hts gX6_watch_X6_bad rfl rfl rfl hd6_bad ⟨Nat.le_of_ble_eq_true rfl, Nat.le_of_ble_eq_true rfl⟩) hP hD hS hA 11 [0, 1, 2, 3, 4, 5, 6, 7, 8, 9, 10] [] [0, 1, 2, 3, 4, 5, 6, 7, 8, 9, 10] (by decide +kernel) rfl rfl rfl rfl rfl rfl rfl hl.1 rfl rfl (Nat.le_of_ble_eq_true rfl) (zD_g DX6_watch 24 rfl) ⟨Nat.zero_le _, Nat.zero_le _⟩ (fun H locs hP hD hS => ?_)
      cases hf
      exact hret _ _ _ _ hP hD hS (zD_g DX6_watch 25 rfl)
    · replace hf := z_f c9 hf
      refine lv_iload_n hx hb (zD_g DX6_watch 6 rfl) rfl (lv_at hl 3 rfl) ?_
      refine lv_i2l (v := (a_n).toInt64) hx hb (zD_g DX6_watch 7 rfl) rfl ?_
      refine lv_lconst (v := (0 : Int64)) hx hb (zD_g DX6_watch 8 rfl) (by decide) ?_
      refine lv_ldc2 (v := (20 : Int64)) hx hb hown (hts _ (List.mem_of_getElem? (i := 1) rfl)) (zD_g DX6_watch 9 rfl) ?_
      obtain ⟨r13, hc14, hf⟩ := zb1_s hf
      refine z_Sp (As := [.long ((a_n).toInt64), .long (0 : Int64), .long (20 : Int64)]) (rest := []) ⟨hx, hb, hml, hown, hts⟩ hK (c6_in  hc14) (va_cwS 3 hts gX6_watch_X6_in rfl rfl rfl hd6_in ⟨Nat.le_of_ble_eq_true rfl, Nat.le_of_ble_eq_true rfl⟩) (hP.sub [] rfl) rfl hl.1 rfl rfl (Nat.le_of_ble_eq_true rfl) (zD_g DX6_watch 10 rfl) ⟨Nat.zero_le _, Nat.zero_le _⟩ ?_
      refine lv_if_eq (tgt := 43) hx hb (zD_g DX6_watch 11 rfl) (by decide) (fun c15 => ?_) (fun c15 => ?_)
      · replace hf := z_t c15 hf
        refine lv_aload_n hx hb (zD_g DX6_watch 23 rfl) rfl (lv_at hl 0 rfl) ?_
        obtain ⟨r16, refused_17, hc18, hf⟩ := zb2_s hf
        refine z_Vm (As := []) (rest := []) (ws' := (cMod cI cZ q quiet mabove mbelow typed mat mstart mtoken mvalue many book images mkept aside refused_17 text items drawn row best)) ⟨hx, hb, hml, hown, hts⟩ hK (c6_bad (quiet := quiet) (mabove := mabove) (mbelow := mbelow) (typed := typed) (mat := mat) (mstart := mstart) (mtoken := mtoken) (mvalue := mvalue) (many := many) (book := book) (images := images) (mkept := mkept) (aside := aside) (refused := refused) (text := text) (items := items) (drawn := drawn) (row := row) (best := best) (q := q) hc18) (cwV 0 hts gX6_watch_X6_bad rfl rfl rfl hd6_bad ⟨Nat.le_of_ble_eq_true rfl, Nat.le_of_ble_eq_true rfl⟩) hP hD hS hA 11 [0, 1, 2, 3, 4, 5, 6, 7, 8, 9, 10] [] [0, 1, 2, 3, 4, 5, 6, 7, 8, 9, 10] (by decide +kernel) rfl rfl rfl rfl rfl rfl rfl hl.1 rfl rfl (Nat.le_of_ble_eq_true rfl) (zD_g DX6_watch 24 rfl) ⟨Nat.zero_le _, Nat.zero_le _⟩ (fun H locs hP hD hS => ?_)
        cases hf
        exact hret _ _ _ _ hP hD hS (zD_g DX6_watch 25 rfl)
      · replace hf := z_f c15 hf
        refine lv_aload_n hx hb (zD_g DX6_watch 12 rfl) rfl (lv_at hl 0 rfl) ?_
        refine lv_bipush (v := (80 : Int32)) hx hb (zD_g DX6_watch 13 rfl) (by decide) ?_
        refine lv_bipush (v := (6 : Int32)) hx hb (zD_g DX6_watch 14 rfl) (by decide) ?_
        refine lv_iload_n hx hb (zD_g DX6_watch 15 rfl) rfl (lv_at hl 1 rfl) ?_
        refine lv_imul hx hb (zD_g DX6_watch 16 rfl) ?_
        refine lv_iadd hx hb (zD_g DX6_watch 17 rfl) ?_
        refine lv_iload_n hx hb (zD_g DX6_watch 18 rfl) rfl (lv_at hl 2 rfl) ?_
        refine lv_iadd hx hb (zD_g DX6_watch 19 rfl) ?_
        refine lv_iload_n hx hb (zD_g DX6_watch 20 rfl) rfl (lv_at hl 3 rfl) ?_
        obtain ⟨r19, book_20, hc21, hf⟩ := zb2_s hf
        refine z_Vm (As := [.int (((80 : Int32) + ((6 : Int32) * a_c)) + a_hour), .int a_n]) (rest := []) (ws' := (cMod cI cZ q quiet mabove mbelow typed mat mstart mtoken mvalue many book_20 images mkept aside refused text items drawn row best)) ⟨hx, hb, hml, hown, hts⟩ hK (c6_puts (quiet := quiet) (mabove := mabove) (mbelow := mbelow) (typed := typed) (mat := mat) (mstart := mstart) (mtoken := mtoken) (mvalue := mvalue) (many := many) (book := book) (images := images) (mkept := mkept) (aside := aside) (refused := refused) (text := text) (items := items) (drawn := drawn) (row := row) (best := best) (q := q) hc21) (cwV 2 hts gX6_watch_X6_puts rfl rfl rfl hd6_puts ⟨Nat.le_of_ble_eq_true rfl, Nat.le_of_ble_eq_true rfl⟩) hP hD hS hA 11 [0, 1, 2, 3, 4, 5, 6, 7, 8, 9, 10] [] [0, 1, 2, 3, 4, 5, 6, 7, 8, 9, 10] (by decide +kernel) rfl rfl rfl rfl rfl rfl rfl hl.1 rfl rfl (Nat.le_of_ble_eq_true rfl) (zD_g DX6_watch 21 rfl) ⟨Nat.zero_le _, Nat.zero_le _⟩ (fun H locs hP hD hS => ?_)
        refine lv_goto (tgt := 47) hx hb (zD_g DX6_watch 22 rfl) (by decide) ?_
        cases hf
        exact hret _ _ _ _ hP hD hS (zD_g DX6_watch 25 rfl)
abbrev dlX6_type : List (Nat × Instr × Nat) := [(0, .iload_n 1, 1), (1, .i2l, 1), (2, .lconst 0, 1), (3, .ldc2_w 108, 3), (6, .invokestatic 56, 3), (9, .ifCond .ne 8, 3), (12, .aload_n 0, 1), (13, .invokevirtual 66, 3), (16, .ireturn, 1), (17, .aload_n 0, 1), (18, .getfield 110, 3), (21, .sipush 150, 3), (24, .if_icmp .ne 8, 3), (27, .aload_n 0, 1), (28, .invokevirtual 70, 3), (31, .ireturn, 1), (32, .aload_n 0, 1), (33, .getfield 26, 3), (36, .aload_n 0, 1), (37, .getfield 110, 3), (40, .iload_n 1, 1), (41, .iastore, 1), (42, .aload_n 0, 1), (43, .dup, 1), (44, .getfield 110, 3), (47, .iconst 1, 1), (48, .iadd, 1), (49, .putfield 110, 3), (52, .aload_n 0, 1), (53, .getfield 110, 3), (56, .ireturn, 1)]
theorem DX6_type : zD cX6_type dlX6_type = true := by decide +kernel
set_option maxRecDepth 20000 in
theorem ggX6_type_X6_in : GoodIn wsX6_type wsX6_in := goodIn_r _ [7] (by decide +kernel) (by decide +kernel)
set_option maxRecDepth 20000 in
theorem gX6_type_X6_in : GoodIn wsX6_type (va_wsS RX6 56 yX6_in wsX6_in) := goodIn_app (goodIn_of _ (by decide +kernel)) ggX6_type_X6_in
set_option maxRecDepth 20000 in
theorem ggX6_type_X6_bad : GoodIn wsX6_type wsX6_bad := goodIn_r _ [11, 12, 13, 14, 6, 15, 16, 17, 22, 23, 24, 25, 26, 27, 28, 29, 30, 31, 32, 33, 34, 35, 36, 37, 38, 39, 40] (by decide +kernel) (by decide +kernel)
set_option maxRecDepth 20000 in
theorem gX6_type_X6_bad : GoodIn wsX6_type (wsV RX6 66 RX6 yX6_bad wsX6_bad) := goodIn_app (goodIn_of _ (by decide +kernel)) ggX6_type_X6_bad
set_option maxRecDepth 20000 in
theorem ggX6_type_X6_full : GoodIn wsX6_type wsX6_full := goodIn_r _ [21, 12, 13, 14, 6, 15, 16, 17, 22, 23, 24, 25, 26, 27, 28, 29, 30, 31, 32, 33, 34, 35, 36, 37, 38, 39, 40] (by decide +kernel) (by decide +kernel)
set_option maxRecDepth 20000 in
theorem gX6_type_X6_full : GoodIn wsX6_type (wsV RX6 70 RX6 yX6_full wsX6_full) := goodIn_app (goodIn_of _ (by decide +kernel)) ggX6_type_X6_full
theorem hd6_type : yX6_type.cls = RX6 ∧ yX6_type.cls ≠ "java/lang/invoke/MethodHandle" ∧ yX6_type.cls ≠ "java/lang/invoke/VarHandle" ∧ (parseMethodDescriptor yX6_type.desc).map (fun d => d.parameters.length) = some 1 := by decide +kernel
abbrev rm6_type : Room := { frames := 2, cells := 0, slots := 0, locals := 42 }
theorem in6_type_6 : ∀ w ∈ wsX60, w ∈ wsX6_type := fun w h => List.mem_cons_of_mem _ (List.mem_append_right _ h)
set_option maxHeartbeats 4000000 in
set_option maxRecDepth 100000 in
theorem c6_type {l : Launch} {D : va_G} {cI cZ cB : ClassId} {q : Nat → Nat} {sz : Nat} {quiet : Int32} {mabove : Int64} {mbelow : Int64} {typed : Int32} {mat : Int32} {mstart : Int32} {mtoken : Int32} {mvalue : Int32} {many : Int32} {book : Nat → Int32} {images : Nat → Int32} {mkept : Nat → Int32} {aside : Nat → Int32} {refused : Nat → Int32} {text : Nat → Int32} {items : Nat → Int32} {drawn : Nat → Int32} {row : Nat → Int32} {best : Nat → Int32} {a_c : Int32} {r : Int32} {d_typed : Int32} {d_refused : Nat → Int32} {d_text : Nat → Int32} (hf : f6_type quiet typed refused text a_c = some (r, d_typed, d_refused, d_text)) : Met l yX6_type wsX6_type rm6_type (zPm D cI cZ cB [.ref (q 0), .int a_c] sz (cMod cI cZ q quiet mabove mbelow typed mat mstart mtoken mvalue many book images mkept aside refused text items drawn row best)) (zQm D (some (.int r)) (cMod cI cZ q quiet mabove mbelow d_typed mat mstart mtoken mvalue many book images mkept aside d_refused d_text items drawn row best) (va_A (cMod cI cZ q quiet mabove mbelow typed mat mstart mtoken mvalue many book images mkept aside refused text items drawn row best) sz)) 0 0 (va_A (cMod cI cZ q quiet mabove mbelow typed mat mstart mtoken mvalue many book images mkept aside refused text items drawn row best) sz) := by
  unfold f6_type at hf
  refine z_mutI RX6 (by decide +kernel) rfl rfl (Nat.le_of_ble_eq_true rfl) ?_
  intro p e s m args below meth c Q A ls hx hb hml hown hts hK hP hD hS hA hret hl
  have hl : lv_has ls 2 [(0, .ref (q 0)), (1, .int a_c)] := hl
  refine lv_iload_n hx hb (zD_g DX6_type 0 rfl) rfl (lv_at hl 1 rfl) ?_
  refine lv_i2l (v := (a_c).toInt64) hx hb (zD_g DX6_type 1 rfl) rfl ?_
  refine lv_lconst (v := (0 : Int64)) hx hb (zD_g DX6_type 2 rfl) (by decide) ?_
  refine lv_ldc2 (v := (127 : Int64)) hx hb hown (hts _ (List.mem_of_getElem? (i := 1) rfl)) (zD_g DX6_type 3 rfl) ?_
  obtain ⟨r1, hc2, hf⟩ := zb1_s hf
  refine z_Sp (As := [.long ((a_c).toInt64), .long (0 : Int64), .long (127 : Int64)]) (rest := []) ⟨hx, hb, hml, hown, hts⟩ hK (c6_in  hc2) (va_cwS 3 hts gX6_type_X6_in rfl rfl rfl hd6_in ⟨Nat.le_of_ble_eq_true rfl, Nat.le_of_ble_eq_true rfl⟩) (hP.sub [] rfl) rfl hl.1 rfl rfl (Nat.le_of_ble_eq_true rfl) (zD_g DX6_type 4 rfl) ⟨Nat.zero_le _, Nat.zero_le _⟩ ?_
  refine lv_if_ne (tgt := 17) hx hb (zD_g DX6_type 5 rfl) (by decide) (fun c3 => ?_) (fun c3 => ?_)
  · replace hf := z_f c3 hf
    refine lv_aload_n hx hb (zD_g DX6_type 9 rfl) rfl (lv_at hl 0 rfl) ?_
    refine va_get (D := D) (ci := 5) (v := .int typed) (C := RX6) (T := TX6) (N := 19) hx hb hts in6_type_6 hown hK.1 hP 0 rfl rfl 9 (by decide) (hts _ (List.mem_of_getElem? (i := 2) rfl)) (fun _ h9 => h9) rfl (zD_g DX6_type 10 rfl) ?_
    refine lv_sipush (v := (150 : Int32)) hx hb (zD_g DX6_type 11 rfl) (by decide) ?_
    refine lv_icmp_ne (tgt := 32) hx hb (zD_g DX6_type 12 rfl) (by decide) (fun c4 => ?_) (fun c4 => ?_)
    · replace hf := z_f c4 hf
      refine lv_aload_n hx hb (zD_g DX6_type 16 rfl) rfl (lv_at hl 0 rfl) ?_
      refine va_get (D := D) (ci := 5) (v := .ref (q 6)) (C := RX6) (T := TX6) (N := 19) hx hb hts in6_type_6 hown hK.1 hP 0 rfl rfl 8 (by decide) (hts _ (List.mem_of_getElem? (i := 3) rfl)) (fun _ h9 => h9) rfl (zD_g DX6_type 17 rfl) ?_
      refine lv_aload_n hx hb (zD_g DX6_type 18 rfl) rfl (lv_at hl 0 rfl) ?_
      refine va_get (D := D) (ci := 5) (v := .int typed) (C := RX6) (T := TX6) (N := 19) hx hb hts in6_type_6 hown hK.1 hP 0 rfl rfl 9 (by decide) (hts _ (List.mem_of_getElem? (i := 2) rfl)) (fun _ h9 => h9) rfl (zD_g DX6_type 19 rfl) ?_
      refine lv_iload_n hx hb (zD_g DX6_type 20 rfl) rfl (lv_at hl 1 rfl) ?_
      obtain ⟨h5, hf⟩ := zg_s hf
      refine z_iast (k := typed.toNatClampNeg) (ws' := (cMod cI cZ q quiet mabove mbelow typed mat mstart mtoken mvalue many book images mkept aside refused (upd text typed.toNatClampNeg a_c) items drawn row best)) hx hb hK.1 hP hD hS 6 0 rfl rfl h5 rfl rfl (zD_g DX6_type 21 rfl) (fun H locs hP hD hS => ?_)
      refine lv_aload_n hx hb (zD_g DX6_type 22 rfl) rfl (lv_at hl 0 rfl) ?_
      refine lv_dup hx hb (zD_g DX6_type 23 rfl) rfl ?_
      refine va_get (D := D) (ci := 5) (v := .int typed) (C := RX6) (T := TX6) (N := 19) hx hb hts in6_type_6 hown hK.1 hP 0 rfl rfl 9 (by decide) (hts _ (List.mem_of_getElem? (i := 2) rfl)) (fun _ h9 => h9) rfl (zD_g DX6_type 24 rfl) ?_
      refine lv_iconst (v := (1 : Int32)) hx hb (zD_g DX6_type 25 rfl) (by decide) ?_
      refine lv_iadd hx hb (zD_g DX6_type 26 rfl) ?_
      refine lv_topi (fun x6 ex6 => ?_)
      replace hf := zl_s hf x6 ex6
      refine z_put (D := D) (ci := 5) (v := .int x6) (ty := .int) (C := RX6) (T := TX6) (N := 19) (ws' := (cMod cI cZ q quiet mabove mbelow x6 mat mstart mtoken mvalue many book images mkept aside refused (upd text typed.toNatClampNeg a_c) items drawn row best)) hx hb hts in6_type_6 tyX6 tyX6_ok nmX6 hown hK.1 hP hD hS 0 rfl rfl 9 (by decide) (hts _ (List.mem_of_getElem? (i := 2) rfl)) (fun _ h9 => h9) rfl (tyX6_ok 9 (by decide)) rfl rfl (Nat.le_of_ble_eq_true rfl) rfl (zD_g DX6_type 27 rfl) (fun H locs hP hD hS => ?_)
      refine lv_aload_n hx hb (zD_g DX6_type 28 rfl) rfl (lv_at hl 0 rfl) ?_
      refine va_get (D := D) (ci := 5) (v := .int x6) (C := RX6) (T := TX6) (N := 19) hx hb hts in6_type_6 hown hK.1 hP 0 rfl rfl 9 (by decide) (hts _ (List.mem_of_getElem? (i := 2) rfl)) (fun _ h9 => h9) rfl (zD_g DX6_type 29 rfl) ?_
      cases hf
      exact hret _ _ _ _ hP hD hS (zD_g DX6_type 30 rfl)
    · replace hf := z_t c4 hf
      refine lv_aload_n hx hb (zD_g DX6_type 13 rfl) rfl (lv_at hl 0 rfl) ?_
      obtain ⟨r7, refused_8, hc9, hf⟩ := zb2_s hf
      refine z_Vm (As := []) (rest := []) (ws' := (cMod cI cZ q quiet mabove mbelow typed mat mstart mtoken mvalue many book images mkept aside refused_8 text items drawn row best)) ⟨hx, hb, hml, hown, hts⟩ hK (c6_full (quiet := quiet) (mabove := mabove) (mbelow := mbelow) (typed := typed) (mat := mat) (mstart := mstart) (mtoken := mtoken) (mvalue := mvalue) (many := many) (book := book) (images := images) (mkept := mkept) (aside := aside) (refused := refused) (text := text) (items := items) (drawn := drawn) (row := row) (best := best) (q := q) hc9) (cwV 0 hts gX6_type_X6_full rfl rfl rfl hd6_full ⟨Nat.le_of_ble_eq_true rfl, Nat.le_of_ble_eq_true rfl⟩) hP hD hS hA 11 [0, 1, 2, 3, 4, 5, 6, 7, 8, 9, 10] [] [0, 1, 2, 3, 4, 5, 6, 7, 8, 9, 10] (by decide +kernel) rfl rfl rfl rfl rfl rfl rfl hl.1 rfl rfl (Nat.le_of_ble_eq_true rfl) (zD_g DX6_type 14 rfl) ⟨Nat.zero_le _, Nat.zero_le _⟩ (fun H locs hP hD hS => ?_)
      cases hf
      exact hret _ _ _ _ hP hD hS (zD_g DX6_type 15 rfl)
  · replace hf := z_t c3 hf
    refine lv_aload_n hx hb (zD_g DX6_type 6 rfl) rfl (lv_at hl 0 rfl) ?_
    obtain ⟨r10, refused_11, hc12, hf⟩ := zb2_s hf
    refine z_Vm (As := []) (rest := []) (ws' := (cMod cI cZ q quiet mabove mbelow typed mat mstart mtoken mvalue many book images mkept aside refused_11 text items drawn row best)) ⟨hx, hb, hml, hown, hts⟩ hK (c6_bad (quiet := quiet) (mabove := mabove) (mbelow := mbelow) (typed := typed) (mat := mat) (mstart := mstart) (mtoken := mtoken) (mvalue := mvalue) (many := many) (book := book) (images := images) (mkept := mkept) (aside := aside) (refused := refused) (text := text) (items := items) (drawn := drawn) (row := row) (best := best) (q := q) hc12) (cwV 0 hts gX6_type_X6_bad rfl rfl rfl hd6_bad ⟨Nat.le_of_ble_eq_true rfl, Nat.le_of_ble_eq_true rfl⟩) hP hD hS hA 11 [0, 1, 2, 3, 4, 5, 6, 7, 8, 9, 10] [] [0, 1, 2, 3, 4, 5, 6, 7, 8, 9, 10] (by decide +kernel) rfl rfl rfl rfl rfl rfl rfl hl.1 rfl rfl (Nat.le_of_ble_eq_true rfl) (zD_g DX6_type 7 rfl) ⟨Nat.zero_le _, Nat.zero_le _⟩ (fun H locs hP hD hS => ?_)
    cases hf
    exact hret _ _ _ _ hP hD hS (zD_g DX6_type 8 rfl)
abbrev dlX6_clear : List (Nat × Instr × Nat) := [(0, .aload_n 0, 1), (1, .getfield 110, 3), (4, .istore_n 1, 1), (5, .aload_n 0, 1), (6, .iconst 0, 1), (7, .putfield 110, 3), (10, .iload_n 1, 1), (11, .ireturn, 1)]
theorem DX6_clear : zD cX6_clear dlX6_clear = true := by decide +kernel
theorem hd6_clear : yX6_clear.cls = RX6 ∧ yX6_clear.cls ≠ "java/lang/invoke/MethodHandle" ∧ yX6_clear.cls ≠ "java/lang/invoke/VarHandle" ∧ (parseMethodDescriptor yX6_clear.desc).map (fun d => d.parameters.length) = some 0 := by decide +kernel
abbrev rm6_clear : Room := { frames := 0, cells := 0, slots := 0, locals := 0 }
theorem in6_clear_6 : ∀ w ∈ wsX60, w ∈ wsX6_clear := fun w h => List.mem_cons_of_mem _ (List.mem_append_right _ h)
set_option maxHeartbeats 4000000 in
set_option maxRecDepth 100000 in
theorem c6_clear {l : Launch} {D : va_G} {cI cZ cB : ClassId} {q : Nat → Nat} {sz : Nat} {quiet : Int32} {mabove : Int64} {mbelow : Int64} {typed : Int32} {mat : Int32} {mstart : Int32} {mtoken : Int32} {mvalue : Int32} {many : Int32} {book : Nat → Int32} {images : Nat → Int32} {mkept : Nat → Int32} {aside : Nat → Int32} {refused : Nat → Int32} {text : Nat → Int32} {items : Nat → Int32} {drawn : Nat → Int32} {row : Nat → Int32} {best : Nat → Int32}  {r : Int32} {d_typed : Int32} (hf : f6_clear typed = some (r, d_typed)) : Met l yX6_clear wsX6_clear rm6_clear (zPm D cI cZ cB [.ref (q 0)] sz (cMod cI cZ q quiet mabove mbelow typed mat mstart mtoken mvalue many book images mkept aside refused text items drawn row best)) (zQm D (some (.int r)) (cMod cI cZ q quiet mabove mbelow d_typed mat mstart mtoken mvalue many book images mkept aside refused text items drawn row best) (va_A (cMod cI cZ q quiet mabove mbelow typed mat mstart mtoken mvalue many book images mkept aside refused text items drawn row best) sz)) 0 0 (va_A (cMod cI cZ q quiet mabove mbelow typed mat mstart mtoken mvalue many book images mkept aside refused text items drawn row best) sz) := by
  unfold f6_clear at hf
  refine z_mutI RX6 (by decide +kernel) rfl rfl (Nat.le_of_ble_eq_true rfl) ?_
  intro p e s m args below meth c Q A ls hx hb hml hown hts hK hP hD hS hA hret hl
  have hl : lv_has ls 2 [(0, .ref (q 0))] := hl
  refine lv_aload_n hx hb (zD_g DX6_clear 0 rfl) rfl (lv_at hl 0 rfl) ?_
  refine va_get (D := D) (ci := 5) (v := .int typed) (C := RX6) (T := TX6) (N := 19) hx hb hts in6_clear_6 hown hK.1 hP 0 rfl rfl 9 (by decide) (hts _ (List.mem_of_getElem? (i := 1) rfl)) (fun _ h9 => h9) rfl (zD_g DX6_clear 1 rfl) ?_
  refine lv_istore_n (lv' := [(1, .int typed), (0, .ref (q 0))]) hx hb (zD_g DX6_clear 2 rfl) rfl hl (by decide) rfl (fun ls hl => ?_)
  refine lv_aload_n hx hb (zD_g DX6_clear 3 rfl) rfl (lv_at hl 1 rfl) ?_
  refine lv_iconst (v := (0 : Int32)) hx hb (zD_g DX6_clear 4 rfl) (by decide) ?_
  refine z_put (D := D) (ci := 5) (v := .int (0 : Int32)) (ty := .int) (C := RX6) (T := TX6) (N := 19) (ws' := (cMod cI cZ q quiet mabove mbelow (0 : Int32) mat mstart mtoken mvalue many book images mkept aside refused text items drawn row best)) hx hb hts in6_clear_6 tyX6 tyX6_ok nmX6 hown hK.1 hP hD hS 0 rfl rfl 9 (by decide) (hts _ (List.mem_of_getElem? (i := 1) rfl)) (fun _ h9 => h9) rfl (tyX6_ok 9 (by decide)) rfl rfl (Nat.le_of_ble_eq_true rfl) rfl (zD_g DX6_clear 5 rfl) (fun H locs hP hD hS => ?_)
  refine lv_iload_n hx hb (zD_g DX6_clear 6 rfl) rfl (lv_at hl 0 rfl) ?_
  cases hf
  exact hret _ _ _ _ hP hD hS (zD_g DX6_clear 7 rfl)
abbrev dlX6_isAt : List (Nat × Instr × Nat) := [(0, .aload_n 0, 1), (1, .getfield 114, 3), (4, .aload_n 0, 1), (5, .getfield 110, 3), (8, .if_icmp .ge 27, 3), (11, .aload_n 0, 1), (12, .getfield 26, 3), (15, .aload_n 0, 1), (16, .getfield 114, 3), (19, .iaload, 1), (20, .i2l, 1), (21, .iload_n 1, 1), (22, .i2l, 1), (23, .iload_n 2, 1), (24, .i2l, 1), (25, .invokestatic 56, 3), (28, .ifCond .eq 7, 3), (31, .iconst 1, 1), (32, .goto 4, 3), (35, .iconst 0, 1), (36, .ireturn, 1)]
theorem DX6_isAt : zD cX6_isAt dlX6_isAt = true := by decide +kernel
set_option maxRecDepth 20000 in
theorem ggX6_isAt_X6_in : GoodIn wsX6_isAt wsX6_in := goodIn_r _ [7] (by decide +kernel) (by decide +kernel)
set_option maxRecDepth 20000 in
theorem gX6_isAt_X6_in : GoodIn wsX6_isAt (va_wsS RX6 56 yX6_in wsX6_in) := goodIn_app (goodIn_of _ (by decide +kernel)) ggX6_isAt_X6_in
theorem hd6_isAt : yX6_isAt.cls = RX6 ∧ yX6_isAt.cls ≠ "java/lang/invoke/MethodHandle" ∧ yX6_isAt.cls ≠ "java/lang/invoke/VarHandle" ∧ (parseMethodDescriptor yX6_isAt.desc).map (fun d => d.parameters.length) = some 2 := by decide +kernel
abbrev rm6_isAt : Room := { frames := 1, cells := 0, slots := 0, locals := 25 }
theorem in6_isAt_6 : ∀ w ∈ wsX60, w ∈ wsX6_isAt := fun w h => List.mem_cons_of_mem _ (List.mem_append_right _ h)
set_option maxHeartbeats 4000000 in
set_option maxRecDepth 100000 in
theorem c6_isAt {l : Launch} {D : va_G} {cI cZ cB : ClassId} {q : Nat → Nat} {quiet : Int32} {mabove : Int64} {mbelow : Int64} {typed : Int32} {mat : Int32} {mstart : Int32} {mtoken : Int32} {mvalue : Int32} {many : Int32} {book : Nat → Int32} {images : Nat → Int32} {mkept : Nat → Int32} {aside : Nat → Int32} {refused : Nat → Int32} {text : Nat → Int32} {items : Nat → Int32} {drawn : Nat → Int32} {row : Nat → Int32} {best : Nat → Int32} {a_low : Int32} {a_high : Int32} {r : Int32}  (hf : f6_isAt typed mat text a_low a_high = some r) : Met l yX6_isAt wsX6_isAt rm6_isAt (zPp D cI cZ cB [.ref (q 0), .int a_low, .int a_high] (cMod cI cZ q quiet mabove mbelow typed mat mstart mtoken mvalue many book images mkept aside refused text items drawn row best)) (zQp (some (.int r))) 0 0 (fun _ => False) := by
  unfold f6_isAt at hf
  refine z_pureZ RX6 (by decide +kernel) rfl rfl (Nat.le_of_ble_eq_true rfl) ?_
  intro p e s m args below meth c Q ls hx hb hml hown hts hK hP hret hl
  have hl : lv_has ls 3 [(0, .ref (q 0)), (1, .int a_low), (2, .int a_high)] := hl
  refine lv_aload_n hx hb (zD_g DX6_isAt 0 rfl) rfl (lv_at hl 0 rfl) ?_
  refine va_get (D := D) (ci := 5) (v := .int mat) (C := RX6) (T := TX6) (N := 19) hx hb hts in6_isAt_6 hown hK.1 hP 0 rfl rfl 10 (by decide) (hts _ (List.mem_of_getElem? (i := 1) rfl)) (fun _ h9 => h9) rfl (zD_g DX6_isAt 1 rfl) ?_
  refine lv_aload_n hx hb (zD_g DX6_isAt 2 rfl) rfl (lv_at hl 0 rfl) ?_
  refine va_get (D := D) (ci := 5) (v := .int typed) (C := RX6) (T := TX6) (N := 19) hx hb hts in6_isAt_6 hown hK.1 hP 0 rfl rfl 9 (by decide) (hts _ (List.mem_of_getElem? (i := 2) rfl)) (fun _ h9 => h9) rfl (zD_g DX6_isAt 3 rfl) ?_
  refine lv_icmp_ge (tgt := 35) hx hb (zD_g DX6_isAt 4 rfl) (by decide) (fun c1 => ?_) (fun c1 => ?_)
  · replace hf := z_t c1 hf
    refine lv_iconst (v := (0 : Int32)) hx hb (zD_g DX6_isAt 19 rfl) (by decide) ?_
    cases hf
    exact hret _ _ rfl (zD_g DX6_isAt 20 rfl)
  · replace hf := z_f c1 hf
    refine lv_aload_n hx hb (zD_g DX6_isAt 5 rfl) rfl (lv_at hl 0 rfl) ?_
    refine va_get (D := D) (ci := 5) (v := .ref (q 6)) (C := RX6) (T := TX6) (N := 19) hx hb hts in6_isAt_6 hown hK.1 hP 0 rfl rfl 8 (by decide) (hts _ (List.mem_of_getElem? (i := 3) rfl)) (fun _ h9 => h9) rfl (zD_g DX6_isAt 6 rfl) ?_
    refine lv_aload_n hx hb (zD_g DX6_isAt 7 rfl) rfl (lv_at hl 0 rfl) ?_
    refine va_get (D := D) (ci := 5) (v := .int mat) (C := RX6) (T := TX6) (N := 19) hx hb hts in6_isAt_6 hown hK.1 hP 0 rfl rfl 10 (by decide) (hts _ (List.mem_of_getElem? (i := 1) rfl)) (fun _ h9 => h9) rfl (zD_g DX6_isAt 8 rfl) ?_
    obtain ⟨h2, hf⟩ := zg_s hf
    refine z_iald (k := mat.toNatClampNeg) hx hb hK.1 hP 6 0 rfl rfl h2 rfl (zD_g DX6_isAt 9 rfl) ?_
    refine lv_i2l (v := ((text mat.toNatClampNeg)).toInt64) hx hb (zD_g DX6_isAt 10 rfl) rfl ?_
    refine lv_iload_n hx hb (zD_g DX6_isAt 11 rfl) rfl (lv_at hl 1 rfl) ?_
    refine lv_i2l (v := (a_low).toInt64) hx hb (zD_g DX6_isAt 12 rfl) rfl ?_
    refine lv_iload_n hx hb (zD_g DX6_isAt 13 rfl) rfl (lv_at hl 2 rfl) ?_
    refine lv_i2l (v := (a_high).toInt64) hx hb (zD_g DX6_isAt 14 rfl) rfl ?_
    obtain ⟨r3, hc4, hf⟩ := zb1_s hf
    refine z_Sp (As := [.long (((text mat.toNatClampNeg)).toInt64), .long ((a_low).toInt64), .long ((a_high).toInt64)]) (rest := []) ⟨hx, hb, hml, hown, hts⟩ hK (c6_in  hc4) (va_cwS 3 hts gX6_isAt_X6_in rfl rfl rfl hd6_in ⟨Nat.le_of_ble_eq_true rfl, Nat.le_of_ble_eq_true rfl⟩) (hP.sub [] rfl) rfl hl.1 rfl rfl (Nat.le_of_ble_eq_true rfl) (zD_g DX6_isAt 15 rfl) ⟨Nat.zero_le _, Nat.zero_le _⟩ ?_
    refine lv_if_eq (tgt := 35) hx hb (zD_g DX6_isAt 16 rfl) (by decide) (fun c5 => ?_) (fun c5 => ?_)
    · replace hf := z_t c5 hf
      refine lv_iconst (v := (0 : Int32)) hx hb (zD_g DX6_isAt 19 rfl) (by decide) ?_
      cases hf
      exact hret _ _ rfl (zD_g DX6_isAt 20 rfl)
    · replace hf := z_f c5 hf
      refine lv_iconst (v := (1 : Int32)) hx hb (zD_g DX6_isAt 17 rfl) (by decide) ?_
      refine lv_goto (tgt := 36) hx hb (zD_g DX6_isAt 18 rfl) (by decide) ?_
      cases hf
      exact hret _ _ rfl (zD_g DX6_isAt 20 rfl)
abbrev dlX6_verbOf : List (Nat × Instr × Nat) := [(0, .lload_n 0, 1), (1, .ldc2_w 117, 3), (4, .lcmp, 1), (5, .ifCond .ne 7, 3), (8, .iconst 0, 1), (9, .goto 28, 3), (12, .lload_n 0, 1), (13, .ldc2_w 119, 3), (16, .lcmp, 1), (17, .ifCond .ne 7, 3), (20, .iconst 1, 1), (21, .goto 16, 3), (24, .lload_n 0, 1), (25, .ldc2_w 121, 3), (28, .lcmp, 1), (29, .ifCond .ne 7, 3), (32, .iconst 2, 1), (33, .goto 4, 3), (36, .iconst (-1), 1), (37, .istore_n 2, 1), (38, .lload_n 0, 1), (39, .ldc2_w 123, 3), (42, .lcmp, 1), (43, .ifCond .ne 7, 3), (46, .iconst 3, 1), (47, .goto 41, 3), (50, .lload_n 0, 1), (51, .ldc2_w 125, 3), (54, .lcmp, 1), (55, .ifCond .ne 7, 3), (58, .iconst 4, 1), (59, .goto 29, 3), (62, .lload_n 0, 1), (63, .ldc2_w 127, 3), (66, .lcmp, 1), (67, .ifCond .ne 7, 3), (70, .iconst 5, 1), (71, .goto 17, 3), (74, .lload_n 0, 1), (75, .ldc2_w 129, 3), (78, .lcmp, 1), (79, .ifCond .ne 8, 3), (82, .bipush 6, 2), (84, .goto 4, 3), (87, .iconst (-1), 1), (88, .istore_n 3, 1), (89, .iload_n 2, 1), (90, .iconst (-1), 1), (91, .if_icmp .eq 7, 3), (94, .iload_n 2, 1), (95, .goto 4, 3), (98, .iload_n 3, 1), (99, .ireturn, 1)]
theorem DX6_verbOf : zD cX6_verbOf dlX6_verbOf = true := by decide +kernel
theorem hd6_verbOf : yX6_verbOf.cls ≠ "java/lang/invoke/MethodHandle" ∧ yX6_verbOf.cls ≠ "java/lang/invoke/VarHandle" ∧ (parseMethodDescriptor yX6_verbOf.desc).map (fun d => d.parameters.length) = some 1 := by decide +kernel
abbrev rm6_verbOf : Room := { frames := 0, cells := 0, slots := 0, locals := 0 }
set_option maxHeartbeats 4000000 in
set_option maxRecDepth 100000 in
theorem c6_verbOf {l : Launch} {D : va_G} {cI cZ cB : ClassId}   {a_v : Int64} {r : Int32}  (hf : f6_verbOf a_v = some r) : Met l yX6_verbOf wsX6_verbOf rm6_verbOf (zPp D cI cZ cB [.long a_v] ([] : va_W)) (zQp (some (.int r))) 0 0 (fun _ => False) := by
  unfold f6_verbOf at hf
  refine z_pureI RX6 (by decide +kernel) rfl rfl (Nat.le_of_ble_eq_true rfl) ?_
  intro p e s m args below meth c Q ls hx hb hml hown hts hK hP hret hl
  have hl : lv_has ls 4 [(0, .long a_v)] := hl
  refine lv_lload_n hx hb (zD_g DX6_verbOf 0 rfl) rfl (lv_at hl 0 rfl) ?_
  refine lv_ldc2 (v := (21243335 : Int64)) hx hb hown (hts _ (List.mem_of_getElem? (i := 1) rfl)) (zD_g DX6_verbOf 1 rfl) ?_
  refine W.lcmp hx hb (zD_g DX6_verbOf 2 rfl) ?_
  obtain ⟨v2, hr10, hf⟩ := zb1_s hf
  have hJ10 : ∀ (ls : Array Slot), lv_has ls 4 [(0, .long a_v)] → W p l e rm6_verbOf s m args below meth c s.heap [] 0 0 Q (F0 m 37 ls [.int v2]) := by
    intro ls hl
    refine lv_istore_n (lv' := [(2, .int v2), (0, .long a_v)]) hx hb (zD_g DX6_verbOf 19 rfl) rfl hl (by decide) rfl (fun ls hl => ?_)
    refine lv_lload_n hx hb (zD_g DX6_verbOf 20 rfl) rfl (lv_at hl 1 rfl) ?_
    refine lv_ldc2 (v := (231045 : Int64)) hx hb hown (hts _ (List.mem_of_getElem? (i := 4) rfl)) (zD_g DX6_verbOf 21 rfl) ?_
    refine W.lcmp hx hb (zD_g DX6_verbOf 22 rfl) ?_
    obtain ⟨v4, hr6, hf⟩ := zb1_s hf
    have hJ6 : ∀ (ls : Array Slot), lv_has ls 4 [(2, .int v2)] → W p l e rm6_verbOf s m args below meth c s.heap [] 0 0 Q (F0 m 88 ls [.int v4]) := by
      intro ls hl
      refine lv_istore_n (lv' := [(3, .int v4), (2, .int v2)]) hx hb (zD_g DX6_verbOf 45 rfl) rfl hl (by decide) rfl (fun ls hl => ?_)
      refine lv_iload_n hx hb (zD_g DX6_verbOf 46 rfl) rfl (lv_at hl 1 rfl) ?_
      refine lv_iconst (v := (-1 : Int32)) hx hb (zD_g DX6_verbOf 47 rfl) (by decide) ?_
      refine lv_icmp_eq (tgt := 98) hx hb (zD_g DX6_verbOf 48 rfl) (by decide) (fun c5 => ?_) (fun c5 => ?_)
      · replace hf := z_t c5 hf
        refine lv_iload_n hx hb (zD_g DX6_verbOf 51 rfl) rfl (lv_at hl 0 rfl) ?_
        cases hf
        exact hret _ _ (zD_g DX6_verbOf 52 rfl)
      · replace hf := z_f c5 hf
        refine lv_iload_n hx hb (zD_g DX6_verbOf 49 rfl) rfl (lv_at hl 1 rfl) ?_
        refine lv_goto (tgt := 99) hx hb (zD_g DX6_verbOf 50 rfl) (by decide) ?_
        cases hf
        exact hret _ _ (zD_g DX6_verbOf 52 rfl)
    clear hf
    have hf := hr6
    refine lv_if_ne (tgt := 50) hx hb (zD_g DX6_verbOf 23 rfl) (by decide) (fun c3 => ?_) (fun c3 => ?_)
    · replace hf := z_f c3 hf
      refine lv_lload_n hx hb (zD_g DX6_verbOf 26 rfl) rfl (lv_at hl 1 rfl) ?_
      refine lv_ldc2 (v := (5170 : Int64)) hx hb hown (hts _ (List.mem_of_getElem? (i := 5) rfl)) (zD_g DX6_verbOf 27 rfl) ?_
      refine W.lcmp hx hb (zD_g DX6_verbOf 28 rfl) ?_
      refine lv_if_ne (tgt := 62) hx hb (zD_g DX6_verbOf 29 rfl) (by decide) (fun c7 => ?_) (fun c7 => ?_)
      · replace hf := z_f c7 hf
        refine lv_lload_n hx hb (zD_g DX6_verbOf 32 rfl) rfl (lv_at hl 1 rfl) ?_
        refine lv_ldc2 (v := (20022661 : Int64)) hx hb hown (hts _ (List.mem_of_getElem? (i := 6) rfl)) (zD_g DX6_verbOf 33 rfl) ?_
        refine W.lcmp hx hb (zD_g DX6_verbOf 34 rfl) ?_
        refine lv_if_ne (tgt := 74) hx hb (zD_g DX6_verbOf 35 rfl) (by decide) (fun c8 => ?_) (fun c8 => ?_)
        · replace hf := z_f c8 hf
          refine lv_lload_n hx hb (zD_g DX6_verbOf 38 rfl) rfl (lv_at hl 1 rfl) ?_
          refine lv_ldc2 (v := (24170600 : Int64)) hx hb hown (hts _ (List.mem_of_getElem? (i := 7) rfl)) (zD_g DX6_verbOf 39 rfl) ?_
          refine W.lcmp hx hb (zD_g DX6_verbOf 40 rfl) ?_
          refine lv_if_ne (tgt := 87) hx hb (zD_g DX6_verbOf 41 rfl) (by decide) (fun c9 => ?_) (fun c9 => ?_)
          · replace hf := z_f c9 hf
            refine lv_iconst (v := (-1 : Int32)) hx hb (zD_g DX6_verbOf 44 rfl) (by decide) ?_
            cases hf
            exact hJ6 ls (lv_sub hl [0] rfl)
          · replace hf := z_t c9 hf
            refine lv_bipush (v := (6 : Int32)) hx hb (zD_g DX6_verbOf 42 rfl) (by decide) ?_
            refine lv_goto (tgt := 88) hx hb (zD_g DX6_verbOf 43 rfl) (by decide) ?_
            cases hf
            exact hJ6 ls (lv_sub hl [0] rfl)
        · replace hf := z_t c8 hf
          refine lv_iconst (v := (5 : Int32)) hx hb (zD_g DX6_verbOf 36 rfl) (by decide) ?_
          refine lv_goto (tgt := 88) hx hb (zD_g DX6_verbOf 37 rfl) (by decide) ?_
          cases hf
          exact hJ6 ls (lv_sub hl [0] rfl)
      · replace hf := z_t c7 hf
        refine lv_iconst (v := (4 : Int32)) hx hb (zD_g DX6_verbOf 30 rfl) (by decide) ?_
        refine lv_goto (tgt := 88) hx hb (zD_g DX6_verbOf 31 rfl) (by decide) ?_
        cases hf
        exact hJ6 ls (lv_sub hl [0] rfl)
    · replace hf := z_t c3 hf
      refine lv_iconst (v := (3 : Int32)) hx hb (zD_g DX6_verbOf 24 rfl) (by decide) ?_
      refine lv_goto (tgt := 88) hx hb (zD_g DX6_verbOf 25 rfl) (by decide) ?_
      cases hf
      exact hJ6 ls (lv_sub hl [0] rfl)
  clear hf
  have hf := hr10
  refine lv_if_ne (tgt := 12) hx hb (zD_g DX6_verbOf 3 rfl) (by decide) (fun c1 => ?_) (fun c1 => ?_)
  · replace hf := z_f c1 hf
    refine lv_lload_n hx hb (zD_g DX6_verbOf 6 rfl) rfl (lv_at hl 0 rfl) ?_
    refine lv_ldc2 (v := (238804 : Int64)) hx hb hown (hts _ (List.mem_of_getElem? (i := 2) rfl)) (zD_g DX6_verbOf 7 rfl) ?_
    refine W.lcmp hx hb (zD_g DX6_verbOf 8 rfl) ?_
    refine lv_if_ne (tgt := 24) hx hb (zD_g DX6_verbOf 9 rfl) (by decide) (fun c11 => ?_) (fun c11 => ?_)
    · replace hf := z_f c11 hf
      refine lv_lload_n hx hb (zD_g DX6_verbOf 12 rfl) rfl (lv_at hl 0 rfl) ?_
      refine lv_ldc2 (v := (302 : Int64)) hx hb hown (hts _ (List.mem_of_getElem? (i := 3) rfl)) (zD_g DX6_verbOf 13 rfl) ?_
      refine W.lcmp hx hb (zD_g DX6_verbOf 14 rfl) ?_
      refine lv_if_ne (tgt := 36) hx hb (zD_g DX6_verbOf 15 rfl) (by decide) (fun c12 => ?_) (fun c12 => ?_)
      · replace hf := z_f c12 hf
        refine lv_iconst (v := (-1 : Int32)) hx hb (zD_g DX6_verbOf 18 rfl) (by decide) ?_
        cases hf
        exact hJ10 ls (lv_sub hl [0] rfl)
      · replace hf := z_t c12 hf
        refine lv_iconst (v := (2 : Int32)) hx hb (zD_g DX6_verbOf 16 rfl) (by decide) ?_
        refine lv_goto (tgt := 37) hx hb (zD_g DX6_verbOf 17 rfl) (by decide) ?_
        cases hf
        exact hJ10 ls (lv_sub hl [0] rfl)
    · replace hf := z_t c11 hf
      refine lv_iconst (v := (1 : Int32)) hx hb (zD_g DX6_verbOf 10 rfl) (by decide) ?_
      refine lv_goto (tgt := 37) hx hb (zD_g DX6_verbOf 11 rfl) (by decide) ?_
      cases hf
      exact hJ10 ls (lv_sub hl [0] rfl)
  · replace hf := z_t c1 hf
    refine lv_iconst (v := (0 : Int32)) hx hb (zD_g DX6_verbOf 4 rfl) (by decide) ?_
    refine lv_goto (tgt := 37) hx hb (zD_g DX6_verbOf 5 rfl) (by decide) ?_
    cases hf
    exact hJ10 ls (lv_sub hl [0] rfl)
