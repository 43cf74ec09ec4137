abbrev dlX0_loadBehind : List (Nat × Instr × Nat) := [(0, .iconst 0, 1), (1, .istore_n 2, 1), (2, .iconst 0, 1), (3, .iload_n 1, 1), (4, .aload_n 0, 1), (5, .getfield 18, 3), (8, .isub, 1), (9, .iconst 1, 1), (10, .iadd, 1), (11, .invokestatic 67, 3), (14, .istore_n 3, 1), (15, .iload_n 3, 1), (16, .iload_n 1, 1), (17, .if_icmp .gt 23, 3), (20, .iload_n 2, 1), (21, .aload_n 0, 1), (22, .getfield 28, 3), (25, .aload_n 0, 1), (26, .getfield 31, 3), (29, .iload_n 3, 1), (30, .iaload, 1), (31, .iaload, 1), (32, .iadd, 1), (33, .istore_n 2, 1), (34, .iinc 3 1, 3), (37, .goto (-22), 3), (40, .iload_n 2, 1), (41, .ireturn, 1)]
theorem DX0_loadBehind : zD cX0_loadBehind dlX0_loadBehind = true := by decide +kernel
theorem hd0_loadBehind : yX0_loadBehind.cls = RX0 ∧ yX0_loadBehind.cls ≠ "java/lang/invoke/MethodHandle" ∧ yX0_loadBehind.cls ≠ "java/lang/invoke/VarHandle" ∧ (parseMethodDescriptor yX0_loadBehind.desc).map (fun d => d.parameters.length) = some 1 := by decide +kernel
abbrev rm0_loadBehind : Room := { frames := 1, cells := 0, slots := 0, locals := 13 }
theorem in0_loadBehind_0 : ∀ w ∈ wsX00, w ∈ wsX0_loadBehind := fun w h => List.mem_cons_of_mem _ (List.mem_append_right _ h)
set_option maxHeartbeats 4000000 in
set_option maxRecDepth 100000 in
theorem c0_loadBehind {l : Launch} {D : va_G} {cI cZ cB : ClassId} {q : Nat → Nat} {bcount : Int32} {bleast : Int32} {bneigh : Int32} {bdrawn : Int32} {bgifts : Nat → Int32} {bweights : Nat → Int32} {border : Nat → Int32} {bbest : Nat → Int32} {a_place : Int32} {r : Int32}  (hf : f0_loadBehind bneigh bweights border a_place = some r) : Met l yX0_loadBehind wsX0_loadBehind rm0_loadBehind (zPp D cI cZ cB [.ref (q 0), .int a_place] (cBridge cI q bcount bleast bneigh bdrawn bgifts bweights border bbest)) (zQp (some (.int r))) 0 0 (fun _ => False) := by
  unfold f0_loadBehind at hf
  refine z_pureI RX0 (by decide +kernel) rfl rfl (Nat.le_of_ble_eq_true rfl) ?_
  intro p e s m args below meth c Q ls hx hb hml hown hts hK hP hret hl
  have hl : lv_has ls 4 [(0, .ref (q 0)), (1, .int a_place)] := hl
  refine lv_iconst (v := (0 : Int32)) hx hb (zD_g DX0_loadBehind 0 rfl) (by decide) ?_
  refine lv_istore_n (lv' := [(2, .int (0 : Int32)), (0, .ref (q 0)), (1, .int a_place)]) hx hb (zD_g DX0_loadBehind 1 rfl) rfl hl (by decide) rfl (fun ls hl => ?_)
  refine lv_iconst (v := (0 : Int32)) hx hb (zD_g DX0_loadBehind 2 rfl) (by decide) ?_
  refine lv_iload_n hx hb (zD_g DX0_loadBehind 3 rfl) rfl (lv_at hl 2 rfl) ?_
  refine lv_aload_n hx hb (zD_g DX0_loadBehind 4 rfl) rfl (lv_at hl 1 rfl) ?_
  refine va_get (D := D) (ci := 0) (v := .int bneigh) (C := RX0) (T := TX0) (N := 8) hx hb hts in0_loadBehind_0 hown hK.1 hP 0 rfl rfl 2 (by decide) (hts _ (List.mem_of_getElem? (i := 1) rfl)) (fun _ h9 => h9) rfl (zD_g DX0_loadBehind 5 rfl) ?_
  refine lv_isub hx hb (zD_g DX0_loadBehind 6 rfl) ?_
  refine lv_iconst (v := (1 : Int32)) hx hb (zD_g DX0_loadBehind 7 rfl) (by decide) ?_
  refine lv_iadd hx hb (zD_g DX0_loadBehind 8 rfl) ?_
  refine va_mmax hx hb (hml.trans hl.1.symm) hown (hts _ (List.mem_of_getElem? (i := 2) rfl)) (hts _ (List.mem_of_getElem? (i := 3) rfl)) (hts _ (List.mem_of_getElem? (i := 4) rfl)) (hts _ (List.mem_of_getElem? (i := 5) rfl)) (Nat.le_of_ble_eq_true rfl) (Nat.le_of_ble_eq_true rfl) (Nat.zero_le _) (Nat.zero_le _) (zD_g DX0_loadBehind 9 rfl) ?_
  refine lv_topi (fun x1 ex1 => ?_)
  replace hf := zl_s hf x1 ex1
  refine lv_istore_n (lv' := [(3, .int x1), (2, .int (0 : Int32)), (0, .ref (q 0)), (1, .int a_place)]) hx hb (zD_g DX0_loadBehind 10 rfl) rfl hl (by decide) rfl (fun ls hl => ?_)
  have hL4 : ∀ (k4 : Int32 → Option (Int32)) (hk4 : ∀ (y9 : Int32), k4 y9 = some r → ∀ (ls : Array Slot), lv_has ls 4 [(2, .int y9)] → W p l e rm0_loadBehind s m args below meth c s.heap [] 0 0 Q (F0 m 40 ls [])) (n4 : Nat) (y2 : Int32) (y3 : Int32), L0_loadBehind_15 k4 bweights border a_place n4 y2 y3 = some r → ∀ (ls : Array Slot), lv_has ls 4 [(0, .ref (q 0)), (1, .int a_place), (2, .int y2), (3, .int y3)] → W p l e rm0_loadBehind s m args below meth c s.heap [] 0 0 Q (F0 m 15 ls []) := by
    intro k4 hk4 n4
    induction n4 with
    | zero =>
      intro y2 y3 hf
      cases hf
    | succ n4 ih4 =>
      intro y2 y3 hf ls hl
      rw [L0_loadBehind_15] at hf
      refine lv_iload_n hx hb (zD_g DX0_loadBehind 11 rfl) rfl (lv_at hl 3 rfl) ?_
      refine lv_iload_n hx hb (zD_g DX0_loadBehind 12 rfl) rfl (lv_at hl 1 rfl) ?_
      refine lv_icmp_gt (tgt := 40) hx hb (zD_g DX0_loadBehind 13 rfl) (by decide) (fun c5 => ?_) (fun c5 => ?_)
      · replace hf := z_t c5 hf
        exact hk4 _ hf ls (lv_sub hl [2] rfl)
      · replace hf := z_f c5 hf
        refine lv_iload_n hx hb (zD_g DX0_loadBehind 14 rfl) rfl (lv_at hl 2 rfl) ?_
        refine lv_aload_n hx hb (zD_g DX0_loadBehind 15 rfl) rfl (lv_at hl 0 rfl) ?_
        refine va_get (D := D) (ci := 0) (v := .ref (q 2)) (C := RX0) (T := TX0) (N := 8) hx hb hts in0_loadBehind_0 hown hK.1 hP 0 rfl rfl 5 (by decide) (hts _ (List.mem_of_getElem? (i := 6) rfl)) (fun _ h9 => h9) rfl (zD_g DX0_loadBehind 16 rfl) ?_
        refine lv_aload_n hx hb (zD_g DX0_loadBehind 17 rfl) rfl (lv_at hl 0 rfl) ?_
        refine va_get (D := D) (ci := 0) (v := .ref (q 3)) (C := RX0) (T := TX0) (N := 8) hx hb hts in0_loadBehind_0 hown hK.1 hP 0 rfl rfl 6 (by decide) (hts _ (List.mem_of_getElem? (i := 7) rfl)) (fun _ h9 => h9) rfl (zD_g DX0_loadBehind 18 rfl) ?_
        refine lv_iload_n hx hb (zD_g DX0_loadBehind 19 rfl) rfl (lv_at hl 3 rfl) ?_
        obtain ⟨h6, hf⟩ := zg_s hf
        refine z_iald (k := y3.toNatClampNeg) hx hb hK.1 hP 3 0 rfl rfl h6 rfl (zD_g DX0_loadBehind 20 rfl) ?_
        obtain ⟨h7, hf⟩ := zg_s hf
        refine z_iald (k := (border y3.toNatClampNeg).toNatClampNeg) hx hb hK.1 hP 2 0 rfl rfl h7 rfl (zD_g DX0_loadBehind 21 rfl) ?_
        refine lv_iadd hx hb (zD_g DX0_loadBehind 22 rfl) ?_
        refine lv_topi (fun x8 ex8 => ?_)
        replace hf := zl_s hf x8 ex8
        refine lv_istore_n (lv' := [(2, .int x8), (0, .ref (q 0)), (1, .int a_place), (3, .int y3)]) hx hb (zD_g DX0_loadBehind 23 rfl) rfl hl (by decide) rfl (fun ls hl => ?_)
        refine lv_iinc (v := y3 + 1) (lv' := [(3, .int (y3 + 1)), (2, .int x8), (0, .ref (q 0)), (1, .int a_place)]) (k := 3) hx hb (zD_g DX0_loadBehind 24 rfl) hl rfl rfl (by decide) rfl (fun ls hl => ?_)
        refine lv_goto (tgt := 15) hx hb (zD_g DX0_loadBehind 25 rfl) (by decide) ?_
        exact ih4 _ _ hf ls (lv_sub hl [2, 3, 1, 0] rfl)
  refine hL4 _ (fun y9 hf ls hl => ?_) _ _ _ hf ls (lv_sub hl [2, 3, 1, 0] rfl)
  refine lv_iload_n hx hb (zD_g DX0_loadBehind 26 rfl) rfl (lv_at hl 0 rfl) ?_
  cases hf
  exact hret _ _ (zD_g DX0_loadBehind 27 rfl)
abbrev dlX0_drawFrom : List (Nat × Instr × Nat) := [(0, .aload_n 0, 1), (1, .getfield 15, 3), (4, .iconst (-1), 1), (5, .if_icmp .eq 12, 3), (8, .iload_n 2, 1), (9, .aload_n 0, 1), (10, .getfield 15, 3), (13, .if_icmp .lt 4, 3), (16, .return_, 1), (17, .iload_n 1, 1), (18, .aload_n 0, 1), (19, .getfield 9, 3), (22, .if_icmp .lt 20, 3), (25, .aload_n 0, 1), (26, .iload_n 2, 1), (27, .putfield 15, 3), (30, .aload_n 0, 1), (31, .getfield 31, 3), (34, .aload_n 0, 1), (35, .getfield 34, 3), (38, .invokestatic 60, 3), (41, .return_, 1), (42, .iconst 0, 1), (43, .istore_n 3, 1), (44, .iload_n 3, 1), (45, .aload_n 0, 1), (46, .getfield 9, 3), (49, .if_icmp .ge 69, 3), (52, .aload_n 0, 1), (53, .getfield 21, 3), (56, .iload_n 3, 1), (57, .ishr, 1), (58, .iconst 1, 1), (59, .iand, 1), (60, .ifCond .ne 52, 3), (63, .aload_n 0, 1), (64, .getfield 31, 3), (67, .iload_n 1, 1), (68, .iload_n 3, 1), (69, .iastore, 1), (70, .aload_n 0, 1), (71, .dup, 1), (72, .getfield 21, 3), (75, .iconst 1, 1), (76, .iload_n 3, 1), (77, .ishl, 1), (78, .ior, 1), (79, .putfield 21, 3), (82, .aload_n 0, 1), (83, .iload_n 1, 1), (84, .iconst 1, 1), (85, .iadd, 1), (86, .iload_n 2, 1), (87, .aload_n 0, 1), (88, .iload_n 1, 1), (89, .invokevirtual 64, 3), (92, .invokestatic 67, 3), (95, .invokestatic 52, 3), (98, .aload_n 0, 1), (99, .dup, 1), (100, .getfield 21, 3), (103, .iconst 1, 1), (104, .iload_n 3, 1), (105, .ishl, 1), (106, .iconst (-1), 1), (107, .ixor, 1), (108, .iand, 1), (109, .putfield 21, 3), (112, .iinc 3 1, 3), (115, .goto (-71), 3), (118, .return_, 1)]
theorem DX0_drawFrom : zD cX0_drawFrom dlX0_drawFrom = true := by decide +kernel
set_option maxRecDepth 20000 in
theorem ggX0_drawFrom_X5_copyInts : GoodIn wsX0_drawFrom wsX5_copyInts := goodIn_r _ [12, 13, 14, 8, 15, 16, 17, 18, 19] (by decide +kernel) (by decide +kernel)
set_option maxRecDepth 20000 in
theorem gX0_drawFrom_X5_copyInts_n60 : GoodIn wsX0_drawFrom (wsX5_copyInts) := ggX0_drawFrom_X5_copyInts
set_option maxRecDepth 20000 in
theorem ggX0_drawFrom_X0_loadBehind : GoodIn wsX0_drawFrom wsX0_loadBehind := goodIn_r _ [24, 25, 6, 7, 8, 9, 26, 3, 29, 30, 31, 32, 33, 34, 35, 36] (by decide +kernel) (by decide +kernel)
set_option maxRecDepth 20000 in
theorem gX0_drawFrom_X0_loadBehind : GoodIn wsX0_drawFrom (wsV RX0 64 RX0 yX0_loadBehind wsX0_loadBehind) := goodIn_app (goodIn_of _ (by decide +kernel)) ggX0_drawFrom_X0_loadBehind
set_option maxRecDepth 20000 in
theorem ggX0_drawFrom_X0_drawFrom : GoodIn wsX0_drawFrom wsX0_drawFrom := goodIn_r _ [0, 1, 2, 3, 4, 5, 6, 7, 8, 9, 10, 11, 12, 13, 14, 15, 16, 17, 18, 19, 20, 21, 22, 23, 24, 25, 26, 27, 28, 29, 30, 31, 32, 33, 34, 35, 36] (by decide +kernel) (by decide +kernel)
set_option maxRecDepth 20000 in
theorem gX0_drawFrom_X0_drawFrom : GoodIn wsX0_drawFrom (va_wsS RX0 52 yX0_drawFrom wsX0_drawFrom) := goodIn_app (goodIn_of _ (by decide +kernel)) ggX0_drawFrom_X0_drawFrom
theorem hd0_drawFrom : yX0_drawFrom.cls ≠ "java/lang/invoke/MethodHandle" ∧ yX0_drawFrom.cls ≠ "java/lang/invoke/VarHandle" ∧ (parseMethodDescriptor yX0_drawFrom.desc).map (fun d => d.parameters.length) = some 3 := by decide +kernel
abbrev rm0_drawFrom (d : Nat) : Room := { frames := 2 + d, cells := 0, slots := 0, locals := 81 + 23 * d }
theorem in0_drawFrom_0 : ∀ w ∈ wsX00, w ∈ wsX0_drawFrom := fun w h => List.mem_cons_of_mem _ (List.mem_append_right _ h)
set_option maxHeartbeats 4000000 in
set_option maxRecDepth 100000 in
theorem c0_drawFromD {l : Launch} {D : va_G} {cI cZ cB : ClassId} : ∀ (dd : Nat) {q : Nat → Nat} {sz : Nat} {bcount : Int32} {bleast : Int32} {bneigh : Int32} {bdrawn : Int32} {bgifts : Nat → Int32} {bweights : Nat → Int32} {border : Nat → Int32} {bbest : Nat → Int32} {a_place : Int32} {a_greatest : Int32} {d_bleast : Int32} {d_bdrawn : Int32} {d_border : Nat → Int32} {d_bbest : Nat → Int32} (hf : f0_drawFrom dd bcount bleast bneigh bdrawn bweights border bbest a_place a_greatest = some (d_bleast, d_bdrawn, d_border, d_bbest)), Met l yX0_drawFrom wsX0_drawFrom (rm0_drawFrom dd) (zPm D cI cZ cB [.ref (q 0), .int a_place, .int a_greatest] sz (cBridge cI q bcount bleast bneigh bdrawn bgifts bweights border bbest)) (zQm D none (cBridge cI q bcount d_bleast bneigh d_bdrawn bgifts bweights d_border d_bbest) (va_A (cBridge cI q bcount bleast bneigh bdrawn bgifts bweights border bbest) sz)) 0 0 (va_A (cBridge cI q bcount bleast bneigh bdrawn bgifts bweights border bbest) sz) := by
  intro dd
  induction dd with
  | zero =>
    intro q sz bcount bleast bneigh bdrawn bgifts bweights border bbest a_place a_greatest d_bleast d_bdrawn d_border d_bbest hf
    cases hf
  | succ dd ih =>
    intro q sz bcount bleast bneigh bdrawn bgifts bweights border bbest a_place a_greatest d_bleast d_bdrawn d_border d_bbest hf
    unfold f0_drawFrom at hf
    refine z_mutV RX0 (by decide +kernel) rfl rfl (Nat.le_of_ble_eq_true rfl) ?_
    intro p e s m args below meth c Q A ls hx hb hml hown hts hK hP hD hS hA hret hl
    have hl : lv_has ls 4 [(0, .ref (q 0)), (1, .int a_place), (2, .int a_greatest)] := hl
    refine lv_aload_n hx hb (zD_g DX0_drawFrom 0 rfl) rfl (lv_at hl 0 rfl) ?_
    refine va_get (D := D) (ci := 0) (v := .int bleast) (C := RX0) (T := TX0) (N := 8) hx hb hts in0_drawFrom_0 hown hK.1 hP 0 rfl rfl 1 (by decide) (hts _ (List.mem_of_getElem? (i := 1) rfl)) (fun _ h9 => h9) rfl (zD_g DX0_drawFrom 1 rfl) ?_
    refine lv_iconst (v := (-1 : Int32)) hx hb (zD_g DX0_drawFrom 2 rfl) (by decide) ?_
    obtain ⟨kk2, ek2, hf⟩ := zl_x hf
    have hJ2 : kk2 = some (d_bleast, d_bdrawn, d_border, d_bbest) → ∀ (H : Heap) (locs : List Loc), va_P D vwCl (cBridge cI q bcount bleast bneigh bdrawn bgifts bweights border bbest) H → va_D A (cBridge cI q bcount bleast bneigh bdrawn bgifts bweights border bbest) → va_S A s.heap H locs → ∀ (ls : Array Slot), lv_has ls 4 [(0, .ref (q 0)), (1, .int a_place), (2, .int a_greatest)] → W p l e (rm0_drawFrom (dd + 1)) s m args below meth c H locs 0 0 Q (F0 m 17 ls []) := by
      intro hf H locs hP hD hS ls hl
      replace hf := ek2.symm.trans hf
      refine lv_iload_n hx hb (zD_g DX0_drawFrom 9 rfl) rfl (lv_at hl 1 rfl) ?_
      refine lv_aload_n hx hb (zD_g DX0_drawFrom 10 rfl) rfl (lv_at hl 0 rfl) ?_
      refine va_get (D := D) (ci := 0) (v := .int bcount) (C := RX0) (T := TX0) (N := 8) hx hb hts in0_drawFrom_0 hown hK.1 hP 0 rfl rfl 0 (by decide) (hts _ (List.mem_of_getElem? (i := 2) rfl)) (fun _ h9 => h9) rfl (zD_g DX0_drawFrom 11 rfl) ?_
      refine lv_icmp_lt (tgt := 42) hx hb (zD_g DX0_drawFrom 12 rfl) (by decide) (fun c3 => ?_) (fun c3 => ?_)
      · replace hf := z_t c3 hf
        refine lv_iconst (v := (0 : Int32)) hx hb (zD_g DX0_drawFrom 22 rfl) (by decide) ?_
        refine lv_istore_n (lv' := [(3, .int (0 : Int32)), (0, .ref (q 0)), (1, .int a_place), (2, .int a_greatest)]) hx hb (zD_g DX0_drawFrom 23 rfl) rfl hl (by decide) rfl (fun ls hl => ?_)
        have hL9 : ∀ (k9 : (Int32) → (Int32) → (Nat → Int32) → (Nat → Int32) → Option (Int32 × Int32 × (Nat → Int32) × (Nat → Int32))) (hk9 : ∀ (bleast_23 : Int32) (bdrawn_24 : Int32) (border_25 : Nat → Int32) (bbest_26 : Nat → Int32), k9 bleast_23 bdrawn_24 border_25 bbest_26 = some (d_bleast, d_bdrawn, d_border, d_bbest) → ∀ (H : Heap) (locs : List Loc), va_P D vwCl (cBridge cI q bcount bleast_23 bneigh bdrawn_24 bgifts bweights border_25 bbest_26) H → va_D A (cBridge cI q bcount bleast_23 bneigh bdrawn_24 bgifts bweights border_25 bbest_26) → va_S A s.heap H locs → ∀ (ls : Array Slot), lv_has ls 4 [] → W p l e (rm0_drawFrom (dd + 1)) s m args below meth c H locs 0 0 Q (F0 m 118 ls [])) (n9 : Nat) (y4 : Int32) (bleast_5 : Int32) (bdrawn_6 : Int32) (border_7 : Nat → Int32) (bbest_8 : Nat → Int32), L0_drawFrom_44 k9 (f0_drawFrom dd) bcount bneigh bweights a_place a_greatest n9 y4 bleast_5 bdrawn_6 border_7 bbest_8 = some (d_bleast, d_bdrawn, d_border, d_bbest) → ∀ (H : Heap) (locs : List Loc), va_P D vwCl (cBridge cI q bcount bleast_5 bneigh bdrawn_6 bgifts bweights border_7 bbest_8) H → va_D A (cBridge cI q bcount bleast_5 bneigh bdrawn_6 bgifts bweights border_7 bbest_8) → va_S A s.heap H locs → ∀ (ls : Array Slot), lv_has ls 4 [(0, .ref (q 0)), (1, .int a_place), (2, .int a_greatest), (3, .int y4)] → W p l e (rm0_drawFrom (dd + 1)) s m args below meth c H locs 0 0 Q (F0 m 44 ls []) := by
          intro k9 hk9 n9
          induction n9 with
          | zero =>
            intro y4 bleast_5 bdrawn_6 border_7 bbest_8 hf
            cases hf
          | succ n9 ih9 =>
            intro y4 bleast_5 bdrawn_6 border_7 bbest_8 hf H locs hP hD hS ls hl
            rw [L0_drawFrom_44] at hf
            refine lv_iload_n hx hb (zD_g DX0_drawFrom 24 rfl) rfl (lv_at hl 3 rfl) ?_
            refine lv_aload_n hx hb (zD_g DX0_drawFrom 25 rfl) rfl (lv_at hl 0 rfl) ?_
            refine va_get (D := D) (ci := 0) (v := .int bcount) (C := RX0) (T := TX0) (N := 8) hx hb hts in0_drawFrom_0 hown hK.1 hP 0 rfl rfl 0 (by decide) (hts _ (List.mem_of_getElem? (i := 2) rfl)) (fun _ h9 => h9) rfl (zD_g DX0_drawFrom 26 rfl) ?_
            refine lv_icmp_ge (tgt := 118) hx hb (zD_g DX0_drawFrom 27 rfl) (by decide) (fun c10 => ?_) (fun c10 => ?_)
            · replace hf := z_t c10 hf
              exact hk9 _ _ _ _ hf _ _ hP hD hS ls (lv_sub hl [] rfl)
            · replace hf := z_f c10 hf
              refine lv_aload_n hx hb (zD_g DX0_drawFrom 28 rfl) rfl (lv_at hl 0 rfl) ?_
              refine va_get (D := D) (ci := 0) (v := .int bdrawn_6) (C := RX0) (T := TX0) (N := 8) hx hb hts in0_drawFrom_0 hown hK.1 hP 0 rfl rfl 3 (by decide) (hts _ (List.mem_of_getElem? (i := 5) rfl)) (fun _ h9 => h9) rfl (zD_g DX0_drawFrom 29 rfl) ?_
              refine lv_iload_n hx hb (zD_g DX0_drawFrom 30 rfl) rfl (lv_at hl 3 rfl) ?_
              refine lv_ishr hx hb (zD_g DX0_drawFrom 31 rfl) ?_
              refine lv_iconst (v := (1 : Int32)) hx hb (zD_g DX0_drawFrom 32 rfl) (by decide) ?_
              refine lv_iand hx hb (zD_g DX0_drawFrom 33 rfl) ?_
              refine lv_if_ne (tgt := 112) hx hb (zD_g DX0_drawFrom 34 rfl) (by decide) (fun c11 => ?_) (fun c11 => ?_)
              · replace hf := z_f c11 hf
                refine lv_iinc (v := y4 + 1) (lv' := [(3, .int (y4 + 1)), (0, .ref (q 0)), (1, .int a_place), (2, .int a_greatest)]) (k := 3) hx hb (zD_g DX0_drawFrom 68 rfl) hl rfl rfl (by decide) rfl (fun ls hl => ?_)
                refine lv_goto (tgt := 44) hx hb (zD_g DX0_drawFrom 69 rfl) (by decide) ?_
                exact ih9 _ _ _ _ _ hf _ _ hP hD hS ls (lv_sub hl [1, 2, 3, 0] rfl)
              · replace hf := z_t c11 hf
                refine lv_aload_n hx hb (zD_g DX0_drawFrom 35 rfl) rfl (lv_at hl 0 rfl) ?_
                refine va_get (D := D) (ci := 0) (v := .ref (q 3)) (C := RX0) (T := TX0) (N := 8) hx hb hts in0_drawFrom_0 hown hK.1 hP 0 rfl rfl 6 (by decide) (hts _ (List.mem_of_getElem? (i := 3) rfl)) (fun _ h9 => h9) rfl (zD_g DX0_drawFrom 36 rfl) ?_
                refine lv_iload_n hx hb (zD_g DX0_drawFrom 37 rfl) rfl (lv_at hl 1 rfl) ?_
                refine lv_iload_n hx hb (zD_g DX0_drawFrom 38 rfl) rfl (lv_at hl 3 rfl) ?_
                obtain ⟨h12, hf⟩ := zg_s hf
                refine z_iast (k := a_place.toNatClampNeg) (ws' := (cBridge cI q bcount bleast_5 bneigh bdrawn_6 bgifts bweights (upd border_7 a_place.toNatClampNeg y4) bbest_8)) hx hb hK.1 hP hD hS 3 0 rfl rfl h12 rfl rfl (zD_g DX0_drawFrom 39 rfl) (fun H locs hP hD hS => ?_)
                refine lv_aload_n hx hb (zD_g DX0_drawFrom 40 rfl) rfl (lv_at hl 0 rfl) ?_
                refine lv_dup hx hb (zD_g DX0_drawFrom 41 rfl) rfl ?_
                refine va_get (D := D) (ci := 0) (v := .int bdrawn_6) (C := RX0) (T := TX0) (N := 8) hx hb hts in0_drawFrom_0 hown hK.1 hP 0 rfl rfl 3 (by decide) (hts _ (List.mem_of_getElem? (i := 5) rfl)) (fun _ h9 => h9) rfl (zD_g DX0_drawFrom 42 rfl) ?_
                refine lv_iconst (v := (1 : Int32)) hx hb (zD_g DX0_drawFrom 43 rfl) (by decide) ?_
                refine lv_iload_n hx hb (zD_g DX0_drawFrom 44 rfl) rfl (lv_at hl 3 rfl) ?_
                refine lv_ishl hx hb (zD_g DX0_drawFrom 45 rfl) ?_
                refine lv_ior hx hb (zD_g DX0_drawFrom 46 rfl) ?_
                refine lv_topi (fun x13 ex13 => ?_)
                replace hf := zl_s hf x13 ex13
                refine z_put (D := D) (ci := 0) (v := .int x13) (ty := .int) (C := RX0) (T := TX0) (N := 8) (ws' := (cBridge cI q bcount bleast_5 bneigh x13 bgifts bweights (upd border_7 a_place.toNatClampNeg y4) bbest_8)) hx hb hts in0_drawFrom_0 tyX0 tyX0_ok nmX0 hown hK.1 hP hD hS 0 rfl rfl 3 (by decide) (hts _ (List.mem_of_getElem? (i := 5) rfl)) (fun _ h9 => h9) rfl (tyX0_ok 3 (by decide)) rfl rfl (Nat.le_of_ble_eq_true rfl) rfl (zD_g DX0_drawFrom 47 rfl) (fun H locs hP hD hS => ?_)
                refine lv_aload_n hx hb (zD_g DX0_drawFrom 48 rfl) rfl (lv_at hl 0 rfl) ?_
                refine lv_iload_n hx hb (zD_g DX0_drawFrom 49 rfl) rfl (lv_at hl 1 rfl) ?_
                refine lv_iconst (v := (1 : Int32)) hx hb (zD_g DX0_drawFrom 50 rfl) (by decide) ?_
                refine lv_iadd hx hb (zD_g DX0_drawFrom 51 rfl) ?_
                refine lv_iload_n hx hb (zD_g DX0_drawFrom 52 rfl) rfl (lv_at hl 2 rfl) ?_
                refine lv_aload_n hx hb (zD_g DX0_drawFrom 53 rfl) rfl (lv_at hl 0 rfl) ?_
                refine lv_iload_n hx hb (zD_g DX0_drawFrom 54 rfl) rfl (lv_at hl 1 rfl) ?_
                obtain ⟨r14, hc15, hf⟩ := zb1_s hf
                refine z_Vp (As := [.int a_place]) (rest := [.int a_greatest, .int (a_place + (1 : Int32)), .ref (q 0)]) ⟨hx, hb, hml, hown, hts⟩ hK (c0_loadBehind (bcount := bcount) (bleast := bleast_5) (bneigh := bneigh) (bdrawn := x13) (bgifts := bgifts) (bweights := bweights) (border := (upd border_7 a_place.toNatClampNeg y4)) (bbest := bbest_8) (q := q) hc15) (cwV 1 hts gX0_drawFrom_X0_loadBehind rfl rfl rfl hd0_loadBehind ⟨by dsimp only [rm0_drawFrom, rm0_loadBehind]; omega, by dsimp only [rm0_drawFrom, rm0_loadBehind]; omega⟩) hP rfl rfl rfl rfl hl.1 rfl rfl (Nat.le_of_ble_eq_true rfl) (zD_g DX0_drawFrom 55 rfl) ⟨Nat.zero_le _, Nat.zero_le _⟩ ?_
                refine va_mmax hx hb (hml.trans hl.1.symm) hown (hts _ (List.mem_of_getElem? (i := 6) rfl)) (hts _ (List.mem_of_getElem? (i := 7) rfl)) (hts _ (List.mem_of_getElem? (i := 8) rfl)) (hts _ (List.mem_of_getElem? (i := 9) rfl)) (by dsimp only [rm0_drawFrom]; omega) (by show 2 + 13 ≤ _; dsimp only [rm0_drawFrom]; omega) (Nat.zero_le _) (Nat.zero_le _) (zD_g DX0_drawFrom 56 rfl) ?_
                refine lv_topi (fun x16 ex16 => ?_)
                replace hf := zl_s hf x16 ex16
                obtain ⟨bleast_17, bdrawn_18, border_19, bbest_20, hc21, hf⟩ := zb4_s hf
                refine z_Sm (As := [.ref (q 0), .int (a_place + (1 : Int32)), .int x16]) (rest := []) (ws' := (cBridge cI q bcount bleast_17 bneigh bdrawn_18 bgifts bweights border_19 bbest_20)) ⟨hx, hb, hml, hown, hts⟩ hK (ih hc21) (va_cwS 3 hts gX0_drawFrom_X0_drawFrom rfl rfl rfl hd0_drawFrom ⟨by dsimp only [rm0_drawFrom, rm0_drawFrom]; omega, by dsimp only [rm0_drawFrom, rm0_drawFrom]; omega⟩) hP hD hS hA 5 [0, 1, 2, 3, 4] [] [0, 1, 2, 3, 4] (by decide +kernel) rfl rfl rfl rfl hl.1 rfl rfl (Nat.le_of_ble_eq_true rfl) (zD_g DX0_drawFrom 57 rfl) ⟨Nat.zero_le _, Nat.zero_le _⟩ (fun H locs hP hD hS => ?_)
                refine lv_aload_n hx hb (zD_g DX0_drawFrom 58 rfl) rfl (lv_at hl 0 rfl) ?_
                refine lv_dup hx hb (zD_g DX0_drawFrom 59 rfl) rfl ?_
                refine va_get (D := D) (ci := 0) (v := .int bdrawn_18) (C := RX0) (T := TX0) (N := 8) hx hb hts in0_drawFrom_0 hown hK.1 hP 0 rfl rfl 3 (by decide) (hts _ (List.mem_of_getElem? (i := 5) rfl)) (fun _ h9 => h9) rfl (zD_g DX0_drawFrom 60 rfl) ?_
                refine lv_iconst (v := (1 : Int32)) hx hb (zD_g DX0_drawFrom 61 rfl) (by decide) ?_
                refine lv_iload_n hx hb (zD_g DX0_drawFrom 62 rfl) rfl (lv_at hl 3 rfl) ?_
                refine lv_ishl hx hb (zD_g DX0_drawFrom 63 rfl) ?_
                refine lv_iconst (v := (-1 : Int32)) hx hb (zD_g DX0_drawFrom 64 rfl) (by decide) ?_
                refine lv_ixor hx hb (zD_g DX0_drawFrom 65 rfl) ?_
                refine lv_iand hx hb (zD_g DX0_drawFrom 66 rfl) ?_
                refine lv_topi (fun x22 ex22 => ?_)
                replace hf := zl_s hf x22 ex22
                refine z_put (D := D) (ci := 0) (v := .int x22) (ty := .int) (C := RX0) (T := TX0) (N := 8) (ws' := (cBridge cI q bcount bleast_17 bneigh x22 bgifts bweights border_19 bbest_20)) hx hb hts in0_drawFrom_0 tyX0 tyX0_ok nmX0 hown hK.1 hP hD hS 0 rfl rfl 3 (by decide) (hts _ (List.mem_of_getElem? (i := 5) rfl)) (fun _ h9 => h9) rfl (tyX0_ok 3 (by decide)) rfl rfl (Nat.le_of_ble_eq_true rfl) rfl (zD_g DX0_drawFrom 67 rfl) (fun H locs hP hD hS => ?_)
                refine lv_iinc (v := y4 + 1) (lv' := [(3, .int (y4 + 1)), (0, .ref (q 0)), (1, .int a_place), (2, .int a_greatest)]) (k := 3) hx hb (zD_g DX0_drawFrom 68 rfl) hl rfl rfl (by decide) rfl (fun ls hl => ?_)
                refine lv_goto (tgt := 44) hx hb (zD_g DX0_drawFrom 69 rfl) (by decide) ?_
                exact ih9 _ _ _ _ _ hf _ _ hP hD hS ls (lv_sub hl [1, 2, 3, 0] rfl)
        refine hL9 _ (fun bleast_23 bdrawn_24 border_25 bbest_26 hf H locs hP hD hS ls hl => ?_) _ _ _ _ _ _ hf _ _ hP hD hS ls (lv_sub hl [1, 2, 3, 0] rfl)
        cases hf
        exact hret _ _ _ _ hP hD hS (zD_g DX0_drawFrom 70 rfl)
      · replace hf := z_f c3 hf
        refine lv_aload_n hx hb (zD_g DX0_drawFrom 13 rfl) rfl (lv_at hl 0 rfl) ?_
        refine lv_iload_n hx hb (zD_g DX0_drawFrom 14 rfl) rfl (lv_at hl 2 rfl) ?_
        refine z_put (D := D) (ci := 0) (v := .int a_greatest) (ty := .int) (C := RX0) (T := TX0) (N := 8) (ws' := (cBridge cI q bcount a_greatest bneigh bdrawn bgifts bweights border bbest)) hx hb hts in0_drawFrom_0 tyX0 tyX0_ok nmX0 hown hK.1 hP hD hS 0 rfl rfl 1 (by decide) (hts _ (List.mem_of_getElem? (i := 1) rfl)) (fun _ h9 => h9) rfl (tyX0_ok 1 (by decide)) rfl rfl (Nat.le_of_ble_eq_true rfl) rfl (zD_g DX0_drawFrom 15 rfl) (fun H locs hP hD hS => ?_)
        refine lv_aload_n hx hb (zD_g DX0_drawFrom 16 rfl) rfl (lv_at hl 0 rfl) ?_
        refine va_get (D := D) (ci := 0) (v := .ref (q 3)) (C := RX0) (T := TX0) (N := 8) hx hb hts in0_drawFrom_0 hown hK.1 hP 0 rfl rfl 6 (by decide) (hts _ (List.mem_of_getElem? (i := 3) rfl)) (fun _ h9 => h9) rfl (zD_g DX0_drawFrom 17 rfl) ?_
        refine lv_aload_n hx hb (zD_g DX0_drawFrom 18 rfl) rfl (lv_at hl 0 rfl) ?_
        refine va_get (D := D) (ci := 0) (v := .ref (q 4)) (C := RX0) (T := TX0) (N := 8) hx hb hts in0_drawFrom_0 hown hK.1 hP 0 rfl rfl 7 (by decide) (hts _ (List.mem_of_getElem? (i := 4) rfl)) (fun _ h9 => h9) rfl (zD_g DX0_drawFrom 19 rfl) ?_
        obtain ⟨bbest_27, hc28, hf⟩ := zb1_s hf
        refine z_N2 (As := [.ref (q 3), .ref (q 4)]) (rest := []) (p0 := 3) (p1 := 4) (ws' := (cBridge cI q bcount a_greatest bneigh bdrawn bgifts bweights border bbest_27)) ⟨hx, hb, hml, hown, hts⟩ hK (c5_copyInts (from_ := border) (ar0 := (q 3)) (n0 := 6) (to_ := bbest) (ar1 := (q 4)) (n1 := 6) hc28) ⟨va_cnB (own := RX0) (host := RX5) (index := 60) (y := yX5_copyInts) 2 hts gX0_drawFrom_X5_copyInts_n60 rfl rfl rfl (hK.2 (RX0, 60, yX5_copyInts) (List.mem_of_getElem? (i := 3) rfl)) (hts _ (List.mem_of_getElem? (i := 11) rfl)) hd5_copyInts ⟨by dsimp only [rm0_drawFrom, rm5_copyInts]; omega, by dsimp only [rm0_drawFrom, rm5_copyInts]; omega⟩, (hts _ (List.mem_of_getElem? (i := 10) rfl)), trivial⟩ hP hD hS hA rfl rfl (by decide) rfl rfl hl.1 rfl rfl (Nat.le_of_ble_eq_true rfl) (zD_g DX0_drawFrom 20 rfl) ⟨Nat.zero_le _, Nat.zero_le _⟩ (fun H locs hP hD hS => ?_)
        cases hf
        exact hret _ _ _ _ hP hD hS (zD_g DX0_drawFrom 21 rfl)
    refine lv_icmp_eq (tgt := 17) hx hb (zD_g DX0_drawFrom 3 rfl) (by decide) (fun c1 => ?_) (fun c1 => ?_)
    · replace hf := z_t c1 hf
      exact hJ2 hf _ _ hP hD hS ls (lv_sub hl [0, 1, 2] rfl)
    · replace hf := z_f c1 hf
      refine lv_iload_n hx hb (zD_g DX0_drawFrom 4 rfl) rfl (lv_at hl 2 rfl) ?_
      refine lv_aload_n hx hb (zD_g DX0_drawFrom 5 rfl) rfl (lv_at hl 0 rfl) ?_
      refine va_get (D := D) (ci := 0) (v := .int bleast) (C := RX0) (T := TX0) (N := 8) hx hb hts in0_drawFrom_0 hown hK.1 hP 0 rfl rfl 1 (by decide) (hts _ (List.mem_of_getElem? (i := 1) rfl)) (fun _ h9 => h9) rfl (zD_g DX0_drawFrom 6 rfl) ?_
      refine lv_icmp_lt (tgt := 17) hx hb (zD_g DX0_drawFrom 7 rfl) (by decide) (fun c29 => ?_) (fun c29 => ?_)
      · replace hf := z_t c29 hf
        exact hJ2 hf _ _ hP hD hS ls (lv_sub hl [0, 1, 2] rfl)
      · replace hf := z_f c29 hf
        cases hf
        exact hret _ _ _ _ hP hD hS (zD_g DX0_drawFrom 8 rfl)
theorem c0_drawFrom {l : Launch} {D : va_G} {cI cZ cB : ClassId} {q : Nat → Nat} {sz : Nat} {bcount : Int32} {bleast : Int32} {bneigh : Int32} {bdrawn : Int32} {bgifts : Nat → Int32} {bweights : Nat → Int32} {border : Nat → Int32} {bbest : Nat → Int32} {a_place : Int32} {a_greatest : Int32} {d_bleast : Int32} {d_bdrawn : Int32} {d_border : Nat → Int32} {d_bbest : Nat → Int32} (hf : f0_drawFrom FUD bcount bleast bneigh bdrawn bweights border bbest a_place a_greatest = some (d_bleast, d_bdrawn, d_border, d_bbest)) : Met l yX0_drawFrom wsX0_drawFrom (rm0_drawFrom FUD) (zPm D cI cZ cB [.ref (q 0), .int a_place, .int a_greatest] sz (cBridge cI q bcount bleast bneigh bdrawn bgifts bweights border bbest)) (zQm D none (cBridge cI q bcount d_bleast bneigh d_bdrawn bgifts bweights d_border d_bbest) (va_A (cBridge cI q bcount bleast bneigh bdrawn bgifts bweights border bbest) sz)) 0 0 (va_A (cBridge cI q bcount bleast bneigh bdrawn bgifts bweights border bbest) sz) := c0_drawFromD FUD hf
abbrev dlX0_lineUp : List (Nat × Instr × Nat) := [(0, .aload_n 0, 1), (1, .iconst 0, 1), (2, .putfield 9, 3), (5, .iconst 0, 1), (6, .istore 4, 2), (8, .iload 4, 2), (10, .aload_n 1, 1), (11, .getfield 37, 3), (14, .if_icmp .ge 71, 3), (17, .aload_n 0, 1), (18, .getfield 9, 3), (21, .bipush 6, 2), (23, .if_icmp .ge 62, 3), (26, .aload_n 1, 1), (27, .getfield 41, 3), (30, .iload 4, 2), (32, .iaload, 1), (33, .iload_n 2, 1), (34, .if_icmp .ne 45, 3), (37, .aload_n 0, 1), (38, .getfield 24, 3), (41, .aload_n 0, 1), (42, .getfield 9, 3), (45, .iload 4, 2), (47, .iastore, 1), (48, .aload_n 0, 1), (49, .getfield 28, 3), (52, .aload_n 0, 1), (53, .getfield 9, 3), (56, .aload_n 1, 1), (57, .iload 4, 2), (59, .aload_n 1, 1), (60, .iload 4, 2), (62, .invokevirtual 44, 3), (65, .invokevirtual 48, 3), (68, .iastore, 1), (69, .aload_n 0, 1), (70, .dup, 1), (71, .getfield 9, 3), (74, .iconst 1, 1), (75, .iadd, 1), (76, .putfield 9, 3), (79, .iinc 4 1, 3), (82, .goto (-74), 3), (85, .aload_n 0, 1), (86, .iload_n 3, 1), (87, .putfield 18, 3), (90, .aload_n 0, 1), (91, .iconst 0, 1), (92, .putfield 21, 3), (95, .aload_n 0, 1), (96, .iconst (-1), 1), (97, .putfield 15, 3), (100, .aload_n 0, 1), (101, .iconst 0, 1), (102, .iconst 0, 1), (103, .invokestatic 52, 3), (106, .return_, 1)]
theorem DX0_lineUp : zD cX0_lineUp dlX0_lineUp = true := by decide +kernel
set_option maxRecDepth 20000 in
theorem ggX0_lineUp_X4_inside : GoodIn wsX0_lineUp wsX4_inside := goodIn_r _ [13, 14, 15, 59, 60, 61, 62, 63, 64, 65, 66, 67, 68, 69, 70, 71, 72, 73, 74, 75, 76, 77] (by decide +kernel) (by decide +kernel)
set_option maxRecDepth 20000 in
theorem gX0_lineUp_X4_inside : GoodIn wsX0_lineUp (wsV RX0 44 RX4 yX4_inside wsX4_inside) := goodIn_app (goodIn_of _ (by decide +kernel)) ggX0_lineUp_X4_inside
set_option maxRecDepth 20000 in
theorem ggX0_lineUp_X4_weighs : GoodIn wsX0_lineUp wsX4_weighs := goodIn_r _ [19, 20, 21, 22, 23, 24, 25, 26, 27, 28, 29, 30, 59, 60, 61, 62, 63, 64, 65, 66, 67, 68, 69, 70, 71, 72, 73, 74, 75, 76, 77] (by decide +kernel) (by decide +kernel)
set_option maxRecDepth 20000 in
theorem gX0_lineUp_X4_weighs : GoodIn wsX0_lineUp (wsV RX0 48 RX4 yX4_weighs wsX4_weighs) := goodIn_app (goodIn_of _ (by decide +kernel)) ggX0_lineUp_X4_weighs
set_option maxRecDepth 20000 in
theorem ggX0_lineUp_X0_drawFrom : GoodIn wsX0_lineUp wsX0_drawFrom := goodIn_r _ [34, 8, 1, 35, 36, 7, 37, 38, 26, 39, 40, 29, 41, 42, 25, 27, 43, 44, 45, 46, 47, 48, 49, 33, 50, 6, 5, 31, 32, 51, 52, 53, 54, 55, 56, 57, 58] (by decide +kernel) (by decide +kernel)
set_option maxRecDepth 20000 in
theorem gX0_lineUp_X0_drawFrom : GoodIn wsX0_lineUp (va_wsS RX0 52 yX0_drawFrom wsX0_drawFrom) := goodIn_app (goodIn_of _ (by decide +kernel)) ggX0_lineUp_X0_drawFrom
theorem hd0_lineUp : yX0_lineUp.cls = RX0 ∧ yX0_lineUp.cls ≠ "java/lang/invoke/MethodHandle" ∧ yX0_lineUp.cls ≠ "java/lang/invoke/VarHandle" ∧ (parseMethodDescriptor yX0_lineUp.desc).map (fun d => d.parameters.length) = some 3 := by decide +kernel
abbrev rm0_lineUp : Room := { frames := 12, cells := 0, slots := 0, locals := 311 }
theorem in0_lineUp_0 : ∀ w ∈ wsX00, w ∈ wsX0_lineUp := fun w h => List.mem_cons_of_mem _ (List.mem_append_left _ (List.mem_append_right _ h))
theorem in0_lineUp_4 : ∀ w ∈ wsX40, w ∈ wsX0_lineUp := fun w h => List.mem_cons_of_mem _ (List.mem_append_right _ h)
set_option maxHeartbeats 4000000 in
set_option maxRecDepth 100000 in
theorem c0_lineUp {l : Launch} {D : va_G} {cI cZ cB : ClassId} {q : Nat → Nat} {q0 : Nat → Nat} {sz : Nat} {bcount : Int32} {bleast : Int32} {bneigh : Int32} {bdrawn : Int32} {bgifts : Nat → Int32} {bweights : Nat → Int32} {border : Nat → Int32} {bbest : Nat → Int32} {things : Int32} {gifts : Int32} {days : Int32} {size : Nat → Int32} {weight : Nat → Int32} {sound : Nat → Int32} {harm : Nat → Int32} {in_ : Nat → Int32} {kind : Nat → Int32} {owner : Nat → Int32} {empty : Nat → Int32} {room : Nat → Int32} {told : Nat → Int32} {gate : Nat → Int32} {ear : Nat → Int32} {scale : Nat → Int32} {lost : Nat → Int32} {watch : Nat → Int32} {moments : Int32} {kept : Nat → Int32} {a_city : Int32} {a_c : Int32}  {d_bcount : Int32} {d_bleast : Int32} {d_bneigh : Int32} {d_bdrawn : Int32} {d_bgifts : Nat → Int32} {d_bweights : Nat → Int32} {d_border : Nat → Int32} {d_bbest : Nat → Int32} (hf : f0_lineUp bcount bleast bneigh bdrawn bgifts bweights border bbest things gifts days weight in_ kind owner empty a_city a_c = some (d_bcount, d_bleast, d_bneigh, d_bdrawn, d_bgifts, d_bweights, d_border, d_bbest)) : Met l yX0_lineUp wsX0_lineUp rm0_lineUp (zPm D cI cZ cB [.ref (q 0), .ref (q0 0), .int a_city, .int a_c] sz (zcat [(cBridge cI q bcount bleast bneigh bdrawn bgifts bweights border bbest), (cWar cI q0 things gifts days size weight sound harm in_ kind owner empty room told gate ear scale lost watch moments kept)])) (zQm D none (zcat [(cBridge cI q d_bcount d_bleast d_bneigh d_bdrawn d_bgifts d_bweights d_border d_bbest), (cWar cI q0 things gifts days size weight sound harm in_ kind owner empty room told gate ear scale lost watch moments kept)]) (va_A (zcat [(cBridge cI q bcount bleast bneigh bdrawn bgifts bweights border bbest), (cWar cI q0 things gifts days size weight sound harm in_ kind owner empty room told gate ear scale lost watch moments kept)]) sz)) 0 0 (va_A (zcat [(cBridge cI q bcount bleast bneigh bdrawn bgifts bweights border bbest), (cWar cI q0 things gifts days size weight sound harm in_ kind owner empty room told gate ear scale lost watch moments kept)]) sz) := by
  unfold f0_lineUp at hf
  refine z_mutV RX0 (by decide +kernel) rfl rfl (Nat.le_of_ble_eq_true rfl) ?_
  intro p e s m args below meth c Q A ls hx hb hml hown hts hK hP hD hS hA hret hl
  have hl : lv_has ls 5 [(0, .ref (q 0)), (1, .ref (q0 0)), (2, .int a_city), (3, .int a_c)] := hl
  refine lv_aload_n hx hb (zD_g DX0_lineUp 0 rfl) rfl (lv_at hl 0 rfl) ?_
  refine lv_iconst (v := (0 : Int32)) hx hb (zD_g DX0_lineUp 1 rfl) (by decide) ?_
  refine z_put (D := D) (ci := 0) (v := .int (0 : Int32)) (ty := .int) (C := RX0) (T := TX0) (N := 8) (ws' := (zcat [(cBridge cI q (0 : Int32) bleast bneigh bdrawn bgifts bweights border bbest), (cWar cI q0 things gifts days size weight sound harm in_ kind owner empty room told gate ear scale lost watch moments kept)])) hx hb hts in0_lineUp_0 tyX0 tyX0_ok nmX0 hown hK.1 hP hD hS 0 rfl rfl 0 (by decide) (hts _ (List.mem_of_getElem? (i := 1) rfl)) (fun _ h9 => h9) rfl (tyX0_ok 0 (by decide)) rfl rfl (Nat.le_of_ble_eq_true rfl) rfl (zD_g DX0_lineUp 2 rfl) (fun H locs hP hD hS => ?_)
  refine lv_iconst (v := (0 : Int32)) hx hb (zD_g DX0_lineUp 3 rfl) (by decide) ?_
  refine lv_istore (lv' := [(4, .int (0 : Int32)), (0, .ref (q 0)), (1, .ref (q0 0)), (2, .int a_city), (3, .int a_c)]) hx hb (zD_g DX0_lineUp 4 rfl) hl (by decide) rfl (fun ls hl => ?_)
  have hL5 : ∀ (k5 : (Int32) → (Nat → Int32) → (Nat → Int32) → Option (Int32 × Int32 × Int32 × Int32 × (Nat → Int32) × (Nat → Int32) × (Nat → Int32) × (Nat → Int32))) (hk5 : ∀ (bcount_17 : Int32) (bgifts_18 : Nat → Int32) (bweights_19 : Nat → Int32), k5 bcount_17 bgifts_18 bweights_19 = some (d_bcount, d_bleast, d_bneigh, d_bdrawn, d_bgifts, d_bweights, d_border, d_bbest) → ∀ (H : Heap) (locs : List Loc), va_P D vwCl (zcat [(cBridge cI q bcount_17 bleast bneigh bdrawn bgifts_18 bweights_19 border bbest), (cWar cI q0 things gifts days size weight sound harm in_ kind owner empty room told gate ear scale lost watch moments kept)]) H → va_D A (zcat [(cBridge cI q bcount_17 bleast bneigh bdrawn bgifts_18 bweights_19 border bbest), (cWar cI q0 things gifts days size weight sound harm in_ kind owner empty room told gate ear scale lost watch moments kept)]) → va_S A s.heap H locs → ∀ (ls : Array Slot), lv_has ls 5 [(0, .ref (q 0)), (3, .int a_c)] → W p l e rm0_lineUp s m args below meth c H locs 0 0 Q (F0 m 85 ls [])) (n5 : Nat) (y1 : Int32) (bcount_2 : Int32) (bgifts_3 : Nat → Int32) (bweights_4 : Nat → Int32), L0_lineUp_8 k5 things gifts days weight in_ kind owner empty a_city n5 y1 bcount_2 bgifts_3 bweights_4 = some (d_bcount, d_bleast, d_bneigh, d_bdrawn, d_bgifts, d_bweights, d_border, d_bbest) → ∀ (H : Heap) (locs : List Loc), va_P D vwCl (zcat [(cBridge cI q bcount_2 bleast bneigh bdrawn bgifts_3 bweights_4 border bbest), (cWar cI q0 things gifts days size weight sound harm in_ kind owner empty room told gate ear scale lost watch moments kept)]) H → va_D A (zcat [(cBridge cI q bcount_2 bleast bneigh bdrawn bgifts_3 bweights_4 border bbest), (cWar cI q0 things gifts days size weight sound harm in_ kind owner empty room told gate ear scale lost watch moments kept)]) → va_S A s.heap H locs → ∀ (ls : Array Slot), lv_has ls 5 [(0, .ref (q 0)), (1, .ref (q0 0)), (2, .int a_city), (3, .int a_c), (4, .int y1)] → W p l e rm0_lineUp s m args below meth c H locs 0 0 Q (F0 m 8 ls []) := by
    intro k5 hk5 n5
    induction n5 with
    | zero =>
      intro y1 bcount_2 bgifts_3 bweights_4 hf
      cases hf
    | succ n5 ih5 =>
      intro y1 bcount_2 bgifts_3 bweights_4 hf H locs hP hD hS ls hl
      rw [L0_lineUp_8] at hf
      refine lv_iload hx hb (zD_g DX0_lineUp 5 rfl) (lv_at hl 4 rfl) ?_
      refine lv_aload_n hx hb (zD_g DX0_lineUp 6 rfl) rfl (lv_at hl 1 rfl) ?_
      refine va_get (D := D) (ci := 3) (v := .int gifts) (C := RX4) (T := TX4) (N := 19) hx hb hts in0_lineUp_4 hown hK.1 hP 5 rfl rfl 1 (by decide) (hts _ (List.mem_of_getElem? (i := 2) rfl)) (fun _ h9 => h9) rfl (zD_g DX0_lineUp 7 rfl) ?_
      refine lv_icmp_ge (tgt := 85) hx hb (zD_g DX0_lineUp 8 rfl) (by decide) (fun c6 => ?_) (fun c6 => ?_)
      · replace hf := z_t c6 hf
        exact hk5 _ _ _ hf _ _ hP hD hS ls (lv_sub hl [0, 3] rfl)
      · replace hf := z_f c6 hf
        refine lv_aload_n hx hb (zD_g DX0_lineUp 9 rfl) rfl (lv_at hl 0 rfl) ?_
        refine va_get (D := D) (ci := 0) (v := .int bcount_2) (C := RX0) (T := TX0) (N := 8) hx hb hts in0_lineUp_0 hown hK.1 hP 0 rfl rfl 0 (by decide) (hts _ (List.mem_of_getElem? (i := 1) rfl)) (fun _ h9 => h9) rfl (zD_g DX0_lineUp 10 rfl) ?_
        refine lv_bipush (v := (6 : Int32)) hx hb (zD_g DX0_lineUp 11 rfl) (by decide) ?_
        refine lv_icmp_ge (tgt := 85) hx hb (zD_g DX0_lineUp 12 rfl) (by decide) (fun c7 => ?_) (fun c7 => ?_)
        · replace hf := z_t c7 hf
          exact hk5 _ _ _ hf _ _ hP hD hS ls (lv_sub hl [0, 3] rfl)
        · replace hf := z_f c7 hf
          refine lv_aload_n hx hb (zD_g DX0_lineUp 13 rfl) rfl (lv_at hl 1 rfl) ?_
          refine va_get (D := D) (ci := 3) (v := .ref (q0 7)) (C := RX4) (T := TX4) (N := 19) hx hb hts in0_lineUp_4 hown hK.1 hP 5 rfl rfl 9 (by decide) (hts _ (List.mem_of_getElem? (i := 3) rfl)) (fun _ h9 => h9) rfl (zD_g DX0_lineUp 14 rfl) ?_
          refine lv_iload hx hb (zD_g DX0_lineUp 15 rfl) (lv_at hl 4 rfl) ?_
          obtain ⟨h8, hf⟩ := zg_s hf
          refine z_iald (k := y1.toNatClampNeg) hx hb hK.1 hP 12 0 rfl rfl h8 rfl (zD_g DX0_lineUp 16 rfl) ?_
          refine lv_iload_n hx hb (zD_g DX0_lineUp 17 rfl) rfl (lv_at hl 2 rfl) ?_
          refine lv_icmp_ne (tgt := 79) hx hb (zD_g DX0_lineUp 18 rfl) (by decide) (fun c9 => ?_) (fun c9 => ?_)
          · replace hf := z_f c9 hf
            refine lv_iinc (v := y1 + 1) (lv' := [(4, .int (y1 + 1)), (0, .ref (q 0)), (1, .ref (q0 0)), (2, .int a_city), (3, .int a_c)]) (k := 4) hx hb (zD_g DX0_lineUp 42 rfl) hl rfl rfl (by decide) rfl (fun ls hl => ?_)
            refine lv_goto (tgt := 8) hx hb (zD_g DX0_lineUp 43 rfl) (by decide) ?_
            exact ih5 _ _ _ _ hf _ _ hP hD hS ls (lv_sub hl [1, 2, 3, 4, 0] rfl)
          · replace hf := z_t c9 hf
            refine lv_aload_n hx hb (zD_g DX0_lineUp 19 rfl) rfl (lv_at hl 0 rfl) ?_
            refine va_get (D := D) (ci := 0) (v := .ref (q 1)) (C := RX0) (T := TX0) (N := 8) hx hb hts in0_lineUp_0 hown hK.1 hP 0 rfl rfl 4 (by decide) (hts _ (List.mem_of_getElem? (i := 4) rfl)) (fun _ h9 => h9) rfl (zD_g DX0_lineUp 20 rfl) ?_
            refine lv_aload_n hx hb (zD_g DX0_lineUp 21 rfl) rfl (lv_at hl 0 rfl) ?_
            refine va_get (D := D) (ci := 0) (v := .int bcount_2) (C := RX0) (T := TX0) (N := 8) hx hb hts in0_lineUp_0 hown hK.1 hP 0 rfl rfl 0 (by decide) (hts _ (List.mem_of_getElem? (i := 1) rfl)) (fun _ h9 => h9) rfl (zD_g DX0_lineUp 22 rfl) ?_
            refine lv_iload hx hb (zD_g DX0_lineUp 23 rfl) (lv_at hl 4 rfl) ?_
            obtain ⟨h10, hf⟩ := zg_s hf
            refine z_iast (k := bcount_2.toNatClampNeg) (ws' := (zcat [(cBridge cI q bcount_2 bleast bneigh bdrawn (upd bgifts_3 bcount_2.toNatClampNeg y1) bweights_4 border bbest), (cWar cI q0 things gifts days size weight sound harm in_ kind owner empty room told gate ear scale lost watch moments kept)])) hx hb hK.1 hP hD hS 1 0 rfl rfl h10 rfl rfl (zD_g DX0_lineUp 24 rfl) (fun H locs hP hD hS => ?_)
            refine lv_aload_n hx hb (zD_g DX0_lineUp 25 rfl) rfl (lv_at hl 0 rfl) ?_
            refine va_get (D := D) (ci := 0) (v := .ref (q 2)) (C := RX0) (T := TX0) (N := 8) hx hb hts in0_lineUp_0 hown hK.1 hP 0 rfl rfl 5 (by decide) (hts _ (List.mem_of_getElem? (i := 5) rfl)) (fun _ h9 => h9) rfl (zD_g DX0_lineUp 26 rfl) ?_
            refine lv_aload_n hx hb (zD_g DX0_lineUp 27 rfl) rfl (lv_at hl 0 rfl) ?_
            refine va_get (D := D) (ci := 0) (v := .int bcount_2) (C := RX0) (T := TX0) (N := 8) hx hb hts in0_lineUp_0 hown hK.1 hP 0 rfl rfl 0 (by decide) (hts _ (List.mem_of_getElem? (i := 1) rfl)) (fun _ h9 => h9) rfl (zD_g DX0_lineUp 28 rfl) ?_
            refine lv_aload_n hx hb (zD_g DX0_lineUp 29 rfl) rfl (lv_at hl 1 rfl) ?_
            refine lv_iload hx hb (zD_g DX0_lineUp 30 rfl) (lv_at hl 4 rfl) ?_
            refine lv_aload_n hx hb (zD_g DX0_lineUp 31 rfl) rfl (lv_at hl 1 rfl) ?_
            refine lv_iload hx hb (zD_g DX0_lineUp 32 rfl) (lv_at hl 4 rfl) ?_
            obtain ⟨r11, hc12, hf⟩ := zb1_s hf
            refine z_Vp (As := [.int y1]) (rest := [.int y1, .ref (q0 0), .int bcount_2, .ref (q 2)]) ⟨hx, hb, hml, hown, hts⟩ hK (c4_inside (things := things) (gifts := gifts) (days := days) (size := size) (weight := weight) (sound := sound) (harm := harm) (in_ := in_) (kind := kind) (owner := owner) (empty := empty) (room := room) (told := told) (gate := gate) (ear := ear) (scale := scale) (lost := lost) (watch := watch) (moments := moments) (kept := kept) (q := q0) hc12) (cwV 1 hts gX0_lineUp_X4_inside rfl rfl rfl hd4_inside ⟨Nat.le_of_ble_eq_true rfl, Nat.le_of_ble_eq_true rfl⟩) (zsubP hP [1] rfl) rfl rfl rfl rfl hl.1 rfl rfl (Nat.le_of_ble_eq_true rfl) (zD_g DX0_lineUp 33 rfl) ⟨Nat.zero_le _, Nat.zero_le _⟩ ?_
            obtain ⟨r13, hc14, hf⟩ := zb1_s hf
            refine z_Vp (As := [.int y1, .int r11]) (rest := [.int bcount_2, .ref (q 2)]) ⟨hx, hb, hml, hown, hts⟩ hK (c4_weighs (things := things) (gifts := gifts) (days := days) (size := size) (weight := weight) (sound := sound) (harm := harm) (in_ := in_) (kind := kind) (owner := owner) (empty := empty) (room := room) (told := told) (gate := gate) (ear := ear) (scale := scale) (lost := lost) (watch := watch) (moments := moments) (kept := kept) (q := q0) hc14) (cwV 2 hts gX0_lineUp_X4_weighs rfl rfl rfl hd4_weighs ⟨Nat.le_of_ble_eq_true rfl, Nat.le_of_ble_eq_true rfl⟩) (zsubP hP [1] rfl) rfl rfl rfl rfl hl.1 rfl rfl (Nat.le_of_ble_eq_true rfl) (zD_g DX0_lineUp 34 rfl) ⟨Nat.zero_le _, Nat.zero_le _⟩ ?_
            obtain ⟨h15, hf⟩ := zg_s hf
            refine z_iast (k := bcount_2.toNatClampNeg) (ws' := (zcat [(cBridge cI q bcount_2 bleast bneigh bdrawn (upd bgifts_3 bcount_2.toNatClampNeg y1) (upd bweights_4 bcount_2.toNatClampNeg r13) border bbest), (cWar cI q0 things gifts days size weight sound harm in_ kind owner empty room told gate ear scale lost watch moments kept)])) hx hb hK.1 hP hD hS 2 0 rfl rfl h15 rfl rfl (zD_g DX0_lineUp 35 rfl) (fun H locs hP hD hS => ?_)
            refine lv_aload_n hx hb (zD_g DX0_lineUp 36 rfl) rfl (lv_at hl 0 rfl) ?_
            refine lv_dup hx hb (zD_g DX0_lineUp 37 rfl) rfl ?_
            refine va_get (D := D) (ci := 0) (v := .int bcount_2) (C := RX0) (T := TX0) (N := 8) hx hb hts in0_lineUp_0 hown hK.1 hP 0 rfl rfl 0 (by decide) (hts _ (List.mem_of_getElem? (i := 1) rfl)) (fun _ h9 => h9) rfl (zD_g DX0_lineUp 38 rfl) ?_
            refine lv_iconst (v := (1 : Int32)) hx hb (zD_g DX0_lineUp 39 rfl) (by decide) ?_
            refine lv_iadd hx hb (zD_g DX0_lineUp 40 rfl) ?_
            refine lv_topi (fun x16 ex16 => ?_)
            replace hf := zl_s hf x16 ex16
            refine z_put (D := D) (ci := 0) (v := .int x16) (ty := .int) (C := RX0) (T := TX0) (N := 8) (ws' := (zcat [(cBridge cI q x16 bleast bneigh bdrawn (upd bgifts_3 bcount_2.toNatClampNeg y1) (upd bweights_4 bcount_2.toNatClampNeg r13) border bbest), (cWar cI q0 things gifts days size weight sound harm in_ kind owner empty room told gate ear scale lost watch moments kept)])) hx hb hts in0_lineUp_0 tyX0 tyX0_ok nmX0 hown hK.1 hP hD hS 0 rfl rfl 0 (by decide) (hts _ (List.mem_of_getElem? (i := 1) rfl)) (fun _ h9 => h9) rfl (tyX0_ok 0 (by decide)) rfl rfl (Nat.le_of_ble_eq_true rfl) rfl (zD_g DX0_lineUp 41 rfl) (fun H locs hP hD hS => ?_)
            refine lv_iinc (v := y1 + 1) (lv' := [(4, .int (y1 + 1)), (0, .ref (q 0)), (1, .ref (q0 0)), (2, .int a_city), (3, .int a_c)]) (k := 4) hx hb (zD_g DX0_lineUp 42 rfl) hl rfl rfl (by decide) rfl (fun ls hl => ?_)
            refine lv_goto (tgt := 8) hx hb (zD_g DX0_lineUp 43 rfl) (by decide) ?_
            exact ih5 _ _ _ _ hf _ _ hP hD hS ls (lv_sub hl [1, 2, 3, 4, 0] rfl)
  refine hL5 _ (fun bcount_17 bgifts_18 bweights_19 hf H locs hP hD hS ls hl => ?_) _ _ _ _ _ hf _ _ hP hD hS ls (lv_sub hl [1, 2, 3, 4, 0] rfl)
  refine lv_aload_n hx hb (zD_g DX0_lineUp 44 rfl) rfl (lv_at hl 0 rfl) ?_
  refine lv_iload_n hx hb (zD_g DX0_lineUp 45 rfl) rfl (lv_at hl 1 rfl) ?_
  refine z_put (D := D) (ci := 0) (v := .int a_c) (ty := .int) (C := RX0) (T := TX0) (N := 8) (ws' := (zcat [(cBridge cI q bcount_17 bleast a_c bdrawn bgifts_18 bweights_19 border bbest), (cWar cI q0 things gifts days size weight sound harm in_ kind owner empty room told gate ear scale lost watch moments kept)])) hx hb hts in0_lineUp_0 tyX0 tyX0_ok nmX0 hown hK.1 hP hD hS 0 rfl rfl 2 (by decide) (hts _ (List.mem_of_getElem? (i := 6) rfl)) (fun _ h9 => h9) rfl (tyX0_ok 2 (by decide)) rfl rfl (Nat.le_of_ble_eq_true rfl) rfl (zD_g DX0_lineUp 46 rfl) (fun H locs hP hD hS => ?_)
  refine lv_aload_n hx hb (zD_g DX0_lineUp 47 rfl) rfl (lv_at hl 0 rfl) ?_
  refine lv_iconst (v := (0 : Int32)) hx hb (zD_g DX0_lineUp 48 rfl) (by decide) ?_
  refine z_put (D := D) (ci := 0) (v := .int (0 : Int32)) (ty := .int) (C := RX0) (T := TX0) (N := 8) (ws' := (zcat [(cBridge cI q bcount_17 bleast a_c (0 : Int32) bgifts_18 bweights_19 border bbest), (cWar cI q0 things gifts days size weight sound harm in_ kind owner empty room told gate ear scale lost watch moments kept)])) hx hb hts in0_lineUp_0 tyX0 tyX0_ok nmX0 hown hK.1 hP hD hS 0 rfl rfl 3 (by decide) (hts _ (List.mem_of_getElem? (i := 7) rfl)) (fun _ h9 => h9) rfl (tyX0_ok 3 (by decide)) rfl rfl (Nat.le_of_ble_eq_true rfl) rfl (zD_g DX0_lineUp 49 rfl) (fun H locs hP hD hS => ?_)
  refine lv_aload_n hx hb (zD_g DX0_lineUp 50 rfl) rfl (lv_at hl 0 rfl) ?_
  refine lv_iconst (v := (-1 : Int32)) hx hb (zD_g DX0_lineUp 51 rfl) (by decide) ?_
  refine z_put (D := D) (ci := 0) (v := .int (-1 : Int32)) (ty := .int) (C := RX0) (T := TX0) (N := 8) (ws' := (zcat [(cBridge cI q bcount_17 (-1 : Int32) a_c (0 : Int32) bgifts_18 bweights_19 border bbest), (cWar cI q0 things gifts days size weight sound harm in_ kind owner empty room told gate ear scale lost watch moments kept)])) hx hb hts in0_lineUp_0 tyX0 tyX0_ok nmX0 hown hK.1 hP hD hS 0 rfl rfl 1 (by decide) (hts _ (List.mem_of_getElem? (i := 8) rfl)) (fun _ h9 => h9) rfl (tyX0_ok 1 (by decide)) rfl rfl (Nat.le_of_ble_eq_true rfl) rfl (zD_g DX0_lineUp 52 rfl) (fun H locs hP hD hS => ?_)
  refine lv_aload_n hx hb (zD_g DX0_lineUp 53 rfl) rfl (lv_at hl 0 rfl) ?_
  refine lv_iconst (v := (0 : Int32)) hx hb (zD_g DX0_lineUp 54 rfl) (by decide) ?_
  refine lv_iconst (v := (0 : Int32)) hx hb (zD_g DX0_lineUp 55 rfl) (by decide) ?_
  obtain ⟨bleast_20, bdrawn_21, border_22, bbest_23, hc24, hf⟩ := zb4_s hf
  refine z_SB (As := [.ref (q 0), .int (0 : Int32), .int (0 : Int32)]) (rest := []) (cs' := [(cBridge cI q bcount_17 bleast_20 a_c bdrawn_21 bgifts_18 bweights_19 border_22 bbest_23)]) (ws' := (zcat [(cBridge cI q bcount_17 bleast_20 a_c bdrawn_21 bgifts_18 bweights_19 border_22 bbest_23), (cWar cI q0 things gifts days size weight sound harm in_ kind owner empty room told gate ear scale lost watch moments kept)])) ⟨hx, hb, hml, hown, hts⟩ hK (c0_drawFrom (bcount := bcount_17) (bleast := (-1 : Int32)) (bneigh := a_c) (bdrawn := (0 : Int32)) (bgifts := bgifts_18) (bweights := bweights_19) (border := border) (bbest := bbest) (q := q) hc24) (va_cwS 3 hts gX0_lineUp_X0_drawFrom rfl rfl rfl hd0_drawFrom ⟨Nat.le_of_ble_eq_true rfl, Nat.le_of_ble_eq_true rfl⟩) hP hD hS hA 2 [0] [1] [1, 0] (by decide +kernel) rfl rfl rfl rfl rfl rfl hl.1 rfl rfl (Nat.le_of_ble_eq_true rfl) (zD_g DX0_lineUp 56 rfl) ⟨Nat.zero_le _, Nat.zero_le _⟩ (fun H locs hP hD hS => ?_)
  cases hf
  exact hret _ _ _ _ hP hD hS (zD_g DX0_lineUp 57 rfl)
abbrev dlX0_giftAt : List (Nat × Instr × Nat) := [(0, .iload_n 1, 1), (1, .iconst 0, 1), (2, .aload_n 0, 1), (3, .getfield 9, 3), (6, .iconst 1, 1), (7, .isub, 1), (8, .invokestatic 56, 3), (11, .ifCond .eq 17, 3), (14, .aload_n 0, 1), (15, .getfield 24, 3), (18, .aload_n 0, 1), (19, .getfield 34, 3), (22, .iload_n 1, 1), (23, .iaload, 1), (24, .iaload, 1), (25, .goto 4, 3), (28, .iconst (-1), 1), (29, .ireturn, 1)]
theorem DX0_giftAt : zD cX0_giftAt dlX0_giftAt = true := by decide +kernel
set_option maxRecDepth 20000 in
theorem ggX0_giftAt_X5_within : GoodIn wsX0_giftAt wsX5_within := goodIn_r _ [6] (by decide +kernel) (by decide +kernel)
set_option maxRecDepth 20000 in
theorem gX0_giftAt_X5_within_n56 : GoodIn wsX0_giftAt (wsX5_within) := ggX0_giftAt_X5_within
theorem hd0_giftAt : yX0_giftAt.cls = RX0 ∧ yX0_giftAt.cls ≠ "java/lang/invoke/MethodHandle" ∧ yX0_giftAt.cls ≠ "java/lang/invoke/VarHandle" ∧ (parseMethodDescriptor yX0_giftAt.desc).map (fun d => d.parameters.length) = some 1 := by decide +kernel
abbrev rm0_giftAt : Room := { frames := 1, cells := 0, slots := 0, locals := 22 }
theorem in0_giftAt_0 : ∀ w ∈ wsX00, w ∈ wsX0_giftAt := fun w h => List.mem_cons_of_mem _ (List.mem_append_right _ h)
set_option maxHeartbeats 4000000 in
set_option maxRecDepth 100000 in
theorem c0_giftAt {l : Launch} {D : va_G} {cI cZ cB : ClassId} {q : Nat → Nat} {bcount : Int32} {bleast : Int32} {bneigh : Int32} {bdrawn : Int32} {bgifts : Nat → Int32} {bweights : Nat → Int32} {border : Nat → Int32} {bbest : Nat → Int32} {a_place : Int32} {r : Int32}  (hf : f0_giftAt bcount bgifts bbest a_place = some r) : Met l yX0_giftAt wsX0_giftAt rm0_giftAt (zPp D cI cZ cB [.ref (q 0), .int a_place] (cBridge cI q bcount bleast bneigh bdrawn bgifts bweights border bbest)) (zQp (some (.int r))) 0 0 (fun _ => False) := by
  unfold f0_giftAt at hf
  refine z_pureI RX0 (by decide +kernel) rfl rfl (Nat.le_of_ble_eq_true rfl) ?_
  intro p e s m args below meth c Q ls hx hb hml hown hts hK hP hret hl
  have hl : lv_has ls 2 [(0, .ref (q 0)), (1, .int a_place)] := hl
  refine lv_iload_n hx hb (zD_g DX0_giftAt 0 rfl) rfl (lv_at hl 1 rfl) ?_
  refine lv_iconst (v := (0 : Int32)) hx hb (zD_g DX0_giftAt 1 rfl) (by decide) ?_
  refine lv_aload_n hx hb (zD_g DX0_giftAt 2 rfl) rfl (lv_at hl 0 rfl) ?_
  refine va_get (D := D) (ci := 0) (v := .int bcount) (C := RX0) (T := TX0) (N := 8) hx hb hts in0_giftAt_0 hown hK.1 hP 0 rfl rfl 0 (by decide) (hts _ (List.mem_of_getElem? (i := 1) rfl)) (fun _ h9 => h9) rfl (zD_g DX0_giftAt 3 rfl) ?_
  refine lv_iconst (v := (1 : Int32)) hx hb (zD_g DX0_giftAt 4 rfl) (by decide) ?_
  refine lv_isub hx hb (zD_g DX0_giftAt 5 rfl) ?_
  obtain ⟨r1, hc2, hf⟩ := zb1_s hf
  refine z_Np (As := [.int a_place, .int (0 : Int32), .int (bcount - (1 : Int32))]) (rest := []) ⟨hx, hb, hml, hown, hts⟩ hK (c5_within  hc2) ⟨va_cnB (own := RX0) (host := RX5) (index := 56) (y := yX5_within) 3 hts gX0_giftAt_X5_within_n56 rfl rfl rfl (hK.2 (RX0, 56, yX5_within) (List.mem_of_getElem? (i := 2) rfl)) (hts _ (List.mem_of_getElem? (i := 5) rfl)) hd5_within ⟨Nat.le_of_ble_eq_true rfl, Nat.le_of_ble_eq_true rfl⟩, (hts _ (List.mem_of_getElem? (i := 4) rfl)), trivial⟩ (hP.sub [] rfl) rfl hl.1 rfl rfl (Nat.le_of_ble_eq_true rfl) (zD_g DX0_giftAt 6 rfl) ⟨Nat.zero_le _, Nat.zero_le _⟩ ?_
  refine lv_if_eq (tgt := 28) hx hb (zD_g DX0_giftAt 7 rfl) (by decide) (fun c3 => ?_) (fun c3 => ?_)
  · replace hf := z_t c3 hf
    refine lv_iconst (v := (-1 : Int32)) hx hb (zD_g DX0_giftAt 16 rfl) (by decide) ?_
    cases hf
    exact hret _ _ (zD_g DX0_giftAt 17 rfl)
  · replace hf := z_f c3 hf
    refine lv_aload_n hx hb (zD_g DX0_giftAt 8 rfl) rfl (lv_at hl 0 rfl) ?_
    refine va_get (D := D) (ci := 0) (v := .ref (q 1)) (C := RX0) (T := TX0) (N := 8) hx hb hts in0_giftAt_0 hown hK.1 hP 0 rfl rfl 4 (by decide) (hts _ (List.mem_of_getElem? (i := 2) rfl)) (fun _ h9 => h9) rfl (zD_g DX0_giftAt 9 rfl) ?_
    refine lv_aload_n hx hb (zD_g DX0_giftAt 10 rfl) rfl (lv_at hl 0 rfl) ?_
    refine va_get (D := D) (ci := 0) (v := .ref (q 4)) (C := RX0) (T := TX0) (N := 8) hx hb hts in0_giftAt_0 hown hK.1 hP 0 rfl rfl 7 (by decide) (hts _ (List.mem_of_getElem? (i := 3) rfl)) (fun _ h9 => h9) rfl (zD_g DX0_giftAt 11 rfl) ?_
    refine lv_iload_n hx hb (zD_g DX0_giftAt 12 rfl) rfl (lv_at hl 1 rfl) ?_
    obtain ⟨h4, hf⟩ := zg_s hf
    refine z_iald (k := a_place.toNatClampNeg) hx hb hK.1 hP 4 0 rfl rfl h4 rfl (zD_g DX0_giftAt 13 rfl) ?_
    obtain ⟨h5, hf⟩ := zg_s hf
    refine z_iald (k := (bbest a_place.toNatClampNeg).toNatClampNeg) hx hb hK.1 hP 1 0 rfl rfl h5 rfl (zD_g DX0_giftAt 14 rfl) ?_
    refine lv_goto (tgt := 29) hx hb (zD_g DX0_giftAt 15 rfl) (by decide) ?_
    refine lv_topi (fun x6 ex6 => ?_)
    replace hf := zl_s hf x6 ex6
    cases hf
    exact hret _ _ (zD_g DX0_giftAt 17 rfl)
