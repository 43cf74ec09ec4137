abbrev dlX0_loadBehind : List (Nat × Instr × Nat) := [(0, .iconst 0, 1), (1, .istore_n 2, 1), (2, .iconst 0, 1), (3, .iload_n 1, 1), (4, .aload_n 0, 1), (5, .getfield 18, 3), (8, .isub, 1), (9, .iconst 1, 1), (10, .iadd, 1), (11, .invokestatic 67, 3), (14, .istore_n 3, 1), (15, .iload_n 3, 1), (16, .iload_n 1, 1), (17, .if_icmp .gt 23, 3), (20, .iload_n 2, 1), (21, .aload_n 0, 1), (22, .getfield 28, 3), (25, .aload_n 0, 1), (26, .getfield 31, 3), (29, .iload_n 3, 1), (30, .iaload, 1), (31, .iaload, 1), (32, .iadd, 1), (33, .istore_n 2, 1), (34, .iinc 3 1, 3), (37, .goto (-22), 3), (40, .iload_n 2, 1), (41, .ireturn, 1)]
theorem DX0_loadBehind : zD cX0_loadBehind dlX0_loadBehind = true := by decide +kernel
def L0_loadBehind_15 (k4 : Int32 → Option (Int32))  (bweights : Nat → Int32) (border : Nat → Int32) (a_place : Int32) : Nat → Int32 → Int32 → Option (Int32)
  | 0, _, _ => none
  | n4 + 1, y2, y3 => if a_place < y3 then k4 y2 else zg y3 6 (zg (border y3.toNatClampNeg) 6 (zl ((y2 + (bweights (border y3.toNatClampNeg).toNatClampNeg))) (fun x8 => L0_loadBehind_15 k4 bweights border a_place n4 x8 (y3 + 1))))
def f0_loadBehind (bneigh : Int32) (bweights : Nat → Int32) (border : Nat → Int32) (a_place : Int32) : Option (Int32) := zl ((if (0 : Int32) < ((a_place - bneigh) + (1 : Int32)) then ((a_place - bneigh) + (1 : Int32)) else (0 : Int32))) (fun x1 => L0_loadBehind_15 (fun y9 => some y9) bweights border a_place FU (0 : Int32) x1)
abbrev rm0_loadBehind : Room := { frames := 1, cells := 0, slots := 0, locals := 13 }
theorem in0_loadBehind_0 : ∀ w ∈ wsX00, w ∈ wsX0_loadBehind := fun w h => List.mem_cons_of_mem _ (List.mem_append_right _ h)
set_option maxHeartbeats 4000000 in
set_option maxRecDepth 100000 in
theorem c0_loadBehind {l : Launch} {D : va_G} {cI cZ cB : ClassId} {q : Nat → Nat} {bcount : Int32} {bleast : Int32} {bneigh : Int32} {bdrawn : Int32} {bgifts : Nat → Int32} {bweights : Nat → Int32} {border : Nat → Int32} {bbest : Nat → Int32} {a_place : Int32} {r : Int32}  (hf : f0_loadBehind bneigh bweights border a_place = some r) : Met l yX0_loadBehind wsX0_loadBehind rm0_loadBehind (zPp D cI cZ cB [.ref (q 0), .int a_place] (cBridge cI q bcount bleast bneigh bdrawn bgifts bweights border bbest)) (zQp (some (.int r))) 0 0 (fun _ => False) := by
  unfold f0_loadBehind at hf
  refine z_pureI RX0 (by decide +kernel) rfl rfl (Nat.le_of_ble_eq_true rfl) ?_
  intro p e s m args below meth c Q ls hx hb hml hown hts hK hP hret hl
  have hl : lv_has ls 4 [(0, .ref (q 0)), (1, .int a_place)] := hl
  refine lv_iconst (v := (0 : Int32)) hx hb (zD_g DX0_loadBehind 0 rfl) (by decide) ?_
  refine lv_istore_n (lv' := [(2, .int (0 : Int32)), (0, .ref (q 0)), (1, .int a_place)]) hx hb (zD_g DX0_loadBehind 1 rfl) rfl hl (by decide) rfl (fun ls hl => ?_)
  refine lv_iconst (v := (0 : Int32)) hx hb (zD_g DX0_loadBehind 2 rfl) (by decide) ?_
  refine lv_iload_n hx hb (zD_g DX0_loadBehind 3 rfl) rfl (lv_at hl 2 rfl) ?_
  refine lv_aload_n hx hb (zD_g DX0_loadBehind 4 rfl) rfl (lv_at hl 1 rfl) ?_
  refine va_get (D := D) (ci := 0) (v := .int bneigh) (C := RX0) (T := TX0) (N := 8) hx hb hts in0_loadBehind_0 hown hK.1 hP 0 rfl rfl 2 (by decide) (hts _ (List.mem_of_getElem? (i := 1) rfl)) (fun _ h9 => h9) rfl (zD_g DX0_loadBehind 5 rfl) ?_
  refine lv_isub hx hb (zD_g DX0_loadBehind 6 rfl) ?_
  refine lv_iconst (v := (1 : Int32)) hx hb (zD_g DX0_loadBehind 7 rfl) (by decide) ?_
  refine lv_iadd hx hb (zD_g DX0_loadBehind 8 rfl) ?_
  refine va_mmax hx hb (hml.trans hl.1.symm) hown (hts _ (List.mem_of_getElem? (i := 2) rfl)) (hts _ (List.mem_of_getElem? (i := 3) rfl)) (hts _ (List.mem_of_getElem? (i := 4) rfl)) (hts _ (List.mem_of_getElem? (i := 5) rfl)) (Nat.le_of_ble_eq_true rfl) (Nat.le_of_ble_eq_true rfl) (Nat.zero_le _) (Nat.zero_le _) (zD_g DX0_loadBehind 9 rfl) ?_
  refine lv_topi (fun x1 ex1 => ?_)
  replace hf := zl_s hf x1 ex1
  refine lv_istore_n (lv' := [(3, .int x1), (2, .int (0 : Int32)), (0, .ref (q 0)), (1, .int a_place)]) hx hb (zD_g DX0_loadBehind 10 rfl) rfl hl (by decide) rfl (fun ls hl => ?_)
  have hL4 : ∀ (k4 : Int32 → Option (Int32)) (hk4 : ∀ (y9 : Int32), k4 y9 = some r → ∀ (ls : Array Slot), lv_has ls 4 [(2, .int y9)] → W p l e rm0_loadBehind s m args below meth c s.heap [] 0 0 Q (F0 m 40 ls [])) (n4 : Nat) (y2 : Int32) (y3 : Int32), L0_loadBehind_15 k4 bweights border a_place n4 y2 y3 = some r → ∀ (ls : Array Slot), lv_has ls 4 [(0, .ref (q 0)), (1, .int a_place), (2, .int y2), (3, .int y3)] → W p l e rm0_loadBehind s m args below meth c s.heap [] 0 0 Q (F0 m 15 ls []) := by
    intro k4 hk4 n4
    induction n4 with
    | zero =>
      intro y2 y3 hf
      cases hf
    | succ n4 ih4 =>
      intro y2 y3 hf ls hl
      rw [L0_loadBehind_15] at hf
      refine lv_iload_n hx hb (zD_g DX0_loadBehind 11 rfl) rfl (lv_at hl 3 rfl) ?_
      refine lv_iload_n hx hb (zD_g DX0_loadBehind 12 rfl) rfl (lv_at hl 1 rfl) ?_
      refine lv_icmp_gt (tgt := 40) hx hb (zD_g DX0_loadBehind 13 rfl) (by decide) (fun c5 => ?_) (fun c5 => ?_)
      · replace hf := z_t c5 hf
        exact hk4 _ hf ls (lv_sub hl [2] rfl)
      · replace hf := z_f c5 hf
        refine lv_iload_n hx hb (zD_g DX0_loadBehind 14 rfl) rfl (lv_at hl 2 rfl) ?_
        refine lv_aload_n hx hb (zD_g DX0_loadBehind 15 rfl) rfl (lv_at hl 0 rfl) ?_
        refine va_get (D := D) (ci := 0) (v := .ref (q 2)) (C := RX0) (T := TX0) (N := 8) hx hb hts in0_loadBehind_0 hown hK.1 hP 0 rfl rfl 5 (by decide) (hts _ (List.mem_of_getElem? (i := 6) rfl)) (fun _ h9 => h9) rfl (zD_g DX0_loadBehind 16 rfl) ?_
        refine lv_aload_n hx hb (zD_g DX0_loadBehind 17 rfl) rfl (lv_at hl 0 rfl) ?_
        refine va_get (D := D) (ci := 0) (v := .ref (q 3)) (C := RX0) (T := TX0) (N := 8) hx hb hts in0_loadBehind_0 hown hK.1 hP 0 rfl rfl 6 (by decide) (hts _ (List.mem_of_getElem? (i := 7) rfl)) (fun _ h9 => h9) rfl (zD_g DX0_loadBehind 18 rfl) ?_
        refine lv_iload_n hx hb (zD_g DX0_loadBehind 19 rfl) rfl (lv_at hl 3 rfl) ?_
        obtain ⟨h6, hf⟩ := zg_s hf
        refine z_iald (k := y3.toNatClampNeg) hx hb hK.1 hP 3 0 rfl rfl h6 rfl (zD_g DX0_loadBehind 20 rfl) ?_
        obtain ⟨h7, hf⟩ := zg_s hf
        refine z_iald (k := (border y3.toNatClampNeg).toNatClampNeg) hx hb hK.1 hP 2 0 rfl rfl h7 rfl (zD_g DX0_loadBehind 21 rfl) ?_
        refine lv_iadd hx hb (zD_g DX0_loadBehind 22 rfl) ?_
        refine lv_topi (fun x8 ex8 => ?_)
        replace hf := zl_s hf x8 ex8
        refine lv_istore_n (lv' := [(2, .int x8), (0, .ref (q 0)), (1, .int a_place), (3, .int y3)]) hx hb (zD_g DX0_loadBehind 23 rfl) rfl hl (by decide) rfl (fun ls hl => ?_)
        refine lv_iinc (v := y3 + 1) (lv' := [(3, .int (y3 + 1)), (2, .int x8), (0, .ref (q 0)), (1, .int a_place)]) (k := 3) hx hb (zD_g DX0_loadBehind 24 rfl) hl rfl rfl (by decide) rfl (fun ls hl => ?_)
        refine lv_goto (tgt := 15) hx hb (zD_g DX0_loadBehind 25 rfl) (by decide) ?_
        exact ih4 _ _ hf ls (lv_sub hl [2, 3, 1, 0] rfl)
  refine hL4 _ (fun y9 hf ls hl => ?_) _ _ _ hf ls (lv_sub hl [2, 3, 1, 0] rfl)
  refine lv_iload_n hx hb (zD_g DX0_loadBehind 26 rfl) rfl (lv_at hl 0 rfl) ?_
  cases hf
  exact hret _ _ (zD_g DX0_loadBehind 27 rfl)
theorem hd0_loadBehind : yX0_loadBehind.cls = RX0 ∧ yX0_loadBehind.cls ≠ "java/lang/invoke/MethodHandle" ∧ yX0_loadBehind.cls ≠ "java/lang/invoke/VarHandle" ∧ (parseMethodDescriptor yX0_loadBehind.desc).map (fun d => d.parameters.length) = some 1 := by decide +kernel
abbrev dlX0_giftAt : List (Nat × Instr × Nat) := [(0, .iload_n 1, 1), (1, .iconst 0, 1), (2, .aload_n 0, 1), (3, .getfield 9, 3), (6, .iconst 1, 1), (7, .isub, 1), (8, .invokestatic 56, 3), (11, .ifCond .eq 17, 3), (14, .aload_n 0, 1), (15, .getfield 24, 3), (18, .aload_n 0, 1), (19, .getfield 34, 3), (22, .iload_n 1, 1), (23, .iaload, 1), (24, .iaload, 1), (25, .goto 4, 3), (28, .iconst (-1), 1), (29, .ireturn, 1)]
theorem DX0_giftAt : zD cX0_giftAt dlX0_giftAt = true := by decide +kernel
set_option maxRecDepth 20000 in
theorem ggX0_giftAt_X5_within : GoodIn wsX0_giftAt wsX5_within := goodIn_r _ [6] (by decide +kernel) (by decide +kernel)
set_option maxRecDepth 20000 in
theorem gX0_giftAt_X5_within_n56 : GoodIn wsX0_giftAt (wsX5_within) := ggX0_giftAt_X5_within
def f0_giftAt (bcount : Int32) (bgifts : Nat → Int32) (bbest : Nat → Int32) (a_place : Int32) : Option (Int32) := zb1 (f5_within a_place (0 : Int32) (bcount - (1 : Int32))) (fun r1 => if r1 = 0 then some (-1 : Int32) else zg a_place 6 (zg (bbest a_place.toNatClampNeg) 6 (some (bgifts (bbest a_place.toNatClampNeg).toNatClampNeg))))
abbrev rm0_giftAt : Room := { frames := 1, cells := 0, slots := 0, locals := 22 }
theorem in0_giftAt_0 : ∀ w ∈ wsX00, w ∈ wsX0_giftAt := fun w h => List.mem_cons_of_mem _ (List.mem_append_right _ h)
set_option maxHeartbeats 4000000 in
set_option maxRecDepth 100000 in
theorem c0_giftAt {l : Launch} {D : va_G} {cI cZ cB : ClassId} {q : Nat → Nat} {bcount : Int32} {bleast : Int32} {bneigh : Int32} {bdrawn : Int32} {bgifts : Nat → Int32} {bweights : Nat → Int32} {border : Nat → Int32} {bbest : Nat → Int32} {a_place : Int32} {r : Int32}  (hf : f0_giftAt bcount bgifts bbest a_place = some r) : Met l yX0_giftAt wsX0_giftAt rm0_giftAt (zPp D cI cZ cB [.ref (q 0), .int a_place] (cBridge cI q bcount bleast bneigh bdrawn bgifts bweights border bbest)) (zQp (some (.int r))) 0 0 (fun _ => False) := by
  unfold f0_giftAt at hf
  refine z_pureI RX0 (by decide +kernel) rfl rfl (Nat.le_of_ble_eq_true rfl) ?_
  intro p e s m args below meth c Q ls hx hb hml hown hts hK hP hret hl
  have hl : lv_has ls 2 [(0, .ref (q 0)), (1, .int a_place)] := hl
  refine lv_iload_n hx hb (zD_g DX0_giftAt 0 rfl) rfl (lv_at hl 1 rfl) ?_
  refine lv_iconst (v := (0 : Int32)) hx hb (zD_g DX0_giftAt 1 rfl) (by decide) ?_
  refine lv_aload_n hx hb (zD_g DX0_giftAt 2 rfl) rfl (lv_at hl 0 rfl) ?_
  refine va_get (D := D) (ci := 0) (v := .int bcount) (C := RX0) (T := TX0) (N := 8) hx hb hts in0_giftAt_0 hown hK.1 hP 0 rfl rfl 0 (by decide) (hts _ (List.mem_of_getElem? (i := 1) rfl)) (fun _ h9 => h9) rfl (zD_g DX0_giftAt 3 rfl) ?_
  refine lv_iconst (v := (1 : Int32)) hx hb (zD_g DX0_giftAt 4 rfl) (by decide) ?_
  refine lv_isub hx hb (zD_g DX0_giftAt 5 rfl) ?_
  obtain ⟨r1, hc2, hf⟩ := zb1_s hf
  refine z_Np (As := [.int a_place, .int (0 : Int32), .int (bcount - (1 : Int32))]) (rest := []) ⟨hx, hb, hml, hown, hts⟩ hK (c5_within  hc2) ⟨va_cnB (own := RX0) (host := RX5) (index := 56) (y := yX5_within) 3 hts gX0_giftAt_X5_within_n56 rfl rfl rfl (hK.2 (RX0, 56, yX5_within) (List.mem_of_getElem? (i := 2) rfl)) (hts _ (List.mem_of_getElem? (i := 5) rfl)) hd5_within ⟨Nat.le_of_ble_eq_true rfl, Nat.le_of_ble_eq_true rfl⟩, (hts _ (List.mem_of_getElem? (i := 4) rfl)), trivial⟩ (hP.sub [] rfl) rfl hl.1 rfl rfl (Nat.le_of_ble_eq_true rfl) (zD_g DX0_giftAt 6 rfl) ⟨Nat.zero_le _, Nat.zero_le _⟩ ?_
  refine lv_if_eq (tgt := 28) hx hb (zD_g DX0_giftAt 7 rfl) (by decide) (fun c3 => ?_) (fun c3 => ?_)
  · replace hf := z_t c3 hf
    refine lv_iconst (v := (-1 : Int32)) hx hb (zD_g DX0_giftAt 16 rfl) (by decide) ?_
    cases hf
    exact hret _ _ (zD_g DX0_giftAt 17 rfl)
  · replace hf := z_f c3 hf
    refine lv_aload_n hx hb (zD_g DX0_giftAt 8 rfl) rfl (lv_at hl 0 rfl) ?_
    refine va_get (D := D) (ci := 0) (v := .ref (q 1)) (C := RX0) (T := TX0) (N := 8) hx hb hts in0_giftAt_0 hown hK.1 hP 0 rfl rfl 4 (by decide) (hts _ (List.mem_of_getElem? (i := 2) rfl)) (fun _ h9 => h9) rfl (zD_g DX0_giftAt 9 rfl) ?_
    refine lv_aload_n hx hb (zD_g DX0_giftAt 10 rfl) rfl (lv_at hl 0 rfl) ?_
    refine va_get (D := D) (ci := 0) (v := .ref (q 4)) (C := RX0) (T := TX0) (N := 8) hx hb hts in0_giftAt_0 hown hK.1 hP 0 rfl rfl 7 (by decide) (hts _ (List.mem_of_getElem? (i := 3) rfl)) (fun _ h9 => h9) rfl (zD_g DX0_giftAt 11 rfl) ?_
    refine lv_iload_n hx hb (zD_g DX0_giftAt 12 rfl) rfl (lv_at hl 1 rfl) ?_
    obtain ⟨h4, hf⟩ := zg_s hf
    refine z_iald (k := a_place.toNatClampNeg) hx hb hK.1 hP 4 0 rfl rfl h4 rfl (zD_g DX0_giftAt 13 rfl) ?_
    obtain ⟨h5, hf⟩ := zg_s hf
    refine z_iald (k := (bbest a_place.toNatClampNeg).toNatClampNeg) hx hb hK.1 hP 1 0 rfl rfl h5 rfl (zD_g DX0_giftAt 14 rfl) ?_
    refine lv_goto (tgt := 29) hx hb (zD_g DX0_giftAt 15 rfl) (by decide) ?_
    cases hf
    exact hret _ _ (zD_g DX0_giftAt 17 rfl)
theorem hd0_giftAt : yX0_giftAt.cls = RX0 ∧ yX0_giftAt.cls ≠ "java/lang/invoke/MethodHandle" ∧ yX0_giftAt.cls ≠ "java/lang/invoke/VarHandle" ∧ (parseMethodDescriptor yX0_giftAt.desc).map (fun d => d.parameters.length) = some 1 := by decide +kernel
