abbrev dlX3_isSpelled : List (Nat × Instr × Nat) := [(0, .aload_n 1, 1), (1, .invokevirtual 73, 3), (4, .iload_n 3, 1), (5, .iload_n 2, 1), (6, .isub, 1), (7, .if_icmp .eq 5, 3), (10, .iconst 0, 1), (11, .ireturn, 1), (12, .iconst 0, 1), (13, .istore 4, 2), (15, .iload 4, 2), (17, .aload_n 1, 1), (18, .invokevirtual 73, 3), (21, .if_icmp .ge 28, 3), (24, .aload_n 1, 1), (25, .iload 4, 2), (27, .invokevirtual 78, 3), (30, .aload_n 0, 1), (31, .iload_n 2, 1), (32, .iload 4, 2), (34, .iadd, 1), (35, .invokevirtual 62, 3), (38, .if_icmp .eq 5, 3), (41, .iconst 0, 1), (42, .ireturn, 1), (43, .iinc 4 1, 3), (46, .goto (-31), 3), (49, .iconst 1, 1), (50, .ireturn, 1)]
theorem DX3_isSpelled : zD cX3_isSpelled dlX3_isSpelled = true := by decide +kernel
set_option maxRecDepth 20000 in
theorem ggX3_isSpelled_J0_length_8abf5 : GoodIn wsX3_isSpelled wsJ0_length_8abf5 := goodIn_r _ [5, 6, 7, 8, 9, 4, 10, 11, 12] (by decide +kernel) (by decide +kernel)
set_option maxRecDepth 20000 in
theorem gX3_isSpelled_J0_length_8abf5 : GoodIn wsX3_isSpelled (wsV RX3 73 RJ0 yJ0_length_8abf5 wsJ0_length_8abf5) := goodIn_app (goodIn_of _ (by decide +kernel)) ggX3_isSpelled_J0_length_8abf5
set_option maxRecDepth 20000 in
theorem ggX3_isSpelled_J0_charAt_5068e : GoodIn wsX3_isSpelled wsJ0_charAt_5068e := goodIn_r _ [16, 6, 17, 18, 19, 4, 20, 11, 12, 21, 22, 23, 24, 25, 26, 27, 28, 29, 30, 31, 32, 33, 34, 35, 36, 37, 38, 39, 40, 41, 42, 43, 44, 45, 46, 47, 48, 49] (by decide +kernel) (by decide +kernel)
set_option maxRecDepth 20000 in
theorem gX3_isSpelled_J0_charAt_5068e : GoodIn wsX3_isSpelled (wsV RX3 78 RJ0 yJ0_charAt_5068e wsJ0_charAt_5068e) := goodIn_app (goodIn_of _ (by decide +kernel)) ggX3_isSpelled_J0_charAt_5068e
set_option maxRecDepth 20000 in
theorem ggX3_isSpelled_X3_byteAt : GoodIn wsX3_isSpelled wsX3_byteAt := goodIn_r _ [54, 55, 56, 57, 58, 59, 60, 61, 62, 63, 64, 65] (by decide +kernel) (by decide +kernel)
set_option maxRecDepth 20000 in
theorem gX3_isSpelled_X3_byteAt : GoodIn wsX3_isSpelled (wsV RX3 62 RX3 yX3_byteAt wsX3_byteAt) := goodIn_app (goodIn_of _ (by decide +kernel)) ggX3_isSpelled_X3_byteAt
theorem hd3_isSpelled : yX3_isSpelled.cls = RX3 ∧ yX3_isSpelled.cls ≠ "java/lang/invoke/MethodHandle" ∧ yX3_isSpelled.cls ≠ "java/lang/invoke/VarHandle" ∧ (parseMethodDescriptor yX3_isSpelled.desc).map (fun d => d.parameters.length) = some 3 := by decide +kernel
abbrev rm3_isSpelled : Room := { frames := 4, cells := 0, slots := 0, locals := 85 }
set_option maxHeartbeats 4000000 in
set_option maxRecDepth 100000 in
theorem c3_isSpelled {l : Launch} {D : va_G} {cI cZ cB : ClassId} {q : Nat → Nat} {sa sv : Nat → Nat} {tlen : Int32} {titems : Int32} {tfault : Int32} {tbytes : Nat → Int32} {twords : Nat → Int32} {tnumbers : Nat → Int32} {i_word : Nat} {a_start : Int32} {a_end : Int32} {r : Int32}  (hf : f3_isSpelled tlen tbytes i_word a_start a_end = some r) : Met l yX3_isSpelled wsX3_isSpelled rm3_isSpelled (zPpS D cI cZ cB sa sv [.ref (q 0), .ref (sa i_word), .int a_start, .int a_end] (cTell cI cB q tlen titems tfault tbytes twords tnumbers)) (zQp (some (.int r))) 0 0 (fun _ => False) := by
  unfold f3_isSpelled at hf
  refine z_pureZS RX3 (by decide +kernel) rfl rfl (Nat.le_of_ble_eq_true rfl) ?_
  intro p e s m args below meth c Q ls hx hb hml hown hts hK hP hT hret hl
  have hl : lv_has ls 5 [(0, .ref (q 0)), (1, .ref (sa i_word)), (2, .int a_start), (3, .int a_end)] := hl
  refine lv_aload_n hx hb (zD_g DX3_isSpelled 0 rfl) rfl (lv_at hl 1 rfl) ?_
  obtain ⟨hi1, hf⟩ := zgs_s hf
  refine z_Tp (As := []) (rest := []) hi1 ⟨hx, hb, hml, hown, hts⟩ hK hT (ccJ0_length_8abf5 hi1) (cwV 0 hts gX3_isSpelled_J0_length_8abf5 rfl rfl rfl hdJ0_length_8abf5 ⟨Nat.le_of_ble_eq_true rfl, Nat.le_of_ble_eq_true rfl⟩) rfl hl.1 rfl rfl (Nat.le_of_ble_eq_true rfl) (zD_g DX3_isSpelled 1 rfl) ⟨Nat.zero_le _, Nat.zero_le _⟩ ?_
  refine lv_iload_n hx hb (zD_g DX3_isSpelled 2 rfl) rfl (lv_at hl 3 rfl) ?_
  refine lv_iload_n hx hb (zD_g DX3_isSpelled 3 rfl) rfl (lv_at hl 2 rfl) ?_
  refine lv_isub hx hb (zD_g DX3_isSpelled 4 rfl) ?_
  refine lv_icmp_eq (tgt := 12) hx hb (zD_g DX3_isSpelled 5 rfl) (by decide) (fun c2 => ?_) (fun c2 => ?_)
  · replace hf := z_t c2 hf
    refine lv_iconst (v := (0 : Int32)) hx hb (zD_g DX3_isSpelled 8 rfl) (by decide) ?_
    refine lv_istore (lv' := [(4, .int (0 : Int32)), (0, .ref (q 0)), (1, .ref (sa i_word)), (2, .int a_start), (3, .int a_end)]) hx hb (zD_g DX3_isSpelled 9 rfl) hl (by decide) rfl (fun ls hl => ?_)
    have hL4 : ∀ (k4 : Option (Int32)) (hk4 : k4  = some r → ∀ (ls : Array Slot), lv_has ls 5 [] → W p l e rm3_isSpelled s m args below meth c s.heap [] 0 0 Q (F0 m 49 ls [])) (n4 : Nat) (y3 : Int32), L3_isSpelled_15 k4 tlen tbytes i_word a_start n4 y3 = some r → ∀ (ls : Array Slot), lv_has ls 5 [(0, .ref (q 0)), (1, .ref (sa i_word)), (2, .int a_start), (4, .int y3)] → W p l e rm3_isSpelled s m args below meth c s.heap [] 0 0 Q (F0 m 15 ls []) := by
      intro k4 hk4 n4
      induction n4 with
      | zero =>
        intro y3 hf
        cases hf
      | succ n4 ih4 =>
        intro y3 hf ls hl
        rw [L3_isSpelled_15] at hf
        refine lv_iload hx hb (zD_g DX3_isSpelled 10 rfl) (lv_at hl 3 rfl) ?_
        refine lv_aload_n hx hb (zD_g DX3_isSpelled 11 rfl) rfl (lv_at hl 1 rfl) ?_
        obtain ⟨hi5, hf⟩ := zgs_s hf
        refine z_Tp (As := []) (rest := [.int y3]) hi5 ⟨hx, hb, hml, hown, hts⟩ hK hT (ccJ0_length_8abf5 hi5) (cwV 0 hts gX3_isSpelled_J0_length_8abf5 rfl rfl rfl hdJ0_length_8abf5 ⟨Nat.le_of_ble_eq_true rfl, Nat.le_of_ble_eq_true rfl⟩) rfl hl.1 rfl rfl (Nat.le_of_ble_eq_true rfl) (zD_g DX3_isSpelled 12 rfl) ⟨Nat.zero_le _, Nat.zero_le _⟩ ?_
        refine lv_icmp_ge (tgt := 49) hx hb (zD_g DX3_isSpelled 13 rfl) (by decide) (fun c6 => ?_) (fun c6 => ?_)
        · replace hf := z_t c6 hf
          exact hk4  hf ls (lv_sub hl [] rfl)
        · replace hf := z_f c6 hf
          refine lv_aload_n hx hb (zD_g DX3_isSpelled 14 rfl) rfl (lv_at hl 1 rfl) ?_
          refine lv_iload hx hb (zD_g DX3_isSpelled 15 rfl) (lv_at hl 3 rfl) ?_
          obtain ⟨hi7, hf⟩ := zgs_s hf
          obtain ⟨h8, hf⟩ := zg_s hf
          refine z_Tp (As := [.int y3]) (rest := []) hi7 ⟨hx, hb, hml, hown, hts⟩ hK hT (ccJ0_charAt_5068e hi7 h8) (cwV 1 hts gX3_isSpelled_J0_charAt_5068e rfl rfl rfl hdJ0_charAt_5068e ⟨Nat.le_of_ble_eq_true rfl, Nat.le_of_ble_eq_true rfl⟩) rfl hl.1 rfl rfl (Nat.le_of_ble_eq_true rfl) (zD_g DX3_isSpelled 16 rfl) ⟨Nat.zero_le _, Nat.zero_le _⟩ ?_
          refine lv_aload_n hx hb (zD_g DX3_isSpelled 17 rfl) rfl (lv_at hl 0 rfl) ?_
          refine lv_iload_n hx hb (zD_g DX3_isSpelled 18 rfl) rfl (lv_at hl 2 rfl) ?_
          refine lv_iload hx hb (zD_g DX3_isSpelled 19 rfl) (lv_at hl 3 rfl) ?_
          refine lv_iadd hx hb (zD_g DX3_isSpelled 20 rfl) ?_
          obtain ⟨r9, hc10, hf⟩ := zb1_s hf
          refine z_Vp (As := [.int (a_start + y3)]) (rest := [.int (zsC i_word y3)]) ⟨hx, hb, hml, hown, hts⟩ hK (c3_byteAt (tlen := tlen) (titems := titems) (tfault := tfault) (tbytes := tbytes) (twords := twords) (tnumbers := tnumbers) (q := q) hc10) (cwV 1 hts gX3_isSpelled_X3_byteAt rfl rfl rfl hd3_byteAt ⟨Nat.le_of_ble_eq_true rfl, Nat.le_of_ble_eq_true rfl⟩) hP rfl rfl rfl rfl hl.1 rfl rfl (Nat.le_of_ble_eq_true rfl) (zD_g DX3_isSpelled 21 rfl) ⟨Nat.zero_le _, Nat.zero_le _⟩ ?_
          refine lv_icmp_eq (tgt := 43) hx hb (zD_g DX3_isSpelled 22 rfl) (by decide) (fun c11 => ?_) (fun c11 => ?_)
          · replace hf := z_t c11 hf
            refine lv_iinc (v := y3 + 1) (lv' := [(4, .int (y3 + 1)), (0, .ref (q 0)), (1, .ref (sa i_word)), (2, .int a_start)]) (k := 3) hx hb (zD_g DX3_isSpelled 25 rfl) hl rfl rfl (by decide) rfl (fun ls hl => ?_)
            refine lv_goto (tgt := 15) hx hb (zD_g DX3_isSpelled 26 rfl) (by decide) ?_
            exact ih4 _ hf ls (lv_sub hl [1, 2, 3, 0] rfl)
          · replace hf := z_f c11 hf
            refine lv_iconst (v := (0 : Int32)) hx hb (zD_g DX3_isSpelled 23 rfl) (by decide) ?_
            cases hf
            exact hret _ _ rfl (zD_g DX3_isSpelled 24 rfl)
    refine hL4 _ (fun  hf ls hl => ?_) _ _ hf ls (lv_sub hl [1, 2, 3, 0] rfl)
    refine lv_iconst (v := (1 : Int32)) hx hb (zD_g DX3_isSpelled 27 rfl) (by decide) ?_
    cases hf
    exact hret _ _ rfl (zD_g DX3_isSpelled 28 rfl)
  · replace hf := z_f c2 hf
    refine lv_iconst (v := (0 : Int32)) hx hb (zD_g DX3_isSpelled 6 rfl) (by decide) ?_
    cases hf
    exact hret _ _ rfl (zD_g DX3_isSpelled 7 rfl)
abbrev dlX3_wordAt : List (Nat × Instr × Nat) := [(0, .aload_n 0, 1), (1, .iload_n 1, 1), (2, .invokevirtual 50, 3), (5, .istore_n 2, 1), (6, .iconst 0, 1), (7, .istore_n 3, 1), (8, .iload_n 3, 1), (9, .bipush 7, 2), (11, .if_icmp .ge 24, 3), (14, .aload_n 0, 1), (15, .iload_n 3, 1), (16, .invokestatic 65, 3), (19, .iload_n 1, 1), (20, .iload_n 2, 1), (21, .invokevirtual 69, 3), (24, .ifCond .eq 5, 3), (27, .iload_n 3, 1), (28, .ireturn, 1), (29, .iinc 3 1, 3), (32, .goto (-24), 3), (35, .iconst (-1), 1), (36, .ireturn, 1)]
theorem DX3_wordAt : zD cX3_wordAt dlX3_wordAt = true := by decide +kernel
set_option maxRecDepth 20000 in
theorem ggX3_wordAt_X3_afterLetters : GoodIn wsX3_wordAt wsX3_afterLetters := goodIn_r _ [5, 6, 7, 8, 9, 4, 10, 11, 12, 13, 14, 71, 72, 73, 74, 75, 76] (by decide +kernel) (by decide +kernel)
set_option maxRecDepth 20000 in
theorem gX3_wordAt_X3_afterLetters : GoodIn wsX3_wordAt (wsV RX3 50 RX3 yX3_afterLetters wsX3_afterLetters) := goodIn_app (goodIn_of _ (by decide +kernel)) ggX3_wordAt_X3_afterLetters
set_option maxRecDepth 20000 in
theorem ggX3_wordAt_X3_spelling : GoodIn wsX3_wordAt wsX3_spelling := goodIn_r _ [17] (by decide +kernel) (by decide +kernel)
set_option maxRecDepth 20000 in
theorem gX3_wordAt_X3_spelling : GoodIn wsX3_wordAt (va_wsS RX3 65 yX3_spelling wsX3_spelling) := goodIn_app (goodIn_of _ (by decide +kernel)) ggX3_wordAt_X3_spelling
set_option maxRecDepth 20000 in
theorem ggX3_wordAt_X3_isSpelled : GoodIn wsX3_wordAt wsX3_isSpelled := goodIn_r _ [21, 22, 23, 24, 25, 26, 27, 28, 29, 30, 31, 32, 33, 34, 35, 36, 37, 38, 39, 40, 41, 42, 43, 44, 45, 46, 47, 48, 49, 50, 51, 52, 53, 54, 55, 56, 57, 58, 59, 60, 61, 62, 63, 64, 65, 66, 67, 68, 69, 70, 7, 8, 9, 4, 10, 6, 11, 12, 13, 14, 71, 72, 73, 74, 75, 76] (by decide +kernel) (by decide +kernel)
set_option maxRecDepth 20000 in
theorem gX3_wordAt_X3_isSpelled : GoodIn wsX3_wordAt (wsV RX3 69 RX3 yX3_isSpelled wsX3_isSpelled) := goodIn_app (goodIn_of _ (by decide +kernel)) ggX3_wordAt_X3_isSpelled
theorem hd3_wordAt : yX3_wordAt.cls = RX3 ∧ yX3_wordAt.cls ≠ "java/lang/invoke/MethodHandle" ∧ yX3_wordAt.cls ≠ "java/lang/invoke/VarHandle" ∧ (parseMethodDescriptor yX3_wordAt.desc).map (fun d => d.parameters.length) = some 1 := by decide +kernel
abbrev rm3_wordAt : Room := { frames := 5, cells := 0, slots := 0, locals := 109 }
set_option maxHeartbeats 4000000 in
set_option maxRecDepth 100000 in
theorem c3_wordAt {l : Launch} {D : va_G} {cI cZ cB : ClassId} {q : Nat → Nat} {sa sv : Nat → Nat} {tlen : Int32} {titems : Int32} {tfault : Int32} {tbytes : Nat → Int32} {twords : Nat → Int32} {tnumbers : Nat → Int32} {a_start : Int32} {r : Int32}  (hf : f3_wordAt tlen tbytes a_start = some r) : Met l yX3_wordAt wsX3_wordAt rm3_wordAt (zPpS D cI cZ cB sa sv [.ref (q 0), .int a_start] (cTell cI cB q tlen titems tfault tbytes twords tnumbers)) (zQp (some (.int r))) 0 0 (fun _ => False) := by
  unfold f3_wordAt at hf
  refine z_pureIS RX3 (by decide +kernel) rfl rfl (Nat.le_of_ble_eq_true rfl) ?_
  intro p e s m args below meth c Q ls hx hb hml hown hts hK hP hT hret hl
  have hl : lv_has ls 4 [(0, .ref (q 0)), (1, .int a_start)] := hl
  refine lv_aload_n hx hb (zD_g DX3_wordAt 0 rfl) rfl (lv_at hl 0 rfl) ?_
  refine lv_iload_n hx hb (zD_g DX3_wordAt 1 rfl) rfl (lv_at hl 1 rfl) ?_
  obtain ⟨r1, hc2, hf⟩ := zb1_s hf
  refine z_Vp (As := [.int a_start]) (rest := []) ⟨hx, hb, hml, hown, hts⟩ hK (c3_afterLetters (tlen := tlen) (titems := titems) (tfault := tfault) (tbytes := tbytes) (twords := twords) (tnumbers := tnumbers) (q := q) hc2) (cwV 1 hts gX3_wordAt_X3_afterLetters rfl rfl rfl hd3_afterLetters ⟨Nat.le_of_ble_eq_true rfl, Nat.le_of_ble_eq_true rfl⟩) hP rfl rfl rfl rfl hl.1 rfl rfl (Nat.le_of_ble_eq_true rfl) (zD_g DX3_wordAt 2 rfl) ⟨Nat.zero_le _, Nat.zero_le _⟩ ?_
  refine lv_istore_n (lv' := [(2, .int r1), (0, .ref (q 0)), (1, .int a_start)]) hx hb (zD_g DX3_wordAt 3 rfl) rfl hl (by decide) rfl (fun ls hl => ?_)
  refine lv_iconst (v := (0 : Int32)) hx hb (zD_g DX3_wordAt 4 rfl) (by decide) ?_
  refine lv_istore_n (lv' := [(3, .int (0 : Int32)), (2, .int r1), (0, .ref (q 0)), (1, .int a_start)]) hx hb (zD_g DX3_wordAt 5 rfl) rfl hl (by decide) rfl (fun ls hl => ?_)
  have hL4 : ∀ (k4 : Option (Int32)) (hk4 : k4  = some r → ∀ (ls : Array Slot), lv_has ls 4 [] → W p l e rm3_wordAt s m args below meth c s.heap [] 0 0 Q (F0 m 35 ls [])) (n4 : Nat) (y3 : Int32), L3_wordAt_8 k4 tlen tbytes a_start r1 n4 y3 = some r → ∀ (ls : Array Slot), lv_has ls 4 [(0, .ref (q 0)), (1, .int a_start), (2, .int r1), (3, .int y3)] → W p l e rm3_wordAt s m args below meth c s.heap [] 0 0 Q (F0 m 8 ls []) := by
    intro k4 hk4 n4
    induction n4 with
    | zero =>
      intro y3 hf
      cases hf
    | succ n4 ih4 =>
      intro y3 hf ls hl
      rw [L3_wordAt_8] at hf
      refine lv_iload_n hx hb (zD_g DX3_wordAt 6 rfl) rfl (lv_at hl 3 rfl) ?_
      refine lv_bipush (v := (7 : Int32)) hx hb (zD_g DX3_wordAt 7 rfl) (by decide) ?_
      refine lv_icmp_ge (tgt := 35) hx hb (zD_g DX3_wordAt 8 rfl) (by decide) (fun c5 => ?_) (fun c5 => ?_)
      · replace hf := z_t c5 hf
        exact hk4  hf ls (lv_sub hl [] rfl)
      · replace hf := z_f c5 hf
        refine lv_aload_n hx hb (zD_g DX3_wordAt 9 rfl) rfl (lv_at hl 0 rfl) ?_
        refine lv_iload_n hx hb (zD_g DX3_wordAt 10 rfl) rfl (lv_at hl 3 rfl) ?_
        obtain ⟨u6, hc7, hf⟩ := zb1_s hf
        refine z_SpS (As := [.int y3]) (rest := [.ref (q 0)]) ⟨hx, hb, hml, hown, hts⟩ hK hT (c3_spelling hc7) (va_cwS 1 hts gX3_wordAt_X3_spelling rfl rfl rfl hd3_spelling ⟨Nat.le_of_ble_eq_true rfl, Nat.le_of_ble_eq_true rfl⟩) (fun k q h => by simp at h) rfl hl.1 rfl rfl (Nat.le_of_ble_eq_true rfl) (zD_g DX3_wordAt 11 rfl) ⟨Nat.zero_le _, Nat.zero_le _⟩ ?_
        refine lv_iload_n hx hb (zD_g DX3_wordAt 12 rfl) rfl (lv_at hl 1 rfl) ?_
        refine lv_iload_n hx hb (zD_g DX3_wordAt 13 rfl) rfl (lv_at hl 2 rfl) ?_
        obtain ⟨r8, hc9, hf⟩ := zb1_s hf
        refine z_VpS (As := [.ref (sa u6), .int a_start, .int r1]) (rest := []) ⟨hx, hb, hml, hown, hts⟩ hK hT (c3_isSpelled (tlen := tlen) (titems := titems) (tfault := tfault) (tbytes := tbytes) (twords := twords) (tnumbers := tnumbers) (q := q) (sa := sa) (sv := sv) hc9) (cwV 3 hts gX3_wordAt_X3_isSpelled rfl rfl rfl hd3_isSpelled ⟨Nat.le_of_ble_eq_true rfl, Nat.le_of_ble_eq_true rfl⟩) hP rfl rfl rfl rfl hl.1 rfl rfl (Nat.le_of_ble_eq_true rfl) (zD_g DX3_wordAt 14 rfl) ⟨Nat.zero_le _, Nat.zero_le _⟩ ?_
        refine lv_if_eq (tgt := 29) hx hb (zD_g DX3_wordAt 15 rfl) (by decide) (fun c10 => ?_) (fun c10 => ?_)
        · replace hf := z_t c10 hf
          refine lv_iinc (v := y3 + 1) (lv' := [(3, .int (y3 + 1)), (0, .ref (q 0)), (1, .int a_start), (2, .int r1)]) (k := 3) hx hb (zD_g DX3_wordAt 18 rfl) hl rfl rfl (by decide) rfl (fun ls hl => ?_)
          refine lv_goto (tgt := 8) hx hb (zD_g DX3_wordAt 19 rfl) (by decide) ?_
          exact ih4 _ hf ls (lv_sub hl [1, 2, 3, 0] rfl)
        · replace hf := z_f c10 hf
          refine lv_iload_n hx hb (zD_g DX3_wordAt 16 rfl) rfl (lv_at hl 3 rfl) ?_
          cases hf
          exact hret _ _ (zD_g DX3_wordAt 17 rfl)
  refine hL4 _ (fun  hf ls hl => ?_) _ _ hf ls (lv_sub hl [2, 3, 1, 0] rfl)
  refine lv_iconst (v := (-1 : Int32)) hx hb (zD_g DX3_wordAt 20 rfl) (by decide) ?_
  cases hf
  exact hret _ _ (zD_g DX3_wordAt 21 rfl)
abbrev dlX3_afterItem : List (Nat × Instr × Nat) := [(0, .aload_n 0, 1), (1, .iload_n 2, 1), (2, .invokevirtual 44, 3), (5, .istore_n 3, 1), (6, .iload_n 3, 1), (7, .iconst (-1), 1), (8, .if_icmp .ne 9, 3), (11, .aload_n 0, 1), (12, .iload_n 2, 1), (13, .invokevirtual 47, 3), (16, .ireturn, 1), (17, .aload_n 0, 1), (18, .getfield 25, 3), (21, .iload_n 1, 1), (22, .iload_n 3, 1), (23, .iastore, 1), (24, .aload_n 0, 1), (25, .aload_n 0, 1), (26, .iload_n 2, 1), (27, .invokevirtual 50, 3), (30, .invokevirtual 36, 3), (33, .istore 4, 2), (35, .iconst 0, 1), (36, .istore 5, 2), (38, .iload 5, 2), (40, .iload_n 3, 1), (41, .invokestatic 53, 3), (44, .if_icmp .ge 67, 3), (47, .aload_n 0, 1), (48, .iload 4, 2), (50, .invokevirtual 56, 3), (53, .istore 6, 2), (55, .iload 6, 2), (57, .iload 4, 2), (59, .if_icmp .eq 12, 3), (62, .iload 6, 2), (64, .iload 4, 2), (66, .isub, 1), (67, .iconst 3, 1), (68, .if_icmp .le 10, 3), (71, .aload_n 0, 1), (72, .iload 4, 2), (74, .invokevirtual 47, 3), (77, .ireturn, 1), (78, .aload_n 0, 1), (79, .getfield 29, 3), (82, .iload_n 1, 1), (83, .iconst 4, 1), (84, .imul, 1), (85, .iload 5, 2), (87, .iadd, 1), (88, .aload_n 0, 1), (89, .iload 4, 2), (91, .iload 6, 2), (93, .invokevirtual 59, 3), (96, .iastore, 1), (97, .aload_n 0, 1), (98, .iload 6, 2), (100, .invokevirtual 36, 3), (103, .istore 4, 2), (105, .iinc 5 1, 3), (108, .goto (-70), 3), (111, .aload_n 0, 1), (112, .iload 4, 2), (114, .invokevirtual 62, 3), (117, .bipush 59, 2), (119, .if_icmp .eq 10, 3), (122, .aload_n 0, 1), (123, .iload 4, 2), (125, .invokevirtual 47, 3), (128, .ireturn, 1), (129, .aload_n 0, 1), (130, .iload 4, 2), (132, .iconst 1, 1), (133, .iadd, 1), (134, .invokevirtual 36, 3), (137, .ireturn, 1)]
theorem DX3_afterItem : zD cX3_afterItem dlX3_afterItem = true := by decide +kernel
set_option maxRecDepth 20000 in
theorem ggX3_afterItem_X3_wordAt : GoodIn wsX3_afterItem wsX3_wordAt := goodIn_r _ [7, 8, 9, 10, 6, 11, 12, 13, 14, 15, 16, 17, 18, 19, 20, 21, 22, 23, 24, 25, 26, 27, 28, 29, 30, 31, 32, 33, 34, 35, 36, 37, 38, 39, 40, 41, 42, 43, 44, 45, 46, 47, 48, 49, 50, 51, 52, 53, 54, 55, 56, 57, 58, 59, 60, 61, 62, 63, 64, 65, 66, 67, 68, 69, 70, 71, 72, 73, 74, 75, 76, 97, 98, 99, 100, 101, 102] (by decide +kernel) (by decide +kernel)
set_option maxRecDepth 20000 in
theorem gX3_afterItem_X3_wordAt : GoodIn wsX3_afterItem (wsV RX3 44 RX3 yX3_wordAt wsX3_wordAt) := goodIn_app (goodIn_of _ (by decide +kernel)) ggX3_afterItem_X3_wordAt
set_option maxRecDepth 20000 in
theorem ggX3_afterItem_X3_faultAt : GoodIn wsX3_afterItem wsX3_faultAt := goodIn_r _ [80, 81, 97, 98, 99, 100, 101, 102] (by decide +kernel) (by decide +kernel)
set_option maxRecDepth 20000 in
theorem gX3_afterItem_X3_faultAt : GoodIn wsX3_afterItem (wsV RX3 47 RX3 yX3_faultAt wsX3_faultAt) := goodIn_app (goodIn_of _ (by decide +kernel)) ggX3_afterItem_X3_faultAt
set_option maxRecDepth 20000 in
theorem ggX3_afterItem_X3_afterLetters : GoodIn wsX3_afterItem wsX3_afterLetters := goodIn_r _ [11, 12, 13, 14, 15, 6, 16, 17, 18, 19, 20, 97, 98, 99, 100, 101, 102] (by decide +kernel) (by decide +kernel)
set_option maxRecDepth 20000 in
theorem gX3_afterItem_X3_afterLetters : GoodIn wsX3_afterItem (wsV RX3 50 RX3 yX3_afterLetters wsX3_afterLetters) := goodIn_app (goodIn_of _ (by decide +kernel)) ggX3_afterItem_X3_afterLetters
set_option maxRecDepth 20000 in
theorem ggX3_afterItem_X3_afterBlanks : GoodIn wsX3_afterItem wsX3_afterBlanks := goodIn_r _ [85, 12, 13, 14, 15, 6, 16, 17, 18, 19, 20, 97, 98, 99, 100, 101, 102] (by decide +kernel) (by decide +kernel)
set_option maxRecDepth 20000 in
theorem gX3_afterItem_X3_afterBlanks : GoodIn wsX3_afterItem (wsV RX3 36 RX3 yX3_afterBlanks wsX3_afterBlanks) := goodIn_app (goodIn_of _ (by decide +kernel)) ggX3_afterItem_X3_afterBlanks
set_option maxRecDepth 20000 in
theorem ggX3_afterItem_X3_numbersBehind : GoodIn wsX3_afterItem wsX3_numbersBehind := goodIn_r _ [88] (by decide +kernel) (by decide +kernel)
set_option maxRecDepth 20000 in
theorem gX3_afterItem_X3_numbersBehind : GoodIn wsX3_afterItem (va_wsS RX3 53 yX3_numbersBehind wsX3_numbersBehind) := goodIn_app (goodIn_of _ (by decide +kernel)) ggX3_afterItem_X3_numbersBehind
set_option maxRecDepth 20000 in
theorem ggX3_afterItem_X3_afterFigures : GoodIn wsX3_afterItem wsX3_afterFigures := goodIn_r _ [92, 12, 13, 14, 15, 6, 16, 17, 18, 19, 20, 97, 98, 99, 100, 101, 102] (by decide +kernel) (by decide +kernel)
set_option maxRecDepth 20000 in
theorem gX3_afterItem_X3_afterFigures : GoodIn wsX3_afterItem (wsV RX3 56 RX3 yX3_afterFigures wsX3_afterFigures) := goodIn_app (goodIn_of _ (by decide +kernel)) ggX3_afterItem_X3_afterFigures
set_option maxRecDepth 20000 in
theorem ggX3_afterItem_X3_numberBetween : GoodIn wsX3_afterItem wsX3_numberBetween := goodIn_r _ [96, 13, 14, 15, 6, 16, 12, 17, 18, 19, 20, 97, 98, 99, 100, 101, 102] (by decide +kernel) (by decide +kernel)
set_option maxRecDepth 20000 in
theorem gX3_afterItem_X3_numberBetween : GoodIn wsX3_afterItem (wsV RX3 59 RX3 yX3_numberBetween wsX3_numberBetween) := goodIn_app (goodIn_of _ (by decide +kernel)) ggX3_afterItem_X3_numberBetween
set_option maxRecDepth 20000 in
theorem ggX3_afterItem_X3_byteAt : GoodIn wsX3_afterItem wsX3_byteAt := goodIn_r _ [16, 12, 17, 18, 19, 20, 97, 98, 99, 100, 101, 102] (by decide +kernel) (by decide +kernel)
set_option maxRecDepth 20000 in
theorem gX3_afterItem_X3_byteAt : GoodIn wsX3_afterItem (wsV RX3 62 RX3 yX3_byteAt wsX3_byteAt) := goodIn_app (goodIn_of _ (by decide +kernel)) ggX3_afterItem_X3_byteAt
theorem hd3_afterItem : yX3_afterItem.cls = RX3 ∧ yX3_afterItem.cls ≠ "java/lang/invoke/MethodHandle" ∧ yX3_afterItem.cls ≠ "java/lang/invoke/VarHandle" ∧ (parseMethodDescriptor yX3_afterItem.desc).map (fun d => d.parameters.length) = some 2 := by decide +kernel
abbrev rm3_afterItem : Room := { frames := 6, cells := 0, slots := 0, locals := 132 }
theorem in3_afterItem_3 : ∀ w ∈ wsX30, w ∈ wsX3_afterItem := fun w h => List.mem_cons_of_mem _ (List.mem_append_right _ h)
set_option maxHeartbeats 4000000 in
set_option maxRecDepth 100000 in
theorem c3_afterItem {l : Launch} {D : va_G} {cI cZ cB : ClassId} {q : Nat → Nat} {sa sv : Nat → Nat} {sz : Nat} {tlen : Int32} {titems : Int32} {tfault : Int32} {tbytes : Nat → Int32} {twords : Nat → Int32} {tnumbers : Nat → Int32} {a_item : Int32} {a_start : Int32} {r : Int32} {d_tfault : Int32} {d_twords : Nat → Int32} {d_tnumbers : Nat → Int32} (hf : f3_afterItem tlen tfault tbytes twords tnumbers a_item a_start = some (r, d_tfault, d_twords, d_tnumbers)) : Met l yX3_afterItem wsX3_afterItem rm3_afterItem (zPmS D cI cZ cB sa sv [.ref (q 0), .int a_item, .int a_start] sz (cTell cI cB q tlen titems tfault tbytes twords tnumbers)) (zQm D (some (.int r)) (cTell cI cB q tlen titems d_tfault tbytes d_twords d_tnumbers) (va_A (cTell cI cB q tlen titems tfault tbytes twords tnumbers) sz)) 0 0 (va_A (cTell cI cB q tlen titems tfault tbytes twords tnumbers) sz) := by
  unfold f3_afterItem at hf
  refine z_mutIS RX3 (by decide +kernel) rfl rfl (Nat.le_of_ble_eq_true rfl) ?_
  intro p e s m args below meth c Q A ls hx hb hml hown hts hK hP hD hS hA hT hret hl
  have hl : lv_has ls 7 [(0, .ref (q 0)), (1, .int a_item), (2, .int a_start)] := hl
  refine lv_aload_n hx hb (zD_g DX3_afterItem 0 rfl) rfl (lv_at hl 0 rfl) ?_
  refine lv_iload_n hx hb (zD_g DX3_afterItem 1 rfl) rfl (lv_at hl 2 rfl) ?_
  obtain ⟨r1, hc2, hf⟩ := zb1_s hf
  refine z_VpS (As := [.int a_start]) (rest := []) ⟨hx, hb, hml, hown, hts⟩ hK (hT.now hS) (c3_wordAt (tlen := tlen) (titems := titems) (tfault := tfault) (tbytes := tbytes) (twords := twords) (tnumbers := tnumbers) (q := q) (sa := sa) (sv := sv) hc2) (cwV 1 hts gX3_afterItem_X3_wordAt rfl rfl rfl hd3_wordAt ⟨Nat.le_of_ble_eq_true rfl, Nat.le_of_ble_eq_true rfl⟩) hP rfl rfl rfl rfl hl.1 rfl rfl (Nat.le_of_ble_eq_true rfl) (zD_g DX3_afterItem 2 rfl) ⟨Nat.zero_le _, Nat.zero_le _⟩ ?_
  refine lv_istore_n (lv' := [(3, .int r1), (0, .ref (q 0)), (1, .int a_item), (2, .int a_start)]) hx hb (zD_g DX3_afterItem 3 rfl) rfl hl (by decide) rfl (fun ls hl => ?_)
  refine lv_iload_n hx hb (zD_g DX3_afterItem 4 rfl) rfl (lv_at hl 0 rfl) ?_
  refine lv_iconst (v := (-1 : Int32)) hx hb (zD_g DX3_afterItem 5 rfl) (by decide) ?_
  refine lv_icmp_ne (tgt := 17) hx hb (zD_g DX3_afterItem 6 rfl) (by decide) (fun c3 => ?_) (fun c3 => ?_)
  · replace hf := z_f c3 hf
    refine lv_aload_n hx hb (zD_g DX3_afterItem 11 rfl) rfl (lv_at hl 1 rfl) ?_
    refine va_get (D := D) (ci := 2) (v := .ref (q 2)) (C := RX3) (T := TX3) (N := 6) hx hb hts in3_afterItem_3 hown hK.1 hP 0 rfl rfl 4 (by decide) (hts _ (List.mem_of_getElem? (i := 1) rfl)) (fun _ h9 => h9) rfl (zD_g DX3_afterItem 12 rfl) ?_
    refine lv_iload_n hx hb (zD_g DX3_afterItem 13 rfl) rfl (lv_at hl 2 rfl) ?_
    refine lv_iload_n hx hb (zD_g DX3_afterItem 14 rfl) rfl (lv_at hl 0 rfl) ?_
    obtain ⟨h4, hf⟩ := zg_s hf
    refine z_iast (k := a_item.toNatClampNeg) (ws' := (cTell cI cB q tlen titems tfault tbytes (upd twords a_item.toNatClampNeg r1) tnumbers)) hx hb hK.1 hP hD hS 2 0 rfl rfl h4 rfl rfl (zD_g DX3_afterItem 15 rfl) (fun H locs hP hD hS => ?_)
    refine lv_aload_n hx hb (zD_g DX3_afterItem 16 rfl) rfl (lv_at hl 1 rfl) ?_
    refine lv_aload_n hx hb (zD_g DX3_afterItem 17 rfl) rfl (lv_at hl 1 rfl) ?_
    refine lv_iload_n hx hb (zD_g DX3_afterItem 18 rfl) rfl (lv_at hl 3 rfl) ?_
    obtain ⟨r5, hc6, hf⟩ := zb1_s hf
    refine z_Vp (As := [.int a_start]) (rest := [.ref (q 0)]) ⟨hx, hb, hml, hown, hts⟩ hK (c3_afterLetters (tlen := tlen) (titems := titems) (tfault := tfault) (tbytes := tbytes) (twords := (upd twords a_item.toNatClampNeg r1)) (tnumbers := tnumbers) (q := q) hc6) (cwV 1 hts gX3_afterItem_X3_afterLetters rfl rfl rfl hd3_afterLetters ⟨Nat.le_of_ble_eq_true rfl, Nat.le_of_ble_eq_true rfl⟩) hP rfl rfl rfl rfl hl.1 rfl rfl (Nat.le_of_ble_eq_true rfl) (zD_g DX3_afterItem 19 rfl) ⟨Nat.zero_le _, Nat.zero_le _⟩ ?_
    obtain ⟨r7, hc8, hf⟩ := zb1_s hf
    refine z_Vp (As := [.int r5]) (rest := []) ⟨hx, hb, hml, hown, hts⟩ hK (c3_afterBlanks (tlen := tlen) (titems := titems) (tfault := tfault) (tbytes := tbytes) (twords := (upd twords a_item.toNatClampNeg r1)) (tnumbers := tnumbers) (q := q) hc8) (cwV 1 hts gX3_afterItem_X3_afterBlanks rfl rfl rfl hd3_afterBlanks ⟨Nat.le_of_ble_eq_true rfl, Nat.le_of_ble_eq_true rfl⟩) hP rfl rfl rfl rfl hl.1 rfl rfl (Nat.le_of_ble_eq_true rfl) (zD_g DX3_afterItem 20 rfl) ⟨Nat.zero_le _, Nat.zero_le _⟩ ?_
    refine lv_istore (lv' := [(4, .int r7), (3, .int r1), (0, .ref (q 0)), (1, .int a_item), (2, .int a_start)]) hx hb (zD_g DX3_afterItem 21 rfl) hl (by decide) rfl (fun ls hl => ?_)
    refine lv_iconst (v := (0 : Int32)) hx hb (zD_g DX3_afterItem 22 rfl) (by decide) ?_
    refine lv_istore (lv' := [(5, .int (0 : Int32)), (4, .int r7), (3, .int r1), (0, .ref (q 0)), (1, .int a_item), (2, .int a_start)]) hx hb (zD_g DX3_afterItem 23 rfl) hl (by decide) rfl (fun ls hl => ?_)
    have hL12 : ∀ (k12 : Int32 → (Nat → Int32) → Option (Int32 × Int32 × (Nat → Int32) × (Nat → Int32))) (hk12 : ∀ (y31 : Int32) (tnumbers_32 : Nat → Int32), k12 y31 tnumbers_32 = some (r, d_tfault, d_twords, d_tnumbers) → ∀ (H : Heap) (locs : List Loc), va_P D vwCl (cTell cI cB q tlen titems tfault tbytes (upd twords a_item.toNatClampNeg r1) tnumbers_32) H → va_D A (cTell cI cB q tlen titems tfault tbytes (upd twords a_item.toNatClampNeg r1) tnumbers_32) → va_S A s.heap H locs → ∀ (ls : Array Slot), lv_has ls 7 [(0, .ref (q 0)), (4, .int y31)] → W p l e rm3_afterItem s m args below meth c H locs 0 0 Q (F0 m 111 ls [])) (n12 : Nat) (y9 : Int32) (y10 : Int32) (tnumbers_11 : Nat → Int32), L3_afterItem_38 k12 tlen tfault tbytes twords a_item r1 n12 y9 y10 tnumbers_11 = some (r, d_tfault, d_twords, d_tnumbers) → ∀ (H : Heap) (locs : List Loc), va_P D vwCl (cTell cI cB q tlen titems tfault tbytes (upd twords a_item.toNatClampNeg r1) tnumbers_11) H → va_D A (cTell cI cB q tlen titems tfault tbytes (upd twords a_item.toNatClampNeg r1) tnumbers_11) → va_S A s.heap H locs → ∀ (ls : Array Slot), lv_has ls 7 [(0, .ref (q 0)), (1, .int a_item), (3, .int r1), (4, .int y9), (5, .int y10)] → W p l e rm3_afterItem s m args below meth c H locs 0 0 Q (F0 m 38 ls []) := by
      intro k12 hk12 n12
      induction n12 with
      | zero =>
        intro y9 y10 tnumbers_11 hf
        cases hf
      | succ n12 ih12 =>
        intro y9 y10 tnumbers_11 hf H locs hP hD hS ls hl
        rw [L3_afterItem_38] at hf
        refine lv_iload hx hb (zD_g DX3_afterItem 24 rfl) (lv_at hl 4 rfl) ?_
        refine lv_iload_n hx hb (zD_g DX3_afterItem 25 rfl) rfl (lv_at hl 2 rfl) ?_
        obtain ⟨r13, hc14, hf⟩ := zb1_s hf
        refine z_Sp (As := [.int r1]) (rest := [.int y10]) ⟨hx, hb, hml, hown, hts⟩ hK (c3_numbersBehind  hc14) (va_cwS 1 hts gX3_afterItem_X3_numbersBehind rfl rfl rfl hd3_numbersBehind ⟨Nat.le_of_ble_eq_true rfl, Nat.le_of_ble_eq_true rfl⟩) (hP.sub [] rfl) rfl hl.1 rfl rfl (Nat.le_of_ble_eq_true rfl) (zD_g DX3_afterItem 26 rfl) ⟨Nat.zero_le _, Nat.zero_le _⟩ ?_
        refine lv_icmp_ge (tgt := 111) hx hb (zD_g DX3_afterItem 27 rfl) (by decide) (fun c15 => ?_) (fun c15 => ?_)
        · replace hf := z_t c15 hf
          exact hk12 _ _ hf _ _ hP hD hS ls (lv_sub hl [0, 3] rfl)
        · replace hf := z_f c15 hf
          refine lv_aload_n hx hb (zD_g DX3_afterItem 28 rfl) rfl (lv_at hl 0 rfl) ?_
          refine lv_iload hx hb (zD_g DX3_afterItem 29 rfl) (lv_at hl 3 rfl) ?_
          obtain ⟨r16, hc17, hf⟩ := zb1_s hf
          refine z_Vp (As := [.int y9]) (rest := []) ⟨hx, hb, hml, hown, hts⟩ hK (c3_afterFigures (tlen := tlen) (titems := titems) (tfault := tfault) (tbytes := tbytes) (twords := (upd twords a_item.toNatClampNeg r1)) (tnumbers := tnumbers_11) (q := q) hc17) (cwV 1 hts gX3_afterItem_X3_afterFigures rfl rfl rfl hd3_afterFigures ⟨Nat.le_of_ble_eq_true rfl, Nat.le_of_ble_eq_true rfl⟩) hP rfl rfl rfl rfl hl.1 rfl rfl (Nat.le_of_ble_eq_true rfl) (zD_g DX3_afterItem 30 rfl) ⟨Nat.zero_le _, Nat.zero_le _⟩ ?_
          refine lv_istore (lv' := [(6, .int r16), (0, .ref (q 0)), (1, .int a_item), (3, .int r1), (4, .int y9), (5, .int y10)]) hx hb (zD_g DX3_afterItem 31 rfl) hl (by decide) rfl (fun ls hl => ?_)
          refine lv_iload hx hb (zD_g DX3_afterItem 32 rfl) (lv_at hl 0 rfl) ?_
          refine lv_iload hx hb (zD_g DX3_afterItem 33 rfl) (lv_at hl 4 rfl) ?_
          refine lv_icmp_eq (tgt := 71) hx hb (zD_g DX3_afterItem 34 rfl) (by decide) (fun c18 => ?_) (fun c18 => ?_)
          · replace hf := z_t c18 hf
            refine lv_aload_n hx hb (zD_g DX3_afterItem 40 rfl) rfl (lv_at hl 1 rfl) ?_
            refine lv_iload hx hb (zD_g DX3_afterItem 41 rfl) (lv_at hl 4 rfl) ?_
            obtain ⟨r19, tfault_20, hc21, hf⟩ := zb2_s hf
            refine z_Vm (As := [.int y9]) (rest := []) (ws' := (cTell cI cB q tlen titems tfault_20 tbytes (upd twords a_item.toNatClampNeg r1) tnumbers_11)) ⟨hx, hb, hml, hown, hts⟩ hK (c3_faultAt (tlen := tlen) (titems := titems) (tfault := tfault) (tbytes := tbytes) (twords := (upd twords a_item.toNatClampNeg r1)) (tnumbers := tnumbers_11) (q := q) hc21) (cwV 1 hts gX3_afterItem_X3_faultAt rfl rfl rfl hd3_faultAt ⟨Nat.le_of_ble_eq_true rfl, Nat.le_of_ble_eq_true rfl⟩) hP hD hS hA 4 [0, 1, 2, 3] [] [0, 1, 2, 3] (by decide +kernel) rfl rfl rfl rfl rfl rfl rfl hl.1 rfl rfl (Nat.le_of_ble_eq_true rfl) (zD_g DX3_afterItem 42 rfl) ⟨Nat.zero_le _, Nat.zero_le _⟩ (fun H locs hP hD hS => ?_)
            cases hf
            exact hret _ _ _ _ hP hD hS (zD_g DX3_afterItem 43 rfl)
          · replace hf := z_f c18 hf
            refine lv_iload hx hb (zD_g DX3_afterItem 35 rfl) (lv_at hl 0 rfl) ?_
            refine lv_iload hx hb (zD_g DX3_afterItem 36 rfl) (lv_at hl 4 rfl) ?_
            refine lv_isub hx hb (zD_g DX3_afterItem 37 rfl) ?_
            refine lv_iconst (v := (3 : Int32)) hx hb (zD_g DX3_afterItem 38 rfl) (by decide) ?_
            refine lv_icmp_le (tgt := 78) hx hb (zD_g DX3_afterItem 39 rfl) (by decide) (fun c22 => ?_) (fun c22 => ?_)
            · replace hf := z_t c22 hf
              refine lv_aload_n hx hb (zD_g DX3_afterItem 44 rfl) rfl (lv_at hl 1 rfl) ?_
              refine va_get (D := D) (ci := 2) (v := .ref (q 3)) (C := RX3) (T := TX3) (N := 6) hx hb hts in3_afterItem_3 hown hK.1 hP 0 rfl rfl 5 (by decide) (hts _ (List.mem_of_getElem? (i := 2) rfl)) (fun _ h9 => h9) rfl (zD_g DX3_afterItem 45 rfl) ?_
              refine lv_iload_n hx hb (zD_g DX3_afterItem 46 rfl) rfl (lv_at hl 2 rfl) ?_
              refine lv_iconst (v := (4 : Int32)) hx hb (zD_g DX3_afterItem 47 rfl) (by decide) ?_
              refine lv_imul hx hb (zD_g DX3_afterItem 48 rfl) ?_
              refine lv_iload hx hb (zD_g DX3_afterItem 49 rfl) (lv_at hl 5 rfl) ?_
              refine lv_iadd hx hb (zD_g DX3_afterItem 50 rfl) ?_
              refine lv_aload_n hx hb (zD_g DX3_afterItem 51 rfl) rfl (lv_at hl 1 rfl) ?_
              refine lv_iload hx hb (zD_g DX3_afterItem 52 rfl) (lv_at hl 4 rfl) ?_
              refine lv_iload hx hb (zD_g DX3_afterItem 53 rfl) (lv_at hl 0 rfl) ?_
              obtain ⟨r23, hc24, hf⟩ := zb1_s hf
              refine z_Vp (As := [.int y9, .int r16]) (rest := [.int ((a_item * (4 : Int32)) + y10), .ref (q 3)]) ⟨hx, hb, hml, hown, hts⟩ hK (c3_numberBetween (tlen := tlen) (titems := titems) (tfault := tfault) (tbytes := tbytes) (twords := (upd twords a_item.toNatClampNeg r1)) (tnumbers := tnumbers_11) (q := q) hc24) (cwV 2 hts gX3_afterItem_X3_numberBetween rfl rfl rfl hd3_numberBetween ⟨Nat.le_of_ble_eq_true rfl, Nat.le_of_ble_eq_true rfl⟩) hP rfl rfl rfl rfl hl.1 rfl rfl (Nat.le_of_ble_eq_true rfl) (zD_g DX3_afterItem 54 rfl) ⟨Nat.zero_le _, Nat.zero_le _⟩ ?_
              obtain ⟨h25, hf⟩ := zg_s hf
              refine z_iast (k := ((a_item * (4 : Int32)) + y10).toNatClampNeg) (ws' := (cTell cI cB q tlen titems tfault tbytes (upd twords a_item.toNatClampNeg r1) (upd tnumbers_11 (((a_item * (4 : Int32)) + y10).toNatClampNeg) r23))) hx hb hK.1 hP hD hS 3 0 rfl rfl h25 rfl rfl (zD_g DX3_afterItem 55 rfl) (fun H locs hP hD hS => ?_)
              refine lv_aload_n hx hb (zD_g DX3_afterItem 56 rfl) rfl (lv_at hl 1 rfl) ?_
              refine lv_iload hx hb (zD_g DX3_afterItem 57 rfl) (lv_at hl 0 rfl) ?_
              obtain ⟨r26, hc27, hf⟩ := zb1_s hf
              refine z_Vp (As := [.int r16]) (rest := []) ⟨hx, hb, hml, hown, hts⟩ hK (c3_afterBlanks (tlen := tlen) (titems := titems) (tfault := tfault) (tbytes := tbytes) (twords := (upd twords a_item.toNatClampNeg r1)) (tnumbers := (upd tnumbers_11 (((a_item * (4 : Int32)) + y10).toNatClampNeg) r23)) (q := q) hc27) (cwV 1 hts gX3_afterItem_X3_afterBlanks rfl rfl rfl hd3_afterBlanks ⟨Nat.le_of_ble_eq_true rfl, Nat.le_of_ble_eq_true rfl⟩) hP rfl rfl rfl rfl hl.1 rfl rfl (Nat.le_of_ble_eq_true rfl) (zD_g DX3_afterItem 58 rfl) ⟨Nat.zero_le _, Nat.zero_le _⟩ ?_
              refine lv_istore (lv' := [(4, .int r26), (6, .int r16), (0, .ref (q 0)), (1, .int a_item), (3, .int r1), (5, .int y10)]) hx hb (zD_g DX3_afterItem 59 rfl) hl (by decide) rfl (fun ls hl => ?_)
              refine lv_iinc (v := y10 + 1) (lv' := [(5, .int (y10 + 1)), (4, .int r26), (6, .int r16), (0, .ref (q 0)), (1, .int a_item), (3, .int r1)]) (k := 5) hx hb (zD_g DX3_afterItem 60 rfl) hl rfl rfl (by decide) rfl (fun ls hl => ?_)
              refine lv_goto (tgt := 38) hx hb (zD_g DX3_afterItem 61 rfl) (by decide) ?_
              exact ih12 _ _ _ hf _ _ hP hD hS ls (lv_sub hl [3, 4, 5, 1, 0] rfl)
            · replace hf := z_f c22 hf
              refine lv_aload_n hx hb (zD_g DX3_afterItem 40 rfl) rfl (lv_at hl 1 rfl) ?_
              refine lv_iload hx hb (zD_g DX3_afterItem 41 rfl) (lv_at hl 4 rfl) ?_
              obtain ⟨r28, tfault_29, hc30, hf⟩ := zb2_s hf
              refine z_Vm (As := [.int y9]) (rest := []) (ws' := (cTell cI cB q tlen titems tfault_29 tbytes (upd twords a_item.toNatClampNeg r1) tnumbers_11)) ⟨hx, hb, hml, hown, hts⟩ hK (c3_faultAt (tlen := tlen) (titems := titems) (tfault := tfault) (tbytes := tbytes) (twords := (upd twords a_item.toNatClampNeg r1)) (tnumbers := tnumbers_11) (q := q) hc30) (cwV 1 hts gX3_afterItem_X3_faultAt rfl rfl rfl hd3_faultAt ⟨Nat.le_of_ble_eq_true rfl, Nat.le_of_ble_eq_true rfl⟩) hP hD hS hA 4 [0, 1, 2, 3] [] [0, 1, 2, 3] (by decide +kernel) rfl rfl rfl rfl rfl rfl rfl hl.1 rfl rfl (Nat.le_of_ble_eq_true rfl) (zD_g DX3_afterItem 42 rfl) ⟨Nat.zero_le _, Nat.zero_le _⟩ (fun H locs hP hD hS => ?_)
              cases hf
              exact hret _ _ _ _ hP hD hS (zD_g DX3_afterItem 43 rfl)
    refine hL12 _ (fun y31 tnumbers_32 hf H locs hP hD hS ls hl => ?_) _ _ _ _ hf _ _ hP hD hS ls (lv_sub hl [3, 4, 2, 1, 0] rfl)
    refine lv_aload_n hx hb (zD_g DX3_afterItem 62 rfl) rfl (lv_at hl 0 rfl) ?_
    refine lv_iload hx hb (zD_g DX3_afterItem 63 rfl) (lv_at hl 1 rfl) ?_
    obtain ⟨r33, hc34, hf⟩ := zb1_s hf
    refine z_Vp (As := [.int y31]) (rest := []) ⟨hx, hb, hml, hown, hts⟩ hK (c3_byteAt (tlen := tlen) (titems := titems) (tfault := tfault) (tbytes := tbytes) (twords := (upd twords a_item.toNatClampNeg r1)) (tnumbers := tnumbers_32) (q := q) hc34) (cwV 1 hts gX3_afterItem_X3_byteAt rfl rfl rfl hd3_byteAt ⟨Nat.le_of_ble_eq_true rfl, Nat.le_of_ble_eq_true rfl⟩) hP rfl rfl rfl rfl hl.1 rfl rfl (Nat.le_of_ble_eq_true rfl) (zD_g DX3_afterItem 64 rfl) ⟨Nat.zero_le _, Nat.zero_le _⟩ ?_
    refine lv_bipush (v := (59 : Int32)) hx hb (zD_g DX3_afterItem 65 rfl) (by decide) ?_
    refine lv_icmp_eq (tgt := 129) hx hb (zD_g DX3_afterItem 66 rfl) (by decide) (fun c35 => ?_) (fun c35 => ?_)
    · replace hf := z_t c35 hf
      refine lv_aload_n hx hb (zD_g DX3_afterItem 71 rfl) rfl (lv_at hl 0 rfl) ?_
      refine lv_iload hx hb (zD_g DX3_afterItem 72 rfl) (lv_at hl 1 rfl) ?_
      refine lv_iconst (v := (1 : Int32)) hx hb (zD_g DX3_afterItem 73 rfl) (by decide) ?_
      refine lv_iadd hx hb (zD_g DX3_afterItem 74 rfl) ?_
      obtain ⟨r36, hc37, hf⟩ := zb1_s hf
      refine z_Vp (As := [.int (y31 + (1 : Int32))]) (rest := []) ⟨hx, hb, hml, hown, hts⟩ hK (c3_afterBlanks (tlen := tlen) (titems := titems) (tfault := tfault) (tbytes := tbytes) (twords := (upd twords a_item.toNatClampNeg r1)) (tnumbers := tnumbers_32) (q := q) hc37) (cwV 1 hts gX3_afterItem_X3_afterBlanks rfl rfl rfl hd3_afterBlanks ⟨Nat.le_of_ble_eq_true rfl, Nat.le_of_ble_eq_true rfl⟩) hP rfl rfl rfl rfl hl.1 rfl rfl (Nat.le_of_ble_eq_true rfl) (zD_g DX3_afterItem 75 rfl) ⟨Nat.zero_le _, Nat.zero_le _⟩ ?_
      cases hf
      exact hret _ _ _ _ hP hD hS (zD_g DX3_afterItem 76 rfl)
    · replace hf := z_f c35 hf
      refine lv_aload_n hx hb (zD_g DX3_afterItem 67 rfl) rfl (lv_at hl 0 rfl) ?_
      refine lv_iload hx hb (zD_g DX3_afterItem 68 rfl) (lv_at hl 1 rfl) ?_
      obtain ⟨r38, tfault_39, hc40, hf⟩ := zb2_s hf
      refine z_Vm (As := [.int y31]) (rest := []) (ws' := (cTell cI cB q tlen titems tfault_39 tbytes (upd twords a_item.toNatClampNeg r1) tnumbers_32)) ⟨hx, hb, hml, hown, hts⟩ hK (c3_faultAt (tlen := tlen) (titems := titems) (tfault := tfault) (tbytes := tbytes) (twords := (upd twords a_item.toNatClampNeg r1)) (tnumbers := tnumbers_32) (q := q) hc40) (cwV 1 hts gX3_afterItem_X3_faultAt rfl rfl rfl hd3_faultAt ⟨Nat.le_of_ble_eq_true rfl, Nat.le_of_ble_eq_true rfl⟩) hP hD hS hA 4 [0, 1, 2, 3] [] [0, 1, 2, 3] (by decide +kernel) rfl rfl rfl rfl rfl rfl rfl hl.1 rfl rfl (Nat.le_of_ble_eq_true rfl) (zD_g DX3_afterItem 69 rfl) ⟨Nat.zero_le _, Nat.zero_le _⟩ (fun H locs hP hD hS => ?_)
      cases hf
      exact hret _ _ _ _ hP hD hS (zD_g DX3_afterItem 70 rfl)
  · replace hf := z_t c3 hf
    refine lv_aload_n hx hb (zD_g DX3_afterItem 7 rfl) rfl (lv_at hl 1 rfl) ?_
    refine lv_iload_n hx hb (zD_g DX3_afterItem 8 rfl) rfl (lv_at hl 3 rfl) ?_
    obtain ⟨r41, tfault_42, hc43, hf⟩ := zb2_s hf
    refine z_Vm (As := [.int a_start]) (rest := []) (ws' := (cTell cI cB q tlen titems tfault_42 tbytes twords tnumbers)) ⟨hx, hb, hml, hown, hts⟩ hK (c3_faultAt (tlen := tlen) (titems := titems) (tfault := tfault) (tbytes := tbytes) (twords := twords) (tnumbers := tnumbers) (q := q) hc43) (cwV 1 hts gX3_afterItem_X3_faultAt rfl rfl rfl hd3_faultAt ⟨Nat.le_of_ble_eq_true rfl, Nat.le_of_ble_eq_true rfl⟩) hP hD hS hA 4 [0, 1, 2, 3] [] [0, 1, 2, 3] (by decide +kernel) rfl rfl rfl rfl rfl rfl rfl hl.1 rfl rfl (Nat.le_of_ble_eq_true rfl) (zD_g DX3_afterItem 9 rfl) ⟨Nat.zero_le _, Nat.zero_le _⟩ (fun H locs hP hD hS => ?_)
    cases hf
    exact hret _ _ _ _ hP hD hS (zD_g DX3_afterItem 10 rfl)
abbrev dlX3_findFault : List (Nat × Instr × Nat) := [(0, .aload_n 0, 1), (1, .iconst (-1), 1), (2, .putfield 18, 3), (5, .aload_n 0, 1), (6, .iconst 0, 1), (7, .putfield 15, 3), (10, .aload_n 0, 1), (11, .iconst 0, 1), (12, .invokevirtual 36, 3), (15, .istore_n 1, 1), (16, .iconst 0, 1), (17, .istore_n 2, 1), (18, .iload_n 2, 1), (19, .bipush 25, 2), (21, .if_icmp .ge 39, 3), (24, .iload_n 1, 1), (25, .aload_n 0, 1), (26, .getfield 9, 3), (29, .if_icmp .ge 31, 3), (32, .aload_n 0, 1), (33, .getfield 18, 3), (36, .iconst (-1), 1), (37, .if_icmp .ne 23, 3), (40, .aload_n 0, 1), (41, .iload_n 2, 1), (42, .iload_n 1, 1), (43, .invokevirtual 40, 3), (46, .istore_n 1, 1), (47, .aload_n 0, 1), (48, .iload_n 2, 1), (49, .iconst 1, 1), (50, .iadd, 1), (51, .putfield 15, 3), (54, .iinc 2 1, 3), (57, .goto (-39), 3), (60, .aload_n 0, 1), (61, .getfield 18, 3), (64, .ireturn, 1)]
theorem DX3_findFault : zD cX3_findFault dlX3_findFault = true := by decide +kernel
set_option maxRecDepth 20000 in
theorem ggX3_findFault_X3_afterBlanks : GoodIn wsX3_findFault wsX3_afterBlanks := goodIn_r _ [8, 3, 9, 10, 11, 7, 12, 13, 14, 15, 16, 102, 103, 104, 105, 106, 107] (by decide +kernel) (by decide +kernel)
set_option maxRecDepth 20000 in
theorem gX3_findFault_X3_afterBlanks : GoodIn wsX3_findFault (wsV RX3 36 RX3 yX3_afterBlanks wsX3_afterBlanks) := goodIn_app (goodIn_of _ (by decide +kernel)) ggX3_findFault_X3_afterBlanks
set_option maxRecDepth 20000 in
theorem ggX3_findFault_X3_afterItem : GoodIn wsX3_findFault wsX3_afterItem := goodIn_r _ [20, 21, 22, 23, 24, 25, 7, 26, 27, 28, 29, 30, 3, 9, 10, 11, 12, 13, 14, 15, 16, 31, 32, 33, 34, 35, 36, 37, 38, 39, 40, 41, 42, 43, 44, 45, 46, 47, 48, 49, 50, 51, 52, 53, 54, 55, 56, 57, 58, 59, 60, 61, 62, 63, 64, 65, 66, 67, 68, 69, 70, 71, 72, 73, 74, 75, 76, 77, 78, 79, 80, 81, 82, 83, 84, 85, 86, 87, 88, 89, 90, 1, 4, 5, 6, 8, 91, 92, 93, 94, 95, 96, 97, 98, 99, 100, 101, 102, 103, 104, 105, 106, 107] (by decide +kernel) (by decide +kernel)
set_option maxRecDepth 20000 in
theorem gX3_findFault_X3_afterItem : GoodIn wsX3_findFault (wsV RX3 40 RX3 yX3_afterItem wsX3_afterItem) := goodIn_app (goodIn_of _ (by decide +kernel)) ggX3_findFault_X3_afterItem
theorem hd3_findFault : yX3_findFault.cls = RX3 ∧ yX3_findFault.cls ≠ "java/lang/invoke/MethodHandle" ∧ yX3_findFault.cls ≠ "java/lang/invoke/VarHandle" ∧ (parseMethodDescriptor yX3_findFault.desc).map (fun d => d.parameters.length) = some 0 := by decide +kernel
abbrev rm3_findFault : Room := { frames := 7, cells := 0, slots := 0, locals := 158 }
theorem in3_findFault_3 : ∀ w ∈ wsX30, w ∈ wsX3_findFault := fun w h => List.mem_cons_of_mem _ (List.mem_append_right _ h)
set_option maxHeartbeats 4000000 in
set_option maxRecDepth 100000 in
theorem c3_findFault {l : Launch} {D : va_G} {cI cZ cB : ClassId} {q : Nat → Nat} {sa sv : Nat → Nat} {sz : Nat} {tlen : Int32} {titems : Int32} {tfault : Int32} {tbytes : Nat → Int32} {twords : Nat → Int32} {tnumbers : Nat → Int32}  {r : Int32} {d_titems : Int32} {d_tfault : Int32} {d_twords : Nat → Int32} {d_tnumbers : Nat → Int32} (hf : f3_findFault tlen titems tfault tbytes twords tnumbers = some (r, d_titems, d_tfault, d_twords, d_tnumbers)) : Met l yX3_findFault wsX3_findFault rm3_findFault (zPmS D cI cZ cB sa sv [.ref (q 0)] sz (cTell cI cB q tlen titems tfault tbytes twords tnumbers)) (zQm D (some (.int r)) (cTell cI cB q tlen d_titems d_tfault tbytes d_twords d_tnumbers) (va_A (cTell cI cB q tlen titems tfault tbytes twords tnumbers) sz)) 0 0 (va_A (cTell cI cB q tlen titems tfault tbytes twords tnumbers) sz) := by
  unfold f3_findFault at hf
  refine z_mutIS RX3 (by decide +kernel) rfl rfl (Nat.le_of_ble_eq_true rfl) ?_
  intro p e s m args below meth c Q A ls hx hb hml hown hts hK hP hD hS hA hT hret hl
  have hl : lv_has ls 3 [(0, .ref (q 0))] := hl
  refine lv_aload_n hx hb (zD_g DX3_findFault 0 rfl) rfl (lv_at hl 0 rfl) ?_
  refine lv_iconst (v := (-1 : Int32)) hx hb (zD_g DX3_findFault 1 rfl) (by decide) ?_
  refine z_put (D := D) (ci := 2) (v := .int (-1 : Int32)) (ty := .int) (C := RX3) (T := TX3) (N := 6) (ws' := (cTell cI cB q tlen titems (-1 : Int32) tbytes twords tnumbers)) hx hb hts in3_findFault_3 tyX3 tyX3_ok nmX3 hown hK.1 hP hD hS 0 rfl rfl 2 (by decide) (hts _ (List.mem_of_getElem? (i := 1) rfl)) (fun _ h9 => h9) rfl (tyX3_ok 2 (by decide)) rfl rfl (Nat.le_of_ble_eq_true rfl) rfl (zD_g DX3_findFault 2 rfl) (fun H locs hP hD hS => ?_)
  refine lv_aload_n hx hb (zD_g DX3_findFault 3 rfl) rfl (lv_at hl 0 rfl) ?_
  refine lv_iconst (v := (0 : Int32)) hx hb (zD_g DX3_findFault 4 rfl) (by decide) ?_
  refine z_put (D := D) (ci := 2) (v := .int (0 : Int32)) (ty := .int) (C := RX3) (T := TX3) (N := 6) (ws' := (cTell cI cB q tlen (0 : Int32) (-1 : Int32) tbytes twords tnumbers)) hx hb hts in3_findFault_3 tyX3 tyX3_ok nmX3 hown hK.1 hP hD hS 0 rfl rfl 1 (by decide) (hts _ (List.mem_of_getElem? (i := 2) rfl)) (fun _ h9 => h9) rfl (tyX3_ok 1 (by decide)) rfl rfl (Nat.le_of_ble_eq_true rfl) rfl (zD_g DX3_findFault 5 rfl) (fun H locs hP hD hS => ?_)
  refine lv_aload_n hx hb (zD_g DX3_findFault 6 rfl) rfl (lv_at hl 0 rfl) ?_
  refine lv_iconst (v := (0 : Int32)) hx hb (zD_g DX3_findFault 7 rfl) (by decide) ?_
  obtain ⟨r1, hc2, hf⟩ := zb1_s hf
  refine z_Vp (As := [.int (0 : Int32)]) (rest := []) ⟨hx, hb, hml, hown, hts⟩ hK (c3_afterBlanks (tlen := tlen) (titems := (0 : Int32)) (tfault := (-1 : Int32)) (tbytes := tbytes) (twords := twords) (tnumbers := tnumbers) (q := q) hc2) (cwV 1 hts gX3_findFault_X3_afterBlanks rfl rfl rfl hd3_afterBlanks ⟨Nat.le_of_ble_eq_true rfl, Nat.le_of_ble_eq_true rfl⟩) hP rfl rfl rfl rfl hl.1 rfl rfl (Nat.le_of_ble_eq_true rfl) (zD_g DX3_findFault 8 rfl) ⟨Nat.zero_le _, Nat.zero_le _⟩ ?_
  refine lv_istore_n (lv' := [(1, .int r1), (0, .ref (q 0))]) hx hb (zD_g DX3_findFault 9 rfl) rfl hl (by decide) rfl (fun ls hl => ?_)
  refine lv_iconst (v := (0 : Int32)) hx hb (zD_g DX3_findFault 10 rfl) (by decide) ?_
  refine lv_istore_n (lv' := [(2, .int (0 : Int32)), (1, .int r1), (0, .ref (q 0))]) hx hb (zD_g DX3_findFault 11 rfl) rfl hl (by decide) rfl (fun ls hl => ?_)
  have hL9 : ∀ (k9 : (Int32) → (Int32) → (Nat → Int32) → (Nat → Int32) → Option (Int32 × Int32 × Int32 × (Nat → Int32) × (Nat → Int32))) (hk9 : ∀ (titems_19 : Int32) (tfault_20 : Int32) (twords_21 : Nat → Int32) (tnumbers_22 : Nat → Int32), k9 titems_19 tfault_20 twords_21 tnumbers_22 = some (r, d_titems, d_tfault, d_twords, d_tnumbers) → ∀ (H : Heap) (locs : List Loc), va_P D vwCl (cTell cI cB q tlen titems_19 tfault_20 tbytes twords_21 tnumbers_22) H → va_D A (cTell cI cB q tlen titems_19 tfault_20 tbytes twords_21 tnumbers_22) → va_S A s.heap H locs → ∀ (ls : Array Slot), lv_has ls 3 [(0, .ref (q 0))] → W p l e rm3_findFault s m args below meth c H locs 0 0 Q (F0 m 60 ls [])) (n9 : Nat) (y3 : Int32) (y4 : Int32) (titems_5 : Int32) (tfault_6 : Int32) (twords_7 : Nat → Int32) (tnumbers_8 : Nat → Int32), L3_findFault_18 k9 tlen tbytes n9 y3 y4 titems_5 tfault_6 twords_7 tnumbers_8 = some (r, d_titems, d_tfault, d_twords, d_tnumbers) → ∀ (H : Heap) (locs : List Loc), va_P D vwCl (cTell cI cB q tlen titems_5 tfault_6 tbytes twords_7 tnumbers_8) H → va_D A (cTell cI cB q tlen titems_5 tfault_6 tbytes twords_7 tnumbers_8) → va_S A s.heap H locs → ∀ (ls : Array Slot), lv_has ls 3 [(0, .ref (q 0)), (1, .int y3), (2, .int y4)] → W p l e rm3_findFault s m args below meth c H locs 0 0 Q (F0 m 18 ls []) := by
    intro k9 hk9 n9
    induction n9 with
    | zero =>
      intro y3 y4 titems_5 tfault_6 twords_7 tnumbers_8 hf
      cases hf
    | succ n9 ih9 =>
      intro y3 y4 titems_5 tfault_6 twords_7 tnumbers_8 hf H locs hP hD hS ls hl
      rw [L3_findFault_18] at hf
      refine lv_iload_n hx hb (zD_g DX3_findFault 12 rfl) rfl (lv_at hl 2 rfl) ?_
      refine lv_bipush (v := (25 : Int32)) hx hb (zD_g DX3_findFault 13 rfl) (by decide) ?_
      refine lv_icmp_ge (tgt := 60) hx hb (zD_g DX3_findFault 14 rfl) (by decide) (fun c10 => ?_) (fun c10 => ?_)
      · replace hf := z_t c10 hf
        exact hk9 _ _ _ _ hf _ _ hP hD hS ls (lv_sub hl [0] rfl)
      · replace hf := z_f c10 hf
        refine lv_iload_n hx hb (zD_g DX3_findFault 15 rfl) rfl (lv_at hl 1 rfl) ?_
        refine lv_aload_n hx hb (zD_g DX3_findFault 16 rfl) rfl (lv_at hl 0 rfl) ?_
        refine va_get (D := D) (ci := 2) (v := .int tlen) (C := RX3) (T := TX3) (N := 6) hx hb hts in3_findFault_3 hown hK.1 hP 0 rfl rfl 0 (by decide) (hts _ (List.mem_of_getElem? (i := 3) rfl)) (fun _ h9 => h9) rfl (zD_g DX3_findFault 17 rfl) ?_
        refine lv_icmp_ge (tgt := 60) hx hb (zD_g DX3_findFault 18 rfl) (by decide) (fun c11 => ?_) (fun c11 => ?_)
        · replace hf := z_t c11 hf
          exact hk9 _ _ _ _ hf _ _ hP hD hS ls (lv_sub hl [0] rfl)
        · replace hf := z_f c11 hf
          refine lv_aload_n hx hb (zD_g DX3_findFault 19 rfl) rfl (lv_at hl 0 rfl) ?_
          refine va_get (D := D) (ci := 2) (v := .int tfault_6) (C := RX3) (T := TX3) (N := 6) hx hb hts in3_findFault_3 hown hK.1 hP 0 rfl rfl 2 (by decide) (hts _ (List.mem_of_getElem? (i := 1) rfl)) (fun _ h9 => h9) rfl (zD_g DX3_findFault 20 rfl) ?_
          refine lv_iconst (v := (-1 : Int32)) hx hb (zD_g DX3_findFault 21 rfl) (by decide) ?_
          refine lv_icmp_ne (tgt := 60) hx hb (zD_g DX3_findFault 22 rfl) (by decide) (fun c12 => ?_) (fun c12 => ?_)
          · replace hf := z_f c12 hf
            exact hk9 _ _ _ _ hf _ _ hP hD hS ls (lv_sub hl [0] rfl)
          · replace hf := z_t c12 hf
            refine lv_aload_n hx hb (zD_g DX3_findFault 23 rfl) rfl (lv_at hl 0 rfl) ?_
            refine lv_iload_n hx hb (zD_g DX3_findFault 24 rfl) rfl (lv_at hl 2 rfl) ?_
            refine lv_iload_n hx hb (zD_g DX3_findFault 25 rfl) rfl (lv_at hl 1 rfl) ?_
            obtain ⟨r13, tfault_14, twords_15, tnumbers_16, hc17, hf⟩ := zb4_s hf
            refine z_VmS (As := [.int y4, .int y3]) (rest := []) (ws' := (cTell cI cB q tlen titems_5 tfault_14 tbytes twords_15 tnumbers_16)) ⟨hx, hb, hml, hown, hts⟩ hK hT (c3_afterItem (tlen := tlen) (titems := titems_5) (tfault := tfault_6) (tbytes := tbytes) (twords := twords_7) (tnumbers := tnumbers_8) (q := q) (sa := sa) (sv := sv) hc17) (cwV 2 hts gX3_findFault_X3_afterItem rfl rfl rfl hd3_afterItem ⟨Nat.le_of_ble_eq_true rfl, Nat.le_of_ble_eq_true rfl⟩) hP hD hS hA 4 [0, 1, 2, 3] [] [0, 1, 2, 3] (by decide +kernel) rfl rfl rfl rfl rfl rfl rfl hl.1 rfl rfl (Nat.le_of_ble_eq_true rfl) (zD_g DX3_findFault 26 rfl) ⟨Nat.zero_le _, Nat.zero_le _⟩ (fun H locs hP hD hS => ?_)
            refine lv_istore_n (lv' := [(1, .int r13), (0, .ref (q 0)), (2, .int y4)]) hx hb (zD_g DX3_findFault 27 rfl) rfl hl (by decide) rfl (fun ls hl => ?_)
            refine lv_aload_n hx hb (zD_g DX3_findFault 28 rfl) rfl (lv_at hl 1 rfl) ?_
            refine lv_iload_n hx hb (zD_g DX3_findFault 29 rfl) rfl (lv_at hl 2 rfl) ?_
            refine lv_iconst (v := (1 : Int32)) hx hb (zD_g DX3_findFault 30 rfl) (by decide) ?_
            refine lv_iadd hx hb (zD_g DX3_findFault 31 rfl) ?_
            refine lv_topi (fun x18 ex18 => ?_)
            replace hf := zl_s hf x18 ex18
            refine z_put (D := D) (ci := 2) (v := .int x18) (ty := .int) (C := RX3) (T := TX3) (N := 6) (ws' := (cTell cI cB q tlen x18 tfault_14 tbytes twords_15 tnumbers_16)) hx hb hts in3_findFault_3 tyX3 tyX3_ok nmX3 hown hK.1 hP hD hS 0 rfl rfl 1 (by decide) (hts _ (List.mem_of_getElem? (i := 2) rfl)) (fun _ h9 => h9) rfl (tyX3_ok 1 (by decide)) rfl rfl (Nat.le_of_ble_eq_true rfl) rfl (zD_g DX3_findFault 32 rfl) (fun H locs hP hD hS => ?_)
            refine lv_iinc (v := y4 + 1) (lv' := [(2, .int (y4 + 1)), (1, .int r13), (0, .ref (q 0))]) (k := 2) hx hb (zD_g DX3_findFault 33 rfl) hl rfl rfl (by decide) rfl (fun ls hl => ?_)
            refine lv_goto (tgt := 18) hx hb (zD_g DX3_findFault 34 rfl) (by decide) ?_
            exact ih9 _ _ _ _ _ _ hf _ _ hP hD hS ls (lv_sub hl [2, 1, 0] rfl)
  refine hL9 _ (fun titems_19 tfault_20 twords_21 tnumbers_22 hf H locs hP hD hS ls hl => ?_) _ _ _ _ _ _ _ hf _ _ hP hD hS ls (lv_sub hl [2, 1, 0] rfl)
  refine lv_aload_n hx hb (zD_g DX3_findFault 35 rfl) rfl (lv_at hl 0 rfl) ?_
  refine va_get (D := D) (ci := 2) (v := .int tfault_20) (C := RX3) (T := TX3) (N := 6) hx hb hts in3_findFault_3 hown hK.1 hP 0 rfl rfl 2 (by decide) (hts _ (List.mem_of_getElem? (i := 1) rfl)) (fun _ h9 => h9) rfl (zD_g DX3_findFault 36 rfl) ?_
  cases hf
  exact hret _ _ _ _ hP hD hS (zD_g DX3_findFault 37 rfl)
