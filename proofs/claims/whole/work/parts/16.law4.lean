/-! ===== the law: its loop, its start ===== -/
abbrev dlLh : List (Nat × Instr × Nat) := [(0, .new 7, 3), (3, .dup, 1), (4, .invokespecial 9, 3), (7, .astore_n 1, 1), (8, .new 10, 3), (11, .dup, 1), (12, .invokespecial 12, 3), (15, .astore_n 2, 1), (16, .iconst 0, 1), (17, .istore_n 3, 1), (18, .iload_n 3, 1), (19, .aload_n 0, 1), (20, .arraylength, 1), (21, .iconst 5, 1), (22, .isub, 1), (23, .if_icmp .gt 1102, 3), (26, .aload_n 0, 1), (27, .iload_n 3, 1), (28, .iaload, 1), (29, .bipush 31, 2), (31, .iand, 1), (32, .tableswitch 1087 0 28 #[132, 185, 238, 271, 294, 337, 380, 403, 416, 429, 462, 475, 508, 541, 584, 617, 676, 719, 762, 795, 828, 861, 914, 957, 981, 1004, 1027, 1050, 1073], 132), (1119, .iinc 3 5, 3), (1122, .goto (-1104), 3), (1125, .iconst 1, 1), (1126, .ireturn, 1)]
theorem DLh : zD code dlLh = true := by decide +kernel
set_option maxHeartbeats 4000000 in
set_option maxRecDepth 100000 in
theorem law_loop {p : Program} {l : Launch} {e : Env} {s : State} {m : MethodId} {below : List Frame} {meth : Method} {c : Code} {b L : Nat} {xs : Nat → Int32} {D : va_G} {cI cZ cB : ClassId} {sa sv : Nat → Nat} {q qw qt qi qj qb qx qn : Nat → Nat} (hL : L ≤ 320) (C0 : lw_At p s m meth c b L xs) (hK : zK D cI cZ cB s) (hT : zStr sa sv (fun q : Nat => s.heap.size ≤ q) s s.heap) {cells slots : Nat} (hcell : cells ≤ 600000 ∧ slots ≤ 7302250) : ∀ (n k : Nat), n + k = 65 → ∀ (H : Heap) (locs : List Loc) (ls : Array Slot) (w_things w_gifts w_days : Int32) (w_size w_weight w_sound w_harm w_in_ w_kind w_owner w_empty w_room w_told w_gate w_ear w_scale w_lost w_watch : Nat → Int32) (w_moments : Int32) (w_kept : Nat → Int32) (t_things t_gifts t_days : Int32) (t_size t_weight t_sound t_harm t_in_ t_kind t_owner t_empty t_room t_told t_gate t_ear t_scale t_lost t_watch : Nat → Int32) (t_moments : Int32) (t_kept : Nat → Int32) (i_things i_gifts i_days : Int32) (i_size i_weight i_sound i_harm i_in_ i_kind i_owner i_empty i_room i_told i_gate i_ear i_scale i_lost i_watch : Nat → Int32) (i_moments : Int32) (i_kept : Nat → Int32) (j_things j_gifts j_days : Int32) (j_size j_weight j_sound j_harm j_in_ j_kind j_owner j_empty j_room j_told j_gate j_ear j_scale j_lost j_watch : Nat → Int32) (j_moments : Int32) (j_kept : Nat → Int32) (bcount bleast bneigh bdrawn : Int32) (bgifts bweights border bbest : Nat → Int32) (tlen titems tfault : Int32) (tbytes twords tnumbers : Nat → Int32) (fa fb : Int64) (mat mstart mtoken mvalue many : Int32) (book images mk aside rf text items drawn row best : Nat → Int32) (nt ng d nm Lt : Nat) (hP : va_P D vwCl (zcat [(cHG q (qw 0) (qt 0) (qi 0) (qj 0) (qb 0) (qx 0) (mk 0) (mk 1) fa fb (rf 0) (rf 1) (rf 2)), (cWar cI qw w_things w_gifts w_days w_size w_weight w_sound w_harm w_in_ w_kind w_owner w_empty w_room w_told w_gate w_ear w_scale w_lost w_watch w_moments w_kept), (cWar cI qt t_things t_gifts t_days t_size t_weight t_sound t_harm t_in_ t_kind t_owner t_empty t_room t_told t_gate t_ear t_scale t_lost t_watch t_moments t_kept), (cWar cI qi i_things i_gifts i_days i_size i_weight i_sound i_harm i_in_ i_kind i_owner i_empty i_room i_told i_gate i_ear i_scale i_lost i_watch i_moments i_kept), (cWar cI qj j_things j_gifts j_days j_size j_weight j_sound j_harm j_in_ j_kind j_owner j_empty j_room j_told j_gate j_ear j_scale j_lost j_watch j_moments j_kept), (cBridge cI qb bcount bleast bneigh bdrawn bgifts bweights border bbest), (cTell cI cB qx tlen titems tfault tbytes twords tnumbers), (cMod cI cZ qn 0 fa fb tlen mat mstart mtoken mvalue many book images mk aside rf text items drawn row best)]) H) (hD : va_D (fun q : Nat => s.heap.size ≤ q) (zcat [(cHG q (qw 0) (qt 0) (qi 0) (qj 0) (qb 0) (qx 0) (mk 0) (mk 1) fa fb (rf 0) (rf 1) (rf 2)), (cWar cI qw w_things w_gifts w_days w_size w_weight w_sound w_harm w_in_ w_kind w_owner w_empty w_room w_told w_gate w_ear w_scale w_lost w_watch w_moments w_kept), (cWar cI qt t_things t_gifts t_days t_size t_weight t_sound t_harm t_in_ t_kind t_owner t_empty t_room t_told t_gate t_ear t_scale t_lost t_watch t_moments t_kept), (cWar cI qi i_things i_gifts i_days i_size i_weight i_sound i_harm i_in_ i_kind i_owner i_empty i_room i_told i_gate i_ear i_scale i_lost i_watch i_moments i_kept), (cWar cI qj j_things j_gifts j_days j_size j_weight j_sound j_harm j_in_ j_kind j_owner j_empty j_room j_told j_gate j_ear j_scale j_lost j_watch j_moments j_kept), (cBridge cI qb bcount bleast bneigh bdrawn bgifts bweights border bbest), (cTell cI cB qx tlen titems tfault tbytes twords tnumbers), (cMod cI cZ qn 0 fa fb tlen mat mstart mtoken mvalue many book images mk aside rf text items drawn row best)])) (hB : Bk (k) book nt ng d nm) (hR : Rw w_things w_gifts w_days w_size w_weight w_sound w_harm w_in_ w_kind w_owner w_empty w_room w_told w_gate w_ear w_scale w_lost w_watch w_moments w_kept book nt ng nm) (hi : Im (k) (mk 0) i_things i_gifts i_days i_size i_weight i_sound i_harm i_in_ i_kind i_owner i_empty i_room i_told i_gate i_ear i_scale i_lost i_watch i_moments i_kept images) (hj : Im (k) (mk 1) j_things j_gifts j_days j_size j_weight j_sound j_harm j_in_ j_kind j_owner j_empty j_room j_told j_gate j_ear j_scale j_lost j_watch j_moments j_kept (fun k => images (230 + k))) (htx : Tx tlen tbytes tlen text Lt), va_S (fun q : Nat => s.heap.size ≤ q) s.heap H locs → lv_has ls 4 [(3, .int (nI (5 * k))), (1, .ref (q 0)), (2, .ref (qn 0)), (0, .ref b)] → W p l e room_1 s m #[Value.ref b] below meth c H locs cells slots (lw_Z below #[Value.ref b] s) (F0 m 18 ls []) := by
  obtain ⟨hx, hb, hr, hml, hown, hts, hX, hbl, hlocks, hgv⟩ := id C0
  have hbA : ¬ (fun q : Nat => s.heap.size ≤ q) b := Nat.not_le.mpr hbl
  intro n
  induction n with
  | zero =>
    intro k hnk H locs ls w_things w_gifts w_days w_size w_weight w_sound w_harm w_in_ w_kind w_owner w_empty w_room w_told w_gate w_ear w_scale w_lost w_watch w_moments w_kept t_things t_gifts t_days t_size t_weight t_sound t_harm t_in_ t_kind t_owner t_empty t_room t_told t_gate t_ear t_scale t_lost t_watch t_moments t_kept i_things i_gifts i_days i_size i_weight i_sound i_harm i_in_ i_kind i_owner i_empty i_room i_told i_gate i_ear i_scale i_lost i_watch i_moments i_kept j_things j_gifts j_days j_size j_weight j_sound j_harm j_in_ j_kind j_owner j_empty j_room j_told j_gate j_ear j_scale j_lost j_watch j_moments j_kept bcount bleast bneigh bdrawn bgifts bweights border bbest tlen titems tfault tbytes twords tnumbers fa fb mat mstart mtoken mvalue many book images mk aside rf text items drawn row best nt ng d nm Lt hP hD hB hR hi hj htx hS hl
    refine lv_iload_n hx hb (zD_g DLh 10 rfl) rfl (lv_at hl 0 rfl) ?_
    refine lv_aload_n hx hb (zD_g DLh 11 rfl) rfl (lv_at hl 3 rfl) ?_
    refine va_slen hx hb hX hbl hbA hS (zD_g DLh 12 rfl) ?_
    refine lv_iconst (v := nI 5) hx hb (zD_g DLh 13 rfl) (by decide) ?_
    refine lv_isub hx hb (zD_g DLh 14 rfl) ?_
    have hsub : (Int32.ofNat L - nI 5).toInt = (L : Int) - 5 := pk_sub_toInt (a := L) (b := 5) (by omega) (by decide)
    have h5k : 5 * k ≤ 325 := by omega
    have hi5 : (nI (5 * k)).toInt = ((5 * k : Nat) : Int) := nI_toInt (by omega)
    refine lv_icmp_gt (tgt := 1125) hx hb (zD_g DLh 15 rfl) (by decide) (fun c1 => ?_) (fun c1 => ?_)
    · refine lv_iconst (v := 1) hx hb (zD_g DLh 24 rfl) (by decide) ?_
      refine va_forget (fun q hq => hS.2.2 q hq) ?_
      refine W.widen (k := 600000) (n := 7302250) hcell.1 hcell.2 ?_
      exact lw_ret hx hb hr hlocks (zD_g DLh 25 rfl)
    · exact absurd (z_ltI.mpr (by rw [hsub, hi5]; omega)) c1
  | succ n ih =>
    intro k hnk H locs ls w_things w_gifts w_days w_size w_weight w_sound w_harm w_in_ w_kind w_owner w_empty w_room w_told w_gate w_ear w_scale w_lost w_watch w_moments w_kept t_things t_gifts t_days t_size t_weight t_sound t_harm t_in_ t_kind t_owner t_empty t_room t_told t_gate t_ear t_scale t_lost t_watch t_moments t_kept i_things i_gifts i_days i_size i_weight i_sound i_harm i_in_ i_kind i_owner i_empty i_room i_told i_gate i_ear i_scale i_lost i_watch i_moments i_kept j_things j_gifts j_days j_size j_weight j_sound j_harm j_in_ j_kind j_owner j_empty j_room j_told j_gate j_ear j_scale j_lost j_watch j_moments j_kept bcount bleast bneigh bdrawn bgifts bweights border bbest tlen titems tfault tbytes twords tnumbers fa fb mat mstart mtoken mvalue many book images mk aside rf text items drawn row best nt ng d nm Lt hP hD hB hR hi hj htx hS hl
    refine lv_iload_n hx hb (zD_g DLh 10 rfl) rfl (lv_at hl 0 rfl) ?_
    refine lv_aload_n hx hb (zD_g DLh 11 rfl) rfl (lv_at hl 3 rfl) ?_
    refine va_slen hx hb hX hbl hbA hS (zD_g DLh 12 rfl) ?_
    refine lv_iconst (v := nI 5) hx hb (zD_g DLh 13 rfl) (by decide) ?_
    refine lv_isub hx hb (zD_g DLh 14 rfl) ?_
    have hsub : (Int32.ofNat L - nI 5).toInt = (L : Int) - 5 := pk_sub_toInt (a := L) (b := 5) (by omega) (by decide)
    have h5k : 5 * k ≤ 325 := by omega
    have hi5 : (nI (5 * k)).toInt = ((5 * k : Nat) : Int) := nI_toInt (by omega)
    refine lv_icmp_gt (tgt := 1125) hx hb (zD_g DLh 15 rfl) (by decide) (fun c1 => ?_) (fun c1 => ?_)
    · refine lv_iconst (v := 1) hx hb (zD_g DLh 24 rfl) (by decide) ?_
      refine va_forget (fun q hq => hS.2.2 q hq) ?_
      refine W.widen (k := 600000) (n := 7302250) hcell.1 hcell.2 ?_
      exact lw_ret hx hb hr hlocks (zD_g DLh 25 rfl)
    · have hk : 5 * k + 5 ≤ L := by
        apply Classical.byContradiction
        intro hh
        exact c1 (z_ltI.mpr (by rw [hsub, hi5]; omega))
      refine lv_aload_n hx hb (zD_g DLh 16 rfl) rfl (lv_at hl 3 rfl) ?_
      refine lv_iload_n hx hb (zD_g DLh 17 rfl) rfl (lv_at hl 0 rfl) ?_
      refine va_sld hx hb hX hbl hbA hS (vp_in_nI (show 5 * k < L by omega) (by omega)) (zD_g DLh 18 rfl) ?_
      refine lv_bipush (v := (31 : Int32)) hx hb (zD_g DLh 19 rfl) (by decide) ?_
      refine lv_iand hx hb (zD_g DLh 20 rfl) ?_
      have nxt : ∀ (H : Heap) (locs : List Loc) (w_things w_gifts w_days : Int32) (w_size w_weight w_sound w_harm w_in_ w_kind w_owner w_empty w_room w_told w_gate w_ear w_scale w_lost w_watch : Nat → Int32) (w_moments : Int32) (w_kept : Nat → Int32) (t_things t_gifts t_days : Int32) (t_size t_weight t_sound t_harm t_in_ t_kind t_owner t_empty t_room t_told t_gate t_ear t_scale t_lost t_watch : Nat → Int32) (t_moments : Int32) (t_kept : Nat → Int32) (i_things i_gifts i_days : Int32) (i_size i_weight i_sound i_harm i_in_ i_kind i_owner i_empty i_room i_told i_gate i_ear i_scale i_lost i_watch : Nat → Int32) (i_moments : Int32) (i_kept : Nat → Int32) (j_things j_gifts j_days : Int32) (j_size j_weight j_sound j_harm j_in_ j_kind j_owner j_empty j_room j_told j_gate j_ear j_scale j_lost j_watch : Nat → Int32) (j_moments : Int32) (j_kept : Nat → Int32) (bcount bleast bneigh bdrawn : Int32) (bgifts bweights border bbest : Nat → Int32) (tlen titems tfault : Int32) (tbytes twords tnumbers : Nat → Int32) (fa fb : Int64) (mat mstart mtoken mvalue many : Int32) (book images mk aside rf text items drawn row best : Nat → Int32) (nt ng d nm Lt : Nat) (hP : va_P D vwCl (zcat [(cHG q (qw 0) (qt 0) (qi 0) (qj 0) (qb 0) (qx 0) (mk 0) (mk 1) fa fb (rf 0) (rf 1) (rf 2)), (cWar cI qw w_things w_gifts w_days w_size w_weight w_sound w_harm w_in_ w_kind w_owner w_empty w_room w_told w_gate w_ear w_scale w_lost w_watch w_moments w_kept), (cWar cI qt t_things t_gifts t_days t_size t_weight t_sound t_harm t_in_ t_kind t_owner t_empty t_room t_told t_gate t_ear t_scale t_lost t_watch t_moments t_kept), (cWar cI qi i_things i_gifts i_days i_size i_weight i_sound i_harm i_in_ i_kind i_owner i_empty i_room i_told i_gate i_ear i_scale i_lost i_watch i_moments i_kept), (cWar cI qj j_things j_gifts j_days j_size j_weight j_sound j_harm j_in_ j_kind j_owner j_empty j_room j_told j_gate j_ear j_scale j_lost j_watch j_moments j_kept), (cBridge cI qb bcount bleast bneigh bdrawn bgifts bweights border bbest), (cTell cI cB qx tlen titems tfault tbytes twords tnumbers), (cMod cI cZ qn 0 fa fb tlen mat mstart mtoken mvalue many book images mk aside rf text items drawn row best)]) H) (hD : va_D (fun q : Nat => s.heap.size ≤ q) (zcat [(cHG q (qw 0) (qt 0) (qi 0) (qj 0) (qb 0) (qx 0) (mk 0) (mk 1) fa fb (rf 0) (rf 1) (rf 2)), (cWar cI qw w_things w_gifts w_days w_size w_weight w_sound w_harm w_in_ w_kind w_owner w_empty w_room w_told w_gate w_ear w_scale w_lost w_watch w_moments w_kept), (cWar cI qt t_things t_gifts t_days t_size t_weight t_sound t_harm t_in_ t_kind t_owner t_empty t_room t_told t_gate t_ear t_scale t_lost t_watch t_moments t_kept), (cWar cI qi i_things i_gifts i_days i_size i_weight i_sound i_harm i_in_ i_kind i_owner i_empty i_room i_told i_gate i_ear i_scale i_lost i_watch i_moments i_kept), (cWar cI qj j_things j_gifts j_days j_size j_weight j_sound j_harm j_in_ j_kind j_owner j_empty j_room j_told j_gate j_ear j_scale j_lost j_watch j_moments j_kept), (cBridge cI qb bcount bleast bneigh bdrawn bgifts bweights border bbest), (cTell cI cB qx tlen titems tfault tbytes twords tnumbers), (cMod cI cZ qn 0 fa fb tlen mat mstart mtoken mvalue many book images mk aside rf text items drawn row best)])) (hB : Bk (k + 1) book nt ng d nm) (hR : Rw w_things w_gifts w_days w_size w_weight w_sound w_harm w_in_ w_kind w_owner w_empty w_room w_told w_gate w_ear w_scale w_lost w_watch w_moments w_kept book nt ng nm) (hi : Im (k + 1) (mk 0) i_things i_gifts i_days i_size i_weight i_sound i_harm i_in_ i_kind i_owner i_empty i_room i_told i_gate i_ear i_scale i_lost i_watch i_moments i_kept images) (hj : Im (k + 1) (mk 1) j_things j_gifts j_days j_size j_weight j_sound j_harm j_in_ j_kind j_owner j_empty j_room j_told j_gate j_ear j_scale j_lost j_watch j_moments j_kept (fun k => images (230 + k))) (htx : Tx tlen tbytes tlen text Lt), va_S (fun q : Nat => s.heap.size ≤ q) s.heap H locs → W p l e room_1 s m #[Value.ref b] below meth c H locs cells slots (lw_Z below #[Value.ref b] s) (F0 m 1119 ls []) := by
        intro H locs w_things w_gifts w_days w_size w_weight w_sound w_harm w_in_ w_kind w_owner w_empty w_room w_told w_gate w_ear w_scale w_lost w_watch w_moments w_kept t_things t_gifts t_days t_size t_weight t_sound t_harm t_in_ t_kind t_owner t_empty t_room t_told t_gate t_ear t_scale t_lost t_watch t_moments t_kept i_things i_gifts i_days i_size i_weight i_sound i_harm i_in_ i_kind i_owner i_empty i_room i_told i_gate i_ear i_scale i_lost i_watch i_moments i_kept j_things j_gifts j_days j_size j_weight j_sound j_harm j_in_ j_kind j_owner j_empty j_room j_told j_gate j_ear j_scale j_lost j_watch j_moments j_kept bcount bleast bneigh bdrawn bgifts bweights border bbest tlen titems tfault tbytes twords tnumbers fa fb mat mstart mtoken mvalue many book images mk aside rf text items drawn row best nt ng d nm Lt hP hD hB hR hi hj htx hS
        refine lv_iinc (v := nI (5 * (k + 1))) (lv' := [(3, .int (nI (5 * (k + 1)))), (1, .ref (q 0)), (2, .ref (qn 0)), (0, .ref b)]) hx hb (zD_g DLh 22 rfl) hl (k := 0) rfl (nI_add (5 * k) 5) (by decide) rfl (fun ls hl => ?_)
        refine lv_goto (tgt := 18) hx hb (zD_g DLh 23 rfl) (by decide) ?_
        exact ih (k + 1) (by omega) H locs ls w_things w_gifts w_days w_size w_weight w_sound w_harm w_in_ w_kind w_owner w_empty w_room w_told w_gate w_ear w_scale w_lost w_watch w_moments w_kept t_things t_gifts t_days t_size t_weight t_sound t_harm t_in_ t_kind t_owner t_empty t_room t_told t_gate t_ear t_scale t_lost t_watch t_moments t_kept i_things i_gifts i_days i_size i_weight i_sound i_harm i_in_ i_kind i_owner i_empty i_room i_told i_gate i_ear i_scale i_lost i_watch i_moments i_kept j_things j_gifts j_days j_size j_weight j_sound j_harm j_in_ j_kind j_owner j_empty j_room j_told j_gate j_ear j_scale j_lost j_watch j_moments j_kept bcount bleast bneigh bdrawn bgifts bweights border bbest tlen titems tfault tbytes twords tnumbers fa fb mat mstart mtoken mvalue many book images mk aside rf text items drawn row best nt ng d nm Lt hP hD hB hR hi hj htx hS hl
      obtain ⟨r, hr32, er⟩ : ∃ r, r < 32 ∧ xs (nI (5 * k)).toNatClampNeg &&& (31 : Int32) = nI r := ⟨_, Nat.mod_lt _ (by decide), pk_and _ 5 rfl⟩
      rw [er]
      have r29 : r = 0 ∨ r = 1 ∨ r = 2 ∨ r = 3 ∨ r = 4 ∨ r = 5 ∨ r = 6 ∨ r = 7 ∨ r = 8 ∨ r = 9 ∨ r = 10 ∨ r = 11 ∨ r = 12 ∨ r = 13 ∨ r = 14 ∨ r = 15 ∨ r = 16 ∨ r = 17 ∨ r = 18 ∨ r = 19 ∨ r = 20 ∨ r = 21 ∨ r = 22 ∨ r = 23 ∨ r = 24 ∨ r = 25 ∨ r = 26 ∨ r = 27 ∨ r = 28 ∨ 29 ≤ r := by omega
      rcases r29 with rfl | rfl | rfl | rfl | rfl | rfl | rfl | rfl | rfl | rfl | rfl | rfl | rfl | rfl | rfl | rfl | rfl | rfl | rfl | rfl | rfl | rfl | rfl | rfl | rfl | rfl | rfl | rfl | rfl | r29
      · refine lv_tableIn (off := 132) (tgt := 164) hx hb (zD_g DLh 21 rfl) (by decide) (by decide) rfl (by decide) ?_
        exact law_c0 hL C0 hK hT hk hP hD hB hR hi hj htx hS hl hcell nxt
      · refine lv_tableIn (off := 185) (tgt := 217) hx hb (zD_g DLh 21 rfl) (by decide) (by decide) rfl (by decide) ?_
        exact law_c1 hL C0 hK hT hk hP hD hB hR hi hj htx hS hl hcell nxt
      · refine lv_tableIn (off := 238) (tgt := 270) hx hb (zD_g DLh 21 rfl) (by decide) (by decide) rfl (by decide) ?_
        exact law_c2 hL C0 hK hT hk hP hD hB hR hi hj htx hS hl hcell nxt
      · refine lv_tableIn (off := 271) (tgt := 303) hx hb (zD_g DLh 21 rfl) (by decide) (by decide) rfl (by decide) ?_
        exact law_c3 hL C0 hK hT hk hP hD hB hR hi hj htx hS hl hcell nxt
      · refine lv_tableIn (off := 294) (tgt := 326) hx hb (zD_g DLh 21 rfl) (by decide) (by decide) rfl (by decide) ?_
        exact law_c4 hL C0 hK hT hk hP hD hB hR hi hj htx hS hl hcell nxt
      · refine lv_tableIn (off := 337) (tgt := 369) hx hb (zD_g DLh 21 rfl) (by decide) (by decide) rfl (by decide) ?_
        exact law_c5 hL C0 hK hT hk hP hD hB hR hi hj htx hS hl hcell nxt
      · refine lv_tableIn (off := 380) (tgt := 412) hx hb (zD_g DLh 21 rfl) (by decide) (by decide) rfl (by decide) ?_
        exact law_c6 hL C0 hK hT hk hP hD hB hR hi hj htx hS hl hcell nxt
      · refine lv_tableIn (off := 403) (tgt := 435) hx hb (zD_g DLh 21 rfl) (by decide) (by decide) rfl (by decide) ?_
        exact law_c7 hL C0 hK hT hk hP hD hB hR hi hj htx hS hl hcell nxt
      · refine lv_tableIn (off := 416) (tgt := 448) hx hb (zD_g DLh 21 rfl) (by decide) (by decide) rfl (by decide) ?_
        exact law_c8 hL C0 hK hT hk hP hD hB hR hi hj htx hS hl hcell nxt
      · refine lv_tableIn (off := 429) (tgt := 461) hx hb (zD_g DLh 21 rfl) (by decide) (by decide) rfl (by decide) ?_
        exact law_c9 hL C0 hK hT hk hP hD hB hR hi hj htx hS hl hcell nxt
      · refine lv_tableIn (off := 462) (tgt := 494) hx hb (zD_g DLh 21 rfl) (by decide) (by decide) rfl (by decide) ?_
        exact law_c10 hL C0 hK hT hk hP hD hB hR hi hj htx hS hl hcell nxt
      · refine lv_tableIn (off := 475) (tgt := 507) hx hb (zD_g DLh 21 rfl) (by decide) (by decide) rfl (by decide) ?_
        exact law_c11 hL C0 hK hT hk hP hD hB hR hi hj htx hS hl hcell nxt
      · refine lv_tableIn (off := 508) (tgt := 540) hx hb (zD_g DLh 21 rfl) (by decide) (by decide) rfl (by decide) ?_
        exact law_c12 hL C0 hK hT hk hP hD hB hR hi hj htx hS hl hcell nxt
      · refine lv_tableIn (off := 541) (tgt := 573) hx hb (zD_g DLh 21 rfl) (by decide) (by decide) rfl (by decide) ?_
        exact law_c13 hL C0 hK hT hk hP hD hB hR hi hj htx hS hl hcell nxt
      · refine lv_tableIn (off := 584) (tgt := 616) hx hb (zD_g DLh 21 rfl) (by decide) (by decide) rfl (by decide) ?_
        exact law_c14 hL C0 hK hT hk hP hD hB hR hi hj htx hS hl hcell nxt
      · refine lv_tableIn (off := 617) (tgt := 649) hx hb (zD_g DLh 21 rfl) (by decide) (by decide) rfl (by decide) ?_
        exact law_c15 hL C0 hK hT hk hP hD hB hR hi hj htx hS hl hcell nxt
      · refine lv_tableIn (off := 676) (tgt := 708) hx hb (zD_g DLh 21 rfl) (by decide) (by decide) rfl (by decide) ?_
        exact law_c16 hL C0 hK hT hk hP hD hB hR hi hj htx hS hl hcell nxt
      · refine lv_tableIn (off := 719) (tgt := 751) hx hb (zD_g DLh 21 rfl) (by decide) (by decide) rfl (by decide) ?_
        exact law_c17 hL C0 hK hT hk hP hD hB hR hi hj htx hS hl hcell nxt
      · refine lv_tableIn (off := 762) (tgt := 794) hx hb (zD_g DLh 21 rfl) (by decide) (by decide) rfl (by decide) ?_
        exact law_c18 hL C0 hK hT hk hP hD hB hR hi hj htx hS hl hcell nxt
      · refine lv_tableIn (off := 795) (tgt := 827) hx hb (zD_g DLh 21 rfl) (by decide) (by decide) rfl (by decide) ?_
        exact law_c19 hL C0 hK hT hk hP hD hB hR hi hj htx hS hl hcell nxt
      · refine lv_tableIn (off := 828) (tgt := 860) hx hb (zD_g DLh 21 rfl) (by decide) (by decide) rfl (by decide) ?_
        exact law_c20 hL C0 hK hT hk hP hD hB hR hi hj htx hS hl hcell nxt
      · refine lv_tableIn (off := 861) (tgt := 893) hx hb (zD_g DLh 21 rfl) (by decide) (by decide) rfl (by decide) ?_
        exact law_c21 hL C0 hK hT hk hP hD hB hR hi hj htx hS hl hcell nxt
      · refine lv_tableIn (off := 914) (tgt := 946) hx hb (zD_g DLh 21 rfl) (by decide) (by decide) rfl (by decide) ?_
        exact law_c22 hL C0 hK hT hk hP hD hB hR hi hj htx hS hl hcell nxt
      · refine lv_tableIn (off := 957) (tgt := 989) hx hb (zD_g DLh 21 rfl) (by decide) (by decide) rfl (by decide) ?_
        exact law_c23 hL C0 hK hT hk hP hD hB hR hi hj htx hS hl hcell nxt
      · refine lv_tableIn (off := 981) (tgt := 1013) hx hb (zD_g DLh 21 rfl) (by decide) (by decide) rfl (by decide) ?_
        exact law_c24 hL C0 hK hT hk hP hD hB hR hi hj htx hS hl hcell nxt
      · refine lv_tableIn (off := 1004) (tgt := 1036) hx hb (zD_g DLh 21 rfl) (by decide) (by decide) rfl (by decide) ?_
        exact law_c25 hL C0 hK hT hk hP hD hB hR hi hj htx hS hl hcell nxt
      · refine lv_tableIn (off := 1027) (tgt := 1059) hx hb (zD_g DLh 21 rfl) (by decide) (by decide) rfl (by decide) ?_
        exact law_c26 hL C0 hK hT hk hP hD hB hR hi hj htx hS hl hcell nxt
      · refine lv_tableIn (off := 1050) (tgt := 1082) hx hb (zD_g DLh 21 rfl) (by decide) (by decide) rfl (by decide) ?_
        exact law_c27 hL C0 hK hT hk hP hD hB hR hi hj htx hS hl hcell nxt
      · refine lv_tableIn (off := 1073) (tgt := 1105) hx hb (zD_g DLh 21 rfl) (by decide) (by decide) rfl (by decide) ?_
        exact law_c28 hL C0 hK hT hk hP hD hB hR hi hj htx hS hl hcell nxt
      · have er2 : (nI r).toInt = (r : Int) := nI_toInt (by omega)
        refine lv_tableOut (tgt := 1119) hx hb (zD_g DLh 21 rfl) (Or.inr (by rw [er2]; omega)) (by decide) ?_
        exact nxt H locs w_things w_gifts w_days w_size w_weight w_sound w_harm w_in_ w_kind w_owner w_empty w_room w_told w_gate w_ear w_scale w_lost w_watch w_moments w_kept t_things t_gifts t_days t_size t_weight t_sound t_harm t_in_ t_kind t_owner t_empty t_room t_told t_gate t_ear t_scale t_lost t_watch t_moments t_kept i_things i_gifts i_days i_size i_weight i_sound i_harm i_in_ i_kind i_owner i_empty i_room i_told i_gate i_ear i_scale i_lost i_watch i_moments i_kept j_things j_gifts j_days j_size j_weight j_sound j_harm j_in_ j_kind j_owner j_empty j_room j_told j_gate j_ear j_scale j_lost j_watch j_moments j_kept bcount bleast bneigh bdrawn bgifts bweights border bbest tlen titems tfault tbytes twords tnumbers fa fb mat mstart mtoken mvalue many book images mk aside rf text items drawn row best nt ng d nm Lt hP hD (hB.mono (by omega) (by omega)) hR (hi.mono (by omega) (by omega)) (hj.mono (by omega) (by omega)) htx hS
set_option maxHeartbeats 4000000 in
set_option maxRecDepth 100000 in
theorem whole_start {p : Program} {e : Env} {s : State} {m : MethodId} {below : List Frame} {meth : Method} {c : Code} (l : Launch) (hflags : l.flags = flags0) {b L : Nat} {xs : Nat → Int32} (hL : L ≤ 320) (C0 : lw_At p s m meth c b L xs) : W p l e room_1 s m #[Value.ref b] below meth c s.heap [] 0 0 (lw_Z below #[Value.ref b] s) (entryFrame m ([Value.ref b] : List Value).toArray 4) := by
  obtain ⟨hx, hb, hr, hml, hown, hts, hX, hbl, hlocks, hgv⟩ := id C0
  have hA : ∀ q : Nat, s.heap.size ≤ q → (fun q : Nat => s.heap.size ≤ q) q := fun _ h => h
  obtain ⟨D, cI, cZ, cB, hK⟩ := law_K hts
  obtain ⟨sa, sv, hT⟩ := law_S hts hgv
  have hS : va_S (fun q : Nat => s.heap.size ≤ q) s.heap s.heap [] := va_S.rf
  have hP : va_P D vwCl [] s.heap := fun k q h => by simp at h
  have hD : va_D (fun q : Nat => s.heap.size ≤ q) [] := ⟨fun i j p q h => by simp at h, fun k q h => by simp at h⟩
  have hl := lv_entry ([.ref b]) (n := 4) (Nat.le_of_ble_eq_true rfl)
  rw [lg_entry_eq]
  generalize (lg_sl ([.ref b]) ++ List.replicate (4 - (lg_sl ([.ref b])).length) Slot.unset).toArray = ls at hl ⊢
  have hl : lv_has ls 4 [(0, .ref b)] := hl
  refine va_new (ci := 4) (fs := [.null, .null, .null, .null, .int 0, .int 0, .null, .null, .long 0, .long 0, .int 0, .int 0, .int 0]) (C := RX5) (T := TX5) (N := 13) hx hb hts mwsX50 tyX5 tyX5_ok hown (hts (.classLink R_law 7 RX5) (List.mem_of_getElem? (i := 62) (by decide +kernel))) (hts (.instantiable RX5 13) (List.mem_of_getElem? (i := 63) (by decide +kernel))) (hts (.initialized RX5) (List.mem_of_getElem? (i := 48) (by decide +kernel))) hK.1 hP hD hS hA rfl (fun j hj => by rcases (show j = 0 ∨ j = 1 ∨ j = 2 ∨ j = 3 ∨ j = 4 ∨ j = 5 ∨ j = 6 ∨ j = 7 ∨ j = 8 ∨ j = 9 ∨ j = 10 ∨ j = 11 ∨ j = 12 by omega) with rfl | rfl | rfl | rfl | rfl | rfl | rfl | rfl | rfl | rfl | rfl | rfl | rfl <;> rfl) (Nat.le_of_ble_eq_true rfl) (Nat.le_of_ble_eq_true rfl) (zD_g DLh 0 rfl) (fun q5 H hP hD hS => ?_)
  have hP : va_P D vwCl (([] : va_W) ++ [(q5, .inr (4, [.null, .null, .null, .null, .int 0, .int 0, .null, .null, .long 0, .long 0, .int 0, .int 0, .int 0]))]) H := hP
  have hD : va_D (fun q : Nat => s.heap.size ≤ q) (([] : va_W) ++ [(q5, .inr (4, [.null, .null, .null, .null, .int 0, .int 0, .null, .null, .long 0, .long 0, .int 0, .int 0, .int 0]))]) := hD
  refine lv_dup hx hb (zD_g DLh 1 rfl) rfl ?_
  refine z_endC (va_runI (As := []) (rest := [.ref q5]) ⟨hx, hb, hml, hown, hts⟩ c5_init (cwI 0 hts gl_X5_init rfl rfl rfl (hts (.initialized RX5) (List.mem_of_getElem? (i := 48) (by decide +kernel))) (hts (.methodLink R_law 9 yX5_init) (List.mem_of_getElem? (i := 64) (by decide +kernel))) (hts (.instanceMethod yX5_init) (List.mem_of_getElem? (i := 65) (by decide +kernel))) rfl hd5_init ⟨Nat.le_of_ble_eq_true rfl, Nat.le_of_ble_eq_true rfl⟩) (z_preC hK hP hD) rfl rfl hl.1 rfl (lv_room (Nat.le_of_ble_eq_true rfl)) (zD_g DLh 2 rfl) ⟨Nat.le_of_ble_eq_true rfl, Nat.le_of_ble_eq_true rfl⟩) hP hD hS hA (fun u5 H locs hu5 hP hD hS => ?_)
  have hP : va_P D vwCl (zcat [cHG (fun _ => q5) ((u5 0).1 0) ((u5 1).1 0) ((u5 2).1 0) ((u5 3).1 0) ((u5 4).1 0) ((u5 5).1 0) 0 0 0 1 0 0 0, dWar cI (u5 0), dWar cI (u5 1), dWar cI (u5 2), dWar cI (u5 3), cBridge cI (u5 4).1 0 (-1) 1 0 z0 z0 z0 z0, cTell cI cB (u5 5).1 0 0 (-1) z0 z0 z0]) H := hP
  have hD : va_D (fun q : Nat => s.heap.size ≤ q) (zcat [cHG (fun _ => q5) ((u5 0).1 0) ((u5 1).1 0) ((u5 2).1 0) ((u5 3).1 0) ((u5 4).1 0) ((u5 5).1 0) 0 0 0 1 0 0 0, dWar cI (u5 0), dWar cI (u5 1), dWar cI (u5 2), dWar cI (u5 3), cBridge cI (u5 4).1 0 (-1) 1 0 z0 z0 z0 z0, cTell cI cB (u5 5).1 0 0 (-1) z0 z0 z0]) := hD
  refine lv_astore_n (lv' := [(1, .ref q5), (0, .ref b)]) hx hb (zD_g DLh 3 rfl) rfl hl (by decide) rfl (fun ls hl => ?_)
  refine va_new (ci := 5) (fs := [.null, .null, .null, .null, .null, .int 0, .long 0, .long 0, .null, .int 0, .int 0, .int 0, .int 0, .int 0, .null, .int 0, .null, .null, .null]) (C := RX6) (T := TX6) (N := 19) hx hb hts mwsX60 tyX6 tyX6_ok hown (hts (.classLink R_law 10 RX6) (List.mem_of_getElem? (i := 801) (by decide +kernel))) (hts (.instantiable RX6 19) (List.mem_of_getElem? (i := 802) (by decide +kernel))) (hts (.initialized RX6) (List.mem_of_getElem? (i := 53) (by decide +kernel))) hK.1 hP hD hS hA rfl (fun j hj => by rcases (show j = 0 ∨ j = 1 ∨ j = 2 ∨ j = 3 ∨ j = 4 ∨ j = 5 ∨ j = 6 ∨ j = 7 ∨ j = 8 ∨ j = 9 ∨ j = 10 ∨ j = 11 ∨ j = 12 ∨ j = 13 ∨ j = 14 ∨ j = 15 ∨ j = 16 ∨ j = 17 ∨ j = 18 by omega) with rfl | rfl | rfl | rfl | rfl | rfl | rfl | rfl | rfl | rfl | rfl | rfl | rfl | rfl | rfl | rfl | rfl | rfl | rfl <;> rfl) (Nat.le_of_ble_eq_true rfl) (Nat.le_of_ble_eq_true rfl) (zD_g DLh 4 rfl) (fun q6 H hP hD hS => ?_)
  have hP : va_P D vwCl ((zcat [cHG (fun _ => q5) ((u5 0).1 0) ((u5 1).1 0) ((u5 2).1 0) ((u5 3).1 0) ((u5 4).1 0) ((u5 5).1 0) 0 0 0 1 0 0 0, dWar cI (u5 0), dWar cI (u5 1), dWar cI (u5 2), dWar cI (u5 3), cBridge cI (u5 4).1 0 (-1) 1 0 z0 z0 z0 z0, cTell cI cB (u5 5).1 0 0 (-1) z0 z0 z0]) ++ [(q6, .inr (5, [.null, .null, .null, .null, .null, .int 0, .long 0, .long 0, .null, .int 0, .int 0, .int 0, .int 0, .int 0, .null, .int 0, .null, .null, .null]))]) H := hP
  have hD : va_D (fun q : Nat => s.heap.size ≤ q) ((zcat [cHG (fun _ => q5) ((u5 0).1 0) ((u5 1).1 0) ((u5 2).1 0) ((u5 3).1 0) ((u5 4).1 0) ((u5 5).1 0) 0 0 0 1 0 0 0, dWar cI (u5 0), dWar cI (u5 1), dWar cI (u5 2), dWar cI (u5 3), cBridge cI (u5 4).1 0 (-1) 1 0 z0 z0 z0 z0, cTell cI cB (u5 5).1 0 0 (-1) z0 z0 z0]) ++ [(q6, .inr (5, [.null, .null, .null, .null, .null, .int 0, .long 0, .long 0, .null, .int 0, .int 0, .int 0, .int 0, .int 0, .null, .int 0, .null, .null, .null]))]) := hD
  refine lv_dup hx hb (zD_g DLh 5 rfl) rfl ?_
  refine z_endC (va_runI (As := []) (rest := [.ref q6]) ⟨hx, hb, hml, hown, hts⟩ c6_init (cwI 0 hts gl_X6_init rfl rfl rfl (hts (.initialized RX6) (List.mem_of_getElem? (i := 53) (by decide +kernel))) (hts (.methodLink R_law 12 yX6_init) (List.mem_of_getElem? (i := 803) (by decide +kernel))) (hts (.instanceMethod yX6_init) (List.mem_of_getElem? (i := 804) (by decide +kernel))) rfl hd6_init ⟨Nat.le_of_ble_eq_true rfl, Nat.le_of_ble_eq_true rfl⟩) (z_preC hK hP hD) rfl rfl hl.1 rfl (lv_room (Nat.le_of_ble_eq_true rfl)) (zD_g DLh 6 rfl) ⟨Nat.le_of_ble_eq_true rfl, Nat.le_of_ble_eq_true rfl⟩) hP hD hS hA (fun u6 H locs hu6 hP hD hS => ?_)
  obtain ⟨hu6, he6⟩ := hu6
  have hP : va_P D vwCl ((zcat [cHG (fun _ => q5) ((u5 0).1 0) ((u5 1).1 0) ((u5 2).1 0) ((u5 3).1 0) ((u5 4).1 0) ((u5 5).1 0) 0 0 0 1 0 0 0, dWar cI (u5 0), dWar cI (u5 1), dWar cI (u5 2), dWar cI (u5 3), cBridge cI (u5 4).1 0 (-1) 1 0 z0 z0 z0 z0, cTell cI cB (u5 5).1 0 0 (-1) z0 z0 z0]) ++ cMod cI cZ u6.1 0 0 1 0 0 0 0 0 0 u6.2 z0 z0 z0 z0 z0 z0 z0 z0 z0) H := hP
  have hD : va_D (fun q : Nat => s.heap.size ≤ q) ((zcat [cHG (fun _ => q5) ((u5 0).1 0) ((u5 1).1 0) ((u5 2).1 0) ((u5 3).1 0) ((u5 4).1 0) ((u5 5).1 0) 0 0 0 1 0 0 0, dWar cI (u5 0), dWar cI (u5 1), dWar cI (u5 2), dWar cI (u5 3), cBridge cI (u5 4).1 0 (-1) 1 0 z0 z0 z0 z0, cTell cI cB (u5 5).1 0 0 (-1) z0 z0 z0]) ++ cMod cI cZ u6.1 0 0 1 0 0 0 0 0 0 u6.2 z0 z0 z0 z0 z0 z0 z0 z0 z0) := hD
  have e0 : ∀ (x1 x2 x3 x4 x5 x6 x7 x8 : va_W), zcat [x1, x2, x3, x4, x5, x6, x7] ++ x8 = zcat [x1, x2, x3, x4, x5, x6, x7, x8] := fun x1 x2 x3 x4 x5 x6 x7 x8 => by simp [zcat_flat, List.append_assoc]
  rw [e0] at hP hD
  refine lv_astore_n (lv' := [(2, .ref q6), (1, .ref q5), (0, .ref b)]) hx hb (zD_g DLh 7 rfl) rfl hl (by decide) rfl (fun ls hl => ?_)
  refine lv_iconst (v := 0) hx hb (zD_g DLh 8 rfl) (by decide) ?_
  refine lv_istore_n (lv' := [(3, .int 0), (2, .ref q6), (1, .ref q5), (0, .ref b)]) hx hb (zD_g DLh 9 rfl) rfl hl (by decide) rfl (fun ls hl => ?_)
  obtain ⟨bk, b1, b2, b3⟩ := v6_empties z0
  rw [he6] at b1
  have hbk : u6.2 = bk := Option.some.inj b1
  rw [← hbk] at b2 b3
  obtain ⟨hv0, hv1, hv2, hv3⟩ := hu5
  have hB : Bk 0 u6.2 0 0 0 0 := Bk.fresh (by decide) b2 b3
  have hR : Rw 0 0 0 z0 z0 z0 z0 z0 z0 z0 z0 z0 z0 ((u5 0).2 0) ((u5 0).2 1) ((u5 0).2 2) ((u5 0).2 3) ((u5 0).2 4) 0 z0 u6.2 0 0 0 := Rw.fresh b2 b3 hv0.1 hv0.2
  have htx : Tx 0 z0 0 z0 0 := ⟨by omega, rfl, rfl, fun k hk => absurd hk (by omega)⟩
  rw [← hu6] at hl
  exact law_loop (q := fun _ => q5) (qw := (u5 0).1) (qt := (u5 1).1) (qi := (u5 2).1) (qj := (u5 3).1) (qb := (u5 4).1) (qx := (u5 5).1) (qn := u6.1) hL C0 hK hT ⟨Nat.le_of_ble_eq_true rfl, Nat.le_of_ble_eq_true rfl⟩ 65 0 rfl H locs ls 0 0 0 z0 z0 z0 z0 z0 z0 z0 z0 z0 z0 ((u5 0).2 0) ((u5 0).2 1) ((u5 0).2 2) ((u5 0).2 3) ((u5 0).2 4) 0 z0 0 0 0 z0 z0 z0 z0 z0 z0 z0 z0 z0 z0 ((u5 1).2 0) ((u5 1).2 1) ((u5 1).2 2) ((u5 1).2 3) ((u5 1).2 4) 0 z0 0 0 0 z0 z0 z0 z0 z0 z0 z0 z0 z0 z0 ((u5 2).2 0) ((u5 2).2 1) ((u5 2).2 2) ((u5 2).2 3) ((u5 2).2 4) 0 z0 0 0 0 z0 z0 z0 z0 z0 z0 z0 z0 z0 z0 ((u5 3).2 0) ((u5 3).2 1) ((u5 3).2 2) ((u5 3).2 3) ((u5 3).2 4) 0 z0 0 (-1) 1 0 z0 z0 z0 z0 0 0 (-1) z0 z0 z0 0 1 0 0 0 0 0 u6.2 z0 z0 z0 z0 z0 z0 z0 z0 z0 0 0 0 0 0 hP hD hB hR (Or.inl rfl) (Or.inl rfl) htx hS (lv_sub hl [0, 2, 1, 3] rfl)
