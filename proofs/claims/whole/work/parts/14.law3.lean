/-! ===== the law: helpers ===== -/
theorem e5_thing {B nt ng d nm : Nat} {book : Nat → Int32} {things gifts days : Int32} {size weight sound harm in_ kind owner empty room told gate ear scale lost watch : Nat → Int32} {moments : Int32} {kept : Nat → Int32} (h : Bk B book nt ng d nm) (r : Rw things gifts days size weight sound harm in_ kind owner empty room told gate ear scale lost watch moments kept book nt ng nm) (rf : Nat → Int32) (a b c e : Int32) : ∃ (ans things' : Int32) (size' weight' sound' harm' in' : Nat → Int32) (moments' : Int32) (book' : Nat → Int32) (nt' nm' : Nat),
    f5_thing (rf 0) (rf 1) (rf 2) things size weight sound harm in_ moments a b c e = some (ans, cntd 0 rf ans 0, cntd 0 rf ans 1, cntd 0 rf ans 2, things', size', weight', sound', harm', in', moments') ∧ f6_thing 0 book rf a b c e = some (ans, book', cntd 0 rf ans) ∧ Bk B book' nt' ng d nm' ∧ Rw things' gifts days size' weight' sound' harm' in' kind owner empty room told gate ear scale lost watch moments' kept book' nt' ng nm' := by
  obtain ⟨ans, things', size', weight', sound', harm', in', moments', book', nt', nm', e1, e2, e3, e4⟩ := e_thing h r 0 rf a b c e
  refine ⟨ans, things', size', weight', sound', harm', in', moments', book', nt', nm', ?_, e2, e3, e4⟩
  unfold f5_thing
  rw [e1, zb8_e, v5_counted, zb4_e]
theorem e5_gift {B nt ng d nm : Nat} {book : Nat → Int32} {things gifts days : Int32} {size weight sound harm in_ kind owner empty room told gate ear scale lost watch : Nat → Int32} {moments : Int32} {kept : Nat → Int32} (h : Bk B book nt ng d nm) (r : Rw things gifts days size weight sound harm in_ kind owner empty room told gate ear scale lost watch moments kept book nt ng nm) (rf : Nat → Int32) (a b c e : Int32) : ∃ (ans gifts' : Int32) (kind' owner' empty' room' told' : Nat → Int32) (moments' : Int32) (book' : Nat → Int32) (ng' nm' : Nat),
    f5_gift (rf 0) (rf 1) (rf 2) gifts kind owner empty room told moments a b c e = some (ans, cntd 0 rf ans 0, cntd 0 rf ans 1, cntd 0 rf ans 2, gifts', kind', owner', empty', room', told', moments') ∧ f6_gift 0 book rf a b c e = some (ans, book', cntd 0 rf ans) ∧ Bk B book' nt ng' d nm' ∧ Rw things gifts' days size weight sound harm in_ kind' owner' empty' room' told' gate ear scale lost watch moments' kept book' nt ng' nm' := by
  obtain ⟨ans, gifts', kind', owner', empty', room', told', moments', book', ng', nm', e1, e2, e3, e4⟩ := e_gift h r 0 rf a b c e
  refine ⟨ans, gifts', kind', owner', empty', room', told', moments', book', ng', nm', ?_, e2, e3, e4⟩
  unfold f5_gift
  rw [e1, zb8_e, v5_counted, zb4_e]
theorem e5_put {B nt ng d nm : Nat} {book : Nat → Int32} {things gifts days : Int32} {size weight sound harm in_ kind owner empty room told gate ear scale lost watch : Nat → Int32} {moments : Int32} {kept : Nat → Int32} (h : Bk B book nt ng d nm) (r : Rw things gifts days size weight sound harm in_ kind owner empty room told gate ear scale lost watch moments kept book nt ng nm) (rf : Nat → Int32) (a b : Int32) : ∃ (ans : Int32) (in' : Nat → Int32) (moments' : Int32) (kept' : Nat → Int32) (book' : Nat → Int32) (nm' : Nat),
    f5_put (rf 0) (rf 1) (rf 2) things gifts days size in_ owner room lost moments kept a b = some (ans, cntd 0 rf ans 0, cntd 0 rf ans 1, cntd 0 rf ans 2, in', moments', kept') ∧ f6_put 0 book rf a b = some (ans, book', cntd 0 rf ans) ∧ Bk B book' nt ng d nm' ∧ Rw things gifts days size weight sound harm in' kind owner empty room told gate ear scale lost watch moments' kept' book' nt ng nm' := by
  obtain ⟨ans, in', moments', kept', book', nm', e1, e2, e3, e4⟩ := e_put h r 0 rf a b
  refine ⟨ans, in', moments', kept', book', nm', ?_, e2, e3, e4⟩
  unfold f5_put
  rw [e1, zb4_e, v5_counted, zb4_e]
theorem e5_out {B nt ng d nm : Nat} {book : Nat → Int32} {things gifts days : Int32} {size weight sound harm in_ kind owner empty room told gate ear scale lost watch : Nat → Int32} {moments : Int32} {kept : Nat → Int32} (h : Bk B book nt ng d nm) (r : Rw things gifts days size weight sound harm in_ kind owner empty room told gate ear scale lost watch moments kept book nt ng nm) (rf : Nat → Int32) (a : Int32) : ∃ (ans : Int32) (in' : Nat → Int32) (moments' : Int32) (kept' : Nat → Int32) (book' : Nat → Int32) (nm' : Nat),
    f5_out (rf 0) (rf 1) (rf 2) things days in_ owner lost moments kept a = some (ans, cntd 0 rf ans 0, cntd 0 rf ans 1, cntd 0 rf ans 2, in', moments', kept') ∧ f6_out 0 book rf a = some (ans, book', cntd 0 rf ans) ∧ Bk B book' nt ng d nm' ∧ Rw things gifts days size weight sound harm in' kind owner empty room told gate ear scale lost watch moments' kept' book' nt ng nm' := by
  obtain ⟨ans, in', moments', kept', book', nm', e1, e2, e3, e4⟩ := e_out h r 0 rf a
  refine ⟨ans, in', moments', kept', book', nm', ?_, e2, e3, e4⟩
  unfold f5_out
  rw [e1, zb4_e, v5_counted, zb4_e]
theorem e5_city {B nt ng d nm : Nat} {book : Nat → Int32} {things gifts days : Int32} {size weight sound harm in_ kind owner empty room told gate ear scale lost watch : Nat → Int32} {moments : Int32} {kept : Nat → Int32} (h : Bk B book nt ng d nm) (r : Rw things gifts days size weight sound harm in_ kind owner empty room told gate ear scale lost watch moments kept book nt ng nm) (rf : Nat → Int32) (a b n : Int32) : ∃ (ans : Int32) (gate' ear' scale' : Nat → Int32) (book' : Nat → Int32),
    f5_city (rf 0) (rf 1) (rf 2) gate ear scale a b n = some (ans, cntd 0 rf ans 0, cntd 0 rf ans 1, cntd 0 rf ans 2, gate', ear', scale') ∧ f6_city 0 book rf a b n = some (ans, book', cntd 0 rf ans) ∧ Bk B book' nt ng d nm ∧ Rw things gifts days size weight sound harm in_ kind owner empty room told gate' ear' scale' lost watch moments kept book' nt ng nm := by
  obtain ⟨ans, gate', ear', scale', book', e1, e2, e3, e4⟩ := e_city h r 0 rf a b n
  refine ⟨ans, gate', ear', scale', book', ?_, e2, e3, e4⟩
  unfold f5_city
  rw [e1, zb4_e, v5_counted, zb4_e]
theorem e5_watch {B nt ng d nm : Nat} {book : Nat → Int32} {things gifts days : Int32} {size weight sound harm in_ kind owner empty room told gate ear scale lost watch : Nat → Int32} {moments : Int32} {kept : Nat → Int32} (h : Bk B book nt ng d nm) (r : Rw things gifts days size weight sound harm in_ kind owner empty room told gate ear scale lost watch moments kept book nt ng nm) (rf : Nat → Int32) (a b n : Int32) : ∃ (ans : Int32) (watch' : Nat → Int32) (book' : Nat → Int32),
    f5_watch (rf 0) (rf 1) (rf 2) watch a b n = some (ans, cntd 0 rf ans 0, cntd 0 rf ans 1, cntd 0 rf ans 2, watch') ∧ f6_watch 0 book rf a b n = some (ans, book', cntd 0 rf ans) ∧ Bk B book' nt ng d nm ∧ Rw things gifts days size weight sound harm in_ kind owner empty room told gate ear scale lost watch' moments kept book' nt ng nm := by
  obtain ⟨ans, watch', book', e1, e2, e3, e4⟩ := e_watch h r 0 rf a b n
  refine ⟨ans, watch', book', ?_, e2, e3, e4⟩
  unfold f5_watch
  rw [e1, zb2_e, v5_counted, zb4_e]
theorem law_arg {p : Program} {l : Launch} {e : Env} {s : State} {m : MethodId} {below : List Frame} {meth : Method} {c : Code} {b L : Nat} {xs : Nat → Int32} (C0 : lw_At p s m meth c b L xs) (hL : L ≤ 320) {H : Heap} {locs : List Loc} {cells slots : Nat} {Q : State → Prop} {ls : Array Slot} {pc : Nat} {st : List Value} {i qx qm : Nat} (hl : lv_has ls 4 [(3, .int (nI i)), (1, .ref qx), (2, .ref qm), (0, .ref b)]) (hS : va_S (fun q : Nat => s.heap.size ≤ q) s.heap H locs) (j : Nat) {n : Int} (hv : Int32.ofInt n = nI j) (hij : i + j < L)
    (d0 : decode code pc = .ok (.aload_n 0, 1)) (d1 : decode code (pc + 1) = .ok (.iload_n 3, 1)) (d2 : decode code (pc + 2) = .ok (.iconst n, 1)) (d3 : decode code (pc + 3) = .ok (.iadd, 1)) (d4 : decode code (pc + 4) = .ok (.iaload, 1))
    (k : W p l e room_1 s m #[Value.ref b] below meth c H locs cells slots Q (F0 m (pc + 5) ls (.int (xs (i + j)) :: st))) : W p l e room_1 s m #[Value.ref b] below meth c H locs cells slots Q (F0 m pc ls st) := by
  obtain ⟨hx, hb, hr, hml, hown, hts, hX, hbl, hlocks, hgv⟩ := C0
  have hbA : ¬ (fun q : Nat => s.heap.size ≤ q) b := Nat.not_le.mpr hbl
  refine lv_aload_n hx hb d0 rfl (lv_at hl 3 rfl) ?_
  refine lv_iload_n hx hb d1 rfl (lv_at hl 0 rfl) ?_
  refine lv_iconst (v := nI j) hx hb d2 hv ?_
  refine lv_iadd hx hb d3 ?_
  rw [nI_add]
  refine va_sld hx hb hX hbl hbA hS (vp_in_nI hij (by omega)) d4 ?_
  rw [nI_clamp (by omega)]
  exact k
theorem law_bool {p : Program} {l : Launch} {e : Env} {s : State} {m : MethodId} {below : List Frame} {meth : Method} {c : Code} {b L : Nat} {xs : Nat → Int32} (C0 : lw_At p s m meth c b L xs) {H : Heap} {locs : List Loc} {cells slots : Nat} {Q : State → Prop} {ls : Array Slot} {pc : Nat} {st : List Value} {x : Int32}
    (d0 : decode code pc = .ok (.ifCond .eq 7, 3)) (d1 : decode code (pc + 3) = .ok (.iconst 1, 1)) (d2 : decode code (pc + 4) = .ok (.goto 4, 3)) (d3 : decode code (pc + 7) = .ok (.iconst 0, 1))
    (k : W p l e room_1 s m #[Value.ref b] below meth c H locs cells slots Q (F0 m (pc + 8) ls (.int (if x = 0 then 0 else 1) :: st))) : W p l e room_1 s m #[Value.ref b] below meth c H locs cells slots Q (F0 m pc ls (.int x :: st)) := by
  obtain ⟨hx, hb, hr, hml, hown, hts, hX, hbl, hlocks, hgv⟩ := C0
  refine lv_if_eq (tgt := pc + 7) hx hb d0 (by omega) (fun c1 => ?_) (fun c1 => ?_)
  · rw [if_pos c1] at k
    refine lv_iconst (v := 0) hx hb d3 (by decide) ?_
    exact k
  · rw [if_neg c1] at k
    refine lv_iconst (v := 1) hx hb d1 (by decide) ?_
    refine lv_goto (tgt := pc + 8) hx hb d2 (by omega) ?_
    exact k
