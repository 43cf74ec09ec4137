/-! ===== text constants of Telling: what stands of them at every heap ===== -/
def zsIdx : List Nat := [82, 84, 86, 88, 90, 92, 94]
def zsTx : List String := ["thing", "gift", "in", "gate", "ear", "scale", "watch"]
def zStr (sa sv : Nat → Nat) (A : Nat → Prop) (U : State) (H : Heap) : Prop := vk_S 7 zsLen zsByt sa sv A U H ∧ va_Z "java/lang/String" "COMPACT_STRINGS" "Z" (.int 1) A U H ∧ va_Zq "jdk/internal/util/Preconditions" "SIOOBE_FORMATTER" "Ljava/util/function/BiFunction;" A U H ∧ ∀ i : Nat, i < 7 → vk_R RX3 (zsIdx.getD i 0) (zsTx.getD i "") (sa i) U
theorem zStr.kept {sa sv : Nat → Nat} {A : Nat → Prop} {U : State} {H H1 : Heap} (h : zStr sa sv A U H) (hq : ∀ a : Nat, a < H.size → ¬ A a → H1[a]? = H[a]?) : zStr sa sv A U H1 := ⟨h.1.kept hq, h.2.1.kept hq, h.2.2.1.kept hq, h.2.2.2⟩
theorem zStr.narrow {sa sv : Nat → Nat} {A B : Nat → Prop} {U : State} {H : Heap} (h : zStr sa sv A U H) (hAB : ∀ q, B q → A q) : zStr sa sv B U H := ⟨h.1.narrow hAB, h.2.1.narrow hAB, h.2.2.1.narrow hAB, h.2.2.2⟩
theorem zStr.warm {sa sv : Nat → Nat} {A : Nat → Prop} {s U : State} {H : Heap} (hW : s.WarmedH U.vm) (h : zStr sa sv A s H) : zStr sa sv A U H := ⟨h.1.moved hW.alike, h.2.1.moved hW.alike, h.2.2.1.moved hW.alike, fun i hi => vk_R.warm hW (h.2.2.2 i hi)⟩
theorem zStr.call {sa sv : Nat → Nat} {A : Nat → Prop} {U : State} {g : JFrame} {mk : MethodId} {a : Array Value} {H : Heap} (h : zStr sa sv A U H) : zStr sa sv A (U.calling g mk a) H := ⟨h.1.moved (U := U.calling g mk a) (Vm.Alike.refl U.vm), h.2.1.moved (U := U.calling g mk a) (Vm.Alike.refl U.vm), h.2.2.1.moved (U := U.calling g mk a) (Vm.Alike.refl U.vm), fun i hi => vk_R.same rfl (h.2.2.2 i hi)⟩
theorem zStr.now {sa sv : Nat → Nat} {A : Nat → Prop} {s : State} {H : Heap} {locs : List Loc} (h : zStr sa sv A s s.heap) (hS : va_S A s.heap H locs) : zStr sa sv (fun _ => False) s H := (h.kept hS.2.1).narrow (fun _ h => h.elim)
def zPpS (D : va_G) (cI cZ cB : ClassId) (sa sv : Nat → Nat) (av : List Value) (wd : va_W) : Array Value → State → Prop := va_Pc av (fun U => va_P D vwCl wd U.heap ∧ zK D cI cZ cB U ∧ zStr sa sv (fun _ => False) U U.heap)
def zPmS (D : va_G) (cI cZ cB : ClassId) (sa sv : Nat → Nat) (av : List Value) (sz : Nat) (wd : va_W) : Array Value → State → Prop := va_Pc av (fun U => U.heap.size = sz ∧ va_P D vwCl wd U.heap ∧ zK D cI cZ cB U ∧ va_D (fun _ => True) wd ∧ zStr sa sv (va_A wd sz) U U.heap)
theorem zPpS.blind {D : va_G} {cI cZ cB : ClassId} {sa sv : Nat → Nat} {av : List Value} {wd : va_W} : FrameBlind (zPpS D cI cZ cB sa sv av wd) := fun _ _ _ _ h => ⟨h.1, h.2.1, h.2.2.1.call, h.2.2.2.call⟩
theorem zPmS.blind {D : va_G} {cI cZ cB : ClassId} {sa sv : Nat → Nat} {av : List Value} {sz : Nat} {wd : va_W} : FrameBlind (zPmS D cI cZ cB sa sv av sz wd) := fun _ _ _ _ h => ⟨h.1, h.2.1, h.2.2.1, h.2.2.2.1.call, h.2.2.2.2.1, h.2.2.2.2.2.call⟩
section ZSS
variable {l : Launch} {y : MethodName} {ws ws' : List Cond} {maxL : Nat} {cc : ByteArray} {rm : Room} {D : va_G} {cI cZ cB : ClassId} {sa sv : Nat → Nat} {av : List Value} {wd wd' : va_W} {r : Int32} {sz : Nat} {ret : Option FieldType} {v : Option Value}
theorem z_startS (own : String) (hy : plainName y.cls = true) (hw : ws = Cond.code y cc maxL ret :: ws') (ho : y.cls = own) (hlen : (lg_sl av).length ≤ maxL)
    (body : ∀ (p : Program) (e : Env) (s : State) (m : MethodId) (args : Array Value) (below : List Frame) (meth : Method) (c : Code) (ls : Array Slot),
      p.tables.exec = Jvm.exec → c.code = cc → c.maxLocals = maxL → meth.sig.returnType = ret → meth.locks = false → s.vm.findClass own = some m.cls → (∀ w ∈ ws, w.before args s = true) → zK D cI cZ cB s → va_P D vwCl wd s.heap → zStr sa sv (fun _ => False) s s.heap →
      lv_has ls maxL (lv_args 0 av) → W p l e rm s m args below meth c s.heap [] 0 0 (MQ below (zQp v) args s 0 0 (fun _ => False)) (F0 m 0 ls [])) :
    Met l y ws rm (zPpS D cI cZ cB sa sv av wd) (zQp v) 0 0 (fun _ => False) := by
  refine Met.ofW hy hw ?_
  intro p e s m args below meth c s₁ B hml hv
  obtain ⟨rfl, hP, hK, hT⟩ := hv
  have hown : s.vm.findClass y.cls = some m.cls := findClass_of_methodNamed B.named
  rw [ho] at hown
  have hl := lv_entry av (n := maxL) hlen
  rw [lg_entry_eq]
  exact body p e s m _ below meth c _ B.exec B.bytes hml B.returns B.notSynchronized hown (atoms_spec B.pre) hK hP hT hl
theorem z_pureIS (own : String) (hy : plainName y.cls = true) (hw : ws = Cond.code y cc maxL (some .int) :: ws') (ho : y.cls = own) (hlen : (lg_sl av).length ≤ maxL)
    (body : ∀ (p : Program) (e : Env) (s : State) (m : MethodId) (args : Array Value) (below : List Frame) (meth : Method) (c : Code) (Q : State → Prop) (ls : Array Slot),
      p.tables.exec = Jvm.exec → c.code = cc → c.maxLocals = maxL → s.vm.findClass own = some m.cls → (∀ w ∈ ws, w.before args s = true) → zK D cI cZ cB s → va_P D vwCl wd s.heap → zStr sa sv (fun _ => False) s s.heap →
      (∀ (pc : Nat) (ls : Array Slot), decode cc pc = .ok (.ireturn, 1) → W p l e rm s m args below meth c s.heap [] 0 0 Q (F0 m pc ls [.int r])) →
      lv_has ls maxL (lv_args 0 av) → W p l e rm s m args below meth c s.heap [] 0 0 Q (F0 m 0 ls [])) :
    Met l y ws rm (zPpS D cI cZ cB sa sv av wd) (zQp (some (.int r))) 0 0 (fun _ => False) := by
  refine z_startS own hy hw ho hlen ?_
  intro p e s m args below meth c ls hx hb hml hr hlocks hown hts hK hP hT hl
  exact body p e s m _ below meth c _ _ hx hb hml hown hts hK hP hT (fun pc ls hd => W.iret hx hb hr (fun t ht hW => ⟨rfl, ht⟩) (fun _ h => by cases h) hd) hl
theorem z_pureZS (own : String) (hy : plainName y.cls = true) (hw : ws = Cond.code y cc maxL (some .boolean) :: ws') (ho : y.cls = own) (hlen : (lg_sl av).length ≤ maxL)
    (body : ∀ (p : Program) (e : Env) (s : State) (m : MethodId) (args : Array Value) (below : List Frame) (meth : Method) (c : Code) (Q : State → Prop) (ls : Array Slot),
      p.tables.exec = Jvm.exec → c.code = cc → c.maxLocals = maxL → s.vm.findClass own = some m.cls → (∀ w ∈ ws, w.before args s = true) → zK D cI cZ cB s → va_P D vwCl wd s.heap → zStr sa sv (fun _ => False) s s.heap →
      (∀ (pc : Nat) (ls : Array Slot), narrow .boolean (.int r) = .int r → decode cc pc = .ok (.ireturn, 1) → W p l e rm s m args below meth c s.heap [] 0 0 Q (F0 m pc ls [.int r])) →
      lv_has ls maxL (lv_args 0 av) → W p l e rm s m args below meth c s.heap [] 0 0 Q (F0 m 0 ls [])) :
    Met l y ws rm (zPpS D cI cZ cB sa sv av wd) (zQp (some (.int r))) 0 0 (fun _ => False) := by
  refine z_startS own hy hw ho hlen ?_
  intro p e s m args below meth c ls hx hb hml hr hlocks hown hts hK hP hT hl
  exact body p e s m _ below meth c _ _ hx hb hml hown hts hK hP hT (fun pc ls hn hd => W.zret hx hb hr hn (fun t ht hW => ⟨rfl, ht⟩) (fun _ h => by cases h) hd) hl
theorem z_mutIS (own : String) (hy : plainName y.cls = true) (hw : ws = Cond.code y cc maxL (some .int) :: ws') (ho : y.cls = own) (hlen : (lg_sl av).length ≤ maxL)
    (body : ∀ (p : Program) (e : Env) (s : State) (m : MethodId) (args : Array Value) (below : List Frame) (meth : Method) (c : Code) (Q : State → Prop) (A : Nat → Prop) (ls : Array Slot),
      p.tables.exec = Jvm.exec → c.code = cc → c.maxLocals = maxL → s.vm.findClass own = some m.cls → (∀ w ∈ ws, w.before args s = true) → zK D cI cZ cB s → va_P D vwCl wd s.heap → va_D A wd → va_S A s.heap s.heap [] → (∀ q, s.heap.size ≤ q → A q) → zStr sa sv A s s.heap →
      (∀ (H : Heap) (locs : List Loc) (pc : Nat) (ls : Array Slot), va_P D vwCl wd' H → va_D A wd' → va_S A s.heap H locs → decode cc pc = .ok (.ireturn, 1) → W p l e rm s m args below meth c H locs 0 0 Q (F0 m pc ls [.int r])) →
      lv_has ls maxL (lv_args 0 av) → W p l e rm s m args below meth c s.heap [] 0 0 Q (F0 m 0 ls [])) :
    Met l y ws rm (zPmS D cI cZ cB sa sv av sz wd) (zQm D (some (.int r)) wd' (va_A wd sz)) 0 0 (va_A wd sz) := by
  refine Met.ofW hy hw ?_
  intro p e s m args below meth c s₁ B hml hv
  obtain ⟨rfl, hsz, hP, hK, hD0, hT⟩ := hv
  subst hsz
  have hown : s.vm.findClass y.cls = some m.cls := findClass_of_methodNamed B.named
  rw [ho] at hown
  have hl := lv_entry av (n := maxL) hlen
  rw [lg_entry_eq]
  have hlocks := B.notSynchronized
  exact body p e s m _ below meth c _ _ _ B.exec B.bytes hml hown (atoms_spec B.pre) hK hP (hD0.self (sz := s.heap.size)) va_S.rf (fun q h => Or.inr h) hT (fun H locs pc ls hP hD hS hd => W.iret B.exec B.bytes B.returns (fun t ht hW => ⟨⟨rfl, by rw [ht]; exact hP, hD⟩, hS.F ht⟩) hS.2.2 hd) hl
end ZSS
section ZSC
variable {p : Program} {l : Launch} {e : Env} {R : Room} {s : State} {m : MethodId} {args : Array Value} {below : List Frame} {meth : Method} {c : Code} {H : Heap} {locs : List Loc} {cells slots : Nat} {Q : State → Prop}
variable {pc : Nat} {ls : Array Slot} {rest st0 st1 : List Value} {a : Array Value} {v : Option Value} {mc ms : Nat} {D : va_G} {cI cZ cB : ClassId} {sa sv : Nat → Nat} {A : Nat → Prop} {ws wc wr wc' ws' : va_W}
variable {y : MethodName} {bytes cc : ByteArray} {maxL nL n index : Nat} {ret : Option FieldType} {wy Ts : List Cond} {ry : Room} {own C host : String} {b ci : Nat} {As : List Value} {q : vw_C} {fs : List Value}
/-- a call on a text constant -/
theorem z_Tp {i : Nat} (hi : i < 7) (S : CallFix p m c cc nL s args Ts own) (hK : zK D cI cZ cB s) (hT : zStr sa sv (fun _ => False) s H) (hM : Met l y wy ry (zPpS D cI cZ cB sa sv (.ref (sa i) :: As) []) (zQp v) 0 0 (fun _ => False)) (cw : CallW R s args own "java/lang/String" index y bytes maxL ret wy ry 0 0 n)
    (hn : As.length = n) (hl : ls.size = nL) (hst0 : st0 = As.reverse ++ .ref (sa i) :: rest) (hst : v.toList ++ rest = st1) (hroom : (rest.map fun v => v.category).sum ≤ 8) (hdg : decode cc pc = .ok (.invokevirtual index, 3)) (hcell : cells ≤ R.cells ∧ slots ≤ R.slots)
    (kk : W p l e R s m args below meth c H locs cells slots Q (F0 m (pc + 3) ls st1)) : W p l e R s m args below meth c H locs cells slots Q (F0 m pc ls st0) := by
  obtain ⟨cell, h1, h2, h3, -⟩ := (hT.1.1 i hi).1
  exact z_endp (va_runV S hM cw ⟨zPpS.blind, ⟨cell, h1, h2, h3⟩, fun U hU hW => ⟨rfl, (fun k q h => by simp at h), hK.warm hW, by rw [hU]; exact hT.warm hW⟩⟩ rfl hn hl hst0 (lv_room hroom) hdg hcell) hst kk
theorem z_VpS (S : CallFix p m c cc nL s args Ts own) (hK : zK D cI cZ cB s) (hT : zStr sa sv (fun _ => False) s H) (hM : Met l y wy ry (zPpS D cI cZ cB sa sv (.ref b :: As) wc) (zQp v) 0 0 (fun _ => False)) (cw : CallW R s args own C index y bytes maxL ret wy ry 0 0 n) (hP : va_P D vwCl wc H) (hc : vwCl[ci]? = some q) (he : wc[0]? = some (b, .inr (ci, fs))) (hq : q.1 = C)
    (hn : As.length = n) (hl : ls.size = nL) (hst0 : st0 = As.reverse ++ .ref b :: rest) (hst : v.toList ++ rest = st1) (hroom : (rest.map fun v => v.category).sum ≤ 8) (hdg : decode cc pc = .ok (.invokevirtual index, 3)) (hcell : cells ≤ R.cells ∧ slots ≤ R.slots)
    (kk : W p l e R s m args below meth c H locs cells slots Q (F0 m (pc + 3) ls st1)) : W p l e R s m args below meth c H locs cells slots Q (F0 m pc ls st0) := by
  subst hq
  exact z_endp (va_runV S hM cw ⟨zPpS.blind, va_recv hK.1 hP hc he, fun U hU hW => ⟨rfl, by rw [hU]; exact hP, hK.warm hW, by rw [hU]; exact hT.warm hW⟩⟩ rfl hn hl hst0 (lv_room hroom) hdg hcell) hst kk
theorem z_SpS (S : CallFix p m c cc nL s args Ts own) (hK : zK D cI cZ cB s) (hT : zStr sa sv (fun _ => False) s H) (hM : Met l y wy ry (zPpS D cI cZ cB sa sv As wc) (zQp v) 0 0 (fun _ => False)) (cw : CallB R s args own index y bytes maxL ret wy ry 0 0 n ∧ (Cond.static y).before args s = true) (hP : va_P D vwCl wc H)
    (hn : As.length = n) (hl : ls.size = nL) (hst0 : st0 = As.reverse ++ rest) (hst : v.toList ++ rest = st1) (hroom : (rest.map fun v => v.category).sum ≤ 8) (hdg : decode cc pc = .ok (.invokestatic index, 3)) (hcell : cells ≤ R.cells ∧ slots ≤ R.slots)
    (kk : W p l e R s m args below meth c H locs cells slots Q (F0 m (pc + 3) ls st1)) : W p l e R s m args below meth c H locs cells slots Q (F0 m pc ls st0) :=
  z_endp (va_runS S hM cw ⟨zPpS.blind, fun U hU hW => ⟨rfl, by rw [hU]; exact hP, hK.warm hW, by rw [hU]; exact hT.warm hW⟩⟩ rfl hn hl hst0 (lv_room hroom) hdg hcell) hst kk
theorem z_VmS (S : CallFix p m c cc nL s args Ts own) (hK : zK D cI cZ cB s) (hT : zStr sa sv A s s.heap) (hM : Met l y wy ry (zPmS D cI cZ cB sa sv (.ref b :: As) H.size wc) (zQm D v wc' (va_A wc H.size)) mc ms (va_A wc H.size)) (cw : CallW R s args own C index y bytes maxL ret wy ry mc ms n)
    (hP : va_P D vwCl ws H) (hD : va_D A ws) (hS : va_S A s.heap H locs) (hA : ∀ q, s.heap.size ≤ q → A q) (nn : Nat) (isC isR is1 : List Nat) (hz : zperm nn isC isR is1 = true) (hlen : ws.length = nn) (hC : isC.filterMap (fun i => ws[i]?) = wc)
    (h1 : is1.map (fun i => (isR.filterMap (fun i => ws[i]?) ++ wc')[i]?) = ws'.map some) (hc : vwCl[ci]? = some q) (he : wc[0]? = some (b, .inr (ci, fs))) (hq : q.1 = C)
    (hn : As.length = n) (hl : ls.size = nL) (hst0 : st0 = As.reverse ++ .ref b :: rest) (hst : v.toList ++ rest = st1) (hroom : (rest.map fun v => v.category).sum ≤ 8) (hdg : decode cc pc = .ok (.invokevirtual index, 3)) (hcell : cells + mc ≤ R.cells ∧ slots + ms ≤ R.slots)
    (kk : ∀ (H1 : Heap) (locs1 : List Loc), va_P D vwCl ws' H1 → va_D A ws' → va_S A s.heap H1 locs1 → W p l e R s m args below meth c H1 locs1 (cells + mc) (slots + ms) Q (F0 m (pc + 3) ls st1)) : W p l e R s m args below meth c H locs cells slots Q (F0 m pc ls st0) := by
  subst hq
  have hPc := hP.sub isC hC
  have hmap := (z_mapS isC (fun i hi => hlen ▸ zperm_C hz i hi)).trans (congrArg _ hC)
  have hDc := hD.sub isC (zperm_nd hz) hmap
  have hF := va_free (wc := wc) hD hS hA isC hmap
  exact z_endm (va_runV S hM cw ⟨zPmS.blind, va_recv hK.1 hPc hc he, fun U hU hW => ⟨rfl, by rw [hU], by rw [hU]; exact hPc, hK.warm hW, hDc.weaken (fun _ _ _ _ => trivial), by rw [hU]; exact ((hT.kept hS.2.1).narrow hF).warm hW⟩⟩ rfl hn hl hst0 (lv_room hroom) hdg hcell) hst hP hD hS hA nn isC isR is1 hz hlen hC h1 kk
theorem z_VBS {bs cs' : List va_W} (S : CallFix p m c cc nL s args Ts own) (hK : zK D cI cZ cB s) (hT : zStr sa sv A s s.heap) (hM : Met l y wy ry (zPmS D cI cZ cB sa sv (.ref b :: As) H.size wc) (zQm D v wc' (va_A wc H.size)) mc ms (va_A wc H.size)) (cw : CallW R s args own C index y bytes maxL ret wy ry mc ms n)
    (hP : va_P D vwCl (zcat bs) H) (hD : va_D A (zcat bs)) (hS : va_S A s.heap H locs) (hA : ∀ q, s.heap.size ≤ q → A q) (nn : Nat) (isC isR is1 : List Nat) (hz : zpermB nn isC isR is1 = true) (hlen : bs.length = nn) (hC : zcat (isC.filterMap (fun i => bs[i]?)) = wc) (hc' : zcat cs' = wc')
    (h1 : zcat (is1.filterMap (fun i => (isR.filterMap (fun i => bs[i]?) ++ cs')[i]?)) = ws') (hl2 : cs'.length = (isC.filterMap (fun i => bs[i]?)).length) (hc : vwCl[ci]? = some q) (he : wc[0]? = some (b, .inr (ci, fs))) (hq : q.1 = C)
    (hn : As.length = n) (hl : ls.size = nL) (hst0 : st0 = As.reverse ++ .ref b :: rest) (hst : v.toList ++ rest = st1) (hroom : (rest.map fun v => v.category).sum ≤ 8) (hdg : decode cc pc = .ok (.invokevirtual index, 3)) (hcell : cells + mc ≤ R.cells ∧ slots + ms ≤ R.slots)
    (kk : ∀ (H1 : Heap) (locs1 : List Loc), va_P D vwCl ws' H1 → va_D A ws' → va_S A s.heap H1 locs1 → W p l e R s m args below meth c H1 locs1 (cells + mc) (slots + ms) Q (F0 m (pc + 3) ls st1)) : W p l e R s m args below meth c H locs cells slots Q (F0 m pc ls st0) := by
  subst hq
  obtain ⟨hP2, hD2, -, -⟩ := z_splitB hP hD hz hlen hC
  have hPc : va_P D vwCl wc H := z_Pm.mpr fun q hq => z_Pm.mp hP2 q (List.mem_append_right _ hq)
  have hDc : va_D A wc := z_Dn.mpr ⟨(List.nodup_append.mp (List.map_append (f := Prod.fst) ▸ (z_Dn.mp hD2).1)).2.1, fun q hq => (z_Dn.mp hD2).2 q (List.mem_append_right _ hq)⟩
  have hF : ∀ q, va_A wc H.size q → A q := by
    intro q h
    rcases h with ⟨k, e, h⟩ | h
    · exact (z_Dn.mp hDc).2 (q, e) (List.mem_of_getElem? h)
    · exact hA q (Nat.le_trans hS.1 h)
  exact z_endB (va_runV S hM cw ⟨zPmS.blind, va_recv hK.1 hPc hc he, fun U hU hW => ⟨rfl, by rw [hU], by rw [hU]; exact hPc, hK.warm hW, hDc.weaken (fun _ _ _ _ => trivial), by rw [hU]; exact ((hT.kept hS.2.1).narrow hF).warm hW⟩⟩ rfl hn hl hst0 (lv_room hroom) hdg hcell) hst hP hD hS hA nn isC isR is1 hz hlen hC hc' h1 hl2 kk
end ZSC
abbrev dlJ0_coder_7d493 : List (Nat × Instr × Nat) := [(0, .getstatic 38, 3), (3, .ifCond .eq 10, 3), (6, .aload_n 0, 1), (7, .getfield 15, 3), (10, .goto 4, 3), (13, .iconst 1, 1), (14, .ireturn, 1)]
theorem DJ0_coder_7d493 : zD cJ0_coder_7d493 dlJ0_coder_7d493 = true := by decide +kernel
theorem hdJ0_coder_7d493 : yJ0_coder_7d493.cls = "java/lang/String" ∧ yJ0_coder_7d493.cls ≠ "java/lang/invoke/MethodHandle" ∧ yJ0_coder_7d493.cls ≠ "java/lang/invoke/VarHandle" ∧ (parseMethodDescriptor yJ0_coder_7d493.desc).map (fun d => d.parameters.length) = some 0 := by decide +kernel
set_option maxHeartbeats 4000000 in
set_option maxRecDepth 100000 in
theorem ccJ0_coder_7d493 {l : Launch} {D : va_G} {cI cZ cB : ClassId} {sa sv : Nat → Nat} {i : Nat} (hi : i < 7) : Met l yJ0_coder_7d493 wsJ0_coder_7d493 ({ frames := 0, cells := 0, slots := 0, locals := 0 } : Room) (zPpS D cI cZ cB sa sv [.ref (sa i)] ([] : va_W)) (zQp (some (.int 0))) 0 0 (fun _ => False) := by
  refine z_startS RJ0 (by decide +kernel) rfl rfl (Nat.le_of_ble_eq_true rfl) ?_
  intro p e s m args below meth c ls hx hb hml hr hlocks hown hts hK hP hT hl
  have hS : va_S (fun _ => False) s.heap s.heap [] := va_S.rf
  have hl : lv_has ls 1 [(0, .ref (sa i))] := hl
  refine va_gets hx hb hT.2.1 hS hown (hts _ (List.mem_of_getElem? (i := 1) rfl)) (fun _ h => h) (zD_g DJ0_coder_7d493 0 rfl) ?_
  refine lv_if_eq (tgt := 13) hx hb (zD_g DJ0_coder_7d493 1 rfl) (by decide) (fun c => absurd c (by decide)) (fun _ => ?_)
  refine lv_aload_n hx hb (zD_g DJ0_coder_7d493 2 rfl) rfl (lv_at hl 0 rfl) ?_
  refine vk_getf hx hb (hT.1.1 i hi).2.1 hS hown (hts _ (List.mem_of_getElem? (i := 2) rfl)) (fun _ h => h) (zD_g DJ0_coder_7d493 3 rfl) ?_
  refine lv_goto (tgt := 14) hx hb (zD_g DJ0_coder_7d493 4 rfl) (by decide) ?_
  exact W.zret hx hb hr rfl (fun t ht hW => ⟨rfl, ht⟩) (fun _ h => by cases h) (zD_g DJ0_coder_7d493 6 rfl)
abbrev dlJ0_length_8abf5 : List (Nat × Instr × Nat) := [(0, .aload_n 0, 1), (1, .getfield 9, 3), (4, .arraylength, 1), (5, .aload_n 0, 1), (6, .invokevirtual 335, 3), (9, .ishr, 1), (10, .ireturn, 1)]
theorem DJ0_length_8abf5 : zD cJ0_length_8abf5 dlJ0_length_8abf5 = true := by decide +kernel
set_option maxRecDepth 20000 in
theorem ggJ0_length_8abf5_J0_coder_7d493 : GoodIn wsJ0_length_8abf5 wsJ0_coder_7d493 := goodIn_r _ [6, 7, 8] (by decide +kernel) (by decide +kernel)
set_option maxRecDepth 20000 in
theorem gJ0_length_8abf5_J0_coder_7d493 : GoodIn wsJ0_length_8abf5 (wsV RJ0 335 RJ0 yJ0_coder_7d493 wsJ0_coder_7d493) := goodIn_app (goodIn_of _ (by decide +kernel)) ggJ0_length_8abf5_J0_coder_7d493
theorem hdJ0_length_8abf5 : yJ0_length_8abf5.cls = "java/lang/String" ∧ yJ0_length_8abf5.cls ≠ "java/lang/invoke/MethodHandle" ∧ yJ0_length_8abf5.cls ≠ "java/lang/invoke/VarHandle" ∧ (parseMethodDescriptor yJ0_length_8abf5.desc).map (fun d => d.parameters.length) = some 0 := by decide +kernel
set_option maxHeartbeats 4000000 in
set_option maxRecDepth 100000 in
theorem ccJ0_length_8abf5 {l : Launch} {D : va_G} {cI cZ cB : ClassId} {sa sv : Nat → Nat} {i : Nat} (hi : i < 7) : Met l yJ0_length_8abf5 wsJ0_length_8abf5 ({ frames := 1, cells := 0, slots := 0, locals := 20 } : Room) (zPpS D cI cZ cB sa sv [.ref (sa i)] ([] : va_W)) (zQp (some (.int (nI (zsLen.getD i 0))))) 0 0 (fun _ => False) := by
  refine z_startS RJ0 (by decide +kernel) rfl rfl (Nat.le_of_ble_eq_true rfl) ?_
  intro p e s m args below meth c ls hx hb hml hr hlocks hown hts hK hP hT hl
  have hS : va_S (fun _ => False) s.heap s.heap [] := va_S.rf
  have hl : lv_has ls 1 [(0, .ref (sa i))] := hl
  refine lv_aload_n hx hb (zD_g DJ0_length_8abf5 0 rfl) rfl (lv_at hl 0 rfl) ?_
  refine vk_getf hx hb (hT.1.1 i hi).2.2.1 hS hown (hts _ (List.mem_of_getElem? (i := 1) rfl)) (fun _ h => h) (zD_g DJ0_length_8abf5 1 rfl) ?_
  refine va_tlen (v := nI (zsLen.getD i 0)) hx hb (hT.1.1 i hi).2.2.2 hS rfl (zD_g DJ0_length_8abf5 2 rfl) ?_
  refine lv_aload_n hx hb (zD_g DJ0_length_8abf5 3 rfl) rfl (lv_at hl 0 rfl) ?_
  refine z_Tp (As := []) (rest := [.int (nI (zsLen.getD i 0))]) hi ⟨hx, hb, hml, hown, hts⟩ hK hT (ccJ0_coder_7d493 hi) (cwV 0 hts gJ0_length_8abf5_J0_coder_7d493 rfl rfl rfl hdJ0_coder_7d493 ⟨Nat.le_of_ble_eq_true rfl, Nat.le_of_ble_eq_true rfl⟩) rfl hl.1 rfl rfl (Nat.le_of_ble_eq_true rfl) (zD_g DJ0_length_8abf5 4 rfl) ⟨Nat.zero_le _, Nat.zero_le _⟩ ?_
  refine lv_ishr hx hb (zD_g DJ0_length_8abf5 5 rfl) ?_
  rw [sb_shr0]
  exact W.iret hx hb hr (fun t ht hW => ⟨rfl, ht⟩) (fun _ h => by cases h) (zD_g DJ0_length_8abf5 6 rfl)
abbrev dlJ0_isLatin1_aae02 : List (Nat × Instr × Nat) := [(0, .getstatic 38, 3), (3, .ifCond .eq 14, 3), (6, .aload_n 0, 1), (7, .getfield 15, 3), (10, .ifCond .ne 7, 3), (13, .iconst 1, 1), (14, .goto 4, 3), (17, .iconst 0, 1), (18, .ireturn, 1)]
theorem DJ0_isLatin1_aae02 : zD cJ0_isLatin1_aae02 dlJ0_isLatin1_aae02 = true := by decide +kernel
theorem hdJ0_isLatin1_aae02 : yJ0_isLatin1_aae02.cls = "java/lang/String" ∧ yJ0_isLatin1_aae02.cls ≠ "java/lang/invoke/MethodHandle" ∧ yJ0_isLatin1_aae02.cls ≠ "java/lang/invoke/VarHandle" ∧ (parseMethodDescriptor yJ0_isLatin1_aae02.desc).map (fun d => d.parameters.length) = some 0 := by decide +kernel
set_option maxHeartbeats 4000000 in
set_option maxRecDepth 100000 in
theorem ccJ0_isLatin1_aae02 {l : Launch} {D : va_G} {cI cZ cB : ClassId} {sa sv : Nat → Nat} {i : Nat} (hi : i < 7) : Met l yJ0_isLatin1_aae02 wsJ0_isLatin1_aae02 ({ frames := 0, cells := 0, slots := 0, locals := 0 } : Room) (zPpS D cI cZ cB sa sv [.ref (sa i)] ([] : va_W)) (zQp (some (.int 1))) 0 0 (fun _ => False) := by
  refine z_startS RJ0 (by decide +kernel) rfl rfl (Nat.le_of_ble_eq_true rfl) ?_
  intro p e s m args below meth c ls hx hb hml hr hlocks hown hts hK hP hT hl
  have hS : va_S (fun _ => False) s.heap s.heap [] := va_S.rf
  have hl : lv_has ls 1 [(0, .ref (sa i))] := hl
  refine va_gets hx hb hT.2.1 hS hown (hts _ (List.mem_of_getElem? (i := 1) rfl)) (fun _ h => h) (zD_g DJ0_isLatin1_aae02 0 rfl) ?_
  refine lv_if_eq (tgt := 17) hx hb (zD_g DJ0_isLatin1_aae02 1 rfl) (by decide) (fun c => absurd c (by decide)) (fun _ => ?_)
  refine lv_aload_n hx hb (zD_g DJ0_isLatin1_aae02 2 rfl) rfl (lv_at hl 0 rfl) ?_
  refine vk_getf hx hb (hT.1.1 i hi).2.1 hS hown (hts _ (List.mem_of_getElem? (i := 2) rfl)) (fun _ h => h) (zD_g DJ0_isLatin1_aae02 3 rfl) ?_
  refine lv_if_ne (tgt := 17) hx hb (zD_g DJ0_isLatin1_aae02 4 rfl) (by decide) (fun c => absurd rfl c) (fun _ => ?_)
  refine lv_iconst (v := 1) hx hb (zD_g DJ0_isLatin1_aae02 5 rfl) (by decide) ?_
  refine lv_goto (tgt := 18) hx hb (zD_g DJ0_isLatin1_aae02 6 rfl) (by decide) ?_
  exact W.zret hx hb hr rfl (fun t ht hW => ⟨rfl, ht⟩) (fun _ h => by cases h) (zD_g DJ0_isLatin1_aae02 8 rfl)
abbrev dlJ3_checkIndex_8e157 : List (Nat × Instr × Nat) := [(0, .iload_n 0, 1), (1, .ifCond .lt 8, 3), (4, .iload_n 0, 1), (5, .iload_n 1, 1), (6, .if_icmp .lt 10, 3), (9, .aload_n 2, 1), (10, .iload_n 0, 1), (11, .iload_n 1, 1), (12, .invokestatic 95, 3), (15, .athrow, 1), (16, .iload_n 0, 1), (17, .ireturn, 1)]
theorem DJ3_checkIndex_8e157 : zD cJ3_checkIndex_8e157 dlJ3_checkIndex_8e157 = true := by decide +kernel
theorem hdJ3_checkIndex_8e157 : yJ3_checkIndex_8e157.cls ≠ "java/lang/invoke/MethodHandle" ∧ yJ3_checkIndex_8e157.cls ≠ "java/lang/invoke/VarHandle" ∧ (parseMethodDescriptor yJ3_checkIndex_8e157.desc).map (fun d => d.parameters.length) = some 3 := by decide +kernel
set_option maxHeartbeats 4000000 in
set_option maxRecDepth 100000 in
theorem ccJ3_checkIndex_8e157_n {l : Launch} {D : va_G} {cI cZ cB : ClassId} {sa sv : Nat → Nat}  {x n : Int32} (h0 : ¬ x < 0) (h1 : x < n) : Met l yJ3_checkIndex_8e157 wsJ3_checkIndex_8e157 ({ frames := 0, cells := 0, slots := 0, locals := 0 } : Room) (zPpS D cI cZ cB sa sv [.int x, .int n, .null] ([] : va_W)) (zQp (some (.int x))) 0 0 (fun _ => False) := by
  refine z_startS RJ3 (by decide +kernel) rfl rfl (Nat.le_of_ble_eq_true rfl) ?_
  intro p e s m args below meth c ls hx hb hml hr hlocks hown hts hK hP hT hl
  have hS : va_S (fun _ => False) s.heap s.heap [] := va_S.rf
  have hl : lv_has ls 3 [(0, .int x), (1, .int n), (2, .null)] := hl
  refine lv_iload_n hx hb (zD_g DJ3_checkIndex_8e157 0 rfl) rfl (lv_at hl 0 rfl) ?_
  refine lv_if_lt (tgt := 9) hx hb (zD_g DJ3_checkIndex_8e157 1 rfl) (by decide) (fun c => absurd c h0) (fun _ => ?_)
  refine lv_iload_n hx hb (zD_g DJ3_checkIndex_8e157 2 rfl) rfl (lv_at hl 0 rfl) ?_
  refine lv_iload_n hx hb (zD_g DJ3_checkIndex_8e157 3 rfl) rfl (lv_at hl 1 rfl) ?_
  refine lv_icmp_lt (tgt := 16) hx hb (zD_g DJ3_checkIndex_8e157 4 rfl) (by decide) (fun _ => ?_) (fun c => absurd h1 c)
  refine lv_iload_n hx hb (zD_g DJ3_checkIndex_8e157 10 rfl) rfl (lv_at hl 0 rfl) ?_
  exact W.iret hx hb hr (fun t ht hW => ⟨rfl, ht⟩) (fun _ h => by cases h) (zD_g DJ3_checkIndex_8e157 11 rfl)
set_option maxHeartbeats 4000000 in
set_option maxRecDepth 100000 in
theorem ccJ3_checkIndex_8e157_r {l : Launch} {D : va_G} {cI cZ cB : ClassId} {sa sv : Nat → Nat} {t : Nat} {x n : Int32} (h0 : ¬ x < 0) (h1 : x < n) : Met l yJ3_checkIndex_8e157 wsJ3_checkIndex_8e157 ({ frames := 0, cells := 0, slots := 0, locals := 0 } : Room) (zPpS D cI cZ cB sa sv [.int x, .int n, .ref t] ([] : va_W)) (zQp (some (.int x))) 0 0 (fun _ => False) := by
  refine z_startS RJ3 (by decide +kernel) rfl rfl (Nat.le_of_ble_eq_true rfl) ?_
  intro p e s m args below meth c ls hx hb hml hr hlocks hown hts hK hP hT hl
  have hS : va_S (fun _ => False) s.heap s.heap [] := va_S.rf
  have hl : lv_has ls 3 [(0, .int x), (1, .int n), (2, .ref t)] := hl
  refine lv_iload_n hx hb (zD_g DJ3_checkIndex_8e157 0 rfl) rfl (lv_at hl 0 rfl) ?_
  refine lv_if_lt (tgt := 9) hx hb (zD_g DJ3_checkIndex_8e157 1 rfl) (by decide) (fun c => absurd c h0) (fun _ => ?_)
  refine lv_iload_n hx hb (zD_g DJ3_checkIndex_8e157 2 rfl) rfl (lv_at hl 0 rfl) ?_
  refine lv_iload_n hx hb (zD_g DJ3_checkIndex_8e157 3 rfl) rfl (lv_at hl 1 rfl) ?_
  refine lv_icmp_lt (tgt := 16) hx hb (zD_g DJ3_checkIndex_8e157 4 rfl) (by decide) (fun _ => ?_) (fun c => absurd h1 c)
  refine lv_iload_n hx hb (zD_g DJ3_checkIndex_8e157 10 rfl) rfl (lv_at hl 0 rfl) ?_
  exact W.iret hx hb hr (fun t ht hW => ⟨rfl, ht⟩) (fun _ h => by cases h) (zD_g DJ3_checkIndex_8e157 11 rfl)
abbrev dlJ0_checkIndex_df160 : List (Nat × Instr × Nat) := [(0, .iload_n 0, 1), (1, .iload_n 1, 1), (2, .getstatic 1053, 3), (5, .invokestatic 1059, 3), (8, .pop, 1), (9, .return_, 1)]
theorem DJ0_checkIndex_df160 : zD cJ0_checkIndex_df160 dlJ0_checkIndex_df160 = true := by decide +kernel
set_option maxRecDepth 20000 in
theorem ggJ0_checkIndex_df160_J3_checkIndex_8e157 : GoodIn wsJ0_checkIndex_df160 wsJ3_checkIndex_8e157 := goodIn_r _ [5] (by decide +kernel) (by decide +kernel)
set_option maxRecDepth 20000 in
theorem gJ0_checkIndex_df160_J3_checkIndex_8e157 : GoodIn wsJ0_checkIndex_df160 (va_wsS RJ0 1059 yJ3_checkIndex_8e157 wsJ3_checkIndex_8e157) := goodIn_app (goodIn_of _ (by decide +kernel)) ggJ0_checkIndex_df160_J3_checkIndex_8e157
theorem hdJ0_checkIndex_df160 : yJ0_checkIndex_df160.cls ≠ "java/lang/invoke/MethodHandle" ∧ yJ0_checkIndex_df160.cls ≠ "java/lang/invoke/VarHandle" ∧ (parseMethodDescriptor yJ0_checkIndex_df160.desc).map (fun d => d.parameters.length) = some 2 := by decide +kernel
set_option maxHeartbeats 4000000 in
set_option maxRecDepth 100000 in
theorem ccJ0_checkIndex_df160 {l : Launch} {D : va_G} {cI cZ cB : ClassId} {sa sv : Nat → Nat} {x n : Int32} (h0 : ¬ x < 0) (h1 : x < n) : Met l yJ0_checkIndex_df160 wsJ0_checkIndex_df160 ({ frames := 1, cells := 0, slots := 0, locals := 22 } : Room) (zPpS D cI cZ cB sa sv [.int x, .int n] ([] : va_W)) (zQp none) 0 0 (fun _ => False) := by
  refine z_startS RJ0 (by decide +kernel) rfl rfl (Nat.le_of_ble_eq_true rfl) ?_
  intro p e s m args below meth c ls hx hb hml hr hlocks hown hts hK hP hT hl
  have hS : va_S (fun _ => False) s.heap s.heap [] := va_S.rf
  have hl : lv_has ls 2 [(0, .int x), (1, .int n)] := hl
  refine lv_iload_n hx hb (zD_g DJ0_checkIndex_df160 0 rfl) rfl (lv_at hl 0 rfl) ?_
  refine lv_iload_n hx hb (zD_g DJ0_checkIndex_df160 1 rfl) rfl (lv_at hl 1 rfl) ?_
  rcases hT.2.2.1 with hz | ⟨t, hz⟩
  · refine va_gets hx hb hz hS hown (hts _ (List.mem_of_getElem? (i := 1) rfl)) (fun _ h => h) (zD_g DJ0_checkIndex_df160 2 rfl) ?_
    refine z_SpS (As := [.int x, .int n, .null]) (rest := []) ⟨hx, hb, hml, hown, hts⟩ hK hT (ccJ3_checkIndex_8e157_n h0 h1) (va_cwS 3 hts gJ0_checkIndex_df160_J3_checkIndex_8e157 rfl rfl rfl hdJ3_checkIndex_8e157 ⟨Nat.le_of_ble_eq_true rfl, Nat.le_of_ble_eq_true rfl⟩) (fun k q h => by simp at h) rfl hl.1 rfl rfl (Nat.le_of_ble_eq_true rfl) (zD_g DJ0_checkIndex_df160 3 rfl) ⟨Nat.zero_le _, Nat.zero_le _⟩ ?_
    refine lv_pop hx hb (zD_g DJ0_checkIndex_df160 4 rfl) rfl ?_
    exact W.vret hx hb hr (fun t ht hW => ⟨rfl, ht⟩) (fun _ h => by cases h) (zD_g DJ0_checkIndex_df160 5 rfl)
  · refine va_gets hx hb hz hS hown (hts _ (List.mem_of_getElem? (i := 1) rfl)) (fun _ h => h) (zD_g DJ0_checkIndex_df160 2 rfl) ?_
    refine z_SpS (As := [.int x, .int n, .ref t]) (rest := []) ⟨hx, hb, hml, hown, hts⟩ hK hT (ccJ3_checkIndex_8e157_r h0 h1) (va_cwS 3 hts gJ0_checkIndex_df160_J3_checkIndex_8e157 rfl rfl rfl hdJ3_checkIndex_8e157 ⟨Nat.le_of_ble_eq_true rfl, Nat.le_of_ble_eq_true rfl⟩) (fun k q h => by simp at h) rfl hl.1 rfl rfl (Nat.le_of_ble_eq_true rfl) (zD_g DJ0_checkIndex_df160 3 rfl) ⟨Nat.zero_le _, Nat.zero_le _⟩ ?_
    refine lv_pop hx hb (zD_g DJ0_checkIndex_df160 4 rfl) rfl ?_
    exact W.vret hx hb hr (fun t ht hW => ⟨rfl, ht⟩) (fun _ h => by cases h) (zD_g DJ0_checkIndex_df160 5 rfl)
abbrev dlJ1_charAt_3b067 : List (Nat × Instr × Nat) := [(0, .iload_n 1, 1), (1, .aload_n 0, 1), (2, .arraylength, 1), (3, .invokestatic 9, 3), (6, .aload_n 0, 1), (7, .iload_n 1, 1), (8, .baload, 1), (9, .sipush 255, 3), (12, .iand, 1), (13, .i2c, 1), (14, .ireturn, 1)]
theorem DJ1_charAt_3b067 : zD cJ1_charAt_3b067 dlJ1_charAt_3b067 = true := by decide +kernel
set_option maxRecDepth 20000 in
theorem ggJ1_charAt_3b067_J0_checkIndex_df160 : GoodIn wsJ1_charAt_3b067 wsJ0_checkIndex_df160 := goodIn_r _ [4, 5, 6, 7, 8, 9] (by decide +kernel) (by decide +kernel)
set_option maxRecDepth 20000 in
theorem gJ1_charAt_3b067_J0_checkIndex_df160 : GoodIn wsJ1_charAt_3b067 (va_wsS RJ1 9 yJ0_checkIndex_df160 wsJ0_checkIndex_df160) := goodIn_app (goodIn_of _ (by decide +kernel)) ggJ1_charAt_3b067_J0_checkIndex_df160
theorem hdJ1_charAt_3b067 : yJ1_charAt_3b067.cls ≠ "java/lang/invoke/MethodHandle" ∧ yJ1_charAt_3b067.cls ≠ "java/lang/invoke/VarHandle" ∧ (parseMethodDescriptor yJ1_charAt_3b067.desc).map (fun d => d.parameters.length) = some 2 := by decide +kernel
set_option maxHeartbeats 4000000 in
set_option maxRecDepth 100000 in
theorem ccJ1_charAt_3b067 {l : Launch} {D : va_G} {cI cZ cB : ClassId} {sa sv : Nat → Nat} {i : Nat} (hi : i < 7) {x : Int32} (hx0 : vp_in x (zsLen.getD i 0)) : Met l yJ1_charAt_3b067 wsJ1_charAt_3b067 ({ frames := 2, cells := 0, slots := 0, locals := 43 } : Room) (zPpS D cI cZ cB sa sv [.ref (sv i), .int x] ([] : va_W)) (zQp (some (.int (zsC i x)))) 0 0 (fun _ => False) := by
  have hlen : zsLen.getD i 0 < 2 ^ 31 := (co_dec (N := 7) (P := fun i => zsLen.getD i 0 < 2 ^ 31) (by decide +kernel) hi)
  have h0 : ¬ x < 0 := fun h => hx0 (Or.inl h)
  have h1 : x < nI (zsLen.getD i 0) := by
    obtain ⟨j, hj, rfl⟩ := vp_in_of hx0 hlen
    exact nI_lt hj hlen
  refine z_startS RJ1 (by decide +kernel) rfl rfl (Nat.le_of_ble_eq_true rfl) ?_
  intro p e s m args below meth c ls hx hb hml hr hlocks hown hts hK hP hT hl
  have hS : va_S (fun _ => False) s.heap s.heap [] := va_S.rf
  have hl : lv_has ls 2 [(0, .ref (sv i)), (1, .int x)] := hl
  refine lv_iload_n hx hb (zD_g DJ1_charAt_3b067 0 rfl) rfl (lv_at hl 1 rfl) ?_
  refine lv_aload_n hx hb (zD_g DJ1_charAt_3b067 1 rfl) rfl (lv_at hl 0 rfl) ?_
  refine va_tlen (v := nI (zsLen.getD i 0)) hx hb (hT.1.1 i hi).2.2.2 hS rfl (zD_g DJ1_charAt_3b067 2 rfl) ?_
  refine z_SpS (As := [.int x, .int (nI (zsLen.getD i 0))]) (rest := []) ⟨hx, hb, hml, hown, hts⟩ hK hT (ccJ0_checkIndex_df160 h0 h1) (va_cwS 2 hts gJ1_charAt_3b067_J0_checkIndex_df160 rfl rfl rfl hdJ0_checkIndex_df160 ⟨Nat.le_of_ble_eq_true rfl, Nat.le_of_ble_eq_true rfl⟩) (fun k q h => by simp at h) rfl hl.1 rfl rfl (Nat.le_of_ble_eq_true rfl) (zD_g DJ1_charAt_3b067 3 rfl) ⟨Nat.zero_le _, Nat.zero_le _⟩ ?_
  refine lv_aload_n hx hb (zD_g DJ1_charAt_3b067 4 rfl) rfl (lv_at hl 0 rfl) ?_
  refine lv_iload_n hx hb (zD_g DJ1_charAt_3b067 5 rfl) rfl (lv_at hl 1 rfl) ?_
  refine va_tb hx hb (hT.1.1 i hi).2.2.2 hS hx0 rfl (zD_g DJ1_charAt_3b067 6 rfl) ?_
  refine lv_sipush (v := 255) hx hb (zD_g DJ1_charAt_3b067 7 rfl) (by decide) ?_
  refine lv_iand hx hb (zD_g DJ1_charAt_3b067 8 rfl) ?_
  refine lv_i2c (v := zsC i x) hx hb (zD_g DJ1_charAt_3b067 9 rfl) rfl ?_
  exact W.zret hx hb hr (pk_nc _) (fun t ht hW => ⟨rfl, ht⟩) (fun _ h => by cases h) (zD_g DJ1_charAt_3b067 10 rfl)
abbrev dlJ0_charAt_5068e : List (Nat × Instr × Nat) := [(0, .aload_n 0, 1), (1, .invokevirtual 492, 3), (4, .ifCond .eq 12, 3), (7, .aload_n 0, 1), (8, .getfield 9, 3), (11, .iload_n 1, 1), (12, .invokestatic 495, 3), (15, .ireturn, 1), (16, .aload_n 0, 1), (17, .getfield 9, 3), (20, .iload_n 1, 1), (21, .invokestatic 498, 3), (24, .ireturn, 1)]
theorem DJ0_charAt_5068e : zD cJ0_charAt_5068e dlJ0_charAt_5068e = true := by decide +kernel
set_option maxRecDepth 20000 in
theorem ggJ0_charAt_5068e_J0_isLatin1_aae02 : GoodIn wsJ0_charAt_5068e wsJ0_isLatin1_aae02 := goodIn_r _ [6, 7, 8] (by decide +kernel) (by decide +kernel)
set_option maxRecDepth 20000 in
theorem gJ0_charAt_5068e_J0_isLatin1_aae02 : GoodIn wsJ0_charAt_5068e (wsV RJ0 492 RJ0 yJ0_isLatin1_aae02 wsJ0_isLatin1_aae02) := goodIn_app (goodIn_of _ (by decide +kernel)) ggJ0_charAt_5068e_J0_isLatin1_aae02
set_option maxRecDepth 20000 in
theorem ggJ0_charAt_5068e_J1_charAt_3b067 : GoodIn wsJ0_charAt_5068e wsJ1_charAt_3b067 := goodIn_r _ [12, 13, 14, 5, 15, 16, 17, 18, 19, 20] (by decide +kernel) (by decide +kernel)
set_option maxRecDepth 20000 in
theorem gJ0_charAt_5068e_J1_charAt_3b067 : GoodIn wsJ0_charAt_5068e (va_wsS RJ0 495 yJ1_charAt_3b067 wsJ1_charAt_3b067) := goodIn_app (goodIn_of _ (by decide +kernel)) ggJ0_charAt_5068e_J1_charAt_3b067
set_option maxRecDepth 20000 in
theorem ggJ0_charAt_5068e_J2_charAt_3b067 : GoodIn wsJ0_charAt_5068e wsJ2_charAt_3b067 := goodIn_r _ [24, 25, 26, 23, 27, 28, 29, 30, 31, 14, 5, 15, 16, 17, 18, 19, 20, 32, 33, 34, 35, 36, 37] (by decide +kernel) (by decide +kernel)
set_option maxRecDepth 20000 in
theorem gJ0_charAt_5068e_J2_charAt_3b067 : GoodIn wsJ0_charAt_5068e (va_wsS RJ0 498 yJ2_charAt_3b067 wsJ2_charAt_3b067) := goodIn_app (goodIn_of _ (by decide +kernel)) ggJ0_charAt_5068e_J2_charAt_3b067
theorem hdJ0_charAt_5068e : yJ0_charAt_5068e.cls = "java/lang/String" ∧ yJ0_charAt_5068e.cls ≠ "java/lang/invoke/MethodHandle" ∧ yJ0_charAt_5068e.cls ≠ "java/lang/invoke/VarHandle" ∧ (parseMethodDescriptor yJ0_charAt_5068e.desc).map (fun d => d.parameters.length) = some 1 := by decide +kernel
set_option maxHeartbeats 4000000 in
set_option maxRecDepth 100000 in
theorem ccJ0_charAt_5068e {l : Launch} {D : va_G} {cI cZ cB : ClassId} {sa sv : Nat → Nat} {i : Nat} (hi : i < 7) {x : Int32} (hx0 : vp_in x (zsLen.getD i 0)) : Met l yJ0_charAt_5068e wsJ0_charAt_5068e ({ frames := 3, cells := 0, slots := 0, locals := 64 } : Room) (zPpS D cI cZ cB sa sv [.ref (sa i), .int x] ([] : va_W)) (zQp (some (.int (zsC i x)))) 0 0 (fun _ => False) := by
  refine z_startS RJ0 (by decide +kernel) rfl rfl (Nat.le_of_ble_eq_true rfl) ?_
  intro p e s m args below meth c ls hx hb hml hr hlocks hown hts hK hP hT hl
  have hS : va_S (fun _ => False) s.heap s.heap [] := va_S.rf
  have hl : lv_has ls 2 [(0, .ref (sa i)), (1, .int x)] := hl
  refine lv_aload_n hx hb (zD_g DJ0_charAt_5068e 0 rfl) rfl (lv_at hl 0 rfl) ?_
  refine z_Tp (As := []) (rest := []) hi ⟨hx, hb, hml, hown, hts⟩ hK hT (ccJ0_isLatin1_aae02 hi) (cwV 0 hts gJ0_charAt_5068e_J0_isLatin1_aae02 rfl rfl rfl hdJ0_isLatin1_aae02 ⟨Nat.le_of_ble_eq_true rfl, Nat.le_of_ble_eq_true rfl⟩) rfl hl.1 rfl rfl (Nat.le_of_ble_eq_true rfl) (zD_g DJ0_charAt_5068e 1 rfl) ⟨Nat.zero_le _, Nat.zero_le _⟩ ?_
  refine lv_if_eq (tgt := 16) hx hb (zD_g DJ0_charAt_5068e 2 rfl) (by decide) (fun c => absurd c (by decide)) (fun _ => ?_)
  refine lv_aload_n hx hb (zD_g DJ0_charAt_5068e 3 rfl) rfl (lv_at hl 0 rfl) ?_
  refine vk_getf hx hb (hT.1.1 i hi).2.2.1 hS hown (hts _ (List.mem_of_getElem? (i := 1) rfl)) (fun _ h => h) (zD_g DJ0_charAt_5068e 4 rfl) ?_
  refine lv_iload_n hx hb (zD_g DJ0_charAt_5068e 5 rfl) rfl (lv_at hl 1 rfl) ?_
  refine z_SpS (As := [.ref (sv i), .int x]) (rest := []) ⟨hx, hb, hml, hown, hts⟩ hK hT (ccJ1_charAt_3b067 hi hx0) (va_cwS 2 hts gJ0_charAt_5068e_J1_charAt_3b067 rfl rfl rfl hdJ1_charAt_3b067 ⟨Nat.le_of_ble_eq_true rfl, Nat.le_of_ble_eq_true rfl⟩) (fun k q h => by simp at h) rfl hl.1 rfl rfl (Nat.le_of_ble_eq_true rfl) (zD_g DJ0_charAt_5068e 6 rfl) ⟨Nat.zero_le _, Nat.zero_le _⟩ ?_
  exact W.zret hx hb hr (pk_nc _) (fun t ht hW => ⟨rfl, ht⟩) (fun _ h => by cases h) (zD_g DJ0_charAt_5068e 7 rfl)
abbrev dlX3_spelling : List (Nat × Instr × Nat) := [(0, .iload_n 0, 1), (1, .tableswitch 57 0 5 #[39, 42, 45, 48, 51, 54], 39), (40, .ldc 82, 2), (42, .areturn, 1), (43, .ldc 84, 2), (45, .areturn, 1), (46, .ldc 86, 2), (48, .areturn, 1), (49, .ldc 88, 2), (51, .areturn, 1), (52, .ldc 90, 2), (54, .areturn, 1), (55, .ldc 92, 2), (57, .areturn, 1), (58, .ldc 94, 2), (60, .areturn, 1)]
theorem DX3_spelling : zD cX3_spelling dlX3_spelling = true := by decide +kernel
theorem hd3_spelling : yX3_spelling.cls ≠ "java/lang/invoke/MethodHandle" ∧ yX3_spelling.cls ≠ "java/lang/invoke/VarHandle" ∧ (parseMethodDescriptor yX3_spelling.desc).map (fun d => d.parameters.length) = some 1 := by decide +kernel
set_option maxHeartbeats 4000000 in
set_option maxRecDepth 100000 in
theorem c3_spelling {l : Launch} {D : va_G} {cI cZ cB : ClassId} {sa sv : Nat → Nat} {a_word : Int32} {k : Nat} (hf : f3_spelling a_word = some k) : Met l yX3_spelling wsX3_spelling ({ frames := 0, cells := 0, slots := 0, locals := 0 } : Room) (zPpS D cI cZ cB sa sv [.int a_word] ([] : va_W)) (zQp (some (.ref (sa k)))) 0 0 (fun _ => False) := by
  unfold f3_spelling at hf
  refine z_startS RX3 (by decide +kernel) rfl rfl (Nat.le_of_ble_eq_true rfl) ?_
  intro p e s m args below meth c ls hx hb hml hr hlocks hown hts hK hP hT hl
  have hl : lv_has ls 1 [(0, .int a_word)] := hl
  refine lv_iload_n hx hb (zD_g DX3_spelling 0 rfl) rfl (lv_at hl 0 rfl) ?_
  by_cases c0 : a_word = 0
  · replace hf := z_t c0 hf
    cases hf
    refine lv_tableIn (off := 39) (tgt := 40) hx hb (zD_g DX3_spelling 1 rfl) (by rw [c0]; decide) (by rw [c0]; decide) (by rw [c0]; decide) (by decide) ?_
    refine va_ldcS hx hb hown (hT.2.2.2 0 (by decide)) (zD_g DX3_spelling 2 rfl) ?_
    exact W.aret hx hb hr (Or.inl ⟨_, rfl⟩) (Or.inr ⟨_, rfl⟩) (fun t ht hW => ⟨rfl, ht⟩) (fun _ h => by cases h) (zD_g DX3_spelling 3 rfl)
  replace hf := z_f c0 hf
  by_cases c1 : a_word = 1
  · replace hf := z_t c1 hf
    cases hf
    refine lv_tableIn (off := 42) (tgt := 43) hx hb (zD_g DX3_spelling 1 rfl) (by rw [c1]; decide) (by rw [c1]; decide) (by rw [c1]; decide) (by decide) ?_
    refine va_ldcS hx hb hown (hT.2.2.2 1 (by decide)) (zD_g DX3_spelling 4 rfl) ?_
    exact W.aret hx hb hr (Or.inl ⟨_, rfl⟩) (Or.inr ⟨_, rfl⟩) (fun t ht hW => ⟨rfl, ht⟩) (fun _ h => by cases h) (zD_g DX3_spelling 5 rfl)
  replace hf := z_f c1 hf
  by_cases c2 : a_word = 2
  · replace hf := z_t c2 hf
    cases hf
    refine lv_tableIn (off := 45) (tgt := 46) hx hb (zD_g DX3_spelling 1 rfl) (by rw [c2]; decide) (by rw [c2]; decide) (by rw [c2]; decide) (by decide) ?_
    refine va_ldcS hx hb hown (hT.2.2.2 2 (by decide)) (zD_g DX3_spelling 6 rfl) ?_
    exact W.aret hx hb hr (Or.inl ⟨_, rfl⟩) (Or.inr ⟨_, rfl⟩) (fun t ht hW => ⟨rfl, ht⟩) (fun _ h => by cases h) (zD_g DX3_spelling 7 rfl)
  replace hf := z_f c2 hf
  by_cases c3 : a_word = 3
  · replace hf := z_t c3 hf
    cases hf
    refine lv_tableIn (off := 48) (tgt := 49) hx hb (zD_g DX3_spelling 1 rfl) (by rw [c3]; decide) (by rw [c3]; decide) (by rw [c3]; decide) (by decide) ?_
    refine va_ldcS hx hb hown (hT.2.2.2 3 (by decide)) (zD_g DX3_spelling 8 rfl) ?_
    exact W.aret hx hb hr (Or.inl ⟨_, rfl⟩) (Or.inr ⟨_, rfl⟩) (fun t ht hW => ⟨rfl, ht⟩) (fun _ h => by cases h) (zD_g DX3_spelling 9 rfl)
  replace hf := z_f c3 hf
  by_cases c4 : a_word = 4
  · replace hf := z_t c4 hf
    cases hf
    refine lv_tableIn (off := 51) (tgt := 52) hx hb (zD_g DX3_spelling 1 rfl) (by rw [c4]; decide) (by rw [c4]; decide) (by rw [c4]; decide) (by decide) ?_
    refine va_ldcS hx hb hown (hT.2.2.2 4 (by decide)) (zD_g DX3_spelling 10 rfl) ?_
    exact W.aret hx hb hr (Or.inl ⟨_, rfl⟩) (Or.inr ⟨_, rfl⟩) (fun t ht hW => ⟨rfl, ht⟩) (fun _ h => by cases h) (zD_g DX3_spelling 11 rfl)
  replace hf := z_f c4 hf
  by_cases c5 : a_word = 5
  · replace hf := z_t c5 hf
    cases hf
    refine lv_tableIn (off := 54) (tgt := 55) hx hb (zD_g DX3_spelling 1 rfl) (by rw [c5]; decide) (by rw [c5]; decide) (by rw [c5]; decide) (by decide) ?_
    refine va_ldcS hx hb hown (hT.2.2.2 5 (by decide)) (zD_g DX3_spelling 12 rfl) ?_
    exact W.aret hx hb hr (Or.inl ⟨_, rfl⟩) (Or.inr ⟨_, rfl⟩) (fun t ht hW => ⟨rfl, ht⟩) (fun _ h => by cases h) (zD_g DX3_spelling 13 rfl)
  replace hf := z_f c5 hf
  cases hf
  have z0 : a_word.toInt ≠ 0 := z_ni c0
  have z1 : a_word.toInt ≠ 1 := z_ni c1
  have z2 : a_word.toInt ≠ 2 := z_ni c2
  have z3 : a_word.toInt ≠ 3 := z_ni c3
  have z4 : a_word.toInt ≠ 4 := z_ni c4
  have z5 : a_word.toInt ≠ 5 := z_ni c5
  refine lv_tableOut (tgt := 58) hx hb (zD_g DX3_spelling 1 rfl) (by omega) (by decide) ?_
  refine va_ldcS hx hb hown (hT.2.2.2 6 (by decide)) (zD_g DX3_spelling 14 rfl) ?_
  exact W.aret hx hb hr (Or.inl ⟨_, rfl⟩) (Or.inr ⟨_, rfl⟩) (fun t ht hW => ⟨rfl, ht⟩) (fun _ h => by cases h) (zD_g DX3_spelling 15 rfl)
