abbrev vwCl : List vw_C := [(RX0, TX0, 8), (RX2, TX2, 2), (RX3, TX3, 6), (RX4, TX4, 19), (RX5, TX5, 13), (RX6, TX6, 19)]
def zD (bs : ByteArray) (L : List (Nat × Instr × Nat)) : Bool := L.all (fun q => decide (decode bs q.1 = .ok (q.2.1, q.2.2)))
theorem zD_g {bs : ByteArray} {L : List (Nat × Instr × Nat)} (h : zD bs L = true) {pc : Nat} {i : Instr} {n : Nat} (k : Nat) (hk : L[k]? = some (pc, i, n)) : decode bs pc = .ok (i, n) := by
  have h1 := List.all_eq_true.mp h (pc, i, n) (List.mem_of_getElem? hk)
  exact of_decide_eq_true (p := decode bs pc = .ok (i, n)) h1
/-! ===== the Z rows: contracts whose ends are exact values, over the kit's worlds ===== -/
def zNestL : List (String × Nat × MethodName) := [(RX5, 34, yX0_init), (RX5, 41, yX3_init), (RX0, 56, yX5_within), (RX0, 60, yX5_copyInts), (RX3, 32, yX5_within), (RX4, 59, yX2_init), (RX4, 80, yX5_copyInts), (RX4, 90, yX5_within), (RX4, 94, yX5_isCity), (RX4, 119, yX5_isHour), (RX4, 149, yX5_sumOver)]
def zK (D : va_G) (cI cZ cB : ClassId) (U : State) : Prop := va_K D vwCl [(cI, .int), (cZ, .boolean), (cB, .byte)] U ∧ ∀ q ∈ zNestL, va_Nw (.methodLinkNest q.1 q.2.1 q.2.2 RX5) U
theorem zK.warm {D : va_G} {cI cZ cB : ClassId} {s U : State} (hW : s.WarmedH U.vm) (h : zK D cI cZ cB s) : zK D cI cZ cB U :=
  ⟨va_K.moved hW.alike h.1, fun q hq => va_Nw.warmM hW (h.2 q hq)⟩
theorem zK.call {D : va_G} {cI cZ cB : ClassId} {U : State} {g : JFrame} {mk : MethodId} {a : Array Value} (h : zK D cI cZ cB U) : zK D cI cZ cB (U.calling g mk a) :=
  ⟨va_K.moved (u := U) (U := U.calling g mk a) (Vm.Alike.refl U.vm) h.1, fun q hq => va_Nw.same rfl rfl (h.2 q hq)⟩
/-- pure methods: start, end -/
def zPp (D : va_G) (cI cZ cB : ClassId) (av : List Value) (wd : va_W) : Array Value → State → Prop := va_Pc av (fun U => va_P D vwCl wd U.heap ∧ zK D cI cZ cB U)
def zQp (v : Option Value) : Array Value → State → Outcome → State → Prop := fun _ st oc t => oc = .returned v ∧ t.heap = st.heap
/-- methods that write: start, end -/
def zPm (D : va_G) (cI cZ cB : ClassId) (av : List Value) (sz : Nat) (wd : va_W) : Array Value → State → Prop := va_Pc av (fun U => U.heap.size = sz ∧ va_P D vwCl wd U.heap ∧ zK D cI cZ cB U ∧ va_D (fun _ => True) wd)
def zQm (D : va_G) (v : Option Value) (wd : va_W) (A : Nat → Prop) : Array Value → State → Outcome → State → Prop := fun _ st oc t => (oc = .returned v ∧ va_P D vwCl wd t.heap ∧ va_D A wd) ∧ va_F A st t
theorem zPp.blind {D : va_G} {cI cZ cB : ClassId} {av : List Value} {wd : va_W} : FrameBlind (zPp D cI cZ cB av wd) := fun _ _ _ _ h => ⟨h.1, h.2.1, h.2.2.call⟩
theorem zPm.blind {D : va_G} {cI cZ cB : ClassId} {av : List Value} {sz : Nat} {wd : va_W} : FrameBlind (zPm D cI cZ cB av sz wd) := fun _ _ _ _ h => ⟨h.1, h.2.1, h.2.2.1, h.2.2.2.1.call, h.2.2.2.2⟩
section ZST
variable {l : Launch} {y : MethodName} {ws ws' : List Cond} {maxL : Nat} {cc : ByteArray} {rm : Room} {D : va_G} {cI cZ cB : ClassId} {av : List Value} {wd wd' : va_W} {r : Int32} {rl : Int64} {sz : Nat}
theorem z_pureI (own : String) (hy : plainName y.cls = true) (hw : ws = Cond.code y cc maxL (some .int) :: ws') (ho : y.cls = own) (hlen : (lg_sl av).length ≤ maxL)
    (body : ∀ (p : Program) (e : Env) (s : State) (m : MethodId) (args : Array Value) (below : List Frame) (meth : Method) (c : Code) (Q : State → Prop) (ls : Array Slot),
      p.tables.exec = Jvm.exec → c.code = cc → c.maxLocals = maxL → s.vm.findClass own = some m.cls → (∀ w ∈ ws, w.before args s = true) → zK D cI cZ cB s → va_P D vwCl wd s.heap →
      (∀ (pc : Nat) (ls : Array Slot), decode cc pc = .ok (.ireturn, 1) → W p l e rm s m args below meth c s.heap [] 0 0 Q (F0 m pc ls [.int r])) →
      lv_has ls maxL (lv_args 0 av) → W p l e rm s m args below meth c s.heap [] 0 0 Q (F0 m 0 ls [])) :
    Met l y ws rm (zPp D cI cZ cB av wd) (zQp (some (.int r))) 0 0 (fun _ => False) := by
  refine Met.ofW hy hw ?_
  intro p e s m args below meth c s₁ B hml hv
  obtain ⟨rfl, hP, hK⟩ := hv
  have hown : s.vm.findClass y.cls = some m.cls := findClass_of_methodNamed B.named
  rw [ho] at hown
  have hl := lv_entry av (n := maxL) hlen
  rw [lg_entry_eq]
  have hlocks := B.notSynchronized
  exact body p e s m _ below meth c _ _ B.exec B.bytes hml hown (atoms_spec B.pre) hK hP (fun pc ls hd => W.iret B.exec B.bytes B.returns (fun t ht hW => ⟨rfl, ht⟩) (fun _ h => by cases h) hd) hl
theorem z_pureZ (own : String) (hy : plainName y.cls = true) (hw : ws = Cond.code y cc maxL (some .boolean) :: ws') (ho : y.cls = own) (hlen : (lg_sl av).length ≤ maxL)
    (body : ∀ (p : Program) (e : Env) (s : State) (m : MethodId) (args : Array Value) (below : List Frame) (meth : Method) (c : Code) (Q : State → Prop) (ls : Array Slot),
      p.tables.exec = Jvm.exec → c.code = cc → c.maxLocals = maxL → s.vm.findClass own = some m.cls → (∀ w ∈ ws, w.before args s = true) → zK D cI cZ cB s → va_P D vwCl wd s.heap →
      (∀ (pc : Nat) (ls : Array Slot), narrow .boolean (.int r) = .int r → decode cc pc = .ok (.ireturn, 1) → W p l e rm s m args below meth c s.heap [] 0 0 Q (F0 m pc ls [.int r])) →
      lv_has ls maxL (lv_args 0 av) → W p l e rm s m args below meth c s.heap [] 0 0 Q (F0 m 0 ls [])) :
    Met l y ws rm (zPp D cI cZ cB av wd) (zQp (some (.int r))) 0 0 (fun _ => False) := by
  refine Met.ofW hy hw ?_
  intro p e s m args below meth c s₁ B hml hv
  obtain ⟨rfl, hP, hK⟩ := hv
  have hown : s.vm.findClass y.cls = some m.cls := findClass_of_methodNamed B.named
  rw [ho] at hown
  have hl := lv_entry av (n := maxL) hlen
  rw [lg_entry_eq]
  have hlocks := B.notSynchronized
  exact body p e s m _ below meth c _ _ B.exec B.bytes hml hown (atoms_spec B.pre) hK hP (fun pc ls hn hd => W.zret B.exec B.bytes B.returns hn (fun t ht hW => ⟨rfl, ht⟩) (fun _ h => by cases h) hd) hl
theorem z_pureL (own : String) (hy : plainName y.cls = true) (hw : ws = Cond.code y cc maxL (some .long) :: ws') (ho : y.cls = own) (hlen : (lg_sl av).length ≤ maxL)
    (body : ∀ (p : Program) (e : Env) (s : State) (m : MethodId) (args : Array Value) (below : List Frame) (meth : Method) (c : Code) (Q : State → Prop) (ls : Array Slot),
      p.tables.exec = Jvm.exec → c.code = cc → c.maxLocals = maxL → s.vm.findClass own = some m.cls → (∀ w ∈ ws, w.before args s = true) → zK D cI cZ cB s → va_P D vwCl wd s.heap →
      (∀ (pc : Nat) (ls : Array Slot), decode cc pc = .ok (.lreturn, 1) → W p l e rm s m args below meth c s.heap [] 0 0 Q (F0 m pc ls [.long rl])) →
      lv_has ls maxL (lv_args 0 av) → W p l e rm s m args below meth c s.heap [] 0 0 Q (F0 m 0 ls [])) :
    Met l y ws rm (zPp D cI cZ cB av wd) (zQp (some (.long rl))) 0 0 (fun _ => False) := by
  refine Met.ofW hy hw ?_
  intro p e s m args below meth c s₁ B hml hv
  obtain ⟨rfl, hP, hK⟩ := hv
  have hown : s.vm.findClass y.cls = some m.cls := findClass_of_methodNamed B.named
  rw [ho] at hown
  have hl := lv_entry av (n := maxL) hlen
  rw [lg_entry_eq]
  have hlocks := B.notSynchronized
  exact body p e s m _ below meth c _ _ B.exec B.bytes hml hown (atoms_spec B.pre) hK hP (fun pc ls hd => W.lret B.exec B.bytes B.returns (fun t ht hW => ⟨rfl, ht⟩) (fun _ h => by cases h) hd) hl
theorem z_mutI (own : String) (hy : plainName y.cls = true) (hw : ws = Cond.code y cc maxL (some .int) :: ws') (ho : y.cls = own) (hlen : (lg_sl av).length ≤ maxL)
    (body : ∀ (p : Program) (e : Env) (s : State) (m : MethodId) (args : Array Value) (below : List Frame) (meth : Method) (c : Code) (Q : State → Prop) (A : Nat → Prop) (ls : Array Slot),
      p.tables.exec = Jvm.exec → c.code = cc → c.maxLocals = maxL → s.vm.findClass own = some m.cls → (∀ w ∈ ws, w.before args s = true) → zK D cI cZ cB s → va_P D vwCl wd s.heap → va_D A wd → va_S A s.heap s.heap [] → (∀ q, s.heap.size ≤ q → A q) →
      (∀ (H : Heap) (locs : List Loc) (pc : Nat) (ls : Array Slot), va_P D vwCl wd' H → va_D A wd' → va_S A s.heap H locs → decode cc pc = .ok (.ireturn, 1) → W p l e rm s m args below meth c H locs 0 0 Q (F0 m pc ls [.int r])) →
      lv_has ls maxL (lv_args 0 av) → W p l e rm s m args below meth c s.heap [] 0 0 Q (F0 m 0 ls [])) :
    Met l y ws rm (zPm D cI cZ cB av sz wd) (zQm D (some (.int r)) wd' (va_A wd sz)) 0 0 (va_A wd sz) := by
  refine Met.ofW hy hw ?_
  intro p e s m args below meth c s₁ B hml hv
  obtain ⟨rfl, hsz, hP, hK, hD0⟩ := hv
  subst hsz
  have hown : s.vm.findClass y.cls = some m.cls := findClass_of_methodNamed B.named
  rw [ho] at hown
  have hl := lv_entry av (n := maxL) hlen
  rw [lg_entry_eq]
  have hlocks := B.notSynchronized
  exact body p e s m _ below meth c _ _ _ B.exec B.bytes hml hown (atoms_spec B.pre) hK hP (hD0.self (sz := s.heap.size)) va_S.rf (fun q h => Or.inr h) (fun H locs pc ls hP hD hS hd => W.iret B.exec B.bytes B.returns (fun t ht hW => ⟨⟨rfl, by rw [ht]; exact hP, hD⟩, hS.F ht⟩) hS.2.2 hd) hl
theorem z_mutZ (own : String) (hy : plainName y.cls = true) (hw : ws = Cond.code y cc maxL (some .boolean) :: ws') (ho : y.cls = own) (hlen : (lg_sl av).length ≤ maxL)
    (body : ∀ (p : Program) (e : Env) (s : State) (m : MethodId) (args : Array Value) (below : List Frame) (meth : Method) (c : Code) (Q : State → Prop) (A : Nat → Prop) (ls : Array Slot),
      p.tables.exec = Jvm.exec → c.code = cc → c.maxLocals = maxL → s.vm.findClass own = some m.cls → (∀ w ∈ ws, w.before args s = true) → zK D cI cZ cB s → va_P D vwCl wd s.heap → va_D A wd → va_S A s.heap s.heap [] → (∀ q, s.heap.size ≤ q → A q) →
      (∀ (H : Heap) (locs : List Loc) (pc : Nat) (ls : Array Slot), narrow .boolean (.int r) = .int r → va_P D vwCl wd' H → va_D A wd' → va_S A s.heap H locs → decode cc pc = .ok (.ireturn, 1) → W p l e rm s m args below meth c H locs 0 0 Q (F0 m pc ls [.int r])) →
      lv_has ls maxL (lv_args 0 av) → W p l e rm s m args below meth c s.heap [] 0 0 Q (F0 m 0 ls [])) :
    Met l y ws rm (zPm D cI cZ cB av sz wd) (zQm D (some (.int r)) wd' (va_A wd sz)) 0 0 (va_A wd sz) := by
  refine Met.ofW hy hw ?_
  intro p e s m args below meth c s₁ B hml hv
  obtain ⟨rfl, hsz, hP, hK, hD0⟩ := hv
  subst hsz
  have hown : s.vm.findClass y.cls = some m.cls := findClass_of_methodNamed B.named
  rw [ho] at hown
  have hl := lv_entry av (n := maxL) hlen
  rw [lg_entry_eq]
  have hlocks := B.notSynchronized
  exact body p e s m _ below meth c _ _ _ B.exec B.bytes hml hown (atoms_spec B.pre) hK hP (hD0.self (sz := s.heap.size)) va_S.rf (fun q h => Or.inr h) (fun H locs pc ls hn hP hD hS hd => W.zret B.exec B.bytes B.returns hn (fun t ht hW => ⟨⟨rfl, by rw [ht]; exact hP, hD⟩, hS.F ht⟩) hS.2.2 hd) hl
theorem z_mutL (own : String) (hy : plainName y.cls = true) (hw : ws = Cond.code y cc maxL (some .long) :: ws') (ho : y.cls = own) (hlen : (lg_sl av).length ≤ maxL)
    (body : ∀ (p : Program) (e : Env) (s : State) (m : MethodId) (args : Array Value) (below : List Frame) (meth : Method) (c : Code) (Q : State → Prop) (A : Nat → Prop) (ls : Array Slot),
      p.tables.exec = Jvm.exec → c.code = cc → c.maxLocals = maxL → s.vm.findClass own = some m.cls → (∀ w ∈ ws, w.before args s = true) → zK D cI cZ cB s → va_P D vwCl wd s.heap → va_D A wd → va_S A s.heap s.heap [] → (∀ q, s.heap.size ≤ q → A q) →
      (∀ (H : Heap) (locs : List Loc) (pc : Nat) (ls : Array Slot), va_P D vwCl wd' H → va_D A wd' → va_S A s.heap H locs → decode cc pc = .ok (.lreturn, 1) → W p l e rm s m args below meth c H locs 0 0 Q (F0 m pc ls [.long rl])) →
      lv_has ls maxL (lv_args 0 av) → W p l e rm s m args below meth c s.heap [] 0 0 Q (F0 m 0 ls [])) :
    Met l y ws rm (zPm D cI cZ cB av sz wd) (zQm D (some (.long rl)) wd' (va_A wd sz)) 0 0 (va_A wd sz) := by
  refine Met.ofW hy hw ?_
  intro p e s m args below meth c s₁ B hml hv
  obtain ⟨rfl, hsz, hP, hK, hD0⟩ := hv
  subst hsz
  have hown : s.vm.findClass y.cls = some m.cls := findClass_of_methodNamed B.named
  rw [ho] at hown
  have hl := lv_entry av (n := maxL) hlen
  rw [lg_entry_eq]
  have hlocks := B.notSynchronized
  exact body p e s m _ below meth c _ _ _ B.exec B.bytes hml hown (atoms_spec B.pre) hK hP (hD0.self (sz := s.heap.size)) va_S.rf (fun q h => Or.inr h) (fun H locs pc ls hP hD hS hd => W.lret B.exec B.bytes B.returns (fun t ht hW => ⟨⟨rfl, by rw [ht]; exact hP, hD⟩, hS.F ht⟩) hS.2.2 hd) hl
theorem z_mutV (own : String) (hy : plainName y.cls = true) (hw : ws = Cond.code y cc maxL none :: ws') (ho : y.cls = own) (hlen : (lg_sl av).length ≤ maxL)
    (body : ∀ (p : Program) (e : Env) (s : State) (m : MethodId) (args : Array Value) (below : List Frame) (meth : Method) (c : Code) (Q : State → Prop) (A : Nat → Prop) (ls : Array Slot),
      p.tables.exec = Jvm.exec → c.code = cc → c.maxLocals = maxL → s.vm.findClass own = some m.cls → (∀ w ∈ ws, w.before args s = true) → zK D cI cZ cB s → va_P D vwCl wd s.heap → va_D A wd → va_S A s.heap s.heap [] → (∀ q, s.heap.size ≤ q → A q) →
      (∀ (H : Heap) (locs : List Loc) (pc : Nat) (ls : Array Slot), va_P D vwCl wd' H → va_D A wd' → va_S A s.heap H locs → decode cc pc = .ok (.return_, 1) → W p l e rm s m args below meth c H locs 0 0 Q (F0 m pc ls [])) →
      lv_has ls maxL (lv_args 0 av) → W p l e rm s m args below meth c s.heap [] 0 0 Q (F0 m 0 ls [])) :
    Met l y ws rm (zPm D cI cZ cB av sz wd) (zQm D none wd' (va_A wd sz)) 0 0 (va_A wd sz) := by
  refine Met.ofW hy hw ?_
  intro p e s m args below meth c s₁ B hml hv
  obtain ⟨rfl, hsz, hP, hK, hD0⟩ := hv
  subst hsz
  have hown : s.vm.findClass y.cls = some m.cls := findClass_of_methodNamed B.named
  rw [ho] at hown
  have hl := lv_entry av (n := maxL) hlen
  rw [lg_entry_eq]
  have hlocks := B.notSynchronized
  exact body p e s m _ below meth c _ _ _ B.exec B.bytes hml hown (atoms_spec B.pre) hK hP (hD0.self (sz := s.heap.size)) va_S.rf (fun q h => Or.inr h) (fun H locs pc ls hP hD hS hd => W.vret B.exec B.bytes B.returns (fun t ht hW => ⟨⟨rfl, by rw [ht]; exact hP, hD⟩, hS.F ht⟩) hS.2.2 hd) hl
end ZST
section ZCL
variable {p : Program} {l : Launch} {e : Env} {R : Room} {s : State} {m : MethodId} {args : Array Value} {below : List Frame} {meth : Method} {c : Code} {H : Heap} {locs : List Loc} {cells slots : Nat} {Q : State → Prop}
variable {pc : Nat} {ls : Array Slot} {rest st0 st1 : List Value} {a : Array Value} {v : Option Value} {mc ms : Nat} {D : va_G} {cI cZ cB : ClassId} {A : Nat → Prop} {ws wc wr wc' ws' : va_W}
variable {y : MethodName} {bytes cc : ByteArray} {maxL nL n index : Nat} {ret : Option FieldType} {wy Ts : List Cond} {ry : Room} {own C host : String} {b ci : Nat} {As : List Value} {q : vw_C} {fs : List Value}
/-- behind a call that only reads -/
theorem z_endp (hr : va_Run p l e R s m args below meth c H locs cells slots 0 0 (F0 m pc ls st0) rest (zQp v a) (fun _ => False)) (hst : v.toList ++ rest = st1)
    (kk : W p l e R s m args below meth c H locs cells slots Q (F0 m (pc + 3) ls st1)) : W p l e R s m args below meth c H locs cells slots Q (F0 m pc ls st0) := by
  intro T hT X
  obtain ⟨v', st₀, t, T', L, h0, X', hL, e1, -, ⟨hv, hh⟩, st⟩ := hr T hT X
  cases hv
  subst hst
  obtain ⟨t2, a1, b1⟩ := kk T' (by rw [e1, hh, h0]) (Stand.forget X' (fun q h => (hL q h).elim))
  exact ⟨t2, st t2 a1, b1⟩
theorem z_mapS {α : Type} {ws : List α} : ∀ is : List Nat, (∀ i ∈ is, i < ws.length) → is.map (fun i => ws[i]?) = (is.filterMap (fun i => ws[i]?)).map some
  | [], _ => rfl
  | i :: is, h => by
    have h1 := h i List.mem_cons_self
    rw [List.map_cons, List.filterMap_cons, List.getElem?_eq_getElem h1, z_mapS is (fun j hj => h j (List.mem_cons_of_mem _ hj))]
    rfl
theorem z_fmS {α β : Type} {f : β → Option α} : ∀ {is : List β} {ws : List α}, is.map f = ws.map some → is.filterMap f = ws
  | [], [], _ => rfl
  | [], _ :: _, h => by simp at h
  | _ :: _, [], h => by simp at h
  | i :: is, w :: ws, h => by
    rw [List.map_cons, List.map_cons] at h
    injection h with h1 h2
    rw [List.filterMap_cons, h1, z_fmS h2]
/-! worlds as rows of blocks: a block is never opened by a call that gets it whole -/
def zcat : List va_W → va_W
  | [] => []
  | [a] => a
  | a :: b :: l => a ++ zcat (b :: l)
theorem zcat_cons (a : va_W) (l : List va_W) : zcat (a :: l) = a ++ zcat l := by
  cases l with
  | nil => exact (List.append_nil a).symm
  | cons b l => rfl
theorem zcat_flat : ∀ l : List va_W, zcat l = l.flatten
  | [] => rfl
  | a :: l => by rw [zcat_cons, zcat_flat l, List.flatten_cons]
theorem z_Pm {D : va_G} {cl : List vw_C} {ws : va_W} {H : Heap} : va_P D cl ws H ↔ ∀ q ∈ ws, va_at D cl q H :=
  ⟨fun h q hq => by
    obtain ⟨k, hk⟩ := List.getElem?_of_mem hq
    exact h k q hk, fun h k q hk => h q (List.mem_of_getElem? hk)⟩
theorem z_Dn {A : Nat → Prop} {ws : va_W} : va_D A ws ↔ (ws.map Prod.fst).Nodup ∧ ∀ q ∈ ws, A q.1 := by
  constructor
  · intro h
    refine ⟨?_, fun q hq => ?_⟩
    · refine List.pairwise_iff_getElem.mpr ?_
      intro i j hi hj hij
      rw [List.length_map] at hi hj
      rw [List.getElem_map, List.getElem_map]
      intro e
      have := h.1 i j ws[i] ws[j] (List.getElem?_eq_getElem hi) (List.getElem?_eq_getElem hj) e
      omega
    · obtain ⟨k, hk⟩ := List.getElem?_of_mem hq
      exact h.2 k q hk
  · intro h
    refine ⟨fun i j p q hi hj e => ?_, fun k q hk => h.2 q (List.mem_of_getElem? hk)⟩
    obtain ⟨hi1, hi2⟩ := List.getElem?_eq_some_iff.mp hi
    obtain ⟨hj1, hj2⟩ := List.getElem?_eq_some_iff.mp hj
    have key := List.pairwise_iff_getElem.mp h.1
    rcases Nat.lt_trichotomy i j with g | g | g
    · have := key i j (by rw [List.length_map]; exact hi1) (by rw [List.length_map]; exact hj1) g
      rw [List.getElem_map, List.getElem_map, hi2, hj2] at this
      exact absurd e this
    · exact g
    · have := key j i (by rw [List.length_map]; exact hj1) (by rw [List.length_map]; exact hi1) g
      rw [List.getElem_map, List.getElem_map, hi2, hj2] at this
      exact absurd e.symm this
theorem z_rng {α : Type} (l : List α) : (List.range l.length).filterMap (fun i => l[i]?) = l := by
  refine z_fmS ?_
  refine List.ext_getElem (by simp) ?_
  intro i h1 h2
  simp at h1
  simp [h1]
theorem z_prm {α : Type} (l : List α) {n : Nat} (is : List Nat) (hl : l.length = n) (h : is.isPerm (List.range n) = true) : (is.filterMap (fun i => l[i]?)).Perm l := by
  subst hl
  have h1 := (List.isPerm_iff.mp h).filterMap (fun i => l[i]?)
  rw [z_rng] at h1
  exact h1
theorem z_fml {α : Type} (l : List α) : ∀ (is : List Nat), (∀ i ∈ is, i < l.length) → (is.filterMap (fun i => l[i]?)).length = is.length := fun is h => by
  have h1 := congrArg List.length (z_mapS is h)
  rw [List.length_map, List.length_map] at h1
  exact h1.symm
def zpermB (n : Nat) (isC isR is1 : List Nat) : Bool := (isR ++ isC).isPerm (List.range n) && is1.isPerm (List.range n)
theorem zsubP {D : va_G} {cl : List vw_C} {bs : List va_W} {H : Heap} {wc : va_W} (h : va_P D cl (zcat bs) H) (is : List Nat) (hs : zcat (is.filterMap (fun i => bs[i]?)) = wc) : va_P D cl wc H := by
  subst hs
  rw [z_Pm] at h ⊢
  intro q hq
  refine h q ?_
  rw [zcat_flat] at hq ⊢
  obtain ⟨b, hb, hq⟩ := List.mem_flatten.mp hq
  obtain ⟨i, -, hi⟩ := List.mem_filterMap.mp hb
  exact List.mem_flatten.mpr ⟨b, List.mem_of_getElem? hi, hq⟩
theorem z_splitB {D : va_G} {bs : List va_W} {H : Heap} {A : Nat → Prop} {wc : va_W} {n : Nat} {isC isR is1 : List Nat} (hP : va_P D vwCl (zcat bs) H) (hD : va_D A (zcat bs)) (hz : zpermB n isC isR is1 = true) (hlen : bs.length = n) (hC : zcat (isC.filterMap (fun i => bs[i]?)) = wc) :
    va_P D vwCl (zcat (isR.filterMap (fun i => bs[i]?)) ++ wc) H ∧ va_D A (zcat (isR.filterMap (fun i => bs[i]?)) ++ wc) ∧ is1.isPerm (List.range n) = true ∧ (isR.filterMap (fun i => bs[i]?)).length + (isC.filterMap (fun i => bs[i]?)).length = n := by
  subst hC
  simp only [zpermB, Bool.and_eq_true] at hz
  have p1 := z_prm bs (isR ++ isC) hlen hz.1
  rw [List.filterMap_append] at p1
  have p2 := p1.flatten
  rw [List.flatten_append, ← zcat_flat, ← zcat_flat, ← zcat_flat] at p2
  refine ⟨?_, ?_, hz.2, ?_⟩
  · rw [z_Pm] at hP ⊢
    exact fun q hq => hP q (p2.mem_iff.mp hq)
  · rw [z_Dn] at hD ⊢
    exact ⟨(p2.map Prod.fst).nodup_iff.mpr hD.1, fun q hq => hD.2 q (p2.mem_iff.mp hq)⟩
  · have h3 := p1.length_eq
    rw [List.length_append] at h3
    omega
def zperm (n : Nat) (isC isR is1 : List Nat) : Bool := isC.all (fun i => decide (i < n)) && (isR.all (fun i => decide (i < n)) && (va_nd isC && (va_nd isR && (isR.all (fun i => decide (i ∉ isC)) && va_nd is1))))
/-- behind a call that writes -/
theorem z_endm (hr : va_Run p l e R s m args below meth c H locs cells slots mc ms (F0 m pc ls st0) rest (zQm D v wc' (va_A wc H.size) a) (va_A wc H.size)) (hst : v.toList ++ rest = st1)
    (hP : va_P D vwCl ws H) (hD : va_D A ws) (hS : va_S A s.heap H locs) (hA : ∀ q, s.heap.size ≤ q → A q) (nn : Nat) (isC isR is1 : List Nat) (hz : zperm nn isC isR is1 = true) (hlen : ws.length = nn) (hC : isC.filterMap (fun i => ws[i]?) = wc)
    (h1 : is1.map (fun i => (isR.filterMap (fun i => ws[i]?) ++ wc')[i]?) = ws'.map some)
    (kk : ∀ (H1 : Heap) (locs1 : List Loc), va_P D vwCl ws' H1 → va_D A ws' → va_S A s.heap H1 locs1 → W p l e R s m args below meth c H1 locs1 (cells + mc) (slots + ms) Q (F0 m (pc + 3) ls st1)) : W p l e R s m args below meth c H locs cells slots Q (F0 m pc ls st0) := by
  simp only [zperm, Bool.and_eq_true, List.all_eq_true, decide_eq_true_eq] at hz
  obtain ⟨z1, z2, -, z4, z5, z6⟩ := hz
  subst hlen
  intro T hT X
  obtain ⟨v', st₀, t, T', L, h0, X', hL, e1, e2, ⟨⟨hv, hp, hd⟩, hz, hk⟩, st⟩ := hr T hT X
  cases hv
  subst hst
  rw [h0] at hz hk
  have hC' : isC.map (fun i => ws[i]?) = wc.map some := by rw [z_mapS isC z1, hC]
  have hF := va_free (wc := wc) hD hS hA isC hC'
  obtain ⟨hPj, hDj⟩ := va_join (wr := isR.filterMap (fun i => ws[i]?)) (w1 := wc') hP hD isC isR hC' (z_mapS isR z2) z4 z5 (fun q h1 h2 => by rw [hk q h1 h2]) hF hp hd
  have hS1 : va_S A s.heap T'.heap (locs ++ L) := ⟨Nat.le_trans hS.1 (by rw [e1]; exact hz), fun q h1 h2 => by rw [e1, hk q (Nat.lt_of_lt_of_le h1 hS.1) (fun z => h2 (hF q z))]; exact hS.2.1 q h1 h2, fun q hq => by
      rcases List.mem_append.mp hq with h | h
      · exact hS.2.2 q h
      · exact hF _ (hL q h)⟩
  obtain ⟨t2, a1, b1⟩ := kk T'.heap (locs ++ L) (by rw [e1]; exact hPj.sub is1 (z_fmS h1)) (hDj.sub is1 z6 h1) hS1 T' rfl X'
  exact ⟨t2, st t2 a1, b1⟩
/-- behind a call that writes and got whole blocks -/
theorem z_endB {bs cs' : List va_W} (hr : va_Run p l e R s m args below meth c H locs cells slots mc ms (F0 m pc ls st0) rest (zQm D v wc' (va_A wc H.size) a) (va_A wc H.size)) (hst : v.toList ++ rest = st1)
    (hP : va_P D vwCl (zcat bs) H) (hD : va_D A (zcat bs)) (hS : va_S A s.heap H locs) (hA : ∀ q, s.heap.size ≤ q → A q) (nn : Nat) (isC isR is1 : List Nat) (hz : zpermB nn isC isR is1 = true) (hlen : bs.length = nn) (hC : zcat (isC.filterMap (fun i => bs[i]?)) = wc) (hc' : zcat cs' = wc')
    (h1 : zcat (is1.filterMap (fun i => (isR.filterMap (fun i => bs[i]?) ++ cs')[i]?)) = ws') (hl2 : cs'.length = (isC.filterMap (fun i => bs[i]?)).length)
    (kk : ∀ (H1 : Heap) (locs1 : List Loc), va_P D vwCl ws' H1 → va_D A ws' → va_S A s.heap H1 locs1 → W p l e R s m args below meth c H1 locs1 (cells + mc) (slots + ms) Q (F0 m (pc + 3) ls st1)) : W p l e R s m args below meth c H locs cells slots Q (F0 m pc ls st0) := by
  obtain ⟨hP2, hD2, hz1, hn⟩ := z_splitB hP hD hz hlen hC
  subst hc'
  subst h1
  intro T hT X
  obtain ⟨v', st₀, t, T', L, h0, X', hL, e1, e2, ⟨⟨hv, hp, hd⟩, hz, hk⟩, st⟩ := hr T hT X
  cases hv
  subst hst
  rw [h0] at hz hk
  rw [z_Dn] at hD2 hd
  rw [List.map_append, List.nodup_append] at hD2
  obtain ⟨⟨n1, n2, n3⟩, hAA⟩ := hD2
  have hF : ∀ q, va_A wc H.size q → A q := by
    intro q h
    rcases h with ⟨k, e, h⟩ | h
    · exact hAA (q, e) (List.mem_append_right _ (List.mem_of_getElem? h))
    · exact hA q (Nat.le_trans hS.1 h)
  have hS1 : va_S A s.heap T'.heap (locs ++ L) := ⟨Nat.le_trans hS.1 (by rw [e1]; exact hz), fun q h1 h2 => by rw [e1, hk q (Nat.lt_of_lt_of_le h1 hS.1) (fun z => h2 (hF q z))]; exact hS.2.1 q h1 h2, fun q hq => by
      rcases List.mem_append.mp hq with h | h
      · exact hS.2.2 q h
      · exact hF _ (hL q h)⟩
  rw [z_Pm] at hP2 hp
  have apart : ∀ q ∈ zcat (isR.filterMap (fun i => bs[i]?)), q.1 < H.size ∧ ¬ va_A wc H.size q.1 := by
    intro q hq
    have hl := (hP2 q (List.mem_append_left _ hq)).lt
    refine ⟨hl, fun h => ?_⟩
    rcases h with ⟨k, e, h⟩ | h
    · exact n3 q.1 (List.mem_map_of_mem hq) q.1 (List.mem_map.mpr ⟨(q.1, e), List.mem_of_getElem? h, rfl⟩) rfl
    · omega
  have hP3 : ∀ q ∈ zcat (isR.filterMap (fun i => bs[i]?)) ++ zcat cs', va_at D vwCl q t.heap := by
    intro q hq
    rcases List.mem_append.mp hq with h | h
    · exact (hP2 q (List.mem_append_left _ h)).kept (hk q.1 (apart q h).1 (apart q h).2)
    · exact hp q h
  have hD3 : ((zcat (isR.filterMap (fun i => bs[i]?)) ++ zcat cs').map Prod.fst).Nodup ∧ ∀ q ∈ zcat (isR.filterMap (fun i => bs[i]?)) ++ zcat cs', A q.1 := by
    refine ⟨?_, fun q hq => ?_⟩
    · rw [List.map_append, List.nodup_append]
      refine ⟨n1, hd.1, fun x hx y hy e => ?_⟩
      obtain ⟨q, hq, rfl⟩ := List.mem_map.mp hx
      obtain ⟨q2, hq2, rfl⟩ := List.mem_map.mp hy
      exact (apart q hq).2 (e ▸ hd.2 q2 hq2)
    · rcases List.mem_append.mp hq with h | h
      · exact hAA q (List.mem_append_left _ h)
      · exact hF _ (hd.2 q h)
  have p3 := (z_prm (isR.filterMap (fun i => bs[i]?) ++ cs') is1 (by rw [List.length_append]; omega) hz1).flatten
  rw [List.flatten_append, ← zcat_flat, ← zcat_flat, ← zcat_flat] at p3
  obtain ⟨t2, a1, b1⟩ := kk T'.heap (locs ++ L) (by rw [e1, z_Pm]; exact fun q hq => hP3 q (p3.mem_iff.mp hq)) (z_Dn.mpr ⟨(p3.map Prod.fst).nodup_iff.mpr hD3.1, fun q hq => hD3.2 q (p3.mem_iff.mp hq)⟩) hS1 T' rfl X'
  exact ⟨t2, st t2 a1, b1⟩
/-- behind a call that got two cells, and wrote the second -/
theorem z_end2 {p0 p1 : Nat} {a1 : Nat} {c0 : Nat × va_E} {e0 e1 : va_E} (hr : va_Run p l e R s m args below meth c H locs cells slots mc ms (F0 m pc ls st0) rest (zQm D v [c0, (a1, e1)] (va_A [c0, (a1, e0)] H.size) a) (va_A [c0, (a1, e0)] H.size)) (hst : v.toList ++ rest = st1)
    (hP : va_P D vwCl ws H) (hD : va_D A ws) (hS : va_S A s.heap H locs) (hA : ∀ q, s.heap.size ≤ q → A q) (h0 : ws[p0]? = some c0) (h1 : ws[p1]? = some (a1, e0)) (hw : ws.set p1 (a1, e1) = ws')
    (kk : ∀ (H1 : Heap) (locs1 : List Loc), va_P D vwCl ws' H1 → va_D A ws' → va_S A s.heap H1 locs1 → W p l e R s m args below meth c H1 locs1 (cells + mc) (slots + ms) Q (F0 m (pc + 3) ls st1)) : W p l e R s m args below meth c H locs cells slots Q (F0 m pc ls st0) := by
  subst hw
  intro T hT X
  obtain ⟨v', st₀, t, T', L, hh0, X', hL, e1', e2, ⟨⟨hv, hp, hd⟩, hz, hk⟩, st⟩ := hr T hT X
  cases hv
  subst hst
  rw [hh0] at hz hk
  have hF : ∀ q, va_A [c0, (a1, e0)] H.size q → A q := by
    intro q h
    rcases h with ⟨k, e, h⟩ | h
    · match k, h with
      | 0, h => cases h; exact hD.2 p0 _ h0
      | 1, h => cases h; exact hD.2 p1 _ h1
      | k + 2, h => simp at h
    · exact hA q (Nat.le_trans hS.1 h)
  have hS1 : va_S A s.heap T'.heap (locs ++ L) := ⟨Nat.le_trans hS.1 (by rw [e1']; exact hz), fun q h1 h2 => by rw [e1', hk q (Nat.lt_of_lt_of_le h1 hS.1) (fun z => h2 (hF q z))]; exact hS.2.1 q h1 h2, fun q hq => by
      rcases List.mem_append.mp hq with h | h
      · exact hS.2.2 q h
      · exact hF _ (hL q h)⟩
  have hl := (List.getElem?_eq_some_iff.mp h1).1
  have hP1 : va_P D vwCl (ws.set p1 (a1, e1)) t.heap := by
    intro k q hq
    by_cases g : k = p1
    · subst g
      rw [List.getElem?_set_self hl] at hq
      cases hq
      exact hp 1 _ rfl
    · rw [List.getElem?_set_ne (Ne.symm g)] at hq
      by_cases g0 : k = p0
      · subst g0
        rw [h0] at hq
        cases hq
        exact hp 0 _ rfl
      · have hlt := (hP k q hq).lt
        refine (hP k q hq).kept (hk q.1 hlt ?_)
        rintro (⟨k2, e, h⟩ | h)
        · match k2, h with
          | 0, h => cases h; exact g0 (hD.1 k p0 q _ hq h0 rfl)
          | 1, h =>
            have h' : ((a1, e0) : Nat × va_E) = (q.1, e) := Option.some.inj h
            exact g (hD.1 k p1 q _ hq h1 (by rw [h']))
          | k + 2, h => simp at h
        · omega
  obtain ⟨t2, a1, b1⟩ := kk T'.heap (locs ++ L) (by rw [e1']; exact hP1) (hD.set h1) hS1 T' rfl X'
  exact ⟨t2, st t2 a1, b1⟩
theorem zperm_nd {n : Nat} {isC isR is1 : List Nat} (hz : zperm n isC isR is1 = true) : va_nd isC = true := by
  simp only [zperm, Bool.and_eq_true, List.all_eq_true, decide_eq_true_eq] at hz
  exact hz.2.2.1
theorem zperm_C {n : Nat} {isC isR is1 : List Nat} (hz : zperm n isC isR is1 = true) : ∀ i ∈ isC, i < n := by
  simp only [zperm, Bool.and_eq_true, List.all_eq_true, decide_eq_true_eq] at hz
  exact hz.1
theorem z_Vp (S : CallFix p m c cc nL s args Ts own) (hK : zK D cI cZ cB s) (hM : Met l y wy ry (zPp D cI cZ cB (.ref b :: As) wc) (zQp v) 0 0 (fun _ => False)) (cw : CallW R s args own C index y bytes maxL ret wy ry 0 0 n) (hP : va_P D vwCl wc H) (hc : vwCl[ci]? = some q) (he : wc[0]? = some (b, .inr (ci, fs))) (hq : q.1 = C)
    (hn : As.length = n) (hl : ls.size = nL) (hst0 : st0 = As.reverse ++ .ref b :: rest) (hst : v.toList ++ rest = st1) (hroom : (rest.map fun v => v.category).sum ≤ 8) (hdg : decode cc pc = .ok (.invokevirtual index, 3)) (hcell : cells ≤ R.cells ∧ slots ≤ R.slots)
    (kk : W p l e R s m args below meth c H locs cells slots Q (F0 m (pc + 3) ls st1)) : W p l e R s m args below meth c H locs cells slots Q (F0 m pc ls st0) := by
  subst hq
  exact z_endp (va_runV S hM cw ⟨zPp.blind, va_recv hK.1 hP hc he, fun U hU hW => ⟨rfl, by rw [hU]; exact hP, hK.warm hW⟩⟩ rfl hn hl hst0 (lv_room hroom) hdg hcell) hst kk
theorem z_Sp (S : CallFix p m c cc nL s args Ts own) (hK : zK D cI cZ cB s) (hM : Met l y wy ry (zPp D cI cZ cB As wc) (zQp v) 0 0 (fun _ => False)) (cw : CallB R s args own index y bytes maxL ret wy ry 0 0 n ∧ (Cond.static y).before args s = true) (hP : va_P D vwCl wc H)
    (hn : As.length = n) (hl : ls.size = nL) (hst0 : st0 = As.reverse ++ rest) (hst : v.toList ++ rest = st1) (hroom : (rest.map fun v => v.category).sum ≤ 8) (hdg : decode cc pc = .ok (.invokestatic index, 3)) (hcell : cells ≤ R.cells ∧ slots ≤ R.slots)
    (kk : W p l e R s m args below meth c H locs cells slots Q (F0 m (pc + 3) ls st1)) : W p l e R s m args below meth c H locs cells slots Q (F0 m pc ls st0) :=
  z_endp (va_runS S hM cw ⟨zPp.blind, fun U hU hW => ⟨rfl, by rw [hU]; exact hP, hK.warm hW⟩⟩ rfl hn hl hst0 (lv_room hroom) hdg hcell) hst kk
theorem z_Np (S : CallFix p m c cc nL s args Ts own) (hK : zK D cI cZ cB s) (hM : Met l y wy ry (zPp D cI cZ cB As wc) (zQp v) 0 0 (fun _ => False)) (cw : va_CN R s args own index y host bytes maxL ret wy ry 0 0 n ∧ (Cond.static y).before args s = true ∧ True) (hP : va_P D vwCl wc H)
    (hn : As.length = n) (hl : ls.size = nL) (hst0 : st0 = As.reverse ++ rest) (hst : v.toList ++ rest = st1) (hroom : (rest.map fun v => v.category).sum ≤ 8) (hdg : decode cc pc = .ok (.invokestatic index, 3)) (hcell : cells ≤ R.cells ∧ slots ≤ R.slots)
    (kk : W p l e R s m args below meth c H locs cells slots Q (F0 m (pc + 3) ls st1)) : W p l e R s m args below meth c H locs cells slots Q (F0 m pc ls st0) :=
  z_endp (va_runSN S hM cw ⟨zPp.blind, fun U hU hW => ⟨rfl, by rw [hU]; exact hP, hK.warm hW⟩⟩ rfl hn hl hst0 (lv_room hroom) hdg hcell) hst kk
theorem z_Vm (S : CallFix p m c cc nL s args Ts own) (hK : zK D cI cZ cB s) (hM : Met l y wy ry (zPm D cI cZ cB (.ref b :: As) H.size wc) (zQm D v wc' (va_A wc H.size)) mc ms (va_A wc H.size)) (cw : CallW R s args own C index y bytes maxL ret wy ry mc ms n)
    (hP : va_P D vwCl ws H) (hD : va_D A ws) (hS : va_S A s.heap H locs) (hA : ∀ q, s.heap.size ≤ q → A q) (nn : Nat) (isC isR is1 : List Nat) (hz : zperm nn isC isR is1 = true) (hlen : ws.length = nn) (hC : isC.filterMap (fun i => ws[i]?) = wc)
    (h1 : is1.map (fun i => (isR.filterMap (fun i => ws[i]?) ++ wc')[i]?) = ws'.map some) (hc : vwCl[ci]? = some q) (he : wc[0]? = some (b, .inr (ci, fs))) (hq : q.1 = C)
    (hn : As.length = n) (hl : ls.size = nL) (hst0 : st0 = As.reverse ++ .ref b :: rest) (hst : v.toList ++ rest = st1) (hroom : (rest.map fun v => v.category).sum ≤ 8) (hdg : decode cc pc = .ok (.invokevirtual index, 3)) (hcell : cells + mc ≤ R.cells ∧ slots + ms ≤ R.slots)
    (kk : ∀ (H1 : Heap) (locs1 : List Loc), va_P D vwCl ws' H1 → va_D A ws' → va_S A s.heap H1 locs1 → W p l e R s m args below meth c H1 locs1 (cells + mc) (slots + ms) Q (F0 m (pc + 3) ls st1)) : W p l e R s m args below meth c H locs cells slots Q (F0 m pc ls st0) := by
  subst hq
  have hPc := hP.sub isC hC
  have hDc := hD.sub isC (zperm_nd hz) ((z_mapS isC (fun i hi => hlen ▸ zperm_C hz i hi)).trans (congrArg _ hC))
  exact z_endm (va_runV S hM cw ⟨zPm.blind, va_recv hK.1 hPc hc he, fun U hU hW => ⟨rfl, by rw [hU], by rw [hU]; exact hPc, hK.warm hW, hDc.weaken (fun _ _ _ _ => trivial)⟩⟩ rfl hn hl hst0 (lv_room hroom) hdg hcell) hst hP hD hS hA nn isC isR is1 hz hlen hC h1 kk
theorem z_Sm (S : CallFix p m c cc nL s args Ts own) (hK : zK D cI cZ cB s) (hM : Met l y wy ry (zPm D cI cZ cB As H.size wc) (zQm D v wc' (va_A wc H.size)) mc ms (va_A wc H.size)) (cw : CallB R s args own index y bytes maxL ret wy ry mc ms n ∧ (Cond.static y).before args s = true)
    (hP : va_P D vwCl ws H) (hD : va_D A ws) (hS : va_S A s.heap H locs) (hA : ∀ q, s.heap.size ≤ q → A q) (nn : Nat) (isC isR is1 : List Nat) (hz : zperm nn isC isR is1 = true) (hlen : ws.length = nn) (hC : isC.filterMap (fun i => ws[i]?) = wc)
    (h1 : is1.map (fun i => (isR.filterMap (fun i => ws[i]?) ++ wc')[i]?) = ws'.map some)
    (hn : As.length = n) (hl : ls.size = nL) (hst0 : st0 = As.reverse ++ rest) (hst : v.toList ++ rest = st1) (hroom : (rest.map fun v => v.category).sum ≤ 8) (hdg : decode cc pc = .ok (.invokestatic index, 3)) (hcell : cells + mc ≤ R.cells ∧ slots + ms ≤ R.slots)
    (kk : ∀ (H1 : Heap) (locs1 : List Loc), va_P D vwCl ws' H1 → va_D A ws' → va_S A s.heap H1 locs1 → W p l e R s m args below meth c H1 locs1 (cells + mc) (slots + ms) Q (F0 m (pc + 3) ls st1)) : W p l e R s m args below meth c H locs cells slots Q (F0 m pc ls st0) := by
  have hPc := hP.sub isC hC
  have hDc := hD.sub isC (zperm_nd hz) ((z_mapS isC (fun i hi => hlen ▸ zperm_C hz i hi)).trans (congrArg _ hC))
  exact z_endm (va_runS S hM cw ⟨zPm.blind, fun U hU hW => ⟨rfl, by rw [hU], by rw [hU]; exact hPc, hK.warm hW, hDc.weaken (fun _ _ _ _ => trivial)⟩⟩ rfl hn hl hst0 (lv_room hroom) hdg hcell) hst hP hD hS hA nn isC isR is1 hz hlen hC h1 kk
theorem z_Nm (S : CallFix p m c cc nL s args Ts own) (hK : zK D cI cZ cB s) (hM : Met l y wy ry (zPm D cI cZ cB As H.size wc) (zQm D v wc' (va_A wc H.size)) mc ms (va_A wc H.size)) (cw : va_CN R s args own index y host bytes maxL ret wy ry mc ms n ∧ (Cond.static y).before args s = true ∧ True)
    (hP : va_P D vwCl ws H) (hD : va_D A ws) (hS : va_S A s.heap H locs) (hA : ∀ q, s.heap.size ≤ q → A q) (nn : Nat) (isC isR is1 : List Nat) (hz : zperm nn isC isR is1 = true) (hlen : ws.length = nn) (hC : isC.filterMap (fun i => ws[i]?) = wc)
    (h1 : is1.map (fun i => (isR.filterMap (fun i => ws[i]?) ++ wc')[i]?) = ws'.map some)
    (hn : As.length = n) (hl : ls.size = nL) (hst0 : st0 = As.reverse ++ rest) (hst : v.toList ++ rest = st1) (hroom : (rest.map fun v => v.category).sum ≤ 8) (hdg : decode cc pc = .ok (.invokestatic index, 3)) (hcell : cells + mc ≤ R.cells ∧ slots + ms ≤ R.slots)
    (kk : ∀ (H1 : Heap) (locs1 : List Loc), va_P D vwCl ws' H1 → va_D A ws' → va_S A s.heap H1 locs1 → W p l e R s m args below meth c H1 locs1 (cells + mc) (slots + ms) Q (F0 m (pc + 3) ls st1)) : W p l e R s m args below meth c H locs cells slots Q (F0 m pc ls st0) := by
  have hPc := hP.sub isC hC
  have hDc := hD.sub isC (zperm_nd hz) ((z_mapS isC (fun i hi => hlen ▸ zperm_C hz i hi)).trans (congrArg _ hC))
  exact z_endm (va_runSN S hM cw ⟨zPm.blind, fun U hU hW => ⟨rfl, by rw [hU], by rw [hU]; exact hPc, hK.warm hW, hDc.weaken (fun _ _ _ _ => trivial)⟩⟩ rfl hn hl hst0 (lv_room hroom) hdg hcell) hst hP hD hS hA nn isC isR is1 hz hlen hC h1 kk
theorem z_VB {bs cs' : List va_W} (S : CallFix p m c cc nL s args Ts own) (hK : zK D cI cZ cB s) (hM : Met l y wy ry (zPm D cI cZ cB (.ref b :: As) H.size wc) (zQm D v wc' (va_A wc H.size)) mc ms (va_A wc H.size)) (cw : CallW R s args own C index y bytes maxL ret wy ry mc ms n)
    (hP : va_P D vwCl (zcat bs) H) (hD : va_D A (zcat bs)) (hS : va_S A s.heap H locs) (hA : ∀ q, s.heap.size ≤ q → A q) (nn : Nat) (isC isR is1 : List Nat) (hz : zpermB nn isC isR is1 = true) (hlen : bs.length = nn) (hC : zcat (isC.filterMap (fun i => bs[i]?)) = wc) (hc' : zcat cs' = wc')
    (h1 : zcat (is1.filterMap (fun i => (isR.filterMap (fun i => bs[i]?) ++ cs')[i]?)) = ws') (hl2 : cs'.length = (isC.filterMap (fun i => bs[i]?)).length) (hc : vwCl[ci]? = some q) (he : wc[0]? = some (b, .inr (ci, fs))) (hq : q.1 = C)
    (hn : As.length = n) (hl : ls.size = nL) (hst0 : st0 = As.reverse ++ .ref b :: rest) (hst : v.toList ++ rest = st1) (hroom : (rest.map fun v => v.category).sum ≤ 8) (hdg : decode cc pc = .ok (.invokevirtual index, 3)) (hcell : cells + mc ≤ R.cells ∧ slots + ms ≤ R.slots)
    (kk : ∀ (H1 : Heap) (locs1 : List Loc), va_P D vwCl ws' H1 → va_D A ws' → va_S A s.heap H1 locs1 → W p l e R s m args below meth c H1 locs1 (cells + mc) (slots + ms) Q (F0 m (pc + 3) ls st1)) : W p l e R s m args below meth c H locs cells slots Q (F0 m pc ls st0) := by
  subst hq
  obtain ⟨hP2, hD2, -, -⟩ := z_splitB hP hD hz hlen hC
  have hPc : va_P D vwCl wc H := z_Pm.mpr fun q hq => z_Pm.mp hP2 q (List.mem_append_right _ hq)
  have hDc : va_D A wc := z_Dn.mpr ⟨(List.nodup_append.mp (List.map_append (f := Prod.fst) ▸ (z_Dn.mp hD2).1)).2.1, fun q hq => (z_Dn.mp hD2).2 q (List.mem_append_right _ hq)⟩
  exact z_endB (va_runV S hM cw ⟨zPm.blind, va_recv hK.1 hPc hc he, fun U hU hW => ⟨rfl, by rw [hU], by rw [hU]; exact hPc, hK.warm hW, hDc.weaken (fun _ _ _ _ => trivial)⟩⟩ rfl hn hl hst0 (lv_room hroom) hdg hcell) hst hP hD hS hA nn isC isR is1 hz hlen hC hc' h1 hl2 kk
theorem z_SB {bs cs' : List va_W} (S : CallFix p m c cc nL s args Ts own) (hK : zK D cI cZ cB s) (hM : Met l y wy ry (zPm D cI cZ cB As H.size wc) (zQm D v wc' (va_A wc H.size)) mc ms (va_A wc H.size)) (cw : CallB R s args own index y bytes maxL ret wy ry mc ms n ∧ (Cond.static y).before args s = true)
    (hP : va_P D vwCl (zcat bs) H) (hD : va_D A (zcat bs)) (hS : va_S A s.heap H locs) (hA : ∀ q, s.heap.size ≤ q → A q) (nn : Nat) (isC isR is1 : List Nat) (hz : zpermB nn isC isR is1 = true) (hlen : bs.length = nn) (hC : zcat (isC.filterMap (fun i => bs[i]?)) = wc) (hc' : zcat cs' = wc')
    (h1 : zcat (is1.filterMap (fun i => (isR.filterMap (fun i => bs[i]?) ++ cs')[i]?)) = ws') (hl2 : cs'.length = (isC.filterMap (fun i => bs[i]?)).length)
    (hn : As.length = n) (hl : ls.size = nL) (hst0 : st0 = As.reverse ++ rest) (hst : v.toList ++ rest = st1) (hroom : (rest.map fun v => v.category).sum ≤ 8) (hdg : decode cc pc = .ok (.invokestatic index, 3)) (hcell : cells + mc ≤ R.cells ∧ slots + ms ≤ R.slots)
    (kk : ∀ (H1 : Heap) (locs1 : List Loc), va_P D vwCl ws' H1 → va_D A ws' → va_S A s.heap H1 locs1 → W p l e R s m args below meth c H1 locs1 (cells + mc) (slots + ms) Q (F0 m (pc + 3) ls st1)) : W p l e R s m args below meth c H locs cells slots Q (F0 m pc ls st0) := by
  obtain ⟨hP2, hD2, -, -⟩ := z_splitB hP hD hz hlen hC
  have hPc : va_P D vwCl wc H := z_Pm.mpr fun q hq => z_Pm.mp hP2 q (List.mem_append_right _ hq)
  have hDc : va_D A wc := z_Dn.mpr ⟨(List.nodup_append.mp (List.map_append (f := Prod.fst) ▸ (z_Dn.mp hD2).1)).2.1, fun q hq => (z_Dn.mp hD2).2 q (List.mem_append_right _ hq)⟩
  exact z_endB (va_runS S hM cw ⟨zPm.blind, fun U hU hW => ⟨rfl, by rw [hU], by rw [hU]; exact hPc, hK.warm hW, hDc.weaken (fun _ _ _ _ => trivial)⟩⟩ rfl hn hl hst0 (lv_room hroom) hdg hcell) hst hP hD hS hA nn isC isR is1 hz hlen hC hc' h1 hl2 kk
theorem z_NB {bs cs' : List va_W} (S : CallFix p m c cc nL s args Ts own) (hK : zK D cI cZ cB s) (hM : Met l y wy ry (zPm D cI cZ cB As H.size wc) (zQm D v wc' (va_A wc H.size)) mc ms (va_A wc H.size)) (cw : va_CN R s args own index y host bytes maxL ret wy ry mc ms n ∧ (Cond.static y).before args s = true ∧ True)
    (hP : va_P D vwCl (zcat bs) H) (hD : va_D A (zcat bs)) (hS : va_S A s.heap H locs) (hA : ∀ q, s.heap.size ≤ q → A q) (nn : Nat) (isC isR is1 : List Nat) (hz : zpermB nn isC isR is1 = true) (hlen : bs.length = nn) (hC : zcat (isC.filterMap (fun i => bs[i]?)) = wc) (hc' : zcat cs' = wc')
    (h1 : zcat (is1.filterMap (fun i => (isR.filterMap (fun i => bs[i]?) ++ cs')[i]?)) = ws') (hl2 : cs'.length = (isC.filterMap (fun i => bs[i]?)).length)
    (hn : As.length = n) (hl : ls.size = nL) (hst0 : st0 = As.reverse ++ rest) (hst : v.toList ++ rest = st1) (hroom : (rest.map fun v => v.category).sum ≤ 8) (hdg : decode cc pc = .ok (.invokestatic index, 3)) (hcell : cells + mc ≤ R.cells ∧ slots + ms ≤ R.slots)
    (kk : ∀ (H1 : Heap) (locs1 : List Loc), va_P D vwCl ws' H1 → va_D A ws' → va_S A s.heap H1 locs1 → W p l e R s m args below meth c H1 locs1 (cells + mc) (slots + ms) Q (F0 m (pc + 3) ls st1)) : W p l e R s m args below meth c H locs cells slots Q (F0 m pc ls st0) := by
  obtain ⟨hP2, hD2, -, -⟩ := z_splitB hP hD hz hlen hC
  have hPc : va_P D vwCl wc H := z_Pm.mpr fun q hq => z_Pm.mp hP2 q (List.mem_append_right _ hq)
  have hDc : va_D A wc := z_Dn.mpr ⟨(List.nodup_append.mp (List.map_append (f := Prod.fst) ▸ (z_Dn.mp hD2).1)).2.1, fun q hq => (z_Dn.mp hD2).2 q (List.mem_append_right _ hq)⟩
  exact z_endB (va_runSN S hM cw ⟨zPm.blind, fun U hU hW => ⟨rfl, by rw [hU], by rw [hU]; exact hPc, hK.warm hW, hDc.weaken (fun _ _ _ _ => trivial)⟩⟩ rfl hn hl hst0 (lv_room hroom) hdg hcell) hst hP hD hS hA nn isC isR is1 hz hlen hC hc' h1 hl2 kk
theorem z_S2 {p0 p1 : Nat} {a1 : Nat} {c0 : Nat × va_E} {e0 e1 : va_E} (S : CallFix p m c cc nL s args Ts own) (hK : zK D cI cZ cB s) (hM : Met l y wy ry (zPm D cI cZ cB As H.size [c0, (a1, e0)]) (zQm D v [c0, (a1, e1)] (va_A [c0, (a1, e0)] H.size)) mc ms (va_A [c0, (a1, e0)] H.size)) (cw : CallB R s args own index y bytes maxL ret wy ry mc ms n ∧ (Cond.static y).before args s = true)
    (hP : va_P D vwCl ws H) (hD : va_D A ws) (hS : va_S A s.heap H locs) (hA : ∀ q, s.heap.size ≤ q → A q) (h0 : ws[p0]? = some c0) (h1 : ws[p1]? = some (a1, e0)) (hne : p0 ≠ p1) (hw : ws.set p1 (a1, e1) = ws')
    (hn : As.length = n) (hl : ls.size = nL) (hst0 : st0 = As.reverse ++ rest) (hst : v.toList ++ rest = st1) (hroom : (rest.map fun v => v.category).sum ≤ 8) (hdg : decode cc pc = .ok (.invokestatic index, 3)) (hcell : cells + mc ≤ R.cells ∧ slots + ms ≤ R.slots)
    (kk : ∀ (H1 : Heap) (locs1 : List Loc), va_P D vwCl ws' H1 → va_D A ws' → va_S A s.heap H1 locs1 → W p l e R s m args below meth c H1 locs1 (cells + mc) (slots + ms) Q (F0 m (pc + 3) ls st1)) : W p l e R s m args below meth c H locs cells slots Q (F0 m pc ls st0) := by
  have hPc : va_P D vwCl [c0, (a1, e0)] H := z_Pm.mpr fun q hq => by
    rcases List.mem_cons.mp hq with h | h
    · subst h; exact hP p0 _ h0
    · rcases List.mem_cons.mp h with h | h
      · subst h; exact hP p1 _ h1
      · cases h
  have hDc : va_D (fun _ => True) [c0, (a1, e0)] := z_Dn.mpr ⟨by
    have hx : c0.1 ≠ a1 := fun e => hne (hD.1 p0 p1 c0 (a1, e0) h0 h1 e)
    simp [hx], fun _ _ => trivial⟩
  exact z_end2 (va_runS S hM cw ⟨zPm.blind, fun U hU hW => ⟨rfl, by rw [hU], by rw [hU]; exact hPc, hK.warm hW, hDc⟩⟩ rfl hn hl hst0 (lv_room hroom) hdg hcell) hst hP hD hS hA h0 h1 hw kk
theorem z_N2 {p0 p1 : Nat} {a1 : Nat} {c0 : Nat × va_E} {e0 e1 : va_E} (S : CallFix p m c cc nL s args Ts own) (hK : zK D cI cZ cB s) (hM : Met l y wy ry (zPm D cI cZ cB As H.size [c0, (a1, e0)]) (zQm D v [c0, (a1, e1)] (va_A [c0, (a1, e0)] H.size)) mc ms (va_A [c0, (a1, e0)] H.size)) (cw : va_CN R s args own index y host bytes maxL ret wy ry mc ms n ∧ (Cond.static y).before args s = true ∧ True)
    (hP : va_P D vwCl ws H) (hD : va_D A ws) (hS : va_S A s.heap H locs) (hA : ∀ q, s.heap.size ≤ q → A q) (h0 : ws[p0]? = some c0) (h1 : ws[p1]? = some (a1, e0)) (hne : p0 ≠ p1) (hw : ws.set p1 (a1, e1) = ws')
    (hn : As.length = n) (hl : ls.size = nL) (hst0 : st0 = As.reverse ++ rest) (hst : v.toList ++ rest = st1) (hroom : (rest.map fun v => v.category).sum ≤ 8) (hdg : decode cc pc = .ok (.invokestatic index, 3)) (hcell : cells + mc ≤ R.cells ∧ slots + ms ≤ R.slots)
    (kk : ∀ (H1 : Heap) (locs1 : List Loc), va_P D vwCl ws' H1 → va_D A ws' → va_S A s.heap H1 locs1 → W p l e R s m args below meth c H1 locs1 (cells + mc) (slots + ms) Q (F0 m (pc + 3) ls st1)) : W p l e R s m args below meth c H locs cells slots Q (F0 m pc ls st0) := by
  have hPc : va_P D vwCl [c0, (a1, e0)] H := z_Pm.mpr fun q hq => by
    rcases List.mem_cons.mp hq with h | h
    · subst h; exact hP p0 _ h0
    · rcases List.mem_cons.mp h with h | h
      · subst h; exact hP p1 _ h1
      · cases h
  have hDc : va_D (fun _ => True) [c0, (a1, e0)] := z_Dn.mpr ⟨by
    have hx : c0.1 ≠ a1 := fun e => hne (hD.1 p0 p1 c0 (a1, e0) h0 h1 e)
    simp [hx], fun _ _ => trivial⟩
  exact z_end2 (va_runSN S hM cw ⟨zPm.blind, fun U hU hW => ⟨rfl, by rw [hU], by rw [hU]; exact hPc, hK.warm hW, hDc⟩⟩ rfl hn hl hst0 (lv_room hroom) hdg hcell) hst hP hD hS hA h0 h1 hw kk
end ZCL

section ZRW
variable {p : Program} {l : Launch} {e : Env} {R : Room} {s : State} {m : MethodId} {args : Array Value} {below : List Frame} {meth : Method} {c : Code} {H : Heap} {locs : List Loc} {cells slots : Nat} {Q : State → Prop}
variable {cc : ByteArray} {pc : Nat} {ls : Array Slot} {rest : List Value} {D : va_G} {cl : List vw_C} {A : Nat → Prop} {a : Nat} {tys : List (ClassId × FieldType)} {ws ws' : va_W} {H0 : Heap}
theorem z_iald (hexec : p.tables.exec = Jvm.exec) (hb : c.code = cc) (hK : va_K D cl tys s) (hP : va_P D cl ws H) (q0 t0 : Nat) {cA : ClassId} {n : Nat} {f : Nat → Int32} (ha : ws[q0]? = some (a, .inl (cA, n, .inl f))) (ht : tys[t0]? = some (cA, .int)) {i : Int32} {k : Nat} (hin : vp_in i n) (hk : i.toNatClampNeg = k) (hdg : decode cc pc = .ok (.iaload, 1))
    (kk : W p l e R s m args below meth c H locs cells slots Q (F0 m (pc + 1) ls (.int (f k) :: rest))) : W p l e R s m args below meth c H locs cells slots Q (F0 m pc ls (.int i :: .ref a :: rest)) := by
  subst hk; exact va_iald hexec hb hK hP q0 t0 ha ht hin hdg kk
theorem z_zald (hexec : p.tables.exec = Jvm.exec) (hb : c.code = cc) (hK : va_K D cl tys s) (hP : va_P D cl ws H) (q0 t0 : Nat) {cA : ClassId} {n : Nat} {f : Nat → Int32} (ha : ws[q0]? = some (a, .inl (cA, n, .inl f))) (ht : tys[t0]? = some (cA, .boolean)) {i : Int32} {k : Nat} (hin : vp_in i n) (hk : i.toNatClampNeg = k) (hdg : decode cc pc = .ok (.baload, 1))
    (kk : W p l e R s m args below meth c H locs cells slots Q (F0 m (pc + 1) ls (.int (f k) :: rest))) : W p l e R s m args below meth c H locs cells slots Q (F0 m pc ls (.int i :: .ref a :: rest)) := by
  subst hk; exact va_zald hexec hb hK hP q0 t0 ha ht hin hdg kk
theorem z_bald (hexec : p.tables.exec = Jvm.exec) (hb : c.code = cc) (hK : va_K D cl tys s) (hP : va_P D cl ws H) (q0 t0 : Nat) {cA : ClassId} {n : Nat} {f : Nat → Int32} (ha : ws[q0]? = some (a, .inl (cA, n, .inl f))) (ht : tys[t0]? = some (cA, .byte)) {i : Int32} {k : Nat} (hin : vp_in i n) (hk : i.toNatClampNeg = k) (hdg : decode cc pc = .ok (.baload, 1))
    (kk : W p l e R s m args below meth c H locs cells slots Q (F0 m (pc + 1) ls (.int (f k) :: rest))) : W p l e R s m args below meth c H locs cells slots Q (F0 m pc ls (.int i :: .ref a :: rest)) := by
  subst hk; exact va_bald hexec hb hK hP q0 t0 ha ht hin hdg kk
theorem z_iast (hexec : p.tables.exec = Jvm.exec) (hb : c.code = cc) (hK : va_K D cl tys s) (hP : va_P D cl ws H) (hD : va_D A ws) (hS : va_S A H0 H locs) (q0 t0 : Nat) {cA : ClassId} {n : Nat} {f : Nat → Int32} (ha : ws[q0]? = some (a, .inl (cA, n, .inl f))) (ht : tys[t0]? = some (cA, .int)) {i : Int32} {x : Int32} {k : Nat} (hin : vp_in i n) (hk : i.toNatClampNeg = k) (hw : ws.set q0 (a, .inl (cA, n, .inl (upd f k x))) = ws') (hdg : decode cc pc = .ok (.iastore, 1))
    (kk : ∀ (H1 : Heap) (locs1 : List Loc), va_P D cl ws' H1 → va_D A ws' → va_S A H0 H1 locs1 → W p l e R s m args below meth c H1 locs1 cells slots Q (F0 m (pc + 1) ls rest)) : W p l e R s m args below meth c H locs cells slots Q (F0 m pc ls (.int x :: .int i :: .ref a :: rest)) := by
  subst hk; subst hw; exact va_iast hexec hb hK hP hD hS q0 t0 ha ht hin hdg kk
theorem z_bast (hexec : p.tables.exec = Jvm.exec) (hb : c.code = cc) (hK : va_K D cl tys s) (hP : va_P D cl ws H) (hD : va_D A ws) (hS : va_S A H0 H locs) (q0 t0 : Nat) {cA : ClassId} {n : Nat} {f : Nat → Int32} (ha : ws[q0]? = some (a, .inl (cA, n, .inl f))) (ht : tys[t0]? = some (cA, .byte)) {i : Int32} {x : Int32} {k : Nat} (hin : vp_in i n) (hk : i.toNatClampNeg = k) (hw : ws.set q0 (a, .inl (cA, n, .inl (upd f k (vp_nar .byte x)))) = ws') (hdg : decode cc pc = .ok (.bastore, 1))
    (kk : ∀ (H1 : Heap) (locs1 : List Loc), va_P D cl ws' H1 → va_D A ws' → va_S A H0 H1 locs1 → W p l e R s m args below meth c H1 locs1 cells slots Q (F0 m (pc + 1) ls rest)) : W p l e R s m args below meth c H locs cells slots Q (F0 m pc ls (.int x :: .int i :: .ref a :: rest)) := by
  subst hk; subst hw; exact va_bast hexec hb hK hP hD hS q0 t0 ha ht hin hdg kk
theorem z_zast (hexec : p.tables.exec = Jvm.exec) (hb : c.code = cc) (hK : va_K D cl tys s) (hP : va_P D cl ws H) (hD : va_D A ws) (hS : va_S A H0 H locs) (q0 t0 : Nat) {cA : ClassId} {n : Nat} {f : Nat → Int32} (ha : ws[q0]? = some (a, .inl (cA, n, .inl f))) (ht : tys[t0]? = some (cA, .boolean)) {i : Int32} {x : Int32} {k : Nat} (hin : vp_in i n) (hk : i.toNatClampNeg = k) (hw : ws.set q0 (a, .inl (cA, n, .inl (upd f k (vp_nar .boolean x)))) = ws') (hdg : decode cc pc = .ok (.bastore, 1))
    (kk : ∀ (H1 : Heap) (locs1 : List Loc), va_P D cl ws' H1 → va_D A ws' → va_S A H0 H1 locs1 → W p l e R s m args below meth c H1 locs1 cells slots Q (F0 m (pc + 1) ls rest)) : W p l e R s m args below meth c H locs cells slots Q (F0 m pc ls (.int x :: .int i :: .ref a :: rest)) := by
  subst hk; subst hw; exact va_zast hexec hb hK hP hD hS q0 t0 ha ht hin hdg kk
theorem z_put (hexec : p.tables.exec = Jvm.exec) (hb : c.code = cc) {own ref C : String} {T : u_T} {N ci index : Nat} {Ts : List Cond} (hts : ∀ w ∈ Ts, w.before args s = true) (hin : ∀ w ∈ u_ws C T N, w ∈ Ts) (ty0 : Nat → FieldType) (hty : ∀ k, k < N → parseFieldDescriptor (T k).2.2.1 = some (ty0 k)) (hnm : ∀ a, a < N → ∀ b, b < N → a ≠ b → (T a).2.1 ≠ (T b).2.1) (hown : s.vm.findClass own = some m.cls) (hK : va_K D cl tys s) (hP : va_P D cl ws H) (hD : va_D A ws) (hS0 : va_S A H0 H locs) (q0 : Nat) {fs : List Value} (he : ws[q0]? = some (a, .inr (ci, fs))) (hc : cl[ci]? = some (C, T, N)) (k : Nat) (hk : k < N) (hlink : (Cond.fieldLink own index ref (T k).2.1 (T k).2.2.1).before args s = true) (hsame : ∀ x, s.fieldFound? (T k).1 (T k).2.1 (T k).2.2.1 = some x → s.fieldFound? ref (T k).2.1 (T k).2.2.1 = some x) (hfin : (T k).2.2.2 = false) {ty : FieldType} {v : Value} (hd : parseFieldDescriptor (T k).2.2.1 = some ty) (hn : narrow ty v = v) (hfit : fits ty v = true) (hl : k < fs.length) (hw : ws.set q0 (a, .inr (ci, fs.set k v)) = ws')
    (hdg : decode cc pc = .ok (.putfield index, 3)) (kk : ∀ (H1 : Heap) (locs1 : List Loc), va_P D cl ws' H1 → va_D A ws' → va_S A H0 H1 locs1 → W p l e R s m args below meth c H1 locs1 cells slots Q (F0 m (pc + 3) ls rest)) : W p l e R s m args below meth c H locs cells slots Q (F0 m pc ls (v :: .ref a :: rest)) := by
  subst hw; exact va_put hexec hb hts hin ty0 hty hnm hown hK hP hD hS0 q0 he hc k hk hlink hsame hfin hd hn hfit hl hdg kk
def zgc {α : Type} (sp dp n : Int32) (n0 n1 : Nat) (k : Option α) : Option α := if sp < 0 ∨ dp < 0 ∨ n < 0 ∨ n0 < sp.toNatClampNeg + n.toNatClampNeg ∨ n1 < dp.toNatClampNeg + n.toNatClampNeg then none else k
theorem zgc_s {α : Type} {sp dp n : Int32} {n0 n1 : Nat} {k : Option α} {r : α} (h : zgc sp dp n n0 n1 k = some r) : (¬ sp < 0 ∧ ¬ dp < 0 ∧ ¬ n < 0 ∧ sp.toNatClampNeg + n.toNatClampNeg ≤ n0 ∧ dp.toNatClampNeg + n.toNatClampNeg ≤ n1) ∧ k = some r := by
  unfold zgc at h
  split at h
  · cases h
  · rename_i h1
    simp only [not_or, Nat.not_lt] at h1
    exact ⟨h1, h⟩
theorem z_copyi (hexec : p.tables.exec = Jvm.exec) (hb : c.code = cc) (hml : c.maxLocals = ls.size) {own : String} {index : Nat} (hown : s.vm.findClass own = some m.cls) (hlink : (Cond.methodLink own index arraycopyName).before args s = true) (hnat : (Cond.native arraycopyName).before args s = true) (hstat : (Cond.static arraycopyName).before args s = true) (hini : (Cond.initialized "java/lang/System").before args s = true)
    (hK : va_K D cl tys s) (hP : va_P D cl ws H) (hD : va_D A ws) (hS : va_S A H0 H locs) (q0 q1 t0 t1 : Nat) {a0 : Nat} {c0 c1 : ClassId} {n0 n1 : Nat} {f g : Nat → Int32} {ty : FieldType} (ha0 : ws[q0]? = some (a0, .inl (c0, n0, .inl f))) (ha1 : ws[q1]? = some (a, .inl (c1, n1, .inl g))) (ht0 : tys[t0]? = some (c0, ty)) (ht1 : tys[t1]? = some (c1, ty)) (hprim : ty = .int)
    {sp dp n : Int32} {S P N : Nat} (hc : ¬ sp < 0 ∧ ¬ dp < 0 ∧ ¬ n < 0 ∧ sp.toNatClampNeg + n.toNatClampNeg ≤ n0 ∧ dp.toNatClampNeg + n.toNatClampNeg ≤ n1) (eS : sp.toNatClampNeg = S) (eP : dp.toNatClampNeg = P) (eN : n.toNatClampNeg = N) (hw : ws.set q1 (a, .inl (c1, n1, .inl (va_cpy f g S P N))) = ws')
    (hframes : 1 ≤ R.frames) (hlocals : (rest.map fun v => v.category).sum + (nativeFrameWords "java/lang/System" "arraycopy" 5 + 11) ≤ R.locals) (hdg : decode cc pc = .ok (.invokestatic index, 3))
    (kk : ∀ (H1 : Heap) (locs1 : List Loc), va_P D cl ws' H1 → va_D A ws' → va_S A H0 H1 locs1 → W p l e R s m args below meth c H1 locs1 cells slots Q (F0 m (pc + 3) ls rest)) : W p l e R s m args below meth c H locs cells slots Q (F0 m pc ls (.int n :: .int dp :: .ref a :: .int sp :: .ref a0 :: rest)) := by
  subst eS; subst eP; subst eN; subst hw; subst hprim
  exact va_copyi hexec hb hml hown hlink hnat hstat hini hK hP hD hS q0 q1 t0 t1 ha0 ha1 ht0 ht1 rfl hc.1 hc.2.1 hc.2.2.1 hc.2.2.2.1 hc.2.2.2.2 (fun _ _ => rfl) hframes hlocals hdg kk
end ZRW
def FU : Nat := 100000
def FUD : Nat := 9
/-! the words of the pure side: a step that may fail answers none -/
def zg {α : Type} (i : Int32) (n : Nat) (k : Option α) : Option α := if i < 0 ∨ n ≤ i.toNatClampNeg then none else k
theorem zg_s {α : Type} {i : Int32} {n : Nat} {k : Option α} {r : α} (h : zg i n k = some r) : vp_in i n ∧ k = some r := by
  unfold zg at h
  split at h
  · cases h
  · rename_i h1
    exact ⟨h1, h⟩
theorem zg_e {α : Type} {i : Int32} {n : Nat} {k : Option α} (h : vp_in i n) : zg i n k = k := if_neg h
def zdi {α : Type} (i : Int32) (k : Option α) : Option α := if i = 0 then none else k
theorem zdi_s {α : Type} {i : Int32} {k : Option α} {r : α} (h : zdi i k = some r) : ¬ i = 0 ∧ k = some r := by
  unfold zdi at h
  split at h
  · cases h
  · rename_i h1
    exact ⟨h1, h⟩
theorem zdi_e {α : Type} {i : Int32} {k : Option α} (h : ¬ i = 0) : zdi i k = k := if_neg h
def zdl {α : Type} (i : Int64) (k : Option α) : Option α := if i = 0 then none else k
theorem zdl_s {α : Type} {i : Int64} {k : Option α} {r : α} (h : zdl i k = some r) : ¬ i = 0 ∧ k = some r := by
  unfold zdl at h
  split at h
  · cases h
  · rename_i h1
    exact ⟨h1, h⟩
theorem zdl_e {α : Type} {i : Int64} {k : Option α} (h : ¬ i = 0) : zdl i k = k := if_neg h
def zgb {α : Type} (i : Int32) (k : Option α) : Option α := if i = 0 ∨ i = 1 then k else none
theorem zgb_s {α : Type} {i : Int32} {k : Option α} {r : α} (h : zgb i k = some r) : narrow .boolean (.int i) = .int i ∧ k = some r := by
  unfold zgb at h
  split at h
  · rename_i h1
    refine ⟨?_, h⟩
    rcases h1 with rfl | rfl <;> rfl
  · cases h
theorem zgb_e {α : Type} {i : Int32} {k : Option α} (h : i = 0 ∨ i = 1) : zgb i k = k := if_pos h
def zl {α β : Type} (v : α) (k : α → β) : β := k v
theorem zl_s {α β : Type} {v : α} {k : α → β} {r : β} (h : zl v k = r) : ∀ x, x = v → k x = r := fun x e => by rw [e]; exact h
theorem zl_x {α β : Type} {v : α} {k : α → β} {r : β} (h : zl v k = r) : ∃ x, x = v ∧ k x = r := ⟨v, rfl, h⟩
theorem z_t {α : Type} {c : Prop} {i : Decidable c} {a b r : α} (h : c) (hf : @ite α c i a b = r) : a = r := by rw [if_pos h] at hf; exact hf
theorem z_f {α : Type} {c : Prop} {i : Decidable c} {a b r : α} (h : ¬ c) (hf : @ite α c i a b = r) : b = r := by rw [if_neg h] at hf; exact hf
theorem z_ni {x c : Int32} (h : ¬ x = c) : x.toInt ≠ c.toInt := fun e => h (Int32.toInt_inj.mp e)
def zb1 {α0 β : Type} (x : Option (α0)) (k : α0 → Option β) : Option β := match x with
  | none => none
  | some a0 => k a0
theorem zb1_s {α0 β : Type} {x : Option (α0)} {k : α0 → Option β} {r : β} (h : zb1 x k = some r) : ∃ a0, x = some a0 ∧ k a0 = some r := by
  cases x with
  | none => cases h
  | some q => exact ⟨q, rfl, h⟩
def zb2 {α0 α1 β : Type} (x : Option (α0 × α1)) (k : α0 → α1 → Option β) : Option β := match x with
  | none => none
  | some (a0, a1) => k a0 a1
theorem zb2_s {α0 α1 β : Type} {x : Option (α0 × α1)} {k : α0 → α1 → Option β} {r : β} (h : zb2 x k = some r) : ∃ a0 a1, x = some (a0, a1) ∧ k a0 a1 = some r := by
  cases x with
  | none => cases h
  | some q => exact ⟨q.1, q.2, rfl, h⟩
def zb3 {α0 α1 α2 β : Type} (x : Option (α0 × α1 × α2)) (k : α0 → α1 → α2 → Option β) : Option β := match x with
  | none => none
  | some (a0, a1, a2) => k a0 a1 a2
theorem zb3_s {α0 α1 α2 β : Type} {x : Option (α0 × α1 × α2)} {k : α0 → α1 → α2 → Option β} {r : β} (h : zb3 x k = some r) : ∃ a0 a1 a2, x = some (a0, a1, a2) ∧ k a0 a1 a2 = some r := by
  cases x with
  | none => cases h
  | some q => exact ⟨q.1, q.2.1, q.2.2, rfl, h⟩
def zb4 {α0 α1 α2 α3 β : Type} (x : Option (α0 × α1 × α2 × α3)) (k : α0 → α1 → α2 → α3 → Option β) : Option β := match x with
  | none => none
  | some (a0, a1, a2, a3) => k a0 a1 a2 a3
theorem zb4_s {α0 α1 α2 α3 β : Type} {x : Option (α0 × α1 × α2 × α3)} {k : α0 → α1 → α2 → α3 → Option β} {r : β} (h : zb4 x k = some r) : ∃ a0 a1 a2 a3, x = some (a0, a1, a2, a3) ∧ k a0 a1 a2 a3 = some r := by
  cases x with
  | none => cases h
  | some q => exact ⟨q.1, q.2.1, q.2.2.1, q.2.2.2, rfl, h⟩
def zb5 {α0 α1 α2 α3 α4 β : Type} (x : Option (α0 × α1 × α2 × α3 × α4)) (k : α0 → α1 → α2 → α3 → α4 → Option β) : Option β := match x with
  | none => none
  | some (a0, a1, a2, a3, a4) => k a0 a1 a2 a3 a4
theorem zb5_s {α0 α1 α2 α3 α4 β : Type} {x : Option (α0 × α1 × α2 × α3 × α4)} {k : α0 → α1 → α2 → α3 → α4 → Option β} {r : β} (h : zb5 x k = some r) : ∃ a0 a1 a2 a3 a4, x = some (a0, a1, a2, a3, a4) ∧ k a0 a1 a2 a3 a4 = some r := by
  cases x with
  | none => cases h
  | some q => exact ⟨q.1, q.2.1, q.2.2.1, q.2.2.2.1, q.2.2.2.2, rfl, h⟩
def zb6 {α0 α1 α2 α3 α4 α5 β : Type} (x : Option (α0 × α1 × α2 × α3 × α4 × α5)) (k : α0 → α1 → α2 → α3 → α4 → α5 → Option β) : Option β := match x with
  | none => none
  | some (a0, a1, a2, a3, a4, a5) => k a0 a1 a2 a3 a4 a5
theorem zb6_s {α0 α1 α2 α3 α4 α5 β : Type} {x : Option (α0 × α1 × α2 × α3 × α4 × α5)} {k : α0 → α1 → α2 → α3 → α4 → α5 → Option β} {r : β} (h : zb6 x k = some r) : ∃ a0 a1 a2 a3 a4 a5, x = some (a0, a1, a2, a3, a4, a5) ∧ k a0 a1 a2 a3 a4 a5 = some r := by
  cases x with
  | none => cases h
  | some q => exact ⟨q.1, q.2.1, q.2.2.1, q.2.2.2.1, q.2.2.2.2.1, q.2.2.2.2.2, rfl, h⟩
def zb7 {α0 α1 α2 α3 α4 α5 α6 β : Type} (x : Option (α0 × α1 × α2 × α3 × α4 × α5 × α6)) (k : α0 → α1 → α2 → α3 → α4 → α5 → α6 → Option β) : Option β := match x with
  | none => none
  | some (a0, a1, a2, a3, a4, a5, a6) => k a0 a1 a2 a3 a4 a5 a6
theorem zb7_s {α0 α1 α2 α3 α4 α5 α6 β : Type} {x : Option (α0 × α1 × α2 × α3 × α4 × α5 × α6)} {k : α0 → α1 → α2 → α3 → α4 → α5 → α6 → Option β} {r : β} (h : zb7 x k = some r) : ∃ a0 a1 a2 a3 a4 a5 a6, x = some (a0, a1, a2, a3, a4, a5, a6) ∧ k a0 a1 a2 a3 a4 a5 a6 = some r := by
  cases x with
  | none => cases h
  | some q => exact ⟨q.1, q.2.1, q.2.2.1, q.2.2.2.1, q.2.2.2.2.1, q.2.2.2.2.2.1, q.2.2.2.2.2.2, rfl, h⟩
def zb8 {α0 α1 α2 α3 α4 α5 α6 α7 β : Type} (x : Option (α0 × α1 × α2 × α3 × α4 × α5 × α6 × α7)) (k : α0 → α1 → α2 → α3 → α4 → α5 → α6 → α7 → Option β) : Option β := match x with
  | none => none
  | some (a0, a1, a2, a3, a4, a5, a6, a7) => k a0 a1 a2 a3 a4 a5 a6 a7
theorem zb8_s {α0 α1 α2 α3 α4 α5 α6 α7 β : Type} {x : Option (α0 × α1 × α2 × α3 × α4 × α5 × α6 × α7)} {k : α0 → α1 → α2 → α3 → α4 → α5 → α6 → α7 → Option β} {r : β} (h : zb8 x k = some r) : ∃ a0 a1 a2 a3 a4 a5 a6 a7, x = some (a0, a1, a2, a3, a4, a5, a6, a7) ∧ k a0 a1 a2 a3 a4 a5 a6 a7 = some r := by
  cases x with
  | none => cases h
  | some q => exact ⟨q.1, q.2.1, q.2.2.1, q.2.2.2.1, q.2.2.2.2.1, q.2.2.2.2.2.1, q.2.2.2.2.2.2.1, q.2.2.2.2.2.2.2, rfl, h⟩
def zb9 {α0 α1 α2 α3 α4 α5 α6 α7 α8 β : Type} (x : Option (α0 × α1 × α2 × α3 × α4 × α5 × α6 × α7 × α8)) (k : α0 → α1 → α2 → α3 → α4 → α5 → α6 → α7 → α8 → Option β) : Option β := match x with
  | none => none
  | some (a0, a1, a2, a3, a4, a5, a6, a7, a8) => k a0 a1 a2 a3 a4 a5 a6 a7 a8
theorem zb9_s {α0 α1 α2 α3 α4 α5 α6 α7 α8 β : Type} {x : Option (α0 × α1 × α2 × α3 × α4 × α5 × α6 × α7 × α8)} {k : α0 → α1 → α2 → α3 → α4 → α5 → α6 → α7 → α8 → Option β} {r : β} (h : zb9 x k = some r) : ∃ a0 a1 a2 a3 a4 a5 a6 a7 a8, x = some (a0, a1, a2, a3, a4, a5, a6, a7, a8) ∧ k a0 a1 a2 a3 a4 a5 a6 a7 a8 = some r := by
  cases x with
  | none => cases h
  | some q => exact ⟨q.1, q.2.1, q.2.2.1, q.2.2.2.1, q.2.2.2.2.1, q.2.2.2.2.2.1, q.2.2.2.2.2.2.1, q.2.2.2.2.2.2.2.1, q.2.2.2.2.2.2.2.2, rfl, h⟩
def zb10 {α0 α1 α2 α3 α4 α5 α6 α7 α8 α9 β : Type} (x : Option (α0 × α1 × α2 × α3 × α4 × α5 × α6 × α7 × α8 × α9)) (k : α0 → α1 → α2 → α3 → α4 → α5 → α6 → α7 → α8 → α9 → Option β) : Option β := match x with
  | none => none
  | some (a0, a1, a2, a3, a4, a5, a6, a7, a8, a9) => k a0 a1 a2 a3 a4 a5 a6 a7 a8 a9
theorem zb10_s {α0 α1 α2 α3 α4 α5 α6 α7 α8 α9 β : Type} {x : Option (α0 × α1 × α2 × α3 × α4 × α5 × α6 × α7 × α8 × α9)} {k : α0 → α1 → α2 → α3 → α4 → α5 → α6 → α7 → α8 → α9 → Option β} {r : β} (h : zb10 x k = some r) : ∃ a0 a1 a2 a3 a4 a5 a6 a7 a8 a9, x = some (a0, a1, a2, a3, a4, a5, a6, a7, a8, a9) ∧ k a0 a1 a2 a3 a4 a5 a6 a7 a8 a9 = some r := by
  cases x with
  | none => cases h
  | some q => exact ⟨q.1, q.2.1, q.2.2.1, q.2.2.2.1, q.2.2.2.2.1, q.2.2.2.2.2.1, q.2.2.2.2.2.2.1, q.2.2.2.2.2.2.2.1, q.2.2.2.2.2.2.2.2.1, q.2.2.2.2.2.2.2.2.2, rfl, h⟩
def zb11 {α0 α1 α2 α3 α4 α5 α6 α7 α8 α9 α10 β : Type} (x : Option (α0 × α1 × α2 × α3 × α4 × α5 × α6 × α7 × α8 × α9 × α10)) (k : α0 → α1 → α2 → α3 → α4 → α5 → α6 → α7 → α8 → α9 → α10 → Option β) : Option β := match x with
  | none => none
  | some (a0, a1, a2, a3, a4, a5, a6, a7, a8, a9, a10) => k a0 a1 a2 a3 a4 a5 a6 a7 a8 a9 a10
theorem zb11_s {α0 α1 α2 α3 α4 α5 α6 α7 α8 α9 α10 β : Type} {x : Option (α0 × α1 × α2 × α3 × α4 × α5 × α6 × α7 × α8 × α9 × α10)} {k : α0 → α1 → α2 → α3 → α4 → α5 → α6 → α7 → α8 → α9 → α10 → Option β} {r : β} (h : zb11 x k = some r) : ∃ a0 a1 a2 a3 a4 a5 a6 a7 a8 a9 a10, x = some (a0, a1, a2, a3, a4, a5, a6, a7, a8, a9, a10) ∧ k a0 a1 a2 a3 a4 a5 a6 a7 a8 a9 a10 = some r := by
  cases x with
  | none => cases h
  | some q => exact ⟨q.1, q.2.1, q.2.2.1, q.2.2.2.1, q.2.2.2.2.1, q.2.2.2.2.2.1, q.2.2.2.2.2.2.1, q.2.2.2.2.2.2.2.1, q.2.2.2.2.2.2.2.2.1, q.2.2.2.2.2.2.2.2.2.1, q.2.2.2.2.2.2.2.2.2.2, rfl, h⟩
def zb12 {α0 α1 α2 α3 α4 α5 α6 α7 α8 α9 α10 α11 β : Type} (x : Option (α0 × α1 × α2 × α3 × α4 × α5 × α6 × α7 × α8 × α9 × α10 × α11)) (k : α0 → α1 → α2 → α3 → α4 → α5 → α6 → α7 → α8 → α9 → α10 → α11 → Option β) : Option β := match x with
  | none => none
  | some (a0, a1, a2, a3, a4, a5, a6, a7, a8, a9, a10, a11) => k a0 a1 a2 a3 a4 a5 a6 a7 a8 a9 a10 a11
theorem zb12_s {α0 α1 α2 α3 α4 α5 α6 α7 α8 α9 α10 α11 β : Type} {x : Option (α0 × α1 × α2 × α3 × α4 × α5 × α6 × α7 × α8 × α9 × α10 × α11)} {k : α0 → α1 → α2 → α3 → α4 → α5 → α6 → α7 → α8 → α9 → α10 → α11 → Option β} {r : β} (h : zb12 x k = some r) : ∃ a0 a1 a2 a3 a4 a5 a6 a7 a8 a9 a10 a11, x = some (a0, a1, a2, a3, a4, a5, a6, a7, a8, a9, a10, a11) ∧ k a0 a1 a2 a3 a4 a5 a6 a7 a8 a9 a10 a11 = some r := by
  cases x with
  | none => cases h
  | some q => exact ⟨q.1, q.2.1, q.2.2.1, q.2.2.2.1, q.2.2.2.2.1, q.2.2.2.2.2.1, q.2.2.2.2.2.2.1, q.2.2.2.2.2.2.2.1, q.2.2.2.2.2.2.2.2.1, q.2.2.2.2.2.2.2.2.2.1, q.2.2.2.2.2.2.2.2.2.2.1, q.2.2.2.2.2.2.2.2.2.2.2, rfl, h⟩
def zb13 {α0 α1 α2 α3 α4 α5 α6 α7 α8 α9 α10 α11 α12 β : Type} (x : Option (α0 × α1 × α2 × α3 × α4 × α5 × α6 × α7 × α8 × α9 × α10 × α11 × α12)) (k : α0 → α1 → α2 → α3 → α4 → α5 → α6 → α7 → α8 → α9 → α10 → α11 → α12 → Option β) : Option β := match x with
  | none => none
  | some (a0, a1, a2, a3, a4, a5, a6, a7, a8, a9, a10, a11, a12) => k a0 a1 a2 a3 a4 a5 a6 a7 a8 a9 a10 a11 a12
theorem zb13_s {α0 α1 α2 α3 α4 α5 α6 α7 α8 α9 α10 α11 α12 β : Type} {x : Option (α0 × α1 × α2 × α3 × α4 × α5 × α6 × α7 × α8 × α9 × α10 × α11 × α12)} {k : α0 → α1 → α2 → α3 → α4 → α5 → α6 → α7 → α8 → α9 → α10 → α11 → α12 → Option β} {r : β} (h : zb13 x k = some r) : ∃ a0 a1 a2 a3 a4 a5 a6 a7 a8 a9 a10 a11 a12, x = some (a0, a1, a2, a3, a4, a5, a6, a7, a8, a9, a10, a11, a12) ∧ k a0 a1 a2 a3 a4 a5 a6 a7 a8 a9 a10 a11 a12 = some r := by
  cases x with
  | none => cases h
  | some q => exact ⟨q.1, q.2.1, q.2.2.1, q.2.2.2.1, q.2.2.2.2.1, q.2.2.2.2.2.1, q.2.2.2.2.2.2.1, q.2.2.2.2.2.2.2.1, q.2.2.2.2.2.2.2.2.1, q.2.2.2.2.2.2.2.2.2.1, q.2.2.2.2.2.2.2.2.2.2.1, q.2.2.2.2.2.2.2.2.2.2.2.1, q.2.2.2.2.2.2.2.2.2.2.2.2, rfl, h⟩
def zb14 {α0 α1 α2 α3 α4 α5 α6 α7 α8 α9 α10 α11 α12 α13 β : Type} (x : Option (α0 × α1 × α2 × α3 × α4 × α5 × α6 × α7 × α8 × α9 × α10 × α11 × α12 × α13)) (k : α0 → α1 → α2 → α3 → α4 → α5 → α6 → α7 → α8 → α9 → α10 → α11 → α12 → α13 → Option β) : Option β := match x with
  | none => none
  | some (a0, a1, a2, a3, a4, a5, a6, a7, a8, a9, a10, a11, a12, a13) => k a0 a1 a2 a3 a4 a5 a6 a7 a8 a9 a10 a11 a12 a13
theorem zb14_s {α0 α1 α2 α3 α4 α5 α6 α7 α8 α9 α10 α11 α12 α13 β : Type} {x : Option (α0 × α1 × α2 × α3 × α4 × α5 × α6 × α7 × α8 × α9 × α10 × α11 × α12 × α13)} {k : α0 → α1 → α2 → α3 → α4 → α5 → α6 → α7 → α8 → α9 → α10 → α11 → α12 → α13 → Option β} {r : β} (h : zb14 x k = some r) : ∃ a0 a1 a2 a3 a4 a5 a6 a7 a8 a9 a10 a11 a12 a13, x = some (a0, a1, a2, a3, a4, a5, a6, a7, a8, a9, a10, a11, a12, a13) ∧ k a0 a1 a2 a3 a4 a5 a6 a7 a8 a9 a10 a11 a12 a13 = some r := by
  cases x with
  | none => cases h
  | some q => exact ⟨q.1, q.2.1, q.2.2.1, q.2.2.2.1, q.2.2.2.2.1, q.2.2.2.2.2.1, q.2.2.2.2.2.2.1, q.2.2.2.2.2.2.2.1, q.2.2.2.2.2.2.2.2.1, q.2.2.2.2.2.2.2.2.2.1, q.2.2.2.2.2.2.2.2.2.2.1, q.2.2.2.2.2.2.2.2.2.2.2.1, q.2.2.2.2.2.2.2.2.2.2.2.2.1, q.2.2.2.2.2.2.2.2.2.2.2.2.2, rfl, h⟩
def zb15 {α0 α1 α2 α3 α4 α5 α6 α7 α8 α9 α10 α11 α12 α13 α14 β : Type} (x : Option (α0 × α1 × α2 × α3 × α4 × α5 × α6 × α7 × α8 × α9 × α10 × α11 × α12 × α13 × α14)) (k : α0 → α1 → α2 → α3 → α4 → α5 → α6 → α7 → α8 → α9 → α10 → α11 → α12 → α13 → α14 → Option β) : Option β := match x with
  | none => none
  | some (a0, a1, a2, a3, a4, a5, a6, a7, a8, a9, a10, a11, a12, a13, a14) => k a0 a1 a2 a3 a4 a5 a6 a7 a8 a9 a10 a11 a12 a13 a14
theorem zb15_s {α0 α1 α2 α3 α4 α5 α6 α7 α8 α9 α10 α11 α12 α13 α14 β : Type} {x : Option (α0 × α1 × α2 × α3 × α4 × α5 × α6 × α7 × α8 × α9 × α10 × α11 × α12 × α13 × α14)} {k : α0 → α1 → α2 → α3 → α4 → α5 → α6 → α7 → α8 → α9 → α10 → α11 → α12 → α13 → α14 → Option β} {r : β} (h : zb15 x k = some r) : ∃ a0 a1 a2 a3 a4 a5 a6 a7 a8 a9 a10 a11 a12 a13 a14, x = some (a0, a1, a2, a3, a4, a5, a6, a7, a8, a9, a10, a11, a12, a13, a14) ∧ k a0 a1 a2 a3 a4 a5 a6 a7 a8 a9 a10 a11 a12 a13 a14 = some r := by
  cases x with
  | none => cases h
  | some q => exact ⟨q.1, q.2.1, q.2.2.1, q.2.2.2.1, q.2.2.2.2.1, q.2.2.2.2.2.1, q.2.2.2.2.2.2.1, q.2.2.2.2.2.2.2.1, q.2.2.2.2.2.2.2.2.1, q.2.2.2.2.2.2.2.2.2.1, q.2.2.2.2.2.2.2.2.2.2.1, q.2.2.2.2.2.2.2.2.2.2.2.1, q.2.2.2.2.2.2.2.2.2.2.2.2.1, q.2.2.2.2.2.2.2.2.2.2.2.2.2.1, q.2.2.2.2.2.2.2.2.2.2.2.2.2.2, rfl, h⟩
def zb16 {α0 α1 α2 α3 α4 α5 α6 α7 α8 α9 α10 α11 α12 α13 α14 α15 β : Type} (x : Option (α0 × α1 × α2 × α3 × α4 × α5 × α6 × α7 × α8 × α9 × α10 × α11 × α12 × α13 × α14 × α15)) (k : α0 → α1 → α2 → α3 → α4 → α5 → α6 → α7 → α8 → α9 → α10 → α11 → α12 → α13 → α14 → α15 → Option β) : Option β := match x with
  | none => none
  | some (a0, a1, a2, a3, a4, a5, a6, a7, a8, a9, a10, a11, a12, a13, a14, a15) => k a0 a1 a2 a3 a4 a5 a6 a7 a8 a9 a10 a11 a12 a13 a14 a15
theorem zb16_s {α0 α1 α2 α3 α4 α5 α6 α7 α8 α9 α10 α11 α12 α13 α14 α15 β : Type} {x : Option (α0 × α1 × α2 × α3 × α4 × α5 × α6 × α7 × α8 × α9 × α10 × α11 × α12 × α13 × α14 × α15)} {k : α0 → α1 → α2 → α3 → α4 → α5 → α6 → α7 → α8 → α9 → α10 → α11 → α12 → α13 → α14 → α15 → Option β} {r : β} (h : zb16 x k = some r) : ∃ a0 a1 a2 a3 a4 a5 a6 a7 a8 a9 a10 a11 a12 a13 a14 a15, x = some (a0, a1, a2, a3, a4, a5, a6, a7, a8, a9, a10, a11, a12, a13, a14, a15) ∧ k a0 a1 a2 a3 a4 a5 a6 a7 a8 a9 a10 a11 a12 a13 a14 a15 = some r := by
  cases x with
  | none => cases h
  | some q => exact ⟨q.1, q.2.1, q.2.2.1, q.2.2.2.1, q.2.2.2.2.1, q.2.2.2.2.2.1, q.2.2.2.2.2.2.1, q.2.2.2.2.2.2.2.1, q.2.2.2.2.2.2.2.2.1, q.2.2.2.2.2.2.2.2.2.1, q.2.2.2.2.2.2.2.2.2.2.1, q.2.2.2.2.2.2.2.2.2.2.2.1, q.2.2.2.2.2.2.2.2.2.2.2.2.1, q.2.2.2.2.2.2.2.2.2.2.2.2.2.1, q.2.2.2.2.2.2.2.2.2.2.2.2.2.2.1, q.2.2.2.2.2.2.2.2.2.2.2.2.2.2.2, rfl, h⟩
def zb17 {α0 α1 α2 α3 α4 α5 α6 α7 α8 α9 α10 α11 α12 α13 α14 α15 α16 β : Type} (x : Option (α0 × α1 × α2 × α3 × α4 × α5 × α6 × α7 × α8 × α9 × α10 × α11 × α12 × α13 × α14 × α15 × α16)) (k : α0 → α1 → α2 → α3 → α4 → α5 → α6 → α7 → α8 → α9 → α10 → α11 → α12 → α13 → α14 → α15 → α16 → Option β) : Option β := match x with
  | none => none
  | some (a0, a1, a2, a3, a4, a5, a6, a7, a8, a9, a10, a11, a12, a13, a14, a15, a16) => k a0 a1 a2 a3 a4 a5 a6 a7 a8 a9 a10 a11 a12 a13 a14 a15 a16
theorem zb17_s {α0 α1 α2 α3 α4 α5 α6 α7 α8 α9 α10 α11 α12 α13 α14 α15 α16 β : Type} {x : Option (α0 × α1 × α2 × α3 × α4 × α5 × α6 × α7 × α8 × α9 × α10 × α11 × α12 × α13 × α14 × α15 × α16)} {k : α0 → α1 → α2 → α3 → α4 → α5 → α6 → α7 → α8 → α9 → α10 → α11 → α12 → α13 → α14 → α15 → α16 → Option β} {r : β} (h : zb17 x k = some r) : ∃ a0 a1 a2 a3 a4 a5 a6 a7 a8 a9 a10 a11 a12 a13 a14 a15 a16, x = some (a0, a1, a2, a3, a4, a5, a6, a7, a8, a9, a10, a11, a12, a13, a14, a15, a16) ∧ k a0 a1 a2 a3 a4 a5 a6 a7 a8 a9 a10 a11 a12 a13 a14 a15 a16 = some r := by
  cases x with
  | none => cases h
  | some q => exact ⟨q.1, q.2.1, q.2.2.1, q.2.2.2.1, q.2.2.2.2.1, q.2.2.2.2.2.1, q.2.2.2.2.2.2.1, q.2.2.2.2.2.2.2.1, q.2.2.2.2.2.2.2.2.1, q.2.2.2.2.2.2.2.2.2.1, q.2.2.2.2.2.2.2.2.2.2.1, q.2.2.2.2.2.2.2.2.2.2.2.1, q.2.2.2.2.2.2.2.2.2.2.2.2.1, q.2.2.2.2.2.2.2.2.2.2.2.2.2.1, q.2.2.2.2.2.2.2.2.2.2.2.2.2.2.1, q.2.2.2.2.2.2.2.2.2.2.2.2.2.2.2.1, q.2.2.2.2.2.2.2.2.2.2.2.2.2.2.2.2, rfl, h⟩
def zb18 {α0 α1 α2 α3 α4 α5 α6 α7 α8 α9 α10 α11 α12 α13 α14 α15 α16 α17 β : Type} (x : Option (α0 × α1 × α2 × α3 × α4 × α5 × α6 × α7 × α8 × α9 × α10 × α11 × α12 × α13 × α14 × α15 × α16 × α17)) (k : α0 → α1 → α2 → α3 → α4 → α5 → α6 → α7 → α8 → α9 → α10 → α11 → α12 → α13 → α14 → α15 → α16 → α17 → Option β) : Option β := match x with
  | none => none
  | some (a0, a1, a2, a3, a4, a5, a6, a7, a8, a9, a10, a11, a12, a13, a14, a15, a16, a17) => k a0 a1 a2 a3 a4 a5 a6 a7 a8 a9 a10 a11 a12 a13 a14 a15 a16 a17
theorem zb18_s {α0 α1 α2 α3 α4 α5 α6 α7 α8 α9 α10 α11 α12 α13 α14 α15 α16 α17 β : Type} {x : Option (α0 × α1 × α2 × α3 × α4 × α5 × α6 × α7 × α8 × α9 × α10 × α11 × α12 × α13 × α14 × α15 × α16 × α17)} {k : α0 → α1 → α2 → α3 → α4 → α5 → α6 → α7 → α8 → α9 → α10 → α11 → α12 → α13 → α14 → α15 → α16 → α17 → Option β} {r : β} (h : zb18 x k = some r) : ∃ a0 a1 a2 a3 a4 a5 a6 a7 a8 a9 a10 a11 a12 a13 a14 a15 a16 a17, x = some (a0, a1, a2, a3, a4, a5, a6, a7, a8, a9, a10, a11, a12, a13, a14, a15, a16, a17) ∧ k a0 a1 a2 a3 a4 a5 a6 a7 a8 a9 a10 a11 a12 a13 a14 a15 a16 a17 = some r := by
  cases x with
  | none => cases h
  | some q => exact ⟨q.1, q.2.1, q.2.2.1, q.2.2.2.1, q.2.2.2.2.1, q.2.2.2.2.2.1, q.2.2.2.2.2.2.1, q.2.2.2.2.2.2.2.1, q.2.2.2.2.2.2.2.2.1, q.2.2.2.2.2.2.2.2.2.1, q.2.2.2.2.2.2.2.2.2.2.1, q.2.2.2.2.2.2.2.2.2.2.2.1, q.2.2.2.2.2.2.2.2.2.2.2.2.1, q.2.2.2.2.2.2.2.2.2.2.2.2.2.1, q.2.2.2.2.2.2.2.2.2.2.2.2.2.2.1, q.2.2.2.2.2.2.2.2.2.2.2.2.2.2.2.1, q.2.2.2.2.2.2.2.2.2.2.2.2.2.2.2.2.1, q.2.2.2.2.2.2.2.2.2.2.2.2.2.2.2.2.2, rfl, h⟩
def zb19 {α0 α1 α2 α3 α4 α5 α6 α7 α8 α9 α10 α11 α12 α13 α14 α15 α16 α17 α18 β : Type} (x : Option (α0 × α1 × α2 × α3 × α4 × α5 × α6 × α7 × α8 × α9 × α10 × α11 × α12 × α13 × α14 × α15 × α16 × α17 × α18)) (k : α0 → α1 → α2 → α3 → α4 → α5 → α6 → α7 → α8 → α9 → α10 → α11 → α12 → α13 → α14 → α15 → α16 → α17 → α18 → Option β) : Option β := match x with
  | none => none
  | some (a0, a1, a2, a3, a4, a5, a6, a7, a8, a9, a10, a11, a12, a13, a14, a15, a16, a17, a18) => k a0 a1 a2 a3 a4 a5 a6 a7 a8 a9 a10 a11 a12 a13 a14 a15 a16 a17 a18
theorem zb19_s {α0 α1 α2 α3 α4 α5 α6 α7 α8 α9 α10 α11 α12 α13 α14 α15 α16 α17 α18 β : Type} {x : Option (α0 × α1 × α2 × α3 × α4 × α5 × α6 × α7 × α8 × α9 × α10 × α11 × α12 × α13 × α14 × α15 × α16 × α17 × α18)} {k : α0 → α1 → α2 → α3 → α4 → α5 → α6 → α7 → α8 → α9 → α10 → α11 → α12 → α13 → α14 → α15 → α16 → α17 → α18 → Option β} {r : β} (h : zb19 x k = some r) : ∃ a0 a1 a2 a3 a4 a5 a6 a7 a8 a9 a10 a11 a12 a13 a14 a15 a16 a17 a18, x = some (a0, a1, a2, a3, a4, a5, a6, a7, a8, a9, a10, a11, a12, a13, a14, a15, a16, a17, a18) ∧ k a0 a1 a2 a3 a4 a5 a6 a7 a8 a9 a10 a11 a12 a13 a14 a15 a16 a17 a18 = some r := by
  cases x with
  | none => cases h
  | some q => exact ⟨q.1, q.2.1, q.2.2.1, q.2.2.2.1, q.2.2.2.2.1, q.2.2.2.2.2.1, q.2.2.2.2.2.2.1, q.2.2.2.2.2.2.2.1, q.2.2.2.2.2.2.2.2.1, q.2.2.2.2.2.2.2.2.2.1, q.2.2.2.2.2.2.2.2.2.2.1, q.2.2.2.2.2.2.2.2.2.2.2.1, q.2.2.2.2.2.2.2.2.2.2.2.2.1, q.2.2.2.2.2.2.2.2.2.2.2.2.2.1, q.2.2.2.2.2.2.2.2.2.2.2.2.2.2.1, q.2.2.2.2.2.2.2.2.2.2.2.2.2.2.2.1, q.2.2.2.2.2.2.2.2.2.2.2.2.2.2.2.2.1, q.2.2.2.2.2.2.2.2.2.2.2.2.2.2.2.2.2.1, q.2.2.2.2.2.2.2.2.2.2.2.2.2.2.2.2.2.2, rfl, h⟩
def zb20 {α0 α1 α2 α3 α4 α5 α6 α7 α8 α9 α10 α11 α12 α13 α14 α15 α16 α17 α18 α19 β : Type} (x : Option (α0 × α1 × α2 × α3 × α4 × α5 × α6 × α7 × α8 × α9 × α10 × α11 × α12 × α13 × α14 × α15 × α16 × α17 × α18 × α19)) (k : α0 → α1 → α2 → α3 → α4 → α5 → α6 → α7 → α8 → α9 → α10 → α11 → α12 → α13 → α14 → α15 → α16 → α17 → α18 → α19 → Option β) : Option β := match x with
  | none => none
  | some (a0, a1, a2, a3, a4, a5, a6, a7, a8, a9, a10, a11, a12, a13, a14, a15, a16, a17, a18, a19) => k a0 a1 a2 a3 a4 a5 a6 a7 a8 a9 a10 a11 a12 a13 a14 a15 a16 a17 a18 a19
theorem zb20_s {α0 α1 α2 α3 α4 α5 α6 α7 α8 α9 α10 α11 α12 α13 α14 α15 α16 α17 α18 α19 β : Type} {x : Option (α0 × α1 × α2 × α3 × α4 × α5 × α6 × α7 × α8 × α9 × α10 × α11 × α12 × α13 × α14 × α15 × α16 × α17 × α18 × α19)} {k : α0 → α1 → α2 → α3 → α4 → α5 → α6 → α7 → α8 → α9 → α10 → α11 → α12 → α13 → α14 → α15 → α16 → α17 → α18 → α19 → Option β} {r : β} (h : zb20 x k = some r) : ∃ a0 a1 a2 a3 a4 a5 a6 a7 a8 a9 a10 a11 a12 a13 a14 a15 a16 a17 a18 a19, x = some (a0, a1, a2, a3, a4, a5, a6, a7, a8, a9, a10, a11, a12, a13, a14, a15, a16, a17, a18, a19) ∧ k a0 a1 a2 a3 a4 a5 a6 a7 a8 a9 a10 a11 a12 a13 a14 a15 a16 a17 a18 a19 = some r := by
  cases x with
  | none => cases h
  | some q => exact ⟨q.1, q.2.1, q.2.2.1, q.2.2.2.1, q.2.2.2.2.1, q.2.2.2.2.2.1, q.2.2.2.2.2.2.1, q.2.2.2.2.2.2.2.1, q.2.2.2.2.2.2.2.2.1, q.2.2.2.2.2.2.2.2.2.1, q.2.2.2.2.2.2.2.2.2.2.1, q.2.2.2.2.2.2.2.2.2.2.2.1, q.2.2.2.2.2.2.2.2.2.2.2.2.1, q.2.2.2.2.2.2.2.2.2.2.2.2.2.1, q.2.2.2.2.2.2.2.2.2.2.2.2.2.2.1, q.2.2.2.2.2.2.2.2.2.2.2.2.2.2.2.1, q.2.2.2.2.2.2.2.2.2.2.2.2.2.2.2.2.1, q.2.2.2.2.2.2.2.2.2.2.2.2.2.2.2.2.2.1, q.2.2.2.2.2.2.2.2.2.2.2.2.2.2.2.2.2.2.1, q.2.2.2.2.2.2.2.2.2.2.2.2.2.2.2.2.2.2.2, rfl, h⟩
def zb21 {α0 α1 α2 α3 α4 α5 α6 α7 α8 α9 α10 α11 α12 α13 α14 α15 α16 α17 α18 α19 α20 β : Type} (x : Option (α0 × α1 × α2 × α3 × α4 × α5 × α6 × α7 × α8 × α9 × α10 × α11 × α12 × α13 × α14 × α15 × α16 × α17 × α18 × α19 × α20)) (k : α0 → α1 → α2 → α3 → α4 → α5 → α6 → α7 → α8 → α9 → α10 → α11 → α12 → α13 → α14 → α15 → α16 → α17 → α18 → α19 → α20 → Option β) : Option β := match x with
  | none => none
  | some (a0, a1, a2, a3, a4, a5, a6, a7, a8, a9, a10, a11, a12, a13, a14, a15, a16, a17, a18, a19, a20) => k a0 a1 a2 a3 a4 a5 a6 a7 a8 a9 a10 a11 a12 a13 a14 a15 a16 a17 a18 a19 a20
theorem zb21_s {α0 α1 α2 α3 α4 α5 α6 α7 α8 α9 α10 α11 α12 α13 α14 α15 α16 α17 α18 α19 α20 β : Type} {x : Option (α0 × α1 × α2 × α3 × α4 × α5 × α6 × α7 × α8 × α9 × α10 × α11 × α12 × α13 × α14 × α15 × α16 × α17 × α18 × α19 × α20)} {k : α0 → α1 → α2 → α3 → α4 → α5 → α6 → α7 → α8 → α9 → α10 → α11 → α12 → α13 → α14 → α15 → α16 → α17 → α18 → α19 → α20 → Option β} {r : β} (h : zb21 x k = some r) : ∃ a0 a1 a2 a3 a4 a5 a6 a7 a8 a9 a10 a11 a12 a13 a14 a15 a16 a17 a18 a19 a20, x = some (a0, a1, a2, a3, a4, a5, a6, a7, a8, a9, a10, a11, a12, a13, a14, a15, a16, a17, a18, a19, a20) ∧ k a0 a1 a2 a3 a4 a5 a6 a7 a8 a9 a10 a11 a12 a13 a14 a15 a16 a17 a18 a19 a20 = some r := by
  cases x with
  | none => cases h
  | some q => exact ⟨q.1, q.2.1, q.2.2.1, q.2.2.2.1, q.2.2.2.2.1, q.2.2.2.2.2.1, q.2.2.2.2.2.2.1, q.2.2.2.2.2.2.2.1, q.2.2.2.2.2.2.2.2.1, q.2.2.2.2.2.2.2.2.2.1, q.2.2.2.2.2.2.2.2.2.2.1, q.2.2.2.2.2.2.2.2.2.2.2.1, q.2.2.2.2.2.2.2.2.2.2.2.2.1, q.2.2.2.2.2.2.2.2.2.2.2.2.2.1, q.2.2.2.2.2.2.2.2.2.2.2.2.2.2.1, q.2.2.2.2.2.2.2.2.2.2.2.2.2.2.2.1, q.2.2.2.2.2.2.2.2.2.2.2.2.2.2.2.2.1, q.2.2.2.2.2.2.2.2.2.2.2.2.2.2.2.2.2.1, q.2.2.2.2.2.2.2.2.2.2.2.2.2.2.2.2.2.2.1, q.2.2.2.2.2.2.2.2.2.2.2.2.2.2.2.2.2.2.2.1, q.2.2.2.2.2.2.2.2.2.2.2.2.2.2.2.2.2.2.2.2, rfl, h⟩
def zb22 {α0 α1 α2 α3 α4 α5 α6 α7 α8 α9 α10 α11 α12 α13 α14 α15 α16 α17 α18 α19 α20 α21 β : Type} (x : Option (α0 × α1 × α2 × α3 × α4 × α5 × α6 × α7 × α8 × α9 × α10 × α11 × α12 × α13 × α14 × α15 × α16 × α17 × α18 × α19 × α20 × α21)) (k : α0 → α1 → α2 → α3 → α4 → α5 → α6 → α7 → α8 → α9 → α10 → α11 → α12 → α13 → α14 → α15 → α16 → α17 → α18 → α19 → α20 → α21 → Option β) : Option β := match x with
  | none => none
  | some (a0, a1, a2, a3, a4, a5, a6, a7, a8, a9, a10, a11, a12, a13, a14, a15, a16, a17, a18, a19, a20, a21) => k a0 a1 a2 a3 a4 a5 a6 a7 a8 a9 a10 a11 a12 a13 a14 a15 a16 a17 a18 a19 a20 a21
theorem zb22_s {α0 α1 α2 α3 α4 α5 α6 α7 α8 α9 α10 α11 α12 α13 α14 α15 α16 α17 α18 α19 α20 α21 β : Type} {x : Option (α0 × α1 × α2 × α3 × α4 × α5 × α6 × α7 × α8 × α9 × α10 × α11 × α12 × α13 × α14 × α15 × α16 × α17 × α18 × α19 × α20 × α21)} {k : α0 → α1 → α2 → α3 → α4 → α5 → α6 → α7 → α8 → α9 → α10 → α11 → α12 → α13 → α14 → α15 → α16 → α17 → α18 → α19 → α20 → α21 → Option β} {r : β} (h : zb22 x k = some r) : ∃ a0 a1 a2 a3 a4 a5 a6 a7 a8 a9 a10 a11 a12 a13 a14 a15 a16 a17 a18 a19 a20 a21, x = some (a0, a1, a2, a3, a4, a5, a6, a7, a8, a9, a10, a11, a12, a13, a14, a15, a16, a17, a18, a19, a20, a21) ∧ k a0 a1 a2 a3 a4 a5 a6 a7 a8 a9 a10 a11 a12 a13 a14 a15 a16 a17 a18 a19 a20 a21 = some r := by
  cases x with
  | none => cases h
  | some q => exact ⟨q.1, q.2.1, q.2.2.1, q.2.2.2.1, q.2.2.2.2.1, q.2.2.2.2.2.1, q.2.2.2.2.2.2.1, q.2.2.2.2.2.2.2.1, q.2.2.2.2.2.2.2.2.1, q.2.2.2.2.2.2.2.2.2.1, q.2.2.2.2.2.2.2.2.2.2.1, q.2.2.2.2.2.2.2.2.2.2.2.1, q.2.2.2.2.2.2.2.2.2.2.2.2.1, q.2.2.2.2.2.2.2.2.2.2.2.2.2.1, q.2.2.2.2.2.2.2.2.2.2.2.2.2.2.1, q.2.2.2.2.2.2.2.2.2.2.2.2.2.2.2.1, q.2.2.2.2.2.2.2.2.2.2.2.2.2.2.2.2.1, q.2.2.2.2.2.2.2.2.2.2.2.2.2.2.2.2.2.1, q.2.2.2.2.2.2.2.2.2.2.2.2.2.2.2.2.2.2.1, q.2.2.2.2.2.2.2.2.2.2.2.2.2.2.2.2.2.2.2.1, q.2.2.2.2.2.2.2.2.2.2.2.2.2.2.2.2.2.2.2.2.1, q.2.2.2.2.2.2.2.2.2.2.2.2.2.2.2.2.2.2.2.2.2, rfl, h⟩
def zb23 {α0 α1 α2 α3 α4 α5 α6 α7 α8 α9 α10 α11 α12 α13 α14 α15 α16 α17 α18 α19 α20 α21 α22 β : Type} (x : Option (α0 × α1 × α2 × α3 × α4 × α5 × α6 × α7 × α8 × α9 × α10 × α11 × α12 × α13 × α14 × α15 × α16 × α17 × α18 × α19 × α20 × α21 × α22)) (k : α0 → α1 → α2 → α3 → α4 → α5 → α6 → α7 → α8 → α9 → α10 → α11 → α12 → α13 → α14 → α15 → α16 → α17 → α18 → α19 → α20 → α21 → α22 → Option β) : Option β := match x with
  | none => none
  | some (a0, a1, a2, a3, a4, a5, a6, a7, a8, a9, a10, a11, a12, a13, a14, a15, a16, a17, a18, a19, a20, a21, a22) => k a0 a1 a2 a3 a4 a5 a6 a7 a8 a9 a10 a11 a12 a13 a14 a15 a16 a17 a18 a19 a20 a21 a22
theorem zb23_s {α0 α1 α2 α3 α4 α5 α6 α7 α8 α9 α10 α11 α12 α13 α14 α15 α16 α17 α18 α19 α20 α21 α22 β : Type} {x : Option (α0 × α1 × α2 × α3 × α4 × α5 × α6 × α7 × α8 × α9 × α10 × α11 × α12 × α13 × α14 × α15 × α16 × α17 × α18 × α19 × α20 × α21 × α22)} {k : α0 → α1 → α2 → α3 → α4 → α5 → α6 → α7 → α8 → α9 → α10 → α11 → α12 → α13 → α14 → α15 → α16 → α17 → α18 → α19 → α20 → α21 → α22 → Option β} {r : β} (h : zb23 x k = some r) : ∃ a0 a1 a2 a3 a4 a5 a6 a7 a8 a9 a10 a11 a12 a13 a14 a15 a16 a17 a18 a19 a20 a21 a22, x = some (a0, a1, a2, a3, a4, a5, a6, a7, a8, a9, a10, a11, a12, a13, a14, a15, a16, a17, a18, a19, a20, a21, a22) ∧ k a0 a1 a2 a3 a4 a5 a6 a7 a8 a9 a10 a11 a12 a13 a14 a15 a16 a17 a18 a19 a20 a21 a22 = some r := by
  cases x with
  | none => cases h
  | some q => exact ⟨q.1, q.2.1, q.2.2.1, q.2.2.2.1, q.2.2.2.2.1, q.2.2.2.2.2.1, q.2.2.2.2.2.2.1, q.2.2.2.2.2.2.2.1, q.2.2.2.2.2.2.2.2.1, q.2.2.2.2.2.2.2.2.2.1, q.2.2.2.2.2.2.2.2.2.2.1, q.2.2.2.2.2.2.2.2.2.2.2.1, q.2.2.2.2.2.2.2.2.2.2.2.2.1, q.2.2.2.2.2.2.2.2.2.2.2.2.2.1, q.2.2.2.2.2.2.2.2.2.2.2.2.2.2.1, q.2.2.2.2.2.2.2.2.2.2.2.2.2.2.2.1, q.2.2.2.2.2.2.2.2.2.2.2.2.2.2.2.2.1, q.2.2.2.2.2.2.2.2.2.2.2.2.2.2.2.2.2.1, q.2.2.2.2.2.2.2.2.2.2.2.2.2.2.2.2.2.2.1, q.2.2.2.2.2.2.2.2.2.2.2.2.2.2.2.2.2.2.2.1, q.2.2.2.2.2.2.2.2.2.2.2.2.2.2.2.2.2.2.2.2.1, q.2.2.2.2.2.2.2.2.2.2.2.2.2.2.2.2.2.2.2.2.2.1, q.2.2.2.2.2.2.2.2.2.2.2.2.2.2.2.2.2.2.2.2.2.2, rfl, h⟩
def zb24 {α0 α1 α2 α3 α4 α5 α6 α7 α8 α9 α10 α11 α12 α13 α14 α15 α16 α17 α18 α19 α20 α21 α22 α23 β : Type} (x : Option (α0 × α1 × α2 × α3 × α4 × α5 × α6 × α7 × α8 × α9 × α10 × α11 × α12 × α13 × α14 × α15 × α16 × α17 × α18 × α19 × α20 × α21 × α22 × α23)) (k : α0 → α1 → α2 → α3 → α4 → α5 → α6 → α7 → α8 → α9 → α10 → α11 → α12 → α13 → α14 → α15 → α16 → α17 → α18 → α19 → α20 → α21 → α22 → α23 → Option β) : Option β := match x with
  | none => none
  | some (a0, a1, a2, a3, a4, a5, a6, a7, a8, a9, a10, a11, a12, a13, a14, a15, a16, a17, a18, a19, a20, a21, a22, a23) => k a0 a1 a2 a3 a4 a5 a6 a7 a8 a9 a10 a11 a12 a13 a14 a15 a16 a17 a18 a19 a20 a21 a22 a23
theorem zb24_s {α0 α1 α2 α3 α4 α5 α6 α7 α8 α9 α10 α11 α12 α13 α14 α15 α16 α17 α18 α19 α20 α21 α22 α23 β : Type} {x : Option (α0 × α1 × α2 × α3 × α4 × α5 × α6 × α7 × α8 × α9 × α10 × α11 × α12 × α13 × α14 × α15 × α16 × α17 × α18 × α19 × α20 × α21 × α22 × α23)} {k : α0 → α1 → α2 → α3 → α4 → α5 → α6 → α7 → α8 → α9 → α10 → α11 → α12 → α13 → α14 → α15 → α16 → α17 → α18 → α19 → α20 → α21 → α22 → α23 → Option β} {r : β} (h : zb24 x k = some r) : ∃ a0 a1 a2 a3 a4 a5 a6 a7 a8 a9 a10 a11 a12 a13 a14 a15 a16 a17 a18 a19 a20 a21 a22 a23, x = some (a0, a1, a2, a3, a4, a5, a6, a7, a8, a9, a10, a11, a12, a13, a14, a15, a16, a17, a18, a19, a20, a21, a22, a23) ∧ k a0 a1 a2 a3 a4 a5 a6 a7 a8 a9 a10 a11 a12 a13 a14 a15 a16 a17 a18 a19 a20 a21 a22 a23 = some r := by
  cases x with
  | none => cases h
  | some q => exact ⟨q.1, q.2.1, q.2.2.1, q.2.2.2.1, q.2.2.2.2.1, q.2.2.2.2.2.1, q.2.2.2.2.2.2.1, q.2.2.2.2.2.2.2.1, q.2.2.2.2.2.2.2.2.1, q.2.2.2.2.2.2.2.2.2.1, q.2.2.2.2.2.2.2.2.2.2.1, q.2.2.2.2.2.2.2.2.2.2.2.1, q.2.2.2.2.2.2.2.2.2.2.2.2.1, q.2.2.2.2.2.2.2.2.2.2.2.2.2.1, q.2.2.2.2.2.2.2.2.2.2.2.2.2.2.1, q.2.2.2.2.2.2.2.2.2.2.2.2.2.2.2.1, q.2.2.2.2.2.2.2.2.2.2.2.2.2.2.2.2.1, q.2.2.2.2.2.2.2.2.2.2.2.2.2.2.2.2.2.1, q.2.2.2.2.2.2.2.2.2.2.2.2.2.2.2.2.2.2.1, q.2.2.2.2.2.2.2.2.2.2.2.2.2.2.2.2.2.2.2.1, q.2.2.2.2.2.2.2.2.2.2.2.2.2.2.2.2.2.2.2.2.1, q.2.2.2.2.2.2.2.2.2.2.2.2.2.2.2.2.2.2.2.2.2.1, q.2.2.2.2.2.2.2.2.2.2.2.2.2.2.2.2.2.2.2.2.2.2.1, q.2.2.2.2.2.2.2.2.2.2.2.2.2.2.2.2.2.2.2.2.2.2.2, rfl, h⟩
def cArr (cI : ClassId) (a n : Nat) (f : Nat → Int32) : va_W := [(a, .inl (cI, n, .inl f))]
def cWar (cI : ClassId) (q : Nat → Nat) (things : Int32) (gifts : Int32) (days : Int32) (size : Nat → Int32) (weight : Nat → Int32) (sound : Nat → Int32) (harm : Nat → Int32) (in_ : Nat → Int32) (kind : Nat → Int32) (owner : Nat → Int32) (empty : Nat → Int32) (room : Nat → Int32) (told : Nat → Int32) (gate : Nat → Int32) (ear : Nat → Int32) (scale : Nat → Int32) (lost : Nat → Int32) (watch : Nat → Int32) (moments : Int32) (kept : Nat → Int32) : va_W := [(q 0, .inr (3, [.int things, .int gifts, .int days, .ref (q 1), .ref (q 2), .ref (q 3), .ref (q 4), .ref (q 5), .ref (q 6), .ref (q 7), .ref (q 8), .ref (q 9), .ref (q 10), .ref (q 11), .ref (q 12), .ref (q 13), .ref (q 14), .ref (q 15), .ref (q 16)])), (q 1, .inl (cI, 8, .inl size)), (q 2, .inl (cI, 8, .inl weight)), (q 3, .inl (cI, 8, .inl sound)), (q 4, .inl (cI, 8, .inl harm)), (q 5, .inl (cI, 8, .inl in_)), (q 6, .inl (cI, 6, .inl kind)), (q 7, .inl (cI, 6, .inl owner)), (q 8, .inl (cI, 6, .inl empty)), (q 9, .inl (cI, 6, .inl room)), (q 10, .inl (cI, 6, .inl told)), (q 11, .inl (cI, 2, .inl gate)), (q 12, .inl (cI, 2, .inl ear)), (q 13, .inl (cI, 2, .inl scale)), (q 14, .inl (cI, 2, .inl lost)), (q 15, .inl (cI, 12, .inl watch)), (q 16, .inr (1, [.int moments, .ref (q 17)])), (q 17, .inl (cI, 136, .inl kept))]
def cPast (cI : ClassId) (q : Nat → Nat) (moments : Int32) (kept : Nat → Int32) : va_W := [(q 0, .inr (1, [.int moments, .ref (q 1)])), (q 1, .inl (cI, 136, .inl kept))]
def cBridge (cI : ClassId) (q : Nat → Nat) (bcount : Int32) (bleast : Int32) (bneigh : Int32) (bdrawn : Int32) (bgifts : Nat → Int32) (bweights : Nat → Int32) (border : Nat → Int32) (bbest : Nat → Int32) : va_W := [(q 0, .inr (0, [.int bcount, .int bleast, .int bneigh, .int bdrawn, .ref (q 1), .ref (q 2), .ref (q 3), .ref (q 4)])), (q 1, .inl (cI, 6, .inl bgifts)), (q 2, .inl (cI, 6, .inl bweights)), (q 3, .inl (cI, 6, .inl border)), (q 4, .inl (cI, 6, .inl bbest))]
def cTell (cI : ClassId) (cB : ClassId) (q : Nat → Nat) (tlen : Int32) (titems : Int32) (tfault : Int32) (tbytes : Nat → Int32) (twords : Nat → Int32) (tnumbers : Nat → Int32) : va_W := [(q 0, .inr (2, [.int tlen, .int titems, .int tfault, .ref (q 1), .ref (q 2), .ref (q 3)])), (q 1, .inl (cB, 150, .inl tbytes)), (q 2, .inl (cI, 25, .inl twords)), (q 3, .inl (cI, 100, .inl tnumbers))]
def cHG (q : Nat → Nat) (qw qt qi qj qb qx : Nat) (kept0 : Int32) (kept1 : Int32) (above : Int64) (below : Int64) (bads : Int32) (noes : Int32) (fulls : Int32) : va_W := [(q 0, .inr (4, [.ref qw, .ref qt, .ref qi, .ref qj, .int kept0, .int kept1, .ref qb, .ref qx, .long above, .long below, .int bads, .int noes, .int fulls]))]
def cMod (cI : ClassId) (cZ : ClassId) (q : Nat → Nat) (quiet : Int32) (mabove : Int64) (mbelow : Int64) (typed : Int32) (mat : Int32) (mstart : Int32) (mtoken : Int32) (mvalue : Int32) (many : Int32) (book : Nat → Int32) (images : Nat → Int32) (mkept : Nat → Int32) (aside : Nat → Int32) (refused : Nat → Int32) (text : Nat → Int32) (items : Nat → Int32) (drawn : Nat → Int32) (row : Nat → Int32) (best : Nat → Int32) : va_W := [(q 0, .inr (5, [.ref (q 1), .ref (q 2), .ref (q 3), .ref (q 4), .ref (q 5), .int quiet, .long mabove, .long mbelow, .ref (q 6), .int typed, .int mat, .int mstart, .int mtoken, .int mvalue, .ref (q 7), .int many, .ref (q 8), .ref (q 9), .ref (q 10)])), (q 1, .inl (cI, 230, .inl book)), (q 2, .inl (cI, 460, .inl images)), (q 3, .inl (cZ, 2, .inl mkept)), (q 4, .inl (cI, 230, .inl aside)), (q 5, .inl (cI, 3, .inl refused)), (q 6, .inl (cI, 150, .inl text)), (q 7, .inl (cI, 250, .inl items)), (q 8, .inl (cI, 6, .inl drawn)), (q 9, .inl (cI, 6, .inl row)), (q 10, .inl (cI, 6, .inl best))]
