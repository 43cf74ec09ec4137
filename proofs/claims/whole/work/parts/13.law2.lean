/-! ===== the law's start ===== -/
set_option maxRecDepth 20000 in
theorem lw_nest : ∀ w ∈ zNestL.map (fun q => Cond.methodLinkNest q.1 q.2.1 q.2.2 RX5), w ∈ lw_tbl := z_mem _ [179, 212, 739, 729, 381, 78, 513, 286, 301, 370, 329] (by decide +kernel)
theorem arr_known {s : State} {args : Array Value} {ty : FieldType} (hra : ∀ (cA : ClassId), va_RA s cA ty = (s.vm.findClass ("[" ++ ty.toString) = some cA)) (h : (Cond.arrayClass ty).before args s = true) : ∃ cA : ClassId, ArrOfT s cA ty ∧ va_RA s cA ty := by
  obtain ⟨cA, kA, comp, h1, h2, h3⟩ := Cond.arrayClass_spec h
  refine ⟨cA, fun n z => ⟨fun k h => (by cases h), kA, h2, comp, h3⟩, ?_⟩
  rw [hra]
  exact h1
set_option maxRecDepth 20000 in
theorem law_K {s : State} {args : Array Value} (hts : ∀ w ∈ lw_tbl, w.before args s = true) : ∃ (D : va_G) (cI cZ cB : ClassId), zK D cI cZ cB s := by
  obtain ⟨c0, iS0, hKn0⟩ := u_known (C := RX0) (T := TX0) (N := 8) (n := 8) hts mwsX00 (hts _ (List.mem_of_getElem? (i := 178) (by decide +kernel)))
  obtain ⟨c1, iS1, hKn1⟩ := u_known (C := RX2) (T := TX2) (N := 2) (n := 2) hts mwsX20 (hts _ (List.mem_of_getElem? (i := 77) (by decide +kernel)))
  obtain ⟨c2, iS2, hKn2⟩ := u_known (C := RX3) (T := TX3) (N := 6) (n := 6) hts mwsX30 (hts _ (List.mem_of_getElem? (i := 211) (by decide +kernel)))
  obtain ⟨c3, iS3, hKn3⟩ := u_known (C := RX4) (T := TX4) (N := 19) (n := 19) hts mwsX40 (hts _ (List.mem_of_getElem? (i := 71) (by decide +kernel)))
  obtain ⟨c4, iS4, hKn4⟩ := u_known (C := RX5) (T := TX5) (N := 13) (n := 13) hts mwsX50 (hts _ (List.mem_of_getElem? (i := 63) (by decide +kernel)))
  obtain ⟨c5, iS5, hKn5⟩ := u_known (C := RX6) (T := TX6) (N := 19) (n := 19) hts mwsX60 (hts _ (List.mem_of_getElem? (i := 802) (by decide +kernel)))
  obtain ⟨cI, hI⟩ := arr_known (ty := .int) (fun _ => rfl) (hts _ (List.mem_of_getElem? (i := 92) (by decide +kernel)))
  obtain ⟨cZ, hZ⟩ := arr_known (ty := .boolean) (fun _ => rfl) (hts _ (List.mem_of_getElem? (i := 869) (by decide +kernel)))
  obtain ⟨cB, hB⟩ := arr_known (ty := .byte) (fun _ => rfl) (hts _ (List.mem_of_getElem? (i := 237) (by decide +kernel)))
  refine ⟨(fun k => if k = 0 then c0 else if k = 1 then c1 else if k = 2 then c2 else if k = 3 then c3 else if k = 4 then c4 else c5, fun k => if k = 0 then iS0 else if k = 1 then iS1 else if k = 2 then iS2 else if k = 3 then iS3 else if k = 4 then iS4 else iS5), cI, cZ, cB, ⟨fun k q hq => ?_, fun k q hq => ?_⟩, fun q hq => ?_⟩
  · match k, hq with
    | 0, hq => cases hq; exact hKn0
    | 1, hq => cases hq; exact hKn1
    | 2, hq => cases hq; exact hKn2
    | 3, hq => cases hq; exact hKn3
    | 4, hq => cases hq; exact hKn4
    | 5, hq => cases hq; exact hKn5
    | k + 6, hq => simp [vwCl] at hq
  · match k, hq with
    | 0, hq => cases hq; exact hI
    | 1, hq => cases hq; exact hZ
    | 2, hq => cases hq; exact hB
    | k + 3, hq => simp at hq
  · exact va_Nw.of rfl (hts _ (lw_nest _ (List.mem_map_of_mem hq)))
def zsTm (i : Nat) : Term := Term.string RX3 (zsIdx.getD i 0)
set_option maxRecDepth 20000 in
theorem lw_ex : ∀ i, i < 7 → (Cond.exactly (zsTm i) "java/lang/String") ∈ flatC (Jvm.Cond.and given_1 narrow_1) := by decide +kernel
set_option maxRecDepth 20000 in
theorem lw_co : ∀ i, i < 7 → (Cond.eq (.field (zsTm i) "java/lang/String" "coder" "B") (.int 0)) ∈ flatC (Jvm.Cond.and given_1 narrow_1) := by decide +kernel
set_option maxRecDepth 20000 in
theorem lw_ar : ∀ i, i < 7 → (Cond.arrayOf (.field (zsTm i) "java/lang/String" "value" "[B") .byte) ∈ flatC (Jvm.Cond.and given_1 narrow_1) := by decide +kernel
set_option maxRecDepth 20000 in
theorem lw_le : ∀ i, i < 7 → (Cond.eq (.length (.field (zsTm i) "java/lang/String" "value" "[B")) (.int (Int32.ofNat (zsLen.getD i 0)))) ∈ flatC (Jvm.Cond.and given_1 narrow_1) := by decide +kernel
set_option maxRecDepth 20000 in
theorem lw_el : ∀ i, i < 7 → ∀ j, j < zsLen.getD i 0 → (Cond.eq (.elem (.field (zsTm i) "java/lang/String" "value" "[B") (.int (Int32.ofNat j))) (.int ((zsByt.getD i []).getD j 0))) ∈ flatC (Jvm.Cond.and given_1 narrow_1) := by decide +kernel
set_option maxRecDepth 20000 in
theorem lw_ne : ∀ i, i < 7 → ∀ j, j < 7 → i ≠ j → (Cond.not (Cond.eq (zsTm i) (zsTm j))) ∈ flatC (Jvm.Cond.and given_1 narrow_1) ∨ (Cond.not (Cond.eq (zsTm j) (zsTm i))) ∈ flatC (Jvm.Cond.and given_1 narrow_1) := by decide +kernel
set_option maxRecDepth 20000 in
theorem lw_ln : ∀ i, i < 7 → zsLen.getD i 0 < 2 ^ 31 := by decide +kernel
set_option maxRecDepth 20000 in
theorem lw_sr : ∀ w ∈ (List.range 7).map (fun i => Cond.stringRef RX3 (zsIdx.getD i 0) (zsTx.getD i "")), w ∈ lw_tbl := z_mem _ [421, 422, 423, 424, 425, 426, 427] (by decide +kernel)
set_option maxRecDepth 20000 in
theorem lw_cs : (Cond.eq (.static "java/lang/String" "COMPACT_STRINGS" "Z") (.int 1)) ∈ flatC (Jvm.Cond.and given_1 narrow_1) ∧ (Cond.isRef (.static "jdk/internal/util/Preconditions" "SIOOBE_FORMATTER" "Ljava/util/function/BiFunction;")) ∈ flatC (Jvm.Cond.and given_1 narrow_1) := by decide +kernel
theorem law_S {s : State} {args : Array Value} (hts : ∀ w ∈ lw_tbl, w.before args s = true) (hgv : (Jvm.Cond.and given_1 narrow_1).before args s = true) : ∃ (sa sv : Nat → Nat), zStr sa sv (fun q : Nat => s.heap.size ≤ q) s s.heap := by
  have hs := flat_of_before _ hgv
  have hA : ∀ a : Nat, a < s.heap.size → ¬ (fun q : Nat => s.heap.size ≤ q) a := fun a h => Nat.not_le.mpr h
  obtain ⟨sa, sv, h1, h2⟩ := vk_Sof (N := 7) (tm := zsTm) (len := zsLen) (byt := zsByt) (A := fun q : Nat => s.heap.size ≤ q) lw_ln (fun i hi => hs _ (lw_ex i hi)) (fun i hi => hs _ (lw_co i hi)) (fun i hi => hs _ (lw_ar i hi)) (fun i hi => hs _ (lw_le i hi)) (fun i hi j hj => hs _ (lw_el i hi j hj)) (fun i j hi hj hij => (lw_ne i hi j hj hij).imp (hs _) (hs _)) hA
  refine ⟨sa, sv, h1, va_Zof (hts _ (List.mem_of_getElem? (i := 441) (by decide +kernel))) (hts _ (List.mem_of_getElem? (i := 55) (by decide +kernel))) (va_eqt (hs _ lw_cs.1)) hA, va_Zqof (hts _ (List.mem_of_getElem? (i := 457) (by decide +kernel))) (hts _ (List.mem_of_getElem? (i := 57) (by decide +kernel))) (hs _ lw_cs.2) hA, fun i hi => vk_R.of (hts _ (lw_sr _ (List.mem_map.mpr ⟨i, List.mem_range.mpr hi, rfl⟩))) (h2 i hi)⟩
