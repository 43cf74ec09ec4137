/-! ===== pure side 9: measures, watches, told ===== -/
theorem rg_iff (a : Int32) (hi : Nat) (hh : hi < 2 ^ 31) : (rg a 0 hi = true) ↔ (nI 0 ≤ a ∧ a ≤ nI hi) := by
  unfold rg
  rw [decide_eq_true_eq, z_leI, z_leI, nI_toInt hh, nI_toInt (by decide)]
theorem sml_rg0 {a : Int32} {n : Nat} (h : rg a 0 n = true) (hh : n < 2 ^ 31) : sml a n := sml_rg h (Nat.le_refl _) hh
theorem Rw.city {B nt ng d nm : Nat} {book : Nat → Int32} {things gifts days : Int32} {size weight sound harm in_ kind owner empty room told gate ear scale lost watch : Nat → Int32} {moments : Int32} {kept : Nat → Int32} (h : Bk B book nt ng d nm) (r : Rw things gifts days size weight sound harm in_ kind owner empty room told gate ear scale lost watch moments kept book nt ng nm) {c w : Nat} (hc : c < 2) (hw : w < 3) (v : Int32) : Rw things gifts days size weight sound harm in_ kind owner empty room told (if w = 0 then upd gate c v else gate) (if w = 1 then upd ear c v else ear) (if w = 2 then upd scale c v else scale) lost watch moments kept (upd book (74 + 3 * c + w) v) nt ng nm := by
  obtain ⟨⟨hn1, hn2, hn3, hd, hB⟩, -⟩ := h
  obtain ⟨⟨r0, r1, r2, r3⟩, rt, rgg, rc, rw_, rp⟩ := r
  refine ⟨⟨?_, ?_, ?_, ?_⟩, ?_, ?_, ?_, ?_, ?_⟩
  · simp (disch := omega) only [pk_un, r0]
  · simp (disch := omega) only [pk_un, r1]
  · simp (disch := omega) only [pk_un, r2]
  · simp (disch := omega) only [pk_un, r3]
  · intro t ht
    simp (disch := omega) only [pk_un]
    exact rt t ht
  · intro g hg
    simp (disch := omega) only [pk_un]
    exact rgg g hg
  · intro e he
    have rc := rc e he
    by_cases k : e = c
    · subst k
      rcases (show w = 0 ∨ w = 1 ∨ w = 2 by omega) with rfl | rfl | rfl
      · simp (disch := omega) [pk_un, pk_us, rc]
      · simp (disch := omega) [pk_un, pk_us, rc]
      · simp (disch := omega) [pk_un, pk_us, rc]
    · simp (disch := omega) only [pk_un]
      rcases (show w = 0 ∨ w = 1 ∨ w = 2 by omega) with rfl | rfl | rfl <;> simp (disch := omega) [pk_un, k, rc]
  · intro g hg
    simp (disch := omega) only [pk_un]
    exact rw_ g hg
  · intro k hk
    have rp := rp k hk
    refine ⟨fun t ht => ?_, fun g hg => ?_, ?_, ?_, ?_⟩
    · simp (disch := omega) only [pk_un]
      exact rp.1 t ht
    · simp (disch := omega) only [pk_un]
      exact rp.2.1 g hg
    · simp (disch := omega) only [pk_un]
      exact rp.2.2.1
    · simp (disch := omega) only [pk_un]
      exact rp.2.2.2.1
    · simp (disch := omega) only [pk_un]
      exact rp.2.2.2.2
theorem e_city {B nt ng d nm : Nat} {book : Nat → Int32} {things gifts days : Int32} {size weight sound harm in_ kind owner empty room told gate ear scale lost watch : Nat → Int32} {moments : Int32} {kept : Nat → Int32} (h : Bk B book nt ng d nm) (r : Rw things gifts days size weight sound harm in_ kind owner empty room told gate ear scale lost watch moments kept book nt ng nm) (q : Int32) (rf : Nat → Int32) (a b n : Int32) : ∃ (ans : Int32) (gate' ear' scale' : Nat → Int32) (book' : Nat → Int32),
    f4_setMeasure gate ear scale a b n = some (ans, gate', ear', scale') ∧ f6_city q book rf a b n = some (ans, book', cntd q rf ans) ∧
    Bk B book' nt ng d nm ∧ Rw things gifts days size weight sound harm in_ kind owner empty room told gate' ear' scale' lost watch moments kept book' nt ng nm := by
  have w1 := v5_isCity a
  have w2 : f5_within b 0 2 = some (bI (rg b 0 2)) := v5w (lo := 0) (hi := 2) (by decide) (by decide)
  have m1 := v6_isCity a
  have m2 : f6_in b.toInt64 0 2 = some (bI (rg b 0 2)) := v6i (lo := 0) (hi := 2) (by decide) (by decide)
  have m3 : ∀ k, k < 1000 → f6_in n.toInt64 0 (nI k).toInt64 = some (bI (rg n 0 k)) := fun k hk => by
    rw [nI_l (by omega)]
    exact v6i (lo := 0) (hi := k) (by decide) (by omega)
  have bt : bI true = 1 := rfl
  have bf : bI false = 0 := rfl
  by_cases c1 : rg a 0 1 = true
  · by_cases c2 : rg b 0 2 = true
    · obtain ⟨c, -, hc, rfl⟩ := rg_of (by decide) c1
      obtain ⟨w, -, hw, rfl⟩ := rg_of (by decide) c2
      obtain ⟨rg1, re1, rs1, -⟩ := r.2.2.2.1 c (by omega)
      obtain ⟨⟨hg1, hg2⟩, ⟨he1, he2⟩, ⟨hs1, hs2⟩⟩ := h.2.2.2.2.2.1 c (by omega)
      rcases (show w = 0 ∨ w = 1 ∨ w = 2 by omega) with rfl | rfl | rfl
      · by_cases c3 : rg n 0 30 = true
        · obtain ⟨q1, q2⟩ := (rg_iff n 30 (by decide)).mp c3
          have hcn : cntd q rf (book (74 + 3 * c)) = rf := by rw [hg1]; exact cntd_n q rf (by omega)
          refine ⟨book (74 + 3 * c), upd gate c n, ear, scale, upd book (74 + 3 * c) n, ?_, ?_, h.city (w := 0) (by omega) (by omega) (sml_rg0 c3 (by decide)), r.city h (w := 0) (by omega) (by omega) n⟩
          · unfold f4_setMeasure
            simp only [w1, w2, c1, c2, bt, zb1_e]
            simp (disch := omega) [zL, nI_eq, q1, q2, v4_replaced, zb2_e, rg1]
          · unfold f6_city
            rw [hcn]
            simp (disch := omega) [zL, nI_eq, zb1_e, m1, m2, m3, c1, c2, c3, bI, nI_add, pk_mul, v6_puts, zb2_e]
        · have c3' : ¬ (nI 0 ≤ n ∧ n ≤ nI 30) := fun x => c3 ((rg_iff n 30 (by decide)).mpr x)
          refine ⟨-2, gate, ear, scale, book, ?_, ?_, h, r⟩
          · unfold f4_setMeasure
            simp only [w1, w2, c1, c2, bt, zb1_e]
            by_cases q1 : nI 0 ≤ n
            · have q2 : ¬ n ≤ nI 30 := fun x => c3' ⟨q1, x⟩
              simp (disch := omega) [zL, nI_eq, q1, q2]
            · simp (disch := omega) [zL, nI_eq, q1]
          · unfold f6_city
            simp (disch := omega) [zL, nI_eq, zb1_e, m1, m2, m3, c1, c2, c3, bI, v6_bad, zb2_e]
      · by_cases c3 : rg n 0 50 = true
        · obtain ⟨q1, q2⟩ := (rg_iff n 50 (by decide)).mp c3
          have hcn : cntd q rf (book (74 + 3 * c + 1)) = rf := by rw [he1]; exact cntd_n q rf (by omega)
          refine ⟨book (74 + 3 * c + 1), gate, upd ear c n, scale, upd book (74 + 3 * c + 1) n, ?_, ?_, h.city (w := 1) (by omega) (by omega) (sml_rg0 c3 (by decide)), r.city h (w := 1) (by omega) (by omega) n⟩
          · unfold f4_setMeasure
            simp only [w1, w2, c1, c2, bt, zb1_e]
            simp (disch := omega) [zL, nI_eq, q1, q2, v4_replaced, zb2_e, re1]
          · unfold f6_city
            rw [hcn]
            simp (disch := omega) [zL, nI_eq, zb1_e, m1, m2, m3, c1, c2, c3, bI, nI_add, pk_mul, v6_puts, zb2_e]
        · have c3' : ¬ (nI 0 ≤ n ∧ n ≤ nI 50) := fun x => c3 ((rg_iff n 50 (by decide)).mpr x)
          refine ⟨-2, gate, ear, scale, book, ?_, ?_, h, r⟩
          · unfold f4_setMeasure
            simp only [w1, w2, c1, c2, bt, zb1_e]
            by_cases q1 : nI 0 ≤ n
            · have q2 : ¬ n ≤ nI 50 := fun x => c3' ⟨q1, x⟩
              simp (disch := omega) [zL, nI_eq, q1, q2]
            · simp (disch := omega) [zL, nI_eq, q1]
          · unfold f6_city
            simp (disch := omega) [zL, nI_eq, zb1_e, m1, m2, m3, c1, c2, c3, bI, v6_bad, zb2_e]
      · by_cases c3 : rg n 0 200 = true
        · obtain ⟨q1, q2⟩ := (rg_iff n 200 (by decide)).mp c3
          have hcn : cntd q rf (book (74 + 3 * c + 2)) = rf := by rw [hs1]; exact cntd_n q rf (by omega)
          refine ⟨book (74 + 3 * c + 2), gate, ear, upd scale c n, upd book (74 + 3 * c + 2) n, ?_, ?_, h.city (w := 2) (by omega) (by omega) (sml_rg0 c3 (by decide)), r.city h (w := 2) (by omega) (by omega) n⟩
          · unfold f4_setMeasure
            simp only [w1, w2, c1, c2, bt, zb1_e]
            simp (disch := omega) [zL, nI_eq, q1, q2, v4_replaced, zb2_e, rs1]
          · unfold f6_city
            rw [hcn]
            simp (disch := omega) [zL, nI_eq, zb1_e, m1, m2, m3, c1, c2, c3, bI, nI_add, pk_mul, v6_puts, zb2_e]
        · have c3' : ¬ (nI 0 ≤ n ∧ n ≤ nI 200) := fun x => c3 ((rg_iff n 200 (by decide)).mpr x)
          refine ⟨-2, gate, ear, scale, book, ?_, ?_, h, r⟩
          · unfold f4_setMeasure
            simp only [w1, w2, c1, c2, bt, zb1_e]
            by_cases q1 : nI 0 ≤ n
            · have q2 : ¬ n ≤ nI 200 := fun x => c3' ⟨q1, x⟩
              simp (disch := omega) [zL, nI_eq, q1, q2]
            · simp (disch := omega) [zL, nI_eq, q1]
          · unfold f6_city
            simp (disch := omega) [zL, nI_eq, zb1_e, m1, m2, m3, c1, c2, c3, bI, v6_bad, zb2_e]
    · refine ⟨-2, gate, ear, scale, book, ?_, ?_, h, r⟩
      · unfold f4_setMeasure
        simp [w1, w2, c1, c2, bt, bf, zb1_e]
      · unfold f6_city
        (repeat' split) <;> simp [m1, m2, c1, c2, bt, bf, zb1_e, zb2_e, v6_bad]
  · refine ⟨-2, gate, ear, scale, book, ?_, ?_, h, r⟩
    · unfold f4_setMeasure
      simp [w1, w2, c1, bt, bf, zb1_e]
    · unfold f6_city
      (repeat' split) <;> simp [m1, m2, c1, bt, bf, zb1_e, zb2_e, v6_bad]
