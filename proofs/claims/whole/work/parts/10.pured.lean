/-! ===== pure side 14: put, out, tell ===== -/
theorem zm1 : (-1 : Int32) = zNone := rfl
theorem z_or_lt {S t nt : Nat} (hS : S < 2 ^ nt) (ht : t < nt) : S ||| 2 ^ t < 2 ^ nt := Nat.or_lt_two_pow hS (Nat.pow_lt_pow_right (by decide) ht)
theorem nI_neq {n k : Nat} (hn : n < 2 ^ 31) (hk : k < 2 ^ 31) (h : n ≠ k) : ¬ nI n = nI k := fun e => h ((nI_eq hn hk).mp e)
theorem nI_ne_none {n : Nat} (hn : n < 2 ^ 31) : ¬ nI n = zNone := nI_ne_neg hn (k := 1) (by decide) (by decide)
theorem e_put {B nt ng d nm : Nat} {book : Nat → Int32} {things gifts days : Int32} {size weight sound harm in_ kind owner empty room told gate ear scale lost watch : Nat → Int32} {moments : Int32} {kept : Nat → Int32} (h : Bk B book nt ng d nm) (r : Rw things gifts days size weight sound harm in_ kind owner empty room told gate ear scale lost watch moments kept book nt ng nm) (q : Int32) (rf : Nat → Int32) (a b : Int32) : ∃ (ans : Int32) (in' : Nat → Int32) (moments' : Int32) (kept' : Nat → Int32) (book' : Nat → Int32) (nm' : Nat),
    f4_putIn things gifts days size in_ owner room lost moments kept a b = some (ans, in', moments', kept') ∧ f6_put q book rf a b = some (ans, book', cntd q rf ans) ∧
    Bk B book' nt ng d nm' ∧ Rw things gifts days size weight sound harm in' kind owner empty room told gate ear scale lost watch moments' kept' book' nt ng nm' := by
  have w1 := r.isThing h a
  have w2 := r.isGift h b
  have m1 := h.isThing a
  have m2 := h.isGift b
  have bt : bI true = 1 := rfl
  have bf : bI false = 0 := rfl
  have hn1 := h.1.1
  have hn2 := h.1.2.1
  by_cases c1 : rgn a nt = true ∧ rgn b ng = true
  · obtain ⟨c1, c2⟩ := c1
    obtain ⟨t, ht, rfl⟩ := rgn_of (by omega) c1
    obtain ⟨g, hg, rfl⟩ := rgn_of (by omega) c2
    have ri := (r.2.1 t ht).2.2.2.2
    by_cases c3 : book (36 + t) = zNone
    · have hS := z_set_lt book nt (nI g)
      have hS2 := z_or_lt hS ht
      have hS8 := pow8 hn1
      have wi := r.inside h (nI g)
      have wr := r.hasRoom h hg hS2
      have mi := v6_thingsIn hn1 h.2.1.1 (nI g)
      have ms := h.sum (S := zSet book nt (nI g) ||| 2 ^ t) (w := 0) (by omega) (by decide)
      have hle := h.sumle (S := zSet book nt (nI g) ||| 2 ^ t) (w := 0) (by decide)
      obtain ⟨hr1, hr2⟩ := (h.2.2.2.2.1 g hg).2.2.1
      obtain ⟨R, hR⟩ : ∃ R, nN (book (56 + g)) = R := ⟨_, rfl⟩
      rw [hR] at hr1 hr2 wr
      by_cases c4 : sumV (thV book 0) (zSet book nt (nI g) ||| 2 ^ t) nt ≤ R
      · obtain ⟨moments', kept', book', nm', x1, x2, x3, x4, x5⟩ := e_rem h r
        refine ⟨1, upd in_ t (nI g), moments', kept', upd book' (36 + t) (nI g), nm', ?_, ?_, x3.setIn ht (Or.inr ⟨g, hg, rfl⟩), x4.setIn x3 ht (nI g)⟩
        · unfold f4_putIn
          simp only [w1, w2, c1, c2, bt, zb1_e, zm1]
          simp (disch := omega) only [zg_n, nI_clamp, ri, c3, zL, zshl, nI_eq, wi, zb1_e, fa_or, wr, c4, x1, zb2_e]
          simp [bI, nI_eq]
        · unfold f6_put
          have hc : cntd q rf 1 = rf := cntd_n q rf (n := 1) (by decide)
          rw [hc]
          simp only [m1, m2, c1, c2, bt, zb1_e, zm1]
          simp (disch := omega) only [zL, nI_add, zg_n, nI_clamp, c3, zshl, nI_eq, mi, zb1_e, fa_or, ms, hr1, nI_leI, c4, x2]
          simp
      · refine ⟨-3, in_, moments, kept, book, nm, ?_, ?_, h, r⟩
        · unfold f4_putIn
          simp only [w1, w2, c1, c2, bt, zb1_e, zm1]
          simp (disch := omega) only [zg_n, nI_clamp, ri, c3, zL, zshl, nI_eq, wi, zb1_e, fa_or, wr, c4]
          simp [bI, nI_eq]
        · unfold f6_put
          simp only [m1, m2, c1, c2, bt, zb1_e, zm1, v6_no, zb2_e]
          simp (disch := omega) only [zL, nI_add, zg_n, nI_clamp, c3, zshl, nI_eq, mi, zb1_e, fa_or, ms, hr1, nI_leI, c4]
          simp
    · refine ⟨-3, in_, moments, kept, book, nm, ?_, ?_, h, r⟩
      · unfold f4_putIn
        simp only [w1, w2, c1, c2, bt, zb1_e, zm1]
        simp (disch := omega) [zg_n, nI_clamp, ri, c3]
      · unfold f6_put
        simp only [m1, m2, c1, c2, bt, zb1_e, zm1, v6_no, zb2_e]
        simp (disch := omega) only [zL, nI_add, zg_n, nI_clamp, c3, nI_eq]
        simp
  · refine ⟨-2, in_, moments, kept, book, nm, ?_, ?_, h, r⟩
    · unfold f4_putIn
      simp only [w1, w2, zb1_e]
      cases c5 : rgn a nt <;> cases c6 : rgn b ng <;> simp_all
    · unfold f6_put
      simp only [m1, m2, zb1_e, v6_bad, zb2_e]
      cases c5 : rgn a nt <;> cases c6 : rgn b ng <;> simp_all
theorem e_out {B nt ng d nm : Nat} {book : Nat → Int32} {things gifts days : Int32} {size weight sound harm in_ kind owner empty room told gate ear scale lost watch : Nat → Int32} {moments : Int32} {kept : Nat → Int32} (h : Bk B book nt ng d nm) (r : Rw things gifts days size weight sound harm in_ kind owner empty room told gate ear scale lost watch moments kept book nt ng nm) (q : Int32) (rf : Nat → Int32) (a : Int32) : ∃ (ans : Int32) (in' : Nat → Int32) (moments' : Int32) (kept' : Nat → Int32) (book' : Nat → Int32) (nm' : Nat),
    f4_takeOut things days in_ owner lost moments kept a = some (ans, in', moments', kept') ∧ f6_out q book rf a = some (ans, book', cntd q rf ans) ∧
    Bk B book' nt ng d nm' ∧ Rw things gifts days size weight sound harm in' kind owner empty room told gate ear scale lost watch moments' kept' book' nt ng nm' := by
  have w1 := r.isThing h a
  have m1 := h.isThing a
  have bt : bI true = 1 := rfl
  have bf : bI false = 0 := rfl
  have hn1 := h.1.1
  have hn2 := h.1.2.1
  by_cases c1 : rgn a nt = true
  · obtain ⟨t, ht, rfl⟩ := rgn_of (by omega) c1
    have ri := (r.2.1 t ht).2.2.2.2
    rcases h.2.2.2.1 t ht with c3 | ⟨g, hg, c3⟩
    · refine ⟨-3, in_, moments, kept, book, nm, ?_, ?_, h, r⟩
      · unfold f4_takeOut
        simp only [w1, c1, bt, zb1_e, zm1]
        simp (disch := omega) [zg_n, nI_clamp, ri, c3, zl_e]
      · unfold f6_out
        simp only [m1, c1, bt, zb1_e, zm1, v6_no, zb2_e]
        simp (disch := omega) only [zL, nI_add, zg_n, nI_clamp, c3, nI_eq]
        simp
    · obtain ⟨moments', kept', book', nm', x1, x2, x3, x4, x5⟩ := e_rem h r
      have hnn : ¬ nI g = zNone := nI_ne_none (by omega)
      have hb : book' (36 + t) = nI g := by rw [x5 _ (by omega) (by omega), c3]
      refine ⟨nI g, upd in_ t zNone, moments', kept', upd book' (36 + t) zNone, nm', ?_, ?_, x3.setIn ht (Or.inl rfl), x4.setIn x3 ht zNone⟩
      · unfold f4_takeOut
        simp only [w1, c1, bt, zb1_e, zm1]
        simp (disch := omega) [zg_n, nI_clamp, ri, c3, zl_e, hnn, x1, zb2_e]
      · unfold f6_out
        rw [cntd_n q rf (by omega)]
        simp only [m1, c1, bt, zb1_e, zm1]
        simp (disch := omega) only [zL, nI_add, zg_n, nI_clamp, c3, nI_eq, hnn, x2, zb1_e, v6_puts, zb2_e, hb]
        simp
  · refine ⟨-2, in_, moments, kept, book, nm, ?_, ?_, h, r⟩
    · unfold f4_takeOut
      simp only [w1, zb1_e]
      cases c5 : rgn a nt <;> simp_all
    · unfold f6_out
      simp only [m1, zb1_e, v6_bad, zb2_e]
      cases c5 : rgn a nt <;> simp_all
