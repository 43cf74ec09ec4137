/-! ===== pure side 10: watches, told ===== -/
theorem Bk.watch {B nt ng d nm : Nat} {book : Nat → Int32} (h : Bk B book nt ng d nm) {k : Nat} (hk : k < 12) {v : Int32} (hv : sml v 20) : Bk B (upd book (80 + k) v) nt ng d nm := by
  obtain ⟨⟨hn1, hn2, hn3, hd, hB⟩, ⟨h0, h1, h2, h3⟩, hth, hin, hgi, hci, hwa, hpa⟩ := h
  refine ⟨⟨hn1, hn2, hn3, hd, hB⟩, ⟨?_, ?_, ?_, ?_⟩, ?_, ?_, ?_, ?_, ?_, ?_⟩
  · simp (disch := omega) only [pk_un, h0]
  · simp (disch := omega) only [pk_un, h1]
  · simp (disch := omega) only [pk_un, h2]
  · simp (disch := omega) only [pk_un, h3]
  · intro t ht w hw
    simp (disch := omega) only [pk_un]
    exact hth t ht w hw
  · intro t ht
    simp (disch := omega) only [pk_un]
    exact hin t ht
  · intro g hg
    simp (disch := omega) only [pk_un]
    exact hgi g hg
  · intro e he
    simp (disch := omega) only [pk_un]
    exact hci e he
  · intro g hg
    by_cases e : g = k
    · subst e
      rw [pk_us]
      exact hv
    · simp (disch := omega) only [pk_un]
      exact hwa g hg
  · intro k hk
    have hpa := hpa k hk
    refine ⟨fun t ht => ?_, fun g hg => ?_, ?_⟩
    · simp (disch := omega) only [pk_un]
      exact hpa.1 t ht
    · simp (disch := omega) only [pk_un]
      exact hpa.2.1 g hg
    · simp (disch := omega) only [pk_un]
      exact hpa.2.2
theorem Rw.watch {B nt ng d nm : Nat} {book : Nat → Int32} {things gifts days : Int32} {size weight sound harm in_ kind owner empty room told gate ear scale lost watch : Nat → Int32} {moments : Int32} {kept : Nat → Int32} (h : Bk B book nt ng d nm) (r : Rw things gifts days size weight sound harm in_ kind owner empty room told gate ear scale lost watch moments kept book nt ng nm) {k : Nat} (hk : k < 12) (v : Int32) : Rw things gifts days size weight sound harm in_ kind owner empty room told gate ear scale lost (upd watch k v) moments kept (upd book (80 + k) v) nt ng nm := by
  obtain ⟨⟨hn1, hn2, hn3, hd, hB⟩, -⟩ := h
  obtain ⟨⟨r0, r1, r2, r3⟩, rt, rgg, rc, rw_, rp⟩ := r
  refine ⟨⟨?_, ?_, ?_, ?_⟩, ?_, ?_, ?_, ?_, ?_⟩
  · simp (disch := omega) only [pk_un, r0]
  · simp (disch := omega) only [pk_un, r1]
  · simp (disch := omega) only [pk_un, r2]
  · simp (disch := omega) only [pk_un, r3]
  · intro t ht
    simp (disch := omega) only [pk_un]
    exact rt t ht
  · intro g hg
    simp (disch := omega) only [pk_un]
    exact rgg g hg
  · intro e he
    simp (disch := omega) only [pk_un]
    exact rc e he
  · intro g hg
    by_cases e : g = k
    · subst e
      rw [pk_us, pk_us]
    · simp (disch := omega) only [pk_un]
      exact rw_ g hg
  · intro k hk
    have rp := rp k hk
    refine ⟨fun t ht => ?_, fun g hg => ?_, ?_, ?_, ?_⟩
    · simp (disch := omega) only [pk_un]
      exact rp.1 t ht
    · simp (disch := omega) only [pk_un]
      exact rp.2.1 g hg
    · simp (disch := omega) only [pk_un]
      exact rp.2.2.1
    · simp (disch := omega) only [pk_un]
      exact rp.2.2.2.1
    · simp (disch := omega) only [pk_un]
      exact rp.2.2.2.2
theorem e_watch {B nt ng d nm : Nat} {book : Nat → Int32} {things gifts days : Int32} {size weight sound harm in_ kind owner empty room told gate ear scale lost watch : Nat → Int32} {moments : Int32} {kept : Nat → Int32} (h : Bk B book nt ng d nm) (r : Rw things gifts days size weight sound harm in_ kind owner empty room told gate ear scale lost watch moments kept book nt ng nm) (q : Int32) (rf : Nat → Int32) (a b n : Int32) : ∃ (ans : Int32) (watch' : Nat → Int32) (book' : Nat → Int32),
    f4_setWatch watch a b n = some (ans, watch') ∧ f6_watch q book rf a b n = some (ans, book', cntd q rf ans) ∧
    Bk B book' nt ng d nm ∧ Rw things gifts days size weight sound harm in_ kind owner empty room told gate ear scale lost watch' moments kept book' nt ng nm := by
  have w1 := v5_isCity a
  have w2 := v5_isHour b
  have w3 : f5_within n 0 20 = some (bI (rg n 0 20)) := v5w (lo := 0) (hi := 20) (by decide) (by decide)
  have m1 := v6_isCity a
  have m2 := v6_isHour b
  have m3 : f6_in n.toInt64 0 20 = some (bI (rg n 0 20)) := v6i (lo := 0) (hi := 20) (by decide) (by decide)
  have bt : bI true = 1 := rfl
  have bf : bI false = 0 := rfl
  by_cases c1 : rg a 0 1 = true ∧ (rg b 0 5 = true ∧ rg n 0 20 = true)
  · obtain ⟨c1, c2, c3⟩ := c1
    obtain ⟨c, -, hc, rfl⟩ := rg_of (by decide) c1
    obtain ⟨w, -, hw, rfl⟩ := rg_of (by decide) c2
    have r1 := r.2.2.2.2.1 (6 * c + w) (by omega)
    obtain ⟨h1, h2⟩ := h.2.2.2.2.2.2.1 (6 * c + w) (by omega)
    have hcn : cntd q rf (book (80 + (6 * c + w))) = rf := by rw [h1]; exact cntd_n q rf (by omega)
    have e1 : c * 6 + w = 6 * c + w := by omega
    have e2 : 80 + 6 * c + w = 80 + (6 * c + w) := by omega
    refine ⟨book (80 + (6 * c + w)), upd watch (6 * c + w) n, upd book (80 + (6 * c + w)) n, ?_, ?_, h.watch (by omega) (sml_rg0 c3 (by decide)), r.watch h (by omega) n⟩
    · unfold f4_setWatch
      simp only [w1, w2, w3, c1, c2, c3, bt, zb1_e]
      simp (disch := omega) [zL, nI_eq, nI_add, pk_mul, v4_replaced, zb2_e, e1, r1]
    · unfold f6_watch
      rw [hcn]
      simp only [m1, m2, m3, c1, c2, c3, bt, zb1_e]
      simp (disch := omega) [zL, nI_eq, nI_add, pk_mul, v6_puts, zb2_e, e2]
  · refine ⟨-2, watch, book, ?_, ?_, h, r⟩
    · unfold f4_setWatch
      simp only [w1, w2, w3, zb1_e]
      cases c5 : rg a 0 1 <;> cases c6 : rg b 0 5 <;> cases c7 : rg n 0 20 <;> simp_all
    · unfold f6_watch
      simp only [m1, m2, m3, zb1_e, v6_bad, zb2_e]
      cases c5 : rg a 0 1 <;> cases c6 : rg b 0 5 <;> cases c7 : rg n 0 20 <;> simp_all
theorem Bk.told {B nt ng d nm : Nat} {book : Nat → Int32} (h : Bk B book nt ng d nm) {k : Nat} (hk : k < ng) {v : Int32} (hv : sml v 99) : Bk B (upd book (62 + k) v) nt ng d nm := by
  obtain ⟨⟨hn1, hn2, hn3, hd, hB⟩, ⟨h0, h1, h2, h3⟩, hth, hin, hgi, hci, hwa, hpa⟩ := h
  refine ⟨⟨hn1, hn2, hn3, hd, hB⟩, ⟨?_, ?_, ?_, ?_⟩, ?_, ?_, ?_, ?_, ?_, ?_⟩
  · simp (disch := omega) only [pk_un, h0]
  · simp (disch := omega) only [pk_un, h1]
  · simp (disch := omega) only [pk_un, h2]
  · simp (disch := omega) only [pk_un, h3]
  · intro t ht w hw
    simp (disch := omega) only [pk_un]
    exact hth t ht w hw
  · intro t ht
    simp (disch := omega) only [pk_un]
    exact hin t ht
  · intro g hg
    by_cases e : g = k
    · subst e
      simp (disch := omega) only [pk_un, pk_us]
      have := hgi g hg
      exact ⟨this.1, this.2.1, this.2.2.1, hv, this.2.2.2.2⟩
    · simp (disch := omega) only [pk_un]
      exact hgi g hg
  · intro e he
    simp (disch := omega) only [pk_un]
    exact hci e he
  · intro g hg
    simp (disch := omega) only [pk_un]
    exact hwa g hg
  · intro k hk
    have hpa := hpa k hk
    refine ⟨fun t ht => ?_, fun g hg => ?_, ?_⟩
    · simp (disch := omega) only [pk_un]
      exact hpa.1 t ht
    · simp (disch := omega) only [pk_un]
      exact hpa.2.1 g hg
    · simp (disch := omega) only [pk_un]
      exact hpa.2.2
theorem Rw.told {B nt ng d nm : Nat} {book : Nat → Int32} {things gifts days : Int32} {size weight sound harm in_ kind owner empty room told gate ear scale lost watch : Nat → Int32} {moments : Int32} {kept : Nat → Int32} (h : Bk B book nt ng d nm) (r : Rw things gifts days size weight sound harm in_ kind owner empty room told gate ear scale lost watch moments kept book nt ng nm) {k : Nat} (hk : k < ng) (v : Int32) : Rw things gifts days size weight sound harm in_ kind owner empty room (upd told k v) gate ear scale lost watch moments kept (upd book (62 + k) v) nt ng nm := by
  obtain ⟨⟨hn1, hn2, hn3, hd, hB⟩, -⟩ := h
  obtain ⟨⟨r0, r1, r2, r3⟩, rt, rgg, rc, rw_, rp⟩ := r
  refine ⟨⟨?_, ?_, ?_, ?_⟩, ?_, ?_, ?_, ?_, ?_⟩
  · simp (disch := omega) only [pk_un, r0]
  · simp (disch := omega) only [pk_un, r1]
  · simp (disch := omega) only [pk_un, r2]
  · simp (disch := omega) only [pk_un, r3]
  · intro t ht
    simp (disch := omega) only [pk_un]
    exact rt t ht
  · intro g hg
    by_cases e : g = k
    · subst e
      simp (disch := omega) only [pk_un, pk_us]
      have := rgg g hg
      exact ⟨this.1, this.2.1, this.2.2.1, trivial, this.2.2.2.2⟩
    · simp (disch := omega) only [pk_un]
      exact rgg g hg
  · intro e he
    simp (disch := omega) only [pk_un]
    exact rc e he
  · intro g hg
    simp (disch := omega) only [pk_un]
    exact rw_ g hg
  · intro k hk
    have rp := rp k hk
    refine ⟨fun t ht => ?_, fun g hg => ?_, ?_, ?_, ?_⟩
    · simp (disch := omega) only [pk_un]
      exact rp.1 t ht
    · simp (disch := omega) only [pk_un]
      exact rp.2.1 g hg
    · simp (disch := omega) only [pk_un]
      exact rp.2.2.1
    · simp (disch := omega) only [pk_un]
      exact rp.2.2.2.1
    · simp (disch := omega) only [pk_un]
      exact rp.2.2.2.2
