/-! ===== pure side 13: one place changes (printed by wip/pure/upd.py) ===== -/
theorem Bk.setIn {B nt ng d nm : Nat} {book : Nat → Int32} (h : Bk B book nt ng d nm) {k : Nat} (hk : k < nt) {v : Int32} (hv : inOk v ng) : Bk B (upd book (36 + k) v) nt ng d nm := by
  obtain ⟨⟨hn1, hn2, hn3, hd, hB⟩, ⟨h0, h1, h2, h3⟩, hth, hin, hgi, hci, hwa, hpa⟩ := h
  refine ⟨⟨hn1, hn2, hn3, hd, hB⟩, ⟨?_, ?_, ?_, ?_⟩, ?_, ?_, ?_, ?_, ?_, ?_⟩
  · simp (disch := omega) only [pk_un, h0]
  · simp (disch := omega) only [pk_un, h1]
  · simp (disch := omega) only [pk_un, h2]
  · simp (disch := omega) only [pk_un, h3]
  · intro t ht w hw
    simp (disch := omega) only [pk_un]
    exact hth t ht w hw
  · intro t ht
    by_cases e : t = k
    · subst e
      rw [pk_us]
      exact hv
    · simp (disch := omega) only [pk_un]
      exact hin t ht
  · intro g hg
    simp (disch := omega) only [pk_un]
    exact hgi g hg
  · intro e he
    simp (disch := omega) only [pk_un]
    exact hci e he
  · intro g hg
    simp (disch := omega) only [pk_un]
    exact hwa g hg
  · intro k hk
    have hpa := hpa k hk
    refine ⟨fun t ht => ?_, fun g hg => ?_, ?_⟩
    · simp (disch := omega) only [pk_un]
      exact hpa.1 t ht
    · simp (disch := omega) only [pk_un]
      exact hpa.2.1 g hg
    · simp (disch := omega) only [pk_un]
      exact hpa.2.2
theorem Rw.setIn {B nt ng d nm : Nat} {book : Nat → Int32} {things gifts days : Int32} {size weight sound harm in_ kind owner empty room told gate ear scale lost watch : Nat → Int32} {moments : Int32} {kept : Nat → Int32} (h : Bk B book nt ng d nm) (r : Rw things gifts days size weight sound harm in_ kind owner empty room told gate ear scale lost watch moments kept book nt ng nm) {k : Nat} (hk : k < nt) (v : Int32) : Rw things gifts days size weight sound harm (upd in_ k v) kind owner empty room told gate ear scale lost watch moments kept (upd book (36 + k) v) nt ng nm := by
  obtain ⟨⟨hn1, hn2, hn3, hd, hB⟩, -⟩ := h
  obtain ⟨⟨r0, r1, r2, r3⟩, rt, rgg, rc, rw_, rp⟩ := r
  refine ⟨⟨?_, ?_, ?_, ?_⟩, ?_, ?_, ?_, ?_, ?_⟩
  · simp (disch := omega) only [pk_un, r0]
  · simp (disch := omega) only [pk_un, r1]
  · simp (disch := omega) only [pk_un, r2]
  · simp (disch := omega) only [pk_un, r3]
  · intro t ht
    have rt := rt t ht
    by_cases e : t = k
    · subst e
      simp (disch := omega) only [pk_un, pk_us]
      exact ⟨rt.1, rt.2.1, rt.2.2.1, rt.2.2.2.1, trivial⟩
    · simp (disch := omega) only [pk_un]
      exact rt
  · intro g hg
    simp (disch := omega) only [pk_un]
    exact rgg g hg
  · intro e he
    simp (disch := omega) only [pk_un]
    exact rc e he
  · intro g hg
    simp (disch := omega) only [pk_un]
    exact rw_ g hg
  · intro k hk
    have rp := rp k hk
    refine ⟨fun t ht => ?_, fun g hg => ?_, ?_, ?_, ?_⟩
    · simp (disch := omega) only [pk_un]
      exact rp.1 t ht
    · simp (disch := omega) only [pk_un]
      exact rp.2.1 g hg
    · simp (disch := omega) only [pk_un]
      exact rp.2.2.1
    · simp (disch := omega) only [pk_un]
      exact rp.2.2.2.1
    · simp (disch := omega) only [pk_un]
      exact rp.2.2.2.2
theorem Bk.setHas {B nt ng d nm : Nat} {book : Nat → Int32} (h : Bk B book nt ng d nm) {k : Nat} (hk : k < ng) {v : Int32} (hv : sml v 1) : Bk B (upd book (68 + k) v) nt ng d nm := by
  obtain ⟨⟨hn1, hn2, hn3, hd, hB⟩, ⟨h0, h1, h2, h3⟩, hth, hin, hgi, hci, hwa, hpa⟩ := h
  refine ⟨⟨hn1, hn2, hn3, hd, hB⟩, ⟨?_, ?_, ?_, ?_⟩, ?_, ?_, ?_, ?_, ?_, ?_⟩
  · simp (disch := omega) only [pk_un, h0]
  · simp (disch := omega) only [pk_un, h1]
  · simp (disch := omega) only [pk_un, h2]
  · simp (disch := omega) only [pk_un, h3]
  · intro t ht w hw
    simp (disch := omega) only [pk_un]
    exact hth t ht w hw
  · intro t ht
    simp (disch := omega) only [pk_un]
    exact hin t ht
  · intro g hg
    have hgi := hgi g hg
    by_cases e : g = k
    · subst e
      simp (disch := omega) only [pk_un, pk_us]
      exact ⟨hgi.1, hgi.2.1, hgi.2.2.1, hgi.2.2.2.1, hv⟩
    · simp (disch := omega) only [pk_un]
      exact hgi
  · intro e he
    simp (disch := omega) only [pk_un]
    exact hci e he
  · intro g hg
    simp (disch := omega) only [pk_un]
    exact hwa g hg
  · intro k hk
    have hpa := hpa k hk
    refine ⟨fun t ht => ?_, fun g hg => ?_, ?_⟩
    · simp (disch := omega) only [pk_un]
      exact hpa.1 t ht
    · simp (disch := omega) only [pk_un]
      exact hpa.2.1 g hg
    · simp (disch := omega) only [pk_un]
      exact hpa.2.2
theorem Rw.setHas {B nt ng d nm : Nat} {book : Nat → Int32} {things gifts days : Int32} {size weight sound harm in_ kind owner empty room told gate ear scale lost watch : Nat → Int32} {moments : Int32} {kept : Nat → Int32} (h : Bk B book nt ng d nm) (r : Rw things gifts days size weight sound harm in_ kind owner empty room told gate ear scale lost watch moments kept book nt ng nm) {k : Nat} (hk : k < ng) (v : Int32) : Rw things gifts days size weight sound harm in_ kind (upd owner k v) empty room told gate ear scale lost watch moments kept (upd book (68 + k) v) nt ng nm := by
  obtain ⟨⟨hn1, hn2, hn3, hd, hB⟩, -⟩ := h
  obtain ⟨⟨r0, r1, r2, r3⟩, rt, rgg, rc, rw_, rp⟩ := r
  refine ⟨⟨?_, ?_, ?_, ?_⟩, ?_, ?_, ?_, ?_, ?_⟩
  · simp (disch := omega) only [pk_un, r0]
  · simp (disch := omega) only [pk_un, r1]
  · simp (disch := omega) only [pk_un, r2]
  · simp (disch := omega) only [pk_un, r3]
  · intro t ht
    simp (disch := omega) only [pk_un]
    exact rt t ht
  · intro g hg
    have rgg := rgg g hg
    by_cases e : g = k
    · subst e
      simp (disch := omega) only [pk_un, pk_us]
      exact ⟨rgg.1, rgg.2.1, rgg.2.2.1, rgg.2.2.2.1, trivial⟩
    · simp (disch := omega) only [pk_un]
      exact rgg
  · intro e he
    simp (disch := omega) only [pk_un]
    exact rc e he
  · intro g hg
    simp (disch := omega) only [pk_un]
    exact rw_ g hg
  · intro k hk
    have rp := rp k hk
    refine ⟨fun t ht => ?_, fun g hg => ?_, ?_, ?_, ?_⟩
    · simp (disch := omega) only [pk_un]
      exact rp.1 t ht
    · simp (disch := omega) only [pk_un]
      exact rp.2.1 g hg
    · simp (disch := omega) only [pk_un]
      exact rp.2.2.1
    · simp (disch := omega) only [pk_un]
      exact rp.2.2.2.1
    · simp (disch := omega) only [pk_un]
      exact rp.2.2.2.2
theorem Bk.setLost {B nt ng d nm : Nat} {book : Nat → Int32} (h : Bk B book nt ng d nm) {k : Nat} (hk : k < 2) (v : Int32) : Bk B (upd book (92 + k) v) nt ng d nm := by
  obtain ⟨⟨hn1, hn2, hn3, hd, hB⟩, ⟨h0, h1, h2, h3⟩, hth, hin, hgi, hci, hwa, hpa⟩ := h
  refine ⟨⟨hn1, hn2, hn3, hd, hB⟩, ⟨?_, ?_, ?_, ?_⟩, ?_, ?_, ?_, ?_, ?_, ?_⟩
  · simp (disch := omega) only [pk_un, h0]
  · simp (disch := omega) only [pk_un, h1]
  · simp (disch := omega) only [pk_un, h2]
  · simp (disch := omega) only [pk_un, h3]
  · intro t ht w hw
    simp (disch := omega) only [pk_un]
    exact hth t ht w hw
  · intro t ht
    simp (disch := omega) only [pk_un]
    exact hin t ht
  · intro g hg
    simp (disch := omega) only [pk_un]
    exact hgi g hg
  · intro e he
    simp (disch := omega) only [pk_un]
    exact hci e he
  · intro g hg
    simp (disch := omega) only [pk_un]
    exact hwa g hg
  · intro k hk
    have hpa := hpa k hk
    refine ⟨fun t ht => ?_, fun g hg => ?_, ?_⟩
    · simp (disch := omega) only [pk_un]
      exact hpa.1 t ht
    · simp (disch := omega) only [pk_un]
      exact hpa.2.1 g hg
    · simp (disch := omega) only [pk_un]
      exact hpa.2.2
theorem Rw.setLost {B nt ng d nm : Nat} {book : Nat → Int32} {things gifts days : Int32} {size weight sound harm in_ kind owner empty room told gate ear scale lost watch : Nat → Int32} {moments : Int32} {kept : Nat → Int32} (h : Bk B book nt ng d nm) (r : Rw things gifts days size weight sound harm in_ kind owner empty room told gate ear scale lost watch moments kept book nt ng nm) {k : Nat} (hk : k < 2) (v : Int32) : Rw things gifts days size weight sound harm in_ kind owner empty room told gate ear scale (upd lost k v) watch moments kept (upd book (92 + k) v) nt ng nm := by
  obtain ⟨⟨hn1, hn2, hn3, hd, hB⟩, -⟩ := h
  obtain ⟨⟨r0, r1, r2, r3⟩, rt, rgg, rc, rw_, rp⟩ := r
  refine ⟨⟨?_, ?_, ?_, ?_⟩, ?_, ?_, ?_, ?_, ?_⟩
  · simp (disch := omega) only [pk_un, r0]
  · simp (disch := omega) only [pk_un, r1]
  · simp (disch := omega) only [pk_un, r2]
  · simp (disch := omega) only [pk_un, r3]
  · intro t ht
    simp (disch := omega) only [pk_un]
    exact rt t ht
  · intro g hg
    simp (disch := omega) only [pk_un]
    exact rgg g hg
  · intro e he
    have rc := rc e he
    by_cases g : e = k
    · subst g
      simp (disch := omega) only [pk_un, pk_us]
      exact ⟨rc.1, rc.2.1, rc.2.2.1, trivial⟩
    · simp (disch := omega) only [pk_un]
      exact rc
  · intro g hg
    simp (disch := omega) only [pk_un]
    exact rw_ g hg
  · intro k hk
    have rp := rp k hk
    refine ⟨fun t ht => ?_, fun g hg => ?_, ?_, ?_, ?_⟩
    · simp (disch := omega) only [pk_un]
      exact rp.1 t ht
    · simp (disch := omega) only [pk_un]
      exact rp.2.1 g hg
    · simp (disch := omega) only [pk_un]
      exact rp.2.2.1
    · simp (disch := omega) only [pk_un]
      exact rp.2.2.2.1
    · simp (disch := omega) only [pk_un]
      exact rp.2.2.2.2
theorem Bk.setDays {B nt ng d nm : Nat} {book : Nat → Int32} (h : Bk B book nt ng d nm) {d2 : Nat} (hd2 : d2 ≤ B) : Bk B (upd book (2) (nI d2)) nt ng d2 nm := by
  obtain ⟨⟨hn1, hn2, hn3, hd, hB⟩, ⟨h0, h1, h2, h3⟩, hth, hin, hgi, hci, hwa, hpa⟩ := h
  refine ⟨⟨hn1, hn2, hn3, hd2, hB⟩, ⟨?_, ?_, ?_, ?_⟩, ?_, ?_, ?_, ?_, ?_, ?_⟩
  · simp (disch := omega) only [pk_un, h0]
  · simp (disch := omega) only [pk_un, h1]
  · rw [pk_us]
  · simp (disch := omega) only [pk_un, h3]
  · intro t ht w hw
    simp (disch := omega) only [pk_un]
    exact hth t ht w hw
  · intro t ht
    simp (disch := omega) only [pk_un]
    exact hin t ht
  · intro g hg
    simp (disch := omega) only [pk_un]
    exact hgi g hg
  · intro e he
    simp (disch := omega) only [pk_un]
    exact hci e he
  · intro g hg
    simp (disch := omega) only [pk_un]
    exact hwa g hg
  · intro k hk
    have hpa := hpa k hk
    refine ⟨fun t ht => ?_, fun g hg => ?_, ?_⟩
    · simp (disch := omega) only [pk_un]
      exact hpa.1 t ht
    · simp (disch := omega) only [pk_un]
      exact hpa.2.1 g hg
    · simp (disch := omega) only [pk_un]
      exact hpa.2.2
theorem Rw.setDays {B nt ng d nm : Nat} {book : Nat → Int32} {things gifts days : Int32} {size weight sound harm in_ kind owner empty room told gate ear scale lost watch : Nat → Int32} {moments : Int32} {kept : Nat → Int32} (h : Bk B book nt ng d nm) (r : Rw things gifts days size weight sound harm in_ kind owner empty room told gate ear scale lost watch moments kept book nt ng nm) (v : Int32) : Rw things gifts (v) size weight sound harm in_ kind owner empty room told gate ear scale lost watch moments kept (upd book (2) v) nt ng nm := by
  obtain ⟨⟨hn1, hn2, hn3, hd, hB⟩, -⟩ := h
  obtain ⟨⟨r0, r1, r2, r3⟩, rt, rgg, rc, rw_, rp⟩ := r
  refine ⟨⟨?_, ?_, ?_, ?_⟩, ?_, ?_, ?_, ?_, ?_⟩
  · simp (disch := omega) only [pk_un, r0]
  · simp (disch := omega) only [pk_un, r1]
  · rw [pk_us]
  · simp (disch := omega) only [pk_un, r3]
  · intro t ht
    simp (disch := omega) only [pk_un]
    exact rt t ht
  · intro g hg
    simp (disch := omega) only [pk_un]
    exact rgg g hg
  · intro e he
    simp (disch := omega) only [pk_un]
    exact rc e he
  · intro g hg
    simp (disch := omega) only [pk_un]
    exact rw_ g hg
  · intro k hk
    have rp := rp k hk
    refine ⟨fun t ht => ?_, fun g hg => ?_, ?_, ?_, ?_⟩
    · simp (disch := omega) only [pk_un]
      exact rp.1 t ht
    · simp (disch := omega) only [pk_un]
      exact rp.2.1 g hg
    · simp (disch := omega) only [pk_un]
      exact rp.2.2.1
    · simp (disch := omega) only [pk_un]
      exact rp.2.2.2.1
    · simp (disch := omega) only [pk_un]
      exact rp.2.2.2.2
