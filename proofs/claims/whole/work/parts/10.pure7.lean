/-! ===== pure side 8: gifts, measures, watches ===== -/
theorem e_gift {B nt ng d nm : Nat} {book : Nat → Int32} {things gifts days : Int32} {size weight sound harm in_ kind owner empty room told gate ear scale lost watch : Nat → Int32} {moments : Int32} {kept : Nat → Int32} (h : Bk B book nt ng d nm) (r : Rw things gifts days size weight sound harm in_ kind owner empty room told gate ear scale lost watch moments kept book nt ng nm) (q : Int32) (rf : Nat → Int32) (a b c e : Int32) : ∃ (ans gifts' : Int32) (kind' owner' empty' room' told' : Nat → Int32) (moments' : Int32) (book' : Nat → Int32) (ng' nm' : Nat),
    f4_addGift gifts kind owner empty room told moments a b c e = some (ans, gifts', kind', owner', empty', room', told', moments') ∧ f6_gift q book rf a b c e = some (ans, book', cntd q rf ans) ∧
    Bk B book' nt ng' d nm' ∧ Rw things gifts' days size weight sound harm in_ kind' owner' empty' room' told' gate ear scale lost watch moments' kept book' nt ng' nm' := by
  have w1 : f5_within a 0 5 = some (bI (rg a 0 5)) := v5w (lo := 0) (hi := 5) (by decide) (by decide)
  have w2 := v5_isCity b
  have w3 : f5_within c 0 50 = some (bI (rg c 0 50)) := v5w (lo := 0) (hi := 50) (by decide) (by decide)
  have w4 : f5_within e 0 30 = some (bI (rg e 0 30)) := v5w (lo := 0) (hi := 30) (by decide) (by decide)
  have m1 : f6_in a.toInt64 0 5 = some (bI (rg a 0 5)) := v6i (lo := 0) (hi := 5) (by decide) (by decide)
  have m2 := v6_isCity b
  have m3 : f6_in c.toInt64 0 50 = some (bI (rg c 0 50)) := v6i (lo := 0) (hi := 50) (by decide) (by decide)
  have m4 : f6_in e.toInt64 0 30 = some (bI (rg e 0 30)) := v6i (lo := 0) (hi := 30) (by decide) (by decide)
  have bt : bI true = 1 := rfl
  have bf : bI false = 0 := rfl
  by_cases c1 : rg a 0 5 = true ∧ (rg b 0 1 = true ∧ (rg c 0 50 = true ∧ rg e 0 30 = true))
  · obtain ⟨c1, c2, c3, c4⟩ := c1
    obtain ⟨⟨r0, r1, r2, r3⟩, rt, rgg, rc, rw_, rp⟩ := id r
    obtain ⟨⟨hn1, hn2, hn3, hd, hB⟩, ⟨h0, h1, h2, h3⟩, hth, hin, hgi, hci, hwa, hpa⟩ := id h
    by_cases c8 : ng = 6
    · subst c8
      refine ⟨-4, gifts, kind, owner, empty, room, told, moments, book, 6, nm, ?_, ?_, h, r⟩
      · rw [h1] at r1
        unfold f4_addGift
        have n8 : ¬ (nI 6 < (6 : Int32)) := nI_nlt (Nat.le_refl _) (by decide)
        simp only [w1, w2, w3, w4, c1, c2, c3, c4, bt, zb1_e, r1]
        simp [n8]
      · unfold f6_gift
        have e8 : nI 6 = (6 : Int32) := rfl
        simp only [m1, m2, m3, m4, c1, c2, c3, c4, bt, zb1_e, h1, v6_full, zb2_e]
        simp [e8]
    · rw [h1] at r1
      rw [h3] at r3
      refine ⟨nI ng, nI (ng + 1), upd kind ng a, upd owner ng b, upd empty ng c, upd room ng e, upd told ng (nI 0), nI 0, upd (upd (upd (upd (upd (upd (upd book (44 + ng) a) (50 + ng) c) (56 + ng) e) (62 + ng) (nI 0)) (68 + ng) b) 1 (nI (ng + 1))) 3 (nI 0), ng + 1, 0, ?_, ?_, ?_, ?_⟩
      · unfold f4_addGift
        have n8 : nI ng < (6 : Int32) := nI_lt (b := 6) (by omega) (by decide)
        simp only [w1, w2, w3, w4, c1, c2, c3, c4, bt, zb1_e, r1]
        simp (disch := omega) [n8, zg_n, f4_forget, zb1_e, zl_e, nI_clamp, nI_1]
        exact ⟨rfl, rfl⟩
      · unfold f6_gift
        rw [cntd_n q rf (by omega)]
        simp only [m1, m2, m3, m4, c1, c2, c3, c4, bt, zb1_e, h1]
        simp (disch := omega) [c8, zg_n, zl_e, zL, nI_eq, nI_add, pk_mul, nI_clamp, pk_un, h1]
      · refine ⟨⟨hn1, by omega, by omega, hd, hB⟩, ⟨?_, ?_, ?_, ?_⟩, ?_, ?_, ?_, ?_, ?_, ?_⟩
        · simp (disch := omega) only [pk_un, pk_us, h0]
        · simp (disch := omega) only [pk_un, pk_us]
        · simp (disch := omega) only [pk_un, pk_us, h2]
        · simp (disch := omega) only [pk_us]
        · intro t ht w hw
          simp (disch := omega) only [pk_un]
          exact hth t ht w hw
        · intro t ht
          simp (disch := omega) only [pk_un]
          exact (hin t ht).mono (by omega)
        · intro g hg
          rcases Nat.lt_or_ge g ng with k | k
          · simp (disch := omega) only [pk_un]
            exact hgi g k
          · have e1 : g = ng := by omega
            subst e1
            simp (disch := omega) only [pk_un, pk_us]
            exact ⟨sml_rg c1 (by decide) (by decide), sml_rg c3 (by decide) (by decide), sml_rg c4 (by decide) (by decide), sml_of (by decide) (by decide), sml_rg c2 (by decide) (by decide)⟩
        · intro g hg
          simp (disch := omega) only [pk_un]
          exact hci g hg
        · intro g hg
          simp (disch := omega) only [pk_un]
          exact hwa g hg
        · intro k hk
          omega
      · refine ⟨⟨?_, ?_, ?_, ?_⟩, ?_, ?_, ?_, ?_, ?_⟩
        · simp (disch := omega) only [pk_un, pk_us, r0]
        · simp (disch := omega) only [pk_un, pk_us]
        · simp (disch := omega) only [pk_un, pk_us, r2]
        · simp (disch := omega) only [pk_us]
        · intro t ht
          simp (disch := omega) only [pk_un]
          exact rt t ht
        · intro g hg
          rcases Nat.lt_or_ge g ng with k | k
          · simp (disch := omega) only [pk_un]
            exact rgg g k
          · have e1 : g = ng := by omega
            subst e1
            simp (disch := omega) only [pk_un, pk_us]
            simp
        · intro g hg
          simp (disch := omega) only [pk_un]
          exact rc g hg
        · intro g hg
          simp (disch := omega) only [pk_un]
          exact rw_ g hg
        · intro k hk
          omega
  · refine ⟨-2, gifts, kind, owner, empty, room, told, moments, book, ng, nm, ?_, ?_, h, r⟩
    · unfold f4_addGift
      simp only [w1, w2, w3, w4, zb1_e]
      cases c5 : rg a 0 5 <;> cases c6 : rg b 0 1 <;> cases c7 : rg c 0 50 <;> cases c8 : rg e 0 30 <;> simp_all
    · unfold f6_gift
      simp only [m1, m2, m3, m4, zb1_e, v6_bad, zb2_e]
      cases c5 : rg a 0 5 <;> cases c6 : rg b 0 1 <;> cases c7 : rg c 0 50 <;> cases c8 : rg e 0 30 <;> simp_all
theorem v4_replaced {numbers : Nat → Int32} {n i : Nat} (hi : i < n) (hn : n < 1000) (v : Int32) : f4_replaced numbers n (nI i) v = some (numbers i, upd numbers i v) := by
  unfold f4_replaced
  have e : (Int32.ofNat n) = nI n := rfl
  have hr : rgn (nI i) n = true := by
    unfold rgn
    rw [nI_toInt (by omega)]
    simp
    omega
  rw [e, show ((0 : Int32) = nI 0) from rfl, show ((1 : Int32) = nI 1) from rfl, v5wn (by omega), hr]
  simp (disch := omega) [bI, zb1_e, zg_n, zl_e, nI_clamp, nI_eq]
theorem v6_puts {book : Nat → Int32} {i : Nat} (hi : i < 230) (v : Int32) : f6_puts book (nI i) v = some (book i, upd book i v) := by
  unfold f6_puts
  simp (disch := omega) [zg_n, zl_e, nI_clamp]
/-- a change of one place of the book that is a measure -/
theorem Bk.city {B nt ng d nm : Nat} {book : Nat → Int32} (h : Bk B book nt ng d nm) {c w : Nat} (hc : c < 2) (hw : w < 3) {v : Int32} (hv : sml v (if w = 0 then 30 else if w = 1 then 50 else 200)) : Bk B (upd book (74 + 3 * c + w) v) nt ng d nm := by
  obtain ⟨⟨hn1, hn2, hn3, hd, hB⟩, ⟨h0, h1, h2, h3⟩, hth, hin, hgi, hci, hwa, hpa⟩ := h
  refine ⟨⟨hn1, hn2, hn3, hd, hB⟩, ⟨?_, ?_, ?_, ?_⟩, ?_, ?_, ?_, ?_, ?_, ?_⟩
  · simp (disch := omega) only [pk_un, h0]
  · simp (disch := omega) only [pk_un, h1]
  · simp (disch := omega) only [pk_un, h2]
  · simp (disch := omega) only [pk_un, h3]
  · intro t ht w hw
    simp (disch := omega) only [pk_un]
    exact hth t ht w hw
  · intro t ht
    simp (disch := omega) only [pk_un]
    exact hin t ht
  · intro g hg
    simp (disch := omega) only [pk_un]
    exact hgi g hg
  · intro e he
    have hci := hci e he
    by_cases k : e = c
    · subst k
      rcases (show w = 0 ∨ w = 1 ∨ w = 2 by omega) with rfl | rfl | rfl
      · refine ⟨?_, ?_, ?_⟩
        · simp only [Nat.add_zero, pk_us]
          exact hv
        · simp (disch := omega) only [pk_un]
          exact hci.2.1
        · simp (disch := omega) only [pk_un]
          exact hci.2.2
      · refine ⟨?_, ?_, ?_⟩
        · simp (disch := omega) only [pk_un]
          exact hci.1
        · simp only [pk_us]
          exact hv
        · simp (disch := omega) only [pk_un]
          exact hci.2.2
      · refine ⟨?_, ?_, ?_⟩
        · simp (disch := omega) only [pk_un]
          exact hci.1
        · simp (disch := omega) only [pk_un]
          exact hci.2.1
        · simp only [pk_us]
          exact hv
    · simp (disch := omega) only [pk_un]
      exact hci
  · intro g hg
    simp (disch := omega) only [pk_un]
    exact hwa g hg
  · intro k hk
    have hpa := hpa k hk
    refine ⟨fun t ht => ?_, fun g hg => ?_, ?_⟩
    · simp (disch := omega) only [pk_un]
      exact hpa.1 t ht
    · simp (disch := omega) only [pk_un]
      exact hpa.2.1 g hg
    · simp (disch := omega) only [pk_un]
      exact hpa.2.2
