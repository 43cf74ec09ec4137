/-! ===== pure side 7: things and gifts come ===== -/
theorem sml_rg {a : Int32} {lo hi n : Nat} (h : rg a lo hi = true) (hn : hi ≤ n) (hh : n < 2 ^ 31) : sml a n := by
  obtain ⟨j, h1, h2, rfl⟩ := rg_of (by omega) h
  exact sml_of (by omega) hh
theorem inOk.mono {x : Int32} {a b : Nat} (h : inOk x a) (hab : a ≤ b) : inOk x b := by
  rcases h with h | ⟨g, hg, h⟩
  · exact Or.inl h
  · exact Or.inr ⟨g, by omega, h⟩
theorem e_thing {B nt ng d nm : Nat} {book : Nat → Int32} {things gifts days : Int32} {size weight sound harm in_ kind owner empty room told gate ear scale lost watch : Nat → Int32} {moments : Int32} {kept : Nat → Int32} (h : Bk B book nt ng d nm) (r : Rw things gifts days size weight sound harm in_ kind owner empty room told gate ear scale lost watch moments kept book nt ng nm) (q : Int32) (rf : Nat → Int32) (a b c e : Int32) : ∃ (ans things' : Int32) (size' weight' sound' harm' in' : Nat → Int32) (moments' : Int32) (book' : Nat → Int32) (nt' nm' : Nat),
    f4_addThing things size weight sound harm in_ moments a b c e = some (ans, things', size', weight', sound', harm', in', moments') ∧ f6_thing q book rf a b c e = some (ans, book', cntd q rf ans) ∧
    Bk B book' nt' ng d nm' ∧ Rw things' gifts days size' weight' sound' harm' in' kind owner empty room told gate ear scale lost watch moments' kept book' nt' ng nm' := by
  have w1 : f5_within a 1 9 = some (bI (rg a 1 9)) := v5w (lo := 1) (hi := 9) (by decide) (by decide)
  have w2 : ∀ x, f5_within x 0 20 = some (bI (rg x 0 20)) := fun x => v5w (lo := 0) (hi := 20) (by decide) (by decide)
  have m1 : f6_in a.toInt64 1 9 = some (bI (rg a 1 9)) := v6i (lo := 1) (hi := 9) (by decide) (by decide)
  have m2 : ∀ x : Int32, f6_in x.toInt64 0 20 = some (bI (rg x 0 20)) := fun x => v6i (lo := 0) (hi := 20) (by decide) (by decide)
  have bt : bI true = 1 := rfl
  have bf : bI false = 0 := rfl
  by_cases c1 : rg a 1 9 = true ∧ (rg b 0 20 = true ∧ (rg c 0 20 = true ∧ rg e 0 20 = true))
  · obtain ⟨c1, c2, c3, c4⟩ := c1
    obtain ⟨⟨r0, r1, r2, r3⟩, rt, rgg, rc, rw_, rp⟩ := id r
    obtain ⟨⟨hn1, hn2, hn3, hd, hB⟩, ⟨h0, h1, h2, h3⟩, hth, hin, hgi, hci, hwa, hpa⟩ := id h
    by_cases c8 : nt = 8
    · subst c8
      refine ⟨-4, things, size, weight, sound, harm, in_, moments, book, 8, nm, ?_, ?_, h, r⟩
      · rw [h0] at r0
        unfold f4_addThing
        have n8 : ¬ (nI 8 < (8 : Int32)) := nI_nlt (Nat.le_refl _) (by decide)
        simp only [w1, w2, c1, c2, c3, c4, bt, zb1_e, r0]
        simp [n8]
      · unfold f6_thing
        have e8 : nI 8 = (8 : Int32) := rfl
        simp only [m1, m2, c1, c2, c3, c4, bt, zb1_e, h0, v6_full, zb2_e]
        simp [e8]
    · rw [h0] at r0
      rw [h3] at r3
      refine ⟨nI nt, nI (nt + 1), upd size nt a, upd weight nt b, upd sound nt c, upd harm nt e, upd in_ nt zNone, nI 0, upd (upd (upd (upd (upd (upd (upd book (4 + 4 * nt) a) (4 + 4 * nt + 1) b) (4 + 4 * nt + 2) c) (4 + 4 * nt + 3) e) (36 + nt) zNone) 0 (nI (nt + 1))) 3 (nI 0), nt + 1, 0, ?_, ?_, ?_, ?_⟩
      · unfold f4_addThing
        have n8 : nI nt < (8 : Int32) := nI_lt (b := 8) (by omega) (by decide)
        simp only [w1, w2, c1, c2, c3, c4, bt, zb1_e, r0]
        simp (disch := omega) [n8, zg_n, f4_forget, zb1_e, zl_e, nI_clamp, nI_1]
        exact ⟨rfl, rfl⟩
      · unfold f6_thing
        have e8 : ¬ nI nt = (8 : Int32) := fun x => c8 ((nI_eq (b := 8) (by omega) (by decide)).mp x)
        rw [cntd_n q rf (by omega)]
        simp only [m1, m2, c1, c2, c3, c4, bt, zb1_e, h0]
        simp (disch := omega) [c8, zg_n, zl_e, zL, nI_eq, nI_add, pk_mul, nI_clamp, pk_un, h0]
        rfl
      · refine ⟨⟨by omega, hn2, by omega, hd, hB⟩, ⟨?_, ?_, ?_, ?_⟩, ?_, ?_, ?_, ?_, ?_, ?_⟩
        · simp (disch := omega) only [pk_un, pk_us]
        · simp (disch := omega) only [pk_un, pk_us, h1]
        · simp (disch := omega) only [pk_un, pk_us, h2]
        · simp (disch := omega) only [pk_us]
        · intro t ht w hw
          rcases Nat.lt_or_ge t nt with g | g
          · simp (disch := omega) only [pk_un]
            exact hth t g w hw
          · have e1 : t = nt := by omega
            subst e1
            rcases (show w = 0 ∨ w = 1 ∨ w = 2 ∨ w = 3 by omega) with rfl | rfl | rfl | rfl
            · simp (disch := omega) only [Nat.add_zero, pk_un, pk_us]
              exact sml_rg c1 (by decide) (by decide)
            · simp (disch := omega) only [pk_un, pk_us]
              exact sml_rg c2 (by decide) (by decide)
            · simp (disch := omega) only [pk_un, pk_us]
              exact sml_rg c3 (by decide) (by decide)
            · simp (disch := omega) only [pk_un, pk_us]
              exact sml_rg c4 (by decide) (by decide)
        · intro t ht
          rcases Nat.lt_or_ge t nt with g | g
          · simp (disch := omega) only [pk_un]
            exact hin t g
          · have e1 : t = nt := by omega
            subst e1
            simp (disch := omega) only [pk_un, pk_us]
            exact Or.inl rfl
        · intro g hg
          simp (disch := omega) only [pk_un]
          exact hgi g hg
        · intro g hg
          simp (disch := omega) only [pk_un]
          exact hci g hg
        · intro g hg
          simp (disch := omega) only [pk_un]
          exact hwa g hg
        · intro k hk
          omega
      · refine ⟨⟨?_, ?_, ?_, ?_⟩, ?_, ?_, ?_, ?_, ?_⟩
        · simp (disch := omega) only [pk_un, pk_us]
        · simp (disch := omega) only [pk_un, pk_us, r1]
        · simp (disch := omega) only [pk_un, pk_us, r2]
        · simp (disch := omega) only [pk_us]
        · intro t ht
          rcases Nat.lt_or_ge t nt with g | g
          · simp (disch := omega) only [pk_un]
            exact rt t g
          · have e1 : t = nt := by omega
            subst e1
            simp (disch := omega) only [Nat.add_zero, pk_un, pk_us]
            simp
        · intro g hg
          simp (disch := omega) only [pk_un]
          exact rgg g hg
        · intro g hg
          simp (disch := omega) only [pk_un]
          exact rc g hg
        · intro g hg
          simp (disch := omega) only [pk_un]
          exact rw_ g hg
        · intro k hk
          omega
  · refine ⟨-2, things, size, weight, sound, harm, in_, moments, book, nt, nm, ?_, ?_, h, r⟩
    · unfold f4_addThing
      simp only [w1, w2, zb1_e]
      cases c5 : rg a 1 9 <;> cases c6 : rg b 0 20 <;> cases c7 : rg c 0 20 <;> cases c8 : rg e 0 20 <;> simp_all
    · unfold f6_thing
      simp only [m1, m2, zb1_e, v6_bad, zb2_e]
      cases c5 : rg a 1 9 <;> cases c6 : rg b 0 20 <;> cases c7 : rg c 0 20 <;> cases c8 : rg e 0 20 <;> simp_all
