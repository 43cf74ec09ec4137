/-! ===== pure side 22: game, the call ===== -/
theorem e_game {B nt ng d nm : Nat} {book : Nat → Int32} {things gifts days : Int32} {size weight sound harm in_ kind owner empty room told gate ear scale lost watch : Nat → Int32} {moments : Int32} {kept : Nat → Int32} (h : Bk B book nt ng d nm) (r : Rw things gifts days size weight sound harm in_ kind owner empty room told gate ear scale lost watch moments kept book nt ng nm) (rf : Nat → Int32) (a b c : Int32) : ∃ (ans : Int32) (rf' : Nat → Int32),
    f5_game (rf 0) (rf 1) (rf 2) things gifts days harm in_ kind owner watch a b c = some (ans, rf' 0, rf' 1, rf' 2) ∧ f6_game 0 book rf a b c = some (ans, rf') := by
  have w1 := r.isGift h a
  have m1 := h.isGift a
  have hn1 := h.1.1
  have hn2 := h.1.2.1
  have h8 := pow8 hn1
  have w2 : f5_within c 0 1 = some (bI (rg c 0 1)) := v5w (by decide) (by decide)
  have m2 : f6_in c.toInt64 0 1 = some (bI (rg c 0 1)) := v6i (by decide) (by decide)
  have bt : (true = false) = False := by simp
  by_cases k1 : rgn a ng = true ∧ rg b 0 5 = true ∧ rg c 0 1 = true
  · obtain ⟨c1, c2, c3'⟩ := k1
    obtain ⟨g, hg, rfl⟩ := rgn_of (by omega) c1
    obtain ⟨hr, _, hh, rfl⟩ := rg_of (by omega) c2
    have mi := v6_thingsIn hn1 h.2.1.1 (nI g)
    have e1 := r.rp h hg (hr := hr) (by omega)
    have e2 := r.fp h hg (hr := hr) (by omega)
    have e3 := fun k => h.g57 hg (hr := hr) (by omega) k
    generalize c3 (rst book nt d g hr (zSet book nt (nI g)) 0 0) (rst book nt d g hr (zSet book nt (nI g)) 0 1) (rst book nt d g hr (zSet book nt (nI g)) 0 2) = n0 at *
    generalize c3 (rst book nt d g hr (zSet book nt (nI g)) 1 0) (rst book nt d g hr (zSet book nt (nI g)) 1 1) (rst book nt d g hr (zSet book nt (nI g)) 1 2) = n1 at *
    generalize fs3 0 (rst book nt d g hr (zSet book nt (nI g)) 0 0) (rst book nt d g hr (zSet book nt (nI g)) 0 1) (rst book nt d g hr (zSet book nt (nI g)) 0 2) = z0 at *
    generalize fs3 1 (rst book nt d g hr (zSet book nt (nI g)) 1 0) (rst book nt d g hr (zSet book nt (nI g)) 1 1) (rst book nt d g hr (zSet book nt (nI g)) 1 2) = z1 at *
    have v : (if nI (zSet book nt (nI g)) = 0 then some (0 : Int32) else some 1) = some (if nI (zSet book nt (nI g)) = 0 then (0 : Int32) else 1) := by
      by_cases u : nI (zSet book nt (nI g)) = 0
      · rw [if_pos u, if_pos u]
      · rw [if_neg u, if_neg u]
    have bt1 : ¬ bI true = 0 := by decide
    by_cases q : c = 0
    · refine ⟨nI (0 + n0 + n1), rf, ?_, ?_⟩
      · unfold f5_game
        simp only [w1, w2, v5_isHour, c1, c2, c3', bI_z, zb1_e, bt, if_false]
        rw [e1, e2, zb1_e, zb1_e, if_pos q]
      · unfold f6_game
        rw [m1, zb1_e, c1, if_neg bt1, v6_isHour, zb1_e, c2, if_neg bt1, m2, zb1_e, c3', if_neg bt1, mi, zb1_e, v, zb1_e, e3, if_pos q]
    · refine ⟨(if z0 = zNone then z1 else z0), rf, ?_, ?_⟩
      · unfold f5_game
        simp only [w1, w2, v5_isHour, c1, c2, c3', bI_z, zb1_e, bt, if_false]
        rw [e1, e2, zb1_e, zb1_e, if_neg q]
      · unfold f6_game
        rw [m1, zb1_e, c1, if_neg bt1, v6_isHour, zb1_e, c2, if_neg bt1, m2, zb1_e, c3', if_neg bt1, mi, zb1_e, v, zb1_e, e3, if_neg q]
  · refine ⟨-10, cntd 0 rf (-2), ?_, ?_⟩
    · unfold f5_game
      simp only [w1, w2, v5_isHour, bI_z, zb1_e, v5_ten, zb4_e]
      cases c5 : rgn a ng <;> cases c6 : rg b 0 5 <;> cases c7 : rg c 0 1 <;> simp_all
    · unfold f6_game
      simp only [m1, m2, v6_isHour, bI_z, zb1_e, v6_ten, zb2_e]
      cases c5 : rgn a ng <;> cases c6 : rg b 0 5 <;> cases c7 : rg c 0 1 <;> simp_all
