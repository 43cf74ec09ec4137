/-! ===== pure side 25: hide ===== -/
theorem e_hide {B nt ng d nm : Nat} {book : Nat → Int32} {things gifts days : Int32} {size weight sound harm in_ kind owner empty room told gate ear scale lost watch : Nat → Int32} {moments : Int32} {kept : Nat → Int32} (h : Bk B book nt ng d nm) (r : Rw things gifts days size weight sound harm in_ kind owner empty room told gate ear scale lost watch moments kept book nt ng nm) (rf : Nat → Int32) (a b c : Int32) : ∃ (ans : Int32) (rf' : Nat → Int32),
    f5_hide (rf 0) (rf 1) (rf 2) things gifts days size weight sound harm in_ kind owner empty room gate ear scale watch a b c = some (ans, rf' 0, rf' 1, rf' 2) ∧ f6_hide 0 book rf a b c = some (ans, rf') := by
  have w1 := r.isGift h a
  have m1 := h.isGift a
  have hn1 := h.1.1
  have hn2 := h.1.2.1
  have h8 := pow8 hn1
  have w3 : f5_within c 0 1 = some (bI (rg c 0 1)) := v5w (by decide) (by decide)
  have m3 : f6_in c.toInt64 0 1 = some (bI (rg c 0 1)) := v6i (by decide) (by decide)
  have bt : (true = false) = False := by simp
  by_cases k1 : rgn a ng = true ∧ rg b 0 5 = true ∧ rg c 0 1 = true
  · obtain ⟨c1, c2, c3⟩ := k1
    obtain ⟨g, hg, rfl⟩ := rgn_of (by omega) c1
    obtain ⟨hr, _, hh, rfl⟩ := rg_of (by omega) c2
    obtain ⟨w, _, hw, rfl⟩ := rg_of (by omega) c3
    have i1 := r.inside h (-1)
    have i2 := r.inside h (nI g)
    have j1 := v6_thingsIn hn1 h.2.1.1 (-1)
    have j2 := v6_thingsIn hn1 h.2.1.1 (nI g)
    have hM : zSet book nt (-1) ||| zSet book nt (nI g) < 2 ^ nt := Nat.or_lt_two_pow (z_set_lt _ _ _) (z_set_lt _ _ _)
    obtain ⟨M, hMe⟩ : ∃ M, zSet book nt (-1) ||| zSet book nt (nI g) = M := ⟨_, rfl⟩
    rw [hMe] at hM
    obtain ⟨z3, z4, z1, z2, hz, f1, f2⟩ := hid_sim h r hM hg (hr := hr) (by omega) (M + 1) 0 FU FU (-1 : Int32) (0 : Int32) (-1 : Int32) (-1 : Int32) (by omega) (by unfold FU; omega) (by unfold FU; omega) (Or.inl ⟨rfl, rfl, rfl, rfl⟩)
    rw [show nI 0 = (0 : Int32) from rfl] at f1 f2
    have g1 : f1_setThatDoesMost things days size weight sound harm in_ kind owner empty room gate ear scale watch (nI g) (nI hr) = some z3 := by
      unfold f1_setThatDoesMost f4_mayBeIn
      rw [i1, zb1_e, i2, zb1_e, fa_or, hMe, zl_e, zb1_e, f1]
    have g2 : f6_hide 0 book rf (nI g) (nI hr) (nI w) = if nI w = 0 then some (z1, rf) else some (z2, rf) := by
      unfold f6_hide
      rw [m1, c1, zb1_e, if_neg (by decide), v6_isHour, c2, zb1_e, if_neg (by decide), m3, c3, zb1_e, if_neg (by decide), j1, zb1_e, j2, zb1_e, fa_or, hMe, zl_e, f2]
    have g3 : f5_hide (rf 0) (rf 1) (rf 2) things gifts days size weight sound harm in_ kind owner empty room gate ear scale watch (nI g) (nI hr) (nI w) = (if z3 = (-1 : Int32) then some (z3, rf 0, rf 1, rf 2) else if nI w = 0 then some (z3, rf 0, rf 1, rf 2) else zb1 (f4_loss days harm kind owner watch (nI g) z3 (nI hr)) (fun r24 => some (r24, rf 0, rf 1, rf 2))) := by
      unfold f5_hide
      rw [w1, c1, zb1_e, if_neg (by decide), v5_isHour, c2, zb1_e, if_neg (by decide), w3, c3, zb1_e, if_neg (by decide), g1, zb1_e]
    rw [g2, g3]
    rcases hz with ⟨rfl, rfl, rfl, rfl⟩ | ⟨b, hb, rfl, rfl, rfl, rfl⟩
    · refine ⟨-1, rf, ?_, ?_⟩
      · rw [if_pos (show zNone = -1 from rfl)]
        rfl
      · split <;> rfl
    · have wl := r.loss h hg hb (hr := hr) (by omega)
      rw [if_neg (show ¬ nI b = -1 from nI_ne_none (by omega))]
      by_cases e : nI w = 0
      · exact ⟨nI b, rf, by rw [if_pos e], by rw [if_pos e]⟩
      · exact ⟨nI (lssN book nt d g b hr), rf, by rw [if_neg e, wl, zb1_e], by rw [if_neg e]⟩
  · refine ⟨-10, cntd 0 rf (-2), ?_, ?_⟩
    · unfold f5_hide
      simp only [w1, v5_isHour, w3, bI_z, zb1_e, v5_ten, zb4_e]
      cases c5 : rgn a ng <;> cases c6 : rg b 0 5 <;> cases c7 : rg c 0 1 <;> simp_all
    · unfold f6_hide
      simp only [m1, v6_isHour, m3, bI_z, zb1_e, v6_ten, zb2_e]
      cases c5 : rgn a ng <;> cases c6 : rg b 0 5 <;> cases c7 : rg c 0 1 <;> simp_all
