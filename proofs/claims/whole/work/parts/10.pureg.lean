/-! ===== pure side 17: tell, of, about ===== -/
theorem rg_ne {a : Int32} {hi k : Nat} (h : rg a 0 hi = false) (hk : k ≤ hi) (hh : hi < 2 ^ 31) : ¬ a = nI k := by
  intro e
  have h1 := of_decide_eq_false h
  rw [e, nI_toInt (by omega)] at h1
  omega
theorem bI_z (b : Bool) : (bI b = 0) = (b = false) := propext (bI_ne b)
theorem sml_e {x : Int32} {n : Nat} (h : sml x n) (hn : n < 2 ^ 31) : ∃ k, k ≤ n ∧ x = nI k := ⟨nN x, h.2, h.1⟩
theorem e_tell {B nt ng d nm : Nat} {book : Nat → Int32} {things gifts days : Int32} {size weight sound harm in_ kind owner empty room told gate ear scale lost watch : Nat → Int32} {moments : Int32} {kept : Nat → Int32} (h : Bk B book nt ng d nm) (r : Rw things gifts days size weight sound harm in_ kind owner empty room told gate ear scale lost watch moments kept book nt ng nm) (rf : Nat → Int32) (a b : Int32) : ∃ (ans : Int32) (rf' told' book' : Nat → Int32),
    f5_tell (rf 0) (rf 1) (rf 2) gifts told a b = some (ans, rf' 0, rf' 1, rf' 2, told') ∧ f6_tell 0 book rf a b = some (ans, book', rf') ∧ Bk B book' nt ng d nm ∧
    Rw things gifts days size weight sound harm in_ kind owner empty room told' gate ear scale lost watch moments kept book' nt ng nm := by
  have w1 := r.isGift h a
  have m1 := h.isGift a
  have hn2 := h.1.2.1
  have w2 : f5_within b 0 99 = some (bI (rg b 0 99)) := v5w (by decide) (by decide)
  have m2 : f6_in b.toInt64 0 99 = some (bI (rg b 0 99)) := v6i (by decide) (by decide)
  by_cases c1 : rgn a ng = true ∧ rg b 0 99 = true
  · obtain ⟨c1, c2⟩ := c1
    obtain ⟨g, hg, rfl⟩ := rgn_of (by omega) c1
    have hv := sml_rg0 c2 (by decide)
    have e1 := (r.2.2.1 g hg).2.2.2.1
    refine ⟨book (62 + g), rf, upd told g b, upd book (62 + g) b, ?_, ?_, h.told hg hv, r.told h hg b⟩
    · unfold f5_tell
      simp only [w1, w2, c1, c2, bI_z, zb1_e]
      simp (disch := omega) only [zg_n, nI_clamp, zl_e, e1]
      simp
    · unfold f6_tell
      simp only [m1, m2, c1, c2, bI_z, zb1_e, v6_puts]
      simp (disch := omega) only [zL, zg_n, nI_clamp, zl_e, nI_add, v6_puts, zb2_e]
      simp
  · refine ⟨-2, cntd 0 rf (-2), told, book, ?_, ?_, h, r⟩
    · unfold f5_tell
      simp only [w1, w2, bI_z, zb1_e, v5_counted, zb4_e]
      cases c5 : rgn a ng <;> cases c6 : rg b 0 99 <;> simp_all
    · unfold f6_tell
      simp only [m1, m2, bI_z, zb1_e, v6_bad, zb2_e]
      cases c5 : rgn a ng <;> cases c6 : rg b 0 99 <;> simp_all
theorem e_of {B nt ng d nm : Nat} {book : Nat → Int32} {things gifts days : Int32} {size weight sound harm in_ kind owner empty room told gate ear scale lost watch : Nat → Int32} {moments : Int32} {kept : Nat → Int32} (h : Bk B book nt ng d nm) (r : Rw things gifts days size weight sound harm in_ kind owner empty room told gate ear scale lost watch moments kept book nt ng nm) (rf : Nat → Int32) (a b : Int32) : ∃ (ans : Int32) (rf' : Nat → Int32),
    f5_of (rf 0) (rf 1) (rf 2) things gifts days weight sound harm in_ kind owner empty room gate ear scale a b = some (ans, rf' 0, rf' 1, rf' 2) ∧ f6_of 0 book rf a b = some (ans, rf') := by
  have w1 := r.isGift h a
  have m1 := h.isGift a
  have hn1 := h.1.1
  have hn2 := h.1.2.1
  have h8 := pow8 hn1
  have m2 : f6_in b.toInt64 0 6 = some (bI (rg b 0 6)) := v6i (by decide) (by decide)
  by_cases c1 : rgn a ng = true
  · obtain ⟨g, hg, rfl⟩ := rgn_of (by omega) c1
    have hS := z_set_lt book nt (nI g)
    have wi := r.inside h (nI g)
    have mi := v6_thingsIn hn1 h.2.1.1 (nI g)
    obtain ⟨S, hSS⟩ : ∃ S, zSet book nt (nI g) = S := ⟨_, rfl⟩
    rw [hSS] at hS wi mi
    have wp := r.passes h hg hS
    have mp := h.passes hg (S := S) (by omega)
    have ww := r.weighs h hg hS
    have mw := h.weighs hg (S := S) (by omega)
    have ws := r.sounds h hg hS
    have ms := h.sounds hg (S := S) (by omega)
    have wh := r.harms h hg hS
    have mh := h.harms hg (S := S) (by omega)
    have e0 := (r.2.2.1 g hg).1
    have e1 := (r.2.2.1 g hg).2.2.2.2
    cases c2 : rg b 0 6
    · refine ⟨-2, cntd 0 rf (-2), ?_, ?_⟩
      · have n0 := rg_ne c2 (k := 0) (by decide) (by decide)
        have n1 := rg_ne c2 (k := 1) (by decide) (by decide)
        have n2 := rg_ne c2 (k := 2) (by decide) (by decide)
        have n3 := rg_ne c2 (k := 3) (by decide) (by decide)
        have n4 := rg_ne c2 (k := 4) (by decide) (by decide)
        have n5 := rg_ne c2 (k := 5) (by decide) (by decide)
        have n6 := rg_ne c2 (k := 6) (by decide) (by decide)
        unfold f5_of
        simp only [w1, wi, c1, bI_z, zb1_e, v5_counted, zb4_e]
        simp only [zL, n0, n1, n2, n3, n4, n5, n6, if_false]
        simp
      · unfold f6_of
        simp only [m1, m2, c1, c2, bI_z, zb1_e, v6_bad, zb2_e]
        simp
    · obtain ⟨w, _, hw, rfl⟩ := rg_of (by omega) c2
      have hw7 : w = 0 ∨ w = 1 ∨ w = 2 ∨ w = 3 ∨ w = 4 ∨ w = 5 ∨ w = 6 := by omega
      have bt : (true = false) = False := by simp
      have ib : ∀ (p : Bool) (u v : Nat → Int32), (if p = false then some ((0 : Int32), u) else some ((1 : Int32), u)) = some (bI p, u) := fun p u v => by cases p <;> rfl
      rcases hw7 with rfl | rfl | rfl | rfl | rfl | rfl | rfl
      · refine ⟨book (44 + g), rf, ?_, ?_⟩
        · unfold f5_of
          simp only [w1, c1, bI_z, zb1_e, wi, wp, ww, ws, wh, bt, if_false]
          simp (disch := omega) only [zL, zg_n, nI_clamp, zl_e, nI_eq, e0, e1]
          simp
        · unfold f6_of
          simp only [m1, m2, c1, c2, bI_z, zb1_e, mi, mp, mw, ms, mh, bt, if_false]
          simp (disch := omega) only [zL, zg_n, nI_clamp, zl_e, nI_eq, nI_add, zb1_e]
          simp [zb1_e]
          cases pss book nt d g S <;> rfl
      · refine ⟨book (68 + g), rf, ?_, ?_⟩
        · unfold f5_of
          simp only [w1, c1, bI_z, zb1_e, wi, wp, ww, ws, wh, bt, if_false]
          simp (disch := omega) only [zL, zg_n, nI_clamp, zl_e, nI_eq, e0, e1]
          simp
        · unfold f6_of
          simp only [m1, m2, c1, c2, bI_z, zb1_e, mi, mp, mw, ms, mh, bt, if_false]
          simp (disch := omega) only [zL, zg_n, nI_clamp, zl_e, nI_eq, nI_add, zb1_e]
          simp [zb1_e]
          cases pss book nt d g S <;> rfl
      · refine ⟨nI (wghN book nt d g S), rf, ?_, ?_⟩
        · unfold f5_of
          simp only [w1, c1, bI_z, zb1_e, wi, wp, ww, ws, wh, bt, if_false]
          simp (disch := omega) only [zL, zg_n, nI_clamp, zl_e, nI_eq, e0, e1]
          simp
        · unfold f6_of
          simp only [m1, m2, c1, c2, bI_z, zb1_e, mi, mp, mw, ms, mh, bt, if_false]
          simp (disch := omega) only [zL, zg_n, nI_clamp, zl_e, nI_eq, nI_add, zb1_e]
          simp [zb1_e]
          cases pss book nt d g S <;> rfl
      · refine ⟨nI (sndN book nt g S), rf, ?_, ?_⟩
        · unfold f5_of
          simp only [w1, c1, bI_z, zb1_e, wi, wp, ww, ws, wh, bt, if_false]
          simp (disch := omega) only [zL, zg_n, nI_clamp, zl_e, nI_eq, e0, e1]
          simp
        · unfold f6_of
          simp only [m1, m2, c1, c2, bI_z, zb1_e, mi, mp, mw, ms, mh, bt, if_false]
          simp (disch := omega) only [zL, zg_n, nI_clamp, zl_e, nI_eq, nI_add, zb1_e]
          simp [zb1_e]
          cases pss book nt d g S <;> rfl
      · refine ⟨nI (hrmN book nt d g S), rf, ?_, ?_⟩
        · unfold f5_of
          simp only [w1, c1, bI_z, zb1_e, wi, wp, ww, ws, wh, bt, if_false]
          simp (disch := omega) only [zL, zg_n, nI_clamp, zl_e, nI_eq, e0, e1]
          simp
        · unfold f6_of
          simp only [m1, m2, c1, c2, bI_z, zb1_e, mi, mp, mw, ms, mh, bt, if_false]
          simp (disch := omega) only [zL, zg_n, nI_clamp, zl_e, nI_eq, nI_add, zb1_e]
          simp [zb1_e]
      · refine ⟨nI S, rf, ?_, ?_⟩
        · unfold f5_of
          simp only [w1, c1, bI_z, zb1_e, wi, wp, ww, ws, wh, bt, if_false]
          simp (disch := omega) only [zL, zg_n, nI_clamp, zl_e, nI_eq, e0, e1]
          simp
        · unfold f6_of
          simp only [m1, m2, c1, c2, bI_z, zb1_e, mi, mp, mw, ms, mh, bt, if_false]
          simp (disch := omega) only [zL, zg_n, nI_clamp, zl_e, nI_eq, nI_add, zb1_e]
          simp [zb1_e]
      · refine ⟨bI (pss book nt d g S), rf, ?_, ?_⟩
        · unfold f5_of
          simp only [w1, c1, bI_z, zb1_e, wi, wp, ww, ws, wh, bt, if_false]
          simp (disch := omega) only [zL, zg_n, nI_clamp, zl_e, nI_eq, e0, e1]
          simp
          cases pss book nt d g S <;> rfl
        · unfold f6_of
          simp only [m1, m2, c1, c2, bI_z, zb1_e, mi, mp, mw, ms, mh, bt, if_false]
          simp (disch := omega) only [zL, zg_n, nI_clamp, zl_e, nI_eq, nI_add, zb1_e]
          simp [zb1_e]
          cases pss book nt d g S <;> rfl
  · refine ⟨-2, cntd 0 rf (-2), ?_, ?_⟩
    · unfold f5_of
      simp only [w1, bI_z, zb1_e, v5_counted, zb4_e]
      simp [c1]
    · unfold f6_of
      simp only [m1, bI_z, zb1_e, v6_bad, zb2_e]
      simp [c1]
