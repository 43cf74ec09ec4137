/-! ===== pure side 16: a gift is delivered, sent ===== -/
theorem upd_id (f : Nat → Int32) (k : Nat) : upd f k (f k) = f := by
  funext j
  unfold upd
  split
  · rename_i e
    rw [e]
  · rfl
theorem zSet_cong {b b' : Nat → Int32} {nt : Nat} {v : Int32} (h : ∀ t, t < nt → b (36 + t) = b' (36 + t)) : zSet b nt v = zSet b' nt v :=
  bs_cong (fun t ht => by rw [h t ht])
theorem e_dlv {B nt ng d nm : Nat} {book : Nat → Int32} {things gifts days : Int32} {size weight sound harm in_ kind owner empty room told gate ear scale lost watch : Nat → Int32} {moments : Int32} {kept : Nat → Int32} (h : Bk B book nt ng d nm) (r : Rw things gifts days size weight sound harm in_ kind owner empty room told gate ear scale lost watch moments kept book nt ng nm) {g hr : Nat} (hg : g < ng) (hh : hr < 6) (hd1 : d + 1 ≤ B) : ∃ (ans days' : Int32) (in' owner' lost' book' : Nat → Int32),
    f4_deliver things days weight sound harm in_ kind owner empty room gate ear scale lost watch (nI g) (nI hr) = some (ans, days', in', owner', lost') ∧
    f6_sends book (nI g) (nI hr) = some (ans, book') ∧ Bk B book' nt ng (d + 1) nm ∧
    Rw things gifts days' size weight sound harm in' kind owner' empty room told gate ear scale lost' watch moments kept book' nt ng nm ∧ (ans = -5 ∨ ∃ n, n ≤ 200 ∧ ans = nI n) := by
  have hn1 := h.1.1
  have hn2 := h.1.2.1
  have hdB := h.1.2.2.2
  have h8 := pow8 hn1
  have hS := z_set_lt book nt (nI g)
  have wo := r.other h hg
  have wi := r.inside h (nI g)
  have wp := r.passes h hg hS
  have wl := r.loss h hg hS hh
  have mo := h.other hg
  have mi := v6_thingsIn hn1 h.2.1.1 (nI g)
  have mp := h.passes hg (S := zSet book nt (nI g)) (by omega)
  have ml := h.loses hg (S := zSet book nt (nI g)) (by omega) hh
  have ho := (h.oth hg).1
  have hl : lssN book nt d g (zSet book nt (nI g)) hr ≤ 200 := by
    have := h.hle (g := g) (S := zSet book nt (nI g))
    unfold lssN
    omega
  obtain ⟨o, hO⟩ : ∃ o, othN book g = o := ⟨_, rfl⟩
  obtain ⟨L, hL⟩ : ∃ L, lssN book nt d g (zSet book nt (nI g)) hr = L := ⟨_, rfl⟩
  rw [hO] at wo mo ho
  rw [hL] at wl ml hl
  have rl := (r.2.2.2.1 o ho).2.2.2
  have rd : days = nI d := by rw [r.1.2.2.1, h.2.1.2.2.1]
  have rt : things = nI nt := by rw [r.1.1, h.2.1.1]
  have u : ∀ x k, k ≠ 92 + o → upd book (92 + o) x k = book k := fun x k hk => by unfold upd; rw [if_neg hk]
  cases c : pss book nt d g (zSet book nt (nI g))
  · rw [c] at wp mp
    refine ⟨-5, nI (d + 1), in_, owner, upd lost o (lost o + nI 1), upd (upd book (92 + o) (lost o + nI 1)) 2 (nI (d + 1)), ?_, ?_, (h.setLost ho _).setDays hd1, (r.setLost h ho _).setDays (h.setLost ho _) _, Or.inl rfl⟩
    · unfold f4_deliver
      simp only [wo, wi, wp, zb1_e]
      simp (disch := omega) only [bI, zL, zg_n, nI_clamp, zl_e, rd, nI_add]
      simp
    · unfold f6_sends
      simp only [mo, mi, mp, zb1_e]
      have e2 : upd book (92 + o) (lost o + nI 1) 2 = nI d := by rw [u _ _ (by omega), h.2.1.2.2.1]
      have hz : ∀ k, L6_sends_57 k (nI g) (nI 0) FU (nI 0) (upd book (92 + o) (lost o + nI 1)) = k (upd book (92 + o) (lost o + nI 1)) := fun k =>
        v6_free0 hn1 _ (by rw [u _ _ (by omega), h.2.1.1]) _ _
      rw [rl] at hz e2 ⊢
      simp (disch := omega) only [bI, zL, zg_n, nI_clamp, zl_e, nI_add, zb1_e, if_true, ite_true, Bool.false_eq_true, if_false]
      rw [hz]
      simp (disch := omega) only [zg_n, nI_clamp, zl_e, nI_add, zb1_e, upd_id, e2]
  · rw [c] at wp mp
    have e0 : upd book (92 + o) (lost o + nI L) 0 = nI nt := by rw [u _ _ (by omega), h.2.1.1]
    have hb1 := h.setLost ho (lost o + nI L)
    have rb1 := r.setLost h ho (lost o + nI L)
    have hs1 : zSet (upd book (92 + o) (lost o + nI L)) nt (nI g) = zSet book nt (nI g) := zSet_cong (fun t ht => u _ _ (by omega))
    have hb2 := hb1.free (nI g)
    have rb2 := rb1.free hb1 (nI g)
    have hb3 := hb2.setHas hg (v := nI o) (sml_of (by omega) (by omega))
    have rb3 := rb2.setHas hb2 hg (nI o)
    rw [hs1] at rb3
    refine ⟨nI L, nI (d + 1), _, _, _, _, ?_, ?_, hb3.setDays hd1, rb3.setDays hb3 (nI (d + 1)), Or.inr ⟨L, hl, rfl⟩⟩
    · unfold f4_deliver
      simp only [wo, wi, wp, zb1_e, wl]
      have h1 : ¬ nI 1 = nI 0 := by decide
      simp (disch := omega) only [bI, zL, if_true, h1, if_false, zg_n, nI_clamp, zl_e, rd, nI_add, rt, v4_freeThings hn1 hS, zb1_e]
    · unfold f6_sends
      have h1 : ¬ nI 1 = nI 0 := by decide
      simp only [mo, mi, mp, zb1_e, ml]
      have e2 : upd (frM (upd book (92 + o) (lost o + nI L)) (nI g) nt) (68 + g) (nI o) 2 = nI d := by
        unfold upd frM
        rw [if_neg (by omega), if_neg (by omega)]
        exact (u _ _ (by omega)).trans h.2.1.2.2.1
      have hz := v6_free hn1 _ e0 (nI g) (nI 1) h1
      rw [rl] at hz e2 ⊢
      simp (disch := omega) only [bI, zL, if_true, h1, if_false, zg_n, nI_clamp, zl_e, nI_add, zb1_e]
      erw [hz]
      simp (disch := omega) only [zg_n, nI_clamp, zl_e, nI_add, zb1_e, e2]
theorem e_send {B nt ng d nm : Nat} {book : Nat → Int32} {things gifts days : Int32} {size weight sound harm in_ kind owner empty room told gate ear scale lost watch : Nat → Int32} {moments : Int32} {kept : Nat → Int32} (h : Bk B book nt ng d nm) (r : Rw things gifts days size weight sound harm in_ kind owner empty room told gate ear scale lost watch moments kept book nt ng nm) (hd1 : d + 1 ≤ B) (rf : Nat → Int32) (a b : Int32) : ∃ (ans days' : Int32) (in' owner' lost' : Nat → Int32) (moments' : Int32) (kept' book' : Nat → Int32) (d' nm' : Nat),
    f5_send (rf 0) (rf 1) (rf 2) things gifts days weight sound harm in_ kind owner empty room gate ear scale lost watch moments kept a b = some (ans, cntd 0 rf (if ans = -10 then -2 else 0) 0, cntd 0 rf (if ans = -10 then -2 else 0) 1, cntd 0 rf (if ans = -10 then -2 else 0) 2, days', in', owner', lost', moments', kept') ∧
    f6_send 0 book rf a b = some (ans, book', cntd 0 rf (if ans = -10 then -2 else 0)) ∧ Bk B book' nt ng d' nm' ∧ d' ≤ d + 1 ∧
    Rw things gifts days' size weight sound harm in' kind owner' empty room told gate ear scale lost' watch moments' kept' book' nt ng nm' := by
  have w1 := r.isGift h a
  have m1 := h.isGift a
  have hn2 := h.1.2.1
  have bt : bI true = 1 := rfl
  have bf : bI false = 0 := rfl
  have v10 : (-10 : Int32) = -10 := rfl
  by_cases c1 : rgn a ng = true ∧ rg b 0 5 = true
  · obtain ⟨c1, c2⟩ := c1
    obtain ⟨g, hg, rfl⟩ := rgn_of (by omega) c1
    obtain ⟨hr, _, hh, rfl⟩ := rg_of (by omega) c2
    obtain ⟨moments', kept', book1, nm', x1, x2, x3, x4, x5⟩ := e_rem h r
    obtain ⟨ans, days', in', owner', lost', book', y1, y2, y3, y4, y5⟩ := e_dlv x3 x4 hg (hr := hr) (by omega) hd1
    have na : ¬ ans = -10 := by
      rcases y5 with rfl | ⟨n, hn, rfl⟩
      · decide
      · exact nI_ne_neg (by omega) (k := 10) (by decide) (by decide)
    refine ⟨ans, days', in', owner', lost', moments', kept', book', d + 1, nm', ?_, ?_, y3, Nat.le_refl _, y4⟩
    · unfold f5_send
      have h1 : ¬ (1 : Int32) = 0 := by decide
      simp only [w1, c1, bt, zb1_e, h1, if_false, v5_isHour, c2, x1, zb2_e, y1, zb5_e, na]
      rw [show cntd 0 rf 0 = rf from cntd_n 0 rf (n := 0) (by decide)]
    · unfold f6_send
      have h1 : ¬ (1 : Int32) = 0 := by decide
      simp only [m1, c1, bt, zb1_e, h1, if_false, v6_isHour, c2, x2, y2, zb2_e, na]
      rw [show cntd 0 rf 0 = rf from cntd_n 0 rf (n := 0) (by decide)]
  · refine ⟨-10, days, in_, owner, lost, moments, kept, book, d, nm, ?_, ?_, h, by omega, r⟩
    · unfold f5_send
      simp only [w1, zb1_e, v5_isHour, v5_ten, zb4_e, if_true]
      cases c5 : rgn a ng <;> cases c6 : rg b 0 5 <;> simp_all
    · unfold f6_send
      simp only [m1, zb1_e, v6_isHour, v6_ten, zb2_e, if_true]
      cases c5 : rgn a ng <;> cases c6 : rg b 0 5 <;> simp_all
