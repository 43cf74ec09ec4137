/-! ===== pure side 6: ranges, refusals ===== -/
def rg (a : Int32) (lo hi : Nat) : Bool := decide ((lo : Int) ≤ a.toInt ∧ a.toInt ≤ (hi : Int))
def rgn (a : Int32) (n : Nat) : Bool := decide (0 ≤ a.toInt ∧ a.toInt < (n : Int))
theorem rg_of {a : Int32} {lo hi : Nat} (hh : hi < 2 ^ 31) (h : rg a lo hi = true) : ∃ j, lo ≤ j ∧ j ≤ hi ∧ a = nI j := by
  have h1 := of_decide_eq_true h
  refine ⟨a.toInt.toNat, by omega, by omega, ?_⟩
  rw [z_eqI, nI_toInt (by omega)]
  omega
theorem rgn_of {a : Int32} {n : Nat} (hh : n < 2 ^ 31) (h : rgn a n = true) : ∃ j, j < n ∧ a = nI j := by
  have h1 := of_decide_eq_true h
  refine ⟨a.toInt.toNat, by omega, ?_⟩
  rw [z_eqI, nI_toInt (by omega)]
  omega
theorem bI_ite (c : Prop) [Decidable c] : (if c then (1 : Int32) else 0) = bI (decide c) := by
  by_cases h : c <;> simp [h, bI] <;> rfl
theorem v5w {a : Int32} {lo hi : Nat} (h1 : lo < 2 ^ 31) (h2 : hi < 2 ^ 31) : f5_within a (nI lo) (nI hi) = some (bI (rg a lo hi)) := by
  rw [v5_within, nI_toInt h1, nI_toInt h2, bI_ite]
  rfl
theorem v6i {a : Int32} {lo hi : Nat} (h1 : lo < 2 ^ 31) (h2 : hi < 2 ^ 31) : f6_in a.toInt64 (lN lo) (lN hi) = some (bI (rg a lo hi)) := by
  rw [v6_in, lN_toInt h1, lN_toInt h2, z_il, bI_ite]
  rfl
theorem nI_m1 {n : Nat} (h : n < 2 ^ 30) : (nI n - nI 1).toInt = (n : Int) - 1 := by
  have := pk_sub_toInt (a := n) (b := 1) h (by decide)
  exact this
theorem v5wn {a : Int32} {n : Nat} (h : n < 2 ^ 30) : f5_within a (nI 0) (nI n - nI 1) = some (bI (rgn a n)) := by
  rw [v5_within, nI_m1 h, bI_ite]
  congr 2
  unfold rgn
  congr 1
  rw [eq_iff_iff]
  have : (nI 0).toInt = 0 := rfl
  omega
theorem v6n {a : Int32} {n : Nat} (h : n < 2 ^ 30) : f6_in a.toInt64 (lN 0) (nI n - nI 1).toInt64 = some (bI (rgn a n)) := by
  rw [v6_in, z_il, z_il, nI_m1 h, bI_ite]
  congr 2
  unfold rgn
  congr 1
  rw [eq_iff_iff]
  have : (lN 0).toInt = 0 := rfl
  omega
theorem bI_gb {α : Type} {b : Bool} {k : Option α} : zgb (bI b) k = k := zgb_e (by cases b; exact Or.inl rfl; exact Or.inr rfl)
theorem zLM : ((5 : Int64) = lN 5) ∧ ((9 : Int64) = lN 9) ∧ ((20 : Int64) = lN 20) ∧ ((50 : Int64) = lN 50) ∧ ((30 : Int64) = lN 30) ∧ ((2 : Int64) = lN 2) ∧ ((4 : Int64) = lN 4) ∧ ((10 : Int64) = lN 10) ∧ ((99 : Int64) = lN 99) ∧ ((400 : Int64) = lN 400) ∧ ((3 : Int64) = lN 3) ∧ ((90 : Int64) = lN 90) ∧ ((999999 : Int64) = lN 999999) ∧ ((127 : Int64) = lN 127) ∧ ((97 : Int64) = lN 97) ∧ ((200 : Int64) = lN 200) := ⟨rfl, rfl, rfl, rfl, rfl, rfl, rfl, rfl, rfl, rfl, rfl, rfl, rfl, rfl, rfl, rfl⟩
theorem Rw.isThing {B nt ng d nm : Nat} {book : Nat → Int32} {things gifts days : Int32} {size weight sound harm in_ kind owner empty room told gate ear scale lost watch : Nat → Int32} {moments : Int32} {kept : Nat → Int32} (h : Bk B book nt ng d nm) (r : Rw things gifts days size weight sound harm in_ kind owner empty room told gate ear scale lost watch moments kept book nt ng nm) (a : Int32) : f4_hasThing things a = some (bI (rgn a nt)) := by
  have hn := h.1.1
  unfold f4_hasThing
  rw [r.1.1, h.2.1.1, show ((0 : Int32) = nI 0) from rfl, show ((1 : Int32) = nI 1) from rfl, v5wn (by omega), zb1_e, bI_gb]
theorem Rw.isGift {B nt ng d nm : Nat} {book : Nat → Int32} {things gifts days : Int32} {size weight sound harm in_ kind owner empty room told gate ear scale lost watch : Nat → Int32} {moments : Int32} {kept : Nat → Int32} (h : Bk B book nt ng d nm) (r : Rw things gifts days size weight sound harm in_ kind owner empty room told gate ear scale lost watch moments kept book nt ng nm) (a : Int32) : f4_hasGift gifts a = some (bI (rgn a ng)) := by
  have hn := h.1.2.1
  unfold f4_hasGift
  rw [r.1.2.1, h.2.1.2.1, show ((0 : Int32) = nI 0) from rfl, show ((1 : Int32) = nI 1) from rfl, v5wn (by omega), zb1_e, bI_gb]
theorem Bk.isThing {B nt ng d nm : Nat} {book : Nat → Int32} (h : Bk B book nt ng d nm) (a : Int32) : f6_isThing book a = some (bI (rgn a nt)) := by
  have hn := h.1.1
  unfold f6_isThing
  rw [h.2.1.1, show ((0 : Int64) = lN 0) from rfl, show ((1 : Int32) = nI 1) from rfl, v6n (by omega), zb1_e, bI_gb]
theorem Bk.isGift {B nt ng d nm : Nat} {book : Nat → Int32} (h : Bk B book nt ng d nm) (a : Int32) : f6_isGift book a = some (bI (rgn a ng)) := by
  have hn := h.1.2.1
  unfold f6_isGift
  rw [h.2.1.2.1, show ((0 : Int64) = lN 0) from rfl, show ((1 : Int32) = nI 1) from rfl, v6n (by omega), zb1_e, bI_gb]
theorem v5_isCity (a : Int32) : f5_isCity a = some (bI (rg a 0 1)) := by
  unfold f5_isCity
  rw [show ((0 : Int32) = nI 0) from rfl, show ((1 : Int32) = nI 1) from rfl, v5w (by decide) (by decide), zb1_e, bI_gb]
theorem v5_isHour (a : Int32) : f5_isHour a = some (bI (rg a 0 5)) := by
  unfold f5_isHour
  rw [show ((0 : Int32) = nI 0) from rfl, show ((5 : Int32) = nI 5) from rfl, v5w (by decide) (by decide), zb1_e, bI_gb]
theorem v6_isCity (a : Int32) : f6_isCity a = some (bI (rg a 0 1)) := by
  unfold f6_isCity
  rw [show ((0 : Int64) = lN 0) from rfl, show ((1 : Int64) = lN 1) from rfl, v6i (by decide) (by decide), zb1_e, bI_gb]
theorem v6_isHour (a : Int32) : f6_isHour a = some (bI (rg a 0 5)) := by
  unfold f6_isHour
  rw [show ((0 : Int64) = lN 0) from rfl, show ((5 : Int64) = lN 5) from rfl, v6i (by decide) (by decide), zb1_e, bI_gb]
/-- how many refusals stand, behind an answer (q: 0 where they are counted) -/
def cq (q : Int32) : Int32 := if q = 0 then 1 else 0
def cntd (q : Int32) (rf : Nat → Int32) (r : Int32) : Nat → Int32 := if r = -2 then upd rf 0 (rf 0 + cq q) else if r = -3 then upd rf 1 (rf 1 + cq q) else if r = -4 then upd rf 2 (rf 2 + cq q) else rf
theorem v6_refuses (q : Int32) (rf : Nat → Int32) {k : Nat} (hk : k < 3) (v : Int32) : f6_refuses q rf (nI k) v = some (v, upd rf k (rf k + cq q)) := by
  unfold f6_refuses cq
  by_cases h : q = 0 <;> simp (disch := omega) [zg_n, nI_clamp, zl_e, h]
theorem v6_bad (q : Int32) (rf : Nat → Int32) : f6_bad q rf = some (-2, cntd q rf (-2)) := by
  unfold f6_bad
  rw [show ((0 : Int32) = nI 0) from rfl, v6_refuses q rf (by decide)]
  rfl
theorem v6_no (q : Int32) (rf : Nat → Int32) : f6_no q rf = some (-3, cntd q rf (-3)) := by
  unfold f6_no
  rw [show ((1 : Int32) = nI 1) from rfl, v6_refuses q rf (by decide)]
  rfl
theorem v6_full (q : Int32) (rf : Nat → Int32) : f6_full q rf = some (-4, cntd q rf (-4)) := by
  unfold f6_full
  rw [show ((2 : Int32) = nI 2) from rfl, v6_refuses q rf (by decide)]
  rfl
theorem nI_ne_neg {n k : Nat} (hn : n < 2 ^ 31) (hk : 0 < k) (hk2 : k < 100) : nI n ≠ -(nI k) := by
  intro e
  have h1 := congrArg Int32.toInt e
  rw [nI_toInt hn, sb_negT (by omega)] at h1
  omega
theorem cntd_n (q : Int32) (rf : Nat → Int32) {n : Nat} (hn : n < 2 ^ 31) : cntd q rf (nI n) = rf := by
  unfold cntd
  have h2 : ¬ nI n = -2 := nI_ne_neg hn (k := 2) (by decide) (by decide)
  have h3 : ¬ nI n = -3 := nI_ne_neg hn (k := 3) (by decide) (by decide)
  have h4 : ¬ nI n = -4 := nI_ne_neg hn (k := 4) (by decide) (by decide)
  rw [if_neg h2, if_neg h3, if_neg h4]
/-- the class's counting of an answer -/
theorem v5_counted (rf : Nat → Int32) (r : Int32) : f5_counted (rf 0) (rf 1) (rf 2) r = some (r, cntd 0 rf r 0, cntd 0 rf r 1, cntd 0 rf r 2) := by
  unfold f5_counted cntd
  by_cases h2 : r = -2
  · simp [h2, zl_e, upd, cq]
  · by_cases h3 : r = -3
    · simp [h3, zl_e, upd, cq]
      try decide
    · by_cases h4 : r = -4
      · simp [h4, zl_e, upd, cq]
        try decide
      · simp [h2, h3, h4]
theorem v5_ten (rf : Nat → Int32) : f5_refusedAsTen (rf 0) (rf 1) (rf 2) = some (-10, cntd 0 rf (-2) 0, cntd 0 rf (-2) 1, cntd 0 rf (-2) 2) := by
  unfold f5_refusedAsTen
  rw [v5_counted]
  rfl
theorem v6_ten (q : Int32) (rf : Nat → Int32) : f6_refuses q rf 0 (-10) = some (-10, cntd q rf (-2)) := v6_refuses q rf (k := 0) (by decide) (-10)
