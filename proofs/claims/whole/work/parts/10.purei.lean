/-! ===== pure side 19: knocks, stand, sat ===== -/
theorem pow30 {nt : Nat} (h : nt ≤ 8) : 2 ^ nt < 2 ^ 30 := by
  have := pow8 h
  omega
theorem Bk.areThings {B nt ng d nm : Nat} {book : Nat → Int32} (h : Bk B book nt ng d nm) (a : Int32) : f6_areThings book a = some (bI (rgn a (2 ^ nt))) := by
  have hn := h.1.1
  unfold f6_areThings
  rw [h.2.1.1, show (31 : Int32) = nI 31 from rfl, show ((1 : Int32) = nI 1) from rfl, show ((0 : Int64) = lN 0) from rfl, zshl (by omega), v6n (pow30 hn), zb1_e, bI_gb]
theorem bI_eq (a b : Bool) : (bI a = bI b) = (a = b) := by cases a <;> cases b <;> simp [bI] <;> decide
theorem e_knocks {B nt ng d nm : Nat} {book : Nat → Int32} {things gifts days : Int32} {size weight sound harm in_ kind owner empty room told gate ear scale lost watch : Nat → Int32} {moments : Int32} {kept : Nat → Int32} (h : Bk B book nt ng d nm) (r : Rw things gifts days size weight sound harm in_ kind owner empty room told gate ear scale lost watch moments kept book nt ng nm) (rf : Nat → Int32) (a b c : Int32) : ∃ (ans : Int32) (rf' : Nat → Int32),
    f5_knocks (rf 0) (rf 1) (rf 2) things gifts days weight sound kind owner empty ear scale a b c = some (ans, rf' 0, rf' 1, rf' 2) ∧ f6_knocks 0 book rf a b c = some (ans, rf') := by
  have w1 := r.isGift h a
  have m1 := h.isGift a
  have hn1 := h.1.1
  have hn2 := h.1.2.1
  have h8 := pow8 hn1
  have rt : things = nI nt := by rw [r.1.1, h.2.1.1]
  have m2 := h.areThings b
  have m3 := h.areThings c
  have w2 : ∀ a, f5_within a (nI 0) (nI (2 ^ nt) - nI 1) = some (bI (rgn a (2 ^ nt))) := fun a => v5wn (pow30 hn1)
  have bt : (true = false) = False := by simp
  by_cases k1 : rgn a ng = true ∧ rgn b (2 ^ nt) = true ∧ rgn c (2 ^ nt) = true
  · obtain ⟨c1, c2, c3⟩ := k1
    obtain ⟨g, hg, rfl⟩ := rgn_of (by omega) c1
    obtain ⟨S, hS, rfl⟩ := rgn_of (by omega) c2
    obtain ⟨T, hT, rfl⟩ := rgn_of (by omega) c3
    have wS := r.isHeard h hg hS
    have wT := r.isHeard h hg hT
    have mS := h.isHeard hg (S := S) (by omega)
    have mT := h.isHeard hg (S := T) (by omega)
    have vS := r.isHeavy h hg hS
    have vT := r.isHeavy h hg hT
    have nS := h.isHeavy hg (S := S) (by omega)
    have nT := h.isHeavy hg (S := T) (by omega)
    refine ⟨nI ((if hrd book nt g S = hrd book nt g T then 0 else 1) + (if hvy book nt d g S = hvy book nt d g T then 0 else 2)), rf, ?_, ?_⟩
    · unfold f5_knocks
      rw [rt]
      simp (disch := omega) only [zL, zshl, zl_e, w1, w2, c1, c2, c3, zb1_e, wS, wT, vS, vT, bI_eq]
      simp only [show nI 0 = 0 from rfl, bI_z, bt, if_false]
      by_cases z1 : hrd book nt g S = hrd book nt g T <;> by_cases z2 : hvy book nt d g S = hvy book nt d g T <;> simp only [z1, z2, if_true, if_false, zb1_e] <;> rfl
    · unfold f6_knocks
      simp only [m1, m2, m3, c1, c2, c3, bI_z, zb1_e, mS, mT, nS, nT, bI_eq, bt, if_false]
      by_cases z1 : hrd book nt g S = hrd book nt g T <;> by_cases z2 : hvy book nt d g S = hvy book nt d g T <;> simp only [z1, z2, if_true, if_false, zb1_e] <;> rfl
  · refine ⟨-2, cntd 0 rf (-2), ?_, ?_⟩
    · unfold f5_knocks
      rw [rt]
      simp (disch := omega) only [zL, zshl, zl_e, w1, w2, zb1_e]
      simp only [show nI 0 = 0 from rfl, show (-(nI 2)) = -2 from rfl, bI_z, v5_counted, zb4_e]
      cases c5 : rgn a ng <;> cases c6 : rgn b (2 ^ nt) <;> cases c7 : rgn c (2 ^ nt) <;> simp_all
    · unfold f6_knocks
      simp only [m1, m2, m3, bI_z, zb1_e, v6_bad, zb2_e]
      cases c5 : rgn a ng <;> cases c6 : rgn b (2 ^ nt) <;> cases c7 : rgn c (2 ^ nt) <;> simp_all
theorem s_stand {B nt ng d nm : Nat} {book : Nat → Int32} {things gifts days : Int32} {size weight sound harm in_ kind owner empty room told gate ear scale lost watch : Nat → Int32} {moments : Int32} {kept : Nat → Int32} (h : Bk B book nt ng d nm) (r : Rw things gifts days size weight sound harm in_ kind owner empty room told gate ear scale lost watch moments kept book nt ng nm) {g S : Nat} (hg : g < ng) (hS : S < 2 ^ nt) : ∀ (m t y n n' : Nat), t + m = 6 → m < n → m < n' → y < 6 → ∃ z, z < 6 ∧
    (∀ k, L1_hourOfLeastHarm_11 k days harm kind owner watch (nI g) (nI S) n (nI y) (nI t) = k (nI z)) ∧ (∀ k, L6_stand_35 k book (nI g) (nI S) n' (nI y) (nI t) = k (nI z)) := by
  have hn1 := h.1.1
  have h8 := pow8 hn1
  intro m
  induction m with
  | zero =>
    intro t y n n' ht hm hm' hy
    obtain ⟨n, rfl⟩ : ∃ m, n = m + 1 := ⟨n - 1, by omega⟩
    obtain ⟨n', rfl⟩ : ∃ m, n' = m + 1 := ⟨n' - 1, by omega⟩
    have e : t = 6 := by omega
    subst e
    refine ⟨y, hy, fun k => ?_, fun k => ?_⟩
    · rw [L1_hourOfLeastHarm_11, show ((6 : Int32) = nI 6) from rfl, if_pos (nI_le (Nat.le_refl _) (by omega))]
    · rw [L6_stand_35, show ((6 : Int32) = nI 6) from rfl, if_pos (nI_le (Nat.le_refl _) (by omega))]
  | succ m ih =>
    intro t y n n' ht hm hm' hy
    obtain ⟨n, rfl⟩ : ∃ m, n = m + 1 := ⟨n - 1, by omega⟩
    obtain ⟨n', rfl⟩ : ∃ m, n' = m + 1 := ⟨n' - 1, by omega⟩
    obtain ⟨z, hz, e1, e2⟩ := ih (t + 1) (if lssN book nt d g S y ≤ lssN book nt d g S t then y else t) n n' (by omega) (by omega) (by omega) (by split <;> omega)
    have hl : ∀ j, lssN book nt d g S j < 2 ^ 31 := fun j => by
      have := h.hle (g := g) (S := S)
      unfold lssN
      omega
    refine ⟨z, hz, fun k => ?_, fun k => ?_⟩
    · rw [L1_hourOfLeastHarm_11, show ((6 : Int32) = nI 6) from rfl, if_neg (nI_ge (by omega) (by omega)), r.loss h hg hS (hr := t) (by omega), r.loss h hg hS (hr := y) hy, zb1_e, zb1_e, nI_1]
      have e1 := e1 k
      by_cases c : lssN book nt d g S y ≤ lssN book nt d g S t
      · rw [if_pos ((nI_leI (hl _) (hl _)).mpr c)]
        rw [if_pos c] at e1
        exact e1
      · rw [if_neg (fun x => c ((nI_leI (hl _) (hl _)).mp x))]
        rw [if_neg c] at e1
        exact e1
    · rw [L6_stand_35, show ((6 : Int32) = nI 6) from rfl, if_neg (nI_ge (by omega) (by omega)), h.loses hg (S := S) (by omega) (hr := t) (by omega), h.loses hg (S := S) (by omega) (hr := y) hy, zb1_e, zb1_e, nI_1]
      have e2 := e2 k
      by_cases c : lssN book nt d g S y ≤ lssN book nt d g S t
      · rw [if_pos ((nI_leI (hl _) (hl _)).mpr c)]
        rw [if_pos c] at e2
        exact e2
      · rw [if_neg (fun x => c ((nI_leI (hl _) (hl _)).mp x))]
        rw [if_neg c] at e2
        exact e2
theorem e_stand {B nt ng d nm : Nat} {book : Nat → Int32} {things gifts days : Int32} {size weight sound harm in_ kind owner empty room told gate ear scale lost watch : Nat → Int32} {moments : Int32} {kept : Nat → Int32} (h : Bk B book nt ng d nm) (r : Rw things gifts days size weight sound harm in_ kind owner empty room told gate ear scale lost watch moments kept book nt ng nm) (rf : Nat → Int32) (a b : Int32) : ∃ (ans : Int32) (rf' : Nat → Int32),
    f5_stand (rf 0) (rf 1) (rf 2) things gifts days harm in_ kind owner watch a b = some (ans, rf' 0, rf' 1, rf' 2) ∧ f6_stand 0 book rf a b = some (ans, rf') := by
  have w1 := r.isGift h a
  have m1 := h.isGift a
  have hn1 := h.1.1
  have hn2 := h.1.2.1
  have h8 := pow8 hn1
  have w2 : f5_within b 0 1 = some (bI (rg b 0 1)) := v5w (by decide) (by decide)
  have m2 : f6_in b.toInt64 0 1 = some (bI (rg b 0 1)) := v6i (by decide) (by decide)
  have bt : (true = false) = False := by simp
  by_cases k1 : rgn a ng = true ∧ rg b 0 1 = true
  · obtain ⟨c1, c2⟩ := k1
    obtain ⟨g, hg, rfl⟩ := rgn_of (by omega) c1
    have hS := z_set_lt book nt (nI g)
    have wi := r.inside h (nI g)
    have mi := v6_thingsIn hn1 h.2.1.1 (nI g)
    obtain ⟨S, hSS⟩ : ∃ S, zSet book nt (nI g) = S := ⟨_, rfl⟩
    rw [hSS] at hS wi mi
    obtain ⟨z, hz, e1, e2⟩ := s_stand h r hg hS 5 1 0 FU FU (by omega) (by unfold FU; omega) (by unfold FU; omega) (by omega)
    have e1 := e1 (fun y12 => some y12)
    rw [show nI 0 = 0 from rfl, show nI 1 = 1 from rfl] at e1 e2
    have wl := r.loss h hg hS hz
    have ml := h.loses hg (S := S) (by omega) hz
    refine ⟨if b = 0 then nI z else nI (lssN book nt d g S z), rf, ?_, ?_⟩
    · unfold f5_stand f1_hourOfLeastHarm
      simp only [w1, w2, c1, c2, bI_z, zb1_e, wi, e1, wl, bt, if_false]
      split <;> rfl
    · unfold f6_stand
      simp only [m1, m2, c1, c2, bI_z, zb1_e, mi, e2, ml, bt, if_false]
      split <;> rfl
  · refine ⟨-2, cntd 0 rf (-2), ?_, ?_⟩
    · unfold f5_stand
      simp only [w1, w2, bI_z, zb1_e, v5_counted, zb4_e]
      cases c5 : rgn a ng <;> cases c6 : rg b 0 1 <;> simp_all
    · unfold f6_stand
      simp only [m1, m2, bI_z, zb1_e, v6_bad, zb2_e]
      cases c5 : rgn a ng <;> cases c6 : rg b 0 1 <;> simp_all
theorem v6_sat0 (book : Nat → Int32) {nt ng : Nat} (hn1 : nt ≤ 8) (hn2 : ng ≤ 6) (h0 : book 0 = nI nt) (h1 : book 1 = nI ng) (a_t a_hour y13 : Int32) (k : Int32 → Option (Int32 × (Nat → Int32))) : ∀ (m t n : Nat), t + m = ng → m < n → L6_sat_60 k book a_t a_hour y13 n 0 (nI t) = k 0 := by
  intro m
  induction m with
  | zero =>
    intro t n ht hm
    obtain ⟨n, rfl⟩ : ∃ m, n = m + 1 := ⟨n - 1, by omega⟩
    have e : t = ng := by omega
    subst e
    rw [L6_sat_60, h1, if_pos (nI_le (Nat.le_refl _) (by omega))]
  | succ m ih =>
    intro t n ht hm
    obtain ⟨n, rfl⟩ : ∃ m, n = m + 1 := ⟨n - 1, by omega⟩
    rw [L6_sat_60, h1, if_neg (nI_ge (by omega) (by omega)), v6_thingsIn hn1 h0, zb1_e, nI_1]
    simp only [zl_e, ↓reduceIte, ih (t + 1) n (by omega) (by omega)]
    by_cases c : nI t = y13
    · rw [if_pos c, zb1_e]
    · rw [if_neg c, zb1_e]
theorem s_sat1 {B nt ng d nm : Nat} {book : Nat → Int32} {things gifts days : Int32} {size weight sound harm in_ kind owner empty room told gate ear scale lost watch : Nat → Int32} {moments : Int32} {kept : Nat → Int32} (h : Bk B book nt ng d nm) (r : Rw things gifts days size weight sound harm in_ kind owner empty room told gate ear scale lost watch moments kept book nt ng nm) {a hr g0 : Nat} (ha : a < nt) (hh : hr < 6) (hg0 : g0 < ng) : ∀ (m t n n' : Nat), t + m = ng → m < n → m < n' → ∃ b : Bool,
    L1_isAllAsTold_3 (some (1 : Int32)) things gifts days harm in_ kind owner told watch (nI a) (nI g0) (nI hr) n (nI t) = some (bI b) ∧ (∀ k, L6_sat_60 k book (nI a) (nI hr) (nI g0) n' 1 (nI t) = k (bI b)) := by
  have hn1 := h.1.1
  have hn2 := h.1.2.1
  have h8 := pow8 hn1
  have h0 := h.2.1.1
  have h1 := h.2.1.2.1
  have rg1 : gifts = nI ng := by rw [r.1.2.1, h1]
  intro m
  induction m with
  | zero =>
    intro t n n' ht hm hm'
    obtain ⟨n, rfl⟩ : ∃ m, n = m + 1 := ⟨n - 1, by omega⟩
    obtain ⟨n', rfl⟩ : ∃ m, n' = m + 1 := ⟨n' - 1, by omega⟩
    have e : t = ng := by omega
    subst e
    refine ⟨true, ?_, fun k => ?_⟩
    · rw [L1_isAllAsTold_3, rg1, if_pos (nI_le (Nat.le_refl _) (by omega))]
      rfl
    · rw [L6_sat_60, h1, if_pos (nI_le (Nat.le_refl _) (by omega))]
      rfl
  | succ m ih =>
    intro t n n' ht hm hm'
    obtain ⟨n, rfl⟩ : ∃ m, n = m + 1 := ⟨n - 1, by omega⟩
    obtain ⟨n', rfl⟩ : ∃ m, n' = m + 1 := ⟨n' - 1, by omega⟩
    obtain ⟨b, e1, e2⟩ := ih (t + 1) n n' (by omega) (by omega) (by omega)
    have htg : t < ng := by omega
    have hS0 := z_set_lt book nt (nI t)
    obtain ⟨S, hSS⟩ : ∃ S, (if t = g0 then zSet book nt (nI t) ||| 2 ^ a else zSet book nt (nI t)) = S := ⟨_, rfl⟩
    have hS : S < 2 ^ nt := by
      rw [← hSS]
      split
      · exact z_or_lt hS0 ha
      · exact hS0
    have x1 : (if nI t = nI g0 then zb1 (f4_inside things in_ (nI t)) (fun r13 => some (r13 ||| ((1 : Int32) <<< (nI a &&& 31)))) else zb1 (f4_inside things in_ (nI t)) (fun r11 => some r11)) = some (nI S) := by
      rw [r.inside h (nI t), zb1_e, zb1_e, ← hSS]
      by_cases c : t = g0
      · rw [if_pos c, if_pos (by rw [c]), show (31 : Int32) = nI 31 from rfl, show ((1 : Int32) = nI 1) from rfl, zshl (by omega), fa_or]
      · rw [if_neg c, if_neg (nI_neq (by omega) (by omega) c)]
    have x2 : ∀ (k : Int32 → Option (Int32 × (Nat → Int32))), zb1 (f6_thingsIn book (nI t)) (fun r20 => zb1 (if nI t = nI g0 then some ((1 : Int32) <<< (nI a &&& 31)) else some (0 : Int32)) (fun v23 => zl (r20 ||| v23) k)) = k (nI S) := fun k => by
      rw [v6_thingsIn hn1 h0, zb1_e, ← hSS]
      by_cases c : t = g0
      · rw [if_pos c, if_pos (by rw [c]), show (31 : Int32) = nI 31 from rfl, show ((1 : Int32) = nI 1) from rfl, zshl (by omega), zb1_e, fa_or, zl_e]
      · rw [if_neg c, if_neg (nI_neq (by omega) (by omega) c), zb1_e, show ((0 : Int32) = nI 0) from rfl, fa_or, Nat.or_zero, zl_e]
    have wl := r.loss h htg hS hh
    have ml := h.loses htg (S := S) (by omega) hh
    have rt := (r.2.2.1 t htg).2.2.2.1
    have n1 : ¬ (1 : Int32) = 0 := by decide
    by_cases c : nI (lssN book nt d t S hr) = book (62 + t)
    · refine ⟨b, ?_, fun k => ?_⟩
      · rw [L1_isAllAsTold_3, rg1, if_neg (nI_ge (by omega) (by omega)), x1, zb1_e, wl, zb1_e, zg_n (by omega) (by omega), nI_clamp (by omega), rt, if_pos c, nI_1, ← rg1]
        exact e1
      · rw [L6_sat_60, h1, if_neg (nI_ge (by omega) (by omega)), x2, if_neg n1, ml, zb1_e, show ((62 : Int32) = nI 62) from rfl, nI_add, zg_n (by omega) (by omega), nI_clamp (by omega), if_pos c, nI_1]
        exact e2 k
    · refine ⟨false, ?_, fun k => ?_⟩
      · rw [L1_isAllAsTold_3, rg1, if_neg (nI_ge (by omega) (by omega)), x1, zb1_e, wl, zb1_e, zg_n (by omega) (by omega), nI_clamp (by omega), rt, if_neg c]
        rfl
      · rw [L6_sat_60, h1, if_neg (nI_ge (by omega) (by omega)), x2, if_neg n1, ml, zb1_e, show ((62 : Int32) = nI 62) from rfl, nI_add, zg_n (by omega) (by omega), nI_clamp (by omega), if_neg c, nI_1,
          v6_sat0 book hn1 hn2 h0 h1 _ _ _ _ m (t + 1) n' (by omega) (by omega)]
        rfl
theorem s_sat2 {B nt ng d nm : Nat} {book : Nat → Int32} {things gifts days : Int32} {size weight sound harm in_ kind owner empty room told gate ear scale lost watch : Nat → Int32} {moments : Int32} {kept : Nat → Int32} (h : Bk B book nt ng d nm) (r : Rw things gifts days size weight sound harm in_ kind owner empty room told gate ear scale lost watch moments kept book nt ng nm) {a hr : Nat} (ha : a < nt) (hh : hr < 6) : ∀ (m t n n' : Nat) (y : Int32), t + m = ng → m < n → m < n' → ∃ z : Int32,
    L1_giftsThatFit_5 (fun y9 => some y9) things gifts days harm in_ kind owner told watch (nI a) (nI hr) n y (nI t) = some z ∧ (∀ k, L6_sat_43 k book (nI a) (nI hr) n' y (nI t) = k z) := by
  have hn1 := h.1.1
  have hn2 := h.1.2.1
  have h1 := h.2.1.2.1
  have rg1 : gifts = nI ng := by rw [r.1.2.1, h1]
  intro m
  induction m with
  | zero =>
    intro t n n' y ht hm hm'
    obtain ⟨n, rfl⟩ : ∃ m, n = m + 1 := ⟨n - 1, by omega⟩
    obtain ⟨n', rfl⟩ : ∃ m, n' = m + 1 := ⟨n' - 1, by omega⟩
    have e : t = ng := by omega
    subst e
    refine ⟨y, ?_, fun k => ?_⟩
    · rw [L1_giftsThatFit_5, rg1, if_pos (nI_le (Nat.le_refl _) (by omega))]
    · rw [L6_sat_43, h1, if_pos (nI_le (Nat.le_refl _) (by omega))]
  | succ m ih =>
    intro t n n' y ht hm hm'
    obtain ⟨n, rfl⟩ : ∃ m, n = m + 1 := ⟨n - 1, by omega⟩
    obtain ⟨n', rfl⟩ : ∃ m, n' = m + 1 := ⟨n' - 1, by omega⟩
    obtain ⟨b, e1, e2⟩ := s_sat1 h r ha hh (g0 := t) (by omega) ng 0 FU FU (by omega) (by unfold FU; omega) (by unfold FU; omega)
    rw [show nI 0 = 0 from rfl] at e1 e2
    obtain ⟨z, i1, i2⟩ := ih (t + 1) n n' (if b = false then y else y ||| ((1 : Int32) <<< (nI t &&& 31))) (by omega) (by omega) (by omega)
    refine ⟨z, ?_, fun k => ?_⟩
    · rw [L1_giftsThatFit_5, rg1, if_neg (nI_ge (by omega) (by omega)), ← rg1, f1_isAllAsTold, e1, zb1_e, nI_1]
      simp only [bI_z, zl_e]
      cases b
      · exact i1
      · exact i1
    · rw [L6_sat_43, h1, if_neg (nI_ge (by omega) (by omega)), e2, nI_1]
      have i2 := i2 k
      have o : y ||| 0 = y := by simp
      simp only [bI_z, zl_e, o]
      cases b
      · exact i2
      · exact i2
theorem e_sat {B nt ng d nm : Nat} {book : Nat → Int32} {things gifts days : Int32} {size weight sound harm in_ kind owner empty room told gate ear scale lost watch : Nat → Int32} {moments : Int32} {kept : Nat → Int32} (h : Bk B book nt ng d nm) (r : Rw things gifts days size weight sound harm in_ kind owner empty room told gate ear scale lost watch moments kept book nt ng nm) (rf : Nat → Int32) (a b : Int32) : ∃ (ans : Int32) (rf' : Nat → Int32),
    f5_sat (rf 0) (rf 1) (rf 2) things gifts days harm in_ kind owner told watch a b = some (ans, rf' 0, rf' 1, rf' 2) ∧ f6_sat 0 book rf a b = some (ans, rf') := by
  have w1 := r.isThing h a
  have m1 := h.isThing a
  have hn1 := h.1.1
  have hn2 := h.1.2.1
  have bt : (true = false) = False := by simp
  by_cases k1 : rgn a nt = true ∧ rg b 0 5 = true
  · obtain ⟨c1, c2⟩ := k1
    obtain ⟨t, ht, rfl⟩ := rgn_of (by omega) c1
    obtain ⟨hr, _, hh, rfl⟩ := rg_of (by omega) c2
    have ri := (r.2.1 t ht).2.2.2.2
    by_cases c3 : book (36 + t) = -1
    · obtain ⟨z, e1, e2⟩ := s_sat2 h r ht (hr := hr) (by omega) ng 0 FU FU 0 (by omega) (by unfold FU; omega) (by unfold FU; omega)
      rw [show nI 0 = 0 from rfl] at e1 e2
      refine ⟨z, rf, ?_, ?_⟩
      · unfold f5_sat f1_giftsThatFit
        simp only [w1, c1, c2, bI_z, zb1_e, v5_isHour, bt, if_false]
        rw [zg_n (by omega) (by omega), nI_clamp (by omega), ri, if_pos c3, e1]
        rfl
      · unfold f6_sat
        simp only [m1, c1, c2, bI_z, zb1_e, v6_isHour, bt, if_false]
        rw [show ((36 : Int32) = nI 36) from rfl, nI_add, zg_n (by omega) (by omega), nI_clamp (by omega), if_pos c3, e2]
    · refine ⟨-3, cntd 0 rf (-3), ?_, ?_⟩
      · unfold f5_sat
        simp only [w1, c1, c2, bI_z, zb1_e, v5_isHour, bt, if_false]
        rw [zg_n (by omega) (by omega), nI_clamp (by omega), ri, if_neg c3, v5_counted]
        rfl
      · unfold f6_sat
        simp only [m1, c1, c2, bI_z, zb1_e, v6_isHour, bt, if_false]
        rw [show ((36 : Int32) = nI 36) from rfl, nI_add, zg_n (by omega) (by omega), nI_clamp (by omega), if_neg c3, v6_no]
        rfl
  · refine ⟨-2, cntd 0 rf (-2), ?_, ?_⟩
    · unfold f5_sat
      simp only [w1, v5_isHour, bI_z, zb1_e, v5_counted, zb4_e]
      cases c5 : rgn a nt <;> cases c6 : rg b 0 5 <;> simp_all
    · unfold f6_sat
      simp only [m1, v6_isHour, bI_z, zb1_e, v6_bad, zb2_e]
      cases c5 : rgn a nt <;> cases c6 : rg b 0 5 <;> simp_all
