/-! ===== pure side 29: belief ===== -/
theorem b_tail {B nt ng d nm : Nat} {book : Nat → Int32} (h : Bk B book nt ng d nm) {M : Nat} (hM : M < 2 ^ nt) (a_g a_c a_h : Int32) (y1 y2 : Int64) (k : Int64 → Int64 → Option (Int32 × Int64 × Int64 × (Nat → Int32))) : ∀ (m t n : Nat), t + m = 2 ^ nt → m < n → M < t → L6_belief_47 k book a_g a_c a_h (nI M) n y1 y2 (nI t) = k y1 y2 := by
  have hn1 := h.1.1
  have h8 := pow8 hn1
  have e31 : (1 : Int32) <<< (nI nt &&& 31) = nI (2 ^ nt) := zshl (by omega)
  intro m
  induction m with
  | zero =>
    intro t n ht hm hMt
    obtain ⟨n, rfl⟩ : ∃ m, n = m + 1 := ⟨n - 1, by omega⟩
    rw [L6_belief_47, h.2.1.1, e31, if_pos (nI_le (by omega) (by omega))]
  | succ m ih =>
    intro t n ht hm hMt
    obtain ⟨n, rfl⟩ : ∃ m, n = m + 1 := ⟨n - 1, by omega⟩
    rw [L6_belief_47, h.2.1.1, e31, if_neg (nI_ge (by omega) (by omega)), if_neg (fun e => absurd (sub_le (by omega) (by omega) e) (by omega)), nI_1]
    exact ih (t + 1) n (by omega) (by omega) (by omega)
theorem b_sim1 {B nt ng d nm : Nat} {book : Nat → Int32} {things gifts days : Int32} {size weight sound harm in_ kind owner empty room told gate ear scale lost watch : Nat → Int32} {moments : Int32} {kept : Nat → Int32} (h : Bk B book nt ng d nm) (r : Rw things gifts days size weight sound harm in_ kind owner empty room told gate ear scale lost watch moments kept book nt ng nm) {g M c : Nat} (hM : M < 2 ^ nt) (hg : g < ng) (hc : c ≤ 10) (a_h : Int32) (e : Nat) : ∀ (m t n n' s : Nat), t + m = M + 1 → m < n → 2 ^ nt - t < n' → s ≤ t * 100000000 → 0 < t → ∃ z, z ≤ 25600000000 ∧
    (∀ k, L1_waysHeard_13 k sound kind owner ear (nI g) (nI c) a_h (nI M) n (lN s) (nI t) = k (lN z)) ∧ (∀ k, L6_belief_47 k book (nI g) (nI c) a_h (nI M) n' (lN s) (lN e) (nI t) = k (lN z) (lN e)) := by
  have hn1 := h.1.1
  have hn2 := h.1.2.1
  have h8 := pow8 hn1
  have e31 : (1 : Int32) <<< (nI nt &&& 31) = nI (2 ^ nt) := zshl (by omega)
  intro m
  induction m with
  | zero =>
    intro t n n' s ht hm hm' hs h0
    refine ⟨s, by omega, fun k => ?_, fun k => ?_⟩
    · obtain ⟨n, rfl⟩ : ∃ m, n = m + 1 := ⟨n - 1, by omega⟩
      rw [L1_waysHeard_13, if_pos ((nI_ltI (by omega) (by omega)).mpr (by omega))]
    · exact b_tail h hM _ _ _ _ _ k (2 ^ nt - t) t n' (by omega) (by omega) (by omega)
  | succ m ih =>
    intro t n n' s ht hm hm' hs h0
    obtain ⟨n, rfl⟩ : ∃ m, n = m + 1 := ⟨n - 1, by omega⟩
    obtain ⟨n', rfl⟩ : ∃ m, n' = m + 1 := ⟨n' - 1, by omega⟩
    have ht2 : t < 2 ^ nt := by omega
    have wh := r.isHeard h hg ht2
    have mh := h.isHeard hg (S := t) (by omega)
    have g1 : ¬ nI M < nI t := fun e => absurd ((nI_ltI (by omega) (by omega)).mp e) (by omega)
    have hwl : wyN M t c 8 ≤ 100000000 := wyN_le hc 8
    have wy := v1_waysOf (M := M) (S := t) (c := c) (by omega) (by omega) hc
    have w8 : wyN M t c 8 = wyN M t c nt := by
      have := wyN_hi (S := t) (c := c) hM (8 - nt)
      rw [show nt + (8 - nt) = 8 by omega] at this
      exact this
    by_cases v1 : (nI t &&& (nI M ^^^ (-1 : Int32))) = 0
    · by_cases v2 : bI (hrd book nt g t) = a_h
      · obtain ⟨z, hz, f1, f2⟩ := ih (t + 1) n n' (s + wyN M t c 8) (by omega) (by omega) (by omega) (by omega) (by omega)
        refine ⟨z, hz, fun k => ?_, fun k => ?_⟩
        · rw [L1_waysHeard_13, if_neg g1, if_pos v1, wh, zb1_e, if_pos v2, wy, zb1_e, zl_e, lN_add, nI_1]
          exact f1 k
        · rw [L6_belief_47, h.2.1.1, e31, if_neg (nI_ge (by omega) (by omega)), if_pos v1, mh, zb1_e, if_pos v2, show (1 : Int64) = lN (wyN M t c 0) from rfl, show (0 : Int32) = nI 0 from rfl,
            b_87 hn1 h.2.1.1 (by omega) (by omega) hc _ nt 0 FU (by omega) (by unfold FU; omega), zl_e, lN_add, ← w8, nI_1, if_neg (nI_neq (by omega) (by omega) (by omega)), zl_e, show (0 : Int64) = lN 0 from rfl, lN_add, lN_add, Nat.add_zero]
          exact f2 k
      · obtain ⟨z, hz, f1, f2⟩ := ih (t + 1) n n' s (by omega) (by omega) (by omega) (Nat.le_trans hs (Nat.mul_le_mul_right _ (Nat.le_succ t))) (by omega)
        refine ⟨z, hz, fun k => ?_, fun k => ?_⟩
        · rw [L1_waysHeard_13, if_neg g1, if_pos v1, wh, zb1_e, if_neg v2, nI_1]
          exact f1 k
        · rw [L6_belief_47, h.2.1.1, e31, if_neg (nI_ge (by omega) (by omega)), if_pos v1, mh, zb1_e, if_neg v2, nI_1]
          exact f2 k
    · obtain ⟨z, hz, f1, f2⟩ := ih (t + 1) n n' s (by omega) (by omega) (by omega) (Nat.le_trans hs (Nat.mul_le_mul_right _ (Nat.le_succ t))) (by omega)
      refine ⟨z, hz, fun k => ?_, fun k => ?_⟩
      · rw [L1_waysHeard_13, if_neg g1, if_neg v1, nI_1]
        exact f1 k
      · rw [L6_belief_47, h.2.1.1, e31, if_neg (nI_ge (by omega) (by omega)), if_neg v1, nI_1]
        exact f2 k
theorem b_sim {B nt ng d nm : Nat} {book : Nat → Int32} {things gifts days : Int32} {size weight sound harm in_ kind owner empty room told gate ear scale lost watch : Nat → Int32} {moments : Int32} {kept : Nat → Int32} (h : Bk B book nt ng d nm) (r : Rw things gifts days size weight sound harm in_ kind owner empty room told gate ear scale lost watch moments kept book nt ng nm) {g M c : Nat} (hM : M < 2 ^ nt) (hg : g < ng) (hc : c ≤ 10) (a_h : Int32) (n n' : Nat) (hn : M + 5 < n) (hn' : 2 ^ nt + 5 < n') : ∃ z, z ≤ 25600000000 ∧
    (∀ k, L1_waysHeard_13 k sound kind owner ear (nI g) (nI c) a_h (nI M) n (lN 0) (nI 0) = k (lN z)) ∧ (∀ k, L6_belief_47 k book (nI g) (nI c) a_h (nI M) n' (lN 0) (lN 0) (nI 0) = k (lN z) (lN (if bI (hrd book nt g 0) = a_h then wyN M 0 c 8 else 0))) := by
  have hn1 := h.1.1
  have hn2 := h.1.2.1
  have h8 := pow8 hn1
  have e31 : (1 : Int32) <<< (nI nt &&& 31) = nI (2 ^ nt) := zshl (by omega)
  obtain ⟨n, rfl⟩ : ∃ m, n = m + 1 := ⟨n - 1, by omega⟩
  obtain ⟨n', rfl⟩ : ∃ m, n' = m + 1 := ⟨n' - 1, by omega⟩
  have ht2 : 0 < 2 ^ nt := by omega
  have wh := r.isHeard h hg ht2
  have mh := h.isHeard hg (S := 0) (by omega)
  have g1 : ¬ nI M < nI 0 := fun e => absurd ((nI_ltI (by omega) (by omega)).mp e) (by omega)
  have hwl : wyN M 0 c 8 ≤ 100000000 := wyN_le hc 8
  have wy := v1_waysOf (M := M) (S := 0) (c := c) (by omega) (by omega) hc
  have w8 : wyN M 0 c 8 = wyN M 0 c nt := by
    have := wyN_hi (S := 0) (c := c) hM (8 - nt)
    rw [show nt + (8 - nt) = 8 by omega] at this
    exact this
  have v1 : (nI 0 &&& (nI M ^^^ (-1 : Int32))) = 0 := Int32.zero_and
  by_cases v2 : bI (hrd book nt g 0) = a_h
  · obtain ⟨z, hz, f1, f2⟩ := b_sim1 h r hM hg hc a_h (wyN M 0 c 8) M 1 n n' (wyN M 0 c 8) (by omega) (by omega) (by omega) (by omega) (by omega)
    refine ⟨z, hz, fun k => ?_, fun k => ?_⟩
    · rw [L1_waysHeard_13, if_neg g1, if_pos v1, wh, zb1_e, if_pos v2, wy, zb1_e, zl_e, lN_add, nI_1, Nat.zero_add]
      exact f1 k
    · rw [L6_belief_47, h.2.1.1, e31, if_neg (nI_ge (by omega) (by omega)), if_pos v1, mh, zb1_e, if_pos v2, show (1 : Int64) = lN (wyN M 0 c 0) from rfl, show (0 : Int32) = nI 0 from rfl,
        b_87 hn1 h.2.1.1 (by omega) (by omega) hc _ nt 0 FU (by omega) (by unfold FU; omega), zl_e, lN_add, ← w8, nI_1, if_pos rfl, zl_e, if_pos v2, Nat.zero_add]
      exact f2 k
  · obtain ⟨z, hz, f1, f2⟩ := b_sim1 h r hM hg hc a_h 0 M 1 n n' 0 (by omega) (by omega) (by omega) (by omega) (by omega)
    refine ⟨z, hz, fun k => ?_, fun k => ?_⟩
    · rw [L1_waysHeard_13, if_neg g1, if_pos v1, wh, zb1_e, if_neg v2, nI_1]
      exact f1 k
    · rw [L6_belief_47, h.2.1.1, e31, if_neg (nI_ge (by omega) (by omega)), if_pos v1, mh, zb1_e, if_neg v2, nI_1, if_neg v2]
      exact f2 k
theorem e_belief {B nt ng d nm : Nat} {book : Nat → Int32} {things gifts days : Int32} {size weight sound harm in_ kind owner empty room told gate ear scale lost watch : Nat → Int32} {moments : Int32} {kept : Nat → Int32} (h : Bk B book nt ng d nm) (r : Rw things gifts days size weight sound harm in_ kind owner empty room told gate ear scale lost watch moments kept book nt ng nm) (rf : Nat → Int32) (fa fb : Int64) (a b hd : Int32) : ∃ (ans : Int32) (fa' fb' : Int64) (rf' : Nat → Int32),
    f5_belief fa fb (rf 0) (rf 1) (rf 2) things gifts sound in_ kind owner ear a b hd = some (ans, fa', fb', rf' 0, rf' 1, rf' 2) ∧ f6_belief 0 fa fb book rf a b hd = some (ans, fa', fb', rf') := by
  have w1 := r.isGift h a
  have m1 := h.isGift a
  have hn1 := h.1.1
  have hn2 := h.1.2.1
  have h8 := pow8 hn1
  have w3 : f5_within b 0 10 = some (bI (rg b 0 10)) := v5w (by decide) (by decide)
  have m3 : f6_in b.toInt64 0 10 = some (bI (rg b 0 10)) := v6i (by decide) (by decide)
  by_cases k1 : rgn a ng = true ∧ rg b 0 10 = true
  · obtain ⟨c1, c2⟩ := k1
    obtain ⟨g, hg, rfl⟩ := rgn_of (by omega) c1
    obtain ⟨c, _, hc, rfl⟩ := rg_of (by omega) c2
    have i1 := r.inside h (-1)
    have i2 := r.inside h (nI g)
    have j1 := v6_thingsIn hn1 h.2.1.1 (-1)
    have j2 := v6_thingsIn hn1 h.2.1.1 (nI g)
    have hM : zSet book nt (-1) ||| zSet book nt (nI g) < 2 ^ nt := Nat.or_lt_two_pow (z_set_lt _ _ _) (z_set_lt _ _ _)
    obtain ⟨M, hMe⟩ : ∃ M, zSet book nt (-1) ||| zSet book nt (nI g) = M := ⟨_, rfl⟩
    rw [hMe] at hM
    have mb : f4_mayBeIn things in_ (nI g) = some (nI M) := by
      unfold f4_mayBeIn
      rw [i1, zb1_e, i2, zb1_e, fa_or, hMe]
      rfl
    obtain ⟨z, hz, f1, f2⟩ := b_sim h r hM hg hc hd FU FU (by unfold FU; omega) (by unfold FU; omega)
    rw [show nI 0 = (0 : Int32) from rfl, show lN 0 = (0 : Int64) from rfl] at f1 f2
    obtain ⟨E, hE⟩ : ∃ E, (if bI (hrd book nt g 0) = hd then wyN M 0 c 8 else 0) = E := ⟨_, rfl⟩
    have hEl : E ≤ 100000000 := by
      have : wyN M 0 c 8 ≤ 100000000 := wyN_le hc 8
      rw [← hE]
      split <;> omega
    rw [hE] at f2
    have we : f1_waysEmpty things sound in_ kind owner ear (nI g) (nI c) hd = some (lN E) := by
      unfold f1_waysEmpty
      rw [show (0 : Int32) = nI 0 from rfl, r.isHeard h hg (S := 0) (by have := Nat.two_pow_pos nt; omega), zb1_e, mb, zb1_e, v1_waysOf (by omega) (by omega) hc, zb1_e, ← hE]
      split <;> rfl
    have wh : f1_waysHeard things sound in_ kind owner ear (nI g) (nI c) hd = some (lN z) := by
      unfold f1_waysHeard
      rw [mb, zb1_e, f1]
    have g5 : f5_belief fa fb (rf 0) (rf 1) (rf 2) things gifts sound in_ kind owner ear (nI g) (nI c) hd = (if 0 < (lg_cmp (lN z) (0 : Int64)) then zb1 (f1_waysEmpty things sound in_ kind owner ear (nI g) (nI c) hd) (fun r15 => zb2 (f5_keepFraction fa fb r15 (lN z)) (fun fabove_17 fbelow_18 => some ((1 : Int32), fabove_17, fbelow_18, rf 0, rf 1, rf 2))) else zb4 (f5_counted (rf 0) (rf 1) (rf 2) (-3 : Int32)) (fun r20 bads_21 noes_22 fulls_23 => some (r20, fa, fb, bads_21, noes_22, fulls_23))) := by
      unfold f5_belief
      rw [w1, c1, zb1_e, if_neg (by decide), w3, c2, zb1_e, if_neg (by decide), wh, zb1_e]
    have g6 : f6_belief 0 fa fb book rf (nI g) (nI c) hd = (if (lg_cmp (lN z) (0 : Int64)) = 0 then zb2 (f6_no 0 rf) (fun r47 refused_48 => some (r47, fa, fb, refused_48)) else zb1 (f6_divisor (lN E) (lN z)) (fun r41 => zdl r41 (zl (lN E / r41) (fun x44 => zdl r41 (zl (lN z / r41) (fun x46 => some ((1 : Int32), x44, x46, rf))))))) := by
      unfold f6_belief
      rw [m1, c1, zb1_e, if_neg (by decide), m3, c2, zb1_e, if_neg (by decide), j1, zb1_e, j2, zb1_e, fa_or, hMe, zl_e, f2]
    rw [g5, g6]
    have lz : (lg_cmp (lN z) (0 : Int64) = 0) ↔ z = 0 := by
      rw [lg_cmp_eq, show (0 : Int64) = lN 0 from rfl, pk_lEQ (by omega) (by omega)]
    have lp : (0 < lg_cmp (lN z) (0 : Int64)) ↔ 0 < z := by
      rw [lg_cmp_gt, show (0 : Int64) = lN 0 from rfl, pk_lLT (by omega) (by omega)]
    by_cases e0 : z = 0
    · refine ⟨-3, fa, fb, cntd 0 rf (-3), ?_, ?_⟩
      · rw [if_neg (fun e => absurd (lp.mp e) (by omega)), v5_counted]
        rfl
      · rw [if_pos (lz.mpr e0), v6_no]
        rfl
    · obtain ⟨q1, q2⟩ := v_gcd (a := E) (b := z) (by omega) (by omega)
      have gp : 0 < Nat.gcd E z := Nat.gcd_pos_of_pos_right _ (by omega)
      have gl : Nat.gcd E z ≤ z := Nat.gcd_le_right _ (by omega)
      have gn : ¬ lN (Nat.gcd E z) = 0 := fun e => absurd ((pk_lEQ (b := 0) (by omega) (by omega)).mp e) (by omega)
      refine ⟨1, lN E / lN (Nat.gcd E z), lN z / lN (Nat.gcd E z), rf, ?_, ?_⟩
      · rw [if_pos (lp.mpr (by omega)), we, zb1_e]
        unfold f5_keepFraction
        rw [q1, zb1_e, if_neg (fun e => by rw [lg_cmp_le, show (0 : Int64) = lN 0 from rfl, pk_lLE (by omega) (by omega)] at e; omega), zdl_e gn, zl_e, zdl_e gn, zl_e, zb2_e]
      · rw [if_neg (fun e => e0 (lz.mp e)), q2, zb1_e, zdl_e gn, zl_e, zdl_e gn, zl_e]
  · refine ⟨-2, fa, fb, cntd 0 rf (-2), ?_, ?_⟩
    · unfold f5_belief
      simp only [w1, w3, bI_z, zb1_e, v5_counted, zb4_e]
      cases c5 : rgn a ng <;> cases c6 : rg b 0 10 <;> simp_all
    · unfold f6_belief
      simp only [m1, m3, bI_z, zb1_e, v6_bad, zb2_e]
      cases c5 : rgn a ng <;> cases c6 : rg b 0 10 <;> simp_all
