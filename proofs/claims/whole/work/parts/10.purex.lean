/-! ===== pure side 34: digest ===== -/
theorem e_cnt {B nt ng d nm : Nat} {book : Nat → Int32} {things gifts days : Int32} {size weight sound harm in_ kind owner empty room told gate ear scale lost watch : Nat → Int32} {moments : Int32} {kept : Nat → Int32} (h : Bk B book nt ng d nm) (r : Rw things gifts days size weight sound harm in_ kind owner empty room told gate ear scale lost watch moments kept book nt ng nm) (tl : Int32) {j : Nat} (hj : j ≤ 5) : ∃ v, f5_howMany things gifts days in_ moments tl (nI j) = some v ∧ f6_countOf tl book (nI j) = some v := by
  obtain ⟨v, rf, e1, e2⟩ := e_count h r (fun _ => 0) tl (nI j)
  have w3 : f5_within (nI j) 0 5 = some (bI (rg (nI j) 0 5)) := v5w (by decide) (by decide)
  have m3 : f6_in (nI j).toInt64 0 5 = some (bI (rg (nI j) 0 5)) := v6i (by decide) (by decide)
  have c : rg (nI j) 0 5 = true := by
    unfold rg
    rw [nI_toInt (by omega)]
    exact decide_eq_true (by omega)
  unfold f5_count at e1
  unfold f6_count at e2
  rw [w3, c, zb1_e, if_neg (by decide)] at e1
  rw [m3, c, zb1_e, if_neg (by decide)] at e2
  cases q1 : f5_howMany things gifts days in_ moments tl (nI j)
  · rw [q1] at e1
    exact absurd e1 (by simp [zb1])
  · cases q2 : f6_countOf tl book (nI j)
    · rw [q2] at e2
      exact absurd e2 (by simp [zb1])
    · rw [q1, zb1_e] at e1
      rw [q2, zb1_e] at e2
      refine ⟨v, ?_, ?_⟩
      · have := Option.some.inj e1
        rw [(Prod.mk.inj this).1]
      · have := Option.some.inj e2
        rw [(Prod.mk.inj this).1]
def dig (book : Nat → Int32) (h0 : Int64) (x : Nat) : Nat → Int64
  | 0 => h0
  | n + 1 => (31 : Int64) * dig book h0 x n + (book (x + n)).toInt64
theorem v6_mix6 {book : Nat → Int32} {h0 : Int64} {x N : Nat} (hx : x + N ≤ 230) : ∀ (m t n : Nat), t + m = N → m < n → L6_mixed_6 (fun y7 => some y7) book (nI x) (nI N) n (dig book h0 x t) (nI t) = some (dig book h0 x N) := by
  intro m
  induction m with
  | zero =>
    intro t n ht hm
    obtain ⟨n, rfl⟩ : ∃ m, n = m + 1 := ⟨n - 1, by omega⟩
    have e : t = N := by omega
    rw [L6_mixed_6, e, if_pos (nI_le (Nat.le_refl _) (by omega))]
  | succ m ih =>
    intro t n ht hm
    obtain ⟨n, rfl⟩ : ∃ m, n = m + 1 := ⟨n - 1, by omega⟩
    rw [L6_mixed_6, if_neg (nI_ge (by omega) (by omega)), nI_add, zg_n (by omega) (by decide), zl_e, nI_clamp (by omega), nI_1]
    exact ih (t + 1) n (by omega) (by omega)
theorem v6_mixed {book : Nat → Int32} {h0 : Int64} {x N : Nat} (hx : x + N ≤ 230) : f6_mixed book h0 (nI x) (nI N) = some (dig book h0 x N) :=
  v6_mix6 hx N 0 FU (by omega) (by unfold FU; omega)
theorem d_six {B nt ng d nm : Nat} {book : Nat → Int32} {things gifts days : Int32} {size weight sound harm in_ kind owner empty room told gate ear scale lost watch : Nat → Int32} {moments : Int32} {kept : Nat → Int32} (h : Bk B book nt ng d nm) (r : Rw things gifts days size weight sound harm in_ kind owner empty room told gate ear scale lost watch moments kept book nt ng nm) (tl : Int32) : ∀ (m t n n' : Nat) (s : Int64), t + m = 6 → m < n → m < n' → ∃ z : Int64, (∀ k, L5_digest_6 k things gifts days in_ moments tl n s (nI t) = k z) ∧ (∀ k, L6_digest_6 k tl book n' s (nI t) = k z) := by
  intro m
  induction m with
  | zero =>
    intro t n n' s ht hm hm'
    obtain ⟨n, rfl⟩ : ∃ m, n = m + 1 := ⟨n - 1, by omega⟩
    obtain ⟨n', rfl⟩ : ∃ m, n' = m + 1 := ⟨n' - 1, by omega⟩
    have e : t = 6 := by omega
    subst e
    exact ⟨s, fun k => by rw [L5_digest_6, if_pos (by decide)], fun k => by rw [L6_digest_6, if_pos (by decide)]⟩
  | succ m ih =>
    intro t n n' s ht hm hm'
    obtain ⟨n, rfl⟩ : ∃ m, n = m + 1 := ⟨n - 1, by omega⟩
    obtain ⟨n', rfl⟩ : ∃ m, n' = m + 1 := ⟨n' - 1, by omega⟩
    obtain ⟨v, e1, e2⟩ := e_cnt h r tl (j := t) (by omega)
    obtain ⟨z, f1, f2⟩ := ih (t + 1) n n' ((31 : Int64) * s + v.toInt64) (by omega) (by omega) (by omega)
    refine ⟨z, fun k => ?_, fun k => ?_⟩
    · rw [L5_digest_6, if_neg (show ¬ (5 : Int32) < nI t from fun e => absurd ((nI_ltI (a := 5) (by omega) (by omega)).mp e) (by omega)), e1, zb1_e, zl_e, nI_1]
      exact f1 k
    · rw [L6_digest_6, if_neg (show ¬ (6 : Int32) ≤ nI t from nI_ge (b := 6) (by omega) (by omega)), e2, zb1_e, zl_e, nI_1]
      exact f2 k
theorem d_things {B nt ng d nm : Nat} {book : Nat → Int32} {things gifts days : Int32} {size weight sound harm in_ kind owner empty room told gate ear scale lost watch : Nat → Int32} {moments : Int32} {kept : Nat → Int32} (h : Bk B book nt ng d nm) (r : Rw things gifts days size weight sound harm in_ kind owner empty room told gate ear scale lost watch moments kept book nt ng nm) : ∀ (m t n n' : Nat) (s : Int64), t + m = nt → m < n → m < n' → ∃ z : Int64, (∀ k, L4_digestThings_5 k things size weight sound harm in_ n s (nI t) = k z) ∧ (∀ k, L6_digest_33 k book n' s (nI t) = k z) := by
  have hn1 := h.1.1
  have h0 := h.2.1.1
  have rt : things = nI nt := by rw [r.1.1, h0]
  intro m
  induction m with
  | zero =>
    intro t n n' s ht hm hm'
    obtain ⟨n, rfl⟩ : ∃ m, n = m + 1 := ⟨n - 1, by omega⟩
    obtain ⟨n', rfl⟩ : ∃ m, n' = m + 1 := ⟨n' - 1, by omega⟩
    have e : t = nt := by omega
    subst e
    exact ⟨s, fun k => by rw [L4_digestThings_5, rt, if_pos (nI_le (Nat.le_refl _) (by omega))], fun k => by rw [L6_digest_33, h0, if_pos (nI_le (Nat.le_refl _) (by omega))]⟩
  | succ m ih =>
    intro t n n' s ht hm hm'
    obtain ⟨n, rfl⟩ : ∃ m, n = m + 1 := ⟨n - 1, by omega⟩
    obtain ⟨n', rfl⟩ : ∃ m, n' = m + 1 := ⟨n' - 1, by omega⟩
    obtain ⟨q1, q2, q3, q4, q5⟩ := r.2.1 t (by omega)
    obtain ⟨z, f1, f2⟩ := ih (t + 1) n n' ((31 : Int64) * dig book s (4 + 4 * t) 4 + (book (36 + t)).toInt64) (by omega) (by omega) (by omega)
    refine ⟨z, fun k => ?_, fun k => ?_⟩
    · rw [L4_digestThings_5, rt, if_neg (nI_ge (by omega) (by omega)), zg_n (by omega) (by decide), zl_e, zg_n (by omega) (by decide), zl_e, zg_n (by omega) (by decide), zl_e, zg_n (by omega) (by decide), zl_e, zg_n (by omega) (by decide), zl_e, nI_clamp (by omega), q1, q2, q3, q4, q5, nI_1, ← rt]
      exact f1 k
    · rw [L6_digest_33, h0, if_neg (nI_ge (by omega) (by omega)), show (4 : Int32) = nI 4 from rfl, pk_mul, nI_add, v6_mixed (by omega), zb1_e, show (36 : Int32) = nI 36 from rfl, nI_add, zg_n (by omega) (by decide), zl_e, nI_clamp (by omega), nI_1]
      exact f2 k
theorem d_gifts {B nt ng d nm : Nat} {book : Nat → Int32} {things gifts days : Int32} {size weight sound harm in_ kind owner empty room told gate ear scale lost watch : Nat → Int32} {moments : Int32} {kept : Nat → Int32} (h : Bk B book nt ng d nm) (r : Rw things gifts days size weight sound harm in_ kind owner empty room told gate ear scale lost watch moments kept book nt ng nm) : ∀ (m t n n' : Nat) (s : Int64), t + m = ng → m < n → m < n' → ∃ z : Int64, (∀ k, L4_digestGifts_5 k gifts kind owner empty room told n s (nI t) = k z) ∧ (∀ k, L6_digest_78 k book n' s (nI t) = k z) := by
  have hn1 := h.1.2.1
  have h0 := h.2.1.2.1
  have rt : gifts = nI ng := by rw [r.1.2.1, h0]
  intro m
  induction m with
  | zero =>
    intro t n n' s ht hm hm'
    obtain ⟨n, rfl⟩ : ∃ m, n = m + 1 := ⟨n - 1, by omega⟩
    obtain ⟨n', rfl⟩ : ∃ m, n' = m + 1 := ⟨n' - 1, by omega⟩
    have e : t = ng := by omega
    subst e
    exact ⟨s, fun k => by rw [L4_digestGifts_5, rt, if_pos (nI_le (Nat.le_refl _) (by omega))], fun k => by rw [L6_digest_78, h0, if_pos (nI_le (Nat.le_refl _) (by omega))]⟩
  | succ m ih =>
    intro t n n' s ht hm hm'
    obtain ⟨n, rfl⟩ : ∃ m, n = m + 1 := ⟨n - 1, by omega⟩
    obtain ⟨n', rfl⟩ : ∃ m, n' = m + 1 := ⟨n' - 1, by omega⟩
    obtain ⟨q1, q2, q3, q4, q5⟩ := r.2.2.1 t (by omega)
    obtain ⟨z, f1, f2⟩ := ih (t + 1) n n' ((31 : Int64) * ((31 : Int64) * ((31 : Int64) * ((31 : Int64) * ((31 : Int64) * s + (book (44 + t)).toInt64) + (book (68 + t)).toInt64) + (book (50 + t)).toInt64) + (book (56 + t)).toInt64) + (book (62 + t)).toInt64) (by omega) (by omega) (by omega)
    refine ⟨z, fun k => ?_, fun k => ?_⟩
    · rw [L4_digestGifts_5, rt, if_neg (nI_ge (by omega) (by omega)), zg_n (by omega) (by decide), zl_e, zg_n (by omega) (by decide), zl_e, zg_n (by omega) (by decide), zl_e, zg_n (by omega) (by decide), zl_e, zg_n (by omega) (by decide), zl_e, nI_clamp (by omega), q1, q2, q3, q4, q5, nI_1, ← rt]
      exact f1 k
    · rw [L6_digest_78, h0, if_neg (nI_ge (by omega) (by omega)), show (44 : Int32) = nI 44 from rfl, show (68 : Int32) = nI 68 from rfl, show (50 : Int32) = nI 50 from rfl, show (56 : Int32) = nI 56 from rfl, show (62 : Int32) = nI 62 from rfl, nI_add, nI_add, nI_add, nI_add, nI_add, zg_n (by omega) (by decide), zg_n (by omega) (by decide), zl_e, zg_n (by omega) (by decide), zg_n (by omega) (by decide), zg_n (by omega) (by decide), zl_e, nI_clamp (by omega), nI_clamp (by omega), nI_clamp (by omega), nI_clamp (by omega), nI_clamp (by omega), nI_1]
      exact f2 k
theorem d_59 {B nt ng d nm : Nat} {book : Nat → Int32} {things gifts days : Int32} {size weight sound harm in_ kind owner empty room told gate ear scale lost watch : Nat → Int32} {moments : Int32} {kept : Nat → Int32} (h : Bk B book nt ng d nm) (r : Rw things gifts days size weight sound harm in_ kind owner empty room told gate ear scale lost watch moments kept book nt ng nm) {c : Nat} (hc : c < 2) (s : Int64) (k : Int64 → Option Int64) : ∀ (m t n : Nat), t + m = 6 → m < n → L4_digestCities_59 k watch (nI c) n (dig book s (80 + 6 * c) t) (nI t) = k (dig book s (80 + 6 * c) 6) := by
  intro m
  induction m with
  | zero =>
    intro t n ht hm
    obtain ⟨n, rfl⟩ : ∃ m, n = m + 1 := ⟨n - 1, by omega⟩
    have e : t = 6 := by omega
    subst e
    rw [L4_digestCities_59, if_pos (by decide)]
  | succ m ih =>
    intro t n ht hm
    obtain ⟨n, rfl⟩ : ∃ m, n = m + 1 := ⟨n - 1, by omega⟩
    have i1 := ih (t + 1) n (by omega) (by omega)
    have q := r.2.2.2.2.1 (c * 6 + t) (by omega)
    rw [show 80 + (c * 6 + t) = 80 + 6 * c + t by omega] at q
    rw [L4_digestCities_59, if_neg (show ¬ (6 : Int32) ≤ nI t from nI_ge (b := 6) (by omega) (by omega)), show (6 : Int32) = nI 6 from rfl, pk_mul, nI_add, zg_n (by omega) (by decide), zl_e, nI_clamp (by omega), q, nI_1]
    exact i1
theorem d_cities {B nt ng d nm : Nat} {book : Nat → Int32} {things gifts days : Int32} {size weight sound harm in_ kind owner empty room told gate ear scale lost watch : Nat → Int32} {moments : Int32} {kept : Nat → Int32} (h : Bk B book nt ng d nm) (r : Rw things gifts days size weight sound harm in_ kind owner empty room told gate ear scale lost watch moments kept book nt ng nm) : ∀ (m t n n' : Nat) (s : Int64), t + m = 2 → m < n → m < n' → ∃ z : Int64, (∀ k, L4_digestCities_5 k gate ear scale lost watch n s (nI t) = k z) ∧ (∀ k, L6_digest_175 k book n' s (nI t) = k z) := by
  intro m
  induction m with
  | zero =>
    intro t n n' s ht hm hm'
    obtain ⟨n, rfl⟩ : ∃ m, n = m + 1 := ⟨n - 1, by omega⟩
    obtain ⟨n', rfl⟩ : ∃ m, n' = m + 1 := ⟨n' - 1, by omega⟩
    have e : t = 2 := by omega
    subst e
    exact ⟨s, fun k => by rw [L4_digestCities_5, if_pos (by decide)], fun k => by rw [L6_digest_175, if_pos (by decide)]⟩
  | succ m ih =>
    intro t n n' s ht hm hm'
    obtain ⟨n, rfl⟩ : ∃ m, n = m + 1 := ⟨n - 1, by omega⟩
    obtain ⟨n', rfl⟩ : ∃ m, n' = m + 1 := ⟨n' - 1, by omega⟩
    obtain ⟨q1, q2, q3, q4⟩ := r.2.2.2.1 t (by omega)
    obtain ⟨z, f1, f2⟩ := ih (t + 1) n n' ((31 : Int64) * dig book (dig book s (74 + 3 * t) 3) (80 + 6 * t) 6 + (book (92 + t)).toInt64) (by omega) (by omega) (by omega)
    refine ⟨z, fun k => ?_, fun k => ?_⟩
    · have e3 : (31 : Int64) * ((31 : Int64) * ((31 : Int64) * s + (book (74 + 3 * t)).toInt64) + (book (74 + 3 * t + 1)).toInt64) + (book (74 + 3 * t + 2)).toInt64 = dig book (dig book s (74 + 3 * t) 3) (80 + 6 * t) 0 := rfl
      rw [L4_digestCities_5, if_neg (show ¬ (2 : Int32) ≤ nI t from nI_ge (b := 2) (by omega) (by omega)), zg_n (by omega) (by decide), zl_e, zg_n (by omega) (by decide), zl_e, zg_n (by omega) (by decide), zl_e, nI_clamp (by omega), q1, q2, q3, e3, show (0 : Int32) = nI 0 from rfl,
        d_59 h r (c := t) (by omega) _ _ 6 0 FU (by omega) (by unfold FU; omega), zg_n (by omega) (by decide), zl_e, q4, nI_1]
      exact f1 k
    · rw [L6_digest_175, if_neg (show ¬ (2 : Int32) ≤ nI t from nI_ge (b := 2) (by omega) (by omega)), show (3 : Int32) = nI 3 from rfl, show (74 : Int32) = nI 74 from rfl, pk_mul, nI_add, v6_mixed (by omega), zb1_e, show (6 : Int32) = nI 6 from rfl, show (80 : Int32) = nI 80 from rfl, pk_mul, nI_add, v6_mixed (by omega), zb1_e, show (92 : Int32) = nI 92 from rfl, nI_add, zg_n (by omega) (by decide), zl_e, nI_clamp (by omega), nI_1]
      exact f2 k
theorem e_digest {B nt ng d nm : Nat} {book : Nat → Int32} {things gifts days : Int32} {size weight sound harm in_ kind owner empty room told gate ear scale lost watch : Nat → Int32} {moments : Int32} {kept : Nat → Int32} (h : Bk B book nt ng d nm) (r : Rw things gifts days size weight sound harm in_ kind owner empty room told gate ear scale lost watch moments kept book nt ng nm) (fa fb : Int64) (tl : Int32) : ∃ ans : Int64, f5_digest fa fb things gifts days size weight sound harm in_ kind owner empty room told gate ear scale lost watch moments tl = some ans ∧ f6_digest fa fb tl book = some ans := by
  have hn1 := h.1.1
  have hn2 := h.1.2.1
  obtain ⟨z1, a1, b1⟩ := d_six h r tl 6 0 FU FU (863 : Int64) (by omega) (by unfold FU; omega) (by unfold FU; omega)
  obtain ⟨z2, a2, b2⟩ := d_things h r nt 0 FU FU z1 (by omega) (by unfold FU; omega) (by unfold FU; omega)
  obtain ⟨z3, a3, b3⟩ := d_gifts h r ng 0 FU FU z2 (by omega) (by unfold FU; omega) (by unfold FU; omega)
  obtain ⟨z4, a4, b4⟩ := d_cities h r 2 0 FU FU z3 (by omega) (by unfold FU; omega) (by unfold FU; omega)
  rw [show nI 0 = (0 : Int32) from rfl] at a1 a2 a3 a4 b1 b2 b3 b4
  refine ⟨(31 : Int64) * ((31 : Int64) * z4 + fa) + fb, ?_, ?_⟩
  · unfold f5_digest f4_digestThings f4_digestGifts f4_digestCities
    rw [a1, a2, zb1_e, a3, zb1_e, a4, zb1_e, zl_e, zl_e]
  · unfold f6_digest
    rw [b1, b2, b3, b4, zl_e]
