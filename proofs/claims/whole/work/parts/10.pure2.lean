/-! ===== pure side 3: the small methods of War and of the reference, by value ===== -/
theorem v4_inside {nt : Nat} (hn : nt ≤ 8) (in_ : Nat → Int32) (v : Int32) : f4_inside (nI nt) in_ v = some (nI (bs (fun t => decide (in_ t = v)) nt)) := by
  have key : ∀ (k : Int32 → Option Int32) (d t n : Nat), t + d = nt → d < n → L4_inside_4 k (nI nt) in_ v n (nI (bs (fun t => decide (in_ t = v)) t)) (nI t) = k (nI (bs (fun t => decide (in_ t = v)) nt)) := by
    intro k d
    induction d with
    | zero =>
      intro t n ht hd
      obtain ⟨n, rfl⟩ : ∃ m, n = m + 1 := ⟨n - 1, by omega⟩
      have h : t = nt := by omega
      subst h
      rw [L4_inside_4, if_pos (nI_le (Nat.le_refl _) (by omega))]
    | succ d ih =>
      intro t n ht hd
      obtain ⟨n, rfl⟩ : ∃ m, n = m + 1 := ⟨n - 1, by omega⟩
      have ih' := ih (t + 1) n (by omega) (by omega)
      rw [L4_inside_4, if_neg (nI_ge (by omega) (by omega)), zg_n (by omega) (by omega), nI_clamp (by omega), nI_1]
      rw [bs] at ih'
      by_cases c : in_ t = v
      · rw [if_pos c, zl_e, show ((1 : Int32) = nI 1) from rfl, show (31 : Int32) = nI 31 from rfl, zshl (by omega), fa_or, bs_or]
        simpa [c] using ih'
      · rw [if_neg c]
        simpa [c] using ih'
  exact key (fun y8 => some y8) nt 0 FU (by omega) (by unfold FU; omega)
theorem v6_thingsIn {nt : Nat} {book : Nat → Int32} (hn : nt ≤ 8) (h0 : book 0 = nI nt) (v : Int32) : f6_thingsIn book v = some (nI (zSet book nt v)) := by
  have key : ∀ (k : Int32 → Option Int32) (d t n : Nat), t + d = nt → d < n → L6_thingsIn_4 k book v n (nI (zSet book t v)) (nI t) = k (nI (zSet book nt v)) := by
    intro k d
    induction d with
    | zero =>
      intro t n ht hd
      obtain ⟨n, rfl⟩ : ∃ m, n = m + 1 := ⟨n - 1, by omega⟩
      have h : t = nt := by omega
      subst h
      rw [L6_thingsIn_4, h0, if_pos (nI_le (Nat.le_refl _) (by omega))]
    | succ d ih =>
      intro t n ht hd
      obtain ⟨n, rfl⟩ : ∃ m, n = m + 1 := ⟨n - 1, by omega⟩
      have ih' := ih (t + 1) n (by omega) (by omega)
      rw [L6_thingsIn_4, h0, if_neg (nI_ge (by omega) (by omega)), show ((36 : Int32) = nI 36) from rfl, nI_add, zg_n (by omega) (by omega), nI_clamp (by omega), nI_1]
      unfold zSet at ih' ⊢
      rw [bs] at ih'
      by_cases c : book (36 + t) = v
      · rw [if_pos c, zl_e, show ((1 : Int32) = nI 1) from rfl, show (31 : Int32) = nI 31 from rfl, zshl (by omega), fa_or, bs_or]
        simpa [c] using ih'
      · rw [if_neg c, zl_e, show ((0 : Int32) = nI 0) from rfl, fa_or, Nat.or_zero]
        simpa [c] using ih'
  exact key (fun y8 => some y8) nt 0 FU (by omega) (by unfold FU; omega)
theorem bit_hi {S nt t : Nat} (hS : S < 2 ^ nt) (h : nt ≤ t) : S / 2 ^ t = 0 := Nat.div_eq_of_lt (Nat.lt_of_lt_of_le hS (Nat.pow_le_pow_right (by decide) h))
theorem pow8 {nt : Nat} (h : nt ≤ 8) : 2 ^ nt ≤ 256 := by
  have := Nat.pow_le_pow_right (n := 2) (by decide) h
  omega
theorem v5_sumOver {nt S : Nat} {V : Nat → Nat} {numbers : Nat → Int32} (hn : nt ≤ 8) (hS : S < 2 ^ nt) (hv : ∀ t, t < nt → numbers t = nI (V t)) : f5_sumOver numbers (nI S) = some (nI (sumV V S nt)) := by
  have hS2 : S < 2 ^ 31 := by have := pow8 hn; omega
  have key : ∀ (k : Int32 → Option Int32) (d t n : Nat), t + d = 8 → d < n → L5_sumOver_4 k numbers (nI S) n (nI (sumV V S (min t nt))) (nI t) = k (nI (sumV V S nt)) := by
    intro k d
    induction d with
    | zero =>
      intro t n ht hd
      obtain ⟨n, rfl⟩ : ∃ m, n = m + 1 := ⟨n - 1, by omega⟩
      have h : t = 8 := by omega
      subst h
      rw [L5_sumOver_4, show ((8 : Int32) = nI 8) from rfl, if_pos (nI_le (Nat.le_refl _) (by omega)), Nat.min_eq_right hn]
    | succ d ih =>
      intro t n ht hd
      obtain ⟨n, rfl⟩ : ∃ m, n = m + 1 := ⟨n - 1, by omega⟩
      have ih' := ih (t + 1) n (by omega) (by omega)
      rw [L5_sumOver_4, show ((8 : Int32) = nI 8) from rfl, if_neg (nI_ge (by omega) (by omega)), show (31 : Int32) = nI 31 from rfl, show ((1 : Int32) = nI 1) from rfl, show ((0 : Int32) = nI 0) from rfl, zshr hS2 (by omega), zbit _ (by have := Nat.div_le_self S (2 ^ t); omega), nI_add]
      rcases Nat.lt_or_ge t nt with h | h
      · rw [Nat.min_eq_left (by omega), sumV] at ih'
        rw [Nat.min_eq_left (by omega)]
        rcases Nat.mod_two_eq_zero_or_one (S / 2 ^ t) with c | c
        · rw [c, if_pos rfl]
          simpa [c] using ih'
        · rw [c, if_neg (by rw [nI_eq (by omega) (by omega)]; omega), zg_n (by omega) (by omega), nI_clamp (by omega), hv t h, zl_e, nI_add]
          simpa [c] using ih'
      · rw [Nat.min_eq_right (by omega)] at ih' ⊢
        rw [bit_hi hS h, if_pos rfl]
        exact ih'
  exact key (fun y8 => some y8) 8 0 FU (by omega) (by unfold FU; omega)
theorem v6_sumOf {nt S w : Nat} {book : Nat → Int32} (hn : nt ≤ 8) (h0 : book 0 = nI nt) (hS : S < 2 ^ 31) (hw : w < 4) (hv : ∀ t, t < nt → book (4 + 4 * t + w) = nI (nN (book (4 + 4 * t + w)))) : f6_sumOf book (nI S) (nI w) = some (nI (sumV (thV book w) S nt)) := by
  have key : ∀ (k : Int32 → Option Int32) (d t n : Nat), t + d = nt → d < n → L6_sumOf_5 k book (nI S) (nI w) n (nI (sumV (thV book w) S t)) (nI t) = k (nI (sumV (thV book w) S nt)) := by
    intro k d
    induction d with
    | zero =>
      intro t n ht hd
      obtain ⟨n, rfl⟩ : ∃ m, n = m + 1 := ⟨n - 1, by omega⟩
      have h : t = nt := by omega
      subst h
      rw [L6_sumOf_5, h0, if_pos (nI_le (Nat.le_refl _) (by omega))]
    | succ d ih =>
      intro t n ht hd
      obtain ⟨n, rfl⟩ : ∃ m, n = m + 1 := ⟨n - 1, by omega⟩
      have ih' := ih (t + 1) n (by omega) (by omega)
      rw [L6_sumOf_5, h0, if_neg (nI_ge (by omega) (by omega)), show ((4 : Int32) = nI 4) from rfl, show (31 : Int32) = nI 31 from rfl, show ((1 : Int32) = nI 1) from rfl, pk_mul, nI_add, nI_add, zg_n (by omega) (by omega), zl_e, nI_clamp (by omega), zshr hS (by omega), zbit _ (by have := Nat.div_le_self S (2 ^ t); omega), hv t (by omega), pk_mul, nI_add, nI_add]
      rw [sumV] at ih'
      exact ih'
  exact key (fun y8 => some y8) nt 0 FU (by omega) (by unfold FU; omega)
