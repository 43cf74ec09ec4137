/-! ===== pure side 28: belief, ways and divisors ===== -/
def wyF (M S c t : Nat) : Nat := if M / 2 ^ t % 2 = 0 then 1 else if S / 2 ^ t % 2 = 1 then c else 10 - c
def wyN (M S c : Nat) : Nat → Nat
  | 0 => 1
  | n + 1 => wyN M S c n * wyF M S c n
theorem wyF_le {M S c t : Nat} (hc : c ≤ 10) : wyF M S c t ≤ 10 := by
  unfold wyF
  split
  · omega
  · split <;> omega
theorem wyN_le {M S c : Nat} (hc : c ≤ 10) : ∀ n, wyN M S c n ≤ 10 ^ n
  | 0 => Nat.le_refl _
  | n + 1 => by
    rw [wyN, Nat.pow_succ]
    exact Nat.mul_le_mul (wyN_le hc n) (wyF_le hc)
theorem wyN_hi {M S c nt : Nat} (hM : M < 2 ^ nt) : ∀ j, wyN M S c (nt + j) = wyN M S c nt
  | 0 => rfl
  | j + 1 => by
    rw [show nt + (j + 1) = (nt + j) + 1 from rfl, wyN, wyN_hi hM j]
    unfold wyF
    rw [if_pos (by rw [bit_hi hM (by omega)]), Nat.mul_one]
theorem b_ways {M S c : Nat} (hM : M < 2 ^ 30) (hS : S < 2 ^ 30) (hc : c ≤ 10) (k : Int64 → Option Int64) : ∀ (m t n : Nat), t + m = 8 → m < n → L1_waysOf_5 k (nI S) (nI M) (nI c) n (lN (wyN M S c t)) (nI t) = k (lN (wyN M S c 8)) := by
  intro m
  induction m with
  | zero =>
    intro t n ht hm
    obtain ⟨n, rfl⟩ : ∃ m, n = m + 1 := ⟨n - 1, by omega⟩
    have e : t = 8 := by omega
    subst e
    rw [L1_waysOf_5, if_pos (by decide)]
  | succ m ih =>
    intro t n ht hm
    obtain ⟨n, rfl⟩ : ∃ m, n = m + 1 := ⟨n - 1, by omega⟩
    have i1 := ih (t + 1) n (by omega) (by omega)
    rw [wyN] at i1
    unfold wyF at i1
    have z0 : ∀ X : Nat, (nI (X % 2) = 0) ↔ X % 2 = 0 := fun X => nI_eq (b := 0) (by omega) (by decide)
    rw [L1_waysOf_5, if_neg (show ¬ (8 : Int32) ≤ nI t from nI_ge (b := 8) (by omega) (by omega)), show (31 : Int32) = nI 31 from rfl, show (1 : Int32) = nI 1 from rfl, zshr (by omega) (by omega), zshr (by omega) (by omega), zbit _ (by have := Nat.div_le_self M (2 ^ t); omega), zbit _ (by have := Nat.div_le_self S (2 ^ t); omega), nI_add]
    by_cases c1 : M / 2 ^ t % 2 = 0
    · rw [if_pos ((z0 _).mpr c1)]
      rw [if_pos c1, Nat.mul_one] at i1
      exact i1
    · rw [if_neg (fun e => c1 ((z0 _).mp e))]
      rw [if_neg c1] at i1
      by_cases c2 : S / 2 ^ t % 2 = 0
      · rw [if_pos ((z0 _).mpr c2), zl_e, show (10 : Int32) = nI 10 from rfl, pk_sub hc, nI_l (by omega), lN_mul]
        rw [if_neg (by omega)] at i1
        exact i1
      · rw [if_neg (fun e => c2 ((z0 _).mp e)), zl_e, nI_l (by omega), lN_mul]
        rw [if_pos (by omega)] at i1
        exact i1
theorem v1_waysOf {M S c : Nat} (hM : M < 2 ^ 30) (hS : S < 2 ^ 30) (hc : c ≤ 10) : f1_waysOf (nI S) (nI M) (nI c) = some (lN (wyN M S c 8)) :=
  b_ways hM hS hc _ 8 0 FU (by omega) (by unfold FU; omega)
theorem b_87 {book : Nat → Int32} {nt M S c : Nat} (hn : nt ≤ 8) (h0 : book 0 = nI nt) (hM : M < 2 ^ 30) (hS : S < 2 ^ 30) (hc : c ≤ 10) (k : Int64 → Option (Int32 × Int64 × Int64 × (Nat → Int32))) : ∀ (m t n : Nat), t + m = nt → m < n → L6_belief_87 k book (nI c) (nI M) (nI S) n (lN (wyN M S c t)) (nI t) = k (lN (wyN M S c nt)) := by
  intro m
  induction m with
  | zero =>
    intro t n ht hm
    obtain ⟨n, rfl⟩ : ∃ m, n = m + 1 := ⟨n - 1, by omega⟩
    have e : t = nt := by omega
    subst e
    rw [L6_belief_87, h0, if_pos (nI_le (Nat.le_refl _) (by omega))]
  | succ m ih =>
    intro t n ht hm
    obtain ⟨n, rfl⟩ : ∃ m, n = m + 1 := ⟨n - 1, by omega⟩
    have i1 := ih (t + 1) n (by omega) (by omega)
    rw [wyN] at i1
    unfold wyF at i1
    have z0 : ∀ X : Nat, (nI (X % 2) = 0) ↔ X % 2 = 0 := fun X => nI_eq (b := 0) (by omega) (by decide)
    have z1 : ∀ X : Nat, (nI (X % 2) = nI 1) ↔ X % 2 = 1 := fun X => nI_eq (by omega) (by decide)
    rw [L6_belief_87, h0, if_neg (nI_ge (by omega) (by omega)), show (31 : Int32) = nI 31 from rfl, show (1 : Int32) = nI 1 from rfl, zshr (by omega) (by omega), zshr (by omega) (by omega), zbit _ (by have := Nat.div_le_self M (2 ^ t); omega), zbit _ (by have := Nat.div_le_self S (2 ^ t); omega), nI_add]
    by_cases c1 : M / 2 ^ t % 2 = 0
    · rw [if_pos ((z0 _).mpr c1), zl_e, show (1 : Int64) = lN 1 from rfl, lN_mul]
      rw [if_pos c1] at i1
      exact i1
    · rw [if_neg (fun e => c1 ((z0 _).mp e))]
      rw [if_neg c1] at i1
      by_cases c2 : S / 2 ^ t % 2 = 1
      · rw [if_pos ((z1 _).mpr c2), zl_e, nI_l (by omega), lN_mul]
        rw [if_pos c2] at i1
        exact i1
      · rw [if_neg (fun e => c2 ((z1 _).mp e)), zl_e, show (10 : Int32) = nI 10 from rfl, pk_sub hc, nI_l (by omega), lN_mul]
        rw [if_neg c2] at i1
        exact i1
theorem v_euc : ∀ (w a b : Nat), a < 2 ^ 62 → b < 2 ^ 62 → b < 2 ^ w → (∀ (k : Int64 → Option Int64) (n c : Nat), c + 2 * w < 100 → 2 * w < n → L5_commonDivisor_9 k n (lN a) (lN b) (nI c) = k (lN (Nat.gcd a b))) ∧ (∀ (k : Int64 → Option Int64) (n : Nat), 2 * w < n → L6_divisor_6 k n (lN a) (lN b) = k (lN (Nat.gcd a b))) := by
  have ze : ∀ b : Nat, b < 2 ^ 62 → ((lg_cmp (lN b) (0 : Int64) = 0) ↔ b = 0) := fun b hb => by
    rw [lg_cmp_eq, show (0 : Int64) = lN 0 from rfl, pk_lEQ (by omega) (by omega)]
  intro w
  induction w with
  | zero =>
    intro a b ha hb hw
    have e : b = 0 := by omega
    subst e
    refine ⟨fun k n c h1 h2 => ?_, fun k n h2 => ?_⟩
    · obtain ⟨n, rfl⟩ : ∃ m, n = m + 1 := ⟨n - 1, by omega⟩
      rw [L5_commonDivisor_9, if_neg (show ¬ (100 : Int32) ≤ nI c from nI_ge (b := 100) (by omega) (by omega)), if_pos ((ze 0 (by omega)).mpr rfl), Nat.gcd_zero_right]
    · obtain ⟨n, rfl⟩ : ∃ m, n = m + 1 := ⟨n - 1, by omega⟩
      rw [L6_divisor_6, if_pos ((ze 0 (by omega)).mpr rfl), Nat.gcd_zero_right]
  | succ w ih =>
    intro a b ha hb hw
    by_cases e0 : b = 0
    · subst e0
      refine ⟨fun k n c h1 h2 => ?_, fun k n h2 => ?_⟩
      · obtain ⟨n, rfl⟩ : ∃ m, n = m + 1 := ⟨n - 1, by omega⟩
        rw [L5_commonDivisor_9, if_neg (show ¬ (100 : Int32) ≤ nI c from nI_ge (b := 100) (by omega) (by omega)), if_pos ((ze 0 (by omega)).mpr rfl), Nat.gcd_zero_right]
      · obtain ⟨n, rfl⟩ : ∃ m, n = m + 1 := ⟨n - 1, by omega⟩
        rw [L6_divisor_6, if_pos ((ze 0 (by omega)).mpr rfl), Nat.gcd_zero_right]
    · have n0 : ¬ lN b = 0 := fun e => e0 ((pk_lEQ (b := 0) (by omega) (by omega)).mp e)
      have hr : a % b < b := Nat.mod_lt _ (by omega)
      have g1 : Nat.gcd a b = Nat.gcd b (a % b) := by rw [Nat.gcd_comm a b, Nat.gcd_rec b a, Nat.gcd_comm]
      by_cases e1 : a % b = 0
      · refine ⟨fun k n c h1 h2 => ?_, fun k n h2 => ?_⟩
        · obtain ⟨n, rfl⟩ : ∃ m, n = m + 1 + 1 := ⟨n - 2, by omega⟩
          rw [L5_commonDivisor_9, if_neg (show ¬ (100 : Int32) ≤ nI c from nI_ge (b := 100) (by omega) (by omega)), if_neg (fun e => e0 ((ze b hb).mp e)), zdl_e n0, zl_e, pk_lRem (by omega) (by omega) (by omega), nI_1, L5_commonDivisor_9, if_neg (show ¬ (100 : Int32) ≤ nI (c + 1) from nI_ge (b := 100) (by omega) (by omega)), if_pos ((ze _ (by omega)).mpr e1), g1, e1, Nat.gcd_zero_right]
        · obtain ⟨n, rfl⟩ : ∃ m, n = m + 1 + 1 := ⟨n - 2, by omega⟩
          rw [L6_divisor_6, if_neg (fun e => e0 ((ze b hb).mp e)), zdl_e n0, zl_e, pk_lRem (by omega) (by omega) (by omega), L6_divisor_6, if_pos ((ze _ (by omega)).mpr e1), g1, e1, Nat.gcd_zero_right]
      · have n1 : ¬ lN (a % b) = 0 := fun e => e1 ((pk_lEQ (b := 0) (by omega) (by omega)).mp e)
        have hr2 : b % (a % b) < a % b := Nat.mod_lt _ (by omega)
        have hr3 : b % (a % b) + (a % b) ≤ b := by
          have q1 := Nat.div_add_mod b (a % b)
          have q2 : 0 < b / (a % b) := Nat.div_pos (by omega) (by omega)
          have q3 : (a % b) * 1 ≤ (a % b) * (b / (a % b)) := Nat.mul_le_mul_left _ q2
          omega
        have g2 : Nat.gcd b (a % b) = Nat.gcd (a % b) (b % (a % b)) := by rw [Nat.gcd_comm b (a % b), Nat.gcd_rec (a % b) b, Nat.gcd_comm]
        have hp : 2 ^ (w + 1) = 2 * 2 ^ w := by rw [Nat.pow_succ]; omega
        obtain ⟨i1, i2⟩ := ih (a % b) (b % (a % b)) (by omega) (by omega) (by omega)
        refine ⟨fun k n c h1 h2 => ?_, fun k n h2 => ?_⟩
        · obtain ⟨n, rfl⟩ : ∃ m, n = m + 1 + 1 := ⟨n - 2, by omega⟩
          rw [L5_commonDivisor_9, if_neg (show ¬ (100 : Int32) ≤ nI c from nI_ge (b := 100) (by omega) (by omega)), if_neg (fun e => e0 ((ze b hb).mp e)), zdl_e n0, zl_e, pk_lRem (by omega) (by omega) (by omega), nI_1, L5_commonDivisor_9, if_neg (show ¬ (100 : Int32) ≤ nI (c + 1) from nI_ge (b := 100) (by omega) (by omega)), if_neg (fun e => e1 ((ze _ (by omega)).mp e)), zdl_e n1, zl_e, pk_lRem (by omega) (by omega) (by omega), nI_1, g1, g2]
          exact i1 k n (c + 1 + 1) (by omega) (by omega)
        · obtain ⟨n, rfl⟩ : ∃ m, n = m + 1 + 1 := ⟨n - 2, by omega⟩
          rw [L6_divisor_6, if_neg (fun e => e0 ((ze b hb).mp e)), zdl_e n0, zl_e, pk_lRem (by omega) (by omega) (by omega), L6_divisor_6, if_neg (fun e => e1 ((ze _ (by omega)).mp e)), zdl_e n1, zl_e, pk_lRem (by omega) (by omega) (by omega), g1, g2]
          exact i2 k n (by omega)
theorem v_gcd {a b : Nat} (ha : a < 2 ^ 36) (hb : b < 2 ^ 36) : f5_commonDivisor (lN a) (lN b) = some (lN (Nat.gcd a b)) ∧ f6_divisor (lN a) (lN b) = some (lN (Nat.gcd a b)) := by
  obtain ⟨e1, e2⟩ := v_euc 36 a b (by omega) (by omega) hb
  exact ⟨e1 _ FU 0 (by omega) (by unfold FU; omega), e2 _ FU (by unfold FU; omega)⟩
