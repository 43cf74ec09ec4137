/-! ===== pure side 1: sets as numbers, sums over sets ===== -/
def bs (p : Nat → Bool) : Nat → Nat
  | 0 => 0
  | n + 1 => bs p n + (if p n then 2 ^ n else 0)
theorem bs_lt (p : Nat → Bool) : ∀ n, bs p n < 2 ^ n
  | 0 => Nat.zero_lt_one
  | n + 1 => by
    have h := bs_lt p n
    rw [bs, Nat.pow_succ]
    split <;> omega
theorem bs_cong {p q : Nat → Bool} : ∀ {n : Nat}, (∀ t, t < n → p t = q t) → bs p n = bs q n
  | 0, _ => rfl
  | n + 1, h => by rw [bs, bs, bs_cong (fun t ht => h t (by omega)), h n (by omega)]
theorem bs_or {p : Nat → Bool} {n : Nat} : bs p n ||| 2 ^ n = bs p n + 2 ^ n := by
  have h := Nat.two_pow_add_eq_or_of_lt (bs_lt p n) 1
  rw [Nat.mul_one] at h
  rw [Nat.or_comm, ← h, Nat.add_comm]
theorem bs_le {p : Nat → Bool} {n N : Nat} (h : n ≤ N) : bs p n < 2 ^ N := Nat.lt_of_lt_of_le (bs_lt p n) (Nat.pow_le_pow_right (by decide) h)
theorem bs_tb (p : Nat → Bool) : ∀ (n t : Nat), (bs p n).testBit t = (decide (t < n) && p t)
  | 0, t => by simp [bs]
  | n + 1, t => by
    have ih := bs_tb p n t
    rw [bs]
    by_cases hp : p n = true
    · rw [if_pos hp, Nat.add_comm, ← Nat.mul_one (2 ^ n), Nat.two_pow_add_eq_or_of_lt (bs_lt p n) 1, Nat.mul_one, Nat.testBit_or, ih, Nat.testBit_two_pow]
      by_cases h1 : n = t
      · subst h1
        simp [hp]
      · by_cases h2 : t < n
        · have h3 : t < n + 1 := by omega
          simp [h1, h2, h3]
        · have h3 : ¬ t < n + 1 := by omega
          simp [h1, h2, h3]
    · rw [if_neg hp, Nat.add_zero, ih]
      by_cases h2 : t < n
      · have h3 : t < n + 1 := by omega
        simp [h2, h3]
      · by_cases h1 : t = n
        · subst h1
          simp [hp]
        · have h3 : ¬ t < n + 1 := by omega
          simp [h2, h3]
def sumV (V : Nat → Nat) (S : Nat) : Nat → Nat
  | 0 => 0
  | t + 1 => sumV V S t + S / 2 ^ t % 2 * V t
theorem sumV_le {V : Nat → Nat} {S m : Nat} : ∀ {n : Nat}, (∀ t, t < n → V t ≤ m) → sumV V S n ≤ n * m
  | 0, _ => by simp [sumV]
  | n + 1, h => by
    have h1 := sumV_le (S := S) (m := m) (n := n) (fun t ht => h t (by omega))
    have h2 := h n (by omega)
    have h3 : S / 2 ^ n % 2 ≤ 1 := by omega
    have h4 : S / 2 ^ n % 2 * V n ≤ 1 * m := Nat.mul_le_mul h3 h2
    rw [sumV, Nat.succ_mul]
    omega
theorem sumV_cong {V V' : Nat → Nat} {S : Nat} : ∀ {n : Nat}, (∀ t, t < n → V t = V' t) → sumV V S n = sumV V' S n
  | 0, _ => rfl
  | n + 1, h => by rw [sumV, sumV, sumV_cong (fun t ht => h t (by omega)), h n (by omega)]
theorem sumV_0 (V : Nat → Nat) : ∀ n, sumV V 0 n = 0
  | 0 => rfl
  | n + 1 => by rw [sumV, sumV_0 V n]; simp
/-! ===== pure side 2: the reference's book, as numbers ===== -/
def nN (x : Int32) : Nat := x.toNatClampNeg
theorem nN_n {n : Nat} (h : n < 2 ^ 31) : nN (nI n) = n := nI_clamp h
/-- a number from 0 to n -/
def sml (x : Int32) (n : Nat) : Prop := x = nI (nN x) ∧ nN x ≤ n
theorem sml_of {a n : Nat} (h : a ≤ n) (hn : n < 2 ^ 31) : sml (nI a) n := by
  unfold sml
  rw [nN_n (by omega)]
  exact ⟨rfl, h⟩
def zNone : Int32 := -(nI 1)
theorem zNone_e : (-(nI 1) : Int32) = zNone := rfl
/-- what stands in IN: none, or one of ng -/
def inOk (x : Int32) (ng : Nat) : Prop := x = zNone ∨ ∃ g, g < ng ∧ x = nI g
def Bk (B : Nat) (book : Nat → Int32) (nt ng d nm : Nat) : Prop :=
  (nt ≤ 8 ∧ ng ≤ 6 ∧ nm ≤ 8 ∧ d ≤ B ∧ B ≤ 1000) ∧ (book 0 = nI nt ∧ book 1 = nI ng ∧ book 2 = nI d ∧ book 3 = nI nm) ∧
  (∀ t, t < nt → ∀ w, w < 4 → sml (book (4 + 4 * t + w)) 20) ∧ (∀ t, t < nt → inOk (book (36 + t)) ng) ∧
  (∀ g, g < ng → sml (book (44 + g)) 5 ∧ sml (book (50 + g)) 50 ∧ sml (book (56 + g)) 30 ∧ sml (book (62 + g)) 99 ∧ sml (book (68 + g)) 1) ∧
  (∀ c, c < 2 → sml (book (74 + 3 * c)) 30 ∧ sml (book (74 + 3 * c + 1)) 50 ∧ sml (book (74 + 3 * c + 2)) 200) ∧
  (∀ k, k < 12 → sml (book (80 + k)) 20) ∧
  (∀ k, k < nm → (∀ t, t < nt → inOk (book (94 + 17 * k + t)) ng) ∧ (∀ g, g < ng → sml (book (94 + 17 * k + 8 + g)) 1) ∧ sml (book (94 + 17 * k + 14)) B)
/-- War's components say what the book says -/
def Rw (things gifts days : Int32) (size weight sound harm in_ kind owner empty room told gate ear scale lost watch : Nat → Int32) (moments : Int32) (kept : Nat → Int32) (book : Nat → Int32) (nt ng nm : Nat) : Prop :=
  (things = book 0 ∧ gifts = book 1 ∧ days = book 2 ∧ moments = book 3) ∧
  (∀ t, t < nt → size t = book (4 + 4 * t + 0) ∧ weight t = book (4 + 4 * t + 1) ∧ sound t = book (4 + 4 * t + 2) ∧ harm t = book (4 + 4 * t + 3) ∧ in_ t = book (36 + t)) ∧
  (∀ g, g < ng → kind g = book (44 + g) ∧ empty g = book (50 + g) ∧ room g = book (56 + g) ∧ told g = book (62 + g) ∧ owner g = book (68 + g)) ∧
  (∀ c, c < 2 → gate c = book (74 + 3 * c) ∧ ear c = book (74 + 3 * c + 1) ∧ scale c = book (74 + 3 * c + 2) ∧ lost c = book (92 + c)) ∧
  (∀ k, k < 12 → watch k = book (80 + k)) ∧
  (∀ k, k < nm → (∀ t, t < nt → kept (17 * k + 6 + t) = book (94 + 17 * k + t)) ∧ (∀ g, g < ng → kept (17 * k + g) = book (94 + 17 * k + 8 + g)) ∧ kept (17 * k + 14) = book (94 + 17 * k + 15) ∧ kept (17 * k + 15) = book (94 + 17 * k + 16) ∧ kept (17 * k + 16) = book (94 + 17 * k + 14))
def thV (book : Nat → Int32) (w : Nat) : Nat → Nat := fun t => nN (book (4 + 4 * t + w))
def zSet (book : Nat → Int32) (nt : Nat) (v : Int32) : Nat := bs (fun t => decide (book (36 + t) = v)) nt
def wghN (book : Nat → Int32) (nt d g S : Nat) : Nat := nN (book (50 + g)) + (if nN (book (44 + g)) = 3 then 0 else sumV (thV book 1) S nt) + (if nN (book (44 + g)) = 2 ∨ nN (book (44 + g)) = 5 then (if 9 < d then 9 else d) else 0)
def sndN (book : Nat → Int32) (nt g S : Nat) : Nat := if nN (book (44 + g)) = 1 ∨ nN (book (44 + g)) = 4 then sumV (thV book 2) S nt / 2 else if nN (book (44 + g)) = 2 then sumV (thV book 2) S nt + 3 else if nN (book (44 + g)) = 5 then 2 * (sumV (thV book 2) S nt + 3) else sumV (thV book 2) S nt
def hrmN (book : Nat → Int32) (nt d g S : Nat) : Nat := if nN (book (44 + g)) = 3 then sumV (thV book 3) S nt / 2 else if nN (book (44 + g)) = 4 then (if S = 0 then sumV (thV book 3) S nt else sumV (thV book 3) S nt + 2) else if nN (book (44 + g)) = 5 ∧ d % 2 = 1 then 0 else sumV (thV book 3) S nt
def othN (book : Nat → Int32) (g : Nat) : Nat := 1 - nN (book (68 + g))
def hrd (book : Nat → Int32) (nt g S : Nat) : Bool := decide (nN (book (74 + 3 * othN book g + 1)) ≤ sndN book nt g S)
def hvy (book : Nat → Int32) (nt d g S : Nat) : Bool := decide (nN (book (74 + 3 * othN book g + 2)) < wghN book nt d g S)
def fit (book : Nat → Int32) (g : Nat) : Bool := decide (nN (book (56 + g)) ≤ nN (book (74 + 3 * othN book g)))
def pss (book : Nat → Int32) (nt d g S : Nat) : Bool := fit book g && (!hrd book nt g S && !hvy book nt d g S)
def lssN (book : Nat → Int32) (nt d g S h : Nat) : Nat := hrmN book nt d g S - nN (book (80 + 6 * othN book g + h))
def bI (b : Bool) : Int32 := if b then nI 1 else nI 0
