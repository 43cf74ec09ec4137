/-! ===== pure side 35: carts, digits and windows ===== -/
theorem o_pc : ∀ S, S < 64 → ∀ i, i < 6 → pcN (S ||| 2 ^ i) 8 = if S / 2 ^ i % 2 = 1 then pcN S 8 else pcN S 8 + 1 := by decide +kernel
theorem o_full : ∀ n, n < 7 → ∀ S, S < 64 → S < 2 ^ n → pcN S 8 = n → S = 2 ^ n - 1 := by decide +kernel
theorem o_all : ∀ n, n < 7 → pcN (2 ^ n - 1) 8 = n := by decide +kernel
theorem o_ex : ∀ n, n < 7 → ∀ S, S < 64 → pcN S 8 < n → ¬ ∀ i, i < n → S / 2 ^ i % 2 = 1 := by decide +kernel
theorem o_off : ∀ S, S < 64 → ∀ i, i < 6 → S / 2 ^ i % 2 = 0 → nI (S ||| 2 ^ i) &&& (((1 : Int32) <<< (nI i &&& 31)) ^^^ (-1 : Int32)) = nI S := by decide +kernel
theorem o_pow : ∀ n, n < 7 → n ^ n ≤ 46656 := by decide +kernel
theorem o_from : ∀ p, p < 6 → ∀ c, c < 4 → (if (0 : Int32) < ((nI p - nI c) + (1 : Int32)) then ((nI p - nI c) + (1 : Int32)) else (0 : Int32)) = nI (p + 1 - c) := by decide +kernel
theorem o_2n : ∀ n, n < 7 → 2 ^ n ≤ 64 := by decide +kernel
def orN (d : Nat → Nat) : Nat → Nat
  | 0 => 0
  | j + 1 => orN d j ||| 2 ^ d j
theorem orN_lt {d : Nat → Nat} {n : Nat} : ∀ {k : Nat}, (∀ j, j < k → d j < n) → orN d k < 2 ^ n
  | 0, _ => by rw [orN]; exact Nat.two_pow_pos n
  | k + 1, h => by
    rw [orN]
    exact Nat.or_lt_two_pow (orN_lt (fun j hj => h j (by omega))) (Nat.pow_lt_pow_right (by decide) (h k (by omega)))
theorem orN_cong {d e : Nat → Nat} : ∀ {k : Nat}, (∀ j, j < k → d j = e j) → orN d k = orN e k
  | 0, _ => rfl
  | k + 1, h => by rw [orN, orN, orN_cong (fun j hj => h j (by omega)), h k (by omega)]
theorem orN_pc {d : Nat → Nat} {n k : Nat} (hn : n < 7) : ∀ {x : Nat}, (∀ j, j < k + x → d j < n) → pcN (orN d (k + x)) 8 ≤ pcN (orN d k) 8 + x
  | 0, _ => Nat.le_refl _
  | x + 1, h => by
    have i1 := orN_pc (d := d) (k := k) hn (x := x) (fun j hj => h j (by omega))
    have l1 := orN_lt (k := k + x) (fun j hj => h j (by omega))
    have l2 := o_2n n hn
    have l3 := h (k + x) (by omega)
    have e : orN d (k + (x + 1)) = orN d (k + x) ||| 2 ^ d (k + x) := rfl
    rw [e, o_pc _ (by omega) _ (by omega)]
    split <;> omega
def sumR (f : Nat → Nat) (a : Nat) : Nat → Nat
  | 0 => 0
  | l + 1 => sumR f a l + f (a + l)
theorem sumR_cong {f g : Nat → Nat} {a : Nat} : ∀ {l : Nat}, (∀ i, i < l → f (a + i) = g (a + i)) → sumR f a l = sumR g a l
  | 0, _ => rfl
  | l + 1, h => by rw [sumR, sumR, sumR_cong (fun i hi => h i (by omega)), h l (by omega)]
theorem sumR_split (f : Nat → Nat) (a x : Nat) : ∀ y, sumR f a (x + y) = sumR f a x + sumR f (a + x) y
  | 0 => rfl
  | y + 1 => by
    have e : sumR f a (x + (y + 1)) = sumR f a (x + y) + f (a + (x + y)) := rfl
    rw [e, sumR_split f a x y, sumR, show a + (x + y) = a + x + y by omega]
    omega
theorem sumR_sub {f : Nat → Nat} {a b l1 l2 : Nat} (h1 : a ≤ b) (h2 : b + l2 ≤ a + l1) : sumR f b l2 ≤ sumR f a l1 := by
  have e1 := sumR_split f a (b - a) (l1 - (b - a))
  rw [show b - a + (l1 - (b - a)) = l1 by omega, show a + (b - a) = b by omega] at e1
  have e2 := sumR_split f b l2 (l1 - (b - a) - l2)
  rw [show l2 + (l1 - (b - a) - l2) = l1 - (b - a) by omega] at e2
  omega
theorem sumR_le {f : Nat → Nat} {a m : Nat} : ∀ {l : Nat}, (∀ i, i < l → f (a + i) ≤ m) → sumR f a l ≤ l * m
  | 0, _ => Nat.zero_le _
  | l + 1, h => by
    have := sumR_le (f := f) (a := a) (m := m) (l := l) (fun i hi => h i (by omega))
    have := h l (by omega)
    rw [sumR, Nat.add_mul, Nat.one_mul]
    omega
theorem le_mxN {f : Nat → Nat} {i : Nat} : ∀ {n : Nat}, i < n → f i ≤ mxN f n
  | 0, h => absurd h (by omega)
  | n + 1, h => by
    rw [mxN]
    by_cases e : i = n
    · subst e
      split <;> omega
    · have := le_mxN (f := f) (i := i) (n := n) (by omega)
      split <;> omega
theorem mxN_mono {f : Nat → Nat} {k : Nat} : ∀ x, mxN f k ≤ mxN f (k + x)
  | 0 => Nat.le_refl _
  | x + 1 => by
    have := mxN_mono (f := f) (k := k) x
    have e : mxN f (k + (x + 1)) = if mxN f (k + x) < f (k + x) then f (k + x) else mxN f (k + x) := rfl
    rw [e]
    split <;> omega
theorem mxN_cong {f g : Nat → Nat} : ∀ {n : Nat}, (∀ i, i < n → f i = g i) → mxN f n = mxN g n
  | 0, _ => rfl
  | n + 1, h => by rw [mxN, mxN, mxN_cong (fun i hi => h i (by omega)), h n (by omega)]
/-- what the neighbours that end at a place weigh; those that begin at one -/
def cL (c : Nat) (f : Nat → Nat) (p : Nat) : Nat := sumR f (p + 1 - c) (p + 1 - (p + 1 - c))
def cM (n c : Nat) (f : Nat → Nat) (s : Nat) : Nat := sumR f s ((if s + c ≤ n then s + c else n) - s)
theorem win_eq {n c : Nat} (hc : 1 ≤ c) (f : Nat → Nat) : mxN (cL c f) n = mxN (cM n c f) n := by
  apply Nat.le_antisymm
  · apply mxN_le
    intro p hp
    refine Nat.le_trans ?_ (le_mxN (f := cM n c f) (i := p + 1 - c) (n := n) (by omega))
    unfold cL cM
    exact sumR_sub (Nat.le_refl _) (by split <;> omega)
  · apply mxN_le
    intro s hs
    by_cases e : s + c ≤ n
    · refine Nat.le_trans ?_ (le_mxN (f := cL c f) (i := s + c - 1) (n := n) (by omega))
      unfold cL cM
      rw [if_pos e]
      exact sumR_sub (by omega) (by omega)
    · refine Nat.le_trans ?_ (le_mxN (f := cL c f) (i := n - 1) (n := n) (by omega))
      unfold cL cM
      rw [if_neg e]
      exact sumR_sub (by omega) (by omega)
theorem cL_cong {c p : Nat} {f g : Nat → Nat} (h : ∀ j, j ≤ p → f j = g j) : cL c f p = cL c g p := sumR_cong (fun i hi => h _ (by omega))
theorem cL_le {c p : Nat} {f : Nat → Nat} (hp : p < 6) (h : ∀ j, j ≤ p → f j ≤ 300) : cL c f p ≤ 1800 := by
  have := sumR_le (f := f) (a := p + 1 - c) (m := 300) (l := p + 1 - (p + 1 - c)) (fun i hi => h _ (by omega))
  have e : (p + 1 - (p + 1 - c)) * 300 ≤ 6 * 300 := Nat.mul_le_mul_right _ (by omega)
  unfold cL
  omega
theorem cM_le {n c s : Nat} {f : Nat → Nat} (hn : n < 7) (h : ∀ j, j < n → f j ≤ 300) : cM n c f s ≤ 1800 := by
  unfold cM
  have e0 : (if s + c ≤ n then s + c else n) - s ≤ 6 := by split <;> omega
  have := sumR_le (f := f) (a := s) (m := 300) (l := (if s + c ≤ n then s + c else n) - s) (fun i hi => h _ (by split at hi <;> omega))
  have e : ((if s + c ≤ n then s + c else n) - s) * 300 ≤ 6 * 300 := Nat.mul_le_mul_right _ e0
  omega
/-- the j-th of k figures, by n -/
def dg (n k P j : Nat) : Nat := P / n ^ (k - 1 - j) % n
theorem dg_lt {n k P j : Nat} (hn : 0 < n) : dg n k P j < n := Nat.mod_lt _ hn
theorem dg_step {n k P i j : Nat} (hi : i < n) (hj : j < k + 1) : dg n (k + 1) (P * n + i) j = if j = k then i else dg n k P j := by
  unfold dg
  by_cases e : j = k
  · rw [if_pos e, e, show k + 1 - 1 - k = 0 by omega, Nat.pow_zero, Nat.div_one, Nat.add_comm, Nat.add_mul_mod_self_right, Nat.mod_eq_of_lt hi]
  · rw [if_neg e, show k + 1 - 1 - j = (k - 1 - j) + 1 by omega, Nat.pow_succ, Nat.mul_comm (n ^ (k - 1 - j)) n, ← Nat.div_div_eq_div_mul, Nat.mul_comm P n, Nat.mul_add_div (by omega), Nat.div_eq_of_lt hi, Nat.add_zero]
theorem dg_pre {n k m C j : Nat} (hj : j < k) : dg n (k + m) C j = dg n k (C / n ^ m) j := by
  unfold dg
  rw [Nat.div_div_eq_div_mul, ← Nat.pow_add, show m + (k - 1 - j) = k + m - 1 - j by omega]
