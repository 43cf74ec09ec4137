/-! ===== pure side 11: what may be undone ===== -/
theorem cpy_0 (b : Nat → Int32) (s dd : Nat) : va_cpy b b s dd 0 = b := by
  funext k
  unfold va_cpy
  rw [if_neg (by omega)]
theorem cpy_step (b : Nat → Int32) {s dd t : Nat} (h : s + t < dd ∨ dd ≤ s) : upd (va_cpy b b s dd t) (dd + t) (b (s + t)) = va_cpy b b s dd (t + 1) := by
  funext k
  unfold upd va_cpy
  by_cases e : k = dd + t
  · subst e
    rw [if_pos rfl, if_pos (by omega)]
    congr 1
    omega
  · rw [if_neg e]
    by_cases g : dd ≤ k ∧ k < dd + t
    · rw [if_pos g, if_pos (by omega)]
    · rw [if_neg g, if_neg (by omega)]
theorem v6_rem13 (book : Nat → Int32) (k : (Nat → Int32) → Option (Nat → Int32)) : ∀ (d t n : Nat), t + d = 119 → d < n → L6_remembers_13 k n (nI t) (va_cpy book book 111 94 t) = k (va_cpy book book 111 94 119) := by
  intro d
  induction d with
  | zero =>
    intro t n ht hd
    obtain ⟨n, rfl⟩ : ∃ m, n = m + 1 := ⟨n - 1, by omega⟩
    have h : t = 119 := by omega
    subst h
    rw [L6_remembers_13, show ((119 : Int32) = nI 119) from rfl, if_pos (nI_le (Nat.le_refl _) (by omega))]
  | succ d ih =>
    intro t n ht hd
    obtain ⟨n, rfl⟩ : ∃ m, n = m + 1 := ⟨n - 1, by omega⟩
    have ih' := ih (t + 1) n (by omega) (by omega)
    rw [← cpy_step book (s := 111) (dd := 94) (t := t) (by omega)] at ih'
    rw [L6_remembers_13, show ((119 : Int32) = nI 119) from rfl, if_neg (nI_ge (by omega) (by omega)), show ((94 : Int32) = nI 94) from rfl, show ((17 : Int32) = nI 17) from rfl, nI_add, nI_add, zg_n (by omega) (by omega), zl_e, zg_n (by omega) (by omega), nI_clamp (by omega), nI_clamp (by omega), nI_1, pk_cpy_out (by omega), show 94 + t + 17 = 111 + t by omega]
    exact ih'
theorem v6_rem71 (book : Nat → Int32) (k : (Nat → Int32) → Option (Nat → Int32)) {x : Nat} (hx : 94 ≤ x ∧ x + 17 ≤ 230) : ∀ (d t n : Nat), t + d = 8 → d < n → L6_remembers_71 k (nI x) n (nI t) (va_cpy book book 36 x t) = k (va_cpy book book 36 x 8) := by
  intro d
  induction d with
  | zero =>
    intro t n ht hd
    obtain ⟨n, rfl⟩ : ∃ m, n = m + 1 := ⟨n - 1, by omega⟩
    have h : t = 8 := by omega
    subst h
    rw [L6_remembers_71, show ((8 : Int32) = nI 8) from rfl, if_pos (nI_le (Nat.le_refl _) (by omega))]
  | succ d ih =>
    intro t n ht hd
    obtain ⟨n, rfl⟩ : ∃ m, n = m + 1 := ⟨n - 1, by omega⟩
    have ih' := ih (t + 1) n (by omega) (by omega)
    rw [← cpy_step book (s := 36) (dd := x) (t := t) (by omega)] at ih'
    rw [L6_remembers_71, show ((8 : Int32) = nI 8) from rfl, if_neg (nI_ge (by omega) (by omega)), show ((36 : Int32) = nI 36) from rfl, nI_add, nI_add, zg_n (by omega) (by omega), zl_e, zg_n (by omega) (by omega), nI_clamp (by omega), nI_clamp (by omega), nI_1, pk_cpy_out (by omega)]
    exact ih'
theorem v6_rem102 (book : Nat → Int32) (k : (Nat → Int32) → Option (Nat → Int32)) {x : Nat} (hx : 94 ≤ x ∧ x + 17 ≤ 230) : ∀ (d t n : Nat), t + d = 6 → d < n → L6_remembers_102 k (nI x) n (nI t) (va_cpy book book 68 (x + 8) t) = k (va_cpy book book 68 (x + 8) 6) := by
  intro d
  induction d with
  | zero =>
    intro t n ht hd
    obtain ⟨n, rfl⟩ : ∃ m, n = m + 1 := ⟨n - 1, by omega⟩
    have h : t = 6 := by omega
    subst h
    rw [L6_remembers_102, show ((6 : Int32) = nI 6) from rfl, if_pos (nI_le (Nat.le_refl _) (by omega))]
  | succ d ih =>
    intro t n ht hd
    obtain ⟨n, rfl⟩ : ∃ m, n = m + 1 := ⟨n - 1, by omega⟩
    have ih' := ih (t + 1) n (by omega) (by omega)
    rw [← cpy_step book (s := 68) (dd := x + 8) (t := t) (by omega)] at ih'
    rw [L6_remembers_102, show ((6 : Int32) = nI 6) from rfl, if_neg (nI_ge (by omega) (by omega)), show ((68 : Int32) = nI 68) from rfl, show ((8 : Int32) = nI 8) from rfl, nI_add, nI_add, nI_add, zg_n (by omega) (by omega), zl_e, zg_n (by omega) (by omega), nI_clamp (by omega), nI_clamp (by omega), nI_1, pk_cpy_out (by omega)]
    exact ih'
theorem v6_rem13e (book : Nat → Int32) (k : (Nat → Int32) → Option (Nat → Int32)) : L6_remembers_13 k FU (0 : Int32) book = k (va_cpy book book 111 94 119) := by
  have h := v6_rem13 book k 119 0 FU (by omega) (by unfold FU; omega)
  rw [cpy_0] at h
  exact h
theorem v6_rem71e (book : Nat → Int32) (k : (Nat → Int32) → Option (Nat → Int32)) {x : Nat} (hx : 94 ≤ x ∧ x + 17 ≤ 230) : L6_remembers_71 k (nI x) FU (0 : Int32) book = k (va_cpy book book 36 x 8) := by
  have h := v6_rem71 book k hx 8 0 FU (by omega) (by unfold FU; omega)
  rw [cpy_0] at h
  exact h
theorem v6_rem102e (book : Nat → Int32) (k : (Nat → Int32) → Option (Nat → Int32)) {x : Nat} (hx : 94 ≤ x ∧ x + 17 ≤ 230) : L6_remembers_102 k (nI x) FU (0 : Int32) book = k (va_cpy book book 68 (x + 8) 6) := by
  have h := v6_rem102 book k hx 6 0 FU (by omega) (by unfold FU; omega)
  rw [cpy_0] at h
  exact h
/-- the book before the new entry is laid: n1 entries stand -/
def rmA (book : Nat → Int32) (nm : Nat) : Nat → Int32 := if nm = 8 then upd (va_cpy book book 111 94 119) 3 (nI 7) else book
def rmN (nm : Nat) : Nat := if nm = 8 then 7 else nm
def rmB (b : Nat → Int32) (n1 : Nat) : Nat → Int32 :=
  upd (upd (upd (upd (va_cpy (va_cpy b b 36 (94 + 17 * n1) 8) (va_cpy b b 36 (94 + 17 * n1) 8) 68 (94 + 17 * n1 + 8) 6) (94 + 17 * n1 + 14) (b 2)) (94 + 17 * n1 + 15) (b 92)) (94 + 17 * n1 + 16) (b 93)) 3 (nI (n1 + 1))
theorem Bk.remembers {B nt ng d nm : Nat} {book : Nat → Int32} (h : Bk B book nt ng d nm) : f6_remembers book = some (rmB (rmA book nm) (rmN nm)) := by
  obtain ⟨⟨hn1, hn2, hn3, hd, hB⟩, ⟨h0, h1, h2, h3⟩, -⟩ := h
  have step1 : (if book 3 = (8 : Int32) then L6_remembers_13 (fun book_35 => zl ((book_35 3) - (1 : Int32)) (fun x36 => some (upd book_35 3 x36))) FU (0 : Int32) book else some book) = some (rmA book nm) := by
    unfold rmA
    by_cases c : nm = 8
    · have e : book 3 = (8 : Int32) := by rw [h3, c]; rfl
      rw [if_pos e, if_pos c, v6_rem13e, zl_e, pk_cpy_out (by omega), e]
      rfl
    · have e : ¬ book 3 = (8 : Int32) := by
        rw [h3]
        exact fun x => c ((nI_eq (b := 8) (by omega) (by decide)).mp x)
      rw [if_neg e, if_neg c]
  have hA3 : rmA book nm 3 = nI (rmN nm) := by
    unfold rmA rmN
    by_cases c : nm = 8
    · rw [if_pos c, if_pos c, pk_us]
    · rw [if_neg c, if_neg c, h3]
  have hN : rmN nm ≤ 7 := by unfold rmN; split <;> omega
  unfold f6_remembers
  rw [step1, zb1_e, hA3]
  generalize rmA book nm = b at hA3
  generalize rmN nm = n1 at hN hA3
  rw [zl_e, show ((94 : Int32) = nI 94) from rfl, show ((17 : Int32) = nI 17) from rfl, pk_mul, nI_add]
  rw [v6_rem71e _ _ ⟨by omega, by omega⟩, v6_rem102e _ _ ⟨by omega, by omega⟩, zl_e, show ((14 : Int32) = nI 14) from rfl, show ((15 : Int32) = nI 15) from rfl, show ((16 : Int32) = nI 16) from rfl, show ((1 : Int32) = nI 1) from rfl]
  simp (disch := omega) only [nI_add, zg_n, zl_e, nI_clamp, pk_un, pk_cpy_out]
  have hb : b 3 = nI n1 := hA3
  rw [hb, nI_add]
  rfl
