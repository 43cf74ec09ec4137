/-! ===== pure side 24: hide, the search ===== -/
def hidI (book : Nat → Int32) (nt d g hr : Nat) (y3 y4 y1 y2 : Int32) : Prop :=
  (y3 = zNone ∧ y4 = nI 0 ∧ y1 = zNone ∧ y2 = zNone) ∨ ∃ b, b < 2 ^ nt ∧ y3 = nI b ∧ y1 = nI b ∧ y4 = nI (lssN book nt d g b hr) ∧ y2 = nI (lssN book nt d g b hr)
theorem none_lt {n : Nat} (h : n < 2 ^ 31) : zNone < nI n := by
  rw [z_ltI, nI_toInt h]
  have : zNone.toInt = -1 := by decide
  omega
theorem Bk.lle {B nt ng d nm : Nat} {book : Nat → Int32} (h : Bk B book nt ng d nm) {g S hr : Nat} : lssN book nt d g S hr < 2 ^ 31 := by
  have := h.hle (g := g) (S := S)
  unfold lssN
  omega
/-- the model's step where the set may not be taken -/
theorem hid_tail {B nt ng d nm : Nat} {book : Nat → Int32} (h : Bk B book nt ng d nm) {g hr M : Nat} (hM : M < 2 ^ nt) (hg : g < ng) (k : Int32 → Int32 → Option (Int32 × (Nat → Int32))) {y1 y2 : Int32} (hy : ¬ y2 < zNone) : ∀ (m t n : Nat), t + m = 2 ^ nt → m < n → M < t → L6_hide_55 k book (nI g) (nI hr) (nI M) n y1 y2 (nI t) = k y1 y2 := by
  have hn1 := h.1.1
  have h8 := pow8 hn1
  have e31 : (1 : Int32) <<< (nI nt &&& 31) = nI (2 ^ nt) := zshl (by omega)
  intro m
  induction m with
  | zero =>
    intro t n ht hm hMt
    obtain ⟨n, rfl⟩ : ∃ m, n = m + 1 := ⟨n - 1, by omega⟩
    rw [L6_hide_55, h.2.1.1, e31, if_pos (nI_le (by omega) (by omega))]
  | succ m ih =>
    intro t n ht hm hMt
    obtain ⟨n, rfl⟩ : ∃ m, n = m + 1 := ⟨n - 1, by omega⟩
    rw [L6_hide_55, h.2.1.1, e31, if_neg (nI_ge (by omega) (by omega)), if_neg (fun e => absurd (sub_le (by omega) (by omega) e) (by omega)), zb1_e, if_pos rfl, zb1_e]
    rw [if_neg hy, if_pos rfl, zb1_e, if_pos rfl, zb1_e, if_pos rfl, nI_1]
    exact ih (t + 1) n (by omega) (by omega) (by omega)
