/-! ===== pure side 23: hide ===== -/
def pcN (S : Nat) : Nat → Nat
  | 0 => 0
  | t + 1 => pcN S t + S / 2 ^ t % 2
theorem pcN_le (S : Nat) : ∀ n, pcN S n ≤ n
  | 0 => Nat.le_refl _
  | n + 1 => by
    have := pcN_le S n
    rw [pcN]
    omega
theorem v6_bits {S : Nat} (hS : S < 2 ^ 31) : f6_bits (nI S) = some (nI (pcN S 8)) := by
  have key : ∀ (k : Int32 → Option Int32) (d t n : Nat), t + d = 8 → d < n → L6_bits_4 k (nI S) n (nI (pcN S t)) (nI t) = k (nI (pcN S 8)) := by
    intro k d
    induction d with
    | zero =>
      intro t n ht hd
      obtain ⟨n, rfl⟩ : ∃ m, n = m + 1 := ⟨n - 1, by omega⟩
      have h : t = 8 := by omega
      subst h
      rw [L6_bits_4, show ((8 : Int32) = nI 8) from rfl, if_pos (nI_le (Nat.le_refl _) (by omega))]
    | succ d ih =>
      intro t n ht hd
      obtain ⟨n, rfl⟩ : ∃ m, n = m + 1 := ⟨n - 1, by omega⟩
      have ih' := ih (t + 1) n (by omega) (by omega)
      rw [L6_bits_4, show ((8 : Int32) = nI 8) from rfl, if_neg (nI_ge (by omega) (by omega)), nI_1, show (31 : Int32) = nI 31 from rfl, show ((1 : Int32) = nI 1) from rfl, zshr hS (by omega), zbit _ (by have := Nat.div_le_self S (2 ^ t); omega), nI_add, zl_e]
      exact ih'
  exact key (fun y6 => some y6) 8 0 FU (by omega) (by unfold FU; omega)
theorem v6_bitCount : ∀ t, t < 256 → f6_bitCount_0f7a4 (nI t) = some (nI (pcN t 8)) := by decide +kernel
theorem sub_le {t M : Nat} (ht : t < 2 ^ 31) (hM : M < 2 ^ 31) (h : (nI t &&& (nI M ^^^ (-1 : Int32))) = 0) : t ≤ M := by
  have e : nI t = nI t &&& nI M := by
    have h1 := congrArg Int32.toBitVec h
    apply Int32.toBitVec_inj.mp
    rw [Int32.toBitVec_and, Int32.toBitVec_xor] at h1
    rw [Int32.toBitVec_and]
    generalize (nI t).toBitVec = a at *
    generalize (nI M).toBitVec = b at *
    have h2 : (-1 : Int32).toBitVec = BitVec.allOnes 32 := by decide
    have h3 : (0 : Int32).toBitVec = 0#32 := by decide
    rw [h2, h3] at h1
    apply BitVec.eq_of_getLsbD_eq
    intro i hi
    have h4 := congrArg (fun x => x.getLsbD i) h1
    simp only [BitVec.getLsbD_and, BitVec.getLsbD_xor, BitVec.getLsbD_allOnes, hi, decide_true, BitVec.getLsbD_zero] at h4 ⊢
    revert h4
    generalize a.getLsbD i = u
    generalize b.getLsbD i = v
    revert u v
    decide
  rw [fa_and] at e
  have h5 : t &&& M < 2 ^ 31 := Nat.and_lt_two_pow _ hM
  have h6 := (nI_eq ht h5).mp e
  rw [h6]
  exact Nat.and_le_right
