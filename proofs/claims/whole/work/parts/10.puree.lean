/-! ===== pure side 15: a gift is sent ===== -/
def frC (in_ : Nat → Int32) (S t : Nat) : Nat → Int32 := fun k => if k < t ∧ S / 2 ^ k % 2 = 1 then zNone else in_ k
def frM (book : Nat → Int32) (v : Int32) (t : Nat) : Nat → Int32 := fun k => if 36 ≤ k ∧ k < 36 + t ∧ book k = v then zNone else book k
theorem v4_freeThings {nt S : Nat} (hn : nt ≤ 8) (hS : S < 2 ^ nt) (in_ : Nat → Int32) : f4_freeThings (nI nt) in_ (nI S) = some (frC in_ S nt) := by
  have hS2 : S < 2 ^ 31 := by have := pow8 hn; omega
  have key : ∀ (k : (Nat → Int32) → Option (Nat → Int32)) (d t n : Nat), t + d = nt → d < n → L4_freeThings_2 k (nI nt) (nI S) n (nI t) (frC in_ S t) = k (frC in_ S nt) := by
    intro k d
    induction d with
    | zero =>
      intro t n ht hd
      obtain ⟨n, rfl⟩ : ∃ m, n = m + 1 := ⟨n - 1, by omega⟩
      have h : t = nt := by omega
      subst h
      rw [L4_freeThings_2, if_pos (nI_le (Nat.le_refl _) (by omega))]
    | succ d ih =>
      intro t n ht hd
      obtain ⟨n, rfl⟩ : ∃ m, n = m + 1 := ⟨n - 1, by omega⟩
      have ih' := ih (t + 1) n (by omega) (by omega)
      rw [L4_freeThings_2, if_neg (nI_ge (by omega) (by omega)), show (31 : Int32) = nI 31 from rfl, show ((1 : Int32) = nI 1) from rfl, show ((0 : Int32) = nI 0) from rfl, zshr hS2 (by omega), zbit _ (by have := Nat.div_le_self S (2 ^ t); omega), nI_add]
      rcases Nat.mod_two_eq_zero_or_one (S / 2 ^ t) with c | c
      · have e : frC in_ S (t + 1) = frC in_ S t := by
          funext k
          unfold frC
          by_cases g : k = t
          · subst g
            simp [c]
          · have : (k < t + 1) = (k < t) := by rw [eq_iff_iff]; omega
            simp only [this]
        rw [c, if_pos rfl, ← e]
        exact ih'
      · have e : frC in_ S (t + 1) = upd (frC in_ S t) t zNone := by
          funext k
          unfold frC upd
          by_cases g : k = t
          · subst g
            simp [c]
          · have : (k < t + 1) = (k < t) := by rw [eq_iff_iff]; omega
            simp [this, g]
        rw [c, if_neg (by rw [nI_eq (by omega) (by omega)]; omega), zg_n (by omega) (by omega), nI_clamp (by omega), show -(nI 1) = zNone from rfl, ← e]
        exact ih'
  unfold f4_freeThings
  have h0 : frC in_ S 0 = in_ := by
    funext k
    unfold frC
    simp
  have h := key (fun in_7 => some in_7) nt 0 FU (by omega) (by unfold FU; omega)
  rw [h0] at h
  exact h
theorem v6_free {nt : Nat} (hn : nt ≤ 8) (book : Nat → Int32) (h0 : book 0 = nI nt) (v r5 : Int32) (h5 : ¬ r5 = 0) (k : (Nat → Int32) → Option (Int32 × (Nat → Int32))) : L6_sends_57 k v r5 FU (0 : Int32) book = k (frM book v nt) := by
  have key : ∀ (d t n : Nat), t + d = nt → d < n → L6_sends_57 k v r5 n (nI t) (frM book v t) = k (frM book v nt) := by
    intro d
    induction d with
    | zero =>
      intro t n ht hd
      obtain ⟨n, rfl⟩ : ∃ m, n = m + 1 := ⟨n - 1, by omega⟩
      have h : t = nt := by omega
      subst h
      have e0 : frM book v t 0 = nI t := by unfold frM; rw [if_neg (by omega), h0]
      rw [L6_sends_57, e0, if_pos (nI_le (Nat.le_refl _) (by omega))]
    | succ d ih =>
      intro t n ht hd
      obtain ⟨n, rfl⟩ : ∃ m, n = m + 1 := ⟨n - 1, by omega⟩
      have ih' := ih (t + 1) n (by omega) (by omega)
      have e0 : frM book v t 0 = nI nt := by unfold frM; rw [if_neg (by omega), h0]
      have e1 : frM book v t (36 + t) = book (36 + t) := by unfold frM; rw [if_neg (by omega)]
      rw [L6_sends_57, e0, if_neg (nI_ge (by omega) (by omega)), if_neg h5, show ((36 : Int32) = nI 36) from rfl, nI_add, zg_n (by omega) (by omega), zg_n (by omega) (by omega), zg_n (by omega) (by omega), nI_clamp (by omega), e1, nI_1]
      by_cases c : book (36 + t) = v
      · have e : frM book v (t + 1) = upd (frM book v t) (36 + t) zNone := by
          funext k
          unfold frM upd
          by_cases g : k = 36 + t
          · subst g
            rw [if_pos rfl, if_pos ⟨by omega, by omega, c⟩]
          · rw [if_neg g]
            have : (k < 36 + (t + 1)) = (k < 36 + t ∨ k = 36 + t) := by rw [eq_iff_iff]; omega
            simp [this, g]
        rw [if_pos c, zm1, ← e]
        exact ih'
      · have e : frM book v (t + 1) = upd (frM book v t) (36 + t) (book (36 + t)) := by
          funext k
          unfold frM upd
          by_cases g : k = 36 + t
          · subst g
            rw [if_pos rfl, if_neg (fun x => c x.2.2)]
          · rw [if_neg g]
            have : (k < 36 + (t + 1)) = (k < 36 + t ∨ k = 36 + t) := by rw [eq_iff_iff]; omega
            simp [this, g]
        rw [if_neg c, zl_e, zg_n (by omega) (by omega), ← e]
        exact ih'
  have hz : frM book v 0 = book := by
    funext k
    unfold frM
    rw [if_neg (by omega)]
  have h := key nt 0 FU (by omega) (by unfold FU; omega)
  rw [hz] at h
  exact h
/-- nothing passes: the loop goes by -/
theorem v6_free0 {nt : Nat} (hn : nt ≤ 8) (book : Nat → Int32) (h0 : book 0 = nI nt) (v : Int32) (k : (Nat → Int32) → Option (Int32 × (Nat → Int32))) : L6_sends_57 k v 0 FU (0 : Int32) book = k book := by
  unfold FU
  rw [L6_sends_57, if_pos (show (0 : Int32) = 0 from rfl)]
  split <;> rfl
theorem set_bit {book : Nat → Int32} {nt t : Nat} {v : Int32} (ht : t < nt) : (zSet book nt v / 2 ^ t % 2 = 1) ↔ book (36 + t) = v := by
  have h := bs_tb (fun t => decide (book (36 + t) = v)) nt t
  rw [Nat.testBit_eq_decide_div_mod_eq] at h
  unfold zSet
  simp [ht] at h
  exact h
theorem Bk.free {B nt ng d nm : Nat} {book : Nat → Int32} (h : Bk B book nt ng d nm) (v : Int32) : Bk B (frM book v nt) nt ng d nm := by
  have lo : ∀ k, (k < 36 ∨ 44 ≤ k) → frM book v nt k = book k := fun k hk => by
    have := h.1.1
    unfold frM
    rw [if_neg (by omega)]
  obtain ⟨⟨hn1, hn2, hn3, hd, hB⟩, ⟨h0, h1, h2, h3⟩, hth, hin, hgi, hci, hwa, hpa⟩ := h
  refine ⟨⟨hn1, hn2, hn3, hd, hB⟩, ⟨?_, ?_, ?_, ?_⟩, ?_, ?_, ?_, ?_, ?_, ?_⟩
  · rw [lo _ (by omega), h0]
  · rw [lo _ (by omega), h1]
  · rw [lo _ (by omega), h2]
  · rw [lo _ (by omega), h3]
  · intro t ht w hw
    rw [lo _ (by omega)]
    exact hth t ht w hw
  · intro t ht
    unfold frM
    split
    · exact Or.inl rfl
    · exact hin t ht
  · intro g hg
    rw [lo _ (by omega), lo _ (by omega), lo _ (by omega), lo _ (by omega), lo _ (by omega)]
    exact hgi g hg
  · intro g hg
    rw [lo _ (by omega), lo _ (by omega), lo _ (by omega)]
    exact hci g hg
  · intro g hg
    rw [lo _ (by omega)]
    exact hwa g hg
  · intro k hk
    have hp := hpa k hk
    refine ⟨fun t ht => ?_, fun g hg => ?_, ?_⟩
    · rw [lo _ (by omega)]
      exact hp.1 t ht
    · rw [lo _ (by omega)]
      exact hp.2.1 g hg
    · rw [lo _ (by omega)]
      exact hp.2.2
theorem Rw.free {B nt ng d nm : Nat} {book : Nat → Int32} {things gifts days : Int32} {size weight sound harm in_ kind owner empty room told gate ear scale lost watch : Nat → Int32} {moments : Int32} {kept : Nat → Int32} (h : Bk B book nt ng d nm) (r : Rw things gifts days size weight sound harm in_ kind owner empty room told gate ear scale lost watch moments kept book nt ng nm) (v : Int32) : Rw things gifts days size weight sound harm (frC in_ (zSet book nt v) nt) kind owner empty room told gate ear scale lost watch moments kept (frM book v nt) nt ng nm := by
  have lo : ∀ k, (k < 36 ∨ 44 ≤ k) → frM book v nt k = book k := fun k hk => by
    have := h.1.1
    unfold frM
    rw [if_neg (by omega)]
  obtain ⟨⟨hn1, hn2, hn3, hd, hB⟩, -⟩ := h
  obtain ⟨⟨r0, r1, r2, r3⟩, rt, rgg, rc, rw_, rp⟩ := r
  refine ⟨⟨?_, ?_, ?_, ?_⟩, ?_, ?_, ?_, ?_, ?_⟩
  · rw [lo _ (by omega), r0]
  · rw [lo _ (by omega), r1]
  · rw [lo _ (by omega), r2]
  · rw [lo _ (by omega), r3]
  · intro t ht
    rw [lo _ (by omega), lo _ (by omega), lo _ (by omega), lo _ (by omega)]
    have rt := rt t ht
    refine ⟨rt.1, rt.2.1, rt.2.2.1, rt.2.2.2.1, ?_⟩
    unfold frC frM
    by_cases c : book (36 + t) = v
    · rw [if_pos ⟨ht, (set_bit ht).mpr c⟩, if_pos ⟨by omega, by omega, c⟩]
    · rw [if_neg (fun x => c ((set_bit ht).mp x.2)), if_neg (fun x => c x.2.2)]
      exact rt.2.2.2.2
  · intro g hg
    rw [lo _ (by omega), lo _ (by omega), lo _ (by omega), lo _ (by omega), lo _ (by omega)]
    exact rgg g hg
  · intro g hg
    rw [lo _ (by omega), lo _ (by omega), lo _ (by omega), lo _ (by omega)]
    exact rc g hg
  · intro g hg
    rw [lo _ (by omega)]
    exact rw_ g hg
  · intro k hk
    have hp := rp k hk
    refine ⟨fun t ht => ?_, fun g hg => ?_, ?_, ?_, ?_⟩
    · rw [lo _ (by omega)]
      exact hp.1 t ht
    · rw [lo _ (by omega)]
      exact hp.2.1 g hg
    · rw [lo _ (by omega)]
      exact hp.2.2.1
    · rw [lo _ (by omega)]
      exact hp.2.2.2.1
    · rw [lo _ (by omega)]
      exact hp.2.2.2.2
