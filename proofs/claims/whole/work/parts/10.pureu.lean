/-! ===== pure side 31: copies of a war ===== -/
theorem Bk.mono {B nt ng d nm : Nat} {book : Nat → Int32} {B2 : Nat} (h : Bk B book nt ng d nm) (h2 : B ≤ B2) (h3 : B2 ≤ 1000) : Bk B2 book nt ng d nm := by
  obtain ⟨⟨hn1, hn2, hn3, hd, hB⟩, hc, hth, hin, hgi, hci, hwa, hpa⟩ := h
  exact ⟨⟨hn1, hn2, hn3, by omega, h3⟩, hc, hth, hin, hgi, hci, hwa, fun k hk => ⟨(hpa k hk).1, (hpa k hk).2.1, (hpa k hk).2.2.1, by have := (hpa k hk).2.2.2; omega⟩⟩
theorem Bk.cong {B nt ng d nm : Nat} {book : Nat → Int32} {b2 : Nat → Int32} (h : Bk B book nt ng d nm) (e : ∀ k, k < 230 → b2 k = book k) : Bk B b2 nt ng d nm := by
  obtain ⟨⟨hn1, hn2, hn3, hd, hB⟩, ⟨h0, h1, h2, h3⟩, hth, hin, hgi, hci, hwa, hpa⟩ := h
  refine ⟨⟨hn1, hn2, hn3, hd, hB⟩, ⟨?_, ?_, ?_, ?_⟩, ?_, ?_, ?_, ?_, ?_, ?_⟩
  · rw [e 0 (by omega), h0]
  · rw [e 1 (by omega), h1]
  · rw [e 2 (by omega), h2]
  · rw [e 3 (by omega), h3]
  · intro t ht w hw
    rw [e _ (by omega)]
    exact hth t ht w hw
  · intro t ht
    rw [e _ (by omega)]
    exact hin t ht
  · intro g hg
    rw [e (44 + g) (by omega), e (50 + g) (by omega), e (56 + g) (by omega), e (62 + g) (by omega), e (68 + g) (by omega)]
    exact hgi g hg
  · intro c hc
    rw [e (74 + 3 * c) (by omega), e (74 + 3 * c + 1) (by omega), e (74 + 3 * c + 2) (by omega)]
    exact hci c hc
  · intro k hk
    rw [e _ (by omega)]
    exact hwa k hk
  · intro k hk
    refine ⟨fun t ht => ?_, fun g hg => ?_, ?_⟩
    · rw [e _ (by omega)]
      exact (hpa k hk).1 t ht
    · rw [e _ (by omega)]
      exact (hpa k hk).2.1 g hg
    · rw [e _ (by omega)]
      exact (hpa k hk).2.2
theorem Rw.cong {B nt ng d nm : Nat} {book : Nat → Int32} {things gifts days : Int32} {size weight sound harm in_ kind owner empty room told gate ear scale lost watch : Nat → Int32} {moments : Int32} {kept : Nat → Int32} (h : Bk B book nt ng d nm) (r : Rw things gifts days size weight sound harm in_ kind owner empty room told gate ear scale lost watch moments kept book nt ng nm) {b2 : Nat → Int32} (e : ∀ k, k < 230 → b2 k = book k) : Rw things gifts days size weight sound harm in_ kind owner empty room told gate ear scale lost watch moments kept b2 nt ng nm := by
  have hn1 := h.1.1
  have hn2 := h.1.2.1
  have hn3 := h.1.2.2.1
  obtain ⟨⟨h0, h1, h2, h3⟩, hth, hgi, hci, hwa, hpa⟩ := r
  refine ⟨⟨?_, ?_, ?_, ?_⟩, ?_, ?_, ?_, ?_, ?_⟩
  · rw [e 0 (by omega), h0]
  · rw [e 1 (by omega), h1]
  · rw [e 2 (by omega), h2]
  · rw [e 3 (by omega), h3]
  · intro t ht
    rw [e (4 + 4 * t + 0) (by omega), e (4 + 4 * t + 1) (by omega), e (4 + 4 * t + 2) (by omega), e (4 + 4 * t + 3) (by omega), e (36 + t) (by omega)]
    exact hth t ht
  · intro g hg
    rw [e (44 + g) (by omega), e (50 + g) (by omega), e (56 + g) (by omega), e (62 + g) (by omega), e (68 + g) (by omega)]
    exact hgi g hg
  · intro c hc
    rw [e (74 + 3 * c) (by omega), e (74 + 3 * c + 1) (by omega), e (74 + 3 * c + 2) (by omega), e (92 + c) (by omega)]
    exact hci c hc
  · intro k hk
    rw [e _ (by omega)]
    exact hwa k hk
  · intro k hk
    refine ⟨fun t ht => ?_, fun g hg => ?_, ?_⟩
    · rw [e _ (by omega)]
      exact (hpa k hk).1 t ht
    · rw [e _ (by omega)]
      exact (hpa k hk).2.1 g hg
    · rw [e (94 + 17 * k + 15) (by omega), e (94 + 17 * k + 16) (by omega), e (94 + 17 * k + 14) (by omega)]
      exact (hpa k hk).2.2
theorem v5_copyInts (f g : Nat → Int32) {n : Nat} (hn : n < 1000) : f5_copyInts f g n n = some (va_cpy f g 0 0 n) := by
  unfold f5_copyInts
  have e : (if Int32.ofNat n < Int32.ofNat n then Int32.ofNat n else Int32.ofNat n) = nI n := by
    split <;> rfl
  rw [e, zl_e, show (0 : Int32) = nI 0 from rfl, zgc_n hn (by omega) (by omega) hn, nI_clamp (by omega)]
theorem cp_k {f g : Nat → Int32} {n k : Nat} (h : k < n) : va_cpy f g 0 0 n k = f k := by
  rw [pk_cpy_in (by omega) (by omega)]
  congr 1
  omega
theorem e_copy {B nt ng d nm : Nat} {book : Nat → Int32} {things gifts days : Int32} {size weight sound harm in_ kind owner empty room told gate ear scale lost watch : Nat → Int32} {moments : Int32} {kept : Nat → Int32} (h : Bk B book nt ng d nm) (r : Rw things gifts days size weight sound harm in_ kind owner empty room told gate ear scale lost watch moments kept book nt ng nm) (things1 gifts1 days1 : Int32) (size1 weight1 sound1 harm1 in1 kind1 owner1 empty1 room1 told1 gate1 ear1 scale1 lost1 watch1 : Nat → Int32) (moments1 : Int32) (kept1 : Nat → Int32) :
    ∃ (size2 weight2 sound2 harm2 in2 kind2 owner2 empty2 room2 told2 gate2 ear2 scale2 lost2 watch2 : Nat → Int32) (kept2 : Nat → Int32),
      f4_copyFrom things1 gifts1 days1 size1 weight1 sound1 harm1 in1 kind1 owner1 empty1 room1 told1 gate1 ear1 scale1 lost1 watch1 moments1 kept1 things gifts days size weight sound harm in_ kind owner empty room told gate ear scale lost watch moments kept = some (things, gifts, days, size2, weight2, sound2, harm2, in2, kind2, owner2, empty2, room2, told2, gate2, ear2, scale2, lost2, watch2, moments, kept2) ∧
      Rw things gifts days size2 weight2 sound2 harm2 in2 kind2 owner2 empty2 room2 told2 gate2 ear2 scale2 lost2 watch2 moments kept2 book nt ng nm := by
  have hn1 := h.1.1
  have hn2 := h.1.2.1
  have hn3 := h.1.2.2.1
  refine ⟨va_cpy size size1 0 0 8, va_cpy weight weight1 0 0 8, va_cpy sound sound1 0 0 8, va_cpy harm harm1 0 0 8, va_cpy in_ in1 0 0 8, va_cpy kind kind1 0 0 6, va_cpy owner owner1 0 0 6, va_cpy empty empty1 0 0 6, va_cpy room room1 0 0 6, va_cpy told told1 0 0 6, va_cpy gate gate1 0 0 2, va_cpy ear ear1 0 0 2, va_cpy scale scale1 0 0 2, va_cpy lost lost1 0 0 2, va_cpy watch watch1 0 0 12, va_cpy kept kept1 0 0 136, ?_, ?_⟩
  · unfold f4_copyFrom
    rw [v5_copyInts _ _ (by decide), zb1_e, v5_copyInts _ _ (by decide), zb1_e, v5_copyInts _ _ (by decide), zb1_e, v5_copyInts _ _ (by decide), zb1_e, v5_copyInts _ _ (by decide), zb1_e, v5_copyInts _ _ (by decide), zb1_e, v5_copyInts _ _ (by decide), zb1_e, v5_copyInts _ _ (by decide), zb1_e, v5_copyInts _ _ (by decide), zb1_e, v5_copyInts _ _ (by decide), zb1_e, v5_copyInts _ _ (by decide), zb1_e, v5_copyInts _ _ (by decide), zb1_e, v5_copyInts _ _ (by decide), zb1_e, v5_copyInts _ _ (by decide), zb1_e, v5_copyInts _ _ (by decide), zb1_e, v5_copyInts _ _ (by decide), zb1_e]
  · obtain ⟨hc, hth, hgi, hci, hwa, hpa⟩ := r
    refine ⟨hc, ?_, ?_, ?_, ?_, ?_⟩
    · intro t ht
      rw [cp_k (by omega), cp_k (by omega), cp_k (by omega), cp_k (by omega), cp_k (by omega)]
      exact hth t ht
    · intro g hg
      rw [cp_k (by omega), cp_k (by omega), cp_k (by omega), cp_k (by omega), cp_k (by omega)]
      exact hgi g hg
    · intro c hc
      rw [cp_k (by omega), cp_k (by omega), cp_k (by omega), cp_k (by omega)]
      exact hci c hc
    · intro k hk
      rw [cp_k (by omega)]
      exact hwa k hk
    · intro k hk
      refine ⟨fun t ht => ?_, fun g hg => ?_, ?_⟩
      · rw [cp_k (by omega)]
        exact (hpa k hk).1 t ht
      · rw [cp_k (by omega)]
        exact (hpa k hk).2.1 g hg
      · rw [cp_k (by omega), cp_k (by omega), cp_k (by omega)]
        exact (hpa k hk).2.2
theorem cpy_step2 (f g : Nat → Int32) {s dd t : Nat} : upd (va_cpy f g s dd t) (dd + t) (f (s + t)) = va_cpy f g s dd (t + 1) := by
  funext i
  unfold upd va_cpy
  by_cases e : i = dd + t
  · subst e
    rw [if_pos rfl, if_pos (by omega)]
    congr 1
    omega
  · rw [if_neg e]
    by_cases c : dd ≤ i ∧ i < dd + t
    · rw [if_pos c, if_pos (by omega)]
    · rw [if_neg c, if_neg (by omega)]
theorem cpy_00 (f g : Nat → Int32) (s dd : Nat) : va_cpy f g s dd 0 = g := by
  funext i
  unfold va_cpy
  rw [if_neg (by omega)]
theorem v6_img (book images : Nat → Int32) {i : Nat} (hi : i < 2) (k : (Nat → Int32) → Option (Int32 × (Nat → Int32) × (Nat → Int32) × (Nat → Int32))) : ∀ (m t n : Nat), t + m = 230 → m < n → L6_image_17 k book (nI i) n (nI t) (va_cpy book images 0 (230 * i) t) = k (va_cpy book images 0 (230 * i) 230) := by
  intro m
  induction m with
  | zero =>
    intro t n ht hm
    obtain ⟨n, rfl⟩ : ∃ m, n = m + 1 := ⟨n - 1, by omega⟩
    have e : t = 230 := by omega
    subst e
    rw [L6_image_17, if_pos (by decide)]
  | succ m ih =>
    intro t n ht hm
    obtain ⟨n, rfl⟩ : ∃ m, n = m + 1 := ⟨n - 1, by omega⟩
    have i1 := ih (t + 1) n (by omega) (by omega)
    have st := cpy_step2 book images (s := 0) (dd := 230 * i) (t := t)
    rw [Nat.zero_add] at st
    rw [L6_image_17, if_neg (show ¬ (230 : Int32) ≤ nI t from nI_ge (b := 230) (by omega) (by omega)), zg_n (by omega) (by decide), zl_e, show (230 : Int32) = nI 230 from rfl, pk_mul, nI_add, zg_n (by omega) (by decide), nI_clamp (by omega), nI_clamp (by omega), st, nI_1]
    exact i1
theorem v6_frm (book images : Nat → Int32) {i : Nat} (hi : i < 2) (k : (Nat → Int32) → Option (Int32 × (Nat → Int32) × (Nat → Int32))) : ∀ (m t n : Nat), t + m = 230 → m < n → L6_from_31 k images (nI i) n (nI t) (va_cpy images book (230 * i) 0 t) = k (va_cpy images book (230 * i) 0 230) := by
  intro m
  induction m with
  | zero =>
    intro t n ht hm
    obtain ⟨n, rfl⟩ : ∃ m, n = m + 1 := ⟨n - 1, by omega⟩
    have e : t = 230 := by omega
    subst e
    rw [L6_from_31, if_pos (by decide)]
  | succ m ih =>
    intro t n ht hm
    obtain ⟨n, rfl⟩ : ∃ m, n = m + 1 := ⟨n - 1, by omega⟩
    have i1 := ih (t + 1) n (by omega) (by omega)
    have st := cpy_step2 images book (s := 230 * i) (dd := 0) (t := t)
    rw [Nat.zero_add] at st
    rw [L6_from_31, if_neg (show ¬ (230 : Int32) ≤ nI t from nI_ge (b := 230) (by omega) (by omega)), show (230 : Int32) = nI 230 from rfl, pk_mul, nI_add, zg_n (by omega) (by decide), zl_e, nI_clamp (by omega), zg_n (by omega) (by decide), nI_clamp (by omega), st, nI_1]
    exact i1
