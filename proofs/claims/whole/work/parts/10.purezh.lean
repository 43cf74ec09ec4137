/-! ===== pure side 44: read, an empty war ===== -/
theorem v6_emp0 (k : (Nat → Int32) → Option (Nat → Int32)) : ∀ (m t fu : Nat) (b : Nat → Int32), t + m = 230 → m < fu → (∀ j, j < t → b j = 0) → ∃ b' : Nat → Int32, (∀ j, j < 230 → b' j = 0) ∧ L6_empties_2 k fu (nI t) b = k b' := by
  intro m
  induction m with
  | zero =>
    intro t fu b ht hm hb
    obtain ⟨fu, rfl⟩ : ∃ m, fu = m + 1 := ⟨fu - 1, by omega⟩
    have e : t = 230 := by omega
    subst e
    exact ⟨b, hb, by rw [L6_empties_2, if_pos (by decide)]⟩
  | succ m ih =>
    intro t fu b ht hm hb
    obtain ⟨fu, rfl⟩ : ∃ m, fu = m + 1 := ⟨fu - 1, by omega⟩
    obtain ⟨b', e1, e2⟩ := ih (t + 1) fu (upd b t 0) (by omega) (by omega) (fun j hj => by
      by_cases e : j = t
      · rw [e, pk_us]
      · rw [pk_un (by omega)]
        exact hb j (by omega))
    refine ⟨b', e1, ?_⟩
    rw [L6_empties_2, if_neg (show ¬ (230 : Int32) ≤ nI t from nI_ge (b := 230) (by omega) (by omega)), zg_n (by omega) (by decide), nI_clamp (by omega), nI_1]
    exact e2
def em3 (b : Nat → Int32) (c : Nat) : Nat → Int32 := upd (upd (upd b (74 + 3 * c) (nI 15)) (74 + 3 * c + 1) (nI 10)) (74 + 3 * c + 2) (nI 60)
theorem v6_empties (book : Nat → Int32) : ∃ b' : Nat → Int32, f6_empties book = some b' ∧ (∀ j, j < 230 → (j < 74 ∨ 80 ≤ j) → b' j = nI 0) ∧ (∀ c, c < 2 → b' (74 + 3 * c) = nI 15 ∧ b' (74 + 3 * c + 1) = nI 10 ∧ b' (74 + 3 * c + 2) = nI 60) := by
  obtain ⟨b0, e1, e2⟩ := v6_emp0 (fun book_6 => L6_empties_24 (fun book_14 => some book_14) FU (0 : Int32) book_6) 230 0 FU book (by omega) (by unfold FU; omega) (fun j hj => absurd hj (by omega))
  rw [show nI 0 = (0 : Int32) from rfl] at e2
  have st : ∀ (c fu : Nat) (b : Nat → Int32), c < 2 → L6_empties_24 (fun book_14 => some book_14) (fu + 1) (nI c) b = L6_empties_24 (fun book_14 => some book_14) fu (nI (c + 1)) (em3 b c) := by
    intro c fu b hc
    rw [L6_empties_24, if_neg (show ¬ (2 : Int32) ≤ nI c from nI_ge (b := 2) (by omega) (by omega)), show (74 : Int32) = nI 74 from rfl, show (3 : Int32) = nI 3 from rfl, pk_mul, nI_add, nI_1, show (2 : Int32) = nI 2 from rfl, nI_add, zg_n (by omega) (by decide), zg_n (by omega) (by decide), zg_n (by omega) (by decide), nI_clamp (by omega), nI_clamp (by omega), nI_clamp (by omega), nI_1]
    rfl
  obtain ⟨n, hn⟩ : ∃ n, FU = n + 3 := ⟨99997, rfl⟩
  refine ⟨em3 (em3 b0 0) 1, ?_, ?_, ?_⟩
  · unfold f6_empties
    rw [e2, hn, show (0 : Int32) = nI 0 from rfl, st 0 (n + 2) _ (by omega), st 1 (n + 1) _ (by omega), L6_empties_24, if_pos (by decide)]
  · intro j hj h2
    unfold em3
    rw [pk_un (by omega), pk_un (by omega), pk_un (by omega), pk_un (by omega), pk_un (by omega), pk_un (by omega), e1 j hj]
    rfl
  · intro c hc
    have : c = 0 ∨ c = 1 := by omega
    rcases this with rfl | rfl
    · exact ⟨rfl, rfl, rfl⟩
    · exact ⟨rfl, rfl, rfl⟩

theorem v4_ren61 (k : (Nat → Int32) → Option (Int32 × Int32 × Int32 × (Nat → Int32) × (Nat → Int32) × (Nat → Int32) × (Nat → Int32) × (Nat → Int32) × Int32)) : ∀ (m t fu : Nat) (b : Nat → Int32), t + m = 12 → m < fu → (∀ j, j < t → b j = nI 0) → ∃ b' : Nat → Int32, (∀ j, j < 12 → b' j = nI 0) ∧ L4_renew_61 k fu (nI t) b = k b' := by
  intro m
  induction m with
  | zero =>
    intro t fu b ht hm hb
    obtain ⟨fu, rfl⟩ : ∃ m, fu = m + 1 := ⟨fu - 1, by omega⟩
    have e : t = 12 := by omega
    subst e
    exact ⟨b, hb, by rw [L4_renew_61, if_pos (by decide)]⟩
  | succ m ih =>
    intro t fu b ht hm hb
    obtain ⟨fu, rfl⟩ : ∃ m, fu = m + 1 := ⟨fu - 1, by omega⟩
    obtain ⟨b', e1, e2⟩ := ih (t + 1) fu (upd b t 0) (by omega) (by omega) (fun j hj => by
      by_cases e : j = t
      · rw [e, pk_us]; rfl
      · rw [pk_un (by omega)]
        exact hb j (by omega))
    refine ⟨b', e1, ?_⟩
    rw [L4_renew_61, if_neg (show ¬ (12 : Int32) ≤ nI t from nI_ge (b := 12) (by omega) (by omega)), zg_n (by omega) (by decide), nI_clamp (by omega), nI_1]
    exact e2
theorem v4_renew (things gifts days : Int32) (gate ear scale lost watch : Nat → Int32) (moments : Int32) : ∃ (gate' ear' scale' lost' watch' : Nat → Int32), f4_renew things gifts days gate ear scale lost watch moments = some (nI 0, nI 0, nI 0, gate', ear', scale', lost', watch', nI 0) ∧ (∀ c, c < 2 → gate' c = nI 15 ∧ ear' c = nI 10 ∧ scale' c = nI 60 ∧ lost' c = nI 0) ∧ (∀ j, j < 12 → watch' j = nI 0) := by
  obtain ⟨n, hn⟩ : ∃ n, FU = n + 3 := ⟨99997, rfl⟩
  have st : ∀ (k : (Nat → Int32) → (Nat → Int32) → (Nat → Int32) → (Nat → Int32) → Option (Int32 × Int32 × Int32 × (Nat → Int32) × (Nat → Int32) × (Nat → Int32) × (Nat → Int32) × (Nat → Int32) × Int32)) (c fu : Nat) (g e s l : Nat → Int32), c < 2 → L4_renew_17 k (fu + 1) (nI c) g e s l = L4_renew_17 k fu (nI (c + 1)) (upd g c (nI 15)) (upd e c (nI 10)) (upd s c (nI 60)) (upd l c (nI 0)) := by
    intro k c fu g e s l hc
    rw [L4_renew_17, if_neg (show ¬ (2 : Int32) ≤ nI c from nI_ge (b := 2) (by omega) (by omega)), zg_n (by omega) (by decide), zg_n (by omega) (by decide), zg_n (by omega) (by decide), zg_n (by omega) (by decide), nI_clamp (by omega), nI_1]
    rfl
  obtain ⟨w', w1, w2⟩ := v4_ren61 (fun watch_21 => zb1 (f4_forget moments) (fun moments_22 => some ((0 : Int32), (0 : Int32), (0 : Int32), upd (upd gate 0 (nI 15)) 1 (nI 15), upd (upd ear 0 (nI 10)) 1 (nI 10), upd (upd scale 0 (nI 60)) 1 (nI 60), upd (upd lost 0 (nI 0)) 1 (nI 0), watch_21, moments_22))) 12 0 FU watch (by omega) (by unfold FU; omega) (fun j hj => absurd hj (by omega))
  rw [show (0 : Int32) = nI 0 from rfl] at w2
  refine ⟨upd (upd gate 0 (nI 15)) 1 (nI 15), upd (upd ear 0 (nI 10)) 1 (nI 10), upd (upd scale 0 (nI 60)) 1 (nI 60), upd (upd lost 0 (nI 0)) 1 (nI 0), w', ?_, fun c hc => ?_, w1⟩
  · have e : ∀ k, L4_renew_17 k FU (0 : Int32) gate ear scale lost = k (upd (upd gate 0 (nI 15)) 1 (nI 15)) (upd (upd ear 0 (nI 10)) 1 (nI 10)) (upd (upd scale 0 (nI 60)) 1 (nI 60)) (upd (upd lost 0 (nI 0)) 1 (nI 0)) := fun k => by
      rw [hn, show (0 : Int32) = nI 0 from rfl, st k 0 (n + 2) _ _ _ _ (by omega), st k 1 (n + 1) _ _ _ _ (by omega), L4_renew_17, if_pos (by decide)]
    unfold f4_renew
    rw [e, show (0 : Int32) = nI 0 from rfl, w2]
    rfl
  · have : c = 0 ∨ c = 1 := by omega
    rcases this with rfl | rfl
    · exact ⟨rfl, rfl, rfl, rfl⟩
    · exact ⟨rfl, rfl, rfl, rfl⟩
theorem Bk.fresh {B : Nat} (hB : B ≤ 1000) {b : Nat → Int32} (h1 : ∀ j, j < 230 → (j < 74 ∨ 80 ≤ j) → b j = nI 0) (h2 : ∀ c, c < 2 → b (74 + 3 * c) = nI 15 ∧ b (74 + 3 * c + 1) = nI 10 ∧ b (74 + 3 * c + 2) = nI 60) : Bk B b 0 0 0 0 := by
  refine ⟨⟨by omega, by omega, by omega, by omega, hB⟩, ⟨h1 0 (by omega) (by omega), h1 1 (by omega) (by omega), h1 2 (by omega) (by omega), h1 3 (by omega) (by omega)⟩, fun t ht => absurd ht (by omega), fun t ht => absurd ht (by omega), fun t ht => absurd ht (by omega), fun c hc => ?_, fun k hk => ?_, fun t ht => absurd ht (by omega)⟩
  · obtain ⟨q1, q2, q3⟩ := h2 c hc
    rw [q1, q2, q3]
    exact ⟨sml_of (by omega) (by omega), sml_of (by omega) (by omega), sml_of (by omega) (by omega)⟩
  · rw [h1 (80 + k) (by omega) (by omega)]
    exact sml_of (by omega) (by omega)
theorem Rw.fresh {size weight sound harm in_ kind owner empty room told gate ear scale lost watch kept : Nat → Int32} {b : Nat → Int32} (h1 : ∀ j, j < 230 → (j < 74 ∨ 80 ≤ j) → b j = nI 0) (h2 : ∀ c, c < 2 → b (74 + 3 * c) = nI 15 ∧ b (74 + 3 * c + 1) = nI 10 ∧ b (74 + 3 * c + 2) = nI 60) (g1 : ∀ c, c < 2 → gate c = nI 15 ∧ ear c = nI 10 ∧ scale c = nI 60 ∧ lost c = nI 0) (g2 : ∀ j, j < 12 → watch j = nI 0) : Rw (nI 0) (nI 0) (nI 0) size weight sound harm in_ kind owner empty room told gate ear scale lost watch (nI 0) kept b 0 0 0 := by
  refine ⟨⟨(h1 0 (by omega) (by omega)).symm, (h1 1 (by omega) (by omega)).symm, (h1 2 (by omega) (by omega)).symm, (h1 3 (by omega) (by omega)).symm⟩, fun t ht => absurd ht (by omega), fun t ht => absurd ht (by omega), fun c hc => ?_, fun k hk => ?_, fun t ht => absurd ht (by omega)⟩
  · obtain ⟨q1, q2, q3⟩ := h2 c hc
    obtain ⟨p1, p2, p3, p4⟩ := g1 c hc
    rw [q1, q2, q3, p1, p2, p3, p4, h1 (92 + c) (by omega) (by omega)]
    exact ⟨rfl, rfl, rfl, rfl⟩
  · rw [g2 k hk, h1 (80 + k) (by omega) (by omega)]

theorem Bk.nm0 {B nt ng d nm : Nat} {book : Nat → Int32} (h : Bk B book nt ng d nm) : Bk B (upd book 3 (nI 0)) nt ng d 0 := by
  obtain ⟨⟨hn1, hn2, hn3, hd, hB⟩, ⟨h0, h1, h2, h3⟩, hth, hin, hgi, hci, hwa, hpa⟩ := h
  refine ⟨⟨hn1, hn2, by omega, hd, hB⟩, ⟨?_, ?_, ?_, ?_⟩, ?_, ?_, ?_, ?_, ?_, fun k hk => absurd hk (by omega)⟩
  · rw [pk_un (by omega), h0]
  · rw [pk_un (by omega), h1]
  · rw [pk_un (by omega), h2]
  · rw [pk_us]
  · intro t ht w hw
    rw [pk_un (by omega)]
    exact hth t ht w hw
  · intro t ht
    rw [pk_un (by omega)]
    exact hin t ht
  · intro g hg
    rw [pk_un (by omega), pk_un (by omega), pk_un (by omega), pk_un (by omega), pk_un (by omega)]
    exact hgi g hg
  · intro c hc
    rw [pk_un (by omega), pk_un (by omega), pk_un (by omega)]
    exact hci c hc
  · intro k hk
    rw [pk_un (by omega)]
    exact hwa k hk
theorem Rw.nm0 {B nt ng d nm : Nat} {book : Nat → Int32} {things gifts days : Int32} {size weight sound harm in_ kind owner empty room told gate ear scale lost watch : Nat → Int32} {moments : Int32} {kept : Nat → Int32} (h : Bk B book nt ng d nm) (r : Rw things gifts days size weight sound harm in_ kind owner empty room told gate ear scale lost watch moments kept book nt ng nm) : Rw things gifts days size weight sound harm in_ kind owner empty room told gate ear scale lost watch (nI 0) kept (upd book 3 (nI 0)) nt ng 0 := by
  have hn1 := h.1.1
  have hn2 := h.1.2.1
  obtain ⟨⟨h0, h1, h2, h3⟩, hth, hgi, hci, hwa, hpa⟩ := r
  refine ⟨⟨?_, ?_, ?_, ?_⟩, ?_, ?_, ?_, ?_, fun k hk => absurd hk (by omega)⟩
  · rw [pk_un (by omega), h0]
  · rw [pk_un (by omega), h1]
  · rw [pk_un (by omega), h2]
  · rw [pk_us]
  · intro t ht
    rw [pk_un (by omega), pk_un (by omega), pk_un (by omega), pk_un (by omega), pk_un (by omega)]
    exact hth t ht
  · intro g hg
    rw [pk_un (by omega), pk_un (by omega), pk_un (by omega), pk_un (by omega), pk_un (by omega)]
    exact hgi g hg
  · intro c hc
    rw [pk_un (by omega), pk_un (by omega), pk_un (by omega), pk_un (by omega)]
    exact hci c hc
  · intro k hk
    rw [pk_un (by omega)]
    exact hwa k hk
theorem cntd_q1 (rf : Nat → Int32) (v : Int32) : cntd 1 rf v = rf := by
  have z : ∀ k, upd rf k (rf k + cq 1) = rf := fun k => by
    rw [show cq 1 = 0 from rfl, Int32.add_zero, upd_id]
  unfold cntd
  split
  · exact z 0
  · split
    · exact z 1
    · split
      · exact z 2
      · rfl
theorem v3_wordOf {words : Nat → Int32} {i : Nat} (hi : i < 25) : f3_wordOf words (nI i) = some (words i) := by
  have e : f5_within (nI i) (0 : Int32) ((25 : Int32) - (1 : Int32)) = some (bI (rg (nI i) 0 24)) := v5w (lo := 0) (hi := 24) (by decide) (by decide)
  unfold f3_wordOf
  rw [e, rg_nI (by omega), decide_eq_true ⟨by omega, by omega⟩, zb1_e, if_neg (by decide), zg_n (by omega) (by decide), zl_e, nI_clamp (by omega)]
theorem v3_numberOf {nums : Nat → Int32} {i n : Nat} (hi : i < 25) (hn : n < 4) : f3_numberOf nums (nI i) (nI n) = some (nums (4 * i + n)) := by
  have e : f5_within (nI (i * 4 + n)) (0 : Int32) ((100 : Int32) - (1 : Int32)) = some (bI (rg (nI (i * 4 + n)) 0 99)) := v5w (lo := 0) (hi := 99) (by decide) (by decide)
  unfold f3_numberOf
  rw [show (4 : Int32) = nI 4 from rfl, pk_mul, nI_add, zl_e, e, rg_nI (by omega), decide_eq_true ⟨by omega, by omega⟩, zb1_e, if_neg (by decide), zg_n (by omega) (by decide), zl_e, nI_clamp (by omega), Nat.mul_comm i 4]
