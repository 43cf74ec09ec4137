/-! ===== pure side 30: part, status, count, type, clear ===== -/
theorem rg_cases {a : Int32} {hi : Nat} (hh : hi < 2 ^ 31) : (∃ j, j ≤ hi ∧ a = nI j) ∧ rg a 0 hi = true ∨ (∀ j, j ≤ hi → ¬ a = nI j) ∧ rg a 0 hi = false := by
  cases c : rg a 0 hi
  · exact Or.inr ⟨fun j hj => rg_ne c hj hh, rfl⟩
  · obtain ⟨j, _, hj, e⟩ := rg_of hh c
    exact Or.inl ⟨⟨j, hj, e⟩, rfl⟩
theorem e_part (rf : Nat → Int32) (fa fb : Int64) (a : Int32) : ∃ (ans : Int64) (rf' : Nat → Int32),
    f5_part fa fb (rf 0) (rf 1) (rf 2) a = some (ans, rf' 0, rf' 1, rf' 2) ∧ f6_part 0 fa fb rf a = some (ans, rf') := by
  unfold f5_part f6_part
  by_cases c0 : a = 0
  · exact ⟨fa, rf, by rw [if_pos c0], by rw [if_pos c0]⟩
  · by_cases c1 : a = 1
    · exact ⟨fb, rf, by rw [if_neg c0, if_pos c1], by rw [if_neg c0, if_pos c1]⟩
    · refine ⟨(-2 : Int32).toInt64, cntd 0 rf (-2), ?_, ?_⟩
      · rw [if_neg c0, if_neg c1, v5_counted, zb4_e, zl_e]
      · rw [if_neg c0, if_neg c1, v6_bad, zb2_e, zl_e]
theorem e_status (rf : Nat → Int32) (a : Int32) : ∃ (ans : Int32) (rf' : Nat → Int32),
    f5_status (rf 0) (rf 1) (rf 2) a = some (ans, rf' 0, rf' 1, rf' 2) ∧ f6_status 0 rf a = some (ans, rf') := by
  have m3 : f6_in a.toInt64 0 2 = some (bI (rg a 0 2)) := v6i (by decide) (by decide)
  unfold f5_status f6_status
  rw [m3, zb1_e]
  rcases rg_cases (a := a) (hi := 2) (by decide) with ⟨⟨j, hj, rfl⟩, c⟩ | ⟨hne, c⟩
  · rw [c, if_neg (show ¬ bI true = 0 by decide), zg_n (by omega) (by decide), zl_e]
    have : j = 0 ∨ j = 1 ∨ j = 2 := by omega
    rcases this with rfl | rfl | rfl
    · exact ⟨rf 0, rf, by rw [if_pos (show nI 0 = 0 from rfl)], rfl⟩
    · exact ⟨rf 1, rf, by rw [if_neg (show ¬ nI 1 = 0 by decide), if_pos (show nI 1 = 1 from rfl)], rfl⟩
    · exact ⟨rf 2, rf, by rw [if_neg (show ¬ nI 2 = 0 by decide), if_neg (show ¬ nI 2 = 1 by decide), if_pos (show nI 2 = 2 from rfl)], rfl⟩
  · refine ⟨-1, cntd 0 rf (-2), ?_, ?_⟩
    · rw [if_neg (show ¬ a = 0 from hne 0 (by omega)), if_neg (show ¬ a = 1 from hne 1 (by omega)), if_neg (show ¬ a = 2 from hne 2 (by omega)), v5_counted, zb4_e]
    · rw [c, if_pos (show bI false = 0 by decide)]
      exact congrArg (fun x => zb2 x _) (v6_refuses 0 rf (k := 0) (by decide) (-1))
theorem e_count {B nt ng d nm : Nat} {book : Nat → Int32} {things gifts days : Int32} {size weight sound harm in_ kind owner empty room told gate ear scale lost watch : Nat → Int32} {moments : Int32} {kept : Nat → Int32} (h : Bk B book nt ng d nm) (r : Rw things gifts days size weight sound harm in_ kind owner empty room told gate ear scale lost watch moments kept book nt ng nm) (rf : Nat → Int32) (tl a : Int32) : ∃ (ans : Int32) (rf' : Nat → Int32),
    f5_count (rf 0) (rf 1) (rf 2) things gifts days in_ moments tl a = some (ans, rf' 0, rf' 1, rf' 2) ∧ f6_count 0 tl book rf a = some (ans, rf') := by
  have hn1 := h.1.1
  have h8 := pow8 hn1
  have w3 : f5_within a 0 5 = some (bI (rg a 0 5)) := v5w (by decide) (by decide)
  have m3 : f6_in a.toInt64 0 5 = some (bI (rg a 0 5)) := v6i (by decide) (by decide)
  have hS := z_set_lt book nt (-1)
  have i1 := r.inside h (-1)
  have j1 := v6_thingsIn hn1 h.2.1.1 (-1)
  have b1 := v6_bitCount (zSet book nt (-1)) (by omega)
  have b2 := v6_bits (S := zSet book nt (-1)) (by omega)
  obtain ⟨r1, r2, r3, r4⟩ := r.1
  unfold f5_count f6_count
  rw [w3, m3, zb1_e, zb1_e]
  rcases rg_cases (a := a) (hi := 5) (by decide) with ⟨⟨j, hj, rfl⟩, c⟩ | ⟨hne, c⟩
  · rw [c, if_neg (show ¬ bI true = 0 by decide), if_neg (show ¬ bI true = 0 by decide)]
    unfold f5_howMany f6_countOf f4_thingsInGifts
    rw [i1, zb1_e, b1, zb1_e, zl_e, j1, zb1_e, zb1_e, b2, zb1_e, zl_e]
    have : j = 0 ∨ j = 1 ∨ j = 2 ∨ j = 3 ∨ j = 4 ∨ j = 5 := by omega
    rcases this with rfl | rfl | rfl | rfl | rfl | rfl
    · refine ⟨things, rf, rfl, ?_⟩
      rw [if_neg (by decide), zg_n (by omega) (by decide), zl_e, nI_clamp (by decide), ← r1]
      rfl
    · refine ⟨gifts, rf, rfl, ?_⟩
      rw [if_neg (by decide), zg_n (by omega) (by decide), zl_e, nI_clamp (by decide), ← r2]
      rfl
    · refine ⟨days, rf, rfl, ?_⟩
      rw [if_neg (by decide), zg_n (by omega) (by decide), zl_e, nI_clamp (by decide), ← r3]
      rfl
    · refine ⟨things - nI (pcN (zSet book nt (-1)) 8), rf, rfl, ?_⟩
      rw [if_pos (by decide), if_pos (by decide), r1]
      rfl
    · refine ⟨moments, rf, rfl, ?_⟩
      rw [if_pos (by decide), if_neg (by decide), if_pos (by decide), zl_e, r4]
      rfl
    · refine ⟨tl, rf, rfl, ?_⟩
      rw [if_pos (by decide), if_neg (by decide), if_neg (by decide)]
      rfl
  · refine ⟨-2, cntd 0 rf (-2), ?_, ?_⟩
    · rw [c, if_pos (show bI false = 0 by decide), v5_counted, zb4_e]
    · rw [c, if_pos (show bI false = 0 by decide), v6_bad, zb2_e]
/-- the text typed so far, on both sides -/
def Tx (tlen : Int32) (tbytes : Nat → Int32) (typed : Int32) (text : Nat → Int32) (L : Nat) : Prop := L ≤ 150 ∧ tlen = nI L ∧ typed = nI L ∧ (∀ k, k < L → tbytes k = text k ∧ sml (text k) 127)
theorem byte_small : ∀ k, k < 128 → vp_nar .byte (nI k).toInt8.toInt32 = nI k := by decide +kernel
theorem e_type {tlen typed : Int32} {tbytes text : Nat → Int32} {L : Nat} (x : Tx tlen tbytes typed text L) (rf : Nat → Int32) (a : Int32) : ∃ (ans tlen' : Int32) (tbytes' : Nat → Int32) (rf' : Nat → Int32) (typed' : Int32) (text' : Nat → Int32) (L' : Nat),
    f5_type (rf 0) (rf 1) (rf 2) tlen tbytes a = some (ans, rf' 0, rf' 1, rf' 2, tlen', tbytes') ∧ f6_type 0 typed rf text a = some (ans, typed', rf', text') ∧ Tx tlen' tbytes' typed' text' L' := by
  obtain ⟨hL, rfl, rfl, hx⟩ := x
  have w3 : f5_within a 0 127 = some (bI (rg a 0 127)) := v5w (by decide) (by decide)
  have m3 : f6_in a.toInt64 0 127 = some (bI (rg a 0 127)) := v6i (by decide) (by decide)
  unfold f5_type f6_type f3_add
  rw [w3, m3, zb1_e, zb1_e]
  rcases rg_cases (a := a) (hi := 127) (by decide) with ⟨⟨j, hj, rfl⟩, c⟩ | ⟨hne, c⟩
  · rw [c, if_neg (show ¬ bI true = 0 by decide), if_neg (show ¬ bI true = 0 by decide)]
    by_cases e : L = 150
    · subst e
      refine ⟨-4, nI 150, tbytes, cntd 0 rf (-4), nI 150, text, 150, ?_, ?_, ⟨by omega, rfl, rfl, hx⟩⟩
      · rw [if_neg (by decide), zb3_e, v5_counted, zb4_e]
      · rw [if_pos (by decide), v6_full, zb2_e]
    · refine ⟨nI (L + 1), nI (L + 1), upd tbytes L (nI j), rf, nI (L + 1), upd text L (nI j), L + 1, ?_, ?_, ⟨by omega, rfl, rfl, ?_⟩⟩
      · rw [if_pos (show nI L < 150 from (nI_ltI (b := 150) (by omega) (by omega)).mpr (by omega)), zl_e, zg_n (by omega) (by omega), zl_e, zb3_e, v5_counted, zb4_e, byte_small j (by omega), nI_clamp (by omega), nI_1, cntd_n 0 rf (by omega)]
      · rw [if_neg (show ¬ nI L = 150 from nI_neq (k := 150) (by omega) (by omega) e), zg_n (by omega) (by omega), zl_e, nI_clamp (by omega), nI_1]
      · intro k hk
        by_cases e2 : k = L
        · rw [e2, pk_us, pk_us]
          exact ⟨rfl, sml_of (by omega) (by omega)⟩
        · rw [pk_un (by omega), pk_un (by omega)]
          exact hx k (by omega)
  · refine ⟨-2, nI L, tbytes, cntd 0 rf (-2), nI L, text, L, ?_, ?_, ⟨hL, rfl, rfl, hx⟩⟩
    · rw [c, if_pos (show bI false = 0 by decide), zb3_e, v5_counted, zb4_e]
    · rw [c, if_pos (show bI false = 0 by decide), v6_bad, zb2_e]
theorem e_clear {tlen typed : Int32} {tbytes text : Nat → Int32} {L : Nat} (x : Tx tlen tbytes typed text L) : f5_clear tlen = some (nI L, 0) ∧ f6_clear typed = some (nI L, 0) ∧ Tx 0 tbytes 0 text 0 := by
  obtain ⟨hL, rfl, rfl, hx⟩ := x
  exact ⟨rfl, rfl, by omega, rfl, rfl, fun k hk => absurd hk (by omega)⟩
