/-! ===== pure side 18: gifts of a city, about, undo ===== -/
def gSet (book : Nat → Int32) (ng : Nat) (v : Int32) : Nat := bs (fun g => decide (book (68 + g) = v)) ng
theorem g_set_lt (book : Nat → Int32) (ng : Nat) (v : Int32) : gSet book ng v < 2 ^ ng := bs_lt _ _
theorem v4_giftsOf {ng : Nat} (hn : ng ≤ 6) (owner : Nat → Int32) (v : Int32) : f4_giftsOf (nI ng) owner v = some (nI (bs (fun t => decide (owner t = v)) ng)) := by
  have key : ∀ (k : Int32 → Option Int32) (d t n : Nat), t + d = ng → d < n → L4_giftsOf_4 k (nI ng) owner v n (nI (bs (fun t => decide (owner t = v)) t)) (nI t) = k (nI (bs (fun t => decide (owner t = v)) ng)) := by
    intro k d
    induction d with
    | zero =>
      intro t n ht hd
      obtain ⟨n, rfl⟩ : ∃ m, n = m + 1 := ⟨n - 1, by omega⟩
      have h : t = ng := by omega
      subst h
      rw [L4_giftsOf_4, if_pos (nI_le (Nat.le_refl _) (by omega))]
    | succ d ih =>
      intro t n ht hd
      obtain ⟨n, rfl⟩ : ∃ m, n = m + 1 := ⟨n - 1, by omega⟩
      have ih' := ih (t + 1) n (by omega) (by omega)
      rw [L4_giftsOf_4, if_neg (nI_ge (by omega) (by omega)), zg_n (by omega) (by omega), nI_clamp (by omega), nI_1]
      rw [bs] at ih'
      by_cases c : owner t = v
      · rw [if_pos c, zl_e, show ((1 : Int32) = nI 1) from rfl, show (31 : Int32) = nI 31 from rfl, zshl (by omega), fa_or, bs_or]
        simpa [c] using ih'
      · rw [if_neg c]
        simpa [c] using ih'
  exact key (fun y8 => some y8) ng 0 FU (by omega) (by unfold FU; omega)
theorem v6_giftsOf {ng : Nat} {book : Nat → Int32} (hn : ng ≤ 6) (h0 : book 1 = nI ng) (v : Int32) : f6_giftsOf book v = some (nI (gSet book ng v)) := by
  have key : ∀ (k : Int32 → Option Int32) (d t n : Nat), t + d = ng → d < n → L6_giftsOf_4 k book v n (nI (gSet book t v)) (nI t) = k (nI (gSet book ng v)) := by
    intro k d
    induction d with
    | zero =>
      intro t n ht hd
      obtain ⟨n, rfl⟩ : ∃ m, n = m + 1 := ⟨n - 1, by omega⟩
      have h : t = ng := by omega
      subst h
      rw [L6_giftsOf_4, h0, if_pos (nI_le (Nat.le_refl _) (by omega))]
    | succ d ih =>
      intro t n ht hd
      obtain ⟨n, rfl⟩ : ∃ m, n = m + 1 := ⟨n - 1, by omega⟩
      have ih' := ih (t + 1) n (by omega) (by omega)
      rw [L6_giftsOf_4, h0, if_neg (nI_ge (by omega) (by omega)), show ((68 : Int32) = nI 68) from rfl, nI_add, zg_n (by omega) (by omega), nI_clamp (by omega), nI_1]
      unfold gSet at ih' ⊢
      rw [bs] at ih'
      by_cases c : book (68 + t) = v
      · rw [if_pos c, zl_e, show ((1 : Int32) = nI 1) from rfl, show (31 : Int32) = nI 31 from rfl, zshl (by omega), fa_or, bs_or]
        simpa [c] using ih'
      · rw [if_neg c, zl_e, show ((0 : Int32) = nI 0) from rfl, fa_or, Nat.or_zero]
        simpa [c] using ih'
  exact key (fun y9 => some y9) ng 0 FU (by omega) (by unfold FU; omega)
theorem Rw.giftsOf {B nt ng d nm : Nat} {book : Nat → Int32} {things gifts days : Int32} {size weight sound harm in_ kind owner empty room told gate ear scale lost watch : Nat → Int32} {moments : Int32} {kept : Nat → Int32} (h : Bk B book nt ng d nm) (r : Rw things gifts days size weight sound harm in_ kind owner empty room told gate ear scale lost watch moments kept book nt ng nm) (v : Int32) : f4_giftsOf gifts owner v = some (nI (gSet book ng v)) := by
  rw [r.1.2.1, h.2.1.2.1, v4_giftsOf h.1.2.1]
  unfold gSet
  rw [bs_cong (fun t ht => by rw [(r.2.2.1 t ht).2.2.2.2])]
theorem e_about {B nt ng d nm : Nat} {book : Nat → Int32} {things gifts days : Int32} {size weight sound harm in_ kind owner empty room told gate ear scale lost watch : Nat → Int32} {moments : Int32} {kept : Nat → Int32} (h : Bk B book nt ng d nm) (r : Rw things gifts days size weight sound harm in_ kind owner empty room told gate ear scale lost watch moments kept book nt ng nm) (rf : Nat → Int32) (a b : Int32) : ∃ (ans : Int32) (rf' : Nat → Int32),
    f5_about (rf 0) (rf 1) (rf 2) gifts owner gate ear scale lost a b = some (ans, rf' 0, rf' 1, rf' 2) ∧ f6_about 0 book rf a b = some (ans, rf') := by
  have hn2 := h.1.2.1
  have m2 : f6_in b.toInt64 0 4 = some (bI (rg b 0 4)) := v6i (by decide) (by decide)
  have bt : (true = false) = False := by simp
  cases c1 : rg a 0 1
  · refine ⟨-2, cntd 0 rf (-2), ?_, ?_⟩
    · unfold f5_about
      simp only [v5_isCity, bI_z, zb1_e, v5_counted, zb4_e, c1, if_true]
    · unfold f6_about
      simp only [v6_isCity, bI_z, zb1_e, v6_bad, zb2_e, c1, if_true]
  · obtain ⟨c, _, hc, rfl⟩ := rg_of (by omega) c1
    have rc := r.2.2.2.1 c (by omega)
    have wg := r.giftsOf h (nI c)
    have mg := v6_giftsOf hn2 h.2.1.2.1 (nI c)
    cases c2 : rg b 0 4
    · refine ⟨-2, cntd 0 rf (-2), ?_, ?_⟩
      · have n0 := rg_ne c2 (k := 0) (by decide) (by decide)
        have n1 := rg_ne c2 (k := 1) (by decide) (by decide)
        have n2 := rg_ne c2 (k := 2) (by decide) (by decide)
        have n3 := rg_ne c2 (k := 3) (by decide) (by decide)
        have n4 := rg_ne c2 (k := 4) (by decide) (by decide)
        unfold f5_about
        simp only [v5_isCity, c1, bI_z, zb1_e, v5_counted, zb4_e]
        simp only [zL, n0, n1, n2, n3, n4, if_false]
        simp
      · unfold f6_about
        simp only [v6_isCity, m2, c1, c2, bI_z, zb1_e, v6_bad, zb2_e]
        simp
    · obtain ⟨w, _, hw, rfl⟩ := rg_of (by omega) c2
      have hw7 : w = 0 ∨ w = 1 ∨ w = 2 ∨ w = 3 ∨ w = 4 := by omega
      rcases hw7 with rfl | rfl | rfl | rfl | rfl
      · refine ⟨book (74 + 3 * c), rf, ?_, ?_⟩
        · unfold f5_about
          simp only [v5_isCity, c1, bI_z, zb1_e, bt, if_false]
          simp (disch := omega) only [zL, zg_n, nI_clamp, zl_e, nI_eq, rc]
          simp
        · unfold f6_about
          simp only [v6_isCity, m2, c1, c2, bI_z, zb1_e, bt, if_false]
          simp (disch := omega) only [zL, zg_n, nI_clamp, zl_e, nI_eq, nI_add, pk_mul, nI_leI]
          simp
      · refine ⟨book (74 + 3 * c + 1), rf, ?_, ?_⟩
        · unfold f5_about
          simp only [v5_isCity, c1, bI_z, zb1_e, bt, if_false]
          simp (disch := omega) only [zL, zg_n, nI_clamp, zl_e, nI_eq, rc]
          simp
        · unfold f6_about
          simp only [v6_isCity, m2, c1, c2, bI_z, zb1_e, bt, if_false]
          simp (disch := omega) only [zL, zg_n, nI_clamp, zl_e, nI_eq, nI_add, pk_mul, nI_leI]
          simp
      · refine ⟨book (74 + 3 * c + 2), rf, ?_, ?_⟩
        · unfold f5_about
          simp only [v5_isCity, c1, bI_z, zb1_e, bt, if_false]
          simp (disch := omega) only [zL, zg_n, nI_clamp, zl_e, nI_eq, rc]
          simp
        · unfold f6_about
          simp only [v6_isCity, m2, c1, c2, bI_z, zb1_e, bt, if_false]
          simp (disch := omega) only [zL, zg_n, nI_clamp, zl_e, nI_eq, nI_add, pk_mul, nI_leI]
          simp
      · refine ⟨book (92 + c), rf, ?_, ?_⟩
        · unfold f5_about
          simp only [v5_isCity, c1, bI_z, zb1_e, bt, if_false]
          simp (disch := omega) only [zL, zg_n, nI_clamp, zl_e, nI_eq, rc]
          simp
        · unfold f6_about
          simp only [v6_isCity, m2, c1, c2, bI_z, zb1_e, bt, if_false]
          simp (disch := omega) only [zL, zg_n, nI_clamp, zl_e, nI_eq, nI_add, pk_mul, nI_leI]
          simp
      · refine ⟨nI (gSet book ng (nI c)), rf, ?_, ?_⟩
        · unfold f5_about
          simp only [v5_isCity, c1, bI_z, zb1_e, bt, if_false, wg]
          simp (disch := omega) only [zL, zg_n, nI_clamp, zl_e, nI_eq]
          simp
        · unfold f6_about
          simp only [v6_isCity, m2, c1, c2, bI_z, zb1_e, bt, if_false, mg]
          simp (disch := omega) only [zL, zg_n, nI_clamp, zl_e, nI_eq, nI_add, pk_mul, nI_leI]
          simp
theorem v6_und39 (book : Nat → Int32) (k : (Nat → Int32) → Option (Int32 × (Nat → Int32) × (Nat → Int32))) {x : Nat} (hx : 94 ≤ x ∧ x + 17 ≤ 230) : L6_undo_39 k (nI x) FU (0 : Int32) book = k (va_cpy book book x 36 8) := by
  have key : ∀ (d t n : Nat), t + d = 8 → d < n → L6_undo_39 k (nI x) n (nI t) (va_cpy book book x 36 t) = k (va_cpy book book x 36 8) := by
    intro d
    induction d with
    | zero =>
      intro t n ht hd
      obtain ⟨n, rfl⟩ : ∃ m, n = m + 1 := ⟨n - 1, by omega⟩
      have h : t = 8 := by omega
      subst h
      rw [L6_undo_39, show ((8 : Int32) = nI 8) from rfl, if_pos (nI_le (Nat.le_refl _) (by omega))]
    | succ d ih =>
      intro t n ht hd
      obtain ⟨n, rfl⟩ : ∃ m, n = m + 1 := ⟨n - 1, by omega⟩
      have ih' := ih (t + 1) n (by omega) (by omega)
      rw [← cpy_step book (s := x) (dd := 36) (t := t) (by omega)] at ih'
      rw [L6_undo_39, show ((8 : Int32) = nI 8) from rfl, if_neg (nI_ge (by omega) (by omega)), show ((36 : Int32) = nI 36) from rfl, nI_add, nI_add, zg_n (by omega) (by omega), zl_e, zg_n (by omega) (by omega), nI_clamp (by omega), nI_clamp (by omega), nI_1, pk_cpy_out (by omega)]
      exact ih'
  have h := key 8 0 FU (by omega) (by unfold FU; omega)
  rw [cpy_0] at h
  exact h
theorem v6_und70 (book : Nat → Int32) (k : (Nat → Int32) → Option (Int32 × (Nat → Int32) × (Nat → Int32))) {x : Nat} (hx : 94 ≤ x ∧ x + 17 ≤ 230) : L6_undo_70 k (nI x) FU (0 : Int32) book = k (va_cpy book book (x + 8) 68 6) := by
  have key : ∀ (d t n : Nat), t + d = 6 → d < n → L6_undo_70 k (nI x) n (nI t) (va_cpy book book (x + 8) 68 t) = k (va_cpy book book (x + 8) 68 6) := by
    intro d
    induction d with
    | zero =>
      intro t n ht hd
      obtain ⟨n, rfl⟩ : ∃ m, n = m + 1 := ⟨n - 1, by omega⟩
      have h : t = 6 := by omega
      subst h
      rw [L6_undo_70, show ((6 : Int32) = nI 6) from rfl, if_pos (nI_le (Nat.le_refl _) (by omega))]
    | succ d ih =>
      intro t n ht hd
      obtain ⟨n, rfl⟩ : ∃ m, n = m + 1 := ⟨n - 1, by omega⟩
      have ih' := ih (t + 1) n (by omega) (by omega)
      rw [← cpy_step book (s := x + 8) (dd := 68) (t := t) (by omega)] at ih'
      rw [L6_undo_70, show ((6 : Int32) = nI 6) from rfl, if_neg (nI_ge (by omega) (by omega)), show ((68 : Int32) = nI 68) from rfl, show ((8 : Int32) = nI 8) from rfl, nI_add, nI_add, nI_add, zg_n (by omega) (by omega), zl_e, zg_n (by omega) (by omega), nI_clamp (by omega), nI_clamp (by omega), nI_1, pk_cpy_out (by omega)]
      exact ih'
  have h := key 6 0 FU (by omega) (by unfold FU; omega)
  rw [cpy_0] at h
  exact h
def unC (b0 : Nat → Int32) (x : Nat) : Nat → Int32 := va_cpy (va_cpy b0 b0 x 36 8) (va_cpy b0 b0 x 36 8) (x + 8) 68 6
def unB (book : Nat → Int32) (x m : Nat) : Nat → Int32 := upd (upd (upd (unC (upd book 3 (nI m)) x) 2 (book (x + 14))) 92 (book (x + 15))) 93 (book (x + 16))
theorem unC_lo {b0 : Nat → Int32} {x k : Nat} (h : k < 36 ∨ (44 ≤ k ∧ k < 68) ∨ 74 ≤ k) : unC b0 x k = b0 k := by
  unfold unC
  rw [pk_cpy_out (by omega), pk_cpy_out (by omega)]
theorem unB_lo {book : Nat → Int32} {x m k : Nat} (h : (k < 36 ∧ k ≠ 2 ∧ k ≠ 3) ∨ (44 ≤ k ∧ k < 68) ∨ (74 ≤ k ∧ k ≠ 92 ∧ k ≠ 93)) : unB book x m k = book k := by
  unfold unB
  rw [pk_un (by omega), pk_un (by omega), pk_un (by omega), unC_lo (by omega), pk_un (by omega)]
theorem unB_in {book : Nat → Int32} {x m t : Nat} (ht : t < 8) (hx : 94 ≤ x) : unB book x m (36 + t) = book (x + t) := by
  unfold unB unC
  rw [pk_un (by omega), pk_un (by omega), pk_un (by omega), pk_cpy_out (by omega), pk_cpy_in (by omega) (by omega), pk_un (by omega)]
  congr 1
  omega
theorem unB_has {book : Nat → Int32} {x m g : Nat} (hg : g < 6) (hx : 94 ≤ x) : unB book x m (68 + g) = book (x + 8 + g) := by
  unfold unB unC
  rw [pk_un (by omega), pk_un (by omega), pk_un (by omega), pk_cpy_in (by omega) (by omega), pk_cpy_out (by omega), pk_un (by omega)]
  congr 1
  omega
theorem unB_d {book : Nat → Int32} {x m : Nat} : unB book x m 2 = book (x + 14) ∧ unB book x m 92 = book (x + 15) ∧ unB book x m 93 = book (x + 16) ∧ unB book x m 3 = nI m := by
  unfold unB
  refine ⟨?_, ?_, ?_, ?_⟩
  · rw [pk_un (by omega), pk_un (by omega), pk_us]
  · rw [pk_un (by omega), pk_us]
  · rw [pk_us]
  · rw [pk_un (by omega), pk_un (by omega), pk_un (by omega), unC_lo (by omega), pk_us]
theorem e_undo {B nt ng d nm : Nat} {book : Nat → Int32} {things gifts days : Int32} {size weight sound harm in_ kind owner empty room told gate ear scale lost watch : Nat → Int32} {moments : Int32} {kept : Nat → Int32} (h : Bk B book nt ng d nm) (r : Rw things gifts days size weight sound harm in_ kind owner empty room told gate ear scale lost watch moments kept book nt ng nm) (rf : Nat → Int32) : ∃ (ans : Int32) (rf' : Nat → Int32) (days' : Int32) (in' owner' lost' : Nat → Int32) (moments' : Int32) (book' : Nat → Int32) (d' nm' : Nat),
    f5_undo (rf 0) (rf 1) (rf 2) days in_ owner lost moments kept = some (ans, rf' 0, rf' 1, rf' 2, days', in', owner', lost', moments') ∧
    f6_undo 0 book rf = some (ans, book', rf') ∧ Bk B book' nt ng d' nm' ∧
    Rw things gifts days' size weight sound harm in' kind owner' empty room told gate ear scale lost' watch moments' kept book' nt ng nm' := by
  obtain ⟨⟨hn1, hn2, hn3, hd, hB⟩, ⟨h0, h1, h2, h3⟩, hth, hin, hgi, hci, hwa, hpa⟩ := id h
  obtain ⟨⟨r0, r1, r2, r3⟩, rt, rgg, rc, rw_, rp⟩ := id r
  have rm : moments = nI nm := by rw [r3, h3]
  rcases Nat.eq_zero_or_pos nm with z | z
  · subst z
    refine ⟨-3, cntd 0 rf (-3), days, in_, owner, lost, moments, book, d, 0, ?_, ?_, h, r⟩
    · unfold f5_undo f4_goBack
      rw [rm]
      have : ¬ (0 : Int32) < nI 0 := by decide
      simp only [this, if_false, zb6_e, v5_counted, zb4_e]
    · unfold f6_undo
      rw [h3]
      simp only [show nI 0 = 0 from rfl, if_true, v6_no, zb2_e]
  · obtain ⟨m, rfl⟩ : ∃ m, nm = m + 1 := ⟨nm - 1, by omega⟩
    obtain ⟨pi, pg, pd⟩ := hpa m (by omega)
    obtain ⟨qi, qg, q1, q2, q3⟩ := rp m (by omega)
    obtain ⟨d', hd', ed⟩ := sml_e pd (by omega)
    have hx : 94 ≤ 94 + 17 * m := by omega
    refine ⟨1, rf, book (94 + 17 * m + 14), va_cpy kept in_ (17 * m + 6) 0 8, va_cpy kept owner (17 * m) 0 6, va_cpy kept lost (17 * m + 14) 0 2, nI m, unB book (94 + 17 * m) m, d', m, ?_, ?_, ?_, ?_⟩
    · have c1 : cntd 0 rf 1 = rf := cntd_n 0 rf (n := 1) (by decide)
      unfold f5_undo f4_goBack f2_giveBack
      rw [rm]
      have : (0 : Int32) < nI (m + 1) := nI_ltI (a := 0) (by omega) (by omega) |>.mpr (by omega)
      simp only [this, if_true]
      rw [← q3]
      simp (disch := omega) only [zL, pk_sub, Nat.add_sub_cancel, zl_e, pk_mul, nI_add, zgc_n, nI_clamp, zg_n, zb5_e, zb6_e]
      simp only [show nI 1 = 1 from rfl, v5_counted, zb4_e, c1, Nat.mul_comm m 17]
    · unfold f6_undo
      have n0 : ¬ nI (m + 1) = 0 := nI_neq (k := 0) (by omega) (by omega) (by omega)
      rw [h3]
      simp only [n0, if_false]
      have e3 : upd book 3 (nI m) 3 = nI m := pk_us ..
      simp (disch := omega) only [zL, pk_sub, Nat.add_sub_cancel, zl_e, e3, pk_mul, nI_add]
      rw [show nI 0 = 0 from rfl, v6_und39 _ _ (by omega), v6_und70 _ _ (by omega)]
      simp (disch := omega) only [zL, zl_e, nI_add, nI_clamp, zg_n, pk_un]
      have u : ∀ k, 94 ≤ k → unC (upd book 3 (nI m)) (94 + 17 * m) k = book k := fun k hk => by rw [unC_lo (by omega), pk_un (by omega)]
      have u1 := u (94 + 17 * m + 14) (by omega)
      have u2 := u (94 + 17 * m + 15) (by omega)
      have u3 := u (94 + 17 * m + 16) (by omega)
      unfold unC at u1 u2 u3
      rw [u1, u2, u3]
      rfl
    · refine ⟨⟨hn1, hn2, by omega, hd', hB⟩, ⟨?_, ?_, ?_, unB_d.2.2.2⟩, ?_, ?_, ?_, ?_, ?_, ?_⟩
      · rw [unB_lo (by omega), h0]
      · rw [unB_lo (by omega), h1]
      · rw [unB_d.1, ed]
      · intro t ht w hw
        rw [unB_lo (by omega)]
        exact hth t ht w hw
      · intro t ht
        rw [unB_in (by omega) hx]
        exact pi t ht
      · intro g hg
        rw [unB_lo (by omega), unB_lo (by omega), unB_lo (by omega), unB_lo (by omega), unB_has (by omega) hx]
        have := hgi g hg
        exact ⟨this.1, this.2.1, this.2.2.1, this.2.2.2.1, pg g hg⟩
      · intro g hg
        rw [unB_lo (by omega), unB_lo (by omega), unB_lo (by omega)]
        exact hci g hg
      · intro g hg
        rw [unB_lo (by omega)]
        exact hwa g hg
      · intro k hk
        have hp := hpa k (by omega)
        refine ⟨fun t ht => ?_, fun g' hg' => ?_, ?_⟩
        · rw [unB_lo (by omega)]
          exact hp.1 t ht
        · rw [unB_lo (by omega)]
          exact hp.2.1 g' hg'
        · rw [unB_lo (by omega)]
          exact hp.2.2
    · refine ⟨⟨?_, ?_, ?_, unB_d.2.2.2.symm⟩, ?_, ?_, ?_, ?_, ?_⟩
      · rw [unB_lo (by omega), r0]
      · rw [unB_lo (by omega), r1]
      · rw [unB_d.1]
      · intro t ht
        rw [unB_lo (by omega), unB_lo (by omega), unB_lo (by omega), unB_lo (by omega), unB_in (by omega) hx]
        have := rt t ht
        refine ⟨this.1, this.2.1, this.2.2.1, this.2.2.2.1, ?_⟩
        rw [pk_cpy_in (by omega) (by omega), Nat.sub_zero, qi t ht]
      · intro g hg
        rw [unB_lo (by omega), unB_lo (by omega), unB_lo (by omega), unB_lo (by omega), unB_has (by omega) hx]
        have := rgg g hg
        refine ⟨this.1, this.2.1, this.2.2.1, this.2.2.2.1, ?_⟩
        rw [pk_cpy_in (by omega) (by omega), Nat.sub_zero, qg g hg]
      · intro c hc
        rw [unB_lo (by omega), unB_lo (by omega), unB_lo (by omega)]
        have := rc c hc
        refine ⟨this.1, this.2.1, this.2.2.1, ?_⟩
        rw [pk_cpy_in (by omega) (by omega), Nat.sub_zero]
        have hc2 : c = 0 ∨ c = 1 := by omega
        rcases hc2 with rfl | rfl
        · rw [unB_d.2.1]
          exact q1
        · rw [unB_d.2.2.1]
          exact q2
      · intro k hk
        rw [unB_lo (by omega)]
        exact rw_ k hk
      · intro k hk
        have hp := rp k (by omega)
        refine ⟨fun t ht => ?_, fun g hg => ?_, ?_, ?_, ?_⟩
        · rw [unB_lo (by omega)]
          exact hp.1 t ht
        · rw [unB_lo (by omega)]
          exact hp.2.1 g hg
        · rw [unB_lo (by omega)]
          exact hp.2.2.1
        · rw [unB_lo (by omega)]
          exact hp.2.2.2.1
        · rw [unB_lo (by omega)]
          exact hp.2.2.2.2
