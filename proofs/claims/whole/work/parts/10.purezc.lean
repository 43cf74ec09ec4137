/-! ===== pure side 39: carts ===== -/
def cG (book : Nat → Int32) (nt ng d : Nat) (bg bw dm : Nat → Int32) (i : Nat) : Prop := ∃ g, g < ng ∧ bg i = nI g ∧ dm i = nI g ∧ bw i = nI (wghN book nt d g (zSet book nt (nI g)))
theorem c_line {B nt ng d nm : Nat} {book : Nat → Int32} {things gifts days : Int32} {size weight sound harm in_ kind owner empty room told gate ear scale lost watch : Nat → Int32} {moments : Int32} {kept : Nat → Int32} (h : Bk B book nt ng d nm) (r : Rw things gifts days size weight sound harm in_ kind owner empty room told gate ear scale lost watch moments kept book nt ng nm) (a : Int32) : ∀ (m t q fu fu' : Nat) (bg bw dm : Nat → Int32), t + m = ng → m < fu → m < fu' → q ≤ t → (∀ i, i < q → cG book nt ng d bg bw dm i) →
    ∃ (n : Nat) (bg' bw' dm' : Nat → Int32), n ≤ ng ∧ (∀ i, i < n → cG book nt ng d bg' bw' dm' i) ∧
      (∀ k, L0_lineUp_8 k things gifts days weight in_ kind owner empty a fu (nI t) (nI q) bg bw = k (nI n) bg' bw') ∧ (∀ k, L6_carts_51 k book a fu' (nI q) (nI t) dm = k (nI n) dm') := by
  have hn1 := h.1.1
  have hn2 := h.1.2.1
  have h8 := pow8 hn1
  have h1 := h.2.1.2.1
  have rt : gifts = nI ng := by rw [r.1.2.1, h1]
  intro m
  induction m with
  | zero =>
    intro t q fu fu' bg bw dm ht hm hm' hq hc
    obtain ⟨fu, rfl⟩ : ∃ m, fu = m + 1 := ⟨fu - 1, by omega⟩
    obtain ⟨fu', rfl⟩ : ∃ m, fu' = m + 1 := ⟨fu' - 1, by omega⟩
    have e : t = ng := by omega
    subst e
    exact ⟨q, bg, bw, dm, hq, hc, fun k => by rw [L0_lineUp_8, rt, if_pos (nI_le (Nat.le_refl _) (by omega))], fun k => by rw [L6_carts_51, h1, if_pos (nI_le (Nat.le_refl _) (by omega))]⟩
  | succ m ih =>
    intro t q fu fu' bg bw dm ht hm hm' hq hc
    obtain ⟨fu, rfl⟩ : ∃ m, fu = m + 1 := ⟨fu - 1, by omega⟩
    obtain ⟨fu', rfl⟩ : ∃ m, fu' = m + 1 := ⟨fu' - 1, by omega⟩
    have htg : t < ng := by omega
    have ow := (r.2.2.1 t htg).2.2.2.2
    have hS := z_set_lt book nt (nI t)
    have ww := r.weighs h htg hS
    have n6 : ¬ (6 : Int32) ≤ nI q := nI_ge (b := 6) (by omega) (by omega)
    by_cases c1 : book (68 + t) = a
    · obtain ⟨n, bg', bw', dm', e1, e2, e3, e4⟩ := ih (t + 1) (q + 1) fu fu' (upd bg q (nI t)) (upd bw q (nI (wghN book nt d t (zSet book nt (nI t))))) (upd dm q (nI t)) (by omega) (by omega) (by omega) (by omega) (fun i hi => by
        by_cases e : i = q
        · exact ⟨t, htg, by rw [e, pk_us], by rw [e, pk_us], by rw [e, pk_us]⟩
        · obtain ⟨g, g1, g2, g3, g4⟩ := hc i (by omega)
          exact ⟨g, g1, by rw [pk_un (by omega), g2], by rw [pk_un (by omega), g3], by rw [pk_un (by omega), g4]⟩)
      refine ⟨n, bg', bw', dm', e1, e2, fun k => ?_, fun k => ?_⟩
      · have e3 := e3 k
        rw [rt] at e3
        rw [L0_lineUp_8, rt, if_neg (nI_ge (by omega) (by omega)), if_neg n6, zg_n (by omega) (by decide), nI_clamp (by omega), ow, if_pos c1, zg_n (by omega) (by decide), r.inside h (nI t), zb1_e, ww, zb1_e, zg_n (by omega) (by decide), zl_e, nI_clamp (by omega), nI_1, nI_1]
        exact e3
      · rw [L6_carts_51, h1, if_neg (nI_ge (by omega) (by omega)), show (68 : Int32) = nI 68 from rfl, nI_add, zg_n (by omega) (by decide), nI_clamp (by omega), if_pos c1, zg_n (by omega) (by decide), nI_clamp (by omega), nI_1, nI_1]
        exact e4 k
    · obtain ⟨n, bg', bw', dm', e1, e2, e3, e4⟩ := ih (t + 1) q fu fu' bg bw dm (by omega) (by omega) (by omega) (by omega) hc
      refine ⟨n, bg', bw', dm', e1, e2, fun k => ?_, fun k => ?_⟩
      · have e3 := e3 k
        rw [rt] at e3
        rw [L0_lineUp_8, rt, if_neg (nI_ge (by omega) (by omega)), if_neg n6, zg_n (by omega) (by decide), nI_clamp (by omega), ow, if_neg c1, nI_1]
        exact e3
      · rw [L6_carts_51, h1, if_neg (nI_ge (by omega) (by omega)), show (68 : Int32) = nI 68 from rfl, nI_add, zg_n (by omega) (by decide), nI_clamp (by omega), if_neg c1, nI_1]
        exact e4 k
theorem c_pow {n : Nat} (hn : n < 7) (k : Int32 → Option (Int32 × (Nat → Int32) × (Nat → Int32) × (Nat → Int32) × (Nat → Int32))) : ∀ (m t fu : Nat), t + m = n → m < fu → L6_carts_100 k (nI n) fu (nI (n ^ t)) (nI t) = k (nI (n ^ n)) := by
  intro m
  induction m with
  | zero =>
    intro t fu ht hm
    obtain ⟨fu, rfl⟩ : ∃ m, fu = m + 1 := ⟨fu - 1, by omega⟩
    have e : t = n := by omega
    rw [L6_carts_100, e, if_pos (nI_le (Nat.le_refl _) (by omega))]
  | succ m ih =>
    intro t fu ht hm
    obtain ⟨fu, rfl⟩ : ∃ m, fu = m + 1 := ⟨fu - 1, by omega⟩
    rw [L6_carts_100, if_neg (nI_ge (by omega) (by omega)), pk_mul, zl_e, ← Nat.pow_succ, nI_1]
    exact ih (t + 1) fu (by omega) (by omega)
theorem e_carts {B nt ng d nm : Nat} {book : Nat → Int32} {things gifts days : Int32} {size weight sound harm in_ kind owner empty room told gate ear scale lost watch : Nat → Int32} {moments : Int32} {kept : Nat → Int32} (h : Bk B book nt ng d nm) (r : Rw things gifts days size weight sound harm in_ kind owner empty room told gate ear scale lost watch moments kept book nt ng nm) (rf : Nat → Int32) (bcount bleast bneigh bdrawn : Int32) (bgifts bweights border bbest drawn row best : Nat → Int32) (a b c pl : Int32) :
    ∃ (ans : Int32) (rf' : Nat → Int32) (bcount' bleast' bneigh' bdrawn' : Int32) (bgifts' bweights' border' bbest' drawn' row' best' : Nat → Int32),
      f5_carts (rf 0) (rf 1) (rf 2) things gifts days weight in_ kind owner empty bcount bleast bneigh bdrawn bgifts bweights border bbest a b c pl = some (ans, rf' 0, rf' 1, rf' 2, bcount', bleast', bneigh', bdrawn', bgifts', bweights', border', bbest') ∧
      f6_carts 0 book rf drawn row best a b c pl = some (ans, rf', drawn', row', best') := by
  have hn1 := h.1.1
  have hn2 := h.1.2.1
  have h8 := pow8 hn1
  have w3 : f5_within b 0 400 = some (bI (rg b 0 400)) := v5w (by decide) (by decide)
  have m3 : f6_in b.toInt64 0 400 = some (bI (rg b 0 400)) := v6i (by decide) (by decide)
  have w4 : f5_within c 1 3 = some (bI (rg c 1 3)) := v5w (by decide) (by decide)
  have m4 : f6_in c.toInt64 1 3 = some (bI (rg c 1 3)) := v6i (by decide) (by decide)
  by_cases k1 : rg a 0 1 = true ∧ rg b 0 400 = true ∧ rg c 1 3 = true ∧ (-1 : Int32) ≤ pl
  · obtain ⟨c1, c2, c3, c4⟩ := k1
    obtain ⟨cc, hc1, hc2, rfl⟩ := rg_of (by omega) c3
    obtain ⟨n, bg', bw', dm', hng, hcg, e3, e4⟩ := c_line h r a ng 0 0 FU FU bgifts bweights drawn (by omega) (by unfold FU; omega) (by unfold FU; omega) (by omega) (fun i hi => absurd hi (by omega))
    rw [show nI 0 = (0 : Int32) from rfl] at e3 e4
    have H : cH book dm' n cc (fun i => nN (bw' i)) := ⟨by omega, hc1, by omega, fun i hi => by
      obtain ⟨g, g1, g2, g3, g4⟩ := hcg i hi
      have wl := h.wle (g := g) (S := zSet book nt (nI g)) g1
      have lt := z_set_lt book nt (nI g)
      refine ⟨by show nN (bw' i) ≤ 300; rw [g4, nN_n (by omega)]; exact wl, nI (zSet book nt (nI g)), ?_, ?_⟩
      · rw [g3, v6_thingsIn hn1 h.2.1.1]
      · show f6_weighs book (dm' i) (nI (zSet book nt (nI g))) = some (nI (nN (bw' i)))
        rw [g3, g4, nN_n (by omega)]
        exact h.weighs g1 (by omega)⟩
    have hB : ∀ i, i < n → bw' i = nI ((fun i => nN (bw' i)) i) := fun i hi => by
      obtain ⟨g, g1, g2, g3, g4⟩ := hcg i hi
      have wl := h.wle (g := g) (S := zSet book nt (nI g)) g1
      show bw' i = nI (nN (bw' i))
      rw [g4, nN_n (by omega)]
    obtain ⟨least', border', bbest', best', s1, s2, s3, s4, s5⟩ := c_main H hB n 0 0 FUD zNone border bbest best (by omega) (by rw [Nat.pow_zero]; omega) (by unfold FUD; omega) (show pcN 0 8 = 0 by decide) (fun j hj => absurd hj (by omega)) (Or.inl rfl)
    obtain ⟨row', s6⟩ := s5 row
    have hp := o_pow n (by omega)
    have d0 : f0_drawFrom FUD (nI n) (-1 : Int32) (nI cc) (0 : Int32) bw' border bbest (0 : Int32) (0 : Int32) = some (least', nI 0, border', bbest') := s4
    have l6 : f0_lineUp bcount bleast bneigh bdrawn bgifts bweights border bbest things gifts days weight in_ kind owner empty a (nI cc) = some (nI n, least', nI cc, nI 0, bg', bw', border', bbest') := by
      unfold f0_lineUp
      rw [e3, d0, zb4_e]
    have g5 : f5_carts (rf 0) (rf 1) (rf 2) things gifts days weight in_ kind owner empty bcount bleast bneigh bdrawn bgifts bweights border bbest a b (nI cc) pl = (if least' ≤ b then if pl = (-1 : Int32) then some (least', rf 0, rf 1, rf 2, nI n, least', nI cc, nI 0, bg', bw', border', bbest') else if nI n ≤ pl then some ((-5 : Int32), rf 0, rf 1, rf 2, nI n, least', nI cc, nI 0, bg', bw', border', bbest') else zb1 (f0_giftAt (nI n) bg' bbest' pl) (fun r38 => some (r38, rf 0, rf 1, rf 2, nI n, least', nI cc, nI 0, bg', bw', border', bbest')) else some ((-1 : Int32), rf 0, rf 1, rf 2, nI n, least', nI cc, nI 0, bg', bw', border', bbest')) := by
      unfold f5_carts
      rw [v5_isCity, c1, zb1_e, if_neg (by decide), w3, c2, zb1_e, if_neg (by decide), w4, c3, zb1_e, if_neg (by decide), if_pos c4, l6, zb8_e]
    have f126 : ∀ (k : Int32 → (Nat → Int32) → (Nat → Int32) → Option (Int32 × (Nat → Int32) × (Nat → Int32) × (Nat → Int32) × (Nat → Int32))), L6_carts_126 k book (nI cc) (nI n) dm' (nI (n ^ n)) FU (-1 : Int32) (0 : Int32) row best = k least' row' best' := fun k => by
      have e := s6 k (FU - n ^ n)
      rw [show FU - n ^ n + n ^ n = FU by unfold FU; omega, Nat.zero_mul, Nat.zero_add, Nat.one_mul] at e
      obtain ⟨fu, hfu⟩ : ∃ fu, FU - n ^ n = fu + 1 := ⟨FU - n ^ n - 1, by unfold FU; omega⟩
      rw [hfu, L6_carts_126, if_pos (nI_le (Nat.le_refl _) (by omega))] at e
      exact e
    have f100 : ∀ (k : Int32 → Option (Int32 × (Nat → Int32) × (Nat → Int32) × (Nat → Int32) × (Nat → Int32))), L6_carts_100 k (nI n) FU (1 : Int32) (0 : Int32) = k (nI (n ^ n)) := fun k => by
      have e := c_pow (n := n) (by omega) k n 0 FU (by omega) (by unfold FU; omega)
      rw [Nat.pow_zero] at e
      exact e
    have g6 : f6_carts 0 book rf drawn row best a b (nI cc) pl = (if least' ≤ b then if pl = (-1 : Int32) then some (least', rf, dm', row', best') else if nI n ≤ pl then some ((-5 : Int32), rf, dm', row', best') else zg pl 6 (zl ((best' pl.toNatClampNeg)) (fun x67 => some (x67, rf, dm', row', best'))) else some ((-1 : Int32), rf, dm', row', best')) := by
      unfold f6_carts
      rw [v6_isCity, c1, zb1_e, if_neg (by decide), m3, c2, zb1_e, if_neg (by decide), m4, c3, zb1_e, if_neg (by decide), if_pos c4, e4, f100, f126]
    rw [g5, g6]
    by_cases q1 : least' ≤ b
    · rw [if_pos q1, if_pos q1]
      by_cases q2 : pl = (-1 : Int32)
      · exact ⟨least', rf, nI n, least', nI cc, nI 0, bg', bw', border', bbest', dm', row', best', by rw [if_pos q2], by rw [if_pos q2]⟩
      · rw [if_neg q2, if_neg q2]
        by_cases q3 : nI n ≤ pl
        · exact ⟨-5, rf, nI n, least', nI cc, nI 0, bg', bw', border', bbest', dm', row', best', by rw [if_pos q3], by rw [if_pos q3]⟩
        · rw [if_neg q3, if_neg q3]
          have hpl : rgn pl n = true := by
            unfold rgn
            apply decide_eq_true
            rw [z_leI] at c4 q3
            rw [z_eqI] at q2
            rw [nI_toInt (by omega)] at q3
            have : (-1 : Int32).toInt = -1 := by decide
            omega
          obtain ⟨p, hpn, rfl⟩ := rgn_of (by omega) hpl
          rcases s1 with s1 | ⟨v, _, _, hbb⟩
          · exact absurd s1 s2
          · obtain ⟨i, hi, b1, b2⟩ := hbb p hpn
            obtain ⟨g, g1, g2, g3, g4⟩ := hcg i hi
            refine ⟨nI g, rf, nI n, least', nI cc, nI 0, bg', bw', border', bbest', dm', row', best', ?_, ?_⟩
            · have ew : f5_within (nI p) (0 : Int32) (nI n - (1 : Int32)) = some (bI (rgn (nI p) n)) := v5wn (by omega)
              unfold f0_giftAt
              rw [ew, hpl, zb1_e, if_neg (by decide), zg_n (by omega) (by decide), nI_clamp (by omega), b1, zg_n (by omega) (by decide), zl_e, nI_clamp (by omega), g2, zb1_e]
            · rw [zg_n (by omega) (by decide), zl_e, nI_clamp (by omega), b2, g3]
    · exact ⟨-1, rf, nI n, least', nI cc, nI 0, bg', bw', border', bbest', dm', row', best', by rw [if_neg q1], by rw [if_neg q1]⟩
  · refine ⟨-10, cntd 0 rf (-2), bcount, bleast, bneigh, bdrawn, bgifts, bweights, border, bbest, drawn, row, best, ?_, ?_⟩
    · unfold f5_carts
      simp only [v5_isCity, w3, w4, bI_z, zb1_e, v5_ten, zb4_e]
      cases c5 : rg a 0 1
      · simp
      · cases c6 : rg b 0 400
        · simp
        · cases c7 : rg c 1 3
          · simp
          · rw [if_neg (by decide), if_neg (by decide), if_neg (by decide), if_neg (fun e => k1 ⟨c5, c6, c7, e⟩)]
    · unfold f6_carts
      simp only [v6_isCity, m3, m4, bI_z, zb1_e, v6_ten, zb2_e]
      cases c5 : rg a 0 1
      · simp
      · cases c6 : rg b 0 400
        · simp
        · cases c7 : rg c 1 3
          · simp
          · rw [if_neg (by decide), if_neg (by decide), if_neg (by decide), if_neg (fun e => k1 ⟨c5, c6, c7, e⟩)]
