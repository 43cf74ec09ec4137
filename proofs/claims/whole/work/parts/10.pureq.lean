/-! ===== pure side 27: wide, the class's walks ===== -/
theorem w_gate {B nt ng d nm : Nat} {book : Nat → Int32} {things gifts days : Int32} {size weight sound harm in_ kind owner empty room told gate ear scale lost watch : Nat → Int32} {moments : Int32} {kept : Nat → Int32} (h : Bk B book nt ng d nm) (r : Rw things gifts days size weight sound harm in_ kind owner empty room told gate ear scale lost watch moments kept book nt ng nm) {c : Nat} (hc : c < 2) (k : Int32 → Option Int32) : ∀ (m t n : Nat), t + m = ng → m < n → allB (wNb book nt d c 0) t = true → L1_leastGate_4 k things gifts days weight sound in_ kind owner empty room ear scale (nI c) n (nI (mxN (wNd book nt c 0) t)) (nI t) = if allB (wNb book nt d c 0) ng = true then k (nI (mxN (wNd book nt c 0) ng)) else some (-1) := by
  have hn1 := h.1.1
  have hn2 := h.1.2.1
  have h8 := pow8 hn1
  have rgf : gifts = nI ng := by rw [r.1.2.1, h.2.1.2.1]
  have bd : ∀ g, g < ng → wNd book nt c 0 g ≤ 1000 := fun g hg => by
    unfold wNd
    have := (h.2.2.2.2.1 g hg).2.2.1.2
    split
    · rw [if_pos rfl]; omega
    · omega
  intro m
  induction m with
  | zero =>
    intro t n ht hm ha
    obtain ⟨n, rfl⟩ : ∃ m, n = m + 1 := ⟨n - 1, by omega⟩
    have e : t = ng := by omega
    rw [L1_leastGate_4, rgf, e, if_pos (nI_le (Nat.le_refl _) (by omega)), if_pos (by rw [← e]; exact ha)]
  | succ m ih =>
    intro t n ht hm ha
    obtain ⟨n, rfl⟩ : ∃ m, n = m + 1 := ⟨n - 1, by omega⟩
    have htg : t < ng := by omega
    have hS := z_set_lt book nt (nI t)
    have i1 := ih (t + 1) n (by omega) (by omega)
    rw [allB, ha, Bool.true_and, mxN] at i1
    have bm := mxN_le (n := t) (fun g hg => bd g (by omega))
    have ow := (r.2.2.1 t htg).2.2.2.2
    have hzl : zSet book nt (nI t) < 2 ^ 31 := by omega
    rw [L1_leastGate_4, rgf, if_neg (nI_ge (by omega) (by omega)), r.inside h (nI t), zb1_e, zg_n (by omega) (by omega), nI_clamp (by omega), nI_1, ow, ← rgf]
    by_cases c1 : book (68 + t) = nI c
    · rw [if_pos c1]
      by_cases c2 : zSet book nt (nI t) = 0
      · rw [if_pos (by rw [c2]; rfl)]
        have rl : wRl book nt c t = false := by
          unfold wRl
          rw [show (decide (zSet book nt (nI t) ≠ 0)) = false from decide_eq_false (by omega), Bool.and_false]
        have q1 : wNb book nt d c 0 t = true := by unfold wNb; rw [rl]; rfl
        have q2 : wNd book nt c 0 t = 0 := by unfold wNd; rw [rl]; rfl
        rw [q1, q2, if_neg (by omega)] at i1
        exact i1 rfl
      · rw [if_neg (show ¬ nI (zSet book nt (nI t)) = (0 : Int32) from nI_neq hzl (by decide) c2)]
        have rl : wRl book nt c t = true := by
          unfold wRl
          rw [decide_eq_true c1, show (decide (zSet book nt (nI t) ≠ 0)) = true from decide_eq_true c2]
          rfl
        have w1 := r.isHeard h htg hS
        have w2 := r.isHeavy h htg hS
        have rr := (r.2.2.1 t htg).2.2.1
        obtain ⟨hr1, hr2⟩ := (h.2.2.2.2.1 t htg).2.2.1
        have q1 : wNb book nt d c 0 t = (!hrd book nt t (zSet book nt (nI t)) && !hvy book nt d t (zSet book nt (nI t))) := by unfold wNb; rw [rl]; rfl
        have q2 : wNd book nt c 0 t = nN (book (56 + t)) := by unfold wNd; rw [rl]; rfl
        rw [w1, zb1_e]
        cases v1 : hrd book nt t (zSet book nt (nI t))
        · rw [if_pos (show bI false = 0 by decide), w2, zb1_e]
          cases v2 : hvy book nt d t (zSet book nt (nI t))
          · rw [if_pos (show bI false = 0 by decide), zg_n (by omega) (by omega), rr, zl_e]
            rw [v1, v2] at q1
            have i2 := i1 q1
            rw [q2] at i2
            rw [← i2]
            obtain ⟨R, hR⟩ : ∃ R, nN (book (56 + t)) = R := ⟨_, rfl⟩
            rw [hR] at hr1 hr2 ⊢
            rw [hr1]
            by_cases c3 : mxN (wNd book nt c 0) t < R
            · rw [if_pos c3, if_pos ((nI_ltI (by omega) (by omega)).mpr c3)]
            · rw [if_neg c3, if_neg (fun e => c3 ((nI_ltI (by omega) (by omega)).mp e))]
          · rw [if_neg (show ¬ bI true = 0 by decide)]
            rw [v1, v2] at q1
            rw [allB_f q1 htg, if_neg (by decide)]
        · rw [if_neg (show ¬ bI true = 0 by decide)]
          rw [v1] at q1
          rw [allB_f q1 htg, if_neg (by decide)]
    · rw [if_neg c1]
      have rl : wRl book nt c t = false := by
        unfold wRl
        rw [decide_eq_false c1, Bool.false_and]
      have q1 : wNb book nt d c 0 t = true := by unfold wNb; rw [rl]; rfl
      have q2 : wNd book nt c 0 t = 0 := by unfold wNd; rw [rl]; rfl
      rw [q1, q2, if_neg (by omega)] at i1
      exact i1 rfl
theorem w_ear {B nt ng d nm : Nat} {book : Nat → Int32} {things gifts days : Int32} {size weight sound harm in_ kind owner empty room told gate ear scale lost watch : Nat → Int32} {moments : Int32} {kept : Nat → Int32} (h : Bk B book nt ng d nm) (r : Rw things gifts days size weight sound harm in_ kind owner empty room told gate ear scale lost watch moments kept book nt ng nm) {c : Nat} (hc : c < 2) (k : Int32 → Option Int32) : ∀ (m t n : Nat), t + m = ng → m < n → allB (wNb book nt d c 1) t = true → L1_leastEar_4 k things gifts days weight sound in_ kind owner empty room gate scale (nI c) n (nI (mxN (wNd book nt c 1) t)) (nI t) = if allB (wNb book nt d c 1) ng = true then k (nI (mxN (wNd book nt c 1) ng)) else some (-1) := by
  have hn1 := h.1.1
  have hn2 := h.1.2.1
  have h8 := pow8 hn1
  have rgf : gifts = nI ng := by rw [r.1.2.1, h.2.1.2.1]
  have bd : ∀ g, g < ng → wNd book nt c 1 g ≤ 1000 := fun g hg => by
    unfold wNd
    have := h.sle (g := g) (S := zSet book nt (nI g))
    split
    · rw [if_neg (by decide)]; omega
    · omega
  intro m
  induction m with
  | zero =>
    intro t n ht hm ha
    obtain ⟨n, rfl⟩ : ∃ m, n = m + 1 := ⟨n - 1, by omega⟩
    have e : t = ng := by omega
    rw [L1_leastEar_4, rgf, e, if_pos (nI_le (Nat.le_refl _) (by omega)), if_pos (by rw [← e]; exact ha)]
  | succ m ih =>
    intro t n ht hm ha
    obtain ⟨n, rfl⟩ : ∃ m, n = m + 1 := ⟨n - 1, by omega⟩
    have htg : t < ng := by omega
    have hS := z_set_lt book nt (nI t)
    have i1 := ih (t + 1) n (by omega) (by omega)
    rw [allB, ha, Bool.true_and, mxN] at i1
    have bm := mxN_le (n := t) (fun g hg => bd g (by omega))
    have ow := (r.2.2.1 t htg).2.2.2.2
    have hzl : zSet book nt (nI t) < 2 ^ 31 := by omega
    rw [L1_leastEar_4, rgf, if_neg (nI_ge (by omega) (by omega)), r.inside h (nI t), zb1_e, zg_n (by omega) (by omega), nI_clamp (by omega), nI_1, ow, ← rgf]
    by_cases c1 : book (68 + t) = nI c
    · rw [if_pos c1]
      by_cases c2 : zSet book nt (nI t) = 0
      · rw [if_pos (by rw [c2]; rfl)]
        have rl : wRl book nt c t = false := by
          unfold wRl
          rw [show (decide (zSet book nt (nI t) ≠ 0)) = false from decide_eq_false (by omega), Bool.and_false]
        have q1 : wNb book nt d c 1 t = true := by unfold wNb; rw [rl]; rfl
        have q2 : wNd book nt c 1 t = 0 := by unfold wNd; rw [rl]; rfl
        rw [q1, q2, if_neg (by omega)] at i1
        exact i1 rfl
      · rw [if_neg (show ¬ nI (zSet book nt (nI t)) = (0 : Int32) from nI_neq hzl (by decide) c2)]
        have rl : wRl book nt c t = true := by
          unfold wRl
          rw [decide_eq_true c1, show (decide (zSet book nt (nI t) ≠ 0)) = true from decide_eq_true c2]
          rfl
        have w1 := r.fits h htg
        have w2 := r.isHeavy h htg hS
        have w3 := r.sounds h htg hS
        have sl := h.sle (g := t) (S := zSet book nt (nI t))
        have q1 : wNb book nt d c 1 t = (fit book t && !hvy book nt d t (zSet book nt (nI t))) := by unfold wNb; rw [rl]; rfl
        have q2 : wNd book nt c 1 t = sndN book nt t (zSet book nt (nI t)) + 1 := by unfold wNd; rw [rl]; rfl
        rw [w1, zb1_e]
        cases v1 : fit book t
        · rw [if_pos (show bI false = 0 by decide)]
          rw [v1] at q1
          rw [allB_f q1 htg, if_neg (by decide)]
        · rw [if_neg (show ¬ bI true = 0 by decide), w2, zb1_e]
          cases v2 : hvy book nt d t (zSet book nt (nI t))
          · rw [if_pos (show bI false = 0 by decide), w3, zb1_e, zl_e, nI_1]
            rw [v1, v2] at q1
            have i2 := i1 q1
            rw [q2] at i2
            rw [← i2]
            by_cases c3 : mxN (wNd book nt c 1) t < sndN book nt t (zSet book nt (nI t)) + 1
            · rw [if_pos c3, if_pos ((nI_ltI (by omega) (by omega)).mpr c3)]
            · rw [if_neg c3, if_neg (fun e => c3 ((nI_ltI (by omega) (by omega)).mp e))]
          · rw [if_neg (show ¬ bI true = 0 by decide)]
            rw [v1, v2] at q1
            rw [allB_f q1 htg, if_neg (by decide)]
    · rw [if_neg c1]
      have rl : wRl book nt c t = false := by
        unfold wRl
        rw [decide_eq_false c1, Bool.false_and]
      have q1 : wNb book nt d c 1 t = true := by unfold wNb; rw [rl]; rfl
      have q2 : wNd book nt c 1 t = 0 := by unfold wNd; rw [rl]; rfl
      rw [q1, q2, if_neg (by omega)] at i1
      exact i1 rfl
theorem e_wide {B nt ng d nm : Nat} {book : Nat → Int32} {things gifts days : Int32} {size weight sound harm in_ kind owner empty room told gate ear scale lost watch : Nat → Int32} {moments : Int32} {kept : Nat → Int32} (h : Bk B book nt ng d nm) (r : Rw things gifts days size weight sound harm in_ kind owner empty room told gate ear scale lost watch moments kept book nt ng nm) (rf : Nat → Int32) (a b : Int32) : ∃ (ans : Int32) (rf' : Nat → Int32) (book' : Nat → Int32),
    f5_wide (rf 0) (rf 1) (rf 2) things gifts days weight sound in_ kind owner empty room gate ear scale a b = some (ans, rf' 0, rf' 1, rf' 2) ∧ f6_wide 0 book rf a b = some (ans, book', rf') ∧ book' = book := by
  have hn1 := h.1.1
  have hn2 := h.1.2.1
  have h8 := pow8 hn1
  have w3 : f5_within b 0 1 = some (bI (rg b 0 1)) := v5w (by decide) (by decide)
  have m3 : f6_in b.toInt64 0 1 = some (bI (rg b 0 1)) := v6i (by decide) (by decide)
  by_cases k1 : rg a 0 1 = true ∧ rg b 0 1 = true
  · obtain ⟨c1, c2⟩ := k1
    obtain ⟨c, _, hc, rfl⟩ := rg_of (by omega) c1
    obtain ⟨w, _, hw, rfl⟩ := rg_of (by omega) c2
    obtain ⟨top, ht⟩ : ∃ top, top = if w = 0 then 30 else 50 := ⟨_, rfl⟩
    have ht50 : top ≤ 50 := by rw [ht]; split <;> omega
    have hx : 74 + 3 * (1 - c) + w < 80 := by omega
    have ex : ((74 : Int32) + ((3 : Int32) * ((1 : Int32) - nI c))) + nI w = nI (74 + 3 * (1 - c) + w) := by
      rw [show (1 : Int32) = nI 1 from rfl, show (3 : Int32) = nI 3 from rfl, show (74 : Int32) = nI 74 from rfl, pk_sub (by omega), pk_mul, nI_add, nI_add]
    have bm : mxN (wNd book nt c w) ng ≤ 1000 := mxN_le (fun g hg => by
      unfold wNd
      have := (h.2.2.2.2.1 g hg).2.2.1.2
      have := h.sle (g := g) (S := zSet book nt (nI g))
      split
      · split <;> omega
      · omega)
    have g6 : f6_wide 0 book rf (nI c) (nI w) = some (wRs (allB (wNb book nt d c w) ng) (mxN (wNd book nt c w) ng) top 0, book, rf) := by
      obtain ⟨b', g1, g2⟩ := w_57 h (c := c) (w := w) (top := top) (by omega) (by omega) ht (fun y36 book_37 => zg (nI (74 + 3 * (1 - c) + w)) 230 (some (y36, (upd book_37 (nI (74 + 3 * (1 - c) + w)).toNatClampNeg (book (74 + 3 * (1 - c) + w))), rf))) (top + 1) FU book (Nat.le_refl _) (by unfold FU; omega) (fun u => rfl)
      have e1 : wRs (allB (wNb book nt d c w) ng) (mxN (wNd book nt c w) ng) top (top + 1) = -1 := by
        unfold wRs
        rw [if_neg (by omega)]
        rfl
      have e2 : (if nI w = 0 then some (30 : Int32) else some (50 : Int32)) = some (nI top) := by
        have : w = 0 ∨ w = 1 := by omega
        rcases this with rfl | rfl
        · rw [ht]; rfl
        · rw [ht]; rfl
      unfold f6_wide
      rw [v6_isCity, c1, zb1_e, if_neg (by decide), m3, c2, zb1_e, if_neg (by decide), ex, zl_e, zg_n (by omega) (by omega), zl_e, nI_clamp (by omega), e2, zb1_e]
      rw [e1, if_neg (by omega), show top + 1 - 1 = top from rfl, nI_clamp (by omega)] at g2
      refine Eq.trans g2 ?_
      rw [zg_n (by omega) (by omega), g1, upd_id]
    have r0 : ∀ v : Nat, v ≤ 1000 → (if nI top < nI v then some (-1 : Int32) else some (nI v)) = some (wRs true v top 0) := fun v hv => by
      unfold wRs
      by_cases e : v ≤ top
      · rw [if_neg (fun q => absurd ((nI_ltI (by omega) (by omega)).mp q) (by omega)), if_pos ⟨rfl, e, by omega⟩]
        by_cases e0 : 0 < v
        · rw [if_pos e0]
        · rw [if_neg e0, show v = 0 by omega]
      · rw [if_pos ((nI_ltI (by omega) (by omega)).mpr (by omega)), if_neg (fun q => e q.2.1)]
        rfl
    refine ⟨_, rf, book, ?_, g6, rfl⟩
    have w2 : w = 0 ∨ w = 1 := by omega
    rcases w2 with rfl | rfl
    · have g5 : f1_leastGate things gifts days weight sound in_ kind owner empty room ear scale (nI c) = some (wRs (allB (wNb book nt d c 0) ng) (mxN (wNd book nt c 0) ng) top 0) := by
        have q := w_gate h r (c := c) (by omega) (fun y18 => if (30 : Int32) < y18 then some (-1 : Int32) else some y18) ng 0 FU (by omega) (by unfold FU; omega) rfl
        unfold f1_leastGate
        refine Eq.trans q ?_
        have r1 := r0 _ bm
        rw [ht] at r1 ⊢
        rw [if_pos rfl] at r1 ⊢
        cases allB (wNb book nt d c 0) ng
        · rfl
        · exact r1
      unfold f5_wide
      rw [v5_isCity, c1, zb1_e, if_neg (by decide), w3, c2, zb1_e, if_neg (by decide), if_pos (show nI 0 = 0 from rfl), g5]
      rfl
    · have g5 : f1_leastEar things gifts days weight sound in_ kind owner empty room gate scale (nI c) = some (wRs (allB (wNb book nt d c 1) ng) (mxN (wNd book nt c 1) ng) top 0) := by
        have q := w_ear h r (c := c) (by omega) (fun y18 => if (50 : Int32) < y18 then some (-1 : Int32) else some y18) ng 0 FU (by omega) (by unfold FU; omega) rfl
        unfold f1_leastEar
        refine Eq.trans q ?_
        have r1 := r0 _ bm
        rw [ht] at r1 ⊢
        rw [if_neg (show ¬ (1 : Nat) = 0 by decide)] at r1 ⊢
        cases allB (wNb book nt d c 1) ng
        · rfl
        · exact r1
      unfold f5_wide
      rw [v5_isCity, c1, zb1_e, if_neg (by decide), w3, c2, zb1_e, if_neg (by decide), if_neg (show ¬ nI 1 = 0 by decide), g5]
      rfl
  · refine ⟨-2, cntd 0 rf (-2), book, ?_, ?_, rfl⟩
    · unfold f5_wide
      simp only [v5_isCity, w3, bI_z, zb1_e, v5_counted, zb4_e]
      cases c5 : rg a 0 1 <;> cases c6 : rg b 0 1 <;> simp_all
    · unfold f6_wide
      simp only [v6_isCity, m3, bI_z, zb1_e, v6_bad, zb2_e]
      cases c5 : rg a 0 1 <;> cases c6 : rg b 0 1 <;> simp_all
