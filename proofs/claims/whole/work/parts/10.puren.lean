/-! ===== pure side 24: hide, the search ===== -/
def hidI (book : Nat → Int32) (nt d g hr : Nat) (y3 y4 y1 y2 : Int32) : Prop :=
  (y3 = zNone ∧ y4 = nI 0 ∧ y1 = zNone ∧ y2 = zNone) ∨ ∃ b, b < 2 ^ nt ∧ y3 = nI b ∧ y1 = nI b ∧ y4 = nI (lssN book nt d g b hr) ∧ y2 = nI (lssN book nt d g b hr)
theorem none_lt {n : Nat} (h : n < 2 ^ 31) : zNone < nI n := by
  rw [z_ltI, nI_toInt h]
  have : zNone.toInt = -1 := by decide
  omega
theorem Bk.lle {B nt ng d nm : Nat} {book : Nat → Int32} (h : Bk B book nt ng d nm) {g S hr : Nat} : lssN book nt d g S hr < 2 ^ 31 := by
  have := h.hle (g := g) (S := S)
  unfold lssN
  omega
/-- the model's step where the set may not be taken -/
theorem hid_tail {B nt ng d nm : Nat} {book : Nat → Int32} (h : Bk B book nt ng d nm) {g hr M : Nat} (hM : M < 2 ^ nt) (hg : g < ng) (k : Int32 → Int32 → Option (Int32 × (Nat → Int32))) {y1 y2 : Int32} (hy : ¬ y2 < -1) : ∀ (m t n : Nat), t + m = 2 ^ nt → m < n → M < t → L6_hide_55 k book (nI g) (nI hr) (nI M) n y1 y2 (nI t) = k y1 y2 := by
  have hn1 := h.1.1
  have h8 := pow8 hn1
  have e31 : (1 : Int32) <<< (nI nt &&& 31) = nI (2 ^ nt) := zshl (by omega)
  intro m
  induction m with
  | zero =>
    intro t n ht hm hMt
    obtain ⟨n, rfl⟩ : ∃ m, n = m + 1 := ⟨n - 1, by omega⟩
    rw [L6_hide_55, h.2.1.1, e31, if_pos (nI_le (by omega) (by omega))]
  | succ m ih =>
    intro t n ht hm hMt
    obtain ⟨n, rfl⟩ : ∃ m, n = m + 1 := ⟨n - 1, by omega⟩
    rw [L6_hide_55, h.2.1.1, e31, if_neg (nI_ge (by omega) (by omega)), if_neg (fun e => absurd (sub_le (by omega) (by omega) e) (by omega)), zb1_e, if_pos rfl, zb1_e]
    rw [if_neg hy, if_pos rfl, zb1_e, if_pos rfl, zb1_e, if_pos rfl, nI_1]
    exact ih (t + 1) n (by omega) (by omega) (by omega)
theorem hid_sim {B nt ng d nm : Nat} {book : Nat → Int32} {things gifts days : Int32} {size weight sound harm in_ kind owner empty room told gate ear scale lost watch : Nat → Int32} {moments : Int32} {kept : Nat → Int32} (h : Bk B book nt ng d nm) (r : Rw things gifts days size weight sound harm in_ kind owner empty room told gate ear scale lost watch moments kept book nt ng nm) {g hr M : Nat} (hM : M < 2 ^ nt) (hg : g < ng) (hh : hr < 6) : ∀ (m t n n' : Nat) (y3 y4 y1 y2 : Int32), t + m = M + 1 → m < n → 2 ^ nt - t < n' → hidI book nt d g hr y3 y4 y1 y2 → ∃ z3 z4 z1 z2, hidI book nt d g hr z3 z4 z1 z2 ∧
    (∀ k, L1_setThatDoesMost_15 k days size weight sound harm kind owner empty room gate ear scale watch (nI g) (nI hr) (nI M) n y3 y4 (nI t) = k z3) ∧ (∀ k, L6_hide_55 k book (nI g) (nI hr) (nI M) n' y1 y2 (nI t) = k z1 z2) := by
  have hn1 := h.1.1
  have hn2 := h.1.2.1
  have h8 := pow8 hn1
  have e31 : (1 : Int32) <<< (nI nt &&& 31) = nI (2 ^ nt) := zshl (by omega)
  have nl : ∀ y3 y4 y1 y2, hidI book nt d g hr y3 y4 y1 y2 → ¬ y2 < -1 := by
    intro y3 y4 y1 y2 hi
    rcases hi with ⟨_, _, _, e⟩ | ⟨b, _, _, _, _, e⟩
    · rw [e]
      decide
    · rw [e, z_ltI, nI_toInt h.lle]
      have : (-1 : Int32).toInt = -1 := by decide
      omega
  intro m
  induction m with
  | zero =>
    intro t n n' y3 y4 y1 y2 ht hm hm' hi
    refine ⟨y3, y4, y1, y2, hi, fun k => ?_, fun k => ?_⟩
    · obtain ⟨n, rfl⟩ : ∃ m, n = m + 1 := ⟨n - 1, by omega⟩
      rw [L1_setThatDoesMost_15, if_pos ((nI_ltI (by omega) (by omega)).mpr (by omega))]
    · exact hid_tail h hM hg k (nl _ _ _ _ hi) (2 ^ nt - t) t n' (by omega) hm' (by omega)
  | succ m ih =>
    intro t n n' y3 y4 y1 y2 ht hm hm' hi
    obtain ⟨n, rfl⟩ : ∃ m, n = m + 1 := ⟨n - 1, by omega⟩
    obtain ⟨n', rfl⟩ : ∃ m, n' = m + 1 := ⟨n' - 1, by omega⟩
    have ht2 : t < 2 ^ nt := by omega
    have wr := r.hasRoom h hg ht2
    have wp := r.passes h hg ht2
    have wl := r.loss h hg ht2 hh
    have ms := h.sum (S := t) (w := 0) (by omega) (by decide)
    have hsl := h.sumle (S := t) (w := 0) (by decide)
    have mp := h.passes hg (S := t) (by omega)
    have ml := h.loses hg (S := t) (by omega) hh
    obtain ⟨hr1, hr2⟩ := (h.2.2.2.2.1 g hg).2.2.1
    obtain ⟨R, hR⟩ : ∃ R, nN (book (56 + g)) = R := ⟨_, rfl⟩
    rw [hR] at hr1 hr2 wr
    have hlt := h.lle (g := g) (S := t) (hr := hr)
    have g1 : ¬ nI M < nI t := fun e => absurd ((nI_ltI (by omega) (by omega)).mp e) (by omega)
    have n1 : ¬ (1 : Int32) = 0 := by decide
    by_cases va : (nI t &&& (nI M ^^^ (-1 : Int32))) = 0 ∧ sumV (thV book 0) t nt ≤ R ∧ pss book nt d g t = true
    · obtain ⟨v1, v2, v3⟩ := va
      have e27 : (if (nI t &&& (nI M ^^^ (-1 : Int32))) = 0 then zb1 (f6_sumOf book (nI t) (0 : Int32)) (fun r48 => zg ((56 : Int32) + nI g) 230 (if (book ((56 : Int32) + nI g).toNatClampNeg) < r48 then some (0 : Int32) else zb1 (f6_passes book (nI g) (nI t)) (fun r52 => if r52 = 0 then some (0 : Int32) else some (1 : Int32)))) else some (0 : Int32)) = some 1 := by
        rw [if_pos v1, show (0 : Int32) = nI 0 from rfl, ms, zb1_e, show (56 : Int32) = nI 56 from rfl, nI_add, zg_n (by omega) (by omega), nI_clamp (by omega), hr1, if_neg (fun e => absurd ((nI_ltI (by omega) (by omega)).mp e) (by omega)), mp, zb1_e, v3]
        rfl
      have bt := v6_bitCount t (by omega)
      have mt := v6_bits (S := t) (by omega)
      have pt := pcN_le t 8
      have wr2 : f4_hasRoom size room (nI g) (nI t) = some 1 := by rw [wr]; simp only [v2, decide_true]; rfl
      have wp2 : f4_passes days weight sound kind owner empty room gate ear scale (nI g) (nI t) = some 1 := by rw [wp, v3]; rfl
      rcases hi with ⟨rfl, rfl, rfl, rfl⟩ | ⟨b, hb, rfl, rfl, rfl, rfl⟩
      · obtain ⟨z3, z4, z1, z2, hz, f1, f2⟩ := ih (t + 1) n n' (nI t) (nI (lssN book nt d g t hr)) (nI t) (nI (lssN book nt d g t hr)) (by omega) (by omega) (by omega) (Or.inr ⟨t, ht2, rfl, rfl, rfl, rfl⟩)
        obtain ⟨x, hx⟩ : ∃ x, f6_bitCount_0f7a4 zNone = some x := ⟨_, rfl⟩
        obtain ⟨v, hv⟩ : ∃ v, (if x ≤ nI (pcN t 8) then some (0 : Int32) else some (1 : Int32)) = some v := by split <;> exact ⟨_, rfl⟩
        refine ⟨z3, z4, z1, z2, hz, fun k => ?_, fun k => ?_⟩
        · rw [L1_setThatDoesMost_15, if_neg g1, if_pos v1, wr2, zb1_e, if_neg n1, wp2, zb1_e, if_neg n1, wl, zb1_e, bt, zb1_e, hx, zb1_e, hv, zb1_e, if_pos (show zNone = -1 from rfl), nI_1]
          exact f1 k
        · rw [L6_hide_55, h.2.1.1, e31, if_neg (nI_ge (by omega) (by omega)), e27, zb1_e, if_neg n1, ml, zb1_e, zb1_e, if_pos (none_lt hlt), zb1_e, if_neg n1, zb1_e, if_neg n1, nI_1]
          exact f2 k
      · have hlb := h.lle (g := g) (S := b) (hr := hr)
        have bb := v6_bitCount b (by omega)
        have mb := v6_bits (S := b) (by omega)
        have pb := pcN_le b 8
        have nb : ¬ nI b = -1 := nI_ne_none (by omega)
        have tk : ∀ (c : Bool), (if c then nI t else nI b) = nI (if c then t else b) := fun c => by cases c <;> rfl
        obtain ⟨C, hC⟩ : ∃ C : Bool, C = (decide (lssN book nt d g b hr < lssN book nt d g t hr) || (decide (lssN book nt d g t hr = lssN book nt d g b hr) && decide (¬ pcN b 8 ≤ pcN t 8))) := ⟨_, rfl⟩
        obtain ⟨z3, z4, z1, z2, hz, f1, f2⟩ := ih (t + 1) n n' (nI (if C then t else b)) (nI (lssN book nt d g (if C then t else b) hr)) (nI (if C then t else b)) (nI (lssN book nt d g (if C then t else b) hr)) (by omega) (by omega) (by omega) (Or.inr ⟨if C then t else b, by split <;> omega, rfl, rfl, rfl, rfl⟩)
        have kl : (nI (lssN book nt d g b hr) < nI (lssN book nt d g t hr)) = (lssN book nt d g b hr < lssN book nt d g t hr) := propext (nI_ltI hlb hlt)
        have ke : (nI (lssN book nt d g t hr) = nI (lssN book nt d g b hr)) = (lssN book nt d g t hr = lssN book nt d g b hr) := propext (nI_eq hlt hlb)
        have kp : (nI (pcN b 8) ≤ nI (pcN t 8)) = (pcN b 8 ≤ pcN t 8) := propext (nI_leI (by omega) (by omega))
        refine ⟨z3, z4, z1, z2, hz, fun k => ?_, fun k => ?_⟩
        · have f1 := f1 k
          have tk2 : ∀ (X : Option Int32) (Y Z : Option Int32), (if nI (lssN book nt d g b hr) < nI (lssN book nt d g t hr) then X else if nI (lssN book nt d g t hr) = nI (lssN book nt d g b hr) then Y else Z) = (if lssN book nt d g b hr < lssN book nt d g t hr then X else if lssN book nt d g t hr = lssN book nt d g b hr then Y else Z) := by
            intro X Y Z
            simp only [kl, ke]
          by_cases c3 : pcN b 8 ≤ pcN t 8
          · rw [L1_setThatDoesMost_15, if_neg g1, if_pos v1, wr2, zb1_e, if_neg n1, wp2, zb1_e, if_neg n1, wl, zb1_e, bt, zb1_e, bb, zb1_e, if_pos ((nI_leI (by omega) (by omega)).mpr c3), zb1_e, if_neg nb, nI_1, tk2, if_pos rfl]
            by_cases c1 : lssN book nt d g b hr < lssN book nt d g t hr
            · have : C = true := by rw [hC]; simp [c1]
              rw [this, if_pos rfl] at f1
              rw [if_pos c1]
              exact f1
            · have : C = false := by rw [hC]; simp [c1, c3]
              rw [this] at f1
              rw [if_neg c1]
              split <;> exact f1
          · rw [L1_setThatDoesMost_15, if_neg g1, if_pos v1, wr2, zb1_e, if_neg n1, wp2, zb1_e, if_neg n1, wl, zb1_e, bt, zb1_e, bb, zb1_e, if_neg (fun e => c3 ((nI_leI (by omega) (by omega)).mp e)), zb1_e, if_neg nb, nI_1, tk2, if_neg n1]
            by_cases c1 : lssN book nt d g b hr < lssN book nt d g t hr
            · have : C = true := by rw [hC]; simp [c1]
              rw [this, if_pos rfl] at f1
              rw [if_pos c1]
              exact f1
            · rw [if_neg c1]
              by_cases c2 : lssN book nt d g t hr = lssN book nt d g b hr
              · have : C = true := by rw [hC]; simp [c2, c3]
                rw [this, if_pos rfl] at f1
                rw [if_pos c2]
                exact f1
              · have : C = false := by rw [hC]; simp [c1, c2]
                rw [this] at f1
                rw [if_neg c2]
                exact f1
        · have f2 := f2 k
          have pp : L6_hide_55 k book (nI g) (nI hr) (nI M) (n' + 1) (nI b) (nI (lssN book nt d g b hr)) (nI t) = zb1 (if nI (lssN book nt d g b hr) < nI (lssN book nt d g t hr) then some (1 : Int32) else if nI (lssN book nt d g t hr) = nI (lssN book nt d g b hr) then (if nI (pcN b 8) ≤ nI (pcN t 8) then some (0 : Int32) else some (1 : Int32)) else some (0 : Int32)) (fun v31 => zb1 (if v31 = 0 then some (nI b) else some (nI t)) (fun v33 => if v31 = 0 then L6_hide_55 k book (nI g) (nI hr) (nI M) n' v33 (nI (lssN book nt d g b hr)) (nI (t + 1)) else L6_hide_55 k book (nI g) (nI hr) (nI M) n' v33 (nI (lssN book nt d g t hr)) (nI (t + 1)))) := by
            rw [L6_hide_55, h.2.1.1, e31, if_neg (nI_ge (by omega) (by omega)), e27, zb1_e, if_neg n1, ml, zb1_e, zb1_e, if_neg n1, mt, zb1_e, mb, zb1_e, nI_1]
          rw [pp]
          by_cases c1 : lssN book nt d g b hr < lssN book nt d g t hr
          · have : C = true := by rw [hC]; simp [c1]
            rw [this, if_pos rfl] at f2
            rw [if_pos ((nI_ltI hlb hlt).mpr c1), zb1_e, if_neg n1, zb1_e, if_neg n1]
            exact f2
          · rw [if_neg (fun e => c1 ((nI_ltI hlb hlt).mp e))]
            by_cases c2 : lssN book nt d g t hr = lssN book nt d g b hr
            · rw [if_pos ((nI_eq hlt hlb).mpr c2)]
              by_cases c3 : pcN b 8 ≤ pcN t 8
              · have : C = false := by rw [hC]; simp [c1, c3]
                rw [this] at f2
                rw [if_pos ((nI_leI (by omega) (by omega)).mpr c3), zb1_e, if_pos rfl, zb1_e, if_pos rfl]
                exact f2
              · have : C = true := by rw [hC]; simp [c2, c3]
                rw [this, if_pos rfl] at f2
                rw [if_neg (fun e => c3 ((nI_leI (by omega) (by omega)).mp e)), zb1_e, if_neg n1, zb1_e, if_neg n1]
                exact f2
            · have : C = false := by rw [hC]; simp [c1, c2]
              rw [this] at f2
              rw [if_neg (fun e => c2 ((nI_eq hlt hlb).mp e)), zb1_e, if_pos rfl, zb1_e, if_pos rfl]
              exact f2
    · obtain ⟨z3, z4, z1, z2, hz, f1, f2⟩ := ih (t + 1) n n' y3 y4 y1 y2 (by omega) (by omega) (by omega) hi
      have e27 : (if (nI t &&& (nI M ^^^ (-1 : Int32))) = 0 then zb1 (f6_sumOf book (nI t) (0 : Int32)) (fun r48 => zg ((56 : Int32) + nI g) 230 (if (book ((56 : Int32) + nI g).toNatClampNeg) < r48 then some (0 : Int32) else zb1 (f6_passes book (nI g) (nI t)) (fun r52 => if r52 = 0 then some (0 : Int32) else some (1 : Int32)))) else some (0 : Int32)) = some 0 := by
        by_cases v1 : (nI t &&& (nI M ^^^ (-1 : Int32))) = 0
        · rw [if_pos v1, show (0 : Int32) = nI 0 from rfl, ms, zb1_e, show (56 : Int32) = nI 56 from rfl, nI_add, zg_n (by omega) (by omega), nI_clamp (by omega), hr1]
          by_cases v2 : sumV (thV book 0) t nt ≤ R
          · rw [if_neg (fun e => absurd ((nI_ltI (by omega) (by omega)).mp e) (by omega)), mp, zb1_e]
            cases v3 : pss book nt d g t
            · rfl
            · exact absurd ⟨v1, v2, v3⟩ va
          · rw [if_pos ((nI_ltI (by omega) (by omega)).mpr (by omega))]
        · rw [if_neg v1]
      refine ⟨z3, z4, z1, z2, hz, fun k => ?_, fun k => ?_⟩
      · have f1 := f1 k
        rw [L1_setThatDoesMost_15, if_neg g1, wr, wp, nI_1]
        by_cases v1 : (nI t &&& (nI M ^^^ (-1 : Int32))) = 0
        · rw [if_pos v1, zb1_e]
          by_cases v2 : sumV (thV book 0) t nt ≤ R
          · simp only [v2, decide_true]
            rw [if_neg (show ¬ bI true = 0 by decide), zb1_e]
            cases v3 : pss book nt d g t
            · rw [if_pos (show bI false = 0 by decide)]
              exact f1
            · exact absurd ⟨v1, v2, v3⟩ va
          · simp only [v2, decide_false]
            rw [if_pos (show bI false = 0 by decide)]
            exact f1
        · rw [if_neg v1]
          exact f1
      · rw [L6_hide_55, h.2.1.1, e31, if_neg (nI_ge (by omega) (by omega)), e27, zb1_e, if_pos rfl, zb1_e]
        rw [if_neg (nl _ _ _ _ hi), if_pos rfl, zb1_e, if_pos rfl, zb1_e, if_pos rfl, nI_1]
        exact f2 k
