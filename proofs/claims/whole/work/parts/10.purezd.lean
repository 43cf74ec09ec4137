/-! ===== pure side 40: the text, runs of bytes ===== -/
def rn (p : Nat → Bool) (X : Nat → Nat) (L : Nat) : Nat → Nat → Nat
  | 0, a => a
  | m + 1, a => if a < L ∧ p (X a) = true then rn p X L m (a + 1) else a
def rR (p : Nat → Bool) (X : Nat → Nat) (L a : Nat) : Nat := rn p X L (L - a) a
def bl (c : Nat) : Bool := decide (32 ≤ c ∧ c ≤ 32)
def lt (c : Nat) : Bool := decide (97 ≤ c ∧ c ≤ 122)
def fg (c : Nat) : Bool := decide (48 ≤ c ∧ c ≤ 57)
theorem rR_y {p : Nat → Bool} {X : Nat → Nat} {L a : Nat} (h1 : a < L) (h2 : p (X a) = true) : rR p X L a = rR p X L (a + 1) := by
  unfold rR
  rw [show L - a = (L - (a + 1)) + 1 by omega, rn, if_pos ⟨h1, h2⟩]
theorem rR_n {p : Nat → Bool} {X : Nat → Nat} {L a : Nat} (h : ¬ (a < L ∧ p (X a) = true)) : rR p X L a = a := by
  unfold rR
  by_cases e : L - a = 0
  · rw [e, rn]
  · rw [show L - a = (L - a - 1) + 1 by omega, rn, if_neg h]
theorem rR_spec (p : Nat → Bool) (X : Nat → Nat) (L : Nat) : ∀ (m a : Nat), L - a = m → a ≤ rR p X L a ∧ (∀ j, a ≤ j → j < rR p X L a → j < L ∧ p (X j) = true) ∧ ¬ (rR p X L a < L ∧ p (X (rR p X L a)) = true) ∧ (a ≤ L → rR p X L a ≤ L) := by
  intro m
  induction m with
  | zero =>
    intro a hm
    have e : rR p X L a = a := rR_n (fun h => absurd h.1 (by omega))
    rw [e]
    exact ⟨Nat.le_refl _, fun j h1 h2 => absurd h2 (by omega), fun h => absurd h.1 (by omega), fun h => h⟩
  | succ m ih =>
    intro a hm
    by_cases c : a < L ∧ p (X a) = true
    · obtain ⟨i1, i2, i3, i4⟩ := ih (a + 1) (by omega)
      rw [rR_y c.1 c.2]
      exact ⟨by omega, fun j h1 h2 => by
        by_cases e : j = a
        · rw [e]; exact c
        · exact i2 j (by omega) h2, i3, fun _ => i4 (by omega)⟩
    · rw [rR_n c]
      exact ⟨Nat.le_refl _, fun j h1 h2 => absurd h2 (by omega), c, fun h => h⟩
def TX (L : Nat) (tbytes text : Nat → Int32) (X : Nat → Nat) : Prop := L ≤ 150 ∧ ∀ k, k < L → tbytes k = nI (X k) ∧ text k = nI (X k) ∧ X k ≤ 127
theorem v3_byteAt {L : Nat} {tbytes text : Nat → Int32} {X : Nat → Nat} (x : TX L tbytes text X) {a : Nat} (ha : a < 2 ^ 30) : f3_byteAt (nI L) tbytes (nI a) = some (if a < L then nI (X a) else zNone) := by
  have hL := x.1
  have ew : f5_within (nI a) (0 : Int32) (nI L - (1 : Int32)) = some (bI (rgn (nI a) L)) := v5wn (by omega)
  have er : rgn (nI a) L = decide (a < L) := by
    unfold rgn
    rw [nI_toInt (by omega)]
    by_cases c : a < L
    · rw [decide_eq_true c, decide_eq_true (by omega)]
    · rw [decide_eq_false c, decide_eq_false (by omega)]
  unfold f3_byteAt
  rw [ew, er, zb1_e]
  by_cases c : a < L
  · rw [decide_eq_true c, if_neg (by decide), zg_n (by omega) (by decide), zl_e, nI_clamp (by omega), if_pos c, (x.2 a c).1]
  · rw [decide_eq_false c, if_pos (by decide), if_neg c]
    rfl
theorem rg_nI {v lo hi : Nat} (hv : v < 2 ^ 31) : rg (nI v) lo hi = decide (lo ≤ v ∧ v ≤ hi) := by
  unfold rg
  rw [nI_toInt hv]
  by_cases c : lo ≤ v ∧ v ≤ hi
  · rw [decide_eq_true c, decide_eq_true (by omega)]
  · rw [decide_eq_false c, decide_eq_false (by omega)]
theorem v6_isAt {L : Nat} {tbytes text : Nat → Int32} {X : Nat → Nat} (x : TX L tbytes text X) {a lo hi : Nat} (ha : a < 2 ^ 30) (h1 : lo < 2 ^ 31) (h2 : hi < 2 ^ 31) : f6_isAt (nI L) (nI a) text (nI lo) (nI hi) = some (bI (decide (a < L ∧ (decide (lo ≤ X a ∧ X a ≤ hi)) = true))) := by
  have hL := x.1
  unfold f6_isAt
  by_cases c : a < L
  · have hv := x.2 a c
    rw [if_neg (nI_ge (by omega) (by omega)), zg_n (by omega) (by decide), nI_clamp (by omega), hv.2.1, nI_l h1, nI_l h2, v6i h1 h2, zb1_e, rg_nI (by omega)]
    by_cases e : lo ≤ X a ∧ X a ≤ hi
    · rw [decide_eq_true e, if_neg (by decide), decide_eq_true ⟨c, rfl⟩]
      rfl
    · rw [decide_eq_false e, if_pos (by decide), decide_eq_false (fun q => Bool.noConfusion q.2)]
      rfl
  · rw [if_pos (nI_le (by omega) (by omega)), decide_eq_false (fun q => c q.1)]
    rfl
theorem t_bl {L : Nat} {tbytes text : Nat → Int32} {X : Nat → Nat} (x : TX L tbytes text X) (k : Int32 → Option Int32) : ∀ (m a fu : Nat), L - a = m → m < fu → a ≤ L → L3_afterBlanks_2 k (nI L) tbytes fu (nI a) = k (nI (rR bl X L a)) := by
  have hL := x.1
  intro m
  induction m with
  | zero =>
    intro a fu hm hf ha
    obtain ⟨fu, rfl⟩ : ∃ m, fu = m + 1 := ⟨fu - 1, by omega⟩
    rw [L3_afterBlanks_2, if_pos (nI_le (by omega) (by omega)), rR_n (fun h => absurd h.1 (by omega))]
  | succ m ih =>
    intro a fu hm hf ha
    obtain ⟨fu, rfl⟩ : ∃ m, fu = m + 1 := ⟨fu - 1, by omega⟩
    have hv := x.2 a (by omega)
    rw [L3_afterBlanks_2, if_neg (nI_ge (by omega) (by omega)), v3_byteAt x (by omega), zb1_e, if_pos (show a < L by omega)]
    by_cases c : X a = 32
    · rw [c, if_pos (show nI 32 = 32 from rfl), nI_1, rR_y (by omega) (by unfold bl; rw [c]; rfl)]
      exact ih (a + 1) fu (by omega) (by omega) (by omega)
    · rw [if_neg (show ¬ nI (X a) = 32 from nI_neq (k := 32) (by omega) (by omega) c), rR_n (fun h => by
        have := h.2
        unfold bl at this
        have := of_decide_eq_true this
        omega)]
theorem v3_afterBlanks {L : Nat} {tbytes text : Nat → Int32} {X : Nat → Nat} (x : TX L tbytes text X) {a : Nat} (ha : a ≤ L) : f3_afterBlanks (nI L) tbytes (nI a) = some (nI (rR bl X L a)) := by
  have hL := x.1
  exact t_bl x _ (L - a) a FU rfl (by unfold FU; omega) ha
theorem t_lt {L : Nat} {tbytes text : Nat → Int32} {X : Nat → Nat} (x : TX L tbytes text X) (k : Int32 → Option Int32) : ∀ (m a fu : Nat), L - a = m → m < fu → a ≤ L → L3_afterLetters_2 k (nI L) tbytes fu (nI a) = k (nI (rR lt X L a)) := by
  have hL := x.1
  intro m
  induction m with
  | zero =>
    intro a fu hm hf ha
    obtain ⟨fu, rfl⟩ : ∃ m, fu = m + 1 := ⟨fu - 1, by omega⟩
    rw [L3_afterLetters_2, if_pos (nI_le (by omega) (by omega)), rR_n (fun h => absurd h.1 (by omega))]
  | succ m ih =>
    intro a fu hm hf ha
    obtain ⟨fu, rfl⟩ : ∃ m, fu = m + 1 := ⟨fu - 1, by omega⟩
    have hv := x.2 a (by omega)
    have ew : f5_within (nI (X a)) (97 : Int32) (122 : Int32) = some (bI (lt (X a))) := by
      have : f5_within (nI (X a)) (97 : Int32) (122 : Int32) = some (bI (rg (nI (X a)) 97 122)) := v5w (by decide) (by decide)
      rw [this, rg_nI (by omega)]
      rfl
    rw [L3_afterLetters_2, if_neg (nI_ge (by omega) (by omega)), v3_byteAt x (by omega), zb1_e, if_pos (show a < L by omega), ew, zb1_e]
    cases c : lt (X a)
    · rw [if_pos (by decide), rR_n (fun h => by rw [c] at h; exact Bool.noConfusion h.2)]
    · rw [if_neg (by decide), nI_1, rR_y (by omega) c]
      exact ih (a + 1) fu (by omega) (by omega) (by omega)
theorem v3_afterLetters {L : Nat} {tbytes text : Nat → Int32} {X : Nat → Nat} (x : TX L tbytes text X) {a : Nat} (ha : a ≤ L) : f3_afterLetters (nI L) tbytes (nI a) = some (nI (rR lt X L a)) := by
  have hL := x.1
  exact t_lt x _ (L - a) a FU rfl (by unfold FU; omega) ha
theorem t_fg {L : Nat} {tbytes text : Nat → Int32} {X : Nat → Nat} (x : TX L tbytes text X) (k : Int32 → Option Int32) : ∀ (m a fu : Nat), L - a = m → m < fu → a ≤ L → L3_afterFigures_2 k (nI L) tbytes fu (nI a) = k (nI (rR fg X L a)) := by
  have hL := x.1
  intro m
  induction m with
  | zero =>
    intro a fu hm hf ha
    obtain ⟨fu, rfl⟩ : ∃ m, fu = m + 1 := ⟨fu - 1, by omega⟩
    rw [L3_afterFigures_2, if_pos (nI_le (by omega) (by omega)), rR_n (fun h => absurd h.1 (by omega))]
  | succ m ih =>
    intro a fu hm hf ha
    obtain ⟨fu, rfl⟩ : ∃ m, fu = m + 1 := ⟨fu - 1, by omega⟩
    have hv := x.2 a (by omega)
    have ew : f5_within (nI (X a)) (48 : Int32) (57 : Int32) = some (bI (fg (X a))) := by
      have : f5_within (nI (X a)) (48 : Int32) (57 : Int32) = some (bI (rg (nI (X a)) 48 57)) := v5w (by decide) (by decide)
      rw [this, rg_nI (by omega)]
      rfl
    rw [L3_afterFigures_2, if_neg (nI_ge (by omega) (by omega)), v3_byteAt x (by omega), zb1_e, if_pos (show a < L by omega), ew, zb1_e]
    cases c : fg (X a)
    · rw [if_pos (by decide), rR_n (fun h => by rw [c] at h; exact Bool.noConfusion h.2)]
    · rw [if_neg (by decide), nI_1, rR_y (by omega) c]
      exact ih (a + 1) fu (by omega) (by omega) (by omega)
theorem v3_afterFigures {L : Nat} {tbytes text : Nat → Int32} {X : Nat → Nat} (x : TX L tbytes text X) {a : Nat} (ha : a ≤ L) : f3_afterFigures (nI L) tbytes (nI a) = some (nI (rR fg X L a)) := by
  have hL := x.1
  exact t_fg x _ (L - a) a FU rfl (by unfold FU; omega) ha
/-- the number that figures make, one by one -/
def nmV (X : Nat → Nat) (a : Nat) : Nat → Nat
  | 0 => 0
  | t + 1 => 10 * nmV X a t + X (a + t) - 48
def hsV (X : Nat → Nat) (a : Nat) : Nat → Nat
  | 0 => 0
  | t + 1 => 32 * hsV X a t + X (a + t) - 97 + 1
theorem nmV_le {X : Nat → Nat} {a : Nat} : ∀ {t : Nat}, (∀ j, j < t → X (a + j) ≤ 57) → nmV X a t < 10 ^ t
  | 0, _ => by rw [nmV]; decide
  | t + 1, h => by
    have := nmV_le (X := X) (a := a) (t := t) (fun j hj => h j (by omega))
    have := h t (by omega)
    rw [nmV, Nat.pow_succ]
    omega
theorem t_num {L : Nat} {tbytes text : Nat → Int32} {X : Nat → Nat} (x : TX L tbytes text X) {a e : Nat} (hL2 : e ≤ L) (h3 : e ≤ a + 3) (hf : ∀ j, a ≤ j → j < e → fg (X j) = true) (k : Int32 → Option Int32) : ∀ (m t fu : Nat), a + t + m = e → m < fu → L3_numberBetween_5 k (nI L) tbytes (nI e) fu (nI (nmV X a t)) (nI (a + t)) = k (nI (nmV X a (e - a))) := by
  have hL := x.1
  intro m
  induction m with
  | zero =>
    intro t fu ht hm
    obtain ⟨fu, rfl⟩ : ∃ m, fu = m + 1 := ⟨fu - 1, by omega⟩
    rw [L3_numberBetween_5, if_pos (nI_le (by omega) (by omega)), show e - a = t by omega]
  | succ m ih =>
    intro t fu ht hm
    obtain ⟨fu, rfl⟩ : ∃ m, fu = m + 1 := ⟨fu - 1, by omega⟩
    have hg := hf (a + t) (by omega) (by omega)
    unfold fg at hg
    have hg := of_decide_eq_true hg
    have hle : nmV X a t < 10 ^ t := nmV_le (fun j hj => by
      have := hf (a + j) (by omega) (by omega)
      unfold fg at this
      have := of_decide_eq_true this
      omega)
    have e10 : 10 ^ t ≤ 10 ^ 3 := Nat.pow_le_pow_right (by decide) (by omega)
    have i1 := ih (t + 1) fu (by omega) (by omega)
    rw [nmV, ← Nat.add_assoc] at i1
    rw [L3_numberBetween_5, if_neg (nI_ge (by omega) (by omega)), v3_byteAt x (by omega), zb1_e, if_pos (show a + t < L by omega), zl_e, show (10 : Int32) = nI 10 from rfl, pk_mul, nI_add, show (48 : Int32) = nI 48 from rfl, pk_sub (by omega), nI_1]
    exact i1
theorem v3_number {L : Nat} {tbytes text : Nat → Int32} {X : Nat → Nat} (x : TX L tbytes text X) {a e : Nat} (hae : a ≤ e) (hL2 : e ≤ L) (h3 : e ≤ a + 3) (hf : ∀ j, a ≤ j → j < e → fg (X j) = true) : f3_numberBetween (nI L) tbytes (nI a) (nI e) = some (nI (nmV X a (e - a))) := by
  have hL := x.1
  exact t_num x hL2 h3 hf _ (e - a) 0 FU (by omega) (by unfold FU; omega)
