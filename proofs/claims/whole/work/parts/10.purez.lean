/-! ===== pure side 36: carts, the reference's step ===== -/
theorem m_lays {n C : Nat} (hn : n < 7) (hC : C < 2 ^ 30) (k : Int32 → (Nat → Int32) → Option (Int32 × (Nat → Int32))) : ∀ (j T fu : Nat) (row : Nat → Int32), j ≤ n → j < fu → T < 64 → T ||| orN (dg n n C) j = orN (dg n n C) n → (∀ i, j ≤ i → i < n → row i = nI (dg n n C i)) →
    ∃ row' : Nat → Int32, (∀ i, i < n → row' i = nI (dg n n C i)) ∧ L6_lays_10 k (nI n) fu (nI (C / n ^ (n - j))) (nI T) (if j = 0 then zNone else nI (j - 1)) row = k (nI (orN (dg n n C) n)) row' := by
  intro j
  induction j with
  | zero =>
    intro T fu row hj hf hT hO hr
    obtain ⟨fu, rfl⟩ : ∃ m, fu = m + 1 := ⟨fu - 1, by omega⟩
    refine ⟨row, fun i hi => hr i (by omega) hi, ?_⟩
    rw [orN, Nat.or_zero] at hO
    rw [if_pos rfl, L6_lays_10, if_pos (by decide), hO]
  | succ j ih =>
    intro T fu row hj hf hT hO hr
    obtain ⟨fu, rfl⟩ : ∃ m, fu = m + 1 := ⟨fu - 1, by omega⟩
    have hd := dg_lt (n := n) (k := n) (P := C) (j := j) (by omega)
    have hT2 : T ||| 2 ^ dg n n C j < 2 ^ 6 := Nat.or_lt_two_pow (by omega) (Nat.pow_lt_pow_right (by decide) (by omega))
    have ex : C / n ^ (n - (j + 1)) % n = dg n n C j := by unfold dg; rw [show n - 1 - j = n - (j + 1) by omega]
    have ex2 : C / n ^ (n - (j + 1)) / n = C / n ^ (n - j) := by rw [Nat.div_div_eq_div_mul, ← Nat.pow_succ, show (n - (j + 1)).succ = n - j by omega]
    have le := Nat.div_le_self C (n ^ (n - (j + 1)))
    obtain ⟨row', h1, h2⟩ := ih (T ||| 2 ^ dg n n C j) fu (upd row j (nI (dg n n C j))) (by omega) (by omega) (by omega) (by rw [← hO, orN, Nat.or_assoc, Nat.or_comm (2 ^ _)]) (fun i h1 h2 => by
      by_cases e : i = j
      · rw [e, pk_us]
      · rw [pk_un (by omega)]
        exact hr i (by omega) h2)
    refine ⟨row', h1, ?_⟩
    have e0 : ¬ nI j < (0 : Int32) := by
      rw [z_ltI, nI_toInt (by omega)]
      have : (0 : Int32).toInt = 0 := by decide
      omega
    have ev : nI j + (-1 : Int32) = (if j = 0 then zNone else nI (j - 1)) := by
      by_cases e : j = 0
      · rw [e, if_pos rfl]
        decide
      · rw [if_neg e, show nI j = nI (j - 1) + 1 by rw [nI_1]; congr 1; omega, Int32.add_assoc, show ((1 : Int32) + (-1 : Int32)) = 0 by decide, Int32.add_zero]
    have zn : ¬ nI n = 0 := nI_neq (k := 0) (by omega) (by omega) (by omega)
    rw [if_neg (by omega), show j + 1 - 1 = j from rfl, L6_lays_10, if_neg e0, zdi_e zn, pk_rem (by omega) (by omega) (by omega), ex, zl_e, zg_n (by omega) (by decide), zdi_e zn, pk_div (by omega) (by omega) (by omega), ex2, zl_e, zg_n (by omega) (by decide), nI_clamp (by omega), pk_us, show (31 : Int32) = nI 31 from rfl, show (1 : Int32) <<< (nI (dg n n C j) &&& nI 31) = nI (2 ^ dg n n C j) from zshl (by omega), fa_or, zl_e, ev]
    exact h2
theorem v6_lays {n C : Nat} (hn : n < 7) (hC : C < 2 ^ 30) (row : Nat → Int32) : ∃ row' : Nat → Int32, (∀ i, i < n → row' i = nI (dg n n C i)) ∧ f6_lays row (nI C) (nI n) = some (if orN (dg n n C) n = 2 ^ n - 1 then 1 else 0, row') := by
  obtain ⟨row', h1, h2⟩ := m_lays hn hC (fun y15 row_16 => if y15 = (((1 : Int32) <<< (nI n &&& 31)) - (1 : Int32)) then some ((1 : Int32), row_16) else some ((0 : Int32), row_16)) n 0 FU row (Nat.le_refl _) (by unfold FU; omega) (by omega) (Nat.zero_or _) (fun i a b => absurd b (by omega))
  refine ⟨row', h1, ?_⟩
  have l2 := o_2n n hn
  have lt : orN (dg n n C) n < 2 ^ n := by
    exact orN_lt (fun j hj => dg_lt (by omega))
  have ex1 : nI n - (1 : Int32) = (if n = 0 then zNone else nI (n - 1)) := by
    by_cases e : n = 0
    · rw [e, if_pos rfl]
      decide
    · rw [if_neg e]
      exact pk_sub (a := n) (b := 1) (by omega)
  have ex2 : ((1 : Int32) <<< (nI n &&& 31)) - (1 : Int32) = nI (2 ^ n - 1) := by
    rw [show ((1 : Int32) <<< (nI n &&& 31)) = nI (2 ^ n) from zshl (by omega)]
    exact pk_sub (Nat.two_pow_pos n)
  unfold f6_lays
  rw [ex1, zl_e]
  rw [show n - n = 0 by omega, Nat.pow_zero, Nat.div_one, show nI 0 = (0 : Int32) from rfl] at h2
  rw [h2, ex2]
  by_cases e : orN (dg n n C) n = 2 ^ n - 1
  · rw [if_pos (by rw [e]), if_pos e]
  · rw [if_neg (nI_neq (by omega) (by omega) e), if_neg e]
def cpB (dm : Nat → Int32) (d : Nat → Nat) (best : Nat → Int32) (t : Nat) : Nat → Int32 := fun j => if j < t then dm (d j) else best j
theorem m_173 {n : Nat} (hn : n < 7) {dm row : Nat → Int32} {d : Nat → Nat} (hr : ∀ i, i < n → row i = nI (d i) ∧ d i < n) (k : (Nat → Int32) → Option (Int32 × (Nat → Int32) × (Nat → Int32) × (Nat → Int32) × (Nat → Int32))) (best : Nat → Int32) : ∀ (m t fu : Nat), t + m = n → m < fu → L6_carts_173 k (nI n) dm row fu (nI t) (cpB dm d best t) = k (cpB dm d best n) := by
  intro m
  induction m with
  | zero =>
    intro t fu ht hm
    obtain ⟨fu, rfl⟩ : ∃ m, fu = m + 1 := ⟨fu - 1, by omega⟩
    have e : t = n := by omega
    rw [L6_carts_173, e, if_pos (nI_le (Nat.le_refl _) (by omega))]
  | succ m ih =>
    intro t fu ht hm
    obtain ⟨fu, rfl⟩ : ∃ m, fu = m + 1 := ⟨fu - 1, by omega⟩
    obtain ⟨r1, r2⟩ := hr t (by omega)
    have st : upd (cpB dm d best t) t (dm (d t)) = cpB dm d best (t + 1) := by
      funext i
      unfold cpB
      by_cases e : i = t
      · rw [e, pk_us, if_pos (by omega)]
      · rw [pk_un (by omega)]
        by_cases c : i < t
        · rw [if_pos c, if_pos (by omega)]
        · rw [if_neg c, if_neg (by omega)]
    rw [L6_carts_173, if_neg (nI_ge (by omega) (by omega)), zg_n (by omega) (by decide), nI_clamp (by omega), r1, zg_n (by omega) (by decide), zl_e, zg_n (by omega) (by decide), nI_clamp (by omega), st, nI_1]
    exact ih (t + 1) fu (by omega) (by omega)
theorem m_18 {book dm row : Nat → Int32} {n c : Nat} (hn : n < 7) (hc : c < 4) {f : Nat → Nat} {s : Nat} (hs : s < n) (hw : ∀ j, j < n → ∃ i, row j = nI i ∧ i < 6 ∧ ∃ S, f6_thingsIn book (dm i) = some S ∧ f6_weighs book (dm i) S = some (nI (f j))) (hf : ∀ j, j < n → f j ≤ 300) (k : Int32 → Option Int32) : ∀ (m t fu : Nat), t + m = (if s + c ≤ n then s + c else n) → m < fu → s ≤ t → L6_loadOf_18 k book dm row (nI n) (nI c) (nI s) fu (nI (sumR f s (t - s))) (nI t) = k (nI (cM n c f s)) := by
  intro m
  induction m with
  | zero =>
    intro t fu ht hm hst
    obtain ⟨fu, rfl⟩ : ∃ m, fu = m + 1 := ⟨fu - 1, by omega⟩
    have e : cM n c f s = sumR f s (t - s) := by unfold cM; rw [← ht]; rfl
    have htl : t ≤ n := by split at ht <;> omega
    rw [L6_loadOf_18, e]
    by_cases c1 : n ≤ t
    · rw [if_pos (nI_le c1 (by omega))]
    · rw [if_neg (nI_ge (by omega) (by omega)), nI_add, if_pos (nI_le (by split at ht <;> omega) (by omega))]
  | succ m ih =>
    intro t fu ht hm hst
    obtain ⟨fu, rfl⟩ : ∃ m, fu = m + 1 := ⟨fu - 1, by omega⟩
    have htn : t < n := by split at ht <;> omega
    have htc : t < s + c := by split at ht <;> omega
    obtain ⟨i, r1, r2, S, e1, e2⟩ := hw t htn
    have i1 := ih (t + 1) fu (by omega) (by omega) (by omega)
    rw [show t + 1 - s = (t - s) + 1 by omega, sumR, show s + (t - s) = t by omega] at i1
    rw [L6_loadOf_18, if_neg (nI_ge (by omega) (by omega)), nI_add, if_neg (nI_ge (by omega) (by omega)), zg_n (by omega) (by decide), nI_clamp (by omega), r1, zg_n (by omega) (by decide), zg_n (by omega) (by decide), zg_n (by omega) (by decide), nI_clamp (by omega), e1, zb1_e, e2, zb1_e, nI_add, zl_e, nI_1]
    exact i1
theorem m_5 {book dm row : Nat → Int32} {n c : Nat} (hn : n < 7) (hc : c < 4) (hc1 : 1 ≤ c) {f : Nat → Nat} (hw : ∀ j, j < n → ∃ i, row j = nI i ∧ i < 6 ∧ ∃ S, f6_thingsIn book (dm i) = some S ∧ f6_weighs book (dm i) S = some (nI (f j))) (hf : ∀ j, j < n → f j ≤ 300) (k : Int32 → Option Int32) : ∀ (m t fu : Nat), t + m = n → m < fu → L6_loadOf_5 k book dm row (nI n) (nI c) fu (nI (mxN (cM n c f) t)) (nI t) = k (nI (mxN (cM n c f) n)) := by
  intro m
  induction m with
  | zero =>
    intro t fu ht hm
    obtain ⟨fu, rfl⟩ : ∃ m, fu = m + 1 := ⟨fu - 1, by omega⟩
    have e : t = n := by omega
    rw [L6_loadOf_5, e, if_pos (nI_le (Nat.le_refl _) (by omega))]
  | succ m ih =>
    intro t fu ht hm
    obtain ⟨fu, rfl⟩ : ∃ m, fu = m + 1 := ⟨fu - 1, by omega⟩
    have i1 := ih (t + 1) fu (by omega) (by omega)
    have l1 : cM n c f t ≤ 1800 := cM_le hn hf
    have l2 : mxN (cM n c f) t ≤ 1800 := mxN_le (fun g _ => cM_le hn hf)
    have e18 := m_18 (row := row) hn hc (s := t) (by omega) hw hf (fun y19 => if y19 ≤ nI (mxN (cM n c f) t) then L6_loadOf_5 k book dm row (nI n) (nI c) fu (nI (mxN (cM n c f) t)) (nI t + 1) else L6_loadOf_5 k book dm row (nI n) (nI c) fu y19 (nI t + 1)) ((if t + c ≤ n then t + c else n) - t) t FU (by split <;> omega) (by unfold FU; split <;> omega) (Nat.le_refl _)
    rw [Nat.sub_self, sumR] at e18
    rw [L6_loadOf_5, if_neg (nI_ge (by omega) (by omega)), show (0 : Int32) = nI 0 from rfl, e18, nI_1]
    rw [mxN] at i1
    by_cases c1 : mxN (cM n c f) t < cM n c f t
    · rw [if_pos c1] at i1
      rw [if_neg (nI_ge (by omega) (by omega))]
      exact i1
    · rw [if_neg c1] at i1
      rw [if_pos (nI_le (by omega) (by omega))]
      exact i1
