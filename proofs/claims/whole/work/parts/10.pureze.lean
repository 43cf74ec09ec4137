/-! ===== pure side 41: the text, words ===== -/
theorem hstep {h x q r : Nat} (hx : 97 ≤ x ∧ x ≤ 122) (hr : r < 32) : (32 * h + x - 97 + 1 = 32 * q + r) = (h = q ∧ x = r + 96) := propext ⟨fun e => ⟨by omega, by omega⟩, fun e => by omega⟩
def wl (w : Nat) : Nat := zsLen.getD w 0
def wc (w i : Nat) : Nat := nN (zsC w (nI i))
theorem wl_le : ∀ w, w < 7 → 2 ≤ wl w ∧ wl w ≤ 5 := by decide +kernel
theorem wc_e : ∀ w, w < 7 → ∀ i, i < wl w → zsC w (nI i) = nI (wc w i) ∧ wc w i ≤ 127 := by decide +kernel
/-- the word w stands in the bytes from a to e -/
def spB (X : Nat → Nat) (w a e : Nat) : Bool := decide (wl w = e - a) && allB (fun i => decide (wc w i = X (a + i))) (wl w)
def wdC (X : Nat → Nat) (a e : Nat) : Int32 := if spB X 0 a e then nI 0 else if spB X 1 a e then nI 1 else if spB X 2 a e then nI 2 else if spB X 3 a e then nI 3 else if spB X 4 a e then nI 4 else if spB X 5 a e then nI 5 else if spB X 6 a e then nI 6 else zNone
theorem t_sp {L : Nat} {tbytes text : Nat → Int32} {X : Nat → Nat} (x : TX L tbytes text X) {w a : Nat} (hw : w < 7) (ha : a + wl w ≤ L) : ∀ (m t fu : Nat), t + m = wl w → m < fu → allB (fun i => decide (wc w i = X (a + i))) t = true → L3_isSpelled_15 (some (1 : Int32)) (nI L) tbytes w (nI a) fu (nI t) = some (bI (allB (fun i => decide (wc w i = X (a + i))) (wl w))) := by
  have hL := x.1
  have hl := wl_le w hw
  intro m
  induction m with
  | zero =>
    intro t fu ht hm hal
    obtain ⟨fu, rfl⟩ : ∃ m, fu = m + 1 := ⟨fu - 1, by omega⟩
    have e : t = wl w := by omega
    rw [L3_isSpelled_15, zgs_e hw, show zsLen.getD w 0 = wl w from rfl, e, if_pos (nI_le (Nat.le_refl _) (by omega)), ← e, hal]
    rfl
  | succ m ih =>
    intro t fu ht hm hal
    obtain ⟨fu, rfl⟩ : ∃ m, fu = m + 1 := ⟨fu - 1, by omega⟩
    obtain ⟨c1, c2⟩ := wc_e w hw t (by omega)
    have hv := x.2 (a + t) (by omega)
    rw [L3_isSpelled_15, zgs_e hw, zgs_e hw, show zsLen.getD w 0 = wl w from rfl, if_neg (nI_ge (by omega) (by omega)), zg_n (by omega) (by omega), nI_add, v3_byteAt x (by omega), zb1_e, if_pos (show a + t < L by omega), c1, nI_1]
    by_cases e : wc w t = X (a + t)
    · rw [e, if_pos rfl]
      exact ih (t + 1) fu (by omega) (by omega) (by rw [allB, hal, decide_eq_true e]; rfl)
    · rw [if_neg (nI_neq (by omega) (by omega) e), allB_f (g := t) (decide_eq_false e) (by omega)]
      rfl
theorem v3_isSpelled {L : Nat} {tbytes text : Nat → Int32} {X : Nat → Nat} (x : TX L tbytes text X) {w a e : Nat} (hw : w < 7) (hae : a ≤ e) (he : e ≤ L) : f3_isSpelled (nI L) tbytes w (nI a) (nI e) = some (bI (spB X w a e)) := by
  have hL := x.1
  have hl := wl_le w hw
  unfold f3_isSpelled spB
  rw [zgs_e hw, show zsLen.getD w 0 = wl w from rfl, pk_sub hae]
  by_cases c : wl w = e - a
  · rw [if_pos (by rw [c]), decide_eq_true c, Bool.true_and]
    exact t_sp x hw (by omega) (wl w) 0 FU (by omega) (by unfold FU; omega) rfl
  · rw [if_neg (nI_neq (by omega) (by omega) c), decide_eq_false c, Bool.false_and]
    rfl
theorem v3_wordAt {L : Nat} {tbytes text : Nat → Int32} {X : Nat → Nat} (x : TX L tbytes text X) {a : Nat} (ha : a ≤ L) : f3_wordAt (nI L) tbytes (nI a) = some (wdC X a (rR lt X L a)) := by
  obtain ⟨s1, s2, s3, s4⟩ := rR_spec lt X L (L - a) a rfl
  have v := fun w hw => v3_isSpelled x (w := w) hw s1 (s4 ha)
  have n1 : ∀ w, w < 7 → f3_spelling (nI w) = some w := by decide +kernel
  have st : ∀ (w fu : Nat) (R : Option Int32), w < 7 → (spB X w a (rR lt X L a) = false → L3_wordAt_8 (some (-1 : Int32)) (nI L) tbytes (nI a) (nI (rR lt X L a)) fu (nI (w + 1)) = R) → L3_wordAt_8 (some (-1 : Int32)) (nI L) tbytes (nI a) (nI (rR lt X L a)) (fu + 1) (nI w) = if spB X w a (rR lt X L a) then some (nI w) else R := by
    intro w fu R hw hR
    rw [L3_wordAt_8, if_neg (show ¬ (7 : Int32) ≤ nI w from nI_ge (b := 7) (by omega) (by omega)), n1 w hw, zb1_e, v w hw, zb1_e, nI_1]
    cases c : spB X w a (rR lt X L a)
    · rw [if_pos (by decide), hR c]
      rfl
    · rw [if_neg (by decide)]
      rfl
  unfold f3_wordAt wdC
  rw [v3_afterLetters x ha, zb1_e]
  obtain ⟨n, hn⟩ : ∃ n, FU = n + 8 := ⟨99992, rfl⟩
  rw [hn, show (0 : Int32) = nI 0 from rfl]
  rw [st 0 (n + 7) _ (by omega) (fun _ => st 1 (n + 6) _ (by omega) (fun _ => st 2 (n + 5) _ (by omega) (fun _ => st 3 (n + 4) _ (by omega) (fun _ => st 4 (n + 3) _ (by omega) (fun _ => st 5 (n + 2) _ (by omega) (fun _ => st 6 (n + 1) (some zNone) (by omega) (fun _ => by rw [L3_wordAt_8, if_pos (by decide)]; rfl)))))))]
  split
  · rfl
  · split
    · rfl
    · split
      · rfl
      · split
        · rfl
        · split
          · rfl
          · split
            · rfl
            · split <;> rfl

theorem spB0 {X : Nat → Nat} {a e : Nat} : spB X 0 a e = true ↔ e - a = 5 ∧ X (a + 0) = 116 ∧ X (a + 1) = 104 ∧ X (a + 2) = 105 ∧ X (a + 3) = 110 ∧ X (a + 4) = 103 := by
  have e1 : spB X 0 a e = (decide (5 = e - a) && ((true) && decide (116 = X (a + 0)) && decide (104 = X (a + 1)) && decide (105 = X (a + 2)) && decide (110 = X (a + 3)) && decide (103 = X (a + 4)))) := rfl
  rw [e1]
  simp only [Bool.and_eq_true, decide_eq_true_eq, true_and]
  omega

theorem hs0 {X : Nat → Nat} {a e : Nat} (hl : e - a ≤ 5) (hc : ∀ j, j < e - a → 97 ≤ X (a + j) ∧ X (a + j) ≤ 122) : hsV X a (e - a) = 21243335 ↔ spB X 0 a e = true := by
  rw [spB0]
  obtain ⟨l, hle⟩ : ∃ l, e - a = l := ⟨_, rfl⟩
  rw [hle] at hl hc ⊢
  have : l = 0 ∨ l = 1 ∨ l = 2 ∨ l = 3 ∨ l = 4 ∨ l = 5 := by omega
  rcases this with rfl | rfl | rfl | rfl | rfl | rfl
  · simp only [hsV]
    omega
  · have c0 := hc 0 (by omega);
    simp only [hsV] at *
    omega
  · have c0 := hc 0 (by omega); have c1 := hc 1 (by omega);
    simp only [hsV] at *
    omega
  · have c0 := hc 0 (by omega); have c1 := hc 1 (by omega); have c2 := hc 2 (by omega);
    simp only [hsV] at *
    omega
  · have c0 := hc 0 (by omega); have c1 := hc 1 (by omega); have c2 := hc 2 (by omega); have c3 := hc 3 (by omega);
    simp only [hsV] at *
    omega
  · have c0 := hc 0 (by omega); have c1 := hc 1 (by omega); have c2 := hc 2 (by omega); have c3 := hc 3 (by omega); have c4 := hc 4 (by omega);
    rw [show hsV X a 5 = 32 * hsV X a 4 + X (a + 4) - 97 + 1 from rfl, show (21243335 : Nat) = 32 * 663854 + 7 from rfl, hstep c4 (by decide)]
    rw [show hsV X a 4 = 32 * hsV X a 3 + X (a + 3) - 97 + 1 from rfl, show (663854 : Nat) = 32 * 20745 + 14 from rfl, hstep c3 (by decide)]
    rw [show hsV X a 3 = 32 * hsV X a 2 + X (a + 2) - 97 + 1 from rfl, show (20745 : Nat) = 32 * 648 + 9 from rfl, hstep c2 (by decide)]
    rw [show hsV X a 2 = 32 * hsV X a 1 + X (a + 1) - 97 + 1 from rfl, show (648 : Nat) = 32 * 20 + 8 from rfl, hstep c1 (by decide)]
    rw [show hsV X a 1 = 32 * hsV X a 0 + X (a + 0) - 97 + 1 from rfl, show (20 : Nat) = 32 * 0 + 20 from rfl, hstep c0 (by decide)]
    rw [show hsV X a 0 = 0 from rfl]
    omega
theorem spB1 {X : Nat → Nat} {a e : Nat} : spB X 1 a e = true ↔ e - a = 4 ∧ X (a + 0) = 103 ∧ X (a + 1) = 105 ∧ X (a + 2) = 102 ∧ X (a + 3) = 116 := by
  have e1 : spB X 1 a e = (decide (4 = e - a) && ((true) && decide (103 = X (a + 0)) && decide (105 = X (a + 1)) && decide (102 = X (a + 2)) && decide (116 = X (a + 3)))) := rfl
  rw [e1]
  simp only [Bool.and_eq_true, decide_eq_true_eq, true_and]
  omega

theorem hs1 {X : Nat → Nat} {a e : Nat} (hl : e - a ≤ 5) (hc : ∀ j, j < e - a → 97 ≤ X (a + j) ∧ X (a + j) ≤ 122) : hsV X a (e - a) = 238804 ↔ spB X 1 a e = true := by
  rw [spB1]
  obtain ⟨l, hle⟩ : ∃ l, e - a = l := ⟨_, rfl⟩
  rw [hle] at hl hc ⊢
  have : l = 0 ∨ l = 1 ∨ l = 2 ∨ l = 3 ∨ l = 4 ∨ l = 5 := by omega
  rcases this with rfl | rfl | rfl | rfl | rfl | rfl
  · simp only [hsV]
    omega
  · have c0 := hc 0 (by omega);
    simp only [hsV] at *
    omega
  · have c0 := hc 0 (by omega); have c1 := hc 1 (by omega);
    simp only [hsV] at *
    omega
  · have c0 := hc 0 (by omega); have c1 := hc 1 (by omega); have c2 := hc 2 (by omega);
    simp only [hsV] at *
    omega
  · have c0 := hc 0 (by omega); have c1 := hc 1 (by omega); have c2 := hc 2 (by omega); have c3 := hc 3 (by omega);
    rw [show hsV X a 4 = 32 * hsV X a 3 + X (a + 3) - 97 + 1 from rfl, show (238804 : Nat) = 32 * 7462 + 20 from rfl, hstep c3 (by decide)]
    rw [show hsV X a 3 = 32 * hsV X a 2 + X (a + 2) - 97 + 1 from rfl, show (7462 : Nat) = 32 * 233 + 6 from rfl, hstep c2 (by decide)]
    rw [show hsV X a 2 = 32 * hsV X a 1 + X (a + 1) - 97 + 1 from rfl, show (233 : Nat) = 32 * 7 + 9 from rfl, hstep c1 (by decide)]
    rw [show hsV X a 1 = 32 * hsV X a 0 + X (a + 0) - 97 + 1 from rfl, show (7 : Nat) = 32 * 0 + 7 from rfl, hstep c0 (by decide)]
    rw [show hsV X a 0 = 0 from rfl]
    omega
  · have c0 := hc 0 (by omega); have c1 := hc 1 (by omega); have c2 := hc 2 (by omega); have c3 := hc 3 (by omega); have c4 := hc 4 (by omega);
    simp only [hsV] at *
    omega
theorem spB2 {X : Nat → Nat} {a e : Nat} : spB X 2 a e = true ↔ e - a = 2 ∧ X (a + 0) = 105 ∧ X (a + 1) = 110 := by
  have e1 : spB X 2 a e = (decide (2 = e - a) && ((true) && decide (105 = X (a + 0)) && decide (110 = X (a + 1)))) := rfl
  rw [e1]
  simp only [Bool.and_eq_true, decide_eq_true_eq, true_and]
  omega

theorem hs2 {X : Nat → Nat} {a e : Nat} (hl : e - a ≤ 5) (hc : ∀ j, j < e - a → 97 ≤ X (a + j) ∧ X (a + j) ≤ 122) : hsV X a (e - a) = 302 ↔ spB X 2 a e = true := by
  rw [spB2]
  obtain ⟨l, hle⟩ : ∃ l, e - a = l := ⟨_, rfl⟩
  rw [hle] at hl hc ⊢
  have : l = 0 ∨ l = 1 ∨ l = 2 ∨ l = 3 ∨ l = 4 ∨ l = 5 := by omega
  rcases this with rfl | rfl | rfl | rfl | rfl | rfl
  · simp only [hsV]
    omega
  · have c0 := hc 0 (by omega);
    simp only [hsV] at *
    omega
  · have c0 := hc 0 (by omega); have c1 := hc 1 (by omega);
    rw [show hsV X a 2 = 32 * hsV X a 1 + X (a + 1) - 97 + 1 from rfl, show (302 : Nat) = 32 * 9 + 14 from rfl, hstep c1 (by decide)]
    rw [show hsV X a 1 = 32 * hsV X a 0 + X (a + 0) - 97 + 1 from rfl, show (9 : Nat) = 32 * 0 + 9 from rfl, hstep c0 (by decide)]
    rw [show hsV X a 0 = 0 from rfl]
    omega
  · have c0 := hc 0 (by omega); have c1 := hc 1 (by omega); have c2 := hc 2 (by omega);
    simp only [hsV] at *
    omega
  · have c0 := hc 0 (by omega); have c1 := hc 1 (by omega); have c2 := hc 2 (by omega); have c3 := hc 3 (by omega);
    simp only [hsV] at *
    omega
  · have c0 := hc 0 (by omega); have c1 := hc 1 (by omega); have c2 := hc 2 (by omega); have c3 := hc 3 (by omega); have c4 := hc 4 (by omega);
    simp only [hsV] at *
    omega
theorem spB3 {X : Nat → Nat} {a e : Nat} : spB X 3 a e = true ↔ e - a = 4 ∧ X (a + 0) = 103 ∧ X (a + 1) = 97 ∧ X (a + 2) = 116 ∧ X (a + 3) = 101 := by
  have e1 : spB X 3 a e = (decide (4 = e - a) && ((true) && decide (103 = X (a + 0)) && decide (97 = X (a + 1)) && decide (116 = X (a + 2)) && decide (101 = X (a + 3)))) := rfl
  rw [e1]
  simp only [Bool.and_eq_true, decide_eq_true_eq, true_and]
  omega

theorem hs3 {X : Nat → Nat} {a e : Nat} (hl : e - a ≤ 5) (hc : ∀ j, j < e - a → 97 ≤ X (a + j) ∧ X (a + j) ≤ 122) : hsV X a (e - a) = 231045 ↔ spB X 3 a e = true := by
  rw [spB3]
  obtain ⟨l, hle⟩ : ∃ l, e - a = l := ⟨_, rfl⟩
  rw [hle] at hl hc ⊢
  have : l = 0 ∨ l = 1 ∨ l = 2 ∨ l = 3 ∨ l = 4 ∨ l = 5 := by omega
  rcases this with rfl | rfl | rfl | rfl | rfl | rfl
  · simp only [hsV]
    omega
  · have c0 := hc 0 (by omega);
    simp only [hsV] at *
    omega
  · have c0 := hc 0 (by omega); have c1 := hc 1 (by omega);
    simp only [hsV] at *
    omega
  · have c0 := hc 0 (by omega); have c1 := hc 1 (by omega); have c2 := hc 2 (by omega);
    simp only [hsV] at *
    omega
  · have c0 := hc 0 (by omega); have c1 := hc 1 (by omega); have c2 := hc 2 (by omega); have c3 := hc 3 (by omega);
    rw [show hsV X a 4 = 32 * hsV X a 3 + X (a + 3) - 97 + 1 from rfl, show (231045 : Nat) = 32 * 7220 + 5 from rfl, hstep c3 (by decide)]
    rw [show hsV X a 3 = 32 * hsV X a 2 + X (a + 2) - 97 + 1 from rfl, show (7220 : Nat) = 32 * 225 + 20 from rfl, hstep c2 (by decide)]
    rw [show hsV X a 2 = 32 * hsV X a 1 + X (a + 1) - 97 + 1 from rfl, show (225 : Nat) = 32 * 7 + 1 from rfl, hstep c1 (by decide)]
    rw [show hsV X a 1 = 32 * hsV X a 0 + X (a + 0) - 97 + 1 from rfl, show (7 : Nat) = 32 * 0 + 7 from rfl, hstep c0 (by decide)]
    rw [show hsV X a 0 = 0 from rfl]
    omega
  · have c0 := hc 0 (by omega); have c1 := hc 1 (by omega); have c2 := hc 2 (by omega); have c3 := hc 3 (by omega); have c4 := hc 4 (by omega);
    simp only [hsV] at *
    omega
theorem spB4 {X : Nat → Nat} {a e : Nat} : spB X 4 a e = true ↔ e - a = 3 ∧ X (a + 0) = 101 ∧ X (a + 1) = 97 ∧ X (a + 2) = 114 := by
  have e1 : spB X 4 a e = (decide (3 = e - a) && ((true) && decide (101 = X (a + 0)) && decide (97 = X (a + 1)) && decide (114 = X (a + 2)))) := rfl
  rw [e1]
  simp only [Bool.and_eq_true, decide_eq_true_eq, true_and]
  omega

theorem hs4 {X : Nat → Nat} {a e : Nat} (hl : e - a ≤ 5) (hc : ∀ j, j < e - a → 97 ≤ X (a + j) ∧ X (a + j) ≤ 122) : hsV X a (e - a) = 5170 ↔ spB X 4 a e = true := by
  rw [spB4]
  obtain ⟨l, hle⟩ : ∃ l, e - a = l := ⟨_, rfl⟩
  rw [hle] at hl hc ⊢
  have : l = 0 ∨ l = 1 ∨ l = 2 ∨ l = 3 ∨ l = 4 ∨ l = 5 := by omega
  rcases this with rfl | rfl | rfl | rfl | rfl | rfl
  · simp only [hsV]
    omega
  · have c0 := hc 0 (by omega);
    simp only [hsV] at *
    omega
  · have c0 := hc 0 (by omega); have c1 := hc 1 (by omega);
    simp only [hsV] at *
    omega
  · have c0 := hc 0 (by omega); have c1 := hc 1 (by omega); have c2 := hc 2 (by omega);
    rw [show hsV X a 3 = 32 * hsV X a 2 + X (a + 2) - 97 + 1 from rfl, show (5170 : Nat) = 32 * 161 + 18 from rfl, hstep c2 (by decide)]
    rw [show hsV X a 2 = 32 * hsV X a 1 + X (a + 1) - 97 + 1 from rfl, show (161 : Nat) = 32 * 5 + 1 from rfl, hstep c1 (by decide)]
    rw [show hsV X a 1 = 32 * hsV X a 0 + X (a + 0) - 97 + 1 from rfl, show (5 : Nat) = 32 * 0 + 5 from rfl, hstep c0 (by decide)]
    rw [show hsV X a 0 = 0 from rfl]
    omega
  · have c0 := hc 0 (by omega); have c1 := hc 1 (by omega); have c2 := hc 2 (by omega); have c3 := hc 3 (by omega);
    simp only [hsV] at *
    omega
  · have c0 := hc 0 (by omega); have c1 := hc 1 (by omega); have c2 := hc 2 (by omega); have c3 := hc 3 (by omega); have c4 := hc 4 (by omega);
    simp only [hsV] at *
    omega
theorem spB5 {X : Nat → Nat} {a e : Nat} : spB X 5 a e = true ↔ e - a = 5 ∧ X (a + 0) = 115 ∧ X (a + 1) = 99 ∧ X (a + 2) = 97 ∧ X (a + 3) = 108 ∧ X (a + 4) = 101 := by
  have e1 : spB X 5 a e = (decide (5 = e - a) && ((true) && decide (115 = X (a + 0)) && decide (99 = X (a + 1)) && decide (97 = X (a + 2)) && decide (108 = X (a + 3)) && decide (101 = X (a + 4)))) := rfl
  rw [e1]
  simp only [Bool.and_eq_true, decide_eq_true_eq, true_and]
  omega

theorem hs5 {X : Nat → Nat} {a e : Nat} (hl : e - a ≤ 5) (hc : ∀ j, j < e - a → 97 ≤ X (a + j) ∧ X (a + j) ≤ 122) : hsV X a (e - a) = 20022661 ↔ spB X 5 a e = true := by
  rw [spB5]
  obtain ⟨l, hle⟩ : ∃ l, e - a = l := ⟨_, rfl⟩
  rw [hle] at hl hc ⊢
  have : l = 0 ∨ l = 1 ∨ l = 2 ∨ l = 3 ∨ l = 4 ∨ l = 5 := by omega
  rcases this with rfl | rfl | rfl | rfl | rfl | rfl
  · simp only [hsV]
    omega
  · have c0 := hc 0 (by omega);
    simp only [hsV] at *
    omega
  · have c0 := hc 0 (by omega); have c1 := hc 1 (by omega);
    simp only [hsV] at *
    omega
  · have c0 := hc 0 (by omega); have c1 := hc 1 (by omega); have c2 := hc 2 (by omega);
    simp only [hsV] at *
    omega
  · have c0 := hc 0 (by omega); have c1 := hc 1 (by omega); have c2 := hc 2 (by omega); have c3 := hc 3 (by omega);
    simp only [hsV] at *
    omega
  · have c0 := hc 0 (by omega); have c1 := hc 1 (by omega); have c2 := hc 2 (by omega); have c3 := hc 3 (by omega); have c4 := hc 4 (by omega);
    rw [show hsV X a 5 = 32 * hsV X a 4 + X (a + 4) - 97 + 1 from rfl, show (20022661 : Nat) = 32 * 625708 + 5 from rfl, hstep c4 (by decide)]
    rw [show hsV X a 4 = 32 * hsV X a 3 + X (a + 3) - 97 + 1 from rfl, show (625708 : Nat) = 32 * 19553 + 12 from rfl, hstep c3 (by decide)]
    rw [show hsV X a 3 = 32 * hsV X a 2 + X (a + 2) - 97 + 1 from rfl, show (19553 : Nat) = 32 * 611 + 1 from rfl, hstep c2 (by decide)]
    rw [show hsV X a 2 = 32 * hsV X a 1 + X (a + 1) - 97 + 1 from rfl, show (611 : Nat) = 32 * 19 + 3 from rfl, hstep c1 (by decide)]
    rw [show hsV X a 1 = 32 * hsV X a 0 + X (a + 0) - 97 + 1 from rfl, show (19 : Nat) = 32 * 0 + 19 from rfl, hstep c0 (by decide)]
    rw [show hsV X a 0 = 0 from rfl]
    omega
theorem spB6 {X : Nat → Nat} {a e : Nat} : spB X 6 a e = true ↔ e - a = 5 ∧ X (a + 0) = 119 ∧ X (a + 1) = 97 ∧ X (a + 2) = 116 ∧ X (a + 3) = 99 ∧ X (a + 4) = 104 := by
  have e1 : spB X 6 a e = (decide (5 = e - a) && ((true) && decide (119 = X (a + 0)) && decide (97 = X (a + 1)) && decide (116 = X (a + 2)) && decide (99 = X (a + 3)) && decide (104 = X (a + 4)))) := rfl
  rw [e1]
  simp only [Bool.and_eq_true, decide_eq_true_eq, true_and]
  omega

theorem hs6 {X : Nat → Nat} {a e : Nat} (hl : e - a ≤ 5) (hc : ∀ j, j < e - a → 97 ≤ X (a + j) ∧ X (a + j) ≤ 122) : hsV X a (e - a) = 24170600 ↔ spB X 6 a e = true := by
  rw [spB6]
  obtain ⟨l, hle⟩ : ∃ l, e - a = l := ⟨_, rfl⟩
  rw [hle] at hl hc ⊢
  have : l = 0 ∨ l = 1 ∨ l = 2 ∨ l = 3 ∨ l = 4 ∨ l = 5 := by omega
  rcases this with rfl | rfl | rfl | rfl | rfl | rfl
  · simp only [hsV]
    omega
  · have c0 := hc 0 (by omega);
    simp only [hsV] at *
    omega
  · have c0 := hc 0 (by omega); have c1 := hc 1 (by omega);
    simp only [hsV] at *
    omega
  · have c0 := hc 0 (by omega); have c1 := hc 1 (by omega); have c2 := hc 2 (by omega);
    simp only [hsV] at *
    omega
  · have c0 := hc 0 (by omega); have c1 := hc 1 (by omega); have c2 := hc 2 (by omega); have c3 := hc 3 (by omega);
    simp only [hsV] at *
    omega
  · have c0 := hc 0 (by omega); have c1 := hc 1 (by omega); have c2 := hc 2 (by omega); have c3 := hc 3 (by omega); have c4 := hc 4 (by omega);
    rw [show hsV X a 5 = 32 * hsV X a 4 + X (a + 4) - 97 + 1 from rfl, show (24170600 : Nat) = 32 * 755331 + 8 from rfl, hstep c4 (by decide)]
    rw [show hsV X a 4 = 32 * hsV X a 3 + X (a + 3) - 97 + 1 from rfl, show (755331 : Nat) = 32 * 23604 + 3 from rfl, hstep c3 (by decide)]
    rw [show hsV X a 3 = 32 * hsV X a 2 + X (a + 2) - 97 + 1 from rfl, show (23604 : Nat) = 32 * 737 + 20 from rfl, hstep c2 (by decide)]
    rw [show hsV X a 2 = 32 * hsV X a 1 + X (a + 1) - 97 + 1 from rfl, show (737 : Nat) = 32 * 23 + 1 from rfl, hstep c1 (by decide)]
    rw [show hsV X a 1 = 32 * hsV X a 0 + X (a + 0) - 97 + 1 from rfl, show (23 : Nat) = 32 * 0 + 23 from rfl, hstep c0 (by decide)]
    rw [show hsV X a 0 = 0 from rfl]
    omega
theorem hsV_le {X : Nat → Nat} {a : Nat} : ∀ {t : Nat}, (∀ j, j < t → 97 ≤ X (a + j) ∧ X (a + j) ≤ 122) → hsV X a t < 32 ^ t
  | 0, _ => by rw [hsV]; decide
  | t + 1, h => by
    have := hsV_le (X := X) (a := a) (t := t) (fun j hj => h j (by omega))
    have := h t (by omega)
    rw [hsV, Nat.pow_succ]
    omega
theorem v6_verbOf {X : Nat → Nat} {a e : Nat} (hl : e - a ≤ 5) (hc : ∀ j, j < e - a → 97 ≤ X (a + j) ∧ X (a + j) ≤ 122) : f6_verbOf (lN (hsV X a (e - a))) = some (wdC X a e) := by
  have lh := hsV_le hc
  have l5 : 32 ^ (e - a) ≤ 32 ^ 5 := Nat.pow_le_pow_right (by decide) hl
  have z : ∀ v : Nat, v < 2 ^ 31 → (lg_cmp (lN (hsV X a (e - a))) (lN v) = 0 ↔ hsV X a (e - a) = v) := fun v hv => by
    rw [lg_cmp_eq, pk_lEQ (by omega) (by omega)]

  have z0 : (lg_cmp (lN (hsV X a (e - a))) (21243335 : Int64) = 0) = (spB X 0 a e = true) := propext (Iff.trans (z 21243335 (by decide)) (hs0 hl hc))
  have z1 : (lg_cmp (lN (hsV X a (e - a))) (238804 : Int64) = 0) = (spB X 1 a e = true) := propext (Iff.trans (z 238804 (by decide)) (hs1 hl hc))
  have z2 : (lg_cmp (lN (hsV X a (e - a))) (302 : Int64) = 0) = (spB X 2 a e = true) := propext (Iff.trans (z 302 (by decide)) (hs2 hl hc))
  have z3 : (lg_cmp (lN (hsV X a (e - a))) (231045 : Int64) = 0) = (spB X 3 a e = true) := propext (Iff.trans (z 231045 (by decide)) (hs3 hl hc))
  have z4 : (lg_cmp (lN (hsV X a (e - a))) (5170 : Int64) = 0) = (spB X 4 a e = true) := propext (Iff.trans (z 5170 (by decide)) (hs4 hl hc))
  have z5 : (lg_cmp (lN (hsV X a (e - a))) (20022661 : Int64) = 0) = (spB X 5 a e = true) := propext (Iff.trans (z 20022661 (by decide)) (hs5 hl hc))
  have z6 : (lg_cmp (lN (hsV X a (e - a))) (24170600 : Int64) = 0) = (spB X 6 a e = true) := propext (Iff.trans (z 24170600 (by decide)) (hs6 hl hc))
  have x1 : ∀ i j, spB X i a e = true → spB X j a e = true → wl i = wl j := fun i j h1 h2 => by
    unfold spB at h1 h2
    have q1 := of_decide_eq_true ((Bool.and_eq_true _ _).mp h1).1
    have q2 := of_decide_eq_true ((Bool.and_eq_true _ _).mp h2).1
    rw [q1, q2]
  have x2 : ∀ i j, hsV X a (e - a) = i → hsV X a (e - a) = j → i = j := fun i j h1 h2 => by rw [← h1, h2]
  unfold f6_verbOf wdC
  simp only [z0, z1, z2, z3, z4, z5, z6]

  by_cases c0 : spB X 0 a e = true
  · have d1 : ¬ spB X 1 a e = true := fun q => absurd (x2 _ _ ((hs0 hl hc).mpr c0) ((hs1 hl hc).mpr q)) (by decide)
    have d2 : ¬ spB X 2 a e = true := fun q => absurd (x2 _ _ ((hs0 hl hc).mpr c0) ((hs2 hl hc).mpr q)) (by decide)
    have d3 : ¬ spB X 3 a e = true := fun q => absurd (x2 _ _ ((hs0 hl hc).mpr c0) ((hs3 hl hc).mpr q)) (by decide)
    have d4 : ¬ spB X 4 a e = true := fun q => absurd (x2 _ _ ((hs0 hl hc).mpr c0) ((hs4 hl hc).mpr q)) (by decide)
    have d5 : ¬ spB X 5 a e = true := fun q => absurd (x2 _ _ ((hs0 hl hc).mpr c0) ((hs5 hl hc).mpr q)) (by decide)
    have d6 : ¬ spB X 6 a e = true := fun q => absurd (x2 _ _ ((hs0 hl hc).mpr c0) ((hs6 hl hc).mpr q)) (by decide)
    simp only [c0, d1, d2, d3, d4, d5, d6, if_true, if_false, zb1_e]
    rfl
  by_cases c1 : spB X 1 a e = true
  · have d2 : ¬ spB X 2 a e = true := fun q => absurd (x2 _ _ ((hs1 hl hc).mpr c1) ((hs2 hl hc).mpr q)) (by decide)
    have d3 : ¬ spB X 3 a e = true := fun q => absurd (x2 _ _ ((hs1 hl hc).mpr c1) ((hs3 hl hc).mpr q)) (by decide)
    have d4 : ¬ spB X 4 a e = true := fun q => absurd (x2 _ _ ((hs1 hl hc).mpr c1) ((hs4 hl hc).mpr q)) (by decide)
    have d5 : ¬ spB X 5 a e = true := fun q => absurd (x2 _ _ ((hs1 hl hc).mpr c1) ((hs5 hl hc).mpr q)) (by decide)
    have d6 : ¬ spB X 6 a e = true := fun q => absurd (x2 _ _ ((hs1 hl hc).mpr c1) ((hs6 hl hc).mpr q)) (by decide)
    simp only [c0, c1, d2, d3, d4, d5, d6, if_true, if_false, zb1_e]
    rfl
  by_cases c2 : spB X 2 a e = true
  · have d3 : ¬ spB X 3 a e = true := fun q => absurd (x2 _ _ ((hs2 hl hc).mpr c2) ((hs3 hl hc).mpr q)) (by decide)
    have d4 : ¬ spB X 4 a e = true := fun q => absurd (x2 _ _ ((hs2 hl hc).mpr c2) ((hs4 hl hc).mpr q)) (by decide)
    have d5 : ¬ spB X 5 a e = true := fun q => absurd (x2 _ _ ((hs2 hl hc).mpr c2) ((hs5 hl hc).mpr q)) (by decide)
    have d6 : ¬ spB X 6 a e = true := fun q => absurd (x2 _ _ ((hs2 hl hc).mpr c2) ((hs6 hl hc).mpr q)) (by decide)
    simp only [c0, c1, c2, d3, d4, d5, d6, if_true, if_false, zb1_e]
    rfl
  by_cases c3 : spB X 3 a e = true
  · have d4 : ¬ spB X 4 a e = true := fun q => absurd (x2 _ _ ((hs3 hl hc).mpr c3) ((hs4 hl hc).mpr q)) (by decide)
    have d5 : ¬ spB X 5 a e = true := fun q => absurd (x2 _ _ ((hs3 hl hc).mpr c3) ((hs5 hl hc).mpr q)) (by decide)
    have d6 : ¬ spB X 6 a e = true := fun q => absurd (x2 _ _ ((hs3 hl hc).mpr c3) ((hs6 hl hc).mpr q)) (by decide)
    simp only [c0, c1, c2, c3, d4, d5, d6, if_true, if_false, zb1_e]
    rfl
  by_cases c4 : spB X 4 a e = true
  · have d5 : ¬ spB X 5 a e = true := fun q => absurd (x2 _ _ ((hs4 hl hc).mpr c4) ((hs5 hl hc).mpr q)) (by decide)
    have d6 : ¬ spB X 6 a e = true := fun q => absurd (x2 _ _ ((hs4 hl hc).mpr c4) ((hs6 hl hc).mpr q)) (by decide)
    simp only [c0, c1, c2, c3, c4, d5, d6, if_true, if_false, zb1_e]
    rfl
  by_cases c5 : spB X 5 a e = true
  · have d6 : ¬ spB X 6 a e = true := fun q => absurd (x2 _ _ ((hs5 hl hc).mpr c5) ((hs6 hl hc).mpr q)) (by decide)
    simp only [c0, c1, c2, c3, c4, c5, d6, if_true, if_false, zb1_e]
    rfl
  by_cases c6 : spB X 6 a e = true
  · simp only [c0, c1, c2, c3, c4, c5, c6, if_true, if_false, zb1_e]
    rfl
  simp only [c0, c1, c2, c3, c4, c5, c6, if_false, zb1_e]
  rfl
