/-! ===== pure side 37: carts, one order after another ===== -/
/-- what the reference needs to know of the gifts drawn -/
def cH (book dm : Nat → Int32) (n c : Nat) (W : Nat → Nat) : Prop := n < 7 ∧ 1 ≤ c ∧ c < 4 ∧ (∀ i, i < n → W i ≤ 300 ∧ ∃ S, f6_thingsIn book (dm i) = some S ∧ f6_weighs book (dm i) S = some (nI (W i)))
def cV (n c : Nat) (W : Nat → Nat) (C : Nat) : Nat := mxN (cM n c (fun j => W (dg n n C j))) n
theorem cV_le {book dm : Nat → Int32} {n c : Nat} {W : Nat → Nat} (H : cH book dm n c W) (C : Nat) : cV n c W C ≤ 1800 :=
  mxN_le (fun g hg => cM_le H.1 (fun j hj => (H.2.2.2 _ (dg_lt (by omega))).1))
theorem c_load {book dm : Nat → Int32} {n c : Nat} {W : Nat → Nat} (H : cH book dm n c W) {row : Nat → Int32} {C : Nat} (hr : ∀ i, i < n → row i = nI (dg n n C i)) : f6_loadOf book dm row (nI n) (nI c) = some (nI (cV n c W C)) := by
  obtain ⟨hn, hc1, hc, hw⟩ := H
  have e := m_5 (book := book) (dm := dm) (row := row) (f := fun j => W (dg n n C j)) hn hc hc1 (fun j hj => ⟨dg n n C j, hr j hj, by have := dg_lt (n := n) (k := n) (P := C) (j := j) (by omega); omega, (hw _ (dg_lt (by omega))).2⟩) (fun j hj => (hw _ (dg_lt (by omega))).1) (fun y21 => some y21) n 0 FU (by omega) (by unfold FU; omega)
  exact e
theorem c_code {book dm : Nat → Int32} {n c : Nat} {W : Nat → Nat} (H : cH book dm n c W) {C : Nat} (hC : C < n ^ n) (row : Nat → Int32) : ∃ row' : Nat → Int32, ∀ (k : Int32 → (Nat → Int32) → (Nat → Int32) → Option (Int32 × (Nat → Int32) × (Nat → Int32) × (Nat → Int32) × (Nat → Int32))) (fu : Nat) (least : Int32) (best : Nat → Int32),
    ((orN (dg n n C) n ≠ 2 ^ n - 1 ∨ ∃ u, u ≤ cV n c W C ∧ least = nI u) → L6_carts_126 k book (nI c) (nI n) dm (nI (n ^ n)) (fu + 1) least (nI C) row best = L6_carts_126 k book (nI c) (nI n) dm (nI (n ^ n)) fu least (nI (C + 1)) row' best) ∧
    (orN (dg n n C) n = 2 ^ n - 1 → (least = zNone ∨ ∃ u, cV n c W C < u ∧ u ≤ 2000 ∧ least = nI u) → L6_carts_126 k book (nI c) (nI n) dm (nI (n ^ n)) (fu + 1) least (nI C) row best = L6_carts_126 k book (nI c) (nI n) dm (nI (n ^ n)) fu (nI (cV n c W C)) (nI (C + 1)) row' (cpB dm (dg n n C) best n)) := by
  have hn := H.1
  have hp := o_pow n hn
  obtain ⟨row', h1, h2⟩ := v6_lays hn (C := C) (by omega) row
  have hl := c_load H h1
  have hv := cV_le H C
  refine ⟨row', fun k fu least best => ⟨fun hx => ?_, fun hx hy => ?_⟩⟩
  · rw [L6_carts_126, if_neg (nI_ge (by omega) (by omega)), h2, zb2_e, nI_1]
    by_cases e : orN (dg n n C) n = 2 ^ n - 1
    · rw [if_pos e, if_neg (by decide), hl, zb1_e, zl_e]
      rcases hx with hx | ⟨u, hu, rfl⟩
      · exact absurd e hx
      · rw [if_neg (show ¬ nI u = (-1 : Int32) from nI_ne_none (by omega)), if_pos (nI_le hu (by omega))]
    · rw [if_neg e, if_pos rfl]
  · have e3 := fun k => m_173 (row := row') hn (dm := dm) (d := dg n n C) (fun i hi => ⟨h1 i hi, dg_lt (by omega)⟩) k best n 0 FU (by omega) (by unfold FU; omega)
    have e0 : cpB dm (dg n n C) best 0 = best := by
      funext i
      unfold cpB
      rw [if_neg (by omega)]
    rw [e0, show nI 0 = (0 : Int32) from rfl] at e3
    rw [L6_carts_126, if_neg (nI_ge (by omega) (by omega)), h2, zb2_e, nI_1, if_pos hx, if_neg (by decide), hl, zb1_e, zl_e, e3]
    rcases hy with rfl | ⟨u, hu, hu2, rfl⟩
    · rw [if_pos (show zNone = -1 from rfl)]
    · rw [if_neg (show ¬ nI u = (-1 : Int32) from nI_ne_none (by omega)), if_neg (nI_ge (by omega) (by omega))]
theorem c_skip {book dm : Nat → Int32} {n c : Nat} {W : Nat → Nat} (H : cH book dm n c W) {k0 m P : Nat} (hk : k0 + m = n) (hP : P < n ^ k0) {least : Int32} (best : Nat → Int32) (hs : ∀ C, C / n ^ m = P → orN (dg n n C) n ≠ 2 ^ n - 1 ∨ ∃ u, u ≤ cV n c W C ∧ least = nI u) : ∀ x, x ≤ n ^ m → ∀ row, ∃ row' : Nat → Int32, ∀ (k : Int32 → (Nat → Int32) → (Nat → Int32) → Option (Int32 × (Nat → Int32) × (Nat → Int32) × (Nat → Int32) × (Nat → Int32))) (fu : Nat),
    L6_carts_126 k book (nI c) (nI n) dm (nI (n ^ n)) (fu + x) least (nI (P * n ^ m)) row best = L6_carts_126 k book (nI c) (nI n) dm (nI (n ^ n)) fu least (nI (P * n ^ m + x)) row' best := by
  intro x
  induction x with
  | zero => exact fun _ row => ⟨row, fun k fu => rfl⟩
  | succ x ih =>
    intro hx row
    obtain ⟨row1, f1⟩ := ih (by omega) row
    have hC : P * n ^ m + x < n ^ n := by
      have e1 : (P + 1) * n ^ m ≤ n ^ k0 * n ^ m := Nat.mul_le_mul_right _ hP
      rw [← Nat.pow_add, hk, Nat.add_mul, Nat.one_mul] at e1
      omega
    have hd : (P * n ^ m + x) / n ^ m = P := by
      rw [Nat.mul_comm, Nat.mul_add_div (by omega), Nat.div_eq_of_lt (by omega), Nat.add_zero]
    obtain ⟨row2, f2⟩ := c_code H hC row1
    refine ⟨row2, fun k fu => ?_⟩
    rw [show fu + (x + 1) = (fu + 1) + x by omega, f1 k (fu + 1), (f2 k fu least best).1 (hs _ hd), Nat.add_assoc]
