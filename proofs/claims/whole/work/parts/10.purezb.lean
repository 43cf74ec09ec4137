/-! ===== pure side 38: carts, the class's drawing ===== -/
def StC (n : Nat) (dm : Nat → Int32) (least : Int32) (bbest best : Nat → Int32) : Prop := least = zNone ∨ ∃ v, v ≤ 2000 ∧ least = nI v ∧ ∀ j, j < n → ∃ i, i < n ∧ bbest j = nI i ∧ best j = dm i
theorem l_15 {bweights border : Nat → Int32} {f : Nat → Nat} {p c : Nat} (hp : p < 6) (hb : ∀ j, j ≤ p → ∃ i, i < 6 ∧ border j = nI i ∧ bweights i = nI (f j)) (k : Int32 → Option Int32) : ∀ (m t fu : Nat), t + m = p + 1 → m < fu → p + 1 - c ≤ t → L0_loadBehind_15 k bweights border (nI p) fu (nI (sumR f (p + 1 - c) (t - (p + 1 - c)))) (nI t) = k (nI (cL c f p)) := by
  intro m
  induction m with
  | zero =>
    intro t fu ht hm hs
    obtain ⟨fu, rfl⟩ : ∃ m, fu = m + 1 := ⟨fu - 1, by omega⟩
    have e : t = p + 1 := by omega
    subst e
    rw [L0_loadBehind_15, if_pos ((nI_ltI (by omega) (by omega)).mpr (by omega))]
    rfl
  | succ m ih =>
    intro t fu ht hm hs
    obtain ⟨fu, rfl⟩ : ∃ m, fu = m + 1 := ⟨fu - 1, by omega⟩
    obtain ⟨i, hi, r1, r2⟩ := hb t (by omega)
    have i1 := ih (t + 1) fu (by omega) (by omega) (by omega)
    rw [show t + 1 - (p + 1 - c) = (t - (p + 1 - c)) + 1 by omega, sumR, show p + 1 - c + (t - (p + 1 - c)) = t by omega] at i1
    rw [L0_loadBehind_15, if_neg (fun e => absurd ((nI_ltI (by omega) (by omega)).mp e) (by omega)), zg_n (by omega) (by decide), nI_clamp (by omega), r1, zg_n (by omega) (by decide), nI_clamp (by omega), r2, nI_add, zl_e, nI_1]
    exact i1
theorem v0_load {bweights border : Nat → Int32} {f : Nat → Nat} {p c : Nat} (hp : p < 6) (hc : c < 4) (hb : ∀ j, j ≤ p → ∃ i, i < 6 ∧ border j = nI i ∧ bweights i = nI (f j)) : f0_loadBehind (nI c) bweights border (nI p) = some (nI (cL c f p)) := by
  unfold f0_loadBehind
  rw [o_from p hp c hc, zl_e]
  have e := l_15 (c := c) hp hb (fun y9 => some y9) (p + 1 - (p + 1 - c)) (p + 1 - c) FU (by omega) (by unfold FU; omega) (Nat.le_refl _)
  rw [Nat.sub_self, sumR] at e
  exact e
theorem c_main {book dm : Nat → Int32} {n c : Nat} {W : Nat → Nat} (H : cH book dm n c W) {bweights : Nat → Int32} (hB : ∀ i, i < n → bweights i = nI (W i)) : ∀ (m k0 P dd : Nat) (least : Int32) (border bbest best : Nat → Int32), k0 + m = n → P < n ^ k0 → m < dd → pcN (orN (dg n k0 P) k0) 8 = k0 → (∀ j, j < k0 → border j = nI (dg n k0 P j)) → StC n dm least bbest best →
    ∃ (least' : Int32) (border' bbest' best' : Nat → Int32), StC n dm least' bbest' best' ∧ least' ≠ zNone ∧ (∀ j, j < k0 → border' j = border j) ∧
      f0_drawFrom dd (nI n) least (nI c) (nI (orN (dg n k0 P) k0)) bweights border bbest (nI k0) (nI (mxN (cL c (fun j => W (dg n k0 P j))) k0)) = some (least', nI (orN (dg n k0 P) k0), border', bbest') ∧
      ∀ row, ∃ row' : Nat → Int32, ∀ (k : Int32 → (Nat → Int32) → (Nat → Int32) → Option (Int32 × (Nat → Int32) × (Nat → Int32) × (Nat → Int32) × (Nat → Int32))) (fu : Nat), L6_carts_126 k book (nI c) (nI n) dm (nI (n ^ n)) (fu + n ^ m) least (nI (P * n ^ m)) row best = L6_carts_126 k book (nI c) (nI n) dm (nI (n ^ n)) fu least' (nI ((P + 1) * n ^ m)) row' best' := by
  have hn := H.1
  have hc1 := H.2.1
  have hc := H.2.2.1
  have hw := fun i hi => (H.2.2.2 i hi).1
  have l64 := o_2n n hn
  -- no order behind a drawn front is lighter than the front
  have lb : ∀ (k0 m P C : Nat), k0 + m = n → C / n ^ m = P → mxN (cL c (fun j => W (dg n k0 P j))) k0 ≤ cV n c W C := by
    intro k0 m P C hk hC
    have e1 : mxN (cL c (fun j => W (dg n k0 P j))) k0 = mxN (cL c (fun j => W (dg n n C j))) k0 := mxN_cong (fun i hi => cL_cong (fun j hj => by
      have := dg_pre (n := n) (k := k0) (m := m) (C := C) (j := j) (by omega)
      rw [hk, hC] at this
      rw [this]))
    have e2 := mxN_mono (f := cL c (fun j => W (dg n n C j))) (k := k0) m
    rw [hk] at e2
    rw [e1]
    unfold cV
    rw [← win_eq hc1]
    exact e2
  have pr : ∀ (k0 m P v : Nat) (best : Nat → Int32), k0 + m = n → P < n ^ k0 → v ≤ mxN (cL c (fun j => W (dg n k0 P j))) k0 → ∀ row, ∃ row' : Nat → Int32, ∀ (k : Int32 → (Nat → Int32) → (Nat → Int32) → Option (Int32 × (Nat → Int32) × (Nat → Int32) × (Nat → Int32) × (Nat → Int32))) (fu : Nat), L6_carts_126 k book (nI c) (nI n) dm (nI (n ^ n)) (fu + n ^ m) (nI v) (nI (P * n ^ m)) row best = L6_carts_126 k book (nI c) (nI n) dm (nI (n ^ n)) fu (nI v) (nI ((P + 1) * n ^ m)) row' best := by
    intro k0 m P v best hk hP hv row
    obtain ⟨row', f⟩ := c_skip H hk hP (least := nI v) best (fun C hC => Or.inr ⟨v, Nat.le_trans hv (lb k0 m P C hk hC), rfl⟩) (n ^ m) (Nat.le_refl _) row
    exact ⟨row', fun k fu => by rw [f k fu, Nat.add_mul, Nat.one_mul]⟩
  intro m
  induction m with
  | zero =>
    intro k0 P dd least border bbest best hk hP hdd hpc hb hst
    obtain ⟨dd, rfl⟩ : ∃ m, dd = m + 1 := ⟨dd - 1, by omega⟩
    have e : k0 = n := by omega
    subst e
    have hlt : orN (dg k0 k0 P) k0 < 2 ^ k0 := orN_lt (fun j hj => dg_lt (by omega))
    have hfull := o_full k0 hn _ (by omega) hlt hpc
    have hGe : mxN (cL c (fun j => W (dg k0 k0 P j))) k0 = cV k0 c W P := win_eq hc1 _
    have hv := cV_le H P
    have cp : f5_copyInts border bbest 6 6 = some (va_cpy border bbest 0 0 6) := v5_copyInts _ _ (by decide)
    rw [hGe]
    have take : least = zNone ∨ (∃ u, cV k0 c W P < u ∧ u ≤ 2000 ∧ least = nI u) → ∃ (least' : Int32) (border' bbest' best' : Nat → Int32), StC k0 dm least' bbest' best' ∧ least' ≠ zNone ∧ (∀ j, j < k0 → border' j = border j) ∧
      f0_drawFrom (dd + 1) (nI k0) least (nI c) (nI (orN (dg k0 k0 P) k0)) bweights border bbest (nI k0) (nI (cV k0 c W P)) = some (least', nI (orN (dg k0 k0 P) k0), border', bbest') ∧
      ∀ row, ∃ row' : Nat → Int32, ∀ (k : Int32 → (Nat → Int32) → (Nat → Int32) → Option (Int32 × (Nat → Int32) × (Nat → Int32) × (Nat → Int32) × (Nat → Int32))) (fu : Nat), L6_carts_126 k book (nI c) (nI k0) dm (nI (k0 ^ k0)) (fu + k0 ^ 0) least (nI (P * k0 ^ 0)) row best = L6_carts_126 k book (nI c) (nI k0) dm (nI (k0 ^ k0)) fu least' (nI ((P + 1) * k0 ^ 0)) row' best' := by
      intro hl
      refine ⟨nI (cV k0 c W P), border, va_cpy border bbest 0 0 6, cpB dm (dg k0 k0 P) best k0, Or.inr ⟨cV k0 c W P, by omega, rfl, fun j hj => ⟨dg k0 k0 P j, dg_lt (by omega), ?_, ?_⟩⟩, nI_ne_none (by omega), fun j hj => rfl, ?_, fun row => ?_⟩
      · rw [cp_k (by omega), hb j hj]
      · unfold cpB
        rw [if_pos hj]
      · rw [f0_drawFrom]
        simp only [zl_e]
        rw [if_neg (fun e => absurd ((nI_ltI (by omega) (by omega)).mp e) (by omega)), cp, zb1_e]
        rcases hl with rfl | ⟨u, hu, hu2, rfl⟩
        · rw [if_pos (show zNone = -1 from rfl)]
        · rw [if_neg (show ¬ nI u = (-1 : Int32) from nI_ne_none (by omega)), if_pos ((nI_ltI (by omega) (by omega)).mpr hu)]
      · obtain ⟨row', f⟩ := c_code H hP row
        exact ⟨row', fun k fu => by rw [Nat.pow_zero, Nat.mul_one, Nat.mul_one]; exact (f k fu least best).2 hfull hl⟩
    rcases hst with rfl | ⟨v, hv2, rfl, hbb⟩
    · exact take (Or.inl rfl)
    · by_cases c1 : cV k0 c W P < v
      · exact take (Or.inr ⟨v, c1, hv2, rfl⟩)
      · refine ⟨nI v, border, bbest, best, Or.inr ⟨v, hv2, rfl, hbb⟩, nI_ne_none (by omega), fun j hj => rfl, ?_, fun row => ?_⟩
        · rw [f0_drawFrom]
          simp only [zl_e]
          rw [if_neg (show ¬ nI v = (-1 : Int32) from nI_ne_none (by omega)), if_neg (fun e => c1 ((nI_ltI (by omega) (by omega)).mp e))]
        · exact pr k0 0 P v best (by omega) hP (by rw [hGe]; omega) row
  | succ m ihm =>
    intro k0 P dd least border bbest best hk hP hdd hpc hb hst
    obtain ⟨dd, rfl⟩ : ∃ m, dd = m + 1 := ⟨dd - 1, by omega⟩
    obtain ⟨S, hS⟩ : ∃ S, orN (dg n k0 P) k0 = S := ⟨_, rfl⟩
    obtain ⟨G, hG⟩ : ∃ G, mxN (cL c (fun j => W (dg n k0 P j))) k0 = G := ⟨_, rfl⟩
    have hSlt : S < 2 ^ n := by rw [← hS]; exact orN_lt (fun j hj => dg_lt (by omega))
    have hGl : G ≤ 1800 := by rw [← hG]; exact mxN_le (fun i hi => cL_le (by omega) (fun j hj => hw _ (dg_lt (by omega))))
    rw [hS] at hpc
    -- the walk over what stands behind the front
    have walk : ∀ (q t fu : Nat) (least : Int32) (border bbest best : Nat → Int32), t + q = n → q < fu → (∀ j, j < k0 → border j = nI (dg n k0 P j)) → StC n dm least bbest best →
        ∃ (least' : Int32) (border' bbest' best' : Nat → Int32), StC n dm least' bbest' best' ∧ ((least ≠ zNone ∨ ∃ i, t ≤ i ∧ i < n ∧ S / 2 ^ i % 2 = 0) → least' ≠ zNone) ∧ (∀ j, j < k0 → border' j = nI (dg n k0 P j)) ∧
          (∀ kk, L0_drawFrom_44 kk (f0_drawFrom dd) (nI n) (nI c) bweights (nI k0) (nI G) fu (nI t) least (nI S) border bbest = kk least' (nI S) border' bbest') ∧
          ∀ row, ∃ row' : Nat → Int32, ∀ (k : Int32 → (Nat → Int32) → (Nat → Int32) → Option (Int32 × (Nat → Int32) × (Nat → Int32) × (Nat → Int32) × (Nat → Int32))) (fu : Nat), L6_carts_126 k book (nI c) (nI n) dm (nI (n ^ n)) (fu + q * n ^ m) least (nI ((P * n + t) * n ^ m)) row best = L6_carts_126 k book (nI c) (nI n) dm (nI (n ^ n)) fu least' (nI ((P * n + n) * n ^ m)) row' best' := by
      intro q
      induction q with
      | zero =>
        intro t fu least border bbest best ht hf hb hst
        obtain ⟨fu, rfl⟩ : ∃ m, fu = m + 1 := ⟨fu - 1, by omega⟩
        have e : t = n := by omega
        subst e
        refine ⟨least, border, bbest, best, hst, fun hh => ?_, hb, fun kk => ?_, fun row => ⟨row, fun k fu => by rw [Nat.zero_mul, Nat.add_zero]⟩⟩
        · rcases hh with hh | ⟨i, h1, h2, _⟩
          · exact hh
          · omega
        · rw [L0_drawFrom_44, if_pos (nI_le (Nat.le_refl _) (by omega))]
      | succ q ihq =>
        intro t fu least border bbest best ht hf hb hst
        obtain ⟨fu, rfl⟩ : ∃ m, fu = m + 1 := ⟨fu - 1, by omega⟩
        have htn : t < n := by omega
        have hP2 : P * n + t < n ^ (k0 + 1) := by
          rw [Nat.pow_succ]
          have := Nat.mul_le_mul_right n (show P + 1 ≤ n ^ k0 from hP)
          rw [Nat.add_mul, Nat.one_mul] at this
          omega
        have dgs : ∀ j, j < k0 + 1 → dg n (k0 + 1) (P * n + t) j = if j = k0 then t else dg n k0 P j := fun j hj => dg_step htn hj
        have oS : orN (dg n (k0 + 1) (P * n + t)) (k0 + 1) = S ||| 2 ^ t := by
          rw [orN, dgs k0 (by omega), if_pos rfl, ← hS]
          congr 1
          exact orN_cong (fun j hj => by rw [dgs j (by omega), if_neg (by omega)])
        have hbit : nI S >>> (nI t &&& 31) &&& (1 : Int32) = nI (S / 2 ^ t % 2) := by
          rw [show (31 : Int32) = nI 31 from rfl, show (1 : Int32) = nI 1 from rfl, zshr (by omega) (by omega), zbit _ (by have := Nat.div_le_self S (2 ^ t); omega)]
        have fus : ∀ fu, fu + (q + 1) * n ^ m = (fu + q * n ^ m) + n ^ m := fun fu => by rw [Nat.add_mul, Nat.one_mul, Nat.add_assoc]
        by_cases c1 : S / 2 ^ t % 2 = 0
        · have hpc2 : pcN (orN (dg n (k0 + 1) (P * n + t)) (k0 + 1)) 8 = k0 + 1 := by
            rw [oS, o_pc S (by omega) t (by omega), if_neg (by omega), hpc]
          have hb2 : ∀ j, j < k0 + 1 → upd border k0 (nI t) j = nI (dg n (k0 + 1) (P * n + t) j) := fun j hj => by
            rw [dgs j hj]
            by_cases e : j = k0
            · rw [e, pk_us, if_pos rfl]
            · rw [pk_un (by omega), if_neg e, hb j (by omega)]
          obtain ⟨least1, border1, bbest1, best1, s1, s2, s3, s4, s5⟩ := ihm (k0 + 1) (P * n + t) dd least (upd border k0 (nI t)) bbest best (by omega) hP2 (by omega) hpc2 hb2 hst
          obtain ⟨least2, border2, bbest2, best2, t1, t2, t3, t4, t5⟩ := ihq (t + 1) fu least1 border1 bbest1 best1 (by omega) (by omega) (fun j hj => by rw [s3 j (by omega), hb2 j (by omega), dgs j (by omega), if_neg (by omega)]) s1
          refine ⟨least2, border2, bbest2, best2, t1, fun _ => t2 (Or.inl s2), t3, fun kk => ?_, fun row => ?_⟩
          · have ld := v0_load (bweights := bweights) (border := upd border k0 (nI t)) (f := fun j => W (dg n (k0 + 1) (P * n + t) j)) (p := k0) (c := c) (by omega) hc (fun j hj => ⟨dg n (k0 + 1) (P * n + t) j, by have := dg_lt (n := n) (k := k0 + 1) (P := P * n + t) (j := j) (by omega); omega, hb2 j (by omega), hB _ (dg_lt (by omega))⟩)
            have lle : cL c (fun j => W (dg n (k0 + 1) (P * n + t) j)) k0 ≤ 1800 := cL_le (by omega) (fun j hj => hw _ (dg_lt (by omega)))
            have gm : (if nI G < nI (cL c (fun j => W (dg n (k0 + 1) (P * n + t) j)) k0) then nI (cL c (fun j => W (dg n (k0 + 1) (P * n + t) j)) k0) else nI G) = nI (mxN (cL c (fun j => W (dg n (k0 + 1) (P * n + t) j))) (k0 + 1)) := by
              have e1 : mxN (cL c (fun j => W (dg n (k0 + 1) (P * n + t) j))) k0 = G := by
                rw [← hG]
                exact mxN_cong (fun i hi => cL_cong (fun j hj => by rw [dgs j (by omega), if_neg (by omega)]))
              rw [mxN, e1]
              by_cases c2 : G < cL c (fun j => W (dg n (k0 + 1) (P * n + t) j)) k0
              · rw [if_pos c2, if_pos ((nI_ltI (by omega) (by omega)).mpr c2)]
              · rw [if_neg c2, if_neg (fun e => c2 ((nI_ltI (by omega) (by omega)).mp e))]
            rw [oS] at s4
            rw [L0_drawFrom_44, if_neg (nI_ge (by omega) (by omega)), hbit, c1, if_pos (show nI 0 = 0 from rfl), zg_n (by omega) (by decide), show (1 : Int32) <<< (nI t &&& 31) = nI (2 ^ t) from zshl (by omega), fa_or, zl_e, nI_clamp (by omega), ld, zb1_e, gm, zl_e, nI_1, s4, zb4_e, ← show (1 : Int32) <<< (nI t &&& 31) = nI (2 ^ t) from zshl (by omega), o_off S (by omega) t (by omega) c1, zl_e, nI_1]
            exact t4 kk
          · obtain ⟨row1, f1⟩ := s5 row
            obtain ⟨row2, f2⟩ := t5 row1
            exact ⟨row2, fun k fu => by rw [fus, f1, show P * n + t + 1 = P * n + (t + 1) from rfl, f2]⟩
        · obtain ⟨least2, border2, bbest2, best2, t1, t2, t3, t4, t5⟩ := ihq (t + 1) fu least border bbest best (by omega) (by omega) hb hst
          refine ⟨least2, border2, bbest2, best2, t1, fun hh => t2 ?_, t3, fun kk => ?_, fun row => ?_⟩
          · rcases hh with hh | ⟨i, h1, h2, h3⟩
            · exact Or.inl hh
            · exact Or.inr ⟨i, by
                have : i ≠ t := fun e => c1 (by rw [← e]; exact h3)
                omega, h2, h3⟩
          · have n1 : ¬ nI (S / 2 ^ t % 2) = (0 : Int32) := nI_neq (k := 0) (by omega) (by omega) c1
            rw [L0_drawFrom_44, if_neg (nI_ge (by omega) (by omega)), hbit, if_neg n1, nI_1]
            exact t4 kk
          · have dup : ∀ C, C / n ^ m = P * n + t → orN (dg n n C) n ≠ 2 ^ n - 1 ∨ ∃ u, u ≤ cV n c W C ∧ least = nI u := fun C hC => Or.inl (fun e => by
              have e1 := orN_pc (d := dg n n C) (k := k0 + 1) hn (x := m) (fun j hj => dg_lt (by omega))
              have e2 : orN (dg n n C) (k0 + 1) = S ||| 2 ^ t := by
                rw [← oS]
                exact orN_cong (fun j hj => by
                  have := dg_pre (n := n) (k := k0 + 1) (m := m) (C := C) (j := j) hj
                  rw [show k0 + 1 + m = n by omega, hC] at this
                  exact this)
              rw [e2, o_pc S (by omega) t (by omega), if_pos (by omega), hpc, show k0 + 1 + m = n by omega, e, o_all n hn] at e1
              omega)
            obtain ⟨row1, f1⟩ := c_skip H (k0 := k0 + 1) (m := m) (by omega) hP2 best dup (n ^ m) (Nat.le_refl _) row
            obtain ⟨row2, f2⟩ := t5 row1
            refine ⟨row2, fun k fu => ?_⟩
            rw [fus, f1, show (P * n + t) * n ^ m + n ^ m = (P * n + (t + 1)) * n ^ m by rw [← Nat.add_assoc, Nat.add_mul (P * n + t), Nat.one_mul], f2]
    rw [hS, hG]
    have go : ∀ (hl : least = zNone ∨ ∃ u, G < u ∧ u ≤ 2000 ∧ least = nI u), ∃ (least' : Int32) (border' bbest' best' : Nat → Int32), StC n dm least' bbest' best' ∧ least' ≠ zNone ∧ (∀ j, j < k0 → border' j = border j) ∧
      f0_drawFrom (dd + 1) (nI n) least (nI c) (nI S) bweights border bbest (nI k0) (nI G) = some (least', nI S, border', bbest') ∧
      ∀ row, ∃ row' : Nat → Int32, ∀ (k : Int32 → (Nat → Int32) → (Nat → Int32) → Option (Int32 × (Nat → Int32) × (Nat → Int32) × (Nat → Int32) × (Nat → Int32))) (fu : Nat), L6_carts_126 k book (nI c) (nI n) dm (nI (n ^ n)) (fu + n ^ (m + 1)) least (nI (P * n ^ (m + 1))) row best = L6_carts_126 k book (nI c) (nI n) dm (nI (n ^ n)) fu least' (nI ((P + 1) * n ^ (m + 1))) row' best' := by
      intro hl
      obtain ⟨least', border', bbest', best', a1, a2, a3, a4, a5⟩ := walk n 0 FU least border bbest best (by omega) (by unfold FU; omega) hb hst
      have ex : ∃ i, 0 ≤ i ∧ i < n ∧ S / 2 ^ i % 2 = 0 := by
        apply Classical.byContradiction
        intro hne
        exact o_ex n hn S (by omega) (by omega) (fun i hi => by
          apply Classical.byContradiction
          intro hx
          exact hne ⟨i, by omega, hi, by omega⟩)
      refine ⟨least', border', bbest', best', a1, a2 (Or.inr ex), fun j hj => by rw [a3 j hj, hb j hj], ?_, fun row => ?_⟩
      · rw [f0_drawFrom]
        simp only [zl_e]
        have a4 := a4 (fun bleast_23 bdrawn_24 border_25 bbest_26 => some (bleast_23, bdrawn_24, border_25, bbest_26))
        rw [show nI 0 = (0 : Int32) from rfl] at a4
        rw [if_pos ((nI_ltI (by omega) (by omega)).mpr (by omega)), a4]
        rcases hl with rfl | ⟨u, hu, hu2, rfl⟩
        · rw [if_pos (show zNone = -1 from rfl)]
        · rw [if_neg (show ¬ nI u = (-1 : Int32) from nI_ne_none (by omega)), if_pos ((nI_ltI (by omega) (by omega)).mpr hu)]
      · obtain ⟨row', f⟩ := a5 row
        refine ⟨row', fun k fu => ?_⟩
        have f := f k fu
        rw [Nat.add_zero, show P * n + n = (P + 1) * n by rw [Nat.add_mul, Nat.one_mul], Nat.mul_assoc, Nat.mul_assoc, ← Nat.pow_succ'] at f
        exact f
    rcases hst with rfl | ⟨v, hv2, rfl, hbb⟩
    · exact go (Or.inl rfl)
    · by_cases c1 : G < v
      · exact go (Or.inr ⟨v, c1, hv2, rfl⟩)
      · refine ⟨nI v, border, bbest, best, Or.inr ⟨v, hv2, rfl, hbb⟩, nI_ne_none (by omega), fun j hj => rfl, ?_, fun row => ?_⟩
        · rw [f0_drawFrom]
          simp only [zl_e]
          rw [if_neg (show ¬ nI v = (-1 : Int32) from nI_ne_none (by omega)), if_neg (fun e => c1 ((nI_ltI (by omega) (by omega)).mp e))]
        · exact pr k0 (m + 1) P v best (by omega) hP (by rw [hG]; omega) row
