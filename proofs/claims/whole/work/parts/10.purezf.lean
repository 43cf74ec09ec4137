/-! ===== pure side 42: the text, tokens ===== -/
def nmB (X : Nat → Nat) (L a : Nat) : Bool := decide (rR fg X L a ≠ a ∧ rR fg X L a ≤ a + 3)
def scB (X : Nat → Nat) (L a : Nat) : Bool := decide (a < L ∧ X a = 59)
def TK (X : Nat → Nat) (L a : Nat) (mat tok val : Int32) : Prop :=
  (L ≤ a → tok = nI 0) ∧ (a < L → ¬ tok = 0) ∧ (a < L → wdC X a (rR lt X L a) = zNone → ¬ (0 : Int32) ≤ tok - (4 : Int32)) ∧
  (∀ w, w < 7 → wdC X a (rR lt X L a) = nI w → tok = nI (4 + w) ∧ mat = nI (rR lt X L a)) ∧
  (nmB X L a = true → tok = nI 2 ∧ mat = nI (rR fg X L a) ∧ val = nI (nmV X a (rR fg X L a - a))) ∧ (nmB X L a = false → ¬ tok = nI 2) ∧
  (scB X L a = true → tok = nI 3 ∧ mat = nI (a + 1)) ∧ (scB X L a = false → ¬ tok = nI 3)
theorem wd_none {X : Nat → Nat} {a e : Nat} (h : ∀ w, w < 7 → wl w ≠ e - a) : wdC X a e = zNone := by
  have q : ∀ w, w < 7 → spB X w a e = false := fun w hw => by
    unfold spB
    rw [decide_eq_false (h w hw), Bool.false_and]
  unfold wdC
  rw [q 0 (by omega), q 1 (by omega), q 2 (by omega), q 3 (by omega), q 4 (by omega), q 5 (by omega), q 6 (by omega)]
  rfl
theorem wd_cases (X : Nat → Nat) (a e : Nat) : wdC X a e = zNone ∨ ∃ w, w < 7 ∧ wdC X a e = nI w := by
  unfold wdC
  split
  · exact Or.inr ⟨0, by omega, rfl⟩
  · split
    · exact Or.inr ⟨1, by omega, rfl⟩
    · split
      · exact Or.inr ⟨2, by omega, rfl⟩
      · split
        · exact Or.inr ⟨3, by omega, rfl⟩
        · split
          · exact Or.inr ⟨4, by omega, rfl⟩
          · split
            · exact Or.inr ⟨5, by omega, rfl⟩
            · split
              · exact Or.inr ⟨6, by omega, rfl⟩
              · exact Or.inl rfl
theorem wd_len {X : Nat → Nat} {a e w : Nat} (hw : w < 7) (h : wdC X a e = nI w) : wl w = e - a := by
  have z : ∀ v : Nat, v < 7 → nI v = nI w → v = w := fun v hv q => (nI_eq (by omega) (by omega)).mp q
  have sp : ∀ v, spB X v a e = true → wl v = e - a := fun v hv => by
    unfold spB at hv
    exact of_decide_eq_true ((Bool.and_eq_true _ _).mp hv).1
  unfold wdC at h
  split at h
  · rename_i c; rw [← z 0 (by omega) h]; exact sp 0 c
  · split at h
    · rename_i c; rw [← z 1 (by omega) h]; exact sp 1 c
    · split at h
      · rename_i c; rw [← z 2 (by omega) h]; exact sp 2 c
      · split at h
        · rename_i c; rw [← z 3 (by omega) h]; exact sp 3 c
        · split at h
          · rename_i c; rw [← z 4 (by omega) h]; exact sp 4 c
          · split at h
            · rename_i c; rw [← z 5 (by omega) h]; exact sp 5 c
            · split at h
              · rename_i c; rw [← z 6 (by omega) h]; exact sp 6 c
              · exact absurd h.symm (nI_ne_none (by omega))
theorem s_0 {L : Nat} {tbytes text : Nat → Int32} {X : Nat → Nat} (x : TX L tbytes text X) (k : Int32 → Option (Int32 × Int32 × Int32 × Int32)) : ∀ (m a fu : Nat), L - a = m → m < fu → a ≤ L → L6_scans_0 k (nI L) text fu (nI a) = k (nI (rR bl X L a)) := by
  have hL := x.1
  intro m
  induction m with
  | zero =>
    intro a fu hm hf ha
    obtain ⟨fu, rfl⟩ : ∃ m, fu = m + 1 := ⟨fu - 1, by omega⟩
    have e : f6_isAt (nI L) (nI a) text (32 : Int32) (32 : Int32) = some (bI (decide (a < L ∧ bl (X a) = true))) := v6_isAt x (by omega) (by decide) (by decide)
    rw [L6_scans_0, e, zb1_e, decide_eq_false (fun q => absurd q.1 (by omega)), if_pos (by decide), rR_n (fun h => absurd h.1 (by omega))]
  | succ m ih =>
    intro a fu hm hf ha
    obtain ⟨fu, rfl⟩ : ∃ m, fu = m + 1 := ⟨fu - 1, by omega⟩
    have e : f6_isAt (nI L) (nI a) text (32 : Int32) (32 : Int32) = some (bI (decide (a < L ∧ bl (X a) = true))) := v6_isAt x (by omega) (by decide) (by decide)
    rw [L6_scans_0, e, zb1_e]
    by_cases c : a < L ∧ bl (X a) = true
    · rw [decide_eq_true c, if_neg (by decide), zl_e, nI_1, rR_y c.1 c.2]
      exact ih (a + 1) fu (by omega) (by omega) (by omega)
    · rw [decide_eq_false c, if_pos (by decide), rR_n c]
theorem s_62 {L : Nat} {tbytes text : Nat → Int32} {X : Nat → Nat} (x : TX L tbytes text X) {a : Nat} (ha : a ≤ L) (k : Int64 → Int32 → Option (Int32 × Int32 × Int32 × Int32)) : ∀ (m t fu : Nat), a + t + m = rR lt X L a → m < fu → L6_scans_62 k (nI L) text (nI a) fu (lN (if t ≤ 5 then hsV X a t else 0)) (nI (a + t)) = k (lN (if rR lt X L a - a ≤ 5 then hsV X a (rR lt X L a - a) else 0)) (nI (rR lt X L a)) := by
  have hL := x.1
  obtain ⟨s1, s2, s3, s4⟩ := rR_spec lt X L (L - a) a rfl
  have s4 := s4 ha
  intro m
  induction m with
  | zero =>
    intro t fu ht hm
    obtain ⟨fu, rfl⟩ : ∃ m, fu = m + 1 := ⟨fu - 1, by omega⟩
    have e : f6_isAt (nI L) (nI (a + t)) text (97 : Int32) (122 : Int32) = some (bI (decide (a + t < L ∧ lt (X (a + t)) = true))) := v6_isAt x (by omega) (by decide) (by decide)
    have et : a + t = rR lt X L a := by omega
    rw [← et] at s3
    rw [L6_scans_62, e, zb1_e, decide_eq_false s3, if_pos (by decide), ← et, show a + t - a = t by omega]
  | succ m ih =>
    intro t fu ht hm
    obtain ⟨fu, rfl⟩ : ∃ m, fu = m + 1 := ⟨fu - 1, by omega⟩
    have e : f6_isAt (nI L) (nI (a + t)) text (97 : Int32) (122 : Int32) = some (bI (decide (a + t < L ∧ lt (X (a + t)) = true))) := v6_isAt x (by omega) (by decide) (by decide)
    have c := s2 (a + t) (by omega) (by omega)
    have hv := x.2 (a + t) c.1
    have hr : 97 ≤ X (a + t) ∧ X (a + t) ≤ 122 := by
      have := c.2
      unfold lt at this
      exact of_decide_eq_true this
    have i1 := ih (t + 1) fu (by omega) (by omega)
    rw [L6_scans_62, e, zb1_e, decide_eq_true c, if_neg (by decide), pk_sub (by omega), show a + t - a = t by omega]
    have ev : (if nI t ≤ (4 : Int32) then zg (nI (a + t)) 150 (some (((((32 : Int64) * lN (if t ≤ 5 then hsV X a t else 0)) + (((text (nI (a + t)).toNatClampNeg)).toInt64)) - (97 : Int64)) + (1 : Int64))) else some (0 : Int64)) = some (lN (if t + 1 ≤ 5 then hsV X a (t + 1) else 0)) := by
      by_cases c4 : t ≤ 4
      · rw [if_pos (show nI t ≤ (4 : Int32) from nI_le (b := 4) c4 (by omega)), if_pos (by omega), zg_n (by omega) (by decide), nI_clamp (by omega), hv.2.1, nI_l (by omega), if_pos (by omega), show (32 : Int64) = lN 32 from rfl, lN_mul, lN_add, show (97 : Int64) = lN 97 from rfl, lN_sub (by omega), lN_1, hsV]
      · rw [if_neg (show ¬ nI t ≤ (4 : Int32) from nI_ge (a := 4) (by omega) (by omega)), if_neg (by omega)]
        rfl
    rw [ev, zb1_e, zl_e, nI_1]
    exact i1
theorem s_178 {L : Nat} {tbytes text : Nat → Int32} {X : Nat → Nat} (x : TX L tbytes text X) {a : Nat} (ha : a ≤ L) (k : Int32 → Int32 → Option (Int32 × Int32 × Int32 × Int32)) : ∀ (m t fu : Nat), a + t + m = rR fg X L a → m < fu → L6_scans_178 k (nI L) text (nI a) fu (nI (a + t)) (nI (nmV X a (if t ≤ 3 then t else 3))) = k (nI (rR fg X L a)) (nI (nmV X a (if rR fg X L a - a ≤ 3 then rR fg X L a - a else 3))) := by
  have hL := x.1
  obtain ⟨s1, s2, s3, s4⟩ := rR_spec fg X L (L - a) a rfl
  have s4 := s4 ha
  intro m
  induction m with
  | zero =>
    intro t fu ht hm
    obtain ⟨fu, rfl⟩ : ∃ m, fu = m + 1 := ⟨fu - 1, by omega⟩
    have e : f6_isAt (nI L) (nI (a + t)) text (48 : Int32) (57 : Int32) = some (bI (decide (a + t < L ∧ fg (X (a + t)) = true))) := v6_isAt x (by omega) (by decide) (by decide)
    have et : a + t = rR fg X L a := by omega
    rw [← et] at s3
    rw [L6_scans_178, e, zb1_e, decide_eq_false s3, if_pos (by decide), ← et, show a + t - a = t by omega]
  | succ m ih =>
    intro t fu ht hm
    obtain ⟨fu, rfl⟩ : ∃ m, fu = m + 1 := ⟨fu - 1, by omega⟩
    have e : f6_isAt (nI L) (nI (a + t)) text (48 : Int32) (57 : Int32) = some (bI (decide (a + t < L ∧ fg (X (a + t)) = true))) := v6_isAt x (by omega) (by decide) (by decide)
    have c := s2 (a + t) (by omega) (by omega)
    have hv := x.2 (a + t) c.1
    have hr : 48 ≤ X (a + t) ∧ X (a + t) ≤ 57 := by
      have := c.2
      unfold fg at this
      exact of_decide_eq_true this
    have i1 := ih (t + 1) fu (by omega) (by omega)
    rw [L6_scans_178, e, zb1_e, decide_eq_true c, if_neg (by decide), pk_sub (by omega), show a + t - a = t by omega]
    have ev : (if (3 : Int32) ≤ nI t then some (nI (nmV X a (if t ≤ 3 then t else 3))) else zg (nI (a + t)) 150 (some ((((10 : Int32) * nI (nmV X a (if t ≤ 3 then t else 3))) + (text (nI (a + t)).toNatClampNeg)) - (48 : Int32)))) = some (nI (nmV X a (if t + 1 ≤ 3 then t + 1 else 3))) := by
      by_cases c3 : 3 ≤ t
      · rw [if_pos (show (3 : Int32) ≤ nI t from nI_le (a := 3) c3 (by omega)), show (if t + 1 ≤ 3 then t + 1 else 3) = 3 by split <;> omega, show (if t ≤ 3 then t else 3) = 3 by split <;> omega]
      · have hle : nmV X a t < 10 ^ t := nmV_le (fun j hj => by
          have := (s2 (a + j) (by omega) (by omega)).2
          unfold fg at this
          have := of_decide_eq_true this
          omega)
        have e10 : 10 ^ t ≤ 10 ^ 3 := Nat.pow_le_pow_right (by decide) (by omega)
        rw [if_neg (show ¬ (3 : Int32) ≤ nI t from nI_ge (b := 3) (by omega) (by omega)), if_pos (show t ≤ 3 by omega), if_pos (show t + 1 ≤ 3 by omega), zg_n (by omega) (by decide), nI_clamp (by omega), hv.2.1, show (10 : Int32) = nI 10 from rfl, pk_mul, nI_add, show (48 : Int32) = nI 48 from rfl, pk_sub (by omega), nmV]
    rw [ev, zb1_e, zl_e, nI_1]
    exact i1
theorem v6_scans {L : Nat} {tbytes text : Nat → Int32} {X : Nat → Nat} (x : TX L tbytes text X) {p : Nat} (hp : p ≤ L) (ms mt mv : Int32) : ∃ (mat tok val : Int32), f6_scans (nI L) (nI p) ms mt mv text = some (mat, nI (rR bl X L p), tok, val) ∧ TK X L (rR bl X L p) mat tok val := by
  have hL := x.1
  have b1 := (rR_spec bl X L (L - p) p rfl).2.2.2 hp
  obtain ⟨a, ha⟩ : ∃ a, rR bl X L p = a := ⟨_, rfl⟩
  unfold f6_scans
  rw [s_0 x _ (L - p) p FU rfl (by unfold FU; omega) hp]
  rw [ha] at b1 ⊢
  have e1 : f6_isAt (nI L) (nI a) text (97 : Int32) (122 : Int32) = some (bI (decide (a < L ∧ lt (X a) = true))) := v6_isAt x (by omega) (by decide) (by decide)
  have e2 : f6_isAt (nI L) (nI a) text (48 : Int32) (57 : Int32) = some (bI (decide (a < L ∧ fg (X a) = true))) := v6_isAt x (by omega) (by decide) (by decide)
  have e3 : f6_isAt (nI L) (nI a) text (59 : Int32) (59 : Int32) = some (bI (decide (a < L ∧ decide (59 ≤ X a ∧ X a ≤ 59) = true))) := v6_isAt x (by omega) (by decide) (by decide)
  have nol : ¬ (a < L ∧ lt (X a) = true) → wdC X a (rR lt X L a) = zNone := fun c => by
    rw [rR_n c]
    exact wd_none (fun w hw e => by have := wl_le w hw; omega)
  have nof : ¬ (a < L ∧ fg (X a) = true) → nmB X L a = false := fun c => by
    unfold nmB
    rw [rR_n c]
    exact decide_eq_false (fun q => q.1 rfl)
  have wz : ∀ w, w < 7 → ¬ zNone = nI w := fun w hw e => nI_ne_none (n := w) (by omega) e.symm
  by_cases c0 : a < L
  · rw [if_neg (show ¬ nI a = nI L from nI_neq (by omega) (by omega) (by omega)), e1, zb1_e]
    by_cases c1 : a < L ∧ lt (X a) = true
    · obtain ⟨s1, s2, s3, s4⟩ := rR_spec lt X L (L - a) a rfl
      have s4 := s4 b1
      have hr : 97 ≤ X a ∧ X a ≤ 122 := of_decide_eq_true c1.2
      have nf : nmB X L a = false := nof (fun q => by
        have : 48 ≤ X a ∧ X a ≤ 57 := of_decide_eq_true q.2
        omega)
      have ns : scB X L a = false := decide_eq_false (fun q => by omega)
      have hw := s_62 x b1 (fun y45 mat_46 => if (5 : Int32) < (mat_46 - nI a) then some (mat_46, nI a, (1 : Int32), mv) else zb1 (f6_verbOf y45) (fun r48 => if r48 = (-1 : Int32) then some (mat_46, nI a, (1 : Int32), mv) else zb1 (f6_verbOf y45) (fun r51 => zl (((4 : Int32) + r51)) (fun x53 => some (mat_46, nI a, x53, mv))))) (rR lt X L a - a) 0 FU (by omega) (by unfold FU; omega)
      rw [if_pos (by omega), Nat.add_zero] at hw
      rw [decide_eq_true c1, if_neg (by decide), show (0 : Int64) = lN (hsV X a 0) from rfl, hw, pk_sub s1]
      by_cases c5 : rR lt X L a - a ≤ 5
      · have hv := v6_verbOf (X := X) (a := a) (e := rR lt X L a) c5 (fun j hj => of_decide_eq_true (s2 (a + j) (by omega) (by omega)).2)
        rw [if_neg (show ¬ (5 : Int32) < nI (rR lt X L a - a) from fun e => absurd ((nI_ltI (a := 5) (by omega) (by omega)).mp e) (by omega)), if_pos c5, hv, zb1_e]
        rcases wd_cases X a (rR lt X L a) with e | ⟨w, hw7, e⟩
        · rw [e, if_pos (show zNone = -1 from rfl)]
          refine ⟨_, _, _, rfl, fun h => absurd h (by omega), fun _ => by decide, fun _ _ => by decide, fun w hw h => ?_, fun h => ?_, fun _ => by decide, fun h => ?_, fun _ => by decide⟩
          · rw [e] at h
            exact absurd h (wz w hw)
          · rw [nf] at h
            exact absurd h (by decide)
          · rw [ns] at h
            exact absurd h (by decide)
        · rw [e, if_neg (show ¬ nI w = (-1 : Int32) from nI_ne_none (by omega)), zb1_e, zl_e, show (4 : Int32) = nI 4 from rfl, nI_add]
          refine ⟨_, _, _, rfl, fun h => absurd h (by omega), fun _ => show ¬ nI (4 + w) = (0 : Int32) from nI_neq (k := 0) (by omega) (by omega) (by omega), fun _ h => ?_, fun w2 hw2 h => ?_, fun h => ?_, fun _ => nI_neq (by omega) (by omega) (by omega), fun h => ?_, fun _ => nI_neq (by omega) (by omega) (by omega)⟩
          · rw [e] at h
            exact absurd h.symm (wz w hw7)
          · rw [e] at h
            have : w = w2 := (nI_eq (by omega) (by omega)).mp h
            rw [this]
            exact ⟨rfl, rfl⟩
          · rw [nf] at h
            exact absurd h (by decide)
          · rw [ns] at h
            exact absurd h (by decide)
      · rw [if_pos (show (5 : Int32) < nI (rR lt X L a - a) from (nI_ltI (a := 5) (by omega) (by omega)).mpr (by omega))]
        have e : wdC X a (rR lt X L a) = zNone := wd_none (fun w hw e => by have := wl_le w hw; omega)
        refine ⟨_, _, _, rfl, fun h => absurd h (by omega), fun _ => by decide, fun _ _ => by decide, fun w hw h => ?_, fun h => ?_, fun _ => by decide, fun h => ?_, fun _ => by decide⟩
        · rw [e] at h
          exact absurd h (wz w hw)
        · rw [nf] at h
          exact absurd h (by decide)
        · rw [ns] at h
          exact absurd h (by decide)
    · have e := nol c1
      rw [decide_eq_false c1, if_pos (by decide), e2, zb1_e]
      by_cases c2 : a < L ∧ fg (X a) = true
      · obtain ⟨s1, s2, s3, s4⟩ := rR_spec fg X L (L - a) a rfl
        have s4 := s4 b1
        have hr : 48 ≤ X a ∧ X a ≤ 57 := of_decide_eq_true c2.2
        have ns : scB X L a = false := decide_eq_false (fun q => by omega)
        have gt : a < rR fg X L a := by
          have q := (rR_spec fg X L (L - (a + 1)) (a + 1) rfl).1
          rw [rR_y c2.1 c2.2]
          omega
        have hw := s_178 x b1 (fun mat_31 mvalue_32 => if (mat_31 - nI a) ≤ (3 : Int32) then some (mat_31, nI a, (2 : Int32), mvalue_32) else some (mat_31, nI a, (1 : Int32), mvalue_32)) (rR fg X L a - a) 0 FU (by omega) (by unfold FU; omega)
        rw [if_pos (by omega), Nat.add_zero] at hw
        rw [decide_eq_true c2, if_neg (by decide), show (0 : Int32) = nI (nmV X a 0) from rfl, hw, pk_sub s1]
        by_cases c3 : rR fg X L a - a ≤ 3
        · rw [if_pos (show nI (rR fg X L a - a) ≤ (3 : Int32) from nI_le (b := 3) c3 (by omega)), if_pos c3]
          have nt : nmB X L a = true := decide_eq_true ⟨by omega, by omega⟩
          refine ⟨_, _, _, rfl, fun h => absurd h (by omega), fun _ => by decide, fun _ _ => by decide, fun w hw h => ?_, fun h => ⟨rfl, rfl, rfl⟩, fun h => ?_, fun h => ?_, fun _ => by decide⟩
          · rw [e] at h
            exact absurd h (wz w hw)
          · rw [nt] at h
            exact absurd h (by decide)
          · rw [ns] at h
            exact absurd h (by decide)
        · rw [if_neg (show ¬ nI (rR fg X L a - a) ≤ (3 : Int32) from nI_ge (a := 3) (by omega) (by omega))]
          have nt : nmB X L a = false := decide_eq_false (fun q => by omega)
          refine ⟨_, _, _, rfl, fun h => absurd h (by omega), fun _ => by decide, fun _ _ => by decide, fun w hw h => ?_, fun h => ?_, fun _ => by decide, fun h => ?_, fun _ => by decide⟩
          · rw [e] at h
            exact absurd h (wz w hw)
          · rw [nt] at h
            exact absurd h (by decide)
          · rw [ns] at h
            exact absurd h (by decide)
      · have nf := nof c2
        rw [decide_eq_false c2, if_pos (by decide), e3, zb1_e]
        by_cases c3 : X a = 59
        · have yes : a < L ∧ decide (59 ≤ X a ∧ X a ≤ 59) = true := ⟨c0, decide_eq_true (by omega)⟩
          have ns : scB X L a = true := decide_eq_true ⟨c0, c3⟩
          rw [decide_eq_true yes, if_neg (by decide), zl_e, nI_1]
          refine ⟨_, _, _, rfl, fun h => absurd h (by omega), fun _ => by decide, fun _ _ => by decide, fun w hw h => ?_, fun h => ?_, fun _ => by decide, fun h => ⟨rfl, rfl⟩, fun h => ?_⟩
          · rw [e] at h
            exact absurd h (wz w hw)
          · rw [nf] at h
            exact absurd h (by decide)
          · rw [ns] at h
            exact absurd h (by decide)
        · have no : ¬ (a < L ∧ decide (59 ≤ X a ∧ X a ≤ 59) = true) := fun q => by
            have := of_decide_eq_true q.2
            omega
          have ns : scB X L a = false := decide_eq_false (fun q => c3 q.2)
          rw [decide_eq_false no, if_pos (by decide), zl_e, nI_1]
          refine ⟨_, _, _, rfl, fun h => absurd h (by omega), fun _ => by decide, fun _ _ => by decide, fun w hw h => ?_, fun h => ?_, fun _ => by decide, fun h => ?_, fun _ => by decide⟩
          · rw [e] at h
            exact absurd h (wz w hw)
          · rw [nf] at h
            exact absurd h (by decide)
          · rw [ns] at h
            exact absurd h (by decide)
  · have ea : a = L := by omega
    rw [if_pos (show nI a = nI L by rw [ea])]
    have e := nol (fun q => c0 q.1)
    have nf := nof (fun q => c0 q.1)
    have ns : scB X L a = false := decide_eq_false (fun q => c0 q.1)
    refine ⟨_, _, _, rfl, fun _ => rfl, fun h => absurd h c0, fun h => absurd h c0, fun w hw h => ?_, fun h => ?_, fun _ => by decide, fun h => ?_, fun _ => by decide⟩
    · rw [e] at h
      exact absurd h (wz w hw)
    · rw [nf] at h
      exact absurd h (by decide)
    · rw [ns] at h
      exact absurd h (by decide)
