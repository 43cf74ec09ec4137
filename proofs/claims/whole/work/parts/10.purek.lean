/-! ===== pure side 21: game, outer ===== -/
def fs3 (x : Nat) (b0 b1 b2 : Bool) : Int32 := if b0 then nI (10 * x) else if b1 then nI (10 * x + 1) else if b2 then nI (10 * x + 2) else zNone
def c3 (b0 b1 b2 : Bool) : Nat := b0.toNat + b1.toNat + b2.toNat
theorem L1_rp14 {B nt ng d nm : Nat} {book : Nat → Int32} {things gifts days : Int32} {size weight sound harm in_ kind owner empty room told gate ear scale lost watch : Nat → Int32} {moments : Int32} {kept : Nat → Int32} (h : Bk B book nt ng d nm) (r : Rw things gifts days size weight sound harm in_ kind owner empty room told gate ear scale lost watch moments kept book nt ng nm) {g x hr y : Nat} (hg : g < ng) (hh : hr < 6) (hx : x < 2) (k : Int32 → Option Int32) : L1_restingPairs_14 k things days harm in_ kind owner watch (nI g) (nI hr) (nI x) FU (nI y) 0 = k (nI (y + c3 (rst book nt d g hr (zSet book nt (nI g)) x 0) (rst book nt d g hr (zSet book nt (nI g)) x 1) (rst book nt d g hr (zSet book nt (nI g)) x 2))) := by
  have s0 := r.rests h hg hh hx (y := 0) (by omega)
  have s1 := r.rests h hg hh hx (y := 1) (by omega)
  have s2 := r.rests h hg hh hx (y := 2) (by omega)
  generalize rst book nt d g hr (zSet book nt (nI g)) x 0 = b0 at *
  generalize rst book nt d g hr (zSet book nt (nI g)) x 1 = b1 at *
  generalize rst book nt d g hr (zSet book nt (nI g)) x 2 = b2 at *
  obtain ⟨n, hn⟩ : ∃ n, FU = n + 4 := ⟨99996, rfl⟩
  have e0 : ¬ nI 3 ≤ nI 0 := by decide
  have e1 : ¬ nI 3 ≤ nI 1 := by decide
  have e2 : ¬ nI 3 ≤ nI 2 := by decide
  have e3 : nI 3 ≤ nI 3 := by decide
  have bz : ∀ b, (bI b = nI 0) = (b = false) := bI_z
  rw [hn]
  simp only [L1_restingPairs_14, zL, nI_add, Nat.zero_add, Nat.reduceAdd, e0, e1, e2, e3, if_false, if_true, s0, s1, s2, zb1_e, bz]
  cases b0 <;> cases b1 <;> cases b2 <;> simp [c3, Nat.add_assoc]
theorem L1_fp10 {B nt ng d nm : Nat} {book : Nat → Int32} {things gifts days : Int32} {size weight sound harm in_ kind owner empty room told gate ear scale lost watch : Nat → Int32} {moments : Int32} {kept : Nat → Int32} (h : Bk B book nt ng d nm) (r : Rw things gifts days size weight sound harm in_ kind owner empty room told gate ear scale lost watch moments kept book nt ng nm) {g x hr : Nat} (hg : g < ng) (hh : hr < 6) (hx : x < 2) (k : Option Int32) : L1_firstRestingPair_10 k things days harm in_ kind owner watch (nI g) (nI hr) (nI x) FU 0 = if fs3 x (rst book nt d g hr (zSet book nt (nI g)) x 0) (rst book nt d g hr (zSet book nt (nI g)) x 1) (rst book nt d g hr (zSet book nt (nI g)) x 2) = zNone then k else some (fs3 x (rst book nt d g hr (zSet book nt (nI g)) x 0) (rst book nt d g hr (zSet book nt (nI g)) x 1) (rst book nt d g hr (zSet book nt (nI g)) x 2)) := by
  have s0 := r.rests h hg hh hx (y := 0) (by omega)
  have s1 := r.rests h hg hh hx (y := 1) (by omega)
  have s2 := r.rests h hg hh hx (y := 2) (by omega)
  generalize rst book nt d g hr (zSet book nt (nI g)) x 0 = b0 at *
  generalize rst book nt d g hr (zSet book nt (nI g)) x 1 = b1 at *
  generalize rst book nt d g hr (zSet book nt (nI g)) x 2 = b2 at *
  obtain ⟨n, hn⟩ : ∃ n, FU = n + 4 := ⟨99996, rfl⟩
  have e0 : ¬ nI 3 ≤ nI 0 := by decide
  have e1 : ¬ nI 3 ≤ nI 1 := by decide
  have e2 : ¬ nI 3 ≤ nI 2 := by decide
  have e3 : nI 3 ≤ nI 3 := by decide
  have bz : ∀ b, (bI b = nI 0) = (b = false) := bI_z
  have q0 : ¬ nI (10 * x) = zNone := nI_ne_none (by omega)
  have q1 : ¬ nI (10 * x + 1) = zNone := nI_ne_none (by omega)
  have q2 : ¬ nI (10 * x + 2) = zNone := nI_ne_none (by omega)
  rw [hn]
  simp only [L1_firstRestingPair_10, zL, nI_add, pk_mul, Nat.zero_add, Nat.reduceAdd, e0, e1, e2, e3, if_false, if_true, s0, s1, s2, zb1_e, zl_e, bz]
  cases b0 <;> cases b1 <;> cases b2 <;> simp [fs3, q0, q1, q2]
theorem L6_g66 {B nt ng d nm : Nat} {book : Nat → Int32} (h : Bk B book nt ng d nm) {g x hr y : Nat} (hg : g < ng) (hh : hr < 6) (hx : x < 2) (f : Int32) (k : Int32 → Int32 → Option (Int32 × (Nat → Int32))) : L6_game_66 k book (nI g) (nI hr) (if nI (zSet book nt (nI g)) = 0 then 0 else 1) (nI x) FU (nI y) f 0 = k (nI (y + c3 (rst book nt d g hr (zSet book nt (nI g)) x 0) (rst book nt d g hr (zSet book nt (nI g)) x 1) (rst book nt d g hr (zSet book nt (nI g)) x 2))) (if f = zNone then fs3 x (rst book nt d g hr (zSet book nt (nI g)) x 0) (rst book nt d g hr (zSet book nt (nI g)) x 1) (rst book nt d g hr (zSet book nt (nI g)) x 2) else f) := by
  have h8 := pow8 h.1.1
  have hS0 := z_set_lt book nt (nI g)
  have hx2 : x = 0 ∨ x = 1 := by omega
  have hl : ∀ S y, sndL S y < 2 ^ 31 := fun S y => by unfold sndL; split; omega; split; split <;> omega; omega
  -- one step
  have body : ∀ (y2 : Nat) (hy2 : y2 < 3) (K : Int32 → Option (Int32 × (Nat → Int32))),
      (zb1 (if (if nI (zSet book nt (nI g)) = 0 then (0 : Int32) else 1) = 0 then some (0 : Int32) else if nI x = 0 then some (1 : Int32) else some (0 : Int32)) (fun v31 => zb1 (f6_senderLoses v31 (nI y2)) (fun r32 => zb1 (if (if nI (zSet book nt (nI g)) = 0 then (0 : Int32) else 1) = 0 then some (0 : Int32) else if nI x = (1 : Int32) then some (1 : Int32) else some (0 : Int32)) (fun v35 => zb1 (f6_senderLoses v35 (nI y2)) (fun r36 => zb1 (if r36 < r32 then some (0 : Int32) else some (1 : Int32)) (fun v39 => L6_game_126 K book (nI g) (nI hr) (nI x) (nI y2) FU v39 (0 : Int32))))))) = K (bI (rst book nt d g hr (zSet book nt (nI g)) x y2)) := by
    intro y2 hy2 K
    have w1 : (if (if nI (zSet book nt (nI g)) = 0 then (0 : Int32) else 1) = 0 then some (0 : Int32) else if nI x = 0 then some (1 : Int32) else some (0 : Int32)) = some (nI (if atX (zSet book nt (nI g)) x = 0 then 0 else 1)) := by
      unfold atX
      by_cases c : zSet book nt (nI g) = 0
      · rw [c]
        rcases hx2 with rfl | rfl <;> rfl
      · rw [if_neg (show ¬ nI (zSet book nt (nI g)) = 0 from nI_neq (k := 0) (by omega) (by omega) c)]
        rcases hx2 with rfl | rfl
        · simp [c]
          rfl
        · rfl
    have w2 : (if (if nI (zSet book nt (nI g)) = 0 then (0 : Int32) else 1) = 0 then some (0 : Int32) else if nI x = (1 : Int32) then some (1 : Int32) else some (0 : Int32)) = some (nI (if atX (zSet book nt (nI g)) (1 - x) = 0 then 0 else 1)) := by
      unfold atX
      by_cases c : zSet book nt (nI g) = 0
      · rw [c]
        rcases hx2 with rfl | rfl <;> rfl
      · rw [if_neg (show ¬ nI (zSet book nt (nI g)) = 0 from nI_neq (k := 0) (by omega) (by omega) c)]
        rcases hx2 with rfl | rfl
        · rfl
        · simp [c]
          rfl
    have hat : ∀ x, atX (zSet book nt (nI g)) x < 2 ^ 31 := fun x => by unfold atX; split <;> omega
    have v1 := v6_senderLoses (f := if atX (zSet book nt (nI g)) x = 0 then 0 else 1) (hat x) (by split <;> omega) (by split <;> omega) hy2
    have v2 := v6_senderLoses (f := if atX (zSet book nt (nI g)) (1 - x) = 0 then 0 else 1) (hat (1 - x)) (by split <;> omega) (by split <;> omega) hy2
    rw [w1, zb1_e, v1, zb1_e, w2, zb1_e, v2, zb1_e]
    unfold rst
    by_cases c : sndL (atX (zSet book nt (nI g)) x) y2 ≤ sndL (atX (zSet book nt (nI g)) (1 - x)) y2
    · rw [if_neg (fun z => absurd ((nI_ltI (hl _ _) (hl _ _)).mp z) (by omega)), zb1_e, L6_126_1 h hg hh hx hy2]
      simp only [c, decide_true, Bool.true_and]
    · rw [if_pos ((nI_ltI (hl _ _) (hl _ _)).mpr (by omega)), zb1_e, L6_126_0]
      simp only [c, decide_false, Bool.false_and]
      rfl
  have step : ∀ (t : Nat) (ht : t < 3) (m y : Nat) (f : Int32), L6_game_66 k book (nI g) (nI hr) (if nI (zSet book nt (nI g)) = 0 then 0 else 1) (nI x) (m + 1) (nI y) f (nI t) = L6_game_66 k book (nI g) (nI hr) (if nI (zSet book nt (nI g)) = 0 then 0 else 1) (nI x) m (nI (y + (rst book nt d g hr (zSet book nt (nI g)) x t).toNat)) (if f = zNone then (if rst book nt d g hr (zSet book nt (nI g)) x t then nI (10 * x + t) else zNone) else f) (nI (t + 1)) := by
    intro t ht m y f
    rw [L6_game_66, if_neg (show ¬ (3 : Int32) ≤ nI t from nI_ge (b := 3) (by omega) (by omega)), body t ht]
    generalize rst book nt d g hr (zSet book nt (nI g)) x t = b
    have bz : ∀ b, (bI b = 0) = (b = false) := bI_z
    have f1 : nI y + 1 = nI (y + 1) := nI_1 ..
    have f2 : nI y + 0 = nI y := nI_add y 0
    have f3 : (10 : Int32) * nI x + nI t = nI (10 * x + t) := by rw [show (10 : Int32) = nI 10 from rfl, pk_mul, nI_add]
    have f4 : nI t + 1 = nI (t + 1) := nI_1 ..
    simp only [bz, zl_e, f3, f4, zm1]
    by_cases c : f = zNone
    · cases b
      · simp [zb1_e, zl_e, c, f2]
      · simp [zb1_e, zl_e, c, f1]
    · cases b
      · simp [zb1_e, zl_e, c, f2]
      · simp [zb1_e, zl_e, c, f1]
  obtain ⟨n, hn⟩ : ∃ n, FU = n + 1 + 1 + 1 + 1 := ⟨99996, rfl⟩
  rw [hn]
  refine (step 0 (by omega) (n + 1 + 1 + 1) y f).trans ?_
  refine (step 1 (by omega) (n + 1 + 1) _ _).trans ?_
  refine (step 2 (by omega) (n + 1) _ _).trans ?_
  rw [L6_game_66, if_pos (show (3 : Int32) ≤ nI (2 + 1) from nI_le (b := 2 + 1) (a := 3) (by omega) (by omega))]
  have q0 : ¬ nI (10 * x) = zNone := nI_ne_none (by omega)
  have q1 : ¬ nI (10 * x + 1) = zNone := nI_ne_none (by omega)
  have q2 : ¬ nI (10 * x + 2) = zNone := nI_ne_none (by omega)
  generalize rst book nt d g hr (zSet book nt (nI g)) x 0 = b0
  generalize rst book nt d g hr (zSet book nt (nI g)) x 1 = b1
  generalize rst book nt d g hr (zSet book nt (nI g)) x 2 = b2
  by_cases c : f = zNone
  · cases b0 <;> cases b1 <;> cases b2 <;> simp [fs3, c3, c, q0, q1, q2, Nat.add_assoc]
  · cases b0 <;> cases b1 <;> cases b2 <;> simp [c3, c, Nat.add_assoc]
theorem Rw.rp {B nt ng d nm : Nat} {book : Nat → Int32} {things gifts days : Int32} {size weight sound harm in_ kind owner empty room told gate ear scale lost watch : Nat → Int32} {moments : Int32} {kept : Nat → Int32} (h : Bk B book nt ng d nm) (r : Rw things gifts days size weight sound harm in_ kind owner empty room told gate ear scale lost watch moments kept book nt ng nm) {g hr : Nat} (hg : g < ng) (hh : hr < 6) : f1_restingPairs things days harm in_ kind owner watch (nI g) (nI hr) = some (nI (0 + (c3 (rst book nt d g hr (zSet book nt (nI g)) 0 0) (rst book nt d g hr (zSet book nt (nI g)) 0 1) (rst book nt d g hr (zSet book nt (nI g)) 0 2)) + (c3 (rst book nt d g hr (zSet book nt (nI g)) 1 0) (rst book nt d g hr (zSet book nt (nI g)) 1 1) (rst book nt d g hr (zSet book nt (nI g)) 1 2)))) := by
  have p0 := fun y k => L1_rp14 h r (x := 0) (y := y) (hr := hr) hg hh (by omega) k
  have p1 := fun y k => L1_rp14 h r (x := 1) (y := y) (hr := hr) hg hh (by omega) k
  generalize c3 (rst book nt d g hr (zSet book nt (nI g)) 0 0) (rst book nt d g hr (zSet book nt (nI g)) 0 1) (rst book nt d g hr (zSet book nt (nI g)) 0 2) = n0 at *
  generalize c3 (rst book nt d g hr (zSet book nt (nI g)) 1 0) (rst book nt d g hr (zSet book nt (nI g)) 1 1) (rst book nt d g hr (zSet book nt (nI g)) 1 2) = n1 at *
  have st : ∀ k m y t, L1_restingPairs_5 k things days harm in_ kind owner watch (nI g) (nI hr) (m + 1) y t = if (1 : Int32) < t then k y else L1_restingPairs_14 (fun y12 => L1_restingPairs_5 k things days harm in_ kind owner watch (nI g) (nI hr) m y12 (t + 1)) things days harm in_ kind owner watch (nI g) (nI hr) t FU y (0 : Int32) := fun k m y t => by rw [L1_restingPairs_5]
  obtain ⟨n, hn⟩ : ∃ n, FU = n + 1 + 1 + 1 := ⟨99997, by unfold FU; rfl⟩
  unfold f1_restingPairs
  have key : ∀ (f : Nat) (hf : f = n + 1 + 1 + 1), L1_restingPairs_5 (fun y13 => some y13) things days harm in_ kind owner watch (nI g) (nI hr) f (nI 0) (nI 0) = some (nI (0 + n0 + n1)) := by
    intro f hf
    rw [hf, st, if_neg (show ¬ (1 : Int32) < nI 0 by decide), p0, st, if_neg (show ¬ (1 : Int32) < nI 0 + 1 by decide), show nI 0 + 1 = nI 1 from rfl, p1, st, if_pos (show (1 : Int32) < nI 1 + 1 by decide)]
  exact key FU hn
theorem Rw.fp {B nt ng d nm : Nat} {book : Nat → Int32} {things gifts days : Int32} {size weight sound harm in_ kind owner empty room told gate ear scale lost watch : Nat → Int32} {moments : Int32} {kept : Nat → Int32} (h : Bk B book nt ng d nm) (r : Rw things gifts days size weight sound harm in_ kind owner empty room told gate ear scale lost watch moments kept book nt ng nm) {g hr : Nat} (hg : g < ng) (hh : hr < 6) : f1_firstRestingPair things days harm in_ kind owner watch (nI g) (nI hr) = some (if (fs3 0 (rst book nt d g hr (zSet book nt (nI g)) 0 0) (rst book nt d g hr (zSet book nt (nI g)) 0 1) (rst book nt d g hr (zSet book nt (nI g)) 0 2)) = zNone then (fs3 1 (rst book nt d g hr (zSet book nt (nI g)) 1 0) (rst book nt d g hr (zSet book nt (nI g)) 1 1) (rst book nt d g hr (zSet book nt (nI g)) 1 2)) else (fs3 0 (rst book nt d g hr (zSet book nt (nI g)) 0 0) (rst book nt d g hr (zSet book nt (nI g)) 0 1) (rst book nt d g hr (zSet book nt (nI g)) 0 2))) := by
  have f0 := fun k => L1_fp10 h r (x := 0) (hr := hr) hg hh (by omega) k
  have f1 := fun k => L1_fp10 h r (x := 1) (hr := hr) hg hh (by omega) k
  generalize fs3 0 (rst book nt d g hr (zSet book nt (nI g)) 0 0) (rst book nt d g hr (zSet book nt (nI g)) 0 1) (rst book nt d g hr (zSet book nt (nI g)) 0 2) = z0 at *
  generalize fs3 1 (rst book nt d g hr (zSet book nt (nI g)) 1 0) (rst book nt d g hr (zSet book nt (nI g)) 1 1) (rst book nt d g hr (zSet book nt (nI g)) 1 2) = z1 at *
  have st : ∀ k m t, L1_firstRestingPair_2 k things days harm in_ kind owner watch (nI g) (nI hr) (m + 1) t = if (1 : Int32) < t then k else L1_firstRestingPair_10 (L1_firstRestingPair_2 k things days harm in_ kind owner watch (nI g) (nI hr) m (t + 1)) things days harm in_ kind owner watch (nI g) (nI hr) t FU (0 : Int32) := fun k m t => by rw [L1_firstRestingPair_2]
  obtain ⟨n, hn⟩ : ∃ n, FU = n + 1 + 1 + 1 := ⟨99997, by unfold FU; rfl⟩
  unfold f1_firstRestingPair
  have key : ∀ (f : Nat) (hf : f = n + 1 + 1 + 1), L1_firstRestingPair_2 (some zNone) things days harm in_ kind owner watch (nI g) (nI hr) f (nI 0) = some (if z0 = zNone then z1 else z0) := by
    intro f hf
    rw [hf, st, if_neg (show ¬ (1 : Int32) < nI 0 by decide), f0, st, if_neg (show ¬ (1 : Int32) < nI 0 + 1 by decide), show nI 0 + 1 = nI 1 from rfl, f1, st, if_pos (show (1 : Int32) < nI 1 + 1 by decide)]
    by_cases u0 : z0 = zNone
    · by_cases u1 : z1 = zNone
      · rw [if_pos u0, if_pos u0, if_pos u1, u1]
      · rw [if_pos u0, if_pos u0, if_neg u1]
    · rw [if_neg u0, if_neg u0]
  exact key FU hn
theorem Bk.g57 {B nt ng d nm : Nat} {book : Nat → Int32} (h : Bk B book nt ng d nm) {g hr : Nat} (hg : g < ng) (hh : hr < 6) (k : Int32 → Int32 → Option (Int32 × (Nat → Int32))) : L6_game_57 k book (nI g) (nI hr) (if nI (zSet book nt (nI g)) = 0 then 0 else 1) FU 0 (-1) 0 = k (nI (0 + (c3 (rst book nt d g hr (zSet book nt (nI g)) 0 0) (rst book nt d g hr (zSet book nt (nI g)) 0 1) (rst book nt d g hr (zSet book nt (nI g)) 0 2)) + (c3 (rst book nt d g hr (zSet book nt (nI g)) 1 0) (rst book nt d g hr (zSet book nt (nI g)) 1 1) (rst book nt d g hr (zSet book nt (nI g)) 1 2)))) (if (fs3 0 (rst book nt d g hr (zSet book nt (nI g)) 0 0) (rst book nt d g hr (zSet book nt (nI g)) 0 1) (rst book nt d g hr (zSet book nt (nI g)) 0 2)) = zNone then (fs3 1 (rst book nt d g hr (zSet book nt (nI g)) 1 0) (rst book nt d g hr (zSet book nt (nI g)) 1 1) (rst book nt d g hr (zSet book nt (nI g)) 1 2)) else (fs3 0 (rst book nt d g hr (zSet book nt (nI g)) 0 0) (rst book nt d g hr (zSet book nt (nI g)) 0 1) (rst book nt d g hr (zSet book nt (nI g)) 0 2))) := by
  have g0 := fun y f k => L6_g66 h (x := 0) (y := y) (hr := hr) hg hh (by omega) f k
  have g1 := fun y f k => L6_g66 h (x := 1) (y := y) (hr := hr) hg hh (by omega) f k
  generalize c3 (rst book nt d g hr (zSet book nt (nI g)) 0 0) (rst book nt d g hr (zSet book nt (nI g)) 0 1) (rst book nt d g hr (zSet book nt (nI g)) 0 2) = n0 at *
  generalize c3 (rst book nt d g hr (zSet book nt (nI g)) 1 0) (rst book nt d g hr (zSet book nt (nI g)) 1 1) (rst book nt d g hr (zSet book nt (nI g)) 1 2) = n1 at *
  generalize fs3 0 (rst book nt d g hr (zSet book nt (nI g)) 0 0) (rst book nt d g hr (zSet book nt (nI g)) 0 1) (rst book nt d g hr (zSet book nt (nI g)) 0 2) = z0 at *
  generalize fs3 1 (rst book nt d g hr (zSet book nt (nI g)) 1 0) (rst book nt d g hr (zSet book nt (nI g)) 1 1) (rst book nt d g hr (zSet book nt (nI g)) 1 2) = z1 at *
  have st : ∀ m y f t, L6_game_57 k book (nI g) (nI hr) (if nI (zSet book nt (nI g)) = 0 then 0 else 1) (m + 1) y f t = if (2 : Int32) ≤ t then k y f else L6_game_66 (fun y63 y64 => L6_game_57 k book (nI g) (nI hr) (if nI (zSet book nt (nI g)) = 0 then 0 else 1) m y63 y64 (t + 1)) book (nI g) (nI hr) (if nI (zSet book nt (nI g)) = 0 then 0 else 1) t FU y f (0 : Int32) := fun m y f t => by rw [L6_game_57]
  obtain ⟨n, hn⟩ : ∃ n, FU = n + 1 + 1 + 1 := ⟨99997, by unfold FU; rfl⟩
  have key : ∀ (f : Nat) (hf : f = n + 1 + 1 + 1), L6_game_57 k book (nI g) (nI hr) (if nI (zSet book nt (nI g)) = 0 then 0 else 1) f (nI 0) zNone (nI 0) = k (nI (0 + n0 + n1)) (if z0 = zNone then z1 else z0) := by
    intro f hf
    rw [hf, st, if_neg (show ¬ (2 : Int32) ≤ nI 0 by decide), g0, st, if_neg (show ¬ (2 : Int32) ≤ nI 0 + 1 by decide), show nI 0 + 1 = nI 1 from rfl, g1, st, if_pos (show (2 : Int32) ≤ nI 1 + 1 by decide), if_pos rfl]
  exact key FU hn
