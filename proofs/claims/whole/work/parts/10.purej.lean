/-! ===== pure side 20: game ===== -/
def atX (S x : Nat) : Nat := if x = 0 then S else 0
def sndL (S y : Nat) : Nat := if y = 1 then 2 else if y = 2 then (if S = 0 then 0 else 4) else 0
def tkL (book : Nat → Int32) (nt d g h S y : Nat) : Nat := if y = 0 then lssN book nt d g S h else if y = 1 then 1 else if S = 0 then 6 else 3
def rst (book : Nat → Int32) (nt d g h S x y : Nat) : Bool :=
  decide (sndL (atX S x) y ≤ sndL (atX S (1 - x)) y) && (decide (tkL book nt d g h (atX S x) y ≤ tkL book nt d g h (atX S x) 0) && (decide (tkL book nt d g h (atX S x) y ≤ tkL book nt d g h (atX S x) 1) && decide (tkL book nt d g h (atX S x) y ≤ tkL book nt d g h (atX S x) 2)))
theorem nI_ite0 (c : Prop) [Decidable c] (a b : Nat) : (if c then nI a else nI b) = nI (if c then a else b) := by split <;> rfl
theorem v1_senderLoses {S y : Nat} (hS : S < 2 ^ 31) (hy : y < 3) : f1_senderLoses (nI S) (nI y) = some (nI (sndL S y)) := by
  unfold f1_senderLoses sndL
  simp (disch := omega) only [zL, nI_eq]
  have hy3 : y = 0 ∨ y = 1 ∨ y = 2 := by omega
  rcases hy3 with rfl | rfl | rfl
  · simp
  · simp
  · by_cases c : S = 0 <;> simp [c]
theorem v6_senderLoses {f S y : Nat} (hS : S < 2 ^ 31) (hf : f = 0 ↔ S = 0) (hf2 : f < 2) (hy : y < 3) : f6_senderLoses (nI f) (nI y) = some (nI (sndL S y)) := by
  unfold f6_senderLoses sndL
  simp (disch := omega) only [zL, nI_eq, hf]
  have hy3 : y = 0 ∨ y = 1 ∨ y = 2 := by omega
  rcases hy3 with rfl | rfl | rfl
  · simp
  · simp
  · by_cases c : S = 0 <;> simp [c]
theorem Bk.tkle {B nt ng d nm : Nat} {book : Nat → Int32} (h : Bk B book nt ng d nm) {g S hr y : Nat} : tkL book nt d g hr S y < 2 ^ 31 := by
  have := h.hle (g := g) (S := S)
  unfold tkL lssN
  split
  · omega
  · split
    · omega
    · split <;> omega
theorem Rw.otherLoses {B nt ng d nm : Nat} {book : Nat → Int32} {things gifts days : Int32} {size weight sound harm in_ kind owner empty room told gate ear scale lost watch : Nat → Int32} {moments : Int32} {kept : Nat → Int32} (h : Bk B book nt ng d nm) (r : Rw things gifts days size weight sound harm in_ kind owner empty room told gate ear scale lost watch moments kept book nt ng nm) {g S hr y : Nat} (hg : g < ng) (hS : S < 2 ^ nt) (hh : hr < 6) (hy : y < 3) : f1_otherLoses days harm kind owner watch (nI g) (nI S) (nI hr) (nI y) = some (nI (tkL book nt d g hr S y)) := by
  have h8 := pow8 h.1.1
  unfold f1_otherLoses tkL
  rw [r.loss h hg hS hh]
  simp (disch := omega) only [zL, nI_eq, zb1_e]
  have hy3 : y = 0 ∨ y = 1 ∨ y = 2 := by omega
  rcases hy3 with rfl | rfl | rfl
  · simp
  · simp
  · by_cases c : S = 0 <;> simp [c]
theorem Bk.takerLoses {B nt ng d nm : Nat} {book : Nat → Int32} (h : Bk B book nt ng d nm) {g hr x y : Nat} (hg : g < ng) (hh : hr < 6) (hx : x < 2) (hy : y < 3) : f6_takerLoses book (nI g) (nI hr) (nI x) (nI y) = some (nI (tkL book nt d g hr (atX (zSet book nt (nI g)) x) y)) := by
  have h8 := pow8 h.1.1
  have hS0 := z_set_lt book nt (nI g)
  have hS : atX (zSet book nt (nI g)) x < 2 ^ 31 := by unfold atX; split <;> omega
  have e : (if nI x = 0 then zb1 (f6_thingsIn book (nI g)) (fun r9 => some r9) else some (0 : Int32)) = some (nI (atX (zSet book nt (nI g)) x)) := by
    rw [v6_thingsIn h.1.1 h.2.1.1, zb1_e]
    unfold atX
    have hx2 : x = 0 ∨ x = 1 := by omega
    rcases hx2 with rfl | rfl <;> rfl
  unfold f6_takerLoses
  rw [e, zb1_e, h.loses hg hS hh]
  unfold tkL
  simp (disch := omega) only [zL, nI_eq, zb1_e]
  have hy3 : y = 0 ∨ y = 1 ∨ y = 2 := by omega
  rcases hy3 with rfl | rfl | rfl
  · simp
  · simp
  · by_cases c : atX (zSet book nt (nI g)) x = 0 <;> simp [c]
theorem Rw.sent {B nt ng d nm : Nat} {book : Nat → Int32} {things gifts days : Int32} {size weight sound harm in_ kind owner empty room told gate ear scale lost watch : Nat → Int32} {moments : Int32} {kept : Nat → Int32} (h : Bk B book nt ng d nm) (r : Rw things gifts days size weight sound harm in_ kind owner empty room told gate ear scale lost watch moments kept book nt ng nm) {g x : Nat} (hg : g < ng) (hx : x < 2) : f1_sent things in_ (nI g) (nI x) = some (nI (atX (zSet book nt (nI g)) x)) := by
  unfold f1_sent atX
  rw [r.inside h, zb1_e]
  have hx2 : x = 0 ∨ x = 1 := by omega
  rcases hx2 with rfl | rfl <;> rfl
theorem L1_rests_e {B nt ng d nm : Nat} {book : Nat → Int32} {things gifts days : Int32} {size weight sound harm in_ kind owner empty room told gate ear scale lost watch : Nat → Int32} {moments : Int32} {kept : Nat → Int32} (h : Bk B book nt ng d nm) (r : Rw things gifts days size weight sound harm in_ kind owner empty room told gate ear scale lost watch moments kept book nt ng nm) {g S hr : Nat} (hg : g < ng) (hS : S < 2 ^ nt) (hh : hr < 6) (v : Nat) (hv : v < 2 ^ 31) : L1_rests_52 (some (1 : Int32)) days harm kind owner watch (nI g) (nI hr) (nI S) (nI v) FU 0 = some (bI (decide (v ≤ tkL book nt d g hr S 0) && (decide (v ≤ tkL book nt d g hr S 1) && decide (v ≤ tkL book nt d g hr S 2)))) := by
  have s0 := r.otherLoses h hg hS hh (y := 0) (by omega)
  have s1 := r.otherLoses h hg hS hh (y := 1) (by omega)
  have s2 := r.otherLoses h hg hS hh (y := 2) (by omega)
  have t0 := h.tkle (g := g) (S := S) (hr := hr) (y := 0)
  have t1 := h.tkle (g := g) (S := S) (hr := hr) (y := 1)
  have t2 := h.tkle (g := g) (S := S) (hr := hr) (y := 2)
  generalize tkL book nt d g hr S 0 = a0 at *
  generalize tkL book nt d g hr S 1 = a1 at *
  generalize tkL book nt d g hr S 2 = a2 at *
  obtain ⟨n, hn⟩ : ∃ n, FU = n + 4 := ⟨99996, rfl⟩
  have e30 : ¬ (3 ≤ 0) := by omega
  have e31 : ¬ (3 ≤ 1) := by omega
  have e32 : ¬ (3 ≤ 2) := by omega
  have k0 : (nI v ≤ nI a0) = (v ≤ a0) := propext (nI_leI hv t0)
  have k1 : (nI v ≤ nI a1) = (v ≤ a1) := propext (nI_leI hv t1)
  have k2 : (nI v ≤ nI a2) = (v ≤ a2) := propext (nI_leI hv t2)
  rw [hn]
  simp (disch := omega) only [L1_rests_52, zL, nI_leI, e30, e31, e32, if_false, s0, s1, s2, zb1_e, nI_add, k0, k1, k2, Nat.zero_add, Nat.reduceAdd, Nat.le_refl, if_true]
  by_cases c0 : v ≤ a0 <;> by_cases c1 : v ≤ a1 <;> by_cases c2 : v ≤ a2 <;> simp [c0, c1, c2, bI]
theorem Rw.rests {B nt ng d nm : Nat} {book : Nat → Int32} {things gifts days : Int32} {size weight sound harm in_ kind owner empty room told gate ear scale lost watch : Nat → Int32} {moments : Int32} {kept : Nat → Int32} (h : Bk B book nt ng d nm) (r : Rw things gifts days size weight sound harm in_ kind owner empty room told gate ear scale lost watch moments kept book nt ng nm) {g x y hr : Nat} (hg : g < ng) (hh : hr < 6) (hx : x < 2) (hy : y < 3) : f1_rests things days harm in_ kind owner watch (nI g) (nI hr) (nI x) (nI y) = some (bI (rst book nt d g hr (zSet book nt (nI g)) x y)) := by
  have h8 := pow8 h.1.1
  have hS0 := z_set_lt book nt (nI g)
  have hS : ∀ x, atX (zSet book nt (nI g)) x < 2 ^ nt := fun x => by unfold atX; split <;> omega
  have hS2 : ∀ x, atX (zSet book nt (nI g)) x < 2 ^ 31 := fun x => by have := hS x; omega
  have hl : ∀ S, sndL S y < 2 ^ 31 := fun S => by unfold sndL; split; omega; split; split <;> omega; omega
  unfold f1_rests rst
  have s1 := r.sent h hg (x := 1 - x) (by omega)
  have s2 := r.sent h hg hx
  have v1 := v1_senderLoses (hS2 (1 - x)) hy
  have v2 := v1_senderLoses (hS2 x) hy
  have o := r.otherLoses h hg (hS x) hh hy
  rw [show ((1 : Int32) = nI 1) from rfl, z_sm _ _ (by omega)]
  simp only [s1, s2, v1, v2, o, zb1_e]
  have e := L1_rests_e h r hg (hS x) hh (tkL book nt d g hr (atX (zSet book nt (nI g)) x) y) h.tkle
  rw [show ((1 : Int32) = nI 1) from rfl] at e
  by_cases c : sndL (atX (zSet book nt (nI g)) x) y ≤ sndL (atX (zSet book nt (nI g)) (1 - x)) y
  · rw [if_pos ((nI_leI (hl _) (hl _)).mpr c), e]
    simp only [c, decide_true, Bool.true_and]
  · rw [if_neg (fun z => c ((nI_leI (hl _) (hl _)).mp z))]
    simp only [c, decide_false, Bool.false_and]
    rfl
/-- the model's inner loop -/
theorem L6_126_0 (book : Nat → Int32) (a b c e : Int32) (k : Int32 → Option (Int32 × (Nat → Int32))) : L6_game_126 k book a b c e FU 0 0 = k 0 := by
  obtain ⟨n, hn⟩ : ∃ n, FU = n + 4 := ⟨99996, rfl⟩
  rw [hn]
  have e0 : ¬ (3 : Int32) ≤ 0 := by decide
  have e1 : ¬ (3 : Int32) ≤ 0 + 1 := by decide
  have e2 : ¬ (3 : Int32) ≤ 0 + 1 + 1 := by decide
  have e3 : (3 : Int32) ≤ 0 + 1 + 1 + 1 := by decide
  simp only [L6_game_126, e0, e1, e2, e3, if_false, if_true]
theorem L6_126_1 {B nt ng d nm : Nat} {book : Nat → Int32} (h : Bk B book nt ng d nm) {g hr x y : Nat} (hg : g < ng) (hh : hr < 6) (hx : x < 2) (hy : y < 3) (k : Int32 → Option (Int32 × (Nat → Int32))) : L6_game_126 k book (nI g) (nI hr) (nI x) (nI y) FU 1 0 = k (bI (decide (tkL book nt d g hr (atX (zSet book nt (nI g)) x) y ≤ tkL book nt d g hr (atX (zSet book nt (nI g)) x) 0) && (decide (tkL book nt d g hr (atX (zSet book nt (nI g)) x) y ≤ tkL book nt d g hr (atX (zSet book nt (nI g)) x) 1) && decide (tkL book nt d g hr (atX (zSet book nt (nI g)) x) y ≤ tkL book nt d g hr (atX (zSet book nt (nI g)) x) 2)))) := by
  have s0 := h.takerLoses hg hh hx (y := 0) (by omega)
  have s1 := h.takerLoses hg hh hx (y := 1) (by omega)
  have s2 := h.takerLoses hg hh hx (y := 2) (by omega)
  have s := h.takerLoses hg hh hx hy
  have t0 := h.tkle (g := g) (S := atX (zSet book nt (nI g)) x) (hr := hr) (y := 0)
  have t1 := h.tkle (g := g) (S := atX (zSet book nt (nI g)) x) (hr := hr) (y := 1)
  have t2 := h.tkle (g := g) (S := atX (zSet book nt (nI g)) x) (hr := hr) (y := 2)
  have t := h.tkle (g := g) (S := atX (zSet book nt (nI g)) x) (hr := hr) (y := y)
  generalize tkL book nt d g hr (atX (zSet book nt (nI g)) x) y = v at *
  generalize tkL book nt d g hr (atX (zSet book nt (nI g)) x) 0 = a0 at *
  generalize tkL book nt d g hr (atX (zSet book nt (nI g)) x) 1 = a1 at *
  generalize tkL book nt d g hr (atX (zSet book nt (nI g)) x) 2 = a2 at *
  obtain ⟨n, hn⟩ : ∃ n, FU = n + 4 := ⟨99996, rfl⟩
  have k0 : (nI a0 < nI v) = (a0 < v) := propext (nI_ltI t0 t)
  have k1 : (nI a1 < nI v) = (a1 < v) := propext (nI_ltI t1 t)
  have k2 : (nI a2 < nI v) = (a2 < v) := propext (nI_ltI t2 t)
  have n1 : ¬ nI 1 = nI 0 := by decide
  have e0 : ¬ nI 3 ≤ nI 0 := by decide
  have e1 : ¬ nI 3 ≤ nI 1 := by decide
  have e2 : ¬ nI 3 ≤ nI 2 := by decide
  have e3 : nI 3 ≤ nI 3 := by decide
  rw [hn]
  simp only [L6_game_126, zL, nI_add, Nat.zero_add, Nat.reduceAdd, e0, e1, e2, e3, n1, if_false, if_true, s, s0, s1, s2, zb1_e, k0, k1, k2]
  by_cases c0 : a0 < v <;> by_cases c1 : a1 < v <;> by_cases c2 : a2 < v <;> simp only [c0, c1, c2, if_true, if_false] <;> congr 1 <;> simp [bI] <;> (try rfl) <;> omega
