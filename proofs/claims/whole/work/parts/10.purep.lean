/-! ===== pure side 26: wide ===== -/
def allB (p : Nat → Bool) : Nat → Bool
  | 0 => true
  | n + 1 => allB p n && p n
def mxN (f : Nat → Nat) : Nat → Nat
  | 0 => 0
  | n + 1 => if mxN f n < f n then f n else mxN f n
theorem allB_and {p b : Nat → Bool} {f : Nat → Nat} {v : Nat} : ∀ {n : Nat}, (∀ g, g < n → p g = (b g && decide (f g ≤ v))) → allB p n = (allB b n && decide (mxN f n ≤ v))
  | 0, _ => by simp [allB, mxN]
  | n + 1, h => by
    rw [allB, allB, mxN, allB_and (fun g hg => h g (by omega)), h n (by omega)]
    by_cases c : mxN f n < f n
    · rw [if_pos c]
      by_cases e : f n ≤ v
      · have : mxN f n ≤ v := by omega
        simp [e, this]
      · simp [e]
    · rw [if_neg c]
      by_cases e : mxN f n ≤ v
      · have : f n ≤ v := by omega
        simp [e, this]
      · simp [e]
theorem allB_f {p : Nat → Bool} {g : Nat} (hp : p g = false) : ∀ {n : Nat}, g < n → allB p n = false
  | 0, h => absurd h (by omega)
  | n + 1, h => by
    rw [allB]
    by_cases e : g = n
    · rw [← e, hp, Bool.and_false]
    · rw [allB_f hp (n := n) (by omega), Bool.false_and]
theorem mxN_le {f : Nat → Nat} {v : Nat} : ∀ {n : Nat}, (∀ g, g < n → f g ≤ v) → mxN f n ≤ v
  | 0, _ => by rw [mxN]; omega
  | n + 1, h => by
    have := h n (by omega)
    have := mxN_le (n := n) (v := v) (fun g hg => h g (by omega))
    rw [mxN]
    split <;> omega
theorem upd_upd (f : Nat → Int32) (k : Nat) (a b : Int32) : upd (upd f k a) k b = upd f k b := by
  funext i
  by_cases e : i = k
  · rw [e, pk_us, pk_us]
  · rw [pk_un (by omega), pk_un (by omega), pk_un (by omega)]
def wRl (book : Nat → Int32) (nt c g : Nat) : Bool := decide (book (68 + g) = nI c) && decide (zSet book nt (nI g) ≠ 0)
def wNb (book : Nat → Int32) (nt d c w g : Nat) : Bool := !wRl book nt c g || ((if w = 0 then !hrd book nt g (zSet book nt (nI g)) else fit book g) && !hvy book nt d g (zSet book nt (nI g)))
def wNd (book : Nat → Int32) (nt c w g : Nat) : Nat := if wRl book nt c g then (if w = 0 then nN (book (56 + g)) else sndN book nt g (zSet book nt (nI g)) + 1) else 0
def wPs (book : Nat → Int32) (nt d c g : Nat) : Bool := !wRl book nt c g || pss book nt d g (zSet book nt (nI g))
theorem w_key {B nt ng d nm : Nat} {book : Nat → Int32} (h : Bk B book nt ng d nm) {c w g v : Nat} (hc : c < 2) (hw : w < 2) (hg : g < ng) (hv : v < 2 ^ 31) : wPs (upd book (74 + 3 * (1 - c) + w) (nI v)) nt d c g = (wNb book nt d c w g && decide (wNd book nt c w g ≤ v)) := by
  have hn1 := h.1.1
  have hn2 := h.1.2.1
  have ez : zSet (upd book (74 + 3 * (1 - c) + w) (nI v)) nt (nI g) = zSet book nt (nI g) := zSet_cong (fun t ht => pk_un (by omega))
  have es : ∀ j, j < 4 → sumV (thV (upd book (74 + 3 * (1 - c) + w) (nI v)) j) (zSet book nt (nI g)) nt = sumV (thV book j) (zSet book nt (nI g)) nt := fun j hj => sumV_cong (fun t ht => by unfold thV; rw [pk_un (by omega)])
  have er : wRl (upd book (74 + 3 * (1 - c) + w) (nI v)) nt c g = wRl book nt c g := by
    unfold wRl
    rw [ez, pk_un (by omega)]
  unfold wPs wNb wNd
  rw [er]
  cases hr : wRl book nt c g
  · simp
  · have ho : nN (book (68 + g)) = c := by
      unfold wRl at hr
      have := (Bool.and_eq_true _ _).mp hr
      rw [of_decide_eq_true this.1, nN_n (by omega)]
    have eo : othN (upd book (74 + 3 * (1 - c) + w) (nI v)) g = 1 - c := by unfold othN; rw [pk_un (by omega), ho]
    have eo2 : othN book g = 1 - c := by unfold othN; rw [ho]
    have e1 : sndN (upd book (74 + 3 * (1 - c) + w) (nI v)) nt g (zSet book nt (nI g)) = sndN book nt g (zSet book nt (nI g)) := by
      unfold sndN
      rw [es 2 (by omega), pk_un (by omega)]
    have e2 : wghN (upd book (74 + 3 * (1 - c) + w) (nI v)) nt d g (zSet book nt (nI g)) = wghN book nt d g (zSet book nt (nI g)) := by
      unfold wghN
      rw [es 1 (by omega), pk_un (by omega), pk_un (by omega)]
    have w2 : w = 0 ∨ w = 1 := by omega
    unfold pss hvy hrd fit
    rw [ez, e1, e2, eo, eo2, pk_un (j := 74 + 3 * (1 - c) + 2) (by omega), pk_un (j := 56 + g) (by omega)]
    rcases w2 with rfl | rfl
    · rw [show 74 + 3 * (1 - c) = 74 + 3 * (1 - c) + 0 from rfl, pk_us, nN_n hv, pk_un (by omega)]
      simp only [Bool.not_true, Bool.false_or, if_true, if_pos]
      generalize decide (nN (book (56 + g)) ≤ v) = A
      generalize (!decide (nN (book (74 + 3 * (1 - c) + 0 + 1)) ≤ sndN book nt g (zSet book nt (nI g)))) = B1
      generalize (!decide (nN (book (74 + 3 * (1 - c) + 0 + 2)) < wghN book nt d g (zSet book nt (nI g)))) = B2
      cases A <;> cases B1 <;> cases B2 <;> rfl
    · rw [pk_us, nN_n hv, pk_un (by omega)]
      have ed : (!decide (v ≤ sndN book nt g (zSet book nt (nI g)))) = decide (sndN book nt g (zSet book nt (nI g)) + 1 ≤ v) := by
        by_cases q : v ≤ sndN book nt g (zSet book nt (nI g))
        · rw [decide_eq_true q, decide_eq_false (by omega)]; rfl
        · rw [decide_eq_false q, decide_eq_true (by omega)]; rfl
      rw [ed]
      simp only [Bool.not_true, Bool.false_or, if_true, if_pos, show ¬ (1 = 0) by decide, if_false]
      generalize decide (nN (book (56 + g)) ≤ nN (book (74 + 3 * (1 - c)))) = A
      generalize decide (sndN book nt g (zSet book nt (nI g)) + 1 ≤ v) = B1
      generalize (!decide (nN (book (74 + 3 * (1 - c) + 2)) < wghN book nt d g (zSet book nt (nI g)))) = B2
      cases A <;> cases B1 <;> cases B2 <;> rfl
theorem w_76 {B nt ng d nm : Nat} {book : Nat → Int32} {x : Nat} {v : Int32} {b17 : Nat → Int32} (hb : upd b17 x v = book) (hx : x < 2 ^ 30) (h : Bk B book nt ng d nm) {c : Nat} (hc : c < 2) (k : Int32 → Option (Int32 × (Nat → Int32) × (Nat → Int32))) : ∀ (m t n : Nat), t + m = ng → m < n → L6_wide_76 k (nI c) (nI x) v b17 n (bI (allB (wPs book nt d c) t)) (nI t) = k (bI (allB (wPs book nt d c) ng)) := by
  have hn1 := h.1.1
  have hn2 := h.1.2.1
  have h8 := pow8 hn1
  have ex : (nI x).toNatClampNeg = x := nI_clamp (by omega)
  intro m
  induction m with
  | zero =>
    intro t n ht hm
    obtain ⟨n, rfl⟩ : ∃ m, n = m + 1 := ⟨n - 1, by omega⟩
    have e : t = ng := by omega
    rw [L6_wide_76, ex, hb, h.2.1.2.1, e, if_pos (nI_le (Nat.le_refl _) (by omega))]
  | succ m ih =>
    intro t n ht hm
    obtain ⟨n, rfl⟩ : ∃ m, n = m + 1 := ⟨n - 1, by omega⟩
    have htg : t < ng := by omega
    have i1 := ih (t + 1) n (by omega) (by omega)
    rw [allB] at i1
    have mp := h.passes htg (S := zSet book nt (nI t)) (by have := z_set_lt book nt (nI t); omega)
    rw [L6_wide_76, ex, hb, h.2.1.2.1, if_neg (nI_ge (by omega) (by omega)), v6_thingsIn hn1 h.2.1.1, zb1_e, nI_1]
    cases c1 : allB (wPs book nt d c) t
    · rw [if_pos (show bI false = 0 by decide)]
      rw [c1, Bool.false_and] at i1
      exact i1
    · rw [if_neg (show ¬ bI true = 0 by decide), show ((68 : Int32) = nI 68) from rfl, nI_add, zg_n (by omega) (by omega), nI_clamp (by omega)]
      rw [c1, Bool.true_and] at i1
      unfold wPs wRl at i1
      by_cases c2 : book (68 + t) = nI c
      · rw [if_pos c2]
        by_cases c3 : zSet book nt (nI t) = 0
        · rw [if_pos (by rw [c3]; rfl)]
          rw [show (decide (zSet book nt (nI t) ≠ 0)) = false from decide_eq_false (by omega), Bool.and_false, Bool.not_false, Bool.true_or] at i1
          exact i1
        · rw [if_neg (show ¬ nI (zSet book nt (nI t)) = (0 : Int32) from nI_neq (by have := z_set_lt book nt (nI t); omega) (by decide) c3), mp, zb1_e]
          rw [decide_eq_true c2, show (decide (zSet book nt (nI t) ≠ 0)) = true from decide_eq_true c3, Bool.and_true, Bool.not_true, Bool.false_or] at i1
          cases c4 : pss book nt d t (zSet book nt (nI t))
          · rw [if_pos (show bI false = 0 by decide)]
            rw [c4] at i1
            exact i1
          · rw [if_neg (show ¬ bI true = 0 by decide)]
            rw [c4] at i1
            exact i1
      · rw [if_neg c2]
        rw [decide_eq_false c2, Bool.false_and, Bool.not_false, Bool.true_or] at i1
        exact i1
def wRs (ok : Bool) (mx top v : Nat) : Int32 := if ok = true ∧ mx ≤ top ∧ v ≤ top then nI (if v < mx then mx else v) else zNone
theorem w_57 {B nt ng d nm : Nat} {book : Nat → Int32} (h : Bk B book nt ng d nm) {c w top : Nat} (hc : c < 2) (hw : w < 2) (htop : top = if w = 0 then 30 else 50) (k : Int32 → (Nat → Int32) → Option (Int32 × (Nat → Int32) × (Nat → Int32))) : ∀ (v n : Nat) (b17 : Nat → Int32), v ≤ top + 1 → v < n → (∀ u, upd b17 (74 + 3 * (1 - c) + w) u = upd book (74 + 3 * (1 - c) + w) u) → ∃ b' : Nat → Int32, (∀ u, upd b' (74 + 3 * (1 - c) + w) u = upd book (74 + 3 * (1 - c) + w) u) ∧
    L6_wide_57 k (nI c) (nI (74 + 3 * (1 - c) + w)) n (wRs (allB (wNb book nt d c w) ng) (mxN (wNd book nt c w) ng) top v) (if v = 0 then zNone else nI (v - 1)) b17 = k (wRs (allB (wNb book nt d c w) ng) (mxN (wNd book nt c w) ng) top 0) b' := by
  have hx : 74 + 3 * (1 - c) + w < 80 := by omega
  have ht50 : top ≤ 50 := by rw [htop]; split <;> omega
  have hn2 := h.1.2.1
  obtain ⟨x, hxe⟩ : ∃ x, 74 + 3 * (1 - c) + w = x := ⟨_, rfl⟩
  have keyv : ∀ v, v ≤ top → allB (wPs (upd book x (nI v)) nt d c) ng = (allB (wNb book nt d c w) ng && decide (mxN (wNd book nt c w) ng ≤ v)) := fun v hv => allB_and (fun g hg => by rw [← hxe]; exact w_key h hc hw hg (by omega))
  have bkv : ∀ v, v ≤ top → Bk B (upd book x (nI v)) nt ng d nm := fun v hv => by
    rw [← hxe]
    refine h.city (c := 1 - c) (w := w) (by omega) (by omega) (sml_of ?_ ?_)
    · rw [htop] at hv
      have : w = 0 ∨ w = 1 := by omega
      rcases this with rfl | rfl
      · exact hv
      · exact hv
    · split
      · decide
      · split <;> decide
  rw [hxe] at hx ⊢
  intro v
  induction v with
  | zero =>
    intro n b17 hv hn hu
    obtain ⟨n, rfl⟩ : ∃ m, n = m + 1 := ⟨n - 1, by omega⟩
    refine ⟨b17, hu, ?_⟩
    rw [if_pos rfl, L6_wide_57, if_pos (by decide)]
  | succ v ih =>
    intro n b17 hv hn hu
    obtain ⟨n, rfl⟩ : ∃ m, n = m + 1 := ⟨n - 1, by omega⟩
    have w7 := fun k => w_76 (hu (nI v)) (by omega) (bkv v (by omega)) hc k ng 0 FU (by omega) (by unfold FU; omega)
    obtain ⟨b', g1, g2⟩ := ih n (upd b17 x (nI v)) (by omega) (by omega) (fun u => by rw [upd_upd]; exact hu u)
    refine ⟨b', g1, ?_⟩
    have ev : nI v + (-1 : Int32) = (if v = 0 then zNone else nI (v - 1)) := by
      by_cases e : v = 0
      · rw [e, if_pos rfl]
        decide
      · rw [if_neg e, show nI v = nI (v - 1) + 1 by rw [nI_1]; congr 1; omega, Int32.add_assoc, show ((1 : Int32) + (-1 : Int32)) = 0 by decide, Int32.add_zero]
    have e0 : ¬ nI v < (0 : Int32) := by
      rw [z_ltI, nI_toInt (by omega)]
      have : (0 : Int32).toInt = 0 := by decide
      omega
    rw [if_neg (by omega), show v + 1 - 1 = v from rfl, L6_wide_57, if_neg e0, zg_n (by omega) (by omega)]
    have w8 := w7 (fun y34 => if y34 = 0 then L6_wide_57 k (nI c) (nI x) n (wRs (allB (wNb book nt d c w) ng) (mxN (wNd book nt c w) ng) top (v + 1)) (nI v + (-1)) (upd b17 (nI x).toNatClampNeg (nI v)) else L6_wide_57 k (nI c) (nI x) n (nI v) (nI v + (-1)) (upd b17 (nI x).toNatClampNeg (nI v)))
    refine Eq.trans w8 ?_
    rw [keyv v (by omega), ev, nI_clamp (by omega), ← g2]
    have hvt : v ≤ top := by omega
    have wa : ∀ mx, mx ≤ v → wRs true mx top v = nI v := fun mx hm => by
      unfold wRs
      rw [if_pos ⟨rfl, by omega, hvt⟩, if_neg (by omega)]
    have wb : ∀ mx, ¬ mx ≤ v → wRs true mx top (v + 1) = wRs true mx top v := fun mx hm => by
      unfold wRs
      by_cases c3 : mx ≤ top
      · have p1 : true = true ∧ mx ≤ top ∧ v + 1 ≤ top := ⟨rfl, c3, by omega⟩
        have p2 : true = true ∧ mx ≤ top ∧ v ≤ top := ⟨rfl, c3, hvt⟩
        have p3 : (if v + 1 < mx then mx else v + 1) = mx := by split <;> omega
        rw [if_pos p1, if_pos p2, if_pos (show v < mx by omega), p3]
      · rw [if_neg (fun e => c3 e.2.1), if_neg (fun e => c3 e.2.1)]
    have wc : ∀ mx, wRs false mx top (v + 1) = wRs false mx top v := fun mx => by
      unfold wRs
      rw [if_neg (fun e => Bool.noConfusion e.1), if_neg (fun e => Bool.noConfusion e.1)]
    generalize (if v = 0 then zNone else nI (v - 1)) = vv
    generalize allB (wNb book nt d c w) ng = ok
    generalize mxN (wNd book nt c w) ng = mx
    cases ok
    · rw [Bool.false_and, if_pos (show bI false = 0 by decide), wc]
    · by_cases c2 : mx ≤ v
      · rw [Bool.true_and, decide_eq_true c2, if_neg (show ¬ bI true = 0 by decide), wa mx c2]
      · rw [Bool.true_and, decide_eq_false c2, if_pos (show bI false = 0 by decide), wb mx c2]
