/-! ===== pure side 4: both sides' small methods over one book ===== -/
theorem Bk.sum {B nt ng d nm : Nat} {book : Nat → Int32} (h : Bk B book nt ng d nm) {S w : Nat} (hS : S < 2 ^ 31) (hw : w < 4) : f6_sumOf book (nI S) (nI w) = some (nI (sumV (thV book w) S nt)) :=
  v6_sumOf h.1.1 h.2.1.1 hS hw (fun t ht => (h.2.2.1 t ht w hw).1)
theorem Bk.sumle {B nt ng d nm : Nat} {book : Nat → Int32} (h : Bk B book nt ng d nm) {S w : Nat} (hw : w < 4) : sumV (thV book w) S nt ≤ 160 := by
  have h1 := sumV_le (V := thV book w) (S := S) (m := 20) (n := nt) (fun t ht => (h.2.2.1 t ht w hw).2)
  have h2 := h.1.1
  omega
theorem K6 {K : Nat} (h : K ≤ 5) : K = 0 ∨ K = 1 ∨ K = 2 ∨ K = 3 ∨ K = 4 ∨ K = 5 := by omega
theorem Bk.weighs {B nt ng d nm : Nat} {book : Nat → Int32} (h : Bk B book nt ng d nm) {g S : Nat} (hg : g < ng) (hS : S < 2 ^ 31) : f6_weighs book (nI g) (nI S) = some (nI (wghN book nt d g S)) := by
  have hsum := h.sum (w := 1) hS (by decide)
  have hle := h.sumle (w := 1) (S := S) (by decide)
  obtain ⟨⟨hn1, hn2, hn3, hd, hB⟩, ⟨h0, h1, h2, h3⟩, -, -, hgi, -⟩ := h
  obtain ⟨⟨hk, hk5⟩, ⟨he, he5⟩, -⟩ := hgi g hg
  unfold f6_weighs wghN
  generalize nN (book (44 + g)) = K at hk hk5 ⊢
  generalize nN (book (50 + g)) = E at he he5 ⊢
  by_cases hd9 : d ≤ 9
  · have hd9' : ¬ 9 < d := by omega
    rcases K6 hk5 with rfl | rfl | rfl | rfl | rfl | rfl <;> simp (disch := omega) [zL, hk, he, h2, nI_add, zg_n, nI_clamp, zl_e, zb1_e, nI_leI, nI_eq, hsum, hd9, hd9']
  · have hd9' : 9 < d := by omega
    rcases K6 hk5 with rfl | rfl | rfl | rfl | rfl | rfl <;> simp (disch := omega) [zL, hk, he, h2, nI_add, zg_n, nI_clamp, zl_e, zb1_e, nI_leI, nI_eq, hsum, hd9, hd9']
theorem Bk.sounds {B nt ng d nm : Nat} {book : Nat → Int32} (h : Bk B book nt ng d nm) {g S : Nat} (hg : g < ng) (hS : S < 2 ^ 31) : f6_sounds book (nI g) (nI S) = some (nI (sndN book nt g S)) := by
  have hsum := h.sum (w := 2) hS (by decide)
  have hle := h.sumle (w := 2) (S := S) (by decide)
  obtain ⟨⟨hn1, hn2, hn3, hd, hB⟩, ⟨h0, h1, h2, h3⟩, -, -, hgi, -⟩ := h
  obtain ⟨⟨hk, hk5⟩, -⟩ := hgi g hg
  unfold f6_sounds sndN
  generalize nN (book (44 + g)) = K at hk hk5 ⊢
  rcases K6 hk5 with rfl | rfl | rfl | rfl | rfl | rfl <;> simp (disch := omega) [zL, hk, nI_add, pk_mul, pk_div, zg_n, nI_clamp, zl_e, zb1_e, nI_eq, hsum]
theorem Bk.harms {B nt ng d nm : Nat} {book : Nat → Int32} (h : Bk B book nt ng d nm) {g S : Nat} (hg : g < ng) (hS : S < 2 ^ 31) : f6_harms book (nI g) (nI S) = some (nI (hrmN book nt d g S)) := by
  have hsum := h.sum (w := 3) hS (by decide)
  have hle := h.sumle (w := 3) (S := S) (by decide)
  obtain ⟨⟨hn1, hn2, hn3, hd, hB⟩, ⟨h0, h1, h2, h3⟩, -, -, hgi, -⟩ := h
  obtain ⟨⟨hk, hk5⟩, -⟩ := hgi g hg
  unfold f6_harms hrmN
  generalize nN (book (44 + g)) = K at hk hk5 ⊢
  have cd : d - d / 2 * 2 = d % 2 := by omega
  rcases Nat.mod_two_eq_zero_or_one d with c | c <;> rw [c] at cd
  · by_cases hS0 : S = 0
    · subst hS0
      rcases K6 hk5 with rfl | rfl | rfl | rfl | rfl | rfl <;> simp (disch := omega) [zL, hk, h2, nI_add, pk_mul, pk_div, pk_sub, zg_n, nI_clamp, zl_e, zb1_e, nI_eq, hsum, c, cd]
    · rcases K6 hk5 with rfl | rfl | rfl | rfl | rfl | rfl <;> simp (disch := omega) [zL, hk, h2, nI_add, pk_mul, pk_div, pk_sub, zg_n, nI_clamp, zl_e, zb1_e, nI_eq, hsum, hS0, c, cd]
  · by_cases hS0 : S = 0
    · subst hS0
      rcases K6 hk5 with rfl | rfl | rfl | rfl | rfl | rfl <;> simp (disch := omega) [zL, hk, h2, nI_add, pk_mul, pk_div, pk_sub, zg_n, nI_clamp, zl_e, zb1_e, nI_eq, hsum, c, cd]
    · rcases K6 hk5 with rfl | rfl | rfl | rfl | rfl | rfl <;> simp (disch := omega) [zL, hk, h2, nI_add, pk_mul, pk_div, pk_sub, zg_n, nI_clamp, zl_e, zb1_e, nI_eq, hsum, hS0, c, cd]
theorem Bk.oth {B nt ng d nm : Nat} {book : Nat → Int32} (h : Bk B book nt ng d nm) {g : Nat} (hg : g < ng) : othN book g < 2 ∧ book (68 + g) = nI (nN (book (68 + g))) ∧ nN (book (68 + g)) ≤ 1 := by
  obtain ⟨-, -, -, -, hgi, -⟩ := h
  obtain ⟨-, -, -, -, ho, ho1⟩ := hgi g hg
  exact ⟨by unfold othN; omega, ho, ho1⟩
theorem Bk.other {B nt ng d nm : Nat} {book : Nat → Int32} (h : Bk B book nt ng d nm) {g : Nat} (hg : g < ng) : f6_other book (nI g) = some (nI (othN book g)) := by
  obtain ⟨-, ho, ho1⟩ := h.oth hg
  have hn2 := h.1.2.1
  unfold f6_other othN
  generalize nN (book (68 + g)) = K at ho ho1 ⊢
  simp (disch := omega) [zL, ho, nI_add, zg_n, nI_clamp, pk_sub, zl_e]
theorem bI_ne (b : Bool) : (bI b = nI 0) ↔ b = false := by cases b <;> simp [bI] <;> decide
theorem Bk.sle {B nt ng d nm : Nat} {book : Nat → Int32} (h : Bk B book nt ng d nm) {g S : Nat} : sndN book nt g S ≤ 400 := by
  have hle := h.sumle (w := 2) (S := S) (by decide)
  unfold sndN
  (repeat' split) <;> omega
theorem Bk.isHeard {B nt ng d nm : Nat} {book : Nat → Int32} (h : Bk B book nt ng d nm) {g S : Nat} (hg : g < ng) (hS : S < 2 ^ 31) : f6_isHeard book (nI g) (nI S) = some (bI (hrd book nt g S)) := by
  have h1 := h.sounds hg hS
  have h2 := h.other hg
  obtain ⟨ho, -, -⟩ := h.oth hg
  have hle := h.sumle (w := 2) (S := S) (by decide)
  have hs := h.sle (g := g) (S := S)
  obtain ⟨-, -, -, -, -, hc, -⟩ := h
  obtain ⟨-, ⟨he, he5⟩, -⟩ := hc _ ho
  unfold f6_isHeard hrd
  generalize othN book g = c at h2 ho he he5 ⊢
  generalize nN (book (74 + 3 * c + 1)) = E at he he5 ⊢
  generalize sndN book nt g S = X at h1 hs ⊢
  by_cases hx : E ≤ X
  · have hx' : ¬ X < E := by omega
    simp (disch := omega) [zL, h1, h2, he, nI_add, pk_mul, zg_n, nI_clamp, zb1_e, nI_ltI, hx, hx', bI]
  · have hx' : X < E := by omega
    simp (disch := omega) [zL, h1, h2, he, nI_add, pk_mul, zg_n, nI_clamp, zb1_e, nI_ltI, hx, hx', bI]
theorem Bk.wle {B nt ng d nm : Nat} {book : Nat → Int32} (h : Bk B book nt ng d nm) {g S : Nat} (hg : g < ng) : wghN book nt d g S ≤ 300 := by
  have hle := h.sumle (w := 1) (S := S) (by decide)
  obtain ⟨-, -, -, -, hgi, -⟩ := h
  obtain ⟨-, ⟨-, he5⟩, -⟩ := hgi g hg
  have e1 : (if nN (book (44 + g)) = 3 then 0 else sumV (thV book 1) S nt) ≤ 160 := by split <;> omega
  have e2 : (if nN (book (44 + g)) = 2 ∨ nN (book (44 + g)) = 5 then (if 9 < d then 9 else d) else 0) ≤ 9 := by
    split
    · split <;> omega
    · omega
  unfold wghN
  omega
theorem Bk.isHeavy {B nt ng d nm : Nat} {book : Nat → Int32} (h : Bk B book nt ng d nm) {g S : Nat} (hg : g < ng) (hS : S < 2 ^ 31) : f6_isHeavy book (nI g) (nI S) = some (bI (hvy book nt d g S)) := by
  have h1 := h.weighs hg hS
  have h2 := h.other hg
  obtain ⟨ho, -, -⟩ := h.oth hg
  have hs := h.wle (S := S) hg
  obtain ⟨-, -, -, -, -, hc, -⟩ := h
  obtain ⟨-, -, he, he5⟩ := hc _ ho
  unfold f6_isHeavy hvy
  generalize othN book g = c at h2 ho he he5 ⊢
  generalize nN (book (74 + 3 * c + 2)) = E at he he5 ⊢
  generalize wghN book nt d g S = X at h1 hs ⊢
  by_cases hx : E < X
  · have hx' : ¬ X ≤ E := by omega
    simp (disch := omega) [zL, h1, h2, he, nI_add, pk_mul, zg_n, nI_clamp, zb1_e, nI_leI, hx, hx', bI]
  · have hx' : X ≤ E := by omega
    simp (disch := omega) [zL, h1, h2, he, nI_add, pk_mul, zg_n, nI_clamp, zb1_e, nI_leI, hx, hx', bI]
theorem Bk.passes {B nt ng d nm : Nat} {book : Nat → Int32} (h : Bk B book nt ng d nm) {g S : Nat} (hg : g < ng) (hS : S < 2 ^ 31) : f6_passes book (nI g) (nI S) = some (bI (pss book nt d g S)) := by
  have h1 := h.isHeard hg hS
  have h3 := h.isHeavy hg hS
  have h2 := h.other hg
  obtain ⟨ho, -, -⟩ := h.oth hg
  have hn2 := h.1.2.1
  obtain ⟨-, -, -, -, hgi, hc, -⟩ := h
  obtain ⟨⟨he, he5⟩, -⟩ := hc _ ho
  obtain ⟨-, -, ⟨hr, hr5⟩, -⟩ := hgi g hg
  unfold f6_passes pss fit
  generalize othN book g = c at h2 ho he he5 ⊢
  generalize nN (book (74 + 3 * c)) = E at he he5 ⊢
  generalize nN (book (56 + g)) = R at hr hr5 ⊢
  by_cases hx : R ≤ E
  · have hx' : ¬ E < R := by omega
    cases hb1 : hrd book nt g S <;> cases hb2 : hvy book nt d g S <;> simp (disch := omega) [zL, h1, h2, h3, he, hr, nI_add, pk_mul, zg_n, nI_clamp, zb1_e, nI_ltI, nI_eq, hx, hx', bI, hb1, hb2]
  · have hx' : E < R := by omega
    simp (disch := omega) [zL, h2, he, hr, nI_add, pk_mul, zg_n, nI_clamp, zb1_e, nI_ltI, hx, hx', bI]
theorem Bk.hle {B nt ng d nm : Nat} {book : Nat → Int32} (h : Bk B book nt ng d nm) {g S : Nat} : hrmN book nt d g S ≤ 200 := by
  have hle := h.sumle (w := 3) (S := S) (by decide)
  unfold hrmN
  (repeat' split) <;> omega
theorem Bk.loses {B nt ng d nm : Nat} {book : Nat → Int32} (h : Bk B book nt ng d nm) {g S hr : Nat} (hg : g < ng) (hS : S < 2 ^ 31) (hh : hr < 6) : f6_loses book (nI g) (nI S) (nI hr) = some (nI (lssN book nt d g S hr)) := by
  have h1 := h.harms hg hS
  have h2 := h.other hg
  have h3 := h.hle (g := g) (S := S)
  obtain ⟨ho, -, -⟩ := h.oth hg
  obtain ⟨-, -, -, -, -, -, hw, -⟩ := h
  obtain ⟨he, he5⟩ := hw (6 * othN book g + hr) (by omega)
  unfold f6_loses lssN
  rw [← Nat.add_assoc] at he he5
  generalize othN book g = c at h2 ho he he5 ⊢
  generalize nN (book (80 + 6 * c + hr)) = E at he he5 ⊢
  generalize hrmN book nt d g S = X at h1 h3 ⊢
  rcases Nat.lt_or_ge X E with hx | hx
  · have e0 : X - E = 0 := by omega
    have hneg : ¬ (nI 0 ≤ nI X - nI E) := by
      rw [z_leI, pk_sub_toInt (by omega) (by omega)]
      show ¬ (0 : Int) ≤ _
      omega
    simp (disch := omega) [zL, h1, h2, he, nI_add, pk_mul, zg_n, nI_clamp, zb1_e, zl_e, hneg, e0]
  · simp (disch := omega) [zL, h1, h2, he, nI_add, pk_mul, zg_n, nI_clamp, zb1_e, zl_e, pk_sub, nI_leI]
