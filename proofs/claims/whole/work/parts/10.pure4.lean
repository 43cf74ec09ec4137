/-! ===== pure side 5: War's small methods over the book ===== -/
theorem z_set_lt (book : Nat → Int32) (nt : Nat) (v : Int32) : zSet book nt v < 2 ^ nt := bs_lt _ _
theorem Rw.inside {B nt ng d nm : Nat} {book : Nat → Int32} {things gifts days : Int32} {size weight sound harm in_ kind owner empty room told gate ear scale lost watch : Nat → Int32} {moments : Int32} {kept : Nat → Int32} (h : Bk B book nt ng d nm) (r : Rw things gifts days size weight sound harm in_ kind owner empty room told gate ear scale lost watch moments kept book nt ng nm) (v : Int32) : f4_inside things in_ v = some (nI (zSet book nt v)) := by
  obtain ⟨⟨r0, -⟩, rt, -⟩ := r
  rw [r0, h.2.1.1, v4_inside h.1.1]
  congr 2
  exact bs_cong (fun t ht => by rw [(rt t ht).2.2.2.2])
theorem Rw.sum1 {B nt ng d nm : Nat} {book : Nat → Int32} {things gifts days : Int32} {size weight sound harm in_ kind owner empty room told gate ear scale lost watch : Nat → Int32} {moments : Int32} {kept : Nat → Int32} (h : Bk B book nt ng d nm) (r : Rw things gifts days size weight sound harm in_ kind owner empty room told gate ear scale lost watch moments kept book nt ng nm) {S : Nat} (hS : S < 2 ^ nt) : f5_sumOver weight (nI S) = some (nI (sumV (thV book 1) S nt)) :=
  v5_sumOver h.1.1 hS (fun t ht => by rw [(r.2.1 t ht).2.1]; exact (h.2.2.1 t ht 1 (by decide)).1)
theorem Rw.sum0 {B nt ng d nm : Nat} {book : Nat → Int32} {things gifts days : Int32} {size weight sound harm in_ kind owner empty room told gate ear scale lost watch : Nat → Int32} {moments : Int32} {kept : Nat → Int32} (h : Bk B book nt ng d nm) (r : Rw things gifts days size weight sound harm in_ kind owner empty room told gate ear scale lost watch moments kept book nt ng nm) {S : Nat} (hS : S < 2 ^ nt) : f5_sumOver size (nI S) = some (nI (sumV (thV book 0) S nt)) :=
  v5_sumOver h.1.1 hS (fun t ht => by rw [(r.2.1 t ht).1]; exact (h.2.2.1 t ht 0 (by decide)).1)
theorem Rw.sum2 {B nt ng d nm : Nat} {book : Nat → Int32} {things gifts days : Int32} {size weight sound harm in_ kind owner empty room told gate ear scale lost watch : Nat → Int32} {moments : Int32} {kept : Nat → Int32} (h : Bk B book nt ng d nm) (r : Rw things gifts days size weight sound harm in_ kind owner empty room told gate ear scale lost watch moments kept book nt ng nm) {S : Nat} (hS : S < 2 ^ nt) : f5_sumOver sound (nI S) = some (nI (sumV (thV book 2) S nt)) :=
  v5_sumOver h.1.1 hS (fun t ht => by rw [(r.2.1 t ht).2.2.1]; exact (h.2.2.1 t ht 2 (by decide)).1)
theorem Rw.sum3 {B nt ng d nm : Nat} {book : Nat → Int32} {things gifts days : Int32} {size weight sound harm in_ kind owner empty room told gate ear scale lost watch : Nat → Int32} {moments : Int32} {kept : Nat → Int32} (h : Bk B book nt ng d nm) (r : Rw things gifts days size weight sound harm in_ kind owner empty room told gate ear scale lost watch moments kept book nt ng nm) {S : Nat} (hS : S < 2 ^ nt) : f5_sumOver harm (nI S) = some (nI (sumV (thV book 3) S nt)) :=
  v5_sumOver h.1.1 hS (fun t ht => by rw [(r.2.1 t ht).2.2.2.1]; exact (h.2.2.1 t ht 3 (by decide)).1)
theorem Rw.weighs {B nt ng d nm : Nat} {book : Nat → Int32} {things gifts days : Int32} {size weight sound harm in_ kind owner empty room told gate ear scale lost watch : Nat → Int32} {moments : Int32} {kept : Nat → Int32} (h : Bk B book nt ng d nm) (r : Rw things gifts days size weight sound harm in_ kind owner empty room told gate ear scale lost watch moments kept book nt ng nm) {g S : Nat} (hg : g < ng) (hS : S < 2 ^ nt) : f4_weighs days weight kind empty (nI g) (nI S) = some (nI (wghN book nt d g S)) := by
  have hsum := r.sum1 h hS
  have hle := h.sumle (w := 1) (S := S) (by decide)
  obtain ⟨⟨-, -, rd, -⟩, -, rg, -⟩ := r
  obtain ⟨rk, re, -⟩ := rg g hg
  obtain ⟨⟨hn1, hn2, hn3, hd, hB⟩, ⟨h0, h1, h2, h3⟩, -, -, hgi, -⟩ := h
  obtain ⟨⟨hk, hk5⟩, ⟨he, he5⟩, -⟩ := hgi g hg
  rw [hk] at rk
  rw [he] at re
  rw [h2] at rd
  unfold f4_weighs wghN
  generalize nN (book (44 + g)) = K at rk hk5 ⊢
  generalize nN (book (50 + g)) = E at re he5 ⊢
  by_cases hd9 : d ≤ 9
  · have hd9' : ¬ 9 < d := by omega
    rcases K6 hk5 with rfl | rfl | rfl | rfl | rfl | rfl <;> simp (disch := omega) [zL, rk, re, rd, nI_add, zg_n, nI_clamp, zl_e, zb1_e, nI_ltI, nI_eq, hsum, hd9']
  · have hd9' : 9 < d := by omega
    rcases K6 hk5 with rfl | rfl | rfl | rfl | rfl | rfl <;> simp (disch := omega) [zL, rk, re, rd, nI_add, zg_n, nI_clamp, zl_e, zb1_e, nI_ltI, nI_eq, hsum, hd9']
theorem Rw.sounds {B nt ng d nm : Nat} {book : Nat → Int32} {things gifts days : Int32} {size weight sound harm in_ kind owner empty room told gate ear scale lost watch : Nat → Int32} {moments : Int32} {kept : Nat → Int32} (h : Bk B book nt ng d nm) (r : Rw things gifts days size weight sound harm in_ kind owner empty room told gate ear scale lost watch moments kept book nt ng nm) {g S : Nat} (hg : g < ng) (hS : S < 2 ^ nt) : f4_sounds sound kind (nI g) (nI S) = some (nI (sndN book nt g S)) := by
  have hsum := r.sum2 h hS
  have hle := h.sumle (w := 2) (S := S) (by decide)
  obtain ⟨-, -, rg, -⟩ := r
  obtain ⟨rk, -⟩ := rg g hg
  obtain ⟨⟨hn1, hn2, hn3, hd, hB⟩, -, -, -, hgi, -⟩ := h
  obtain ⟨⟨hk, hk5⟩, -⟩ := hgi g hg
  rw [hk] at rk
  unfold f4_sounds sndN
  generalize nN (book (44 + g)) = K at rk hk5 ⊢
  rcases K6 hk5 with rfl | rfl | rfl | rfl | rfl | rfl <;> simp (disch := omega) [zL, rk, nI_add, pk_mul, pk_div, zg_n, nI_clamp, zl_e, zb1_e, nI_eq, hsum]
theorem Rw.harms {B nt ng d nm : Nat} {book : Nat → Int32} {things gifts days : Int32} {size weight sound harm in_ kind owner empty room told gate ear scale lost watch : Nat → Int32} {moments : Int32} {kept : Nat → Int32} (h : Bk B book nt ng d nm) (r : Rw things gifts days size weight sound harm in_ kind owner empty room told gate ear scale lost watch moments kept book nt ng nm) {g S : Nat} (hg : g < ng) (hS : S < 2 ^ nt) : f4_harms days harm kind (nI g) (nI S) = some (nI (hrmN book nt d g S)) := by
  have hsum := r.sum3 h hS
  have hle := h.sumle (w := 3) (S := S) (by decide)
  have hS2 : S < 256 := by have := pow8 h.1.1; omega
  obtain ⟨⟨-, -, rd, -⟩, -, rg, -⟩ := r
  obtain ⟨rk, -⟩ := rg g hg
  obtain ⟨⟨hn1, hn2, hn3, hd, hB⟩, ⟨h0, h1, h2, h3⟩, -, -, hgi, -⟩ := h
  obtain ⟨⟨hk, hk5⟩, -⟩ := hgi g hg
  rw [hk] at rk
  rw [h2] at rd
  unfold f4_harms hrmN
  generalize nN (book (44 + g)) = K at rk hk5 ⊢
  have cd : d - d / 2 * 2 = d % 2 := by omega
  rcases Nat.mod_two_eq_zero_or_one d with c | c <;> rw [c] at cd
  · by_cases hS0 : S = 0
    · subst hS0
      rcases K6 hk5 with rfl | rfl | rfl | rfl | rfl | rfl <;> simp (disch := omega) [zL, rk, rd, nI_add, pk_mul, pk_div, pk_sub, zg_n, nI_clamp, zl_e, zb1_e, nI_eq, hsum, c, cd]
    · rcases K6 hk5 with rfl | rfl | rfl | rfl | rfl | rfl <;> simp (disch := omega) [zL, rk, rd, nI_add, pk_mul, pk_div, pk_sub, zg_n, nI_clamp, zl_e, zb1_e, nI_eq, hsum, hS0, c, cd]
  · by_cases hS0 : S = 0
    · subst hS0
      rcases K6 hk5 with rfl | rfl | rfl | rfl | rfl | rfl <;> simp (disch := omega) [zL, rk, rd, nI_add, pk_mul, pk_div, pk_sub, zg_n, nI_clamp, zl_e, zb1_e, nI_eq, hsum, c, cd]
    · rcases K6 hk5 with rfl | rfl | rfl | rfl | rfl | rfl <;> simp (disch := omega) [zL, rk, rd, nI_add, pk_mul, pk_div, pk_sub, zg_n, nI_clamp, zl_e, zb1_e, nI_eq, hsum, hS0, c, cd]
theorem Rw.other {B nt ng d nm : Nat} {book : Nat → Int32} {things gifts days : Int32} {size weight sound harm in_ kind owner empty room told gate ear scale lost watch : Nat → Int32} {moments : Int32} {kept : Nat → Int32} (h : Bk B book nt ng d nm) (r : Rw things gifts days size weight sound harm in_ kind owner empty room told gate ear scale lost watch moments kept book nt ng nm) {g : Nat} (hg : g < ng) : f4_otherCity owner (nI g) = some (nI (othN book g)) := by
  obtain ⟨-, ho, ho1⟩ := h.oth hg
  have hn2 := h.1.2.1
  have ro := (r.2.2.1 g hg).2.2.2.2
  rw [ho] at ro
  unfold f4_otherCity othN
  generalize nN (book (68 + g)) = K at ro ho1 ⊢
  simp (disch := omega) [zL, ro, zg_n, nI_clamp, pk_sub, zl_e]
theorem Rw.isHeard {B nt ng d nm : Nat} {book : Nat → Int32} {things gifts days : Int32} {size weight sound harm in_ kind owner empty room told gate ear scale lost watch : Nat → Int32} {moments : Int32} {kept : Nat → Int32} (h : Bk B book nt ng d nm) (r : Rw things gifts days size weight sound harm in_ kind owner empty room told gate ear scale lost watch moments kept book nt ng nm) {g S : Nat} (hg : g < ng) (hS : S < 2 ^ nt) : f4_isHeard sound kind owner ear (nI g) (nI S) = some (bI (hrd book nt g S)) := by
  have h1 := r.sounds h hg hS
  have h2 := r.other h hg
  obtain ⟨ho, -, -⟩ := h.oth hg
  have hs := h.sle (g := g) (S := S)
  have re := (r.2.2.2.1 _ ho).2.1
  obtain ⟨-, -, -, -, -, hc, -⟩ := h
  obtain ⟨-, ⟨he, he5⟩, -⟩ := hc _ ho
  rw [he] at re
  unfold f4_isHeard hrd
  generalize othN book g = c at h2 ho re he5 ⊢
  generalize nN (book (74 + 3 * c + 1)) = E at re he5 ⊢
  generalize sndN book nt g S = X at h1 hs ⊢
  by_cases hx : E ≤ X
  · have hx' : ¬ X < E := by omega
    simp (disch := omega) [zL, h1, h2, re, zg_n, nI_clamp, zb1_e, nI_ltI, hx, hx', bI]
  · have hx' : X < E := by omega
    simp (disch := omega) [zL, h1, h2, re, zg_n, nI_clamp, zb1_e, nI_ltI, hx, hx', bI]
theorem Rw.isHeavy {B nt ng d nm : Nat} {book : Nat → Int32} {things gifts days : Int32} {size weight sound harm in_ kind owner empty room told gate ear scale lost watch : Nat → Int32} {moments : Int32} {kept : Nat → Int32} (h : Bk B book nt ng d nm) (r : Rw things gifts days size weight sound harm in_ kind owner empty room told gate ear scale lost watch moments kept book nt ng nm) {g S : Nat} (hg : g < ng) (hS : S < 2 ^ nt) : f4_isHeavy days weight kind owner empty scale (nI g) (nI S) = some (bI (hvy book nt d g S)) := by
  have h1 := r.weighs h hg hS
  have h2 := r.other h hg
  obtain ⟨ho, -, -⟩ := h.oth hg
  have hs := h.wle (S := S) hg
  have re := (r.2.2.2.1 _ ho).2.2.1
  obtain ⟨-, -, -, -, -, hc, -⟩ := h
  obtain ⟨-, -, he, he5⟩ := hc _ ho
  rw [he] at re
  unfold f4_isHeavy hvy
  generalize othN book g = c at h2 ho re he5 ⊢
  generalize nN (book (74 + 3 * c + 2)) = E at re he5 ⊢
  generalize wghN book nt d g S = X at h1 hs ⊢
  by_cases hx : E < X
  · have hx' : ¬ X ≤ E := by omega
    simp (disch := omega) [zL, h1, h2, re, zg_n, nI_clamp, zb1_e, nI_leI, hx, hx', bI]
  · have hx' : X ≤ E := by omega
    simp (disch := omega) [zL, h1, h2, re, zg_n, nI_clamp, zb1_e, nI_leI, hx, hx', bI]
theorem Rw.fits {B nt ng d nm : Nat} {book : Nat → Int32} {things gifts days : Int32} {size weight sound harm in_ kind owner empty room told gate ear scale lost watch : Nat → Int32} {moments : Int32} {kept : Nat → Int32} (h : Bk B book nt ng d nm) (r : Rw things gifts days size weight sound harm in_ kind owner empty room told gate ear scale lost watch moments kept book nt ng nm) {g : Nat} (hg : g < ng) : f4_fitsGate owner room gate (nI g) = some (bI (fit book g)) := by
  have h2 := r.other h hg
  obtain ⟨ho, -, -⟩ := h.oth hg
  have hn2 := h.1.2.1
  have re := (r.2.2.2.1 _ ho).1
  have rr := (r.2.2.1 g hg).2.2.1
  obtain ⟨-, -, -, -, hgi, hc, -⟩ := h
  obtain ⟨⟨he, he5⟩, -⟩ := hc _ ho
  obtain ⟨-, -, ⟨hr, hr5⟩, -⟩ := hgi g hg
  rw [he] at re
  rw [hr] at rr
  unfold f4_fitsGate fit
  generalize othN book g = c at h2 ho re he5 ⊢
  generalize nN (book (74 + 3 * c)) = E at re he5 ⊢
  generalize nN (book (56 + g)) = R at rr hr5 ⊢
  by_cases hx : R ≤ E
  · have hx' : ¬ E < R := by omega
    simp (disch := omega) [zL, h2, re, rr, zg_n, nI_clamp, zb1_e, nI_ltI, hx, hx', bI]
  · have hx' : E < R := by omega
    simp (disch := omega) [zL, h2, re, rr, zg_n, nI_clamp, zb1_e, nI_ltI, hx, hx', bI]
theorem Rw.passes {B nt ng d nm : Nat} {book : Nat → Int32} {things gifts days : Int32} {size weight sound harm in_ kind owner empty room told gate ear scale lost watch : Nat → Int32} {moments : Int32} {kept : Nat → Int32} (h : Bk B book nt ng d nm) (r : Rw things gifts days size weight sound harm in_ kind owner empty room told gate ear scale lost watch moments kept book nt ng nm) {g S : Nat} (hg : g < ng) (hS : S < 2 ^ nt) : f4_passes days weight sound kind owner empty room gate ear scale (nI g) (nI S) = some (bI (pss book nt d g S)) := by
  have h1 := r.isHeard h hg hS
  have h2 := r.isHeavy h hg hS
  have h3 := r.fits h hg
  unfold f4_passes pss
  cases hb1 : hrd book nt g S <;> cases hb2 : hvy book nt d g S <;> cases hb3 : fit book g <;> simp (disch := omega) [zL, h1, h2, h3, zb1_e, nI_eq, bI, hb1, hb2, hb3]
theorem Rw.loss {B nt ng d nm : Nat} {book : Nat → Int32} {things gifts days : Int32} {size weight sound harm in_ kind owner empty room told gate ear scale lost watch : Nat → Int32} {moments : Int32} {kept : Nat → Int32} (h : Bk B book nt ng d nm) (r : Rw things gifts days size weight sound harm in_ kind owner empty room told gate ear scale lost watch moments kept book nt ng nm) {g S hr : Nat} (hg : g < ng) (hS : S < 2 ^ nt) (hh : hr < 6) : f4_loss days harm kind owner watch (nI g) (nI S) (nI hr) = some (nI (lssN book nt d g S hr)) := by
  have h1 := r.harms h hg hS
  have h2 := r.other h hg
  have h3 := h.hle (g := g) (S := S)
  obtain ⟨ho, -, -⟩ := h.oth hg
  have re := r.2.2.2.2.1 (6 * othN book g + hr) (by omega)
  obtain ⟨-, -, -, -, -, -, hw, -⟩ := h
  obtain ⟨he, he5⟩ := hw (6 * othN book g + hr) (by omega)
  rw [he] at re
  unfold f4_loss lssN
  rw [← Nat.add_assoc] at re he5
  generalize othN book g = c at h2 ho re he5 ⊢
  generalize nN (book (80 + 6 * c + hr)) = E at re he5 ⊢
  generalize hrmN book nt d g S = X at h1 h3 ⊢
  have hcm : c * 6 + hr = 6 * c + hr := by omega
  rcases Nat.lt_or_ge E X with hx | hx
  · have hp : 0 < X - E := by omega
    simp (disch := omega) [zL, h1, h2, hcm, re, nI_add, pk_mul, zg_n, nI_clamp, zb1_e, zl_e, pk_sub, nI_ltI, hp]
  · have e0 : X - E = 0 := by omega
    have hneg : ¬ (nI 0 < nI X - nI E) := by
      rw [z_ltI, pk_sub_toInt (by omega) (by omega)]
      show ¬ (0 : Int) < _
      omega
    simp (disch := omega) [zL, h1, h2, hcm, re, nI_add, pk_mul, zg_n, nI_clamp, zb1_e, zl_e, hneg, e0]
theorem Rw.hasRoom {B nt ng d nm : Nat} {book : Nat → Int32} {things gifts days : Int32} {size weight sound harm in_ kind owner empty room told gate ear scale lost watch : Nat → Int32} {moments : Int32} {kept : Nat → Int32} (h : Bk B book nt ng d nm) (r : Rw things gifts days size weight sound harm in_ kind owner empty room told gate ear scale lost watch moments kept book nt ng nm) {g S : Nat} (hg : g < ng) (hS : S < 2 ^ nt) : f4_hasRoom size room (nI g) (nI S) = some (bI (decide (sumV (thV book 0) S nt ≤ nN (book (56 + g))))) := by
  have h1 := r.sum0 h hS
  have hle := h.sumle (w := 0) (S := S) (by decide)
  have hn2 := h.1.2.1
  have rr := (r.2.2.1 g hg).2.2.1
  obtain ⟨-, -, -, -, hgi, -⟩ := h
  obtain ⟨-, -, ⟨hr, hr5⟩, -⟩ := hgi g hg
  rw [hr] at rr
  unfold f4_hasRoom
  generalize nN (book (56 + g)) = R at rr hr5 ⊢
  by_cases hx : sumV (thV book 0) S nt ≤ R
  · have hx' : ¬ R < sumV (thV book 0) S nt := by omega
    simp (disch := omega) [zL, h1, rr, zg_n, nI_clamp, zb1_e, nI_ltI, hx, hx', bI]
  · have hx' : R < sumV (thV book 0) S nt := by omega
    simp (disch := omega) [zL, h1, rr, zg_n, nI_clamp, zb1_e, nI_ltI, hx, hx', bI]
