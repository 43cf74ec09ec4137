/-! ===== pure side 12: remember on both sides ===== -/
theorem zgc_n {α : Type} {s e n n0 n1 : Nat} {k : Option α} (h0 : n0 < 1000) (h1 : s + n ≤ n0) (h2 : e + n ≤ n1) (h3 : n1 < 1000) : zgc (nI s) (nI e) (nI n) n0 n1 k = k := by
  unfold zgc
  rw [nI_clamp (by omega), nI_clamp (by omega), nI_clamp (by omega), if_neg]
  have a1 := nI_pos (n := s) (by omega)
  have a2 := nI_pos (n := e) (by omega)
  have a3 := nI_pos (n := n) (by omega)
  rintro (h | h | h | h | h)
  · exact a1 h
  · exact a2 h
  · exact a3 h
  · omega
  · omega
def kpA (kept : Nat → Int32) (nm : Nat) : Nat → Int32 := if nm = 8 then va_cpy kept kept 17 0 119 else kept
def kpB (k days : Nat → Int32) (in_ owner lost : Nat → Int32) (n1 : Nat) : Nat → Int32 :=
  upd (va_cpy lost (va_cpy in_ (va_cpy owner k 0 (17 * n1) 6) 0 (17 * n1 + 6) 8) 0 (17 * n1 + 14) 2) (17 * n1 + 16) (days 0)
theorem v4_remember {days : Int32} {in_ owner lost kept : Nat → Int32} {nm : Nat} (hn : nm ≤ 8) : f4_remember days in_ owner lost (nI nm) kept = some (nI (rmN nm + 1), kpB (kpA kept nm) (fun _ => days) in_ owner lost (rmN nm)) := by
  unfold f4_remember f2_keep
  have step1 : (if nI nm < (8 : Int32) then some (nI nm, kept) else zgc (17 : Int32) (0 : Int32) (119 : Int32) 136 136 (some ((7 : Int32), (va_cpy kept kept 17 0 119)))) = some (nI (rmN nm), kpA kept nm) := by
    unfold rmN kpA
    by_cases c : nm = 8
    · subst c
      have e : ¬ nI 8 < (8 : Int32) := nI_nlt (Nat.le_refl _) (by decide)
      rw [if_neg e, if_pos rfl, if_pos rfl]
      exact zgc_n (s := 17) (e := 0) (n := 119) (by decide) (by decide) (by decide) (by decide)
    · have e : nI nm < (8 : Int32) := nI_lt (b := 8) (by omega) (by decide)
      rw [if_pos e, if_neg c, if_neg c]
  have hN : rmN nm ≤ 7 := by unfold rmN; split <;> omega
  rw [step1, zb2_e]
  generalize kpA kept nm = b
  generalize rmN nm = n1 at hN
  have e17 : n1 * 17 = 17 * n1 := Nat.mul_comm _ _
  simp (disch := omega) only [zL, zl_e, zb2_e, pk_mul, nI_add, e17, zgc_n, zg_n, nI_clamp]
  rfl
def bpst (B : Nat) (book : Nat → Int32) (nt ng nm : Nat) : Prop := ∀ k, k < nm → (∀ t, t < nt → inOk (book (94 + 17 * k + t)) ng) ∧ (∀ g, g < ng → sml (book (94 + 17 * k + 8 + g)) 1) ∧ sml (book (94 + 17 * k + 14)) B
def cpst (kept book : Nat → Int32) (nt ng nm : Nat) : Prop := ∀ k, k < nm → (∀ t, t < nt → kept (17 * k + 6 + t) = book (94 + 17 * k + t)) ∧ (∀ g, g < ng → kept (17 * k + g) = book (94 + 17 * k + 8 + g)) ∧ kept (17 * k + 14) = book (94 + 17 * k + 15) ∧ kept (17 * k + 15) = book (94 + 17 * k + 16) ∧ kept (17 * k + 16) = book (94 + 17 * k + 14)
theorem rmA_lo {book : Nat → Int32} {nm k : Nat} (h : k < 94) (h3 : k ≠ 3) : rmA book nm k = book k := by
  unfold rmA
  split
  · rw [pk_un h3, pk_cpy_out (by omega)]
  · rfl
theorem rmA_hi {book : Nat → Int32} {nm k j : Nat} (hn : nm ≤ 8) (hk : k < rmN nm) (hj : j < 17) : rmA book nm (94 + 17 * k + j) = book (94 + 17 * (if nm = 8 then k + 1 else k) + j) := by
  unfold rmN at hk
  unfold rmA
  by_cases c : nm = 8
  · rw [if_pos c] at hk
    rw [if_pos c, if_pos c, pk_un (by omega), pk_cpy_in (by omega) (by omega)]
    congr 1
    omega
  · rw [if_neg c, if_neg c]
theorem kpA_hi {kept : Nat → Int32} {nm k j : Nat} (hn : nm ≤ 8) (hk : k < rmN nm) (hj : j < 17) : kpA kept nm (17 * k + j) = kept (17 * (if nm = 8 then k + 1 else k) + j) := by
  unfold rmN at hk
  unfold kpA
  by_cases c : nm = 8
  · rw [if_pos c] at hk
    rw [if_pos c, if_pos c, pk_cpy_in (by omega) (by omega)]
    congr 1
    omega
  · rw [if_neg c, if_neg c]
theorem rmB_lo {b : Nat → Int32} {n1 k : Nat} (h : k < 94) (h3 : k ≠ 3) : rmB b n1 k = b k := by
  unfold rmB
  rw [pk_un h3, pk_un (by omega), pk_un (by omega), pk_un (by omega), pk_cpy_out (by omega), pk_cpy_out (by omega)]
theorem rmB_old {b : Nat → Int32} {n1 k j : Nat} (hk : k < n1) (hj : j < 17) : rmB b n1 (94 + 17 * k + j) = b (94 + 17 * k + j) := by
  unfold rmB
  rw [pk_un (by omega), pk_un (by omega), pk_un (by omega), pk_un (by omega), pk_cpy_out (by omega), pk_cpy_out (by omega)]
theorem rmB_in {b : Nat → Int32} {n1 t : Nat} (ht : t < 8) : rmB b n1 (94 + 17 * n1 + t) = b (36 + t) := by
  unfold rmB
  rw [pk_un (by omega), pk_un (by omega), pk_un (by omega), pk_un (by omega), pk_cpy_out (by omega), pk_cpy_in (by omega) (by omega)]
  congr 1
  omega
theorem rmB_has {b : Nat → Int32} {n1 g : Nat} (hg : g < 6) : rmB b n1 (94 + 17 * n1 + 8 + g) = b (68 + g) := by
  unfold rmB
  rw [pk_un (by omega), pk_un (by omega), pk_un (by omega), pk_un (by omega), pk_cpy_in (by omega) (by omega), pk_cpy_out (by omega)]
  congr 1
  omega
theorem rmB_d {b : Nat → Int32} {n1 : Nat} : rmB b n1 (94 + 17 * n1 + 14) = b 2 ∧ rmB b n1 (94 + 17 * n1 + 15) = b 92 ∧ rmB b n1 (94 + 17 * n1 + 16) = b 93 ∧ rmB b n1 3 = nI (n1 + 1) := by
  unfold rmB
  refine ⟨?_, ?_, ?_, ?_⟩
  · rw [pk_un (by omega), pk_un (by omega), pk_un (by omega), pk_us]
  · rw [pk_un (by omega), pk_un (by omega), pk_us]
  · rw [pk_un (by omega), pk_us]
  · rw [pk_us]
theorem kpB_old {b f in_ owner lost : Nat → Int32} {n1 k j : Nat} (hk : k < n1) (hj : j < 17) : kpB b f in_ owner lost n1 (17 * k + j) = b (17 * k + j) := by
  unfold kpB
  rw [pk_un (by omega), pk_cpy_out (by omega), pk_cpy_out (by omega), pk_cpy_out (by omega)]
theorem kpB_has {b f in_ owner lost : Nat → Int32} {n1 g : Nat} (hg : g < 6) : kpB b f in_ owner lost n1 (17 * n1 + g) = owner g := by
  unfold kpB
  rw [pk_un (by omega), pk_cpy_out (by omega), pk_cpy_out (by omega), pk_cpy_in (by omega) (by omega)]
  congr 1
  omega
theorem kpB_in {b f in_ owner lost : Nat → Int32} {n1 t : Nat} (ht : t < 8) : kpB b f in_ owner lost n1 (17 * n1 + 6 + t) = in_ t := by
  unfold kpB
  rw [pk_un (by omega), pk_cpy_out (by omega), pk_cpy_in (by omega) (by omega)]
  congr 1
  omega
theorem kpB_l {b f in_ owner lost : Nat → Int32} {n1 : Nat} : kpB b f in_ owner lost n1 (17 * n1 + 14) = lost 0 ∧ kpB b f in_ owner lost n1 (17 * n1 + 15) = lost 1 ∧ kpB b f in_ owner lost n1 (17 * n1 + 16) = f 0 := by
  unfold kpB
  refine ⟨?_, ?_, ?_⟩
  · rw [pk_un (by omega), pk_cpy_in (by omega) (by omega)]
    congr 1
    omega
  · rw [pk_un (by omega), pk_cpy_in (by omega) (by omega)]
    congr 1
    omega
  · rw [pk_us]
theorem e_rem {B nt ng d nm : Nat} {book : Nat → Int32} {things gifts days : Int32} {size weight sound harm in_ kind owner empty room told gate ear scale lost watch : Nat → Int32} {moments : Int32} {kept : Nat → Int32} (h : Bk B book nt ng d nm) (r : Rw things gifts days size weight sound harm in_ kind owner empty room told gate ear scale lost watch moments kept book nt ng nm) : ∃ (moments' : Int32) (kept' : Nat → Int32) (book' : Nat → Int32) (nm' : Nat), f4_remember days in_ owner lost moments kept = some (moments', kept') ∧ f6_remembers book = some book' ∧
    Bk B book' nt ng d nm' ∧ Rw things gifts days size weight sound harm in_ kind owner empty room told gate ear scale lost watch moments' kept' book' nt ng nm' ∧ (∀ k, k < 94 → k ≠ 3 → book' k = book k) := by
  have hrem := h.remembers
  obtain ⟨⟨hn1, hn2, hn3, hd, hB⟩, ⟨h0, h1, h2, h3⟩, hth, hin, hgi, hci, hwa, hpa⟩ := id h
  obtain ⟨⟨r0, r1, r2, r3⟩, rt, rgg, rc, rw_, rp⟩ := id r
  have hrem4 := v4_remember (days := days) (in_ := in_) (owner := owner) (lost := lost) (kept := kept) hn3
  have hN : rmN nm ≤ 7 := by unfold rmN; split <;> omega
  have hN2 : ∀ k, k < rmN nm → (if nm = 8 then k + 1 else k) < nm := fun k hk => by
    unfold rmN at hk
    split <;> split at hk <;> omega
  have lo : ∀ k, k < 94 → k ≠ 3 → rmB (rmA book nm) (rmN nm) k = book k := fun k hk h3 => by rw [rmB_lo hk h3, rmA_lo hk h3]
  rw [r3, h3]
  refine ⟨_, _, _, rmN nm + 1, hrem4, hrem, ?_, ?_, lo⟩
  · refine ⟨⟨hn1, hn2, by omega, hd, hB⟩, ⟨?_, ?_, ?_, rmB_d.2.2.2⟩, ?_, ?_, ?_, ?_, ?_, ?_⟩
    · rw [lo 0 (by omega) (by omega), h0]
    · rw [lo 1 (by omega) (by omega), h1]
    · rw [lo 2 (by omega) (by omega), h2]
    · intro t ht w hw
      rw [lo _ (by omega) (by omega)]
      exact hth t ht w hw
    · intro t ht
      rw [lo _ (by omega) (by omega)]
      exact hin t ht
    · intro g hg
      rw [lo _ (by omega) (by omega), lo _ (by omega) (by omega), lo _ (by omega) (by omega), lo _ (by omega) (by omega), lo _ (by omega) (by omega)]
      exact hgi g hg
    · intro g hg
      rw [lo _ (by omega) (by omega), lo _ (by omega) (by omega), lo _ (by omega) (by omega)]
      exact hci g hg
    · intro g hg
      rw [lo _ (by omega) (by omega)]
      exact hwa g hg
    · intro k hk
      rcases Nat.lt_or_ge k (rmN nm) with g | g
      · have hp := hpa _ (hN2 k g)
        refine ⟨fun t ht => ?_, fun g' hg' => ?_, ?_⟩
        · rw [rmB_old g (by omega), rmA_hi hn3 g (by omega)]
          exact hp.1 t ht
        · rw [Nat.add_assoc, rmB_old g (by omega), rmA_hi hn3 g (by omega), ← Nat.add_assoc]
          exact hp.2.1 g' hg'
        · rw [rmB_old g (by omega), rmA_hi hn3 g (by omega)]
          exact hp.2.2
      · have e : k = rmN nm := by omega
        subst e
        refine ⟨fun t ht => ?_, fun g' hg' => ?_, ?_⟩
        · rw [rmB_in (by omega), rmA_lo (by omega) (by omega)]
          exact hin t ht
        · rw [rmB_has (by omega), rmA_lo (by omega) (by omega)]
          exact (hgi g' hg').2.2.2.2
        · rw [rmB_d.1, rmA_lo (by omega) (by omega), h2]
          exact sml_of hd (by omega)
  · refine ⟨⟨?_, ?_, ?_, rmB_d.2.2.2.symm⟩, ?_, ?_, ?_, ?_, ?_⟩
    · rw [lo 0 (by omega) (by omega), r0]
    · rw [lo 1 (by omega) (by omega), r1]
    · rw [lo 2 (by omega) (by omega), r2]
    · intro t ht
      rw [lo _ (by omega) (by omega), lo _ (by omega) (by omega), lo _ (by omega) (by omega), lo _ (by omega) (by omega), lo _ (by omega) (by omega)]
      exact rt t ht
    · intro g hg
      rw [lo _ (by omega) (by omega), lo _ (by omega) (by omega), lo _ (by omega) (by omega), lo _ (by omega) (by omega), lo _ (by omega) (by omega)]
      exact rgg g hg
    · intro g hg
      rw [lo _ (by omega) (by omega), lo _ (by omega) (by omega), lo _ (by omega) (by omega), lo _ (by omega) (by omega)]
      exact rc g hg
    · intro g hg
      rw [lo _ (by omega) (by omega)]
      exact rw_ g hg
    · intro k hk
      rcases Nat.lt_or_ge k (rmN nm) with g | g
      · have hp := rp _ (hN2 k g)
        refine ⟨fun t ht => ?_, fun g' hg' => ?_, ?_, ?_, ?_⟩
        · rw [Nat.add_assoc, kpB_old g (by omega), kpA_hi hn3 g (by omega), rmB_old g (by omega), rmA_hi hn3 g (by omega), ← Nat.add_assoc]
          exact hp.1 t ht
        · rw [kpB_old g (by omega), kpA_hi hn3 g (by omega), Nat.add_assoc (94 + 17 * k), rmB_old g (by omega), rmA_hi hn3 g (by omega), ← Nat.add_assoc]
          exact hp.2.1 g' hg'
        · rw [kpB_old g (by omega), kpA_hi hn3 g (by omega), rmB_old g (by omega), rmA_hi hn3 g (by omega)]
          exact hp.2.2.1
        · rw [kpB_old g (by omega), kpA_hi hn3 g (by omega), rmB_old g (by omega), rmA_hi hn3 g (by omega)]
          exact hp.2.2.2.1
        · rw [kpB_old g (by omega), kpA_hi hn3 g (by omega), rmB_old g (by omega), rmA_hi hn3 g (by omega)]
          exact hp.2.2.2.2
      · have e : k = rmN nm := by omega
        subst e
        refine ⟨fun t ht => ?_, fun g' hg' => ?_, ?_, ?_, ?_⟩
        · rw [kpB_in (by omega), rmB_in (by omega), rmA_lo (by omega) (by omega)]
          exact (rt t ht).2.2.2.2
        · rw [kpB_has (by omega), rmB_has (by omega), rmA_lo (by omega) (by omega)]
          exact (rgg g' hg').2.2.2.2
        · rw [kpB_l.1, rmB_d.2.1, rmA_lo (by omega) (by omega)]
          exact (rc 0 (by omega)).2.2.2
        · rw [kpB_l.2.1, rmB_d.2.2.1, rmA_lo (by omega) (by omega)]
          exact (rc 1 (by omega)).2.2.2
        · rw [kpB_l.2.2, rmB_d.1, rmA_lo (by omega) (by omega)]
          exact r2
