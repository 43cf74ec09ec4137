/-! ===== pure side 33: years ===== -/
def nxN (s : Nat) : Nat := (s * 1103515245 + 12345) % 2147483648
theorem nxN_lt (s : Nat) : nxN s < 2147483648 := Nat.mod_lt _ (by decide)
theorem v5_next {s : Nat} (hs : s < 2147483648) : f5_nextOfSeed (lN s) = some (lN (nxN s)) := by
  unfold f5_nextOfSeed nxN
  rw [show (1103515245 : Int64) = lN 1103515245 from rfl, show (12345 : Int64) = lN 12345 from rfl, show (2147483648 : Int64) = lN 2147483648 from rfl, zl_e, zl_e, lN_mul, lN_add, pk_lRem (by omega) (by omega) (by omega)]
theorem v6_yr53 (book aside : Nat → Int32) (k : (Nat → Int32) → Option (Int32 × (Nat → Int32) × (Nat → Int32) × (Nat → Int32))) : ∀ (m t n : Nat), t + m = 230 → m < n → L6_years_53 k book n (nI t) (va_cpy book aside 0 0 t) = k (va_cpy book aside 0 0 230) := by
  intro m
  induction m with
  | zero =>
    intro t n ht hm
    obtain ⟨n, rfl⟩ : ∃ m, n = m + 1 := ⟨n - 1, by omega⟩
    have e : t = 230 := by omega
    subst e
    rw [L6_years_53, if_pos (by decide)]
  | succ m ih =>
    intro t n ht hm
    obtain ⟨n, rfl⟩ : ∃ m, n = m + 1 := ⟨n - 1, by omega⟩
    have i1 := ih (t + 1) n (by omega) (by omega)
    have st := cpy_step2 book aside (s := 0) (dd := 0) (t := t)
    rw [Nat.zero_add] at st
    rw [L6_years_53, if_neg (show ¬ (230 : Int32) ≤ nI t from nI_ge (b := 230) (by omega) (by omega)), zg_n (by omega) (by decide), zl_e, zg_n (by omega) (by decide), nI_clamp (by omega), st, nI_1]
    exact i1
theorem v6_yr181 (book aside : Nat → Int32) (k : (Nat → Int32) → Option (Int32 × (Nat → Int32) × (Nat → Int32) × (Nat → Int32))) : ∀ (m t n : Nat), t + m = 230 → m < n → L6_years_181 k aside n (nI t) (va_cpy aside book 0 0 t) = k (va_cpy aside book 0 0 230) := by
  intro m
  induction m with
  | zero =>
    intro t n ht hm
    obtain ⟨n, rfl⟩ : ∃ m, n = m + 1 := ⟨n - 1, by omega⟩
    have e : t = 230 := by omega
    subst e
    rw [L6_years_181, if_pos (by decide)]
  | succ m ih =>
    intro t n ht hm
    obtain ⟨n, rfl⟩ : ∃ m, n = m + 1 := ⟨n - 1, by omega⟩
    have i1 := ih (t + 1) n (by omega) (by omega)
    have st := cpy_step2 aside book (s := 0) (dd := 0) (t := t)
    rw [Nat.zero_add] at st
    rw [L6_years_181, if_neg (show ¬ (230 : Int32) ≤ nI t from nI_ge (b := 230) (by omega) (by omega)), zg_n (by omega) (by decide), zl_e, zg_n (by omega) (by decide), nI_clamp (by omega), st, nI_1]
    exact i1
theorem v6_yr53E (book aside : Nat → Int32) (k : (Nat → Int32) → Option (Int32 × (Nat → Int32) × (Nat → Int32) × (Nat → Int32))) : L6_years_53 k book FU (0 : Int32) aside = k (va_cpy book aside 0 0 230) := by
  have e := v6_yr53 book aside k 230 0 FU (by omega) (by unfold FU; omega)
  rw [cpy_00] at e
  exact e
theorem v6_yr181E (book aside : Nat → Int32) (k : (Nat → Int32) → Option (Int32 × (Nat → Int32) × (Nat → Int32) × (Nat → Int32))) : L6_years_181 k aside FU (0 : Int32) book = k (va_cpy aside book 0 0 230) := by
  have e := v6_yr181 book aside k 230 0 FU (by omega) (by unfold FU; omega)
  rw [cpy_00] at e
  exact e
theorem y_sim {B nt ng d nm : Nat} {book : Nat → Int32} {things gifts days : Int32} {size weight sound harm in_ kind owner empty room told gate ear scale lost watch : Nat → Int32} {moments : Int32} {kept : Nat → Int32} (h : Bk B book nt ng d nm) (r : Rw things gifts days size weight sound harm in_ kind owner empty room told gate ear scale lost watch moments kept book nt ng nm) (hng : 0 < ng) {N : Nat} (hN : N ≤ 90) : ∀ (m t n n' s d : Nat) (days : Int32) (in_ owner lost book : Nat → Int32), t + m = N → m < n → m < n' → s < 2147483648 → d + m ≤ B → Bk B book nt ng d nm → Rw things gifts days size weight sound harm in_ kind owner empty room told gate ear scale lost watch moments kept book nt ng nm →
    ∃ (days' : Int32) (in' owner' lost' book' : Nat → Int32) (d' : Nat), Bk B book' nt ng d' nm ∧ Rw things gifts days' size weight sound harm in' kind owner' empty room told gate ear scale lost' watch moments kept book' nt ng nm ∧
      (∀ k, L5_years_69 k (nI ng) (nI N) things weight sound harm kind empty room gate ear scale watch n (lN s) (nI t) days in_ owner lost = k days' in' owner' lost') ∧ (∀ k, L6_years_88 k (nI N) n' (lN s) (nI t) book = k book') := by
  have hn2 := h.1.2.1
  clear h r
  clear book days in_ owner lost d
  intro m
  induction m with
  | zero =>
    intro t n n' s d days in_ owner lost book ht hm hm' hs hd h r
    obtain ⟨n, rfl⟩ : ∃ m, n = m + 1 := ⟨n - 1, by omega⟩
    obtain ⟨n', rfl⟩ : ∃ m, n' = m + 1 := ⟨n' - 1, by omega⟩
    refine ⟨days, in_, owner, lost, book, d, h, r, fun k => ?_, fun k => ?_⟩
    · rw [L5_years_69, if_pos (nI_le (by omega) (by omega))]
    · rw [L6_years_88, if_pos (nI_le (by omega) (by omega))]
  | succ m ih =>
    intro t n n' s d days in_ owner lost book ht hm hm' hs hd h r
    obtain ⟨n, rfl⟩ : ∃ m, n = m + 1 := ⟨n - 1, by omega⟩
    obtain ⟨n', rfl⟩ : ∃ m, n' = m + 1 := ⟨n' - 1, by omega⟩
    have l1 := nxN_lt s
    have l2 := nxN_lt (nxN s)
    obtain ⟨g, hg⟩ : ∃ g, nxN s / 65536 % ng = g := ⟨_, rfl⟩
    obtain ⟨hr, hhr⟩ : ∃ hr, nxN (nxN s) / 65536 % 6 = hr := ⟨_, rfl⟩
    have hg1 : g < ng := by rw [← hg]; exact Nat.mod_lt _ hng
    have hr1 : hr < 6 := by omega
    obtain ⟨ans, days1, in1, owner1, lost1, book1, e1, e2, h1, r1, _⟩ := e_dlv h r hg1 hr1 (by omega)
    obtain ⟨days', in', owner', lost', book', d', h2, r2, f1, f2⟩ := ih (t + 1) n n' (nxN (nxN s)) (d + 1) days1 in1 owner1 lost1 book1 (by omega) (by omega) (by omega) l2 (by omega) h1 r1
    have z1 : ¬ lN ng = 0 := fun e => absurd ((pk_lEQ (b := 0) (by omega) (by omega)).mp e) (by omega)
    refine ⟨days', in', owner', lost', book', d', h2, r2, fun k => ?_, fun k => ?_⟩
    · rw [L5_years_69, if_neg (nI_ge (by omega) (by omega)), v5_next hs, zb1_e, nI_l (by omega), zdl_e z1, show (65536 : Int64) = lN 65536 from rfl, pk_lDiv (by omega) (by omega) (by omega), pk_lRem (by omega) (by omega) (by omega), lN_i, hg, zl_e, v5_next l1, zb1_e, pk_lDiv (by omega) (by omega) (by omega), zl_e, show (6 : Int64) = lN 6 from rfl, pk_lRem (by omega) (by omega) (by omega), lN_i, hhr, zl_e, e1, zb5_e, nI_1]
      exact f1 k
    · have nx : ∀ s, s < 2147483648 → (lN s * (1103515245 : Int64) + (12345 : Int64)) - (lN s * (1103515245 : Int64) + (12345 : Int64)) / (2147483648 : Int64) * (2147483648 : Int64) = lN (nxN s) := fun s hs => by
        rw [show (1103515245 : Int64) = lN 1103515245 from rfl, show (12345 : Int64) = lN 12345 from rfl, show (2147483648 : Int64) = lN 2147483648 from rfl, lN_mul, lN_add, pk_lRem (by omega) (by omega) (by omega)]
        rfl
      rw [L6_years_88, if_neg (nI_ge (by omega) (by omega)), zl_e, zl_e, nx s hs, zl_e, h.2.1.2.1, nI_l (by omega), zdl_e z1, zl_e, zl_e, zl_e, nx _ l1, show (65536 : Int64) = lN 65536 from rfl, pk_lDiv (by omega) (by omega) (by omega), pk_lDiv (by omega) (by omega) (by omega), pk_lRem (a := nxN s / 65536) (by omega) (by omega) (by omega), lN_i, hg, zl_e, show (6 : Int64) = lN 6 from rfl, pk_lRem (by omega) (by omega) (by omega), lN_i, hhr, e2, zb2_e, nI_1]
      exact f2 k

theorem e_years {B nt ng d nm : Nat} {book : Nat → Int32} {things gifts days : Int32} {size weight sound harm in_ kind owner empty room told gate ear scale lost watch : Nat → Int32} {moments : Int32} {kept : Nat → Int32} (h : Bk B book nt ng d nm) (r : Rw things gifts days size weight sound harm in_ kind owner empty room told gate ear scale lost watch moments kept book nt ng nm) (hB : B + 90 ≤ 1000) {t_things t_gifts t_days : Int32} {t_size t_weight t_sound t_harm t_in_ t_kind t_owner t_empty t_room t_told t_gate t_ear t_scale t_lost t_watch : Nat → Int32} {t_moments : Int32} {t_kept : Nat → Int32} (rf aside : Nat → Int32) (a b c : Int32) :
    ∃ (ans : Int32) (rf' : Nat → Int32) (t_things' t_gifts' t_days' : Int32) (t_size' t_weight' t_sound' t_harm' t_in_' t_kind' t_owner' t_empty' t_room' t_told' t_gate' t_ear' t_scale' t_lost' t_watch' : Nat → Int32) (t_moments' : Int32) (t_kept' : Nat → Int32) (book' aside' : Nat → Int32),
      f5_years (rf 0) (rf 1) (rf 2) things gifts days size weight sound harm in_ kind owner empty room told gate ear scale lost watch moments kept t_things t_gifts t_days t_size t_weight t_sound t_harm t_in_ t_kind t_owner t_empty t_room t_told t_gate t_ear t_scale t_lost t_watch t_moments t_kept a b c = some (ans, rf' 0, rf' 1, rf' 2, t_things', t_gifts', t_days', t_size', t_weight', t_sound', t_harm', t_in_', t_kind', t_owner', t_empty', t_room', t_told', t_gate', t_ear', t_scale', t_lost', t_watch', t_moments', t_kept') ∧ f6_years 0 book aside rf a b c = some (ans, book', aside', rf') ∧
      Bk B book' nt ng d nm ∧ Rw things gifts days size weight sound harm in_ kind owner empty room told gate ear scale lost watch moments kept book' nt ng nm := by
  have hn2 := h.1.2.1
  have w3 : f5_within b 0 90 = some (bI (rg b 0 90)) := v5w (by decide) (by decide)
  have m3 : f6_in b.toInt64 0 90 = some (bI (rg b 0 90)) := v6i (by decide) (by decide)
  have w4 : f5_within c 0 999999 = some (bI (rg c 0 999999)) := v5w (by decide) (by decide)
  have m4 : f6_in c.toInt64 0 999999 = some (bI (rg c 0 999999)) := v6i (by decide) (by decide)
  by_cases k1 : rg a 0 1 = true ∧ rg b 0 90 = true ∧ rg c 0 999999 = true
  · obtain ⟨c1, c2, c3⟩ := k1
    obtain ⟨i, _, hi, rfl⟩ := rg_of (by omega) c1
    obtain ⟨N, _, hN, rfl⟩ := rg_of (by omega) c2
    obtain ⟨s, _, hs, rfl⟩ := rg_of (by omega) c3
    have g5 : f5_years (rf 0) (rf 1) (rf 2) things gifts days size weight sound harm in_ kind owner empty room told gate ear scale lost watch moments kept t_things t_gifts t_days t_size t_weight t_sound t_harm t_in_ t_kind t_owner t_empty t_room t_told t_gate t_ear t_scale t_lost t_watch t_moments t_kept (nI i) (nI N) (nI s) = if 0 < gifts then zb20 (f4_copyFrom t_things t_gifts t_days t_size t_weight t_sound t_harm t_in_ t_kind t_owner t_empty t_room t_told t_gate t_ear t_scale t_lost t_watch t_moments t_kept things gifts days size weight sound harm in_ kind owner empty room told gate ear scale lost watch moments kept) (fun u_things u_gifts u_days u_size u_weight u_sound u_harm u_in_ u_kind u_owner u_empty u_room u_told u_gate u_ear u_scale u_lost u_watch u_moments u_kept => L5_years_69 (fun t_days_65 t_in_66 t_owner_67 t_lost_68 => zg (nI i) 2 (zl ((t_lost_68 (nI i).toNatClampNeg)) (fun x70 => some (x70, rf 0, rf 1, rf 2, u_things, u_gifts, t_days_65, u_size, u_weight, u_sound, u_harm, t_in_66, u_kind, t_owner_67, u_empty, u_room, u_told, u_gate, u_ear, u_scale, t_lost_68, u_watch, u_moments, u_kept)))) gifts (nI N) u_things u_weight u_sound u_harm u_kind u_empty u_room u_gate u_ear u_scale u_watch FU (nI s).toInt64 (0 : Int32) u_days u_in_ u_owner u_lost) else zb4 (f5_counted (rf 0) (rf 1) (rf 2) (-3 : Int32)) (fun r71 bads_72 noes_73 fulls_74 => some (r71, bads_72, noes_73, fulls_74, t_things, t_gifts, t_days, t_size, t_weight, t_sound, t_harm, t_in_, t_kind, t_owner, t_empty, t_room, t_told, t_gate, t_ear, t_scale, t_lost, t_watch, t_moments, t_kept)) := by
      unfold f5_years
      rw [v5_isCity, c1, zb1_e, if_neg (by decide), w3, c2, zb1_e, if_neg (by decide), w4, c3, zb1_e, if_neg (by decide)]
      rfl
    have g6 : f6_years 0 book aside rf (nI i) (nI N) (nI s) = if (book 1) = 0 then zb2 (f6_no 0 rf) (fun r53 refused_54 => some (r53, book, aside, refused_54)) else L6_years_53 (fun aside_24 => zl ((nI s).toInt64) (fun x25 => L6_years_88 (fun book_42 => zg ((92 : Int32) + nI i) 230 (zl ((book_42 ((92 : Int32) + nI i).toNatClampNeg)) (fun x44 => L6_years_181 (fun book_52 => some (x44, book_52, aside_24, rf)) aside_24 FU (0 : Int32) book_42))) (nI N) FU x25 (0 : Int32) book)) book FU (0 : Int32) aside := by
      unfold f6_years
      rw [v6_isCity, c1, zb1_e, if_neg (by decide), m3, c2, zb1_e, if_neg (by decide), m4, c3, zb1_e, if_neg (by decide)]
    have rgf : gifts = nI ng := by rw [r.1.2.1, h.2.1.2.1]
    rw [g5, g6, h.2.1.2.1]
    by_cases hg : ng = 0
    · refine ⟨-3, cntd 0 rf (-3), t_things, t_gifts, t_days, t_size, t_weight, t_sound, t_harm, t_in_, t_kind, t_owner, t_empty, t_room, t_told, t_gate, t_ear, t_scale, t_lost, t_watch, t_moments, t_kept, book, aside, ?_, ?_, h, r⟩
      · rw [rgf, hg, if_neg (by decide), v5_counted, zb4_e]
      · rw [hg, if_pos (by decide), v6_no, zb2_e]
    · obtain ⟨size2, weight2, sound2, harm2, in2, kind2, owner2, empty2, room2, told2, gate2, ear2, scale2, lost2, watch2, kept2, e, r3⟩ := e_copy h r t_things t_gifts t_days t_size t_weight t_sound t_harm t_in_ t_kind t_owner t_empty t_room t_told t_gate t_ear t_scale t_lost t_watch t_moments t_kept
      have hdB := h.1.2.2.2
      have h9 := h.mono (B2 := 1000) (by omega) (by omega)
      obtain ⟨days', in', owner', lost', book', d', h2, r2, f1, f2⟩ := y_sim h9 r3 (by omega) hN N 0 FU FU s d days in2 owner2 lost2 book (by omega) (by unfold FU; omega) (by unfold FU; omega) (by omega) (by omega) h9 r3
      rw [show nI 0 = (0 : Int32) from rfl] at f1 f2
      refine ⟨lost' i, rf, things, gifts, days', size2, weight2, sound2, harm2, in', kind2, owner', empty2, room2, told2, gate2, ear2, scale2, lost', watch2, moments, kept2, va_cpy (va_cpy book aside 0 0 230) book' 0 0 230, va_cpy book aside 0 0 230, ?_, ?_, ?_, ?_⟩
      · rw [if_pos (show 0 < gifts by rw [rgf]; exact (nI_ltI (a := 0) (by omega) (by omega)).mpr (by omega)), e, zb20_e, nI_l (by omega), rgf, f1, zg_n (by omega) (by decide), zl_e, nI_clamp (by omega)]
      · have z9 : ¬ nI ng = (0 : Int32) := nI_neq (k := 0) (by omega) (by omega) hg
        rw [if_neg z9, v6_yr53E, zl_e, nI_l (by omega), f2, show (92 : Int32) = nI 92 from rfl, nI_add, zg_n (by omega) (by decide), zl_e, nI_clamp (by omega), v6_yr181E, (r2.2.2.2.1 i (by omega)).2.2.2]
      · exact h.cong (fun k hk => by rw [cp_k hk, cp_k hk])
      · exact r.cong h (fun k hk => by rw [cp_k hk, cp_k hk])
  · refine ⟨-2, cntd 0 rf (-2), t_things, t_gifts, t_days, t_size, t_weight, t_sound, t_harm, t_in_, t_kind, t_owner, t_empty, t_room, t_told, t_gate, t_ear, t_scale, t_lost, t_watch, t_moments, t_kept, book, aside, ?_, ?_, h, r⟩
    · unfold f5_years
      simp only [v5_isCity, w3, w4, bI_z, zb1_e, v5_counted, zb4_e]
      cases c5 : rg a 0 1 <;> cases c6 : rg b 0 90 <;> cases c7 : rg c 0 999999 <;> simp_all
    · unfold f6_years
      simp only [v6_isCity, m3, m4, bI_z, zb1_e, v6_bad, zb2_e]
      cases c5 : rg a 0 1 <;> cases c6 : rg b 0 90 <;> cases c7 : rg c 0 999999 <;> simp_all
