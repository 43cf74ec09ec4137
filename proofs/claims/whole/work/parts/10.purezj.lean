/-! ===== pure side 46: read ===== -/
theorem r_27 {B nt ng d nm : Nat} {book : Nat → Int32} {things gifts days : Int32} {size weight sound harm in_ kind owner empty room told gate ear scale lost watch : Nat → Int32} {moments : Int32} {kept : Nat → Int32} (h : Bk B book nt ng d nm) (r : Rw things gifts days size weight sound harm in_ kind owner empty room told gate ear scale lost watch moments kept book nt ng nm) {w_things w_gifts w_days : Int32} {w_size w_weight w_sound w_harm w_in_ w_kind w_owner w_empty w_room w_told w_gate w_ear w_scale w_lost w_watch : Nat → Int32} {w_moments : Int32} {w_kept : Nat → Int32} (rf : Nat → Int32) {words nums items : Nat → Int32} {ti : Int32} (tf : Int32) {cnt : Nat} (hti : ti = nI cnt) (hc : cnt ≤ 25) (ri : RI cnt words nums items) : ∀ (m i fu fu' : Nat) (things : Int32) (gifts : Int32) (size : Nat → Int32) (weight : Nat → Int32) (sound : Nat → Int32) (harm : Nat → Int32) (in_ : Nat → Int32) (kind : Nat → Int32) (owner : Nat → Int32) (empty : Nat → Int32) (room : Nat → Int32) (told : Nat → Int32) (gate : Nat → Int32) (ear : Nat → Int32) (scale : Nat → Int32) (watch : Nat → Int32) (moments : Int32) (kept : Nat → Int32) (book : Nat → Int32) (nt ng nm : Nat), i + m = cnt → m < fu → m < fu' → Bk B book nt ng d nm → Rw things gifts days size weight sound harm in_ kind owner empty room told gate ear scale lost watch moments kept book nt ng nm →
    (∃ (i' : Nat) (things' : Int32) (gifts' : Int32) (size' : Nat → Int32) (weight' : Nat → Int32) (sound' : Nat → Int32) (harm' : Nat → Int32) (in_' : Nat → Int32) (kind' : Nat → Int32) (owner' : Nat → Int32) (empty' : Nat → Int32) (room' : Nat → Int32) (told' : Nat → Int32) (gate' : Nat → Int32) (ear' : Nat → Int32) (scale' : Nat → Int32) (watch' : Nat → Int32) (moments' : Int32) (kept' : Nat → Int32) (book' : Nat → Int32), i' < cnt ∧
      (∀ k, L5_read_27 k w_things w_gifts w_days w_size w_weight w_sound w_harm w_in_ w_kind w_owner w_empty w_room w_told w_gate w_ear w_scale w_lost w_watch w_moments w_kept ti tf words nums days lost fu (nI i) things gifts size weight sound harm in_ kind owner empty room told gate ear scale watch moments kept = some ((-1000 : Int32) - nI i', w_things, w_gifts, w_days, w_size, w_weight, w_sound, w_harm, w_in_, w_kind, w_owner, w_empty, w_room, w_told, w_gate, w_ear, w_scale, w_lost, w_watch, w_moments, w_kept, things', gifts', days, size', weight', sound', harm', in_', kind', owner', empty', room', told', gate', ear', scale', lost, watch', moments', kept', ti, tf, words, nums)) ∧
      (∀ k, L6_read_53 k (nI cnt) items fu' (nI i) book rf = k (nI i') book' rf)) ∨
    (∃ (things' : Int32) (gifts' : Int32) (size' : Nat → Int32) (weight' : Nat → Int32) (sound' : Nat → Int32) (harm' : Nat → Int32) (in_' : Nat → Int32) (kind' : Nat → Int32) (owner' : Nat → Int32) (empty' : Nat → Int32) (room' : Nat → Int32) (told' : Nat → Int32) (gate' : Nat → Int32) (ear' : Nat → Int32) (scale' : Nat → Int32) (watch' : Nat → Int32) (moments' : Int32) (kept' : Nat → Int32) (book' : Nat → Int32) (nt' ng' nm' : Nat), Bk B book' nt' ng' d nm' ∧ Rw things' gifts' days size' weight' sound' harm' in_' kind' owner' empty' room' told' gate' ear' scale' lost watch' moments' kept' book' nt' ng' nm' ∧
      (∀ k, L5_read_27 k w_things w_gifts w_days w_size w_weight w_sound w_harm w_in_ w_kind w_owner w_empty w_room w_told w_gate w_ear w_scale w_lost w_watch w_moments w_kept ti tf words nums days lost fu (nI i) things gifts size weight sound harm in_ kind owner empty room told gate ear scale watch moments kept = k things' gifts' size' weight' sound' harm' in_' kind' owner' empty' room' told' gate' ear' scale' watch' moments' kept') ∧
      (∀ k, L6_read_53 k (nI cnt) items fu' (nI i) book rf = k (nI cnt) book' rf)) := by
  clear h r
  intro m
  clear things gifts size weight sound harm in_ kind owner empty room told gate ear scale watch moments kept book nt ng nm
  induction m with
  | zero =>
    intro i fu fu' things gifts size weight sound harm in_ kind owner empty room told gate ear scale watch moments kept book nt ng nm hi hf hf' h r
    obtain ⟨fu, rfl⟩ : ∃ m, fu = m + 1 := ⟨fu - 1, by omega⟩
    obtain ⟨fu', rfl⟩ : ∃ m, fu' = m + 1 := ⟨fu' - 1, by omega⟩
    have e : i = cnt := by omega
    subst e
    exact Or.inr ⟨things, gifts, size, weight, sound, harm, in_, kind, owner, empty, room, told, gate, ear, scale, watch, moments, kept, book, nt, ng, nm, h, r, fun k => by rw [L5_read_27, hti, if_pos (nI_le (Nat.le_refl _) (by omega))], fun k => by rw [L6_read_53, if_pos (nI_le (Nat.le_refl _) (by omega))]⟩
  | succ m ih =>
    intro i fu fu' things gifts size weight sound harm in_ kind owner empty room told gate ear scale watch moments kept book nt ng nm hi hf hf' h r
    obtain ⟨fu, rfl⟩ : ∃ m, fu = m + 1 := ⟨fu - 1, by omega⟩
    obtain ⟨fu', rfl⟩ : ∃ m, fu' = m + 1 := ⟨fu' - 1, by omega⟩
    obtain ⟨ans, things1, gifts1, size1, weight1, sound1, harm1, in_1, kind1, owner1, empty1, room1, told1, gate1, ear1, scale1, watch1, moments1, kept1, book1, nt1, ng1, nm1, e1, e2, h1, r1⟩ := e_item h r rf (i := i) (by omega) (ri i (by omega))
    by_cases c : ans < 0
    · have c' : ¬ (0 : Int32) ≤ ans := by
        rw [z_leI]
        rw [z_ltI] at c
        omega
      refine Or.inl ⟨i, things1, gifts1, size1, weight1, sound1, harm1, in_1, kind1, owner1, empty1, room1, told1, gate1, ear1, scale1, watch1, moments1, kept1, book1, by omega, fun k => ?_, fun k => ?_⟩
      · rw [L5_read_27, hti, if_neg (nI_ge (by omega) (by omega)), e1, zb19_e, if_neg c', zl_e]
      · rw [L6_read_53, if_neg (nI_ge (by omega) (by omega)), e2, zb3_e, if_pos c, if_pos rfl]
    · have c' : (0 : Int32) ≤ ans := by
        rw [z_leI]
        rw [z_ltI] at c
        omega
      have cl : ∀ k, L5_read_27 k w_things w_gifts w_days w_size w_weight w_sound w_harm w_in_ w_kind w_owner w_empty w_room w_told w_gate w_ear w_scale w_lost w_watch w_moments w_kept ti tf words nums days lost (fu + 1) (nI i) things gifts size weight sound harm in_ kind owner empty room told gate ear scale watch moments kept = L5_read_27 k w_things w_gifts w_days w_size w_weight w_sound w_harm w_in_ w_kind w_owner w_empty w_room w_told w_gate w_ear w_scale w_lost w_watch w_moments w_kept ti tf words nums days lost fu (nI (i + 1)) things1 gifts1 size1 weight1 sound1 harm1 in_1 kind1 owner1 empty1 room1 told1 gate1 ear1 scale1 watch1 moments1 kept1 := fun k => by
        rw [L5_read_27, hti, if_neg (nI_ge (by omega) (by omega)), e1, zb19_e, if_pos c', nI_1]
      have ml : ∀ k, L6_read_53 k (nI cnt) items (fu' + 1) (nI i) book rf = L6_read_53 k (nI cnt) items fu' (nI (i + 1)) book1 rf := fun k => by
        rw [L6_read_53, if_neg (nI_ge (by omega) (by omega)), e2, zb3_e, if_neg c, if_neg (by decide), nI_1]
      rcases ih (i + 1) fu fu' things1 gifts1 size1 weight1 sound1 harm1 in_1 kind1 owner1 empty1 room1 told1 gate1 ear1 scale1 watch1 moments1 kept1 book1 nt1 ng1 nm1 (by omega) (by omega) (by omega) h1 r1 with ⟨i', things2, gifts2, size2, weight2, sound2, harm2, in_2, kind2, owner2, empty2, room2, told2, gate2, ear2, scale2, watch2, moments2, kept2, book2, q1, q2, q3⟩ | ⟨things2, gifts2, size2, weight2, sound2, harm2, in_2, kind2, owner2, empty2, room2, told2, gate2, ear2, scale2, watch2, moments2, kept2, book2, nt2, ng2, nm2, q1, q2, q3, q4⟩
      · exact Or.inl ⟨i', things2, gifts2, size2, weight2, sound2, harm2, in_2, kind2, owner2, empty2, room2, told2, gate2, ear2, scale2, watch2, moments2, kept2, book2, q1, fun k => by rw [cl, q2], fun k => by rw [ml, q3]⟩
      · exact Or.inr ⟨things2, gifts2, size2, weight2, sound2, harm2, in_2, kind2, owner2, empty2, room2, told2, gate2, ear2, scale2, watch2, moments2, kept2, book2, nt2, ng2, nm2, q1, q2, fun k => by rw [cl, q3], fun k => by rw [ml, q4]⟩

theorem v6_rd17 (f g : Nat → Int32) (k : (Nat → Int32) → Option (Int32 × Int32 × Int32 × Int32 × Int32 × Int32 × Int32 × (Nat → Int32) × (Nat → Int32) × (Nat → Int32) × (Nat → Int32))) : ∀ (m t n : Nat), t + m = 230 → m < n → L6_read_17 k f n (nI t) (va_cpy f g 0 0 t) = k (va_cpy f g 0 0 230) := by
  intro m
  induction m with
  | zero =>
    intro t n ht hm
    obtain ⟨n, rfl⟩ : ∃ m, n = m + 1 := ⟨n - 1, by omega⟩
    have e : t = 230 := by omega
    subst e
    rw [L6_read_17, if_pos (by decide)]
  | succ m ih =>
    intro t n ht hm
    obtain ⟨n, rfl⟩ : ∃ m, n = m + 1 := ⟨n - 1, by omega⟩
    have i1 := ih (t + 1) n (by omega) (by omega)
    have st := cpy_step2 f g (s := 0) (dd := 0) (t := t)
    rw [Nat.zero_add] at st
    rw [L6_read_17, if_neg (show ¬ (230 : Int32) ≤ nI t from nI_ge (b := 230) (by omega) (by omega)), zg_n (by omega) (by decide), zl_e, zg_n (by omega) (by decide), nI_clamp (by omega), st, nI_1]
    exact i1
theorem v6_rd17E (f g : Nat → Int32) (k : (Nat → Int32) → Option (Int32 × Int32 × Int32 × Int32 × Int32 × Int32 × Int32 × (Nat → Int32) × (Nat → Int32) × (Nat → Int32) × (Nat → Int32))) : L6_read_17 k f FU (0 : Int32) g = k (va_cpy f g 0 0 230) := by
  have e := v6_rd17 f g k 230 0 FU (by omega) (by unfold FU; omega)
  rw [cpy_00] at e
  exact e

theorem v6_rd102 (f g : Nat → Int32) (k : (Nat → Int32) → Option (Int32 × Int32 × Int32 × Int32 × Int32 × Int32 × Int32 × (Nat → Int32) × (Nat → Int32) × (Nat → Int32) × (Nat → Int32))) : ∀ (m t n : Nat), t + m = 230 → m < n → L6_read_102 k f n (nI t) (va_cpy f g 0 0 t) = k (va_cpy f g 0 0 230) := by
  intro m
  induction m with
  | zero =>
    intro t n ht hm
    obtain ⟨n, rfl⟩ : ∃ m, n = m + 1 := ⟨n - 1, by omega⟩
    have e : t = 230 := by omega
    subst e
    rw [L6_read_102, if_pos (by decide)]
  | succ m ih =>
    intro t n ht hm
    obtain ⟨n, rfl⟩ : ∃ m, n = m + 1 := ⟨n - 1, by omega⟩
    have i1 := ih (t + 1) n (by omega) (by omega)
    have st := cpy_step2 f g (s := 0) (dd := 0) (t := t)
    rw [Nat.zero_add] at st
    rw [L6_read_102, if_neg (show ¬ (230 : Int32) ≤ nI t from nI_ge (b := 230) (by omega) (by omega)), zg_n (by omega) (by decide), zl_e, zg_n (by omega) (by decide), nI_clamp (by omega), st, nI_1]
    exact i1
theorem v6_rd102E (f g : Nat → Int32) (k : (Nat → Int32) → Option (Int32 × Int32 × Int32 × Int32 × Int32 × Int32 × Int32 × (Nat → Int32) × (Nat → Int32) × (Nat → Int32) × (Nat → Int32))) : L6_read_102 k f FU (0 : Int32) g = k (va_cpy f g 0 0 230) := by
  have e := v6_rd102 f g k 230 0 FU (by omega) (by unfold FU; omega)
  rw [cpy_00] at e
  exact e

theorem e_read {B nt ng d nm : Nat} {book : Nat → Int32} {things gifts days : Int32} {size weight sound harm in_ kind owner empty room told gate ear scale lost watch : Nat → Int32} {moments : Int32} {kept : Nat → Int32} (h : Bk B book nt ng d nm) (r : Rw things gifts days size weight sound harm in_ kind owner empty room told gate ear scale lost watch moments kept book nt ng nm) {t_things t_gifts t_days : Int32} {t_size t_weight t_sound t_harm t_in_ t_kind t_owner t_empty t_room t_told t_gate t_ear t_scale t_lost t_watch : Nat → Int32} {t_moments : Int32} {t_kept : Nat → Int32} (rf aside : Nat → Int32) {tbytes text : Nat → Int32} {tlen typed : Int32} {L : Nat} (x : Tx tlen tbytes typed text L) (ti tf : Int32) (words nums items : Nat → Int32) (ma ms mt mv my : Int32) :
    ∃ (ans : Int32) (things' gifts' days' : Int32) (size' weight' sound' harm' in_' kind' owner' empty' room' told' gate' ear' scale' lost' watch' : Nat → Int32) (moments' : Int32) (kept' : Nat → Int32) (t_things' t_gifts' t_days' : Int32) (t_size' t_weight' t_sound' t_harm' t_in_' t_kind' t_owner' t_empty' t_room' t_told' t_gate' t_ear' t_scale' t_lost' t_watch' : Nat → Int32) (t_moments' : Int32) (t_kept' : Nat → Int32) (ti' tf' : Int32) (words' nums' : Nat → Int32) (ma' ms' mt' mv' my' : Int32) (book' aside' items' : Nat → Int32) (nt' ng' d' nm' : Nat),
      f5_read things gifts days size weight sound harm in_ kind owner empty room told gate ear scale lost watch moments kept t_things t_gifts t_days t_size t_weight t_sound t_harm t_in_ t_kind t_owner t_empty t_room t_told t_gate t_ear t_scale t_lost t_watch t_moments t_kept tlen ti tf tbytes words nums = some (ans, things', gifts', days', size', weight', sound', harm', in_', kind', owner', empty', room', told', gate', ear', scale', lost', watch', moments', kept', t_things', t_gifts', t_days', t_size', t_weight', t_sound', t_harm', t_in_', t_kind', t_owner', t_empty', t_room', t_told', t_gate', t_ear', t_scale', t_lost', t_watch', t_moments', t_kept', ti', tf', words', nums') ∧
      f6_read 0 typed ma ms mt mv my book aside rf text items = some (ans, 0, ma', ms', mt', mv', my', book', aside', rf, items') ∧
      Bk B book' nt' ng' d' nm' ∧ Rw things' gifts' days' size' weight' sound' harm' in_' kind' owner' empty' room' told' gate' ear' scale' lost' watch' moments' kept' book' nt' ng' nm' := by
  obtain ⟨hL, rfl, rfl, hx⟩ := x
  have hB := h.1.2.2.2.2
  have tx : TX L tbytes text (fun k => nN (text k)) := ⟨hL, fun k hk => by
    obtain ⟨q1, q2, q3⟩ := hx k hk
    exact ⟨by rw [q1]; exact q2, q2, q3⟩⟩
  rcases it_find tx ti tf words nums items ma ms mt mv my with ⟨f, i', words', nums', items', ma', mt', mv', my', h0, h1, h2⟩ | ⟨cnt, words', nums', items', ma', ms', mt', mv', h0, ri, h1, h2⟩
  · refine ⟨(-10 : Int32) - nI f, things, gifts, days, size, weight, sound, harm, in_, kind, owner, empty, room, told, gate, ear, scale, lost, watch, moments, kept, t_things, t_gifts, t_days, t_size, t_weight, t_sound, t_harm, t_in_, t_kind, t_owner, t_empty, t_room, t_told, t_gate, t_ear, t_scale, t_lost, t_watch, t_moments, t_kept, i', nI f, words', nums', ma', nI f, mt', mv', my', book, aside, items', nt, ng, d, nm, ?_, ?_, h, r⟩
    · unfold f5_read
      rw [h1, zb5_e, if_neg (show ¬ nI f = (-1 : Int32) from nI_ne_none (by omega)), zl_e]
    · unfold f6_read
      rw [h2, zb7_e, if_pos rfl, zl_e]
  · obtain ⟨b1, c1, c2, c3⟩ := v6_empties book
    obtain ⟨gate1, ear1, scale1, lost1, watch1, d1, d2, d3⟩ := v4_renew t_things t_gifts t_days t_gate t_ear t_scale t_lost t_watch t_moments
    have h3 : Bk B b1 0 0 0 0 := Bk.fresh hB c2 c3
    have r3 : Rw (nI 0) (nI 0) (nI 0) t_size t_weight t_sound t_harm t_in_ t_kind t_owner t_empty t_room t_told gate1 ear1 scale1 lost1 watch1 (nI 0) t_kept b1 0 0 0 := Rw.fresh c2 c3 d2 d3
    rcases r_27 h3 r3 (rf) (-1 : Int32) rfl h0 ri cnt 0 FU FU (nI 0) (nI 0) t_size t_weight t_sound t_harm t_in_ t_kind t_owner t_empty t_room t_told gate1 ear1 scale1 watch1 (nI 0) t_kept b1 0 0 0 (by omega) (by unfold FU; omega) (by unfold FU; omega) h3 r3 with ⟨i', things9, gifts9, size9, weight9, sound9, harm9, in_9, kind9, owner9, empty9, room9, told9, gate9, ear9, scale9, watch9, moments9, kept9, b9, q1, q2, q3⟩ | ⟨things9, gifts9, size9, weight9, sound9, harm9, in_9, kind9, owner9, empty9, room9, told9, gate9, ear9, scale9, watch9, moments9, kept9, b9, nt9, ng9, nm9, h9, r9, q2, q3⟩
    · have z9 : ¬ nI i' = nI cnt := nI_neq (by omega) (by omega) (by omega)
      refine ⟨(-1000 : Int32) - nI i', things, gifts, days, size, weight, sound, harm, in_, kind, owner, empty, room, told, gate, ear, scale, lost, watch, moments, kept, things9, gifts9, nI 0, size9, weight9, sound9, harm9, in_9, kind9, owner9, empty9, room9, told9, gate9, ear9, scale9, lost1, watch9, moments9, kept9, nI cnt, -1, words', nums', ma', ms', mt', mv', nI cnt, va_cpy (va_cpy book aside 0 0 230) b9 0 0 230, va_cpy book aside 0 0 230, items', nt, ng, d, nm, ?_, ?_, h.cong (fun k hk => by rw [cp_k hk, cp_k hk]), r.cong h (fun k hk => by rw [cp_k hk, cp_k hk])⟩
      · unfold f5_read
        rw [h1, zb5_e, if_pos rfl, d1, zb9_e, show (0 : Int32) = nI 0 from rfl, q2]
      · unfold f6_read
        have n1 : ¬ (1 : Int32) = 0 := by decide
        rw [h2, zb7_e, if_neg n1, v6_rd17E, c1, zb1_e, ← show nI 0 = (0 : Int32) from rfl, q3, if_neg z9, show nI 0 = (0 : Int32) from rfl, v6_rd102E, zl_e]
    · have h8 := h9.nm0
      have r8 := r9.nm0 h9
      obtain ⟨size2, weight2, sound2, harm2, in2, kind2, owner2, empty2, room2, told2, gate2, ear2, scale2, lost2, watch2, kept2, e8, r7⟩ := e_copy h8 r8 things gifts days size weight sound harm in_ kind owner empty room told gate ear scale lost watch moments kept
      refine ⟨nI cnt, things9, gifts9, nI 0, size2, weight2, sound2, harm2, in2, kind2, owner2, empty2, room2, told2, gate2, ear2, scale2, lost2, watch2, nI 0, kept2, things9, gifts9, nI 0, size9, weight9, sound9, harm9, in_9, kind9, owner9, empty9, room9, told9, gate9, ear9, scale9, lost1, watch9, nI 0, kept9, nI cnt, -1, words', nums', ma', ms', mt', mv', nI cnt, upd b9 3 (nI 0), va_cpy book aside 0 0 230, items', nt9, ng9, 0, 0, ?_, ?_, h8, r7⟩
      · unfold f5_read
        rw [h1, zb5_e, if_pos rfl, d1, zb9_e, show (0 : Int32) = nI 0 from rfl, q2]
        unfold f4_forget
        rw [zb1_e, show (0 : Int32) = nI 0 from rfl, e8, zb20_e]
      · unfold f6_read
        have n1 : ¬ (1 : Int32) = 0 := by decide
        rw [h2, zb7_e, if_neg n1, v6_rd17E, c1, zb1_e, ← show nI 0 = (0 : Int32) from rfl, q3, if_pos rfl]
