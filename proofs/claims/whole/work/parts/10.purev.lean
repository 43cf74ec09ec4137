/-! ===== pure side 32: images ===== -/
def Im (B : Nat) (f : Int32) (things gifts days : Int32) (size weight sound harm in_ kind owner empty room told gate ear scale lost watch : Nat → Int32) (moments : Int32) (kept : Nat → Int32) (im : Nat → Int32) : Prop := f = 0 ∨ ∃ nt ng d nm, Bk B im nt ng d nm ∧ Rw things gifts days size weight sound harm in_ kind owner empty room told gate ear scale lost watch moments kept im nt ng nm
theorem Im.cong {B : Nat} {f : Int32} {things gifts days : Int32} {size weight sound harm in_ kind owner empty room told gate ear scale lost watch : Nat → Int32} {moments : Int32} {kept : Nat → Int32} {im im2 : Nat → Int32} (i : Im B f things gifts days size weight sound harm in_ kind owner empty room told gate ear scale lost watch moments kept im) (e : ∀ k, k < 230 → im2 k = im k) : Im B f things gifts days size weight sound harm in_ kind owner empty room told gate ear scale lost watch moments kept im2 := by
  rcases i with i | ⟨nt, ng, d, nm, h, r⟩
  · exact Or.inl i
  · exact Or.inr ⟨nt, ng, d, nm, h.cong e, r.cong h e⟩
theorem Im.mono {B B2 : Nat} {f : Int32} {things gifts days : Int32} {size weight sound harm in_ kind owner empty room told gate ear scale lost watch : Nat → Int32} {moments : Int32} {kept : Nat → Int32} {im : Nat → Int32} (i : Im B f things gifts days size weight sound harm in_ kind owner empty room told gate ear scale lost watch moments kept im) (h2 : B ≤ B2) (h3 : B2 ≤ 1000) : Im B2 f things gifts days size weight sound harm in_ kind owner empty room told gate ear scale lost watch moments kept im := by
  rcases i with i | ⟨nt, ng, d, nm, h, r⟩
  · exact Or.inl i
  · exact Or.inr ⟨nt, ng, d, nm, h.mono h2 h3, r⟩
theorem v6_imgE (book images : Nat → Int32) {i : Nat} (hi : i < 2) (k : (Nat → Int32) → Option (Int32 × (Nat → Int32) × (Nat → Int32) × (Nat → Int32))) : L6_image_17 k book (nI i) FU (0 : Int32) images = k (va_cpy book images 0 (230 * i) 230) := by
  have e := v6_img book images hi k 230 0 FU (by omega) (by unfold FU; omega)
  rw [cpy_00] at e
  exact e
theorem v6_frmE (book images : Nat → Int32) {i : Nat} (hi : i < 2) (k : (Nat → Int32) → Option (Int32 × (Nat → Int32) × (Nat → Int32))) : L6_from_31 k images (nI i) FU (0 : Int32) book = k (va_cpy images book (230 * i) 0 230) := by
  have e := v6_frm book images hi k 230 0 FU (by omega) (by unfold FU; omega)
  rw [cpy_00] at e
  exact e

theorem e_image {B nt ng d nm : Nat} {book : Nat → Int32} {things gifts days : Int32} {size weight sound harm in_ kind owner empty room told gate ear scale lost watch : Nat → Int32} {moments : Int32} {kept : Nat → Int32} (h : Bk B book nt ng d nm) (r : Rw things gifts days size weight sound harm in_ kind owner empty room told gate ear scale lost watch moments kept book nt ng nm) {i_things i_gifts i_days : Int32} {i_size i_weight i_sound i_harm i_in_ i_kind i_owner i_empty i_room i_told i_gate i_ear i_scale i_lost i_watch : Nat → Int32} {i_moments : Int32} {i_kept : Nat → Int32} {j_things j_gifts j_days : Int32} {j_size j_weight j_sound j_harm j_in_ j_kind j_owner j_empty j_room j_told j_gate j_ear j_scale j_lost j_watch : Nat → Int32} {j_moments : Int32} {j_kept : Nat → Int32} (rf : Nat → Int32) {kept0 kept1 : Int32} {images mkept : Nat → Int32} (hk0 : kept0 = mkept 0) (hk1 : kept1 = mkept 1) (hi : Im B (mkept 0) i_things i_gifts i_days i_size i_weight i_sound i_harm i_in_ i_kind i_owner i_empty i_room i_told i_gate i_ear i_scale i_lost i_watch i_moments i_kept images) (hj : Im B (mkept 1) j_things j_gifts j_days j_size j_weight j_sound j_harm j_in_ j_kind j_owner j_empty j_room j_told j_gate j_ear j_scale j_lost j_watch j_moments j_kept (fun k => images (230 + k))) (a : Int32) :
    ∃ (ans kept0' kept1' : Int32) (rf' : Nat → Int32) (i_things' i_gifts' i_days' : Int32) (i_size' i_weight' i_sound' i_harm' i_in_' i_kind' i_owner' i_empty' i_room' i_told' i_gate' i_ear' i_scale' i_lost' i_watch' : Nat → Int32) (i_moments' : Int32) (i_kept' : Nat → Int32) (j_things' j_gifts' j_days' : Int32) (j_size' j_weight' j_sound' j_harm' j_in_' j_kind' j_owner' j_empty' j_room' j_told' j_gate' j_ear' j_scale' j_lost' j_watch' : Nat → Int32) (j_moments' : Int32) (j_kept' : Nat → Int32) (images' mkept' : Nat → Int32),
      f5_image kept0 kept1 (rf 0) (rf 1) (rf 2) things gifts days size weight sound harm in_ kind owner empty room told gate ear scale lost watch moments kept i_things i_gifts i_days i_size i_weight i_sound i_harm i_in_ i_kind i_owner i_empty i_room i_told i_gate i_ear i_scale i_lost i_watch i_moments i_kept j_things j_gifts j_days j_size j_weight j_sound j_harm j_in_ j_kind j_owner j_empty j_room j_told j_gate j_ear j_scale j_lost j_watch j_moments j_kept a = some (ans, kept0', kept1', rf' 0, rf' 1, rf' 2, i_things', i_gifts', i_days', i_size', i_weight', i_sound', i_harm', i_in_', i_kind', i_owner', i_empty', i_room', i_told', i_gate', i_ear', i_scale', i_lost', i_watch', i_moments', i_kept', j_things', j_gifts', j_days', j_size', j_weight', j_sound', j_harm', j_in_', j_kind', j_owner', j_empty', j_room', j_told', j_gate', j_ear', j_scale', j_lost', j_watch', j_moments', j_kept') ∧ f6_image 0 book images mkept rf a = some (ans, images', mkept', rf') ∧
      kept0' = mkept' 0 ∧ kept1' = mkept' 1 ∧ Im B (mkept' 0) i_things' i_gifts' i_days' i_size' i_weight' i_sound' i_harm' i_in_' i_kind' i_owner' i_empty' i_room' i_told' i_gate' i_ear' i_scale' i_lost' i_watch' i_moments' i_kept' images' ∧ Im B (mkept' 1) j_things' j_gifts' j_days' j_size' j_weight' j_sound' j_harm' j_in_' j_kind' j_owner' j_empty' j_room' j_told' j_gate' j_ear' j_scale' j_lost' j_watch' j_moments' j_kept' (fun k => images' (230 + k)) := by
  have m3 : f6_in a.toInt64 0 1 = some (bI (rg a 0 1)) := v6i (by decide) (by decide)
  have ec0 : ∀ k, k < 230 → va_cpy book images 0 (230 * 0) 230 k = book k := fun k hk => by
    rw [pk_cpy_in (by omega) (by omega)]
    congr 1
    omega
  have ec1 : ∀ k, k < 230 → va_cpy book images 0 (230 * 1) 230 (230 + k) = book k := fun k hk => by
    rw [pk_cpy_in (by omega) (by omega), show 0 + (230 + k - 230 * 1) = k by omega]
  unfold f5_image f6_image
  rw [m3, zb1_e]
  rcases rg_cases (a := a) (hi := 1) (by decide) with ⟨⟨j, hjj, rfl⟩, c⟩ | ⟨hne, c⟩
  · rw [c, if_neg (show ¬ bI true = 0 by decide)]
    have : j = 0 ∨ j = 1 := by omega
    rcases this with rfl | rfl
    · obtain ⟨size2, weight2, sound2, harm2, in2, kind2, owner2, empty2, room2, told2, gate2, ear2, scale2, lost2, watch2, kept2, e, r2⟩ := e_copy h r i_things i_gifts i_days i_size i_weight i_sound i_harm i_in_ i_kind i_owner i_empty i_room i_told i_gate i_ear i_scale i_lost i_watch i_moments i_kept
      refine ⟨1, 1, kept1, rf, things, gifts, days, size2, weight2, sound2, harm2, in2, kind2, owner2, empty2, room2, told2, gate2, ear2, scale2, lost2, watch2, moments, kept2, j_things, j_gifts, j_days, j_size, j_weight, j_sound, j_harm, j_in_, j_kind, j_owner, j_empty, j_room, j_told, j_gate, j_ear, j_scale, j_lost, j_watch, j_moments, j_kept, va_cpy book images 0 (230 * 0) 230, upd mkept 0 1, ?_, ?_, ?_, ?_, ?_, ?_⟩
      · rw [if_pos (show nI 0 = 0 from rfl), e, zb20_e]
      · rw [v6_imgE book images (by omega), zg_n (by omega) (by decide)]
        rfl
      · rw [pk_us]
      · rw [pk_un (by omega), hk1]
      · exact Or.inr ⟨nt, ng, d, nm, h.cong ec0, r2.cong h ec0⟩
      · rw [pk_un (by omega)]; exact hj.cong (fun k hk => by rw [pk_cpy_out (by omega)])
    · obtain ⟨size2, weight2, sound2, harm2, in2, kind2, owner2, empty2, room2, told2, gate2, ear2, scale2, lost2, watch2, kept2, e, r2⟩ := e_copy h r j_things j_gifts j_days j_size j_weight j_sound j_harm j_in_ j_kind j_owner j_empty j_room j_told j_gate j_ear j_scale j_lost j_watch j_moments j_kept
      refine ⟨1, kept0, 1, rf, i_things, i_gifts, i_days, i_size, i_weight, i_sound, i_harm, i_in_, i_kind, i_owner, i_empty, i_room, i_told, i_gate, i_ear, i_scale, i_lost, i_watch, i_moments, i_kept, things, gifts, days, size2, weight2, sound2, harm2, in2, kind2, owner2, empty2, room2, told2, gate2, ear2, scale2, lost2, watch2, moments, kept2, va_cpy book images 0 (230 * 1) 230, upd mkept 1 1, ?_, ?_, ?_, ?_, ?_, ?_⟩
      · rw [if_neg (show ¬ nI 1 = 0 by decide), if_pos (show nI 1 = 1 from rfl), e, zb20_e]
      · rw [v6_imgE book images (by omega), zg_n (by omega) (by decide)]
        rfl
      · rw [pk_un (by omega), hk0]
      · rw [pk_us]
      · rw [pk_un (by omega)]; exact hi.cong (fun k hk => by rw [pk_cpy_out (by omega)])
      · exact Or.inr ⟨nt, ng, d, nm, h.cong ec1, r2.cong h ec1⟩
  · rw [c, if_pos (show bI false = 0 by decide)]
    refine ⟨-2, kept0, kept1, cntd 0 rf (-2), i_things, i_gifts, i_days, i_size, i_weight, i_sound, i_harm, i_in_, i_kind, i_owner, i_empty, i_room, i_told, i_gate, i_ear, i_scale, i_lost, i_watch, i_moments, i_kept, j_things, j_gifts, j_days, j_size, j_weight, j_sound, j_harm, j_in_, j_kind, j_owner, j_empty, j_room, j_told, j_gate, j_ear, j_scale, j_lost, j_watch, j_moments, j_kept, images, mkept, ?_, ?_, hk0, hk1, hi, hj⟩
    · rw [if_neg (show ¬ a = 0 from hne 0 (by omega)), if_neg (show ¬ a = 1 from hne 1 (by omega)), v5_counted, zb4_e]
    · rw [v6_bad, zb2_e]

theorem e_from {B nt ng d nm : Nat} {book : Nat → Int32} {things gifts days : Int32} {size weight sound harm in_ kind owner empty room told gate ear scale lost watch : Nat → Int32} {moments : Int32} {kept : Nat → Int32} (h : Bk B book nt ng d nm) (r : Rw things gifts days size weight sound harm in_ kind owner empty room told gate ear scale lost watch moments kept book nt ng nm) {i_things i_gifts i_days : Int32} {i_size i_weight i_sound i_harm i_in_ i_kind i_owner i_empty i_room i_told i_gate i_ear i_scale i_lost i_watch : Nat → Int32} {i_moments : Int32} {i_kept : Nat → Int32} {j_things j_gifts j_days : Int32} {j_size j_weight j_sound j_harm j_in_ j_kind j_owner j_empty j_room j_told j_gate j_ear j_scale j_lost j_watch : Nat → Int32} {j_moments : Int32} {j_kept : Nat → Int32} (rf : Nat → Int32) {kept0 kept1 : Int32} {images mkept : Nat → Int32} (hk0 : kept0 = mkept 0) (hk1 : kept1 = mkept 1) (hi : Im B (mkept 0) i_things i_gifts i_days i_size i_weight i_sound i_harm i_in_ i_kind i_owner i_empty i_room i_told i_gate i_ear i_scale i_lost i_watch i_moments i_kept images) (hj : Im B (mkept 1) j_things j_gifts j_days j_size j_weight j_sound j_harm j_in_ j_kind j_owner j_empty j_room j_told j_gate j_ear j_scale j_lost j_watch j_moments j_kept (fun k => images (230 + k))) (a : Int32) :
    ∃ (ans : Int32) (rf' : Nat → Int32) (things' gifts' days' : Int32) (size' weight' sound' harm' in_' kind' owner' empty' room' told' gate' ear' scale' lost' watch' : Nat → Int32) (moments' : Int32) (kept' : Nat → Int32) (book' : Nat → Int32) (nt' ng' d' nm' : Nat),
      f5_from kept0 kept1 (rf 0) (rf 1) (rf 2) things gifts days size weight sound harm in_ kind owner empty room told gate ear scale lost watch moments kept i_things i_gifts i_days i_size i_weight i_sound i_harm i_in_ i_kind i_owner i_empty i_room i_told i_gate i_ear i_scale i_lost i_watch i_moments i_kept j_things j_gifts j_days j_size j_weight j_sound j_harm j_in_ j_kind j_owner j_empty j_room j_told j_gate j_ear j_scale j_lost j_watch j_moments j_kept a = some (ans, rf' 0, rf' 1, rf' 2, things', gifts', days', size', weight', sound', harm', in_', kind', owner', empty', room', told', gate', ear', scale', lost', watch', moments', kept') ∧ f6_from 0 book images mkept rf a = some (ans, book', rf') ∧
      Bk B book' nt' ng' d' nm' ∧ Rw things' gifts' days' size' weight' sound' harm' in_' kind' owner' empty' room' told' gate' ear' scale' lost' watch' moments' kept' book' nt' ng' nm' := by
  have w3 : f5_within a 0 1 = some (bI (rg a 0 1)) := v5w (by decide) (by decide)
  have m3 : f6_in a.toInt64 0 1 = some (bI (rg a 0 1)) := v6i (by decide) (by decide)
  have fc0 : ∀ k, k < 230 → va_cpy images book (230 * 0) 0 230 k = images k := fun k hk => by
    rw [pk_cpy_in (by omega) (by omega)]
    congr 1
    omega
  have fc1 : ∀ k, k < 230 → va_cpy images book (230 * 1) 0 230 k = images (230 + k) := fun k hk => by
    rw [pk_cpy_in (by omega) (by omega)]
    congr 1
  unfold f5_from f6_from
  rw [w3, m3, zb1_e, zb1_e]
  rcases rg_cases (a := a) (hi := 1) (by decide) with ⟨⟨j, hjj, rfl⟩, c⟩ | ⟨hne, c⟩
  · rw [c, if_neg (show ¬ bI true = 0 by decide), if_neg (show ¬ bI true = 0 by decide)]
    have : j = 0 ∨ j = 1 := by omega
    rcases this with rfl | rfl
    · rw [zg_n (by omega) (by decide), nI_clamp (by omega)]
      by_cases c0 : mkept 0 = 0
      · refine ⟨-3, cntd 0 rf (-3), things, gifts, days, size, weight, sound, harm, in_, kind, owner, empty, room, told, gate, ear, scale, lost, watch, moments, kept, book, nt, ng, d, nm, ?_, ?_, h, r⟩
        · rw [if_pos (show nI 0 = 0 from rfl), hk0, if_pos c0, v5_counted, zb4_e]
        · rw [if_pos c0, v6_no, zb2_e]
      · rcases hi with hi | ⟨nt2, ng2, d2, nm2, h2, r2⟩
        · exact absurd hi c0
        · obtain ⟨size2, weight2, sound2, harm2, in2, kind2, owner2, empty2, room2, told2, gate2, ear2, scale2, lost2, watch2, kept2, e, r3⟩ := e_copy h2 r2 things gifts days size weight sound harm in_ kind owner empty room told gate ear scale lost watch moments kept
          refine ⟨1, rf, i_things, i_gifts, i_days, size2, weight2, sound2, harm2, in2, kind2, owner2, empty2, room2, told2, gate2, ear2, scale2, lost2, watch2, i_moments, kept2, va_cpy images book (230 * 0) 0 230, nt2, ng2, d2, nm2, ?_, ?_, h2.cong (fc0), r3.cong h2 (fc0)⟩
          · rw [if_pos (show nI 0 = 0 from rfl), hk0, if_neg c0, if_pos (show nI 0 = 0 from rfl), e, zb20_e]
          · rw [if_neg c0, v6_frmE book images (by omega)]
    · rw [zg_n (by omega) (by decide), nI_clamp (by omega)]
      by_cases c0 : mkept 1 = 0
      · refine ⟨-3, cntd 0 rf (-3), things, gifts, days, size, weight, sound, harm, in_, kind, owner, empty, room, told, gate, ear, scale, lost, watch, moments, kept, book, nt, ng, d, nm, ?_, ?_, h, r⟩
        · rw [if_neg (show ¬ nI 1 = 0 by decide), hk1, if_pos c0, v5_counted, zb4_e]
        · rw [if_pos c0, v6_no, zb2_e]
      · rcases hj with hj | ⟨nt2, ng2, d2, nm2, h2, r2⟩
        · exact absurd hj c0
        · obtain ⟨size2, weight2, sound2, harm2, in2, kind2, owner2, empty2, room2, told2, gate2, ear2, scale2, lost2, watch2, kept2, e, r3⟩ := e_copy h2 r2 things gifts days size weight sound harm in_ kind owner empty room told gate ear scale lost watch moments kept
          refine ⟨1, rf, j_things, j_gifts, j_days, size2, weight2, sound2, harm2, in2, kind2, owner2, empty2, room2, told2, gate2, ear2, scale2, lost2, watch2, j_moments, kept2, va_cpy images book (230 * 1) 0 230, nt2, ng2, d2, nm2, ?_, ?_, h2.cong (fc1), r3.cong h2 (fc1)⟩
          · rw [if_neg (show ¬ nI 1 = 0 by decide), hk1, if_neg c0, if_neg (show ¬ nI 1 = 0 by decide), e, zb20_e]
          · rw [if_neg c0, v6_frmE book images (by omega)]
  · rw [c, if_pos (show bI false = 0 by decide), if_pos (show bI false = 0 by decide)]
    refine ⟨-2, cntd 0 rf (-2), things, gifts, days, size, weight, sound, harm, in_, kind, owner, empty, room, told, gate, ear, scale, lost, watch, moments, kept, book, nt, ng, d, nm, ?_, ?_, h, r⟩
    · rw [v5_counted, zb4_e]
    · rw [v6_bad, zb2_e]
