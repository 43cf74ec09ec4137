/-! ===== pure side 45: read, the items told ===== -/
theorem e_item {B nt ng d nm : Nat} {book : Nat → Int32} {things gifts days : Int32} {size weight sound harm in_ kind owner empty room told gate ear scale lost watch : Nat → Int32} {moments : Int32} {kept : Nat → Int32} (h : Bk B book nt ng d nm) (r : Rw things gifts days size weight sound harm in_ kind owner empty room told gate ear scale lost watch moments kept book nt ng nm) (rf : Nat → Int32) {words nums items : Nat → Int32} {i : Nat} (hi : i < 25) (ri : ∃ w, w < 7 ∧ words i = nI w ∧ items (5 * i) = nI w ∧ ∀ j, j < nb w → nums (4 * i + j) = items (5 * i + 1 + j)) :
    ∃ (ans : Int32) (things' : Int32) (gifts' : Int32) (size' : Nat → Int32) (weight' : Nat → Int32) (sound' : Nat → Int32) (harm' : Nat → Int32) (in_' : Nat → Int32) (kind' : Nat → Int32) (owner' : Nat → Int32) (empty' : Nat → Int32) (room' : Nat → Int32) (told' : Nat → Int32) (gate' : Nat → Int32) (ear' : Nat → Int32) (scale' : Nat → Int32) (watch' : Nat → Int32) (moments' : Int32) (kept' : Nat → Int32) (book' : Nat → Int32) (nt' ng' nm' : Nat),
      f5_tellItem things gifts days size weight sound harm in_ kind owner empty room told gate ear scale lost watch moments kept words nums (nI i) = some (ans, things', gifts', size', weight', sound', harm', in_', kind', owner', empty', room', told', gate', ear', scale', watch', moments', kept') ∧ f6_tellsItem 1 book rf items (nI i) = some ((if ans < 0 then 0 else 1), book', rf) ∧
      Bk B book' nt' ng' d nm' ∧ Rw things' gifts' days size' weight' sound' harm' in_' kind' owner' empty' room' told' gate' ear' scale' lost watch' moments' kept' book' nt' ng' nm' := by
  obtain ⟨w, hw, w1, w2, w3⟩ := ri
  have n0 : f3_numberOf nums (nI i) (0 : Int32) = some (nums (4 * i + 0)) := v3_numberOf (n := 0) hi (by omega)
  have n1 : f3_numberOf nums (nI i) (1 : Int32) = some (nums (4 * i + 1)) := v3_numberOf (n := 1) hi (by omega)
  have n2 : f3_numberOf nums (nI i) (2 : Int32) = some (nums (4 * i + 2)) := v3_numberOf (n := 2) hi (by omega)
  have n3 : f3_numberOf nums (nI i) (3 : Int32) = some (nums (4 * i + 3)) := v3_numberOf (n := 3) hi (by omega)
  have hd : ∀ (V : Int32) (bk r2 : Nat → Int32), (if V < 0 then some ((0 : Int32), bk, r2) else some ((1 : Int32), bk, r2)) = some ((if V < 0 then 0 else 1), bk, r2) := fun V bk r2 => by split <;> rfl
  have g6 : f6_tellsItem 1 book rf items (nI i) = (if (2 : Int32) ≤ nI w then zb3 (if nI w = (2 : Int32) then zb3 (f6_put 1 book rf (items (5 * i + 1 + 0)) (items (5 * i + 1 + 1))) (fun r27 book_28 refused_29 => some (r27, book_28, refused_29)) else if nI w = (6 : Int32) then zb3 (f6_watch 1 book rf (items (5 * i + 1 + 0)) (items (5 * i + 1 + 1)) (items (5 * i + 1 + 2))) (fun r23 book_24 refused_25 => some (r23, book_24, refused_25)) else zb3 (f6_city 1 book rf (items (5 * i + 1 + 0)) (nI w - (3 : Int32)) (items (5 * i + 1 + 1))) (fun r19 book_20 refused_21 => some (r19, book_20, refused_21))) (fun v13 book_14 refused_15 => if v13 < 0 then some ((0 : Int32), book_14, refused_15) else some ((1 : Int32), book_14, refused_15)) else zb3 (if nI w = 0 then zb3 (f6_thing 1 book rf (items (5 * i + 1 + 0)) (items (5 * i + 1 + 1)) (items (5 * i + 1 + 2)) (items (5 * i + 1 + 3))) (fun r41 book_42 refused_43 => some (r41, book_42, refused_43)) else zb3 (f6_gift 1 book rf (items (5 * i + 1 + 0)) (items (5 * i + 1 + 1)) (items (5 * i + 1 + 2)) (items (5 * i + 1 + 3))) (fun r37 book_38 refused_39 => some (r37, book_38, refused_39))) (fun v32 book_33 refused_34 => if v32 < 0 then some ((0 : Int32), book_33, refused_34) else some ((1 : Int32), book_33, refused_34))) := by
    unfold f6_tellsItem
    rw [show (5 : Int32) * nI i = nI (5 * i) from pk_mul 5 i, show nI (5 * i) + (1 : Int32) = nI (5 * i + 1) from nI_add _ 1, show nI (5 * i) + (2 : Int32) = nI (5 * i + 2) from nI_add _ 2, show nI (5 * i) + (3 : Int32) = nI (5 * i + 3) from nI_add _ 3, show nI (5 * i) + (4 : Int32) = nI (5 * i + 4) from nI_add _ 4, zg_n (by omega) (by decide), zl_e, zg_n (by omega) (by decide), zl_e, zg_n (by omega) (by decide), zl_e, zg_n (by omega) (by decide), zl_e, zg_n (by omega) (by decide), zl_e, nI_clamp (by omega), nI_clamp (by omega), nI_clamp (by omega), nI_clamp (by omega), nI_clamp (by omega), w2]
  have w7 : w = 0 ∨ w = 1 ∨ w = 2 ∨ w = 3 ∨ w = 4 ∨ w = 5 ∨ w = 6 := by omega
  rw [g6]
  clear g6
  unfold f5_tellItem
  rw [v3_wordOf hi, zb1_e, n0, zb1_e, n1, zb1_e, n2, zb1_e, n3, zb1_e, w1]
  clear w1 w2 n0 n1 n2 n3
  rcases w7 with rfl | rfl | rfl | rfl | rfl | rfl | rfl
  · rw [← w3 0 (by decide), ← w3 1 (by decide), ← w3 2 (by decide), ← w3 3 (by decide)]
    obtain ⟨ans, things', size', weight', sound', harm', in', moments', book', nt', nm', e1, e2, h', r'⟩ := e_thing h r 1 rf (nums (4 * i + 0)) (nums (4 * i + 1)) (nums (4 * i + 2)) (nums (4 * i + 3))
    rw [cntd_q1] at e2
    refine ⟨ans, things', gifts, size', weight', sound', harm', in', kind, owner, empty, room, told, gate, ear, scale, watch, moments', kept, book', nt', ng, nm', ?_, ?_, h', r'⟩
    · rw [if_pos (show nI 0 = 0 from rfl), e1, zb8_e]
    · rw [if_neg (by decide), if_pos (by decide), e2, zb3_e, zb3_e, hd]
  · rw [← w3 0 (by decide), ← w3 1 (by decide), ← w3 2 (by decide), ← w3 3 (by decide)]
    obtain ⟨ans, gifts', kind', owner', empty', room', told', moments', book', ng', nm', e1, e2, h', r'⟩ := e_gift h r 1 rf (nums (4 * i + 0)) (nums (4 * i + 1)) (nums (4 * i + 2)) (nums (4 * i + 3))
    rw [cntd_q1] at e2
    refine ⟨ans, things, gifts', size, weight, sound, harm, in_, kind', owner', empty', room', told', gate, ear, scale, watch, moments', kept, book', nt, ng', nm', ?_, ?_, h', r'⟩
    · rw [if_neg (show ¬ nI 1 = 0 by decide), if_pos (show nI 1 = 1 from rfl), e1, zb8_e]
    · rw [if_neg (by decide), if_neg (show ¬ nI 1 = 0 by decide), e2, zb3_e, zb3_e, hd]
  · rw [← w3 0 (by decide), ← w3 1 (by decide)]
    obtain ⟨ans, in', moments', kept', book', nm', e1, e2, h', r'⟩ := e_put h r 1 rf (nums (4 * i + 0)) (nums (4 * i + 1))
    rw [cntd_q1] at e2
    refine ⟨ans, things, gifts, size, weight, sound, harm, in', kind, owner, empty, room, told, gate, ear, scale, watch, moments', kept', book', nt, ng, nm', ?_, ?_, h', r'⟩
    · rw [if_neg (show ¬ nI 2 = 0 by decide), if_neg (show ¬ nI 2 = 1 by decide), if_pos (show nI 2 = 2 from rfl), e1, zb4_e]
    · rw [if_pos (by decide), if_pos (show nI 2 = 2 from rfl), e2, zb3_e, zb3_e, hd]

  · rw [← w3 0 (by decide), ← w3 1 (by decide), show nI 3 - (3 : Int32) = (0 : Int32) by decide]
    obtain ⟨ans, gate', ear', scale', book', e1, e2, h', r'⟩ := e_city h r 1 rf (nums (4 * i + 0)) (0 : Int32) (nums (4 * i + 1))
    rw [cntd_q1] at e2
    refine ⟨ans, things, gifts, size, weight, sound, harm, in_, kind, owner, empty, room, told, gate', ear', scale', watch, moments, kept, book', nt, ng, nm, ?_, ?_, h', r'⟩
    · rw [if_neg (show ¬ nI 3 = 0 by decide), if_neg (show ¬ nI 3 = 1 by decide), if_neg (show ¬ nI 3 = 2 by decide), if_pos (show nI 3 = 3 from rfl), e1, zb4_e]
    · rw [if_pos (by decide), if_neg (show ¬ nI 3 = 2 by decide), if_neg (show ¬ nI 3 = 6 by decide), e2, zb3_e, zb3_e, hd]
  · rw [← w3 0 (by decide), ← w3 1 (by decide), show nI 4 - (3 : Int32) = (1 : Int32) by decide]
    obtain ⟨ans, gate', ear', scale', book', e1, e2, h', r'⟩ := e_city h r 1 rf (nums (4 * i + 0)) (1 : Int32) (nums (4 * i + 1))
    rw [cntd_q1] at e2
    refine ⟨ans, things, gifts, size, weight, sound, harm, in_, kind, owner, empty, room, told, gate', ear', scale', watch, moments, kept, book', nt, ng, nm, ?_, ?_, h', r'⟩
    · rw [if_neg (show ¬ nI 4 = 0 by decide), if_neg (show ¬ nI 4 = 1 by decide), if_neg (show ¬ nI 4 = 2 by decide), if_neg (show ¬ nI 4 = 3 by decide), if_pos (show nI 4 = 4 from rfl), e1, zb4_e]
    · rw [if_pos (by decide), if_neg (show ¬ nI 4 = 2 by decide), if_neg (show ¬ nI 4 = 6 by decide), e2, zb3_e, zb3_e, hd]
  · rw [← w3 0 (by decide), ← w3 1 (by decide), show nI 5 - (3 : Int32) = (2 : Int32) by decide]
    obtain ⟨ans, gate', ear', scale', book', e1, e2, h', r'⟩ := e_city h r 1 rf (nums (4 * i + 0)) (2 : Int32) (nums (4 * i + 1))
    rw [cntd_q1] at e2
    refine ⟨ans, things, gifts, size, weight, sound, harm, in_, kind, owner, empty, room, told, gate', ear', scale', watch, moments, kept, book', nt, ng, nm, ?_, ?_, h', r'⟩
    · rw [if_neg (show ¬ nI 5 = 0 by decide), if_neg (show ¬ nI 5 = 1 by decide), if_neg (show ¬ nI 5 = 2 by decide), if_neg (show ¬ nI 5 = 3 by decide), if_neg (show ¬ nI 5 = 4 by decide), if_pos (show nI 5 = 5 from rfl), e1, zb4_e]
    · rw [if_pos (by decide), if_neg (show ¬ nI 5 = 2 by decide), if_neg (show ¬ nI 5 = 6 by decide), e2, zb3_e, zb3_e, hd]
  · rw [← w3 0 (by decide), ← w3 1 (by decide), ← w3 2 (by decide)]
    obtain ⟨ans, watch', book', e1, e2, h', r'⟩ := e_watch h r 1 rf (nums (4 * i + 0)) (nums (4 * i + 1)) (nums (4 * i + 2))
    rw [cntd_q1] at e2
    refine ⟨ans, things, gifts, size, weight, sound, harm, in_, kind, owner, empty, room, told, gate, ear, scale, watch', moments, kept, book', nt, ng, nm, ?_, ?_, h', r'⟩
    · rw [if_neg (show ¬ nI 6 = 0 by decide), if_neg (show ¬ nI 6 = 1 by decide), if_neg (show ¬ nI 6 = 2 by decide), if_neg (show ¬ nI 6 = 3 by decide), if_neg (show ¬ nI 6 = 4 by decide), if_neg (show ¬ nI 6 = 5 by decide), if_pos (show nI 6 = 6 from rfl), e1, zb2_e]
    · rw [if_pos (by decide), if_neg (show ¬ nI 6 = 2 by decide), if_pos (show nI 6 = 6 from rfl), e2, zb3_e, zb3_e, hd]
