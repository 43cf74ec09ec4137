/-! ===== pure side 43: the text, items ===== -/
def nb (w : Nat) : Nat := if w ≤ 1 then 4 else if w = 6 then 3 else 2
theorem nb_le (w : Nat) : 2 ≤ nb w ∧ nb w ≤ 4 := by
  unfold nb
  split
  · omega
  · split <;> omega
theorem nb5 : ∀ w, w < 7 → f3_numbersBehind (nI w) = some (nI (nb w)) ∧ f6_numbers (nI w) = some (nI (nb w)) := by decide +kernel
theorem it_nums {L : Nat} {tbytes text : Nat → Int32} {X : Nat → Nat} (x : TX L tbytes text X) {i w : Nat} (hi : i < 25) (hw : w < 7) (words : Nat → Int32) : ∀ (m n at_ fu fu' : Nat) (mat tok val : Int32) (nums items : Nat → Int32), n + m = nb w → m < fu → m < fu' → at_ ≤ L → TK X L at_ mat tok val → (∀ j, j < n → nums (4 * i + j) = items (5 * i + 1 + j)) →
    (∃ (f : Nat) (nums' items' : Nat → Int32) (mat' tok' val' : Int32), f ≤ L ∧ (∀ k, L3_afterItem_38 k (nI L) zNone tbytes words (nI i) (nI w) fu (nI at_) (nI n) nums = some (nI f, nI f, upd words i (nI w), nums')) ∧
      (∀ k, L6_reads_52 k (nI L) text (nI i) (nI w) fu' (nI n) mat (nI at_) tok val items = some (0, mat', nI f, tok', val', nI i, items'))) ∨
    (∃ (at' : Nat) (nums' items' : Nat → Int32) (mat' tok' val' : Int32), at' ≤ L ∧ TK X L at' mat' tok' val' ∧ (∀ k, L3_afterItem_38 k (nI L) zNone tbytes words (nI i) (nI w) fu (nI at_) (nI n) nums = k (nI at') nums') ∧
      (∀ k, L6_reads_52 k (nI L) text (nI i) (nI w) fu' (nI n) mat (nI at_) tok val items = k mat' (nI at') tok' val' items') ∧
      (∀ j, j < nb w → nums' (4 * i + j) = items' (5 * i + 1 + j)) ∧ (∀ y, y < 4 * i → nums' y = nums y) ∧ (∀ y, y < 5 * i + 1 → items' y = items y) ∧ (at_ + 2 * m ≤ at' + 1 ∧ at_ ≤ at') ∧ (1 ≤ m → nmB X L at_ = true)) := by
  have hL := x.1
  have hnb := nb_le w
  obtain ⟨b5, b6⟩ := nb5 w hw
  intro m
  induction m with
  | zero =>
    intro n at_ fu fu' mat tok val nums items hn hf hf' hat tk hr
    obtain ⟨fu, rfl⟩ : ∃ m, fu = m + 1 := ⟨fu - 1, by omega⟩
    obtain ⟨fu', rfl⟩ : ∃ m, fu' = m + 1 := ⟨fu' - 1, by omega⟩
    refine Or.inr ⟨at_, nums, items, mat, tok, val, hat, tk, fun k => ?_, fun k => ?_, fun j hj => hr j (by omega), fun y _ => rfl, fun y _ => rfl, ⟨by omega, by omega⟩, fun h => absurd h (by omega)⟩
    · rw [L3_afterItem_38, b5, zb1_e, if_pos (nI_le (by omega) (by omega))]
    · rw [L6_reads_52, b6, zb1_e, if_pos (nI_le (by omega) (by omega))]
  | succ m ih =>
    intro n at_ fu fu' mat tok val nums items hn hf hf' hat tk hr
    obtain ⟨fu, rfl⟩ : ∃ m, fu = m + 1 := ⟨fu - 1, by omega⟩
    obtain ⟨fu', rfl⟩ : ∃ m, fu' = m + 1 := ⟨fu' - 1, by omega⟩
    obtain ⟨s1, s2, s3, s4⟩ := rR_spec fg X L (L - at_) at_ rfl
    have s4 := s4 hat
    obtain ⟨k1, k2, k3, k4, k5, k6, k7, k8⟩ := tk
    cases c : nmB X L at_
    · refine Or.inl ⟨at_, nums, items, mat, tok, val, hat, fun k => ?_, fun k => ?_⟩
      · rw [L3_afterItem_38, b5, zb1_e, if_neg (nI_ge (by omega) (by omega)), v3_afterFigures x hat, zb1_e]
        by_cases e : rR fg X L at_ = at_
        · rw [if_pos (by rw [e])]
          unfold f3_faultAt
          rw [zb2_e, nI_clamp (by omega)]
        · have e3 : ¬ rR fg X L at_ ≤ at_ + 3 := fun q => by
            have : nmB X L at_ = true := decide_eq_true ⟨e, q⟩
            rw [c] at this
            exact absurd this (by decide)
          rw [if_neg (nI_neq (by omega) (by omega) e), pk_sub s1, if_neg (show ¬ nI (rR fg X L at_ - at_) ≤ (3 : Int32) from nI_ge (a := 3) (by omega) (by omega))]
          unfold f3_faultAt
          rw [zb2_e, nI_clamp (by omega)]
      · rw [L6_reads_52, b6, zb1_e, if_neg (nI_ge (by omega) (by omega)), if_neg (show ¬ tok = (2 : Int32) from k6 c)]
    · obtain ⟨t1, t2, t3⟩ := k5 c
      have cc : rR fg X L at_ ≠ at_ ∧ rR fg X L at_ ≤ at_ + 3 := of_decide_eq_true c
      obtain ⟨e, he⟩ : ∃ e, rR fg X L at_ = e := ⟨_, rfl⟩
      rw [he] at s1 s2 s3 s4 t2 t3 cc
      have nv := v3_number x s1 s4 (by omega) (fun j h1 h2 => (s2 j h1 h2).2)
      obtain ⟨b1, _, _, b4⟩ := rR_spec bl X L (L - e) e rfl
      have b4 := b4 s4
      obtain ⟨mat1, tok1, val1, g1, g2⟩ := v6_scans x s4 (nI at_) tok val
      have hr2 : ∀ j, j < n + 1 → upd nums (i * 4 + n) (nI (nmV X at_ (e - at_))) (4 * i + j) = upd items (5 * i + 1 + n) (nI (nmV X at_ (e - at_))) (5 * i + 1 + j) := fun j hj => by
        by_cases q : j = n
        · rw [q, show 4 * i + n = i * 4 + n by omega, pk_us, pk_us]
        · rw [pk_un (by omega), pk_un (by omega)]
          exact hr j (by omega)
      have cl : ∀ k, L3_afterItem_38 k (nI L) zNone tbytes words (nI i) (nI w) (fu + 1) (nI at_) (nI n) nums = L3_afterItem_38 k (nI L) zNone tbytes words (nI i) (nI w) fu (nI (rR bl X L e)) (nI (n + 1)) (upd nums (i * 4 + n) (nI (nmV X at_ (e - at_)))) := fun k => by
        rw [L3_afterItem_38, b5, zb1_e, if_neg (nI_ge (by omega) (by omega)), v3_afterFigures x hat, he, zb1_e, if_neg (nI_neq (by omega) (by omega) cc.1), pk_sub s1, if_pos (show nI (e - at_) ≤ (3 : Int32) from nI_le (b := 3) (by omega) (by omega)), nv, zb1_e, show (4 : Int32) = nI 4 from rfl, pk_mul, nI_add, zg_n (by omega) (by decide), v3_afterBlanks x s4, zb1_e, nI_clamp (by omega), nI_1]
      have ml : ∀ k, L6_reads_52 k (nI L) text (nI i) (nI w) (fu' + 1) (nI n) mat (nI at_) tok val items = L6_reads_52 k (nI L) text (nI i) (nI w) fu' (nI (n + 1)) mat1 (nI (rR bl X L e)) tok1 val1 (upd items (5 * i + 1 + n) (nI (nmV X at_ (e - at_)))) := fun k => by
        rw [L6_reads_52, b6, zb1_e, if_neg (nI_ge (by omega) (by omega)), if_pos (show tok = (2 : Int32) from t1), show (5 : Int32) = nI 5 from rfl, pk_mul, nI_1, nI_add, zg_n (by omega) (by decide), t2, g1, zb4_e, nI_clamp (by omega), nI_1, t3]
      rcases ih (n + 1) (rR bl X L e) fu fu' mat1 tok1 val1 _ _ (by omega) (by omega) (by omega) b4 g2 hr2 with ⟨f, nums', items', mat', tok', val', h0, h1, h2⟩ | ⟨at', nums', items', mat', tok', val', h0, h1, h2, h3, h4, h5, h6, h7, h8⟩
      · exact Or.inl ⟨f, nums', items', mat', tok', val', h0, fun k => by rw [cl, h1], fun k => by rw [ml, h2]⟩
      · refine Or.inr ⟨at', nums', items', mat', tok', val', h0, h1, fun k => by rw [cl, h2], fun k => by rw [ml, h3], h4, fun y hy => ?_, fun y hy => ?_, ?_, fun _ => rfl⟩
        · rw [h5 y hy, pk_un (by omega)]
        · rw [h6 y hy, pk_un (by omega)]
        · obtain ⟨h7a, h7b⟩ := h7
          by_cases m0 : m = 0
          · omega
          · have q := h8 (by omega)
            have q1 : rR fg X L (rR bl X L e) ≠ rR bl X L e := (of_decide_eq_true q).1
            have q2 : rR bl X L e ≠ e := fun q => by
              rw [q] at q1
              exact q1 (rR_n s3)
            omega
def RI (i : Nat) (words nums items : Nat → Int32) : Prop := ∀ i', i' < i → ∃ w, w < 7 ∧ words i' = nI w ∧ items (5 * i') = nI w ∧ ∀ j, j < nb w → nums (4 * i' + j) = items (5 * i' + 1 + j)
theorem it_item {L : Nat} {tbytes text : Nat → Int32} {X : Nat → Nat} (x : TX L tbytes text X) {i a : Nat} (hi : i < 25) (ha : a < L) {mat tok val : Int32} (tk : TK X L a mat tok val) {words nums items : Nat → Int32} (ri : RI i words nums items) :
    (∃ (f : Nat) (words' nums' items' : Nat → Int32) (mat' tok' val' : Int32), f ≤ L ∧ f3_afterItem (nI L) zNone tbytes words nums (nI i) (nI a) = some (nI f, nI f, words', nums') ∧
      (∀ k fu, L6_reads_14 k (nI L) text (fu + 1) mat (nI a) tok val (nI i) items = some (0, mat', nI f, tok', val', nI i, items'))) ∨
    (∃ (a' : Nat) (words' nums' items' : Nat → Int32) (mat' tok' val' : Int32), a' ≤ L ∧ a + 6 ≤ a' ∧ TK X L a' mat' tok' val' ∧ RI (i + 1) words' nums' items' ∧ f3_afterItem (nI L) zNone tbytes words nums (nI i) (nI a) = some (nI a', zNone, words', nums') ∧
      (∀ k fu, L6_reads_14 k (nI L) text (fu + 1) mat (nI a) tok val (nI i) items = L6_reads_14 k (nI L) text fu mat' (nI a') tok' val' (nI (i + 1)) items')) := by
  have hL := x.1
  obtain ⟨k1, k2, k3, k4, k5, k6, k7, k8⟩ := tk
  have t0 := k2 ha
  have wa := v3_wordAt x (a := a) (by omega)
  obtain ⟨s1, s2, s3, s4⟩ := rR_spec lt X L (L - a) a rfl
  have s4 := s4 (by omega)
  have s5 := v3_afterLetters x (a := a) (by omega)
  obtain ⟨e, he⟩ : ∃ e, rR lt X L a = e := ⟨_, rfl⟩
  rw [he] at wa s1 s2 s3 s4 s5 k3 k4
  rcases wd_cases X a e with c | ⟨w, hw, c⟩
  · refine Or.inl ⟨a, words, nums, items, mat, tok, val, by omega, ?_, fun k fu => ?_⟩
    · unfold f3_afterItem
      rw [wa, c, zb1_e, if_pos (show zNone = -1 from rfl)]
      rfl
    · rw [L6_reads_14, if_neg t0, zl_e, if_neg (k3 ha c)]
  · obtain ⟨r1, r2⟩ := k4 w hw c
    have wlen := wd_len hw c
    have wl2 := (wl_le w hw).1
    have hnb := nb_le w
    obtain ⟨b1, _, _, b4⟩ := rR_spec bl X L (L - e) e rfl
    have b4 := b4 s4
    obtain ⟨mat1, tok1, val1, g1, g2⟩ := v6_scans x s4 (nI a) tok val
    have cl : f3_afterItem (nI L) zNone tbytes words nums (nI i) (nI a) = L3_afterItem_38 (fun y31 tnumbers_32 => zb1 (f3_byteAt (nI L) tbytes y31) (fun r33 => if r33 = (59 : Int32) then zb1 (f3_afterBlanks (nI L) tbytes (y31 + (1 : Int32))) (fun r36 => some (r36, zNone, (upd words (nI i).toNatClampNeg (nI w)), tnumbers_32)) else zb2 (f3_faultAt zNone y31) (fun r38 tfault_39 => some (r38, tfault_39, (upd words (nI i).toNatClampNeg (nI w)), tnumbers_32)))) (nI L) zNone tbytes words (nI i) (nI w) FU (nI (rR bl X L e)) (0 : Int32) nums := by
      unfold f3_afterItem
      rw [wa, c, zb1_e, if_neg (show ¬ nI w = (-1 : Int32) from nI_ne_none (by omega)), zg_n (by omega) (by decide), s5, zb1_e, v3_afterBlanks x s4, zb1_e]
    have ml : ∀ k fu, L6_reads_14 k (nI L) text (fu + 1) mat (nI a) tok val (nI i) items = L6_reads_52 (fun mat_39 mstart_40 mtoken_41 mvalue_42 items_43 => if mtoken_41 = (3 : Int32) then zl ((nI i + (1 : Int32))) (fun x45 => zb4 (f6_scans (nI L) mat_39 mstart_40 mtoken_41 mvalue_42 text) (fun mat_46 mstart_47 mtoken_48 mvalue_49 => L6_reads_14 k (nI L) text fu mat_46 mstart_47 mtoken_48 mvalue_49 x45 items_43)) else some ((0 : Int32), mat_39, mstart_40, mtoken_41, mvalue_42, nI i, items_43)) (nI L) text (nI i) (nI w) FU (0 : Int32) mat1 (nI (rR bl X L e)) tok1 val1 (upd items (5 * i) (nI w)) := fun k fu => by
      have e4 : nI (4 + w) - (4 : Int32) = nI w := by
        rw [show (4 : Int32) = nI 4 from rfl, pk_sub (by omega), show 4 + w - 4 = w by omega]
      have p0 : (0 : Int32) ≤ nI w := nI_le (a := 0) (by omega) (by omega)
      rw [L6_reads_14, if_neg t0, zl_e, r1, e4, if_pos p0, show (5 : Int32) = nI 5 from rfl, pk_mul, zg_n (by omega) (by decide), r2, ← r1, g1, zb4_e, nI_clamp (by omega)]
    rcases it_nums x hi hw words (nb w) 0 (rR bl X L e) FU FU mat1 tok1 val1 nums (upd items (5 * i) (nI w)) (by omega) (by unfold FU; omega) (by unfold FU; omega) b4 g2 (fun j hj => absurd hj (by omega)) with ⟨f, nums', items', mat', tok', val', h0, h1, h2⟩ | ⟨at', nums', items', mat', tok', val', h0, h1, h2, h3, h4, h5, h6, h7, h8⟩
    · rw [show nI 0 = (0 : Int32) from rfl] at h1 h2
      exact Or.inl ⟨f, upd words i (nI w), nums', items', mat', tok', val', h0, by rw [cl, h1], fun k fu => by rw [ml, h2]⟩
    · rw [show nI 0 = (0 : Int32) from rfl] at h2 h3
      obtain ⟨k1', k2', k3', k4', k5', k6', k7', k8'⟩ := h1
      have hb := v3_byteAt x (a := at') (by omega)
      cases c3 : scB X L at'
      · refine Or.inl ⟨at', upd words i (nI w), nums', items', mat', tok', val', h0, ?_, fun k fu => ?_⟩
        · have n59 : ¬ (if at' < L then nI (X at') else zNone) = (59 : Int32) := fun q => by
            by_cases q1 : at' < L
            · rw [if_pos q1] at q
              have hv := x.2 at' q1
              have q2 : X at' = 59 := (nI_eq (b := 59) (by omega) (by omega)).mp q
              have : scB X L at' = true := decide_eq_true ⟨q1, q2⟩
              rw [c3] at this
              exact absurd this (by decide)
            · rw [if_neg q1] at q
              exact absurd q (by decide)
          rw [cl, h2, hb, zb1_e, if_neg n59, nI_clamp (by omega)]
          rfl
        · rw [ml, h3, if_neg (show ¬ tok' = (3 : Int32) from k8' c3)]
      · obtain ⟨t1, t2⟩ := k7' c3
        have q : at' < L ∧ X at' = 59 := of_decide_eq_true c3
        obtain ⟨d1, _, _, d4⟩ := rR_spec bl X L (L - (at' + 1)) (at' + 1) rfl
        have d4 := d4 (by omega)
        obtain ⟨mat2, tok2, val2, g3, g4⟩ := v6_scans x (p := at' + 1) (by omega) (nI at') tok' val'
        refine Or.inr ⟨rR bl X L (at' + 1), upd words i (nI w), nums', items', mat2, tok2, val2, d4, by omega, g4, fun i' hi' => ?_, ?_, fun k fu => ?_⟩
        · by_cases qi : i' = i
          · subst qi
            exact ⟨w, hw, by rw [pk_us], by rw [h6 _ (by omega), pk_us], h4⟩
          · obtain ⟨w2, a1, a2, a3, a4⟩ := ri i' (by omega)
            have hnb2 := nb_le w2
            exact ⟨w2, a1, by rw [pk_un (by omega), a2], by rw [h6 _ (by omega), pk_un (by omega), a3], fun j hj => by rw [h5 _ (by omega), h6 _ (by omega), pk_un (by omega)]; exact a4 j hj⟩
        · rw [cl, h2, hb, zb1_e, if_pos (show (if at' < L then nI (X at') else zNone) = (59 : Int32) by rw [if_pos q.1, q.2]; rfl), nI_1, v3_afterBlanks x (by omega), zb1_e, nI_clamp (by omega)]
        · rw [ml, h3, if_pos (show tok' = (3 : Int32) from t1), zl_e, t2, g3, zb4_e, nI_1]
theorem it_all {L : Nat} {tbytes text : Nat → Int32} {X : Nat → Nat} (x : TX L tbytes text X) : ∀ (m i a fu fu' : Nat) (mat tok val : Int32) (words nums items : Nat → Int32), L - a ≤ m → m + 1 < fu → m < fu' → a ≤ L → 6 * i ≤ a → TK X L a mat tok val → RI i words nums items →
    (∃ (f i' : Nat) (words' nums' items' : Nat → Int32) (mat' tok' val' many' : Int32), f ≤ L ∧ (∀ k, L3_findFault_18 k (nI L) tbytes fu (nI a) (nI i) (nI i) zNone words nums = k (nI i') (nI f) words' nums') ∧
      (∀ k, L6_reads_14 k (nI L) text fu' mat (nI a) tok val (nI i) items = some (0, mat', nI f, tok', val', many', items'))) ∨
    (∃ (i' : Nat) (words' nums' items' : Nat → Int32) (mat' ms' tok' val' : Int32), i' ≤ 25 ∧ RI i' words' nums' items' ∧ (∀ k, L3_findFault_18 k (nI L) tbytes fu (nI a) (nI i) (nI i) zNone words nums = k (nI i') zNone words' nums') ∧
      (∀ k, L6_reads_14 k (nI L) text fu' mat (nI a) tok val (nI i) items = k mat' ms' tok' val' (nI i') items')) := by
  have hL := x.1
  intro m
  induction m with
  | zero =>
    intro i a fu fu' mat tok val words nums items hm hf hf' ha h6 tk ri
    obtain ⟨fu, rfl⟩ : ∃ m, fu = m + 1 := ⟨fu - 1, by omega⟩
    obtain ⟨fu', rfl⟩ : ∃ m, fu' = m + 1 := ⟨fu' - 1, by omega⟩
    refine Or.inr ⟨i, words, nums, items, mat, nI a, tok, val, by omega, ri, fun k => ?_, fun k => ?_⟩
    · rw [L3_findFault_18, if_pos (show nI L ≤ nI a from nI_le (by omega) (by omega))]
      split <;> rfl
    · rw [L6_reads_14, if_pos (show tok = 0 from tk.1 (by omega))]
  | succ m ih =>
    intro i a fu fu' mat tok val words nums items hm hf hf' ha h6 tk ri
    obtain ⟨fu, rfl⟩ : ∃ m, fu = m + 1 := ⟨fu - 1, by omega⟩
    obtain ⟨fu', rfl⟩ : ∃ m, fu' = m + 1 := ⟨fu' - 1, by omega⟩
    by_cases c : a < L
    · have hi : i < 25 := by omega
      have n25 : ¬ (25 : Int32) ≤ nI i := nI_ge (b := 25) (by omega) (by omega)
      rcases it_item x hi c tk ri with ⟨f, words', nums', items', mat', tok', val', h0, h1, h2⟩ | ⟨a', words', nums', items', mat', tok', val', h0, h1, h2, h3, h4, h5⟩
      · refine Or.inl ⟨f, i + 1, words', nums', items', mat', tok', val', nI i, h0, fun k => ?_, fun k => by rw [h2]⟩
        obtain ⟨fu, rfl⟩ : ∃ m, fu = m + 1 := ⟨fu - 1, by omega⟩
        rw [L3_findFault_18, if_neg n25, if_neg (nI_ge (by omega) (by omega)), if_pos (show zNone = -1 from rfl), h1, zb4_e, zl_e, nI_1, L3_findFault_18, if_neg (show ¬ nI f = (-1 : Int32) from nI_ne_none (by omega))]
        split
        · rfl
        · split <;> rfl
      · have cl : ∀ k, L3_findFault_18 k (nI L) tbytes (fu + 1) (nI a) (nI i) (nI i) zNone words nums = L3_findFault_18 k (nI L) tbytes fu (nI a') (nI (i + 1)) (nI (i + 1)) zNone words' nums' := fun k => by
          rw [L3_findFault_18, if_neg n25, if_neg (nI_ge (by omega) (by omega)), if_pos (show zNone = -1 from rfl), h4, zb4_e, zl_e, nI_1]
        rcases ih (i + 1) a' fu fu' mat' tok' val' words' nums' items' (by omega) (by omega) (by omega) h0 (by omega) h2 h3 with ⟨f, i2, w2, n2, it2, m2, t2, v2, y2, q1, q2, q3⟩ | ⟨i2, w2, n2, it2, m2, s2, t2, v2, q1, q2, q3, q4⟩
        · exact Or.inl ⟨f, i2, w2, n2, it2, m2, t2, v2, y2, q1, fun k => by rw [cl, q2], fun k => by rw [h5, q3]⟩
        · exact Or.inr ⟨i2, w2, n2, it2, m2, s2, t2, v2, q1, q2, fun k => by rw [cl, q3], fun k => by rw [h5, q4]⟩
    · refine Or.inr ⟨i, words, nums, items, mat, nI a, tok, val, by omega, ri, fun k => ?_, fun k => ?_⟩
      · rw [L3_findFault_18, if_pos (show nI L ≤ nI a from nI_le (by omega) (by omega))]
        split <;> rfl
      · rw [L6_reads_14, if_pos (show tok = 0 from tk.1 (by omega))]
theorem it_find {L : Nat} {tbytes text : Nat → Int32} {X : Nat → Nat} (x : TX L tbytes text X) (ti tf : Int32) (words nums items : Nat → Int32) (ma ms mt mv my : Int32) :
    (∃ (f : Nat) (i' : Int32) (words' nums' items' : Nat → Int32) (mat' tok' val' many' : Int32), f ≤ L ∧ f3_findFault (nI L) ti tf tbytes words nums = some (nI f, i', nI f, words', nums') ∧
      f6_reads (nI L) ma ms mt mv my text items = some (0, mat', nI f, tok', val', many', items')) ∨
    (∃ (i' : Nat) (words' nums' items' : Nat → Int32) (mat' ms' tok' val' : Int32), i' ≤ 25 ∧ RI i' words' nums' items' ∧ f3_findFault (nI L) ti tf tbytes words nums = some (-1, nI i', -1, words', nums') ∧
      f6_reads (nI L) ma ms mt mv my text items = some (1, mat', ms', tok', val', nI i', items')) := by
  have hL := x.1
  obtain ⟨mat, tok, val, g1, g2⟩ := v6_scans x (p := 0) (by omega) ms mt mv
  have d4 := (rR_spec bl X L (L - 0) 0 rfl).2.2.2 (by omega)
  have vb := v3_afterBlanks x (a := 0) (by omega)
  rw [show nI 0 = (0 : Int32) from rfl] at g1 vb
  unfold f3_findFault f6_reads
  rw [vb, zb1_e, g1, zb4_e]
  rcases it_all x L 0 (rR bl X L 0) FU FU mat tok val words nums items (by omega) (by unfold FU; omega) (by unfold FU; omega) d4 (by omega) g2 (fun i hi => absurd hi (by omega)) with ⟨f, i2, w2, n2, it2, m2, t2, v2, y2, q1, q2, q3⟩ | ⟨i2, w2, n2, it2, m2, s2, t2, v2, q1, q2, q3, q4⟩
  · rw [show nI 0 = (0 : Int32) from rfl] at q2 q3
    exact Or.inl ⟨f, nI i2, w2, n2, it2, m2, t2, v2, y2, q1, q2 _, by rw [q3]⟩
  · rw [show nI 0 = (0 : Int32) from rfl] at q3 q4
    exact Or.inr ⟨i2, w2, n2, it2, m2, s2, t2, v2, q1, q2, q3 _, by rw [q4]⟩
