/-! Holders. -/
theorem hold_cases (p : Int32) : (F_X8_holderAt p = some 6 ∧ F_X9_isHolder p = some 0) ∨ ∃ h : Nat, h < 6 ∧ p = Int32.ofNat h ∧ F_X8_holderAt p = some h ∧ F_X9_isHolder p = some 1 := by
  unfold F_X8_holderAt F_X9_isHolder
  rcases n_cases p with hp | ⟨n, hn, rfl⟩
  · exact Or.inl ⟨by rw [if_pos hp], by rw [in9neg hp, bd_s]⟩
  · have e5 : (5 : Int64).toInt = 5 := rfl
    rw [if_neg (n_neg hn), in9n hn, bd_s, e5]
    by_cases c : n < 6
    · refine Or.inr ⟨n, c, rfl, ?_, ?_⟩
      · rw [if_neg (show ¬ ((6 : Int32) ≤ Int32.ofNat n) from c_ge (m := 6) (by omega) (by omega) c), ck_n c (by omega), n_clamp (by omega)]
      · rw [if_pos (by omega)]
    · refine Or.inl ⟨?_, ?_⟩
      · rw [if_pos (show (6 : Int32) ≤ Int32.ofNat n from (n_le (a := 6) (by omega) hn).mpr (by omega))]
      · rw [if_neg (by omega)]
theorem h_ne6 {h : Nat} (hh : h < 6) : ¬ h = 6 := by omega
theorem ls_lose : LS_lose LR := by
  intro k d_x_deeds_desks q_x_deeds_desks x_imageKept x_desk_genus x_desk_size x_desk_limit x_desk_tree a_x_desk_powers x_imageDesk_genus x_imageDesk_size x_imageDesk_limit x_imageDesk_tree a_x_imageDesk_powers x_deeds_now x_deeds_last a_x_deeds_desks x_deeds_desks_genus x_deeds_desks_size x_deeds_desks_limit x_deeds_desks_tree x_numbers_round x_numbers_size x_numbers_sum x_numbers_gathered a_x_numbers_keys a_x_numbers_aboves a_x_numbers_rounds x_reader_refused x_reader_place x_reader_cannotBe x_tape_size a_x_tape_bytes x_reader_told_genus x_reader_told_size x_reader_told_limit x_reader_told_tree a_x_reader_told_powers a_x_reader_causes x_speller_size a_x_speller_bytes a_x_holders x_holders_sort x_holders_tree x_holders_limit x_holders_above x_holders_size m_genus m_marks m_leaves m_splits m_done m_undone m_metMany m_treesSeen m_taped m_place m_isWrong m_toldGenus m_toldMarks m_isTree m_toldLeaves m_leavesPlace m_toldSplits m_isWhy m_papered m_isKept a_m_powers a_m_tree a_m_ahead a_m_behind a_m_before a_m_rows a_m_met a_m_metSizes a_m_chosen a_m_tape a_m_toldPowers a_m_powerPlaces a_m_toldTree a_m_splitPlaces a_m_layers a_m_paper a_m_held a_m_numbers a_m_sizes a_m_heldLeaves a_m_items a_m_kept p0 hk hLR
  obtain ⟨us, cur, rs, bs, hV, h8, h9, hH8, hH9, hT, hTP, hWY, hHO, hIM⟩ := hLR
  have hVc : VD cur := hV cur (List.mem_append_right _ List.mem_cons_self)
  rcases hold_cases p0 with ⟨e8, e9⟩ | ⟨h, hh, rfl, e8, e9⟩
  · refine ⟨-1, x_holders_sort, a_m_held, ?_, ?_, ⟨us, cur, rs, bs, hV, h8, h9, hH8, hH9, TN_mono hT, hTP, hWY, hHO, hIM⟩⟩
    · unfold F_X8_lose; rw [e8, bd_s, if_pos rfl]
    · unfold F_X9_lose; rw [e9, bd_s, if_pos i00]
  · refine ⟨x_holders_sort h, (va_up x_holders_sort h (0 : Int32)), (upd a_m_held h (0 : Int32)), ?_, ?_, us, cur, rs, bs, hV, h8, h9, hH8, hH9, TN_mono hT, hTP, hWY, fun j hj => ?_, hIM⟩
    · unfold F_X8_lose; rw [e8, bd_s, if_neg (h_ne6 hh)]
    · unfold F_X9_lose; rw [e9, bd_s, if_neg i10, ck_n hh (by omega), ck_n hh (by omega), n_clamp (by omega), (hHO h hh).1]
    · by_cases c : j = h
      · subst c; simp only [va_up_e, upd_e, if_true]; exact ⟨trivial, Or.inl trivial⟩
      · simp only [va_up_e, upd_e, if_neg c]; exact hHO j hj
theorem holdRow8 (f : Nat → Int32) (p : Int32) : F_X2_holdRow f p = some ((fun k => if k < 20 then 0 else f k), (3 : Int32), p) := by
  unfold F_X2_holdRow
  have e0 : (fun k => if k < 0 then (0 : Int32) else f k) = f := by funext k; simp
  conv => lhs; rw [← e0]
  refine wq2_it 20 (fun j k => if k < j then (0 : Int32) else f k) (fun j => Int32.ofNat j) (fun j hj ag => ?_) (fun ag => ?_) FU (by unfold FU; omega)
  · unfold B_X2_holdRow_12
    have q : ¬ ((20 : Int32) ≤ Int32.ofNat j) := c_ge (m := 20) (by omega) (by omega) hj
    rw [if_neg q, ck_n hj (by omega), n_clamp (by omega), show (1 : Int32) = Int32.ofNat 1 from rfl, n_add]
    congr 1
    funext k
    rw [upd_e]
    by_cases e : k = j
    · subst e; rw [if_pos rfl, if_pos (by omega)]
    · rw [if_neg e]
      by_cases d : k < j
      · rw [if_pos d, if_pos (by omega)]
      · rw [if_neg d, if_neg (by omega)]
  · unfold B_X2_holdRow_12
    rw [if_pos (by decide)]
    rfl
theorem row9 {h : Nat} (hh : h < 6) (held sizes items : Nat → Int32) (p : Int32) : wq2 (B_X9_row_38 (Int32.ofNat h) (K_X9_row_38_62 held sizes (Int32.ofNat h) p)) FU items (0 : Int32) = some (p, upd held h (3 : Int32), upd sizes h p, (fun k => if 20 * h ≤ k ∧ k < 20 * h + 20 then 0 else items k)) := by
  have e0 : (fun k => if 20 * h ≤ k ∧ k < 20 * h + 0 then (0 : Int32) else items k) = items := by funext k; rw [if_neg (by omega)]
  conv => lhs; rw [← e0]
  refine wq2_it 20 (fun j k => if 20 * h ≤ k ∧ k < 20 * h + j then (0 : Int32) else items k) (fun j => Int32.ofNat j) (fun j hj ag => ?_) (fun ag => ?_) FU (by unfold FU; omega)
  · unfold B_X9_row_38
    have q : ¬ ((20 : Int32) ≤ Int32.ofNat j) := c_ge (m := 20) (by omega) (by omega) hj
    have e20 : (20 : Int32) * Int32.ofNat h = Int32.ofNat (20 * h) := n_mul 20 h
    rw [if_neg q, e20, n_add, ck_n (by omega) (by omega), n_clamp (by omega), show (1 : Int32) = Int32.ofNat 1 from rfl, n_add]
    congr 1
    funext k
    rw [upd_e]
    by_cases e : k = 20 * h + j
    · subst e; rw [if_pos rfl, if_pos (by omega)]
    · rw [if_neg e]
      by_cases d : 20 * h ≤ k ∧ k < 20 * h + j
      · rw [if_pos d, if_pos (by omega)]
      · rw [if_neg d, if_neg (by omega)]
  · unfold B_X9_row_38 K_X9_row_38_62
    rw [if_pos (by decide), n_clamp (by omega)]
theorem ls_row : LS_row LR := by
  intro k d_x_deeds_desks q_x_deeds_desks x_imageKept x_desk_genus x_desk_size x_desk_limit x_desk_tree a_x_desk_powers x_imageDesk_genus x_imageDesk_size x_imageDesk_limit x_imageDesk_tree a_x_imageDesk_powers x_deeds_now x_deeds_last a_x_deeds_desks x_deeds_desks_genus x_deeds_desks_size x_deeds_desks_limit x_deeds_desks_tree x_numbers_round x_numbers_size x_numbers_sum x_numbers_gathered a_x_numbers_keys a_x_numbers_aboves a_x_numbers_rounds x_reader_refused x_reader_place x_reader_cannotBe x_tape_size a_x_tape_bytes x_reader_told_genus x_reader_told_size x_reader_told_limit x_reader_told_tree a_x_reader_told_powers a_x_reader_causes x_speller_size a_x_speller_bytes a_x_holders x_holders_sort x_holders_tree x_holders_limit x_holders_above x_holders_size m_genus m_marks m_leaves m_splits m_done m_undone m_metMany m_treesSeen m_taped m_place m_isWrong m_toldGenus m_toldMarks m_isTree m_toldLeaves m_leavesPlace m_toldSplits m_isWhy m_papered m_isKept a_m_powers a_m_tree a_m_ahead a_m_behind a_m_before a_m_rows a_m_met a_m_metSizes a_m_chosen a_m_tape a_m_toldPowers a_m_powerPlaces a_m_toldTree a_m_splitPlaces a_m_layers a_m_paper a_m_held a_m_numbers a_m_sizes a_m_heldLeaves a_m_items a_m_kept p0 p1 hk hLR
  obtain ⟨us, cur, rs, bs, hV, h8, h9, hH8, hH9, hT, hTP, hWY, hHO, hIM⟩ := hLR
  have hVc : VD cur := hV cur (List.mem_append_right _ List.mem_cons_self)
  rcases hold_cases p0 with ⟨e8, e9⟩ | ⟨h, hh, rfl, e8, e9⟩
  · refine ⟨-1, a_x_holders, x_holders_size, x_holders_sort, a_m_held, a_m_sizes, a_m_items, ?_, ?_, ⟨us, cur, rs, bs, hV, h8, h9, hH8, hH9, TN_mono hT, hTP, hWY, hHO, hIM⟩⟩
    · unfold F_X8_row; rw [e8, bd_s, if_pos rfl]
    · unfold F_X9_row; rw [e9, bd_s, if_pos i00]
  by_cases c : p1 ≤ (20 : Int32)
  · by_cases d : 0 ≤ p1
    · have d1 : 0 ≤ p1.toInt := by rw [Int32.le_iff_toInt_le] at d; exact d
      obtain ⟨n, hn, rfl⟩ := i_ofNat d1
      have hn20 : n ≤ 20 := (n_le (b := 20) hn (by omega)).mp c
      refine ⟨Int32.ofNat n, (va_up a_x_holders h (fun k => if k < 20 then 0 else a_x_holders h k)), (va_up x_holders_size h (Int32.ofNat n)), (va_up x_holders_sort h (3 : Int32)), (upd a_m_held h (3 : Int32)), (upd a_m_sizes h (Int32.ofNat n)), (fun k => if 20 * h ≤ k ∧ k < 20 * h + 20 then 0 else a_m_items k), ?_, ?_, us, cur, rs, bs, hV, h8, h9, hH8, hH9, TN_mono hT, hTP, hWY, fun j hj => ?_, hIM⟩
      · unfold F_X8_row; rw [e8, bd_s, if_neg (h_ne6 hh), if_pos c, if_pos d, holdRow8, bd_s]
      · unfold F_X9_row; rw [e9, bd_s, if_neg i10, if_pos c, if_pos d, ck_n hh (by omega), ck_n hh (by omega), row9 hh]
      · by_cases z : j = h
        · subst z
          simp only [va_up_e, upd_e, if_true]
          refine ⟨trivial, Or.inr (Or.inr (Or.inr ⟨trivial, n, hn20, rfl, rfl, fun k hk => ?_⟩))⟩
          rw [if_pos (by omega), if_pos (by omega)]
        · simp only [va_up_e, upd_e, if_neg z]
          obtain ⟨g1, g2⟩ := hHO j hj
          refine ⟨g1, ?_⟩
          rcases g2 with g2 | g2 | ⟨g2, L, ts, l1, l2, l3, l4, l5, l6, l7, l8⟩ | ⟨g2, m, l1, l2, l3, l4⟩
          · exact Or.inl g2
          · exact Or.inr (Or.inl g2)
          · refine Or.inr (Or.inr (Or.inl ⟨g2, L, ts, l1, l2, l3, l4, l5, l6, l7, fun k hk => ?_⟩))
            have := vt_len l1 l2 l3
            rw [if_neg (by omega)]; exact l8 k hk
          · refine Or.inr (Or.inr (Or.inr ⟨g2, m, l1, l2, l3, fun k hk => ?_⟩))
            rw [if_neg (by omega)]; exact l4 k hk
    · refine ⟨-14, a_x_holders, x_holders_size, x_holders_sort, a_m_held, a_m_sizes, a_m_items, ?_, ?_, ⟨us, cur, rs, bs, hV, h8, h9, hH8, hH9, TN_mono hT, hTP, hWY, hHO, hIM⟩⟩
      · unfold F_X8_row; rw [e8, bd_s, if_neg (h_ne6 hh), if_pos c, if_neg d]
      · unfold F_X9_row; rw [e9, bd_s, if_neg i10, if_pos c, if_neg d]
  · refine ⟨-1, a_x_holders, x_holders_size, x_holders_sort, a_m_held, a_m_sizes, a_m_items, ?_, ?_, ⟨us, cur, rs, bs, hV, h8, h9, hH8, hH9, TN_mono hT, hTP, hWY, hHO, hIM⟩⟩
    · unfold F_X8_row; rw [e8, bd_s, if_neg (h_ne6 hh), if_neg c]
    · unfold F_X9_row; rw [e9, bd_s, if_neg i10, if_neg c]
theorem place8 {n : Nat} (hn : n ≤ 20) (p : Int32) : F_X2_hasPlace (Int32.ofNat n) p = some (if 0 ≤ p.toInt ∧ p.toInt < n then 1 else 0) := by
  unfold F_X2_hasPlace
  rcases n_cases p with hp | ⟨m, hm, rfl⟩
  · have := i_neg hp
    rw [if_pos hp, if_neg (by omega)]
  · rw [if_neg (n_neg hm), n_toInt hm]
    by_cases c : n ≤ m
    · rw [if_pos ((n_le (by omega) hm).mpr c), if_neg (by omega)]
    · have c2 : ¬ ((20 : Int32) ≤ Int32.ofNat m) := c_ge (m := 20) (by omega) hm (by omega)
      rw [if_neg (fun z => c ((n_le (by omega) hm).mp z)), if_neg c2, if_pos (by omega)]
theorem place9 {n : Nat} (hn : n ≤ 20) (p : Int32) : F_X9_in p.toInt64 (0 : Int64) (Int32.ofNat n - (1 : Int32)).toInt64 = some (if 0 ≤ p.toInt ∧ p.toInt < n then 1 else 0) := by
  rw [in9i, n_pred64 (by omega)]
  have : (0 : Int64).toInt = 0 := rfl
  rw [this]
  by_cases c : 0 ≤ p.toInt ∧ p.toInt < n
  · rw [if_pos c, if_pos (by omega)]
  · rw [if_neg c, if_neg (by omega)]
/-- what a holder is refused as, if it holds no ROW -/
theorem rowless9 {h : Nat} (hh : h < 6) (held : Nat → Int32) : F_X9_rowless held (Int32.ofNat h) = F_X8_refusalOf (held h) (3 : Int32) := by
  unfold F_X9_rowless F_X8_refusalOf
  rw [ck_n hh (by omega), ck_n hh (by omega), n_clamp (by omega)]
theorem refusal3 (x : Int32) : (x = 3 ∧ F_X8_refusalOf x (3 : Int32) = some 0) ∨ (¬ x = 3 ∧ ∃ r, ¬ r = 0 ∧ F_X8_refusalOf x (3 : Int32) = some r) := by
  unfold F_X8_refusalOf
  by_cases c : x = 3
  · subst c; exact Or.inl ⟨rfl, by decide⟩
  · refine Or.inr ⟨c, ?_⟩
    by_cases d : x = 0
    · exact ⟨-11, by decide, by rw [if_pos d]⟩
    · exact ⟨-12, by decide, by rw [if_neg d, if_neg c]⟩
theorem HO_row {a8 : Nat → Nat → Int32} {sort : Nat → Int32} {tree : Nat → Int64} {limit : Nat → Int32} {above : Nat → Int64} {size held : Nat → Int32} {numbers : Nat → Int64} {sizes heldLeaves items : Nat → Int32} (hHO : HO a8 sort tree limit above size held numbers sizes heldLeaves items) {h : Nat} (hh : h < 6) (h3 : sort h = 3) :
    ∃ n : Nat, n ≤ 20 ∧ size h = Int32.ofNat n ∧ sizes h = Int32.ofNat n ∧ ∀ k, k < n → a8 h k = items (20 * h + k) := by
  obtain ⟨-, g⟩ := hHO h hh
  rw [h3] at g
  rcases g with g | g | g | g
  · exact absurd g (by decide)
  · exact absurd g.1 (by decide)
  · exact absurd g.1 (by decide)
  · exact g.2
theorem ls_get : LS_get LR := by
  intro k d_x_deeds_desks q_x_deeds_desks x_imageKept x_desk_genus x_desk_size x_desk_limit x_desk_tree a_x_desk_powers x_imageDesk_genus x_imageDesk_size x_imageDesk_limit x_imageDesk_tree a_x_imageDesk_powers x_deeds_now x_deeds_last a_x_deeds_desks x_deeds_desks_genus x_deeds_desks_size x_deeds_desks_limit x_deeds_desks_tree x_numbers_round x_numbers_size x_numbers_sum x_numbers_gathered a_x_numbers_keys a_x_numbers_aboves a_x_numbers_rounds x_reader_refused x_reader_place x_reader_cannotBe x_tape_size a_x_tape_bytes x_reader_told_genus x_reader_told_size x_reader_told_limit x_reader_told_tree a_x_reader_told_powers a_x_reader_causes x_speller_size a_x_speller_bytes a_x_holders x_holders_sort x_holders_tree x_holders_limit x_holders_above x_holders_size m_genus m_marks m_leaves m_splits m_done m_undone m_metMany m_treesSeen m_taped m_place m_isWrong m_toldGenus m_toldMarks m_isTree m_toldLeaves m_leavesPlace m_toldSplits m_isWhy m_papered m_isKept a_m_powers a_m_tree a_m_ahead a_m_behind a_m_before a_m_rows a_m_met a_m_metSizes a_m_chosen a_m_tape a_m_toldPowers a_m_powerPlaces a_m_toldTree a_m_splitPlaces a_m_layers a_m_paper a_m_held a_m_numbers a_m_sizes a_m_heldLeaves a_m_items a_m_kept p0 p1 hk hLR
  obtain ⟨us, cur, rs, bs, hV, h8, h9, hH8, hH9, hT, hTP, hWY, hHO, hIM⟩ := hLR
  have hVc : VD cur := hV cur (List.mem_append_right _ List.mem_cons_self)
  rcases hold_cases p0 with ⟨e8, e9⟩ | ⟨h, hh, rfl, e8, e9⟩
  · refine ⟨-9223372036854775808, ?_, ?_, ⟨us, cur, rs, bs, hV, h8, h9, hH8, hH9, TN_mono hT, hTP, hWY, hHO, hIM⟩⟩
    · unfold F_X8_get; rw [e8, bd_s, if_pos rfl]
    · unfold F_X9_get; rw [e9, bd_s, if_pos i00]
  obtain ⟨g1, -⟩ := hHO h hh
  by_cases c : x_holders_sort h = 3
  · obtain ⟨n, hn, s1, s2, s3⟩ := HO_row hHO hh c
    by_cases d : 0 ≤ p1.toInt ∧ p1.toInt < n
    · obtain ⟨i, hi, rfl⟩ := i_ofNat d.1
      have hi2 : i < n := by rw [n_toInt hi] at d; omega
      have e20 : (20 : Int32) * Int32.ofNat h + Int32.ofNat i = Int32.ofNat (20 * h + i) := by rw [show (20 : Int32) = Int32.ofNat 20 from rfl, n_mul, n_add]
      refine ⟨(a_x_holders h i).toInt64, ?_, ?_, ⟨us, cur, rs, bs, hV, h8, h9, hH8, hH9, TN_mono hT, hTP, hWY, hHO, hIM⟩⟩
      · unfold F_X8_get; rw [e8, bd_s, if_neg (h_ne6 hh), if_pos c, s1, place8 hn, if_pos d, bd_s, if_neg i10, ck_n (by omega) (by omega), n_clamp hi]
      · unfold F_X9_get; rw [e9, bd_s, if_neg i10, ck_n hh (by omega), n_clamp (by omega), ← g1, if_pos c, ck_n hh (by omega), s2, place9 hn, if_pos d, bd_s, if_neg i10, e20, ck_n (by omega) (by omega), n_clamp (by omega), s3 i hi2]
    · refine ⟨-9223372036854775808, ?_, ?_, ⟨us, cur, rs, bs, hV, h8, h9, hH8, hH9, TN_mono hT, hTP, hWY, hHO, hIM⟩⟩
      · unfold F_X8_get; rw [e8, bd_s, if_neg (h_ne6 hh), if_pos c, s1, place8 hn, if_neg d, bd_s, if_pos i00]
      · unfold F_X9_get; rw [e9, bd_s, if_neg i10, ck_n hh (by omega), n_clamp (by omega), ← g1, if_pos c, ck_n hh (by omega), s2, place9 hn, if_neg d, bd_s, if_pos i00]
  · refine ⟨-9223372036854775808, ?_, ?_, ⟨us, cur, rs, bs, hV, h8, h9, hH8, hH9, TN_mono hT, hTP, hWY, hHO, hIM⟩⟩
    · unfold F_X8_get; rw [e8, bd_s, if_neg (h_ne6 hh), if_neg c]
    · unfold F_X9_get; rw [e9, bd_s, if_neg i10, ck_n hh (by omega), n_clamp (by omega), ← g1, if_neg c]
