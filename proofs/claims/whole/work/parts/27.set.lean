/-! Rows set and judged. -/
theorem i_max_ck {p : Int32} {n : Nat} (d : 0 ≤ p.toInt ∧ p.toInt < n) : ∃ i : Nat, i < n ∧ i < 2147483648 ∧ p = Int32.ofNat i := by
  obtain ⟨i, hi, rfl⟩ := i_ofNat d.1
  refine ⟨i, ?_, hi, rfl⟩
  rw [n_toInt hi] at d
  omega
theorem ls_set : LS_set LR := by
  intro k d_x_deeds_desks q_x_deeds_desks x_imageKept x_desk_genus x_desk_size x_desk_limit x_desk_tree a_x_desk_powers x_imageDesk_genus x_imageDesk_size x_imageDesk_limit x_imageDesk_tree a_x_imageDesk_powers x_deeds_now x_deeds_last a_x_deeds_desks x_deeds_desks_genus x_deeds_desks_size x_deeds_desks_limit x_deeds_desks_tree x_numbers_round x_numbers_size x_numbers_sum x_numbers_gathered a_x_numbers_keys a_x_numbers_aboves a_x_numbers_rounds x_reader_refused x_reader_place x_reader_cannotBe x_tape_size a_x_tape_bytes x_reader_told_genus x_reader_told_size x_reader_told_limit x_reader_told_tree a_x_reader_told_powers a_x_reader_causes x_speller_size a_x_speller_bytes a_x_holders x_holders_sort x_holders_tree x_holders_limit x_holders_above x_holders_size m_genus m_marks m_leaves m_splits m_done m_undone m_metMany m_treesSeen m_taped m_place m_isWrong m_toldGenus m_toldMarks m_isTree m_toldLeaves m_leavesPlace m_toldSplits m_isWhy m_papered m_isKept a_m_powers a_m_tree a_m_ahead a_m_behind a_m_before a_m_rows a_m_met a_m_metSizes a_m_chosen a_m_tape a_m_toldPowers a_m_powerPlaces a_m_toldTree a_m_splitPlaces a_m_layers a_m_paper a_m_held a_m_numbers a_m_sizes a_m_heldLeaves a_m_items a_m_kept p0 p1 p2 hk hLR
  obtain ⟨us, cur, rs, bs, hV, h8, h9, hH8, hH9, hT, hTP, hWY, hHO, hIM⟩ := hLR
  have hVc : VD cur := hV cur (List.mem_append_right _ List.mem_cons_self)
  rcases hold_cases p0 with ⟨e8, e9⟩ | ⟨h, hh, rfl, e8, e9⟩
  · refine ⟨-1, a_x_holders, a_m_items, ?_, ?_, ⟨us, cur, rs, bs, hV, h8, h9, hH8, hH9, TN_mono hT, hTP, hWY, hHO, hIM⟩⟩
    · unfold F_X8_set; rw [e8, bd_s, if_pos rfl]; rfl
    · unfold F_X9_set; rw [e9, bd_s, if_pos i00]
  obtain ⟨g1, -⟩ := hHO h hh
  rcases refusal3 (x_holders_sort h) with ⟨c, cr⟩ | ⟨c, r, hr, cr⟩
  · obtain ⟨n, hn, s1, s2, s3⟩ := HO_row hHO hh c
    by_cases d : 0 ≤ p1.toInt ∧ p1.toInt < n
    · obtain ⟨i, hi2, hi, rfl⟩ := i_max_ck d
      have e20 : (20 : Int32) * Int32.ofNat h + Int32.ofNat i = Int32.ofNat (20 * h + i) := by rw [show (20 : Int32) = Int32.ofNat 20 from rfl, n_mul, n_add]
      refine ⟨1, (va_up a_x_holders h (upd (a_x_holders h) i p2)), (upd a_m_items (20 * h + i) p2), ?_, ?_, us, cur, rs, bs, hV, h8, h9, hH8, hH9, TN_mono hT, hTP, hWY, fun j hj => ?_, hIM⟩
      · unfold F_X8_set; rw [e8, bd_s, if_neg (h_ne6 hh), cr, bd_s, if_pos i00, s1, place8 hn, if_pos d, bd_s, if_neg i10, ck_n (by omega) (by omega), n_clamp hi]
      · unfold F_X9_set; rw [e9, bd_s, if_neg i10, rowless9 hh, ← g1, cr, bd_s, if_pos i00, ck_n hh (by omega), n_clamp (by omega), s2, place9 hn, if_pos d, bd_s, if_neg i10, e20, ck_n (by omega) (by omega), n_clamp (by omega)]
      · obtain ⟨q1, q2⟩ := hHO j hj
        refine ⟨q1, ?_⟩
        rcases q2 with g2 | g2 | ⟨g2, L, ts, l1, l2, l3, l4, l5, l6, l7, l8⟩ | ⟨g2, m, l1, l2, l3, l4⟩
        · exact Or.inl g2
        · exact Or.inr (Or.inl g2)
        · refine Or.inr (Or.inr (Or.inl ⟨g2, L, ts, l1, l2, l3, l4, l5, l6, l7, fun k hk => ?_⟩))
          have := vt_len l1 l2 l3
          have z : ¬ j = h := by intro z; subst z; rw [c] at g2; exact absurd g2 (by decide)
          rw [upd_e, if_neg (by omega)]; exact l8 k hk
        · refine Or.inr (Or.inr (Or.inr ⟨g2, m, l1, l2, l3, fun k hk => ?_⟩))
          rw [upd_e, va_up_e]
          by_cases z : j = h
          · subst z
            rw [if_pos rfl, upd_e]
            by_cases y : k = i
            · rw [if_pos y, if_pos (by omega)]
            · rw [if_neg y, if_neg (by omega)]; exact l4 k hk
          · rw [if_neg z, if_neg (by omega)]; exact l4 k hk
    · refine ⟨-13, a_x_holders, a_m_items, ?_, ?_, ⟨us, cur, rs, bs, hV, h8, h9, hH8, hH9, TN_mono hT, hTP, hWY, hHO, hIM⟩⟩
      · unfold F_X8_set; rw [e8, bd_s, if_neg (h_ne6 hh), cr, bd_s, if_pos i00, s1, place8 hn, if_neg d, bd_s, if_pos i00]
      · unfold F_X9_set; rw [e9, bd_s, if_neg i10, rowless9 hh, ← g1, cr, bd_s, if_pos i00, ck_n hh (by omega), n_clamp (by omega), s2, place9 hn, if_neg d, bd_s, if_pos i00]
  · refine ⟨r, a_x_holders, a_m_items, ?_, ?_, ⟨us, cur, rs, bs, hV, h8, h9, hH8, hH9, TN_mono hT, hTP, hWY, hHO, hIM⟩⟩
    · unfold F_X8_set; rw [e8, bd_s, if_neg (h_ne6 hh), cr, bd_s, if_neg hr]
    · unfold F_X9_set; rw [e9, bd_s, if_neg i10, rowless9 hh, ← g1, cr, bd_s, if_neg hr, bd_s]
