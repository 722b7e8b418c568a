/-! The split at a place. -/
theorem bits8 {L : Nat} (h3 : 3 ≤ L) (h6 : L ≤ 6) {ts : List Nat} (h : vt L ts = true) : F_J13_bitCount_95d88 (tr64 ts) = some (Int32.ofNat ts.length) := by
  have h1 := sizeOf8 h3 h6 h
  unfold F_X6_sizeOf at h1
  unfold F_J13_bitCount_95d88 at h1 ⊢
  exact h1
theorem nthAny {L : Nat} (h3 : 3 ≤ L) (h6 : L ≤ 6) {ts : List Nat} (h : vt L ts = true) {n : Nat} (hn : n < 2147483648) : F_X6_nth (tr64 ts) (Int32.ofNat n) = some (if n < ts.length then Int32.ofNat (ts.getD n 0) else (-1 : Int32)) := by
  have hl := vt_len h3 h6 h
  by_cases c : n < 4
  · exact nth8 h3 h6 h c
  · unfold F_X6_nth
    have y : ¬ Int32.ofNat n < Int32.ofNat ts.length := fun z => by have := (n_lt hn (by omega)).mp z; omega
    rw [if_neg (n_neg hn), bits8 h3 h6 h, bd_s, if_neg y, if_neg (by omega)]
theorem ls_splitAt : LS_splitAt LR := by
  intro k d_x_deeds_desks q_x_deeds_desks x_imageKept x_desk_genus x_desk_size x_desk_limit x_desk_tree a_x_desk_powers x_imageDesk_genus x_imageDesk_size x_imageDesk_limit x_imageDesk_tree a_x_imageDesk_powers x_deeds_now x_deeds_last a_x_deeds_desks x_deeds_desks_genus x_deeds_desks_size x_deeds_desks_limit x_deeds_desks_tree x_numbers_round x_numbers_size x_numbers_sum x_numbers_gathered a_x_numbers_keys a_x_numbers_aboves a_x_numbers_rounds x_reader_refused x_reader_place x_reader_cannotBe x_tape_size a_x_tape_bytes x_reader_told_genus x_reader_told_size x_reader_told_limit x_reader_told_tree a_x_reader_told_powers a_x_reader_causes x_speller_size a_x_speller_bytes a_x_holders x_holders_sort x_holders_tree x_holders_limit x_holders_above x_holders_size m_genus m_marks m_leaves m_splits m_done m_undone m_metMany m_treesSeen m_taped m_place m_isWrong m_toldGenus m_toldMarks m_isTree m_toldLeaves m_leavesPlace m_toldSplits m_isWhy m_papered m_isKept a_m_powers a_m_tree a_m_ahead a_m_behind a_m_before a_m_rows a_m_met a_m_metSizes a_m_chosen a_m_tape a_m_toldPowers a_m_powerPlaces a_m_toldTree a_m_splitPlaces a_m_layers a_m_paper a_m_held a_m_numbers a_m_sizes a_m_heldLeaves a_m_items a_m_kept p0 hk hLR
  obtain ⟨us, cur, rs, bs, hV, h8, h9, hH8, hH9, hT, hTP, hWY, hHO, hIM⟩ := hLR
  have hVc : VD cur := hV cur (List.mem_append_right _ List.mem_cons_self)
  rcases n_cases p0 with hp | ⟨n, hn, rfl⟩
  · have y : ¬ (0 : Int32) ≤ p0 := by rw [Int32.not_le]; exact hp
    refine ⟨-1, ?_, ?_, ⟨us, cur, rs, bs, hV, h8, h9, hH8, hH9, TN_mono hT, hTP, hWY, hHO, hIM⟩⟩
    · unfold F_X8_splitAt; rw [if_neg y]
    · unfold F_X9_splitAt; rw [if_neg y]
  · have y : (0 : Int32) ≤ Int32.ofNat n := by rw [← Int32.not_lt]; exact n_neg hn
    have hl := VD_tlen hVc
    by_cases c : n < cur.2.2.2.length
    · have w : ¬ Int32.ofNat (cur.2.2.2.getD n 0) = (-1 : Int32) := fun z => by
        have gm : cur.2.2.2.getD n 0 ∈ cur.2.2.2 := by rw [getD_el c]; exact List.getElem_mem c
        have := vt_small hVc.2.2.2.2.1 hVc.2.2.2.2.2 _ gm
        have z1 := congrArg Int32.toInt z
        rw [n_toInt (by omega), show (-1 : Int32).toInt = -1 from rfl] at z1
        omega
      have v : ¬ Int32.ofNat cur.2.2.2.length ≤ Int32.ofNat n := fun z => by have := (n_le (by omega) hn).mp z; omega
      refine ⟨Int32.ofNat (cur.2.2.2.getD n 0), ?_, ?_, ⟨us, cur, rs, bs, hV, h8, h9, hH8, hH9, TN_mono hT, hTP, hWY, hHO, hIM⟩⟩
      · unfold F_X8_splitAt; rw [if_pos y, h8.2.2.2.1, nthAny hVc.2.2.2.1 hVc.2.2.2.2.1 hVc.2.2.2.2.2 hn, bd_s, if_pos c, if_neg w]
      · unfold F_X9_splitAt; rw [if_pos y, h9.2.2.2.1, if_neg v, ck_n (by omega) (by omega), n_clamp hn, h9.2.2.2.2.2 n c]
    · have v : Int32.ofNat cur.2.2.2.length ≤ Int32.ofNat n := (n_le (by omega) hn).mpr (by omega)
      refine ⟨-2, ?_, ?_, ⟨us, cur, rs, bs, hV, h8, h9, hH8, hH9, TN_mono hT, hTP, hWY, hHO, hIM⟩⟩
      · unfold F_X8_splitAt; rw [if_pos y, h8.2.2.2.1, nthAny hVc.2.2.2.1 hVc.2.2.2.2.1 hVc.2.2.2.2.2 hn, bd_s, if_neg c, if_pos rfl]
      · unfold F_X9_splitAt; rw [if_pos y, h9.2.2.2.1, if_pos v]
