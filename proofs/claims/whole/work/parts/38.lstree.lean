/-! trees() and tree(). -/
theorem splitCount89 (p : Int32) : (F_X8_isSplitCount p = some 0 ∧ F_X9_in p.toInt64 (0 : Int64) (9 : Int64) = some 0) ∨ ∃ k : Nat, k ≤ 9 ∧ p = Int32.ofNat k ∧ F_X8_isSplitCount p = some 1 ∧ F_X9_in p.toInt64 (0 : Int64) (9 : Int64) = some 1 := by
  have e9 : (9 : Int64).toInt = 9 := rfl
  unfold F_X8_isSplitCount
  rcases n_cases p with hp | ⟨k, hk, rfl⟩
  · exact Or.inl ⟨if_pos hp, in9neg hp⟩
  · rw [if_neg (n_neg hk), in9n hk, e9]
    by_cases c : k ≤ 9
    · have c1 : ¬ (9 : Int32) < Int32.ofNat k := fun z => by have := (n_lt (a := 9) (by omega) hk).mp z; omega
      exact Or.inr ⟨k, c, rfl, if_neg c1, by rw [if_pos (by omega)]⟩
    · have c1 : (9 : Int32) < Int32.ofNat k := (n_lt (a := 9) (by omega) hk).mpr (by omega)
      exact Or.inl ⟨if_pos c1, by rw [if_neg (by omega)]⟩
theorem ex0 {L : Nat} (h3 : 3 ≤ L) (k : Nat) : exT L k [] (2 ^ L - 1) = exT L k [] (2 ^ L - 2) := by
  have h8 : 2 ^ 3 ≤ 2 ^ L := Nat.pow_le_pow_right (by omega) h3
  have h2p := pow_even h3
  rw [show 2 ^ L - 1 = 2 ^ L - 2 + 1 by omega, exT_skip (by omega)]
theorem tr64_nil : (0 : Int64) = tr64 [] := rfl
theorem fin9 {L : Nat} (h3 : 3 ≤ L) (h6 : L ≤ 6) (p4 : Int32) {k : Nat} (hk : k ≤ 9) (ch : Nat → Int32) : fRes p4 [] 0 (exT L k [] (2 ^ L - 2)) (F_X9_finds 8 (0 : Int32) ch (Int32.ofNat L) (1 : Int32) (0 : Int32) (Int32.ofNat k) p4) := by
  have h8 : 2 ^ 3 ≤ 2 ^ L := Nat.pow_le_pow_right (by omega) h3
  have h := finds9 h3 h6 p4 8 [] k (2 ^ L - 1) ch 0 (by simp) (by omega) rfl (by omega) (by simp) (fun j v hv => absurd hv (by simp))
  rw [ex0 h3, show 2 ^ L - (2 ^ L - 1) = 1 by omega] at h
  rw [show ([] : List Nat).length = 0 from rfl, Nat.zero_add] at h
  exact h
theorem ls_trees : LS_trees LR := by
  intro k d_x_deeds_desks q_x_deeds_desks x_imageKept x_desk_genus x_desk_size x_desk_limit x_desk_tree a_x_desk_powers x_imageDesk_genus x_imageDesk_size x_imageDesk_limit x_imageDesk_tree a_x_imageDesk_powers x_deeds_now x_deeds_last a_x_deeds_desks x_deeds_desks_genus x_deeds_desks_size x_deeds_desks_limit x_deeds_desks_tree x_numbers_round x_numbers_size x_numbers_sum x_numbers_gathered a_x_numbers_keys a_x_numbers_aboves a_x_numbers_rounds x_reader_refused x_reader_place x_reader_cannotBe x_tape_size a_x_tape_bytes x_reader_told_genus x_reader_told_size x_reader_told_limit x_reader_told_tree a_x_reader_told_powers a_x_reader_causes x_speller_size a_x_speller_bytes a_x_holders x_holders_sort x_holders_tree x_holders_limit x_holders_above x_holders_size m_genus m_marks m_leaves m_splits m_done m_undone m_metMany m_treesSeen m_taped m_place m_isWrong m_toldGenus m_toldMarks m_isTree m_toldLeaves m_leavesPlace m_toldSplits m_isWhy m_papered m_isKept a_m_powers a_m_tree a_m_ahead a_m_behind a_m_before a_m_rows a_m_met a_m_metSizes a_m_chosen a_m_tape a_m_toldPowers a_m_powerPlaces a_m_toldTree a_m_splitPlaces a_m_layers a_m_paper a_m_held a_m_numbers a_m_sizes a_m_heldLeaves a_m_items a_m_kept p0 p1 hk hLR
  obtain ⟨us, cur, rs, bs, hV, h8, h9, hH8, hH9, hT, hTP, hWY, hHO, hIM⟩ := hLR
  have hVc : VD cur := hV cur (List.mem_append_right _ List.mem_cons_self)
  rcases leafCount89 p0 with ⟨a, b⟩ | ⟨L, h3, h6, rfl, a, b⟩
  · refine ⟨-1, a_m_chosen, m_treesSeen, ?_, ?_, ⟨us, cur, rs, bs, hV, h8, h9, hH8, hH9, TN_mono hT, hTP, hWY, hHO, hIM⟩⟩
    · unfold F_X8_trees; rw [a, bd_s, if_pos i00]
    · unfold F_X9_trees; rw [b, bd_s, if_pos i00]
  rcases splitCount89 p1 with ⟨c, d⟩ | ⟨k, hk, rfl, c, d⟩
  · refine ⟨-1, a_m_chosen, m_treesSeen, ?_, ?_, ⟨us, cur, rs, bs, hV, h8, h9, hH8, hH9, TN_mono hT, hTP, hWY, hHO, hIM⟩⟩
    · unfold F_X8_trees; rw [a, bd_s, if_neg i10, c, bd_s, if_pos i00]
    · unfold F_X9_trees; rw [b, bd_s, if_neg i10, d, bd_s, if_pos i00]
  have h8' : 2 ^ 3 ≤ 2 ^ L := Nat.pow_le_pow_right (by omega) h3
  have sml := exT_small h3 h6 (k := k) (ts := []) (d := 2 ^ L - 2) rfl (by omega) (by simp)
  obtain ⟨b1, ch', n', er, hr⟩ := fin9 h3 h6 (-1) hk a_m_chosen
  have fn : fnd (-1) 0 (exT L k [] (2 ^ L - 2)) = none := fnd_neg (by decide) _ _ (by omega)
  rcases hr with ⟨x, x1, -, -⟩ | ⟨-, rfl, -, rfl⟩
  · rw [fn] at x1; exact absurd x1 (by simp)
  rw [Nat.zero_add] at er
  refine ⟨Int32.ofNat (exT L k [] (2 ^ L - 2)).length, ch', (Int32.ofNat (exT L k [] (2 ^ L - 2)).length), ?_, ?_, ⟨us, cur, rs, bs, hV, h8, h9, hH8, hH9, TN_mono hT, hTP, hWY, hHO, hIM⟩⟩
  · unfold F_X8_trees F_X6_countTrees
    have e := more8 h3 h6 8 k [] 2 (by simp) (by omega) rfl (by omega) (by omega) (by simp)
    rw [a, bd_s, if_neg i10, c, bd_s, if_neg i10, tr64_nil, show (2 : Int32) = Int32.ofNat 2 from rfl, e, bd_s, bd_s]
  · unfold F_X9_trees
    rw [b, bd_s, if_neg i10, d, bd_s, if_neg i10, er, bd_s]
theorem ls_tree : LS_tree LR := by
  intro k d_x_deeds_desks q_x_deeds_desks x_imageKept x_desk_genus x_desk_size x_desk_limit x_desk_tree a_x_desk_powers x_imageDesk_genus x_imageDesk_size x_imageDesk_limit x_imageDesk_tree a_x_imageDesk_powers x_deeds_now x_deeds_last a_x_deeds_desks x_deeds_desks_genus x_deeds_desks_size x_deeds_desks_limit x_deeds_desks_tree x_numbers_round x_numbers_size x_numbers_sum x_numbers_gathered a_x_numbers_keys a_x_numbers_aboves a_x_numbers_rounds x_reader_refused x_reader_place x_reader_cannotBe x_tape_size a_x_tape_bytes x_reader_told_genus x_reader_told_size x_reader_told_limit x_reader_told_tree a_x_reader_told_powers a_x_reader_causes x_speller_size a_x_speller_bytes a_x_holders x_holders_sort x_holders_tree x_holders_limit x_holders_above x_holders_size m_genus m_marks m_leaves m_splits m_done m_undone m_metMany m_treesSeen m_taped m_place m_isWrong m_toldGenus m_toldMarks m_isTree m_toldLeaves m_leavesPlace m_toldSplits m_isWhy m_papered m_isKept a_m_powers a_m_tree a_m_ahead a_m_behind a_m_before a_m_rows a_m_met a_m_metSizes a_m_chosen a_m_tape a_m_toldPowers a_m_powerPlaces a_m_toldTree a_m_splitPlaces a_m_layers a_m_paper a_m_held a_m_numbers a_m_sizes a_m_heldLeaves a_m_items a_m_kept p0 p1 p2 p3 hk hLR
  obtain ⟨us, cur, rs, bs, hV, h8, h9, hH8, hH9, hT, hTP, hWY, hHO, hIM⟩ := hLR
  have hVc : VD cur := hV cur (List.mem_append_right _ List.mem_cons_self)
  rcases leafCount89 p0 with ⟨a, b⟩ | ⟨L, h3, h6, rfl, a, b⟩
  · refine ⟨-1, a_m_chosen, m_treesSeen, ?_, ?_, ⟨us, cur, rs, bs, hV, h8, h9, hH8, hH9, TN_mono hT, hTP, hWY, hHO, hIM⟩⟩
    · unfold F_X8_tree; rw [a, bd_s, if_pos i00]
    · unfold F_X9_tree; rw [b, bd_s, if_pos i00]
  rcases splitCount89 p1 with ⟨c, d⟩ | ⟨k, hk, rfl, c, d⟩
  · refine ⟨-1, a_m_chosen, m_treesSeen, ?_, ?_, ⟨us, cur, rs, bs, hV, h8, h9, hH8, hH9, TN_mono hT, hTP, hWY, hHO, hIM⟩⟩
    · unfold F_X8_tree; rw [a, bd_s, if_neg i10, c, bd_s, if_pos i00]
    · unfold F_X9_tree; rw [b, bd_s, if_neg i10, d, bd_s, if_pos i00]
  rcases n_cases p2 with hp2 | ⟨I, hI, rfl⟩
  · refine ⟨-1, a_m_chosen, m_treesSeen, ?_, ?_, ⟨us, cur, rs, bs, hV, h8, h9, hH8, hH9, TN_mono hT, hTP, hWY, hHO, hIM⟩⟩
    · unfold F_X8_tree; rw [a, bd_s, if_neg i10, c, bd_s, if_neg i10, if_pos hp2]
    · unfold F_X9_tree; rw [b, bd_s, if_neg i10, d, bd_s, if_neg i10, if_pos hp2]
  rcases n_cases p3 with hp3 | ⟨J, hJ, rfl⟩
  · have y : ¬ (0 : Int32) ≤ p3 := by rw [Int32.not_le]; exact hp3
    refine ⟨-1, a_m_chosen, m_treesSeen, ?_, ?_, ⟨us, cur, rs, bs, hV, h8, h9, hH8, hH9, TN_mono hT, hTP, hWY, hHO, hIM⟩⟩
    · unfold F_X8_tree; rw [a, bd_s, if_neg i10, c, bd_s, if_neg i10, if_neg (n_neg hI), if_neg y]
    · unfold F_X9_tree; rw [b, bd_s, if_neg i10, d, bd_s, if_neg i10, if_neg (n_neg hI), if_neg y]
  have y : (0 : Int32) ≤ Int32.ofNat J := by rw [← Int32.not_lt]; exact n_neg hJ
  have h8' : 2 ^ 3 ≤ 2 ^ L := Nat.pow_le_pow_right (by omega) h3
  have sml := exT_small h3 h6 (k := k) (ts := []) (d := 2 ^ L - 2) rfl (by omega) (by simp)
  obtain ⟨b1, ch', n', er, hr⟩ := fin9 h3 h6 (Int32.ofNat I) hk a_m_chosen
  have fn : fnd (Int32.ofNat I) 0 (exT L k [] (2 ^ L - 2)) = (exT L k [] (2 ^ L - 2))[I]? := fnd_nat hI _ _ (by omega) (by omega)
  have eT : F_X6_treeAt (Int32.ofNat L) (Int32.ofNat k) (Int32.ofNat I) = some (atx L k [] (2 ^ L - 2) I) := by
    unfold F_X6_treeAt
    rw [tr64_nil, show (2 : Int32) = Int32.ofNat 2 from rfl]
    exact treeAt8 h3 h6 k [] 2 I FU (by unfold FU; omega) (by omega) rfl (by omega) (by omega) (by simp) hI
  have A8 : ∀ X, (bd (F_X6_nth (atx L k [] (2 ^ L - 2) I) (Int32.ofNat J)) (fun x8 => if x8 = (-1 : Int32) then (some (-2 : Int32)) else (some x8))) = X → F_X8_tree (Int32.ofNat L) (Int32.ofNat k) (Int32.ofNat I) (Int32.ofNat J) = X := fun X hX => by
    unfold F_X8_tree
    rw [a, bd_s, if_neg i10, c, bd_s, if_neg i10, if_neg (n_neg hI), if_pos y, eT, bd_s]; exact hX
  have A9 : ∀ X, (if b1 = 0 then (some ((-2 : Int32), ch', n')) else (if Int32.ofNat k ≤ Int32.ofNat J then (some ((-2 : Int32), ch', n')) else (ck (Int32.ofNat J) 10 (some ((ch' (Int32.ofNat J).toNatClampNeg), ch', n'))))) = X → F_X9_tree m_treesSeen a_m_chosen (Int32.ofNat L) (Int32.ofNat k) (Int32.ofNat I) (Int32.ofNat J) = X := fun X hX => by
    unfold F_X9_tree
    rw [b, bd_s, if_neg i10, d, bd_s, if_neg i10, if_neg (n_neg hI), if_pos y, er, bd_s]; exact hX
  have nil8 : F_X6_nth (0 : Int64) (Int32.ofNat J) = some (-1 : Int32) := by
    have := nthAny (L := 3) (by omega) (by omega) (ts := []) rfl hJ
    rw [← tr64_nil, if_neg (by simp)] at this; exact this
  rcases hr with ⟨x, x1, rfl, x3⟩ | ⟨x1, rfl, -, -⟩
  · rw [fn] at x1
    obtain ⟨vx, lx⟩ := exT_vt k [] (2 ^ L - 2) rfl (by omega) (by simp) x (List.mem_of_getElem? x1)
    rw [show ([] : List Nat).length = 0 from rfl, Nat.zero_add] at lx
    have ea : atx L k [] (2 ^ L - 2) I = tr64 x := by
      unfold atx
      by_cases k0 : k = 0
      · rw [if_pos k0]
        have : x = [] := List.eq_nil_of_length_eq_zero (by omega)
        rw [this]
      · rw [if_neg k0, x1]
    have hn := nthAny h3 h6 vx hJ
    by_cases j : J < k
    · have gm : x.getD J 0 ∈ x := by rw [getD_el (by omega)]; exact List.getElem_mem (by omega)
      have b := vt_small h6 vx _ gm
      rw [if_pos (by omega)] at hn
      refine ⟨Int32.ofNat (x.getD J 0), ch', n', A8 _ ?_, A9 _ ?_, ⟨us, cur, rs, bs, hV, h8, h9, hH8, hH9, TN_mono hT, hTP, hWY, hHO, hIM⟩⟩
      · rw [ea, hn, bd_s, if_neg]
        intro z
        have z1 := congrArg Int32.toInt z
        rw [n_toInt (by omega), show (-1 : Int32).toInt = -1 from rfl] at z1
        omega
      · rw [if_neg i10, if_neg (c_ge (by omega) (by omega) j), ck_n (by omega) (by omega), n_clamp hJ, rp_D x3 J (by omega)]
    · rw [if_neg (by omega)] at hn
      refine ⟨-2, ch', n', A8 _ ?_, A9 _ ?_, ⟨us, cur, rs, bs, hV, h8, h9, hH8, hH9, TN_mono hT, hTP, hWY, hHO, hIM⟩⟩
      · rw [ea, hn, bd_s, if_pos rfl]
      · rw [if_neg i10, if_pos ((n_le (by omega) hJ).mpr (by omega))]
  · rw [fn] at x1
    have ea : atx L k [] (2 ^ L - 2) I = 0 := by
      unfold atx
      by_cases k0 : k = 0
      · rw [if_pos k0]; rfl
      · rw [if_neg k0, x1]
    refine ⟨-2, ch', n', A8 _ ?_, A9 _ ?_, ⟨us, cur, rs, bs, hV, h8, h9, hH8, hH9, TN_mono hT, hTP, hWY, hHO, hIM⟩⟩
    · rw [ea, nil8, bd_s, if_pos rfl]
    · rw [if_pos i00]
