/-! Queries of the desk, WHY, the tape. -/
theorem i10 : ¬ ((1 : Int32) = 0) := by decide
theorem i00 : (0 : Int32) = 0 := rfl
theorem i_ofNat {p : Int32} (h : 0 ≤ p.toInt) : ∃ n : Nat, n < 2147483648 ∧ p = Int32.ofNat n := by
  rcases n_cases p with q | q
  · have := i_neg q; omega
  · exact q
theorem of8 {g sz lim : Int32} {tr : Int64} {pw : Nat → Int32} {a : AD} (h : D8 g sz lim tr pw a) (hv : VD a) (p : Int32) : F_X8_of sz pw p = some (if 0 ≤ p.toInt ∧ p.toInt < a.2.1.length then Int32.ofNat (a.2.1.getD p.toInt.toNat 0) else (-1 : Int32)) := by
  obtain ⟨rfl, rfl, rfl, rfl, hp⟩ := h
  have h8 := hv.2.1
  unfold F_X8_of
  rw [hasMark8 (by omega), bd_s]
  by_cases c : 0 ≤ p.toInt ∧ p.toInt < a.2.1.length
  · obtain ⟨n, hn, rfl⟩ := i_ofNat c.1
    rw [n_toInt hn] at c
    rw [n_toInt hn, if_pos c, if_neg i10, if_pos c, powerAt8 (by omega), bd_s, hp _ (by omega), Int.toNat_natCast]
  · rw [if_neg c, if_pos i00, if_neg c]
theorem of9 {g n L s : Int32} {mp mt : Nat → Int32} {a : AD} (h : D9 g n L s mp mt a) (hv : VD a) (p : Int32) : F_X9_of n mp p = some (if 0 ≤ p.toInt ∧ p.toInt < a.2.1.length then Int32.ofNat (a.2.1.getD p.toInt.toNat 0) else (-1 : Int32)) := by
  obtain ⟨rfl, rfl, rfl, rfl, hp, ht⟩ := h
  have h8 := hv.2.1
  unfold F_X9_of
  rw [isMark9 (by omega), bd_s]
  by_cases c : 0 ≤ p.toInt ∧ p.toInt < a.2.1.length
  · obtain ⟨n, hn, rfl⟩ := i_ofNat c.1
    rw [n_toInt hn] at c
    rw [n_toInt hn, if_pos c, if_neg i10, if_pos c, ck_n (by omega) (by omega), n_clamp hn, hp _ (by omega), Int.toNat_natCast]
  · rw [if_neg c, if_pos i00, if_neg c]
theorem ls_of : LS_of LR := by
  intro k d_x_deeds_desks q_x_deeds_desks x_imageKept x_desk_genus x_desk_size x_desk_limit x_desk_tree a_x_desk_powers x_imageDesk_genus x_imageDesk_size x_imageDesk_limit x_imageDesk_tree a_x_imageDesk_powers x_deeds_now x_deeds_last a_x_deeds_desks x_deeds_desks_genus x_deeds_desks_size x_deeds_desks_limit x_deeds_desks_tree x_numbers_round x_numbers_size x_numbers_sum x_numbers_gathered a_x_numbers_keys a_x_numbers_aboves a_x_numbers_rounds x_reader_refused x_reader_place x_reader_cannotBe x_tape_size a_x_tape_bytes x_reader_told_genus x_reader_told_size x_reader_told_limit x_reader_told_tree a_x_reader_told_powers a_x_reader_causes x_speller_size a_x_speller_bytes a_x_holders x_holders_sort x_holders_tree x_holders_limit x_holders_above x_holders_size m_genus m_marks m_leaves m_splits m_done m_undone m_metMany m_treesSeen m_taped m_place m_isWrong m_toldGenus m_toldMarks m_isTree m_toldLeaves m_leavesPlace m_toldSplits m_isWhy m_papered m_isKept a_m_powers a_m_tree a_m_ahead a_m_behind a_m_before a_m_rows a_m_met a_m_metSizes a_m_chosen a_m_tape a_m_toldPowers a_m_powerPlaces a_m_toldTree a_m_splitPlaces a_m_layers a_m_paper a_m_held a_m_numbers a_m_sizes a_m_heldLeaves a_m_items a_m_kept p0 hk hLR
  obtain ⟨us, cur, rs, bs, hV, h8, h9, hH8, hH9, hT, hTP, hWY, hHO, hIM⟩ := hLR
  have hVc : VD cur := hV cur (List.mem_append_right _ List.mem_cons_self)
  exact ⟨_, of8 h8 hVc p0, of9 h9 hVc p0, ⟨us, cur, rs, bs, hV, h8, h9, hH8, hH9, TN_mono hT, hTP, hWY, hHO, hIM⟩⟩
noncomputable def chkSz (ts : List Nat) : Bool := decide (F_X6_sizeOf (tr64 ts) = some (Int32.ofNat ts.length))
theorem size_all : (allT 3).all chkSz = true ∧ (allT 4).all chkSz = true ∧ (allT 5).all chkSz = true ∧ (allT 6).all chkSz = true := by decide +kernel
theorem all_L {L : Nat} (h3 : 3 ≤ L) (h6 : L ≤ 6) {ts : List Nat} (h : vt L ts = true) {p : List Nat → Bool} (hp : (allT 3).all p = true ∧ (allT 4).all p = true ∧ (allT 5).all p = true ∧ (allT 6).all p = true) : p ts = true := by
  have h1 := vt_all h3 h6 h
  rcases (show L = 3 ∨ L = 4 ∨ L = 5 ∨ L = 6 by omega) with rfl | rfl | rfl | rfl
  · exact List.all_eq_true.mp hp.1 _ h1
  · exact List.all_eq_true.mp hp.2.1 _ h1
  · exact List.all_eq_true.mp hp.2.2.1 _ h1
  · exact List.all_eq_true.mp hp.2.2.2 _ h1
theorem sizeOf8 {L : Nat} (h3 : 3 ≤ L) (h6 : L ≤ 6) {ts : List Nat} (h : vt L ts = true) : F_X6_sizeOf (tr64 ts) = some (Int32.ofNat ts.length) := of_decide_eq_true (all_L h3 h6 h size_all)
theorem VD_size {a : AD} (h : VD a) : F_X6_sizeOf (tr64 a.2.2.2) = some (Int32.ofNat a.2.2.2.length) := sizeOf8 h.2.2.2.1 h.2.2.2.2.1 h.2.2.2.2.2
theorem count9 {a b c d e f g p : Int32} : ∃ r, F_X9_count a b c d e f g p = some r := by
  unfold F_X9_count
  repeat' split
  all_goals exact ⟨_, rfl⟩
theorem count89 {g sz lim now last ts s d u : Int32} {tr : Int64} (h1 : F_X6_sizeOf tr = some s) (h2 : now = d) (h3 : last - now = u) (p : Int32) : F_X8_count g sz lim tr now last ts p = F_X9_count g sz lim s d u ts p := by
  unfold F_X8_count F_X9_count F_X0_undoable F_X0_repeatable
  rw [h1, h3, h2]
  rfl
theorem ls_count : LS_count LR := by
  intro k d_x_deeds_desks q_x_deeds_desks x_imageKept x_desk_genus x_desk_size x_desk_limit x_desk_tree a_x_desk_powers x_imageDesk_genus x_imageDesk_size x_imageDesk_limit x_imageDesk_tree a_x_imageDesk_powers x_deeds_now x_deeds_last a_x_deeds_desks x_deeds_desks_genus x_deeds_desks_size x_deeds_desks_limit x_deeds_desks_tree x_numbers_round x_numbers_size x_numbers_sum x_numbers_gathered a_x_numbers_keys a_x_numbers_aboves a_x_numbers_rounds x_reader_refused x_reader_place x_reader_cannotBe x_tape_size a_x_tape_bytes x_reader_told_genus x_reader_told_size x_reader_told_limit x_reader_told_tree a_x_reader_told_powers a_x_reader_causes x_speller_size a_x_speller_bytes a_x_holders x_holders_sort x_holders_tree x_holders_limit x_holders_above x_holders_size m_genus m_marks m_leaves m_splits m_done m_undone m_metMany m_treesSeen m_taped m_place m_isWrong m_toldGenus m_toldMarks m_isTree m_toldLeaves m_leavesPlace m_toldSplits m_isWhy m_papered m_isKept a_m_powers a_m_tree a_m_ahead a_m_behind a_m_before a_m_rows a_m_met a_m_metSizes a_m_chosen a_m_tape a_m_toldPowers a_m_powerPlaces a_m_toldTree a_m_splitPlaces a_m_layers a_m_paper a_m_held a_m_numbers a_m_sizes a_m_heldLeaves a_m_items a_m_kept p0 hk hLR
  obtain ⟨us, cur, rs, bs, hV, h8, h9, hH8, hH9, hT, hTP, hWY, hHO, hIM⟩ := hLR
  have hVc : VD cur := hV cur (List.mem_append_right _ List.mem_cons_self)
  obtain ⟨q1, q2, q3, q4, -⟩ := id h8
  obtain ⟨w1, w2, w3, w4, -, -⟩ := id h9
  obtain ⟨z1, z2, z3, -⟩ := id hH8
  obtain ⟨y1, y2, -, -⟩ := id hH9
  obtain ⟨t1, t2, -⟩ := id hTP
  obtain ⟨r, hr⟩ := @count9 m_genus m_marks m_leaves m_splits m_done m_undone m_taped p0
  refine ⟨r, ?_, hr, ⟨us, cur, rs, bs, hV, h8, h9, hH8, hH9, TN_mono hT, hTP, hWY, hHO, hIM⟩⟩
  rw [← hr, q1, q2, q3, t1, w1, w2, w3, t2]
  exact count89 (by rw [q4, w4]; exact VD_size hVc) (z1.trans y1.symm) (by rw [z2, z1, y2, n_sub (by omega)]; congr 1; omega) p0
theorem why89 {a : Int32} {f g : Nat → Int32} (h : a = 1 → ∀ k, k < 6 → f k = g k) (ha : a = 0 ∨ a = 1) (p q : Int32) : ∃ r, F_X8_why a f p q = some r ∧ F_X9_why a g p q = some r := by
  unfold F_X8_why F_X9_why F_X4_causeAt
  have e2 : (2 : Int64).toInt = 2 := rfl
  have e1 : (1 : Int64).toInt = 1 := rfl
  rcases n_cases p with hp | ⟨n, hn, rfl⟩
  · rw [if_pos hp, in9neg hp]; exact ⟨_, rfl, rfl⟩
  rw [if_neg (n_neg hn), in9n hn, bd_s, e2]
  by_cases c : n ≤ 2
  · have c1 : ¬ ((2 : Int32) < Int32.ofNat n) := fun z => by have := (n_lt (a := 2) (by omega) hn).mp z; omega
    have c2 : (n : Int) ≤ 2 := by omega
    rw [if_neg c1, if_pos c2, if_neg i10]
    rcases n_cases q with hq | ⟨m, hm, rfl⟩
    · rw [if_pos hq, in9neg hq]; exact ⟨_, rfl, rfl⟩
    rw [if_neg (n_neg hm), in9n hm, bd_s, e1]
    by_cases d : m ≤ 1
    · have d1 : Int32.ofNat m ≤ (1 : Int32) := (n_le (b := 1) hm (by omega)).mpr d
      have d2 : (m : Int) ≤ 1 := by omega
      rw [if_pos d1, if_pos d2, if_neg i10]
      rcases ha with rfl | rfl
      · rw [if_pos i00, if_pos i00]; exact ⟨_, rfl, rfl⟩
      · have e : (2 : Int32) * Int32.ofNat n + Int32.ofNat m = Int32.ofNat (2 * n + m) := by
          rw [show (2 : Int32) = Int32.ofNat 2 from rfl, n_mul, n_add]
        have g1 : ¬ ((6 : Int32) ≤ Int32.ofNat (2 * n + m)) := fun z => by have := (n_le (a := 6) (by omega) (by omega)).mp z; omega
        rw [if_neg i10, if_neg i10, e, if_neg (n_neg (by omega)), if_neg g1, ck_n (by omega) (by omega), ck_n (by omega) (by omega), n_clamp (by omega), bd_s]
        exact ⟨_, rfl, congrArg some (h rfl _ (by omega)).symm⟩
    · have d1 : ¬ (Int32.ofNat m ≤ (1 : Int32)) := fun z => d ((n_le (b := 1) hm (by omega)).mp z)
      have d2 : ¬ ((m : Int) ≤ 1) := by omega
      rw [if_neg d1, if_neg d2, if_pos i00]; exact ⟨_, rfl, rfl⟩
  · have c1 : (2 : Int32) < Int32.ofNat n := (n_lt (a := 2) (by omega) hn).mpr (by omega)
    have c2 : ¬ ((n : Int) ≤ 2) := by omega
    rw [if_pos c1, if_neg c2, if_pos i00]; exact ⟨_, rfl, rfl⟩
theorem ls_why : LS_why LR := by
  intro k d_x_deeds_desks q_x_deeds_desks x_imageKept x_desk_genus x_desk_size x_desk_limit x_desk_tree a_x_desk_powers x_imageDesk_genus x_imageDesk_size x_imageDesk_limit x_imageDesk_tree a_x_imageDesk_powers x_deeds_now x_deeds_last a_x_deeds_desks x_deeds_desks_genus x_deeds_desks_size x_deeds_desks_limit x_deeds_desks_tree x_numbers_round x_numbers_size x_numbers_sum x_numbers_gathered a_x_numbers_keys a_x_numbers_aboves a_x_numbers_rounds x_reader_refused x_reader_place x_reader_cannotBe x_tape_size a_x_tape_bytes x_reader_told_genus x_reader_told_size x_reader_told_limit x_reader_told_tree a_x_reader_told_powers a_x_reader_causes x_speller_size a_x_speller_bytes a_x_holders x_holders_sort x_holders_tree x_holders_limit x_holders_above x_holders_size m_genus m_marks m_leaves m_splits m_done m_undone m_metMany m_treesSeen m_taped m_place m_isWrong m_toldGenus m_toldMarks m_isTree m_toldLeaves m_leavesPlace m_toldSplits m_isWhy m_papered m_isKept a_m_powers a_m_tree a_m_ahead a_m_behind a_m_before a_m_rows a_m_met a_m_metSizes a_m_chosen a_m_tape a_m_toldPowers a_m_powerPlaces a_m_toldTree a_m_splitPlaces a_m_layers a_m_paper a_m_held a_m_numbers a_m_sizes a_m_heldLeaves a_m_items a_m_kept p0 p1 hk hLR
  obtain ⟨us, cur, rs, bs, hV, h8, h9, hH8, hH9, hT, hTP, hWY, hHO, hIM⟩ := hLR
  have hVc : VD cur := hV cur (List.mem_append_right _ List.mem_cons_self)
  obtain ⟨rfl, w1, w2⟩ := id hWY
  obtain ⟨r, e8, e9⟩ := why89 w2 w1 p0 p1
  exact ⟨r, e8, e9, ⟨us, cur, rs, bs, hV, h8, h9, hH8, hH9, TN_mono hT, hTP, hWY, hHO, hIM⟩⟩
theorem ls_wipe : LS_wipe LR := by
  intro k d_x_deeds_desks q_x_deeds_desks x_imageKept x_desk_genus x_desk_size x_desk_limit x_desk_tree a_x_desk_powers x_imageDesk_genus x_imageDesk_size x_imageDesk_limit x_imageDesk_tree a_x_imageDesk_powers x_deeds_now x_deeds_last a_x_deeds_desks x_deeds_desks_genus x_deeds_desks_size x_deeds_desks_limit x_deeds_desks_tree x_numbers_round x_numbers_size x_numbers_sum x_numbers_gathered a_x_numbers_keys a_x_numbers_aboves a_x_numbers_rounds x_reader_refused x_reader_place x_reader_cannotBe x_tape_size a_x_tape_bytes x_reader_told_genus x_reader_told_size x_reader_told_limit x_reader_told_tree a_x_reader_told_powers a_x_reader_causes x_speller_size a_x_speller_bytes a_x_holders x_holders_sort x_holders_tree x_holders_limit x_holders_above x_holders_size m_genus m_marks m_leaves m_splits m_done m_undone m_metMany m_treesSeen m_taped m_place m_isWrong m_toldGenus m_toldMarks m_isTree m_toldLeaves m_leavesPlace m_toldSplits m_isWhy m_papered m_isKept a_m_powers a_m_tree a_m_ahead a_m_behind a_m_before a_m_rows a_m_met a_m_metSizes a_m_chosen a_m_tape a_m_toldPowers a_m_powerPlaces a_m_toldTree a_m_splitPlaces a_m_layers a_m_paper a_m_held a_m_numbers a_m_sizes a_m_heldLeaves a_m_items a_m_kept hk hLR
  obtain ⟨us, cur, rs, bs, hV, h8, h9, hH8, hH9, hT, hTP, hWY, hHO, hIM⟩ := hLR
  have hVc : VD cur := hV cur (List.mem_append_right _ List.mem_cons_self)
  obtain ⟨t1, t2, -⟩ := id hTP
  refine ⟨x_tape_size, 0, 0, rfl, by rw [t1, ← t2]; rfl, us, cur, rs, [], hV, h8, h9, hH8, hH9, TN_mono hT, ⟨rfl, rfl, by simp, by simp, fun k hk => absurd hk (by simp)⟩, hWY, hHO, hIM⟩
