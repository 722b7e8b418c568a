/-! Deeds on marks. -/
theorem c8 {k : Nat} (h : k < 8) : ¬ ((8 : Int32) ≤ Int32.ofNat k) := c_ge (m := 8) (by omega) (by omega) h
theorem begins9 {g m l s : Int32} {mp mt : Nat → Int32} {a : AD} (h : D9 g m l s mp mt a) (hv : VD a) (a0 : Nat → Int32) : ∃ bf, F_X9_begins g m l s a0 mp mt = some bf ∧ KR bf 0 a := by
  obtain ⟨w1, w2, w3, w4, w5, w6⟩ := id h
  refine ⟨_, ?_, KR_lay (a0 := a0) (o := 0) h hv⟩
  unfold F_X9_begins
  rw [show (0 : Int32) = Int32.ofNat 0 from rfl, lays9 w2 w4 hv.2.1 (VD_tlen hv) (by omega) (by omega), bd_s]
theorem ls_genus : LS_genus LR := by
  intro k d_x_deeds_desks q_x_deeds_desks x_imageKept x_desk_genus x_desk_size x_desk_limit x_desk_tree a_x_desk_powers x_imageDesk_genus x_imageDesk_size x_imageDesk_limit x_imageDesk_tree a_x_imageDesk_powers x_deeds_now x_deeds_last a_x_deeds_desks x_deeds_desks_genus x_deeds_desks_size x_deeds_desks_limit x_deeds_desks_tree x_numbers_round x_numbers_size x_numbers_sum x_numbers_gathered a_x_numbers_keys a_x_numbers_aboves a_x_numbers_rounds x_reader_refused x_reader_place x_reader_cannotBe x_tape_size a_x_tape_bytes x_reader_told_genus x_reader_told_size x_reader_told_limit x_reader_told_tree a_x_reader_told_powers a_x_reader_causes x_speller_size a_x_speller_bytes a_x_holders x_holders_sort x_holders_tree x_holders_limit x_holders_above x_holders_size m_genus m_marks m_leaves m_splits m_done m_undone m_metMany m_treesSeen m_taped m_place m_isWrong m_toldGenus m_toldMarks m_isTree m_toldLeaves m_leavesPlace m_toldSplits m_isWhy m_papered m_isKept a_m_powers a_m_tree a_m_ahead a_m_behind a_m_before a_m_rows a_m_met a_m_metSizes a_m_chosen a_m_tape a_m_toldPowers a_m_powerPlaces a_m_toldTree a_m_splitPlaces a_m_layers a_m_paper a_m_held a_m_numbers a_m_sizes a_m_heldLeaves a_m_items a_m_kept p0 hk hLR
  obtain ⟨us, cur, rs, bs, hV, h8, h9, hH8, hH9, hT, hTP, hWY, hHO, hIM⟩ := hLR
  have hVc : VD cur := hV cur (List.mem_append_right _ List.mem_cons_self)
  rcases n_cases p0 with hp | ⟨n, hn, rfl⟩
  · refine ⟨-1, x_desk_genus, x_deeds_now, x_deeds_last, a_x_deeds_desks, d_x_deeds_desks, x_deeds_desks_genus, x_deeds_desks_limit, q_x_deeds_desks, x_deeds_desks_size, x_deeds_desks_tree, a_m_before, a_m_behind, a_m_ahead, m_genus, m_undone, m_done, ?_, ?_, ⟨us, cur, rs, bs, hV, h8, h9, hH8, hH9, TN_mono hT, hTP, hWY, hHO, hIM⟩⟩
    · unfold F_X8_genus; rw [if_pos hp]
    · unfold F_X9_genus; rw [in9neg hp, bd_s, if_pos i00]
  have e2 : (2 : Int64).toInt = 2 := rfl
  by_cases c : n ≤ 2
  · have hvn : VD (n, cur.2) := ⟨c, hVc.2⟩
    have d8 : D8 (Int32.ofNat n) x_desk_size x_desk_limit x_desk_tree a_x_desk_powers (n, cur.2) := ⟨rfl, h8.2⟩
    have d9 : D9 (Int32.ofNat n) m_marks m_leaves m_splits a_m_powers a_m_tree (n, cur.2) := ⟨rfl, h9.2⟩
    obtain ⟨now', last', fp', d', fg', fl', q', fs', ft', es, hs⟩ := settle8 d_x_deeds_desks q_x_deeds_desks hH8 d8 hV hvn
    obtain ⟨bf, eb, hb⟩ := begins9 h9 hVc a_m_before
    obtain ⟨be', ah', un', do', ee, he⟩ := ends9 d9 hvn hVc hb hH9 hH8.2.2.1
    refine ⟨x_desk_genus, (Int32.ofNat n), now', last', fp', d', fg', fl', q', fs', ft', bf, be', ah', (Int32.ofNat n), un', do', ?_, ?_, _, (n, cur.2), _, bs, stl_V hV hvn, d8, d9, hs, he, TN_mono hT, hTP, hWY, hHO, hIM⟩
    · unfold F_X8_genus
      have c1 : Int32.ofNat n ≤ (2 : Int32) := (n_le (b := 2) hn (by omega)).mpr c
      rw [if_neg (n_neg hn), if_pos c1, es, bd_s]
    · unfold F_X9_genus
      have c2 : (n : Int) ≤ 2 := by omega
      rw [in9n hn, bd_s, e2, if_pos c2, if_neg i10, eb, bd_s, ee, bd_s, h8.1, h9.1]
  · refine ⟨-1, x_desk_genus, x_deeds_now, x_deeds_last, a_x_deeds_desks, d_x_deeds_desks, x_deeds_desks_genus, x_deeds_desks_limit, q_x_deeds_desks, x_deeds_desks_size, x_deeds_desks_tree, a_m_before, a_m_behind, a_m_ahead, m_genus, m_undone, m_done, ?_, ?_, ⟨us, cur, rs, bs, hV, h8, h9, hH8, hH9, TN_mono hT, hTP, hWY, hHO, hIM⟩⟩
    · unfold F_X8_genus
      have c1 : ¬ (Int32.ofNat n ≤ (2 : Int32)) := fun z => c ((n_le (b := 2) hn (by omega)).mp z)
      rw [if_neg (n_neg hn), if_neg c1]
    · unfold F_X9_genus
      have c2 : ¬ ((n : Int) ≤ 2) := by omega
      rw [in9n hn, bd_s, e2, if_neg c2, if_pos i00]
theorem isPower8 (p : Int32) : F_X8_isPower p = F_X9_in p.toInt64 (0 : Int64) (12 : Int64) := by
  unfold F_X8_isPower
  rcases n_cases p with hp | ⟨n, hn, rfl⟩
  · rw [if_pos hp, in9neg hp]
  · have e : (12 : Int64).toInt = 12 := rfl
    rw [if_neg (n_neg hn), in9n hn, e]
    by_cases c : n ≤ 12
    · have c1 : ¬ ((12 : Int32) < Int32.ofNat n) := fun z => by have := (n_lt (a := 12) (by omega) hn).mp z; omega
      rw [if_neg c1, if_pos (by omega)]
    · have c1 : (12 : Int32) < Int32.ofNat n := (n_lt (a := 12) (by omega) hn).mpr (by omega)
      rw [if_pos c1, if_neg (by omega)]
/-- a power is 0 .. 12, or it is refused -/
theorem power9 (p : Int32) : F_X9_in p.toInt64 (0 : Int64) (12 : Int64) = some 0 ∨ (∃ n : Nat, n ≤ 12 ∧ p = Int32.ofNat n ∧ F_X9_in p.toInt64 (0 : Int64) (12 : Int64) = some 1) := by
  rcases n_cases p with hp | ⟨n, hn, rfl⟩
  · exact Or.inl (in9neg hp)
  · have e : (12 : Int64).toInt = 12 := rfl
    by_cases c : n ≤ 12
    · exact Or.inr ⟨n, c, rfl, by rw [in9n hn, e, if_pos (by omega)]⟩
    · exact Or.inl (by rw [in9n hn, e, if_neg (by omega)])
theorem setPower8 {k : Nat} (hk : k < 8) (pw : Nat → Int32) (v : Int32) : F_X1_setPower pw (Int32.ofNat k) v = some (upd pw k v) := by
  unfold F_X1_setPower
  rw [if_neg (n_neg (by omega)), if_neg (c8 hk), ck_n hk (by omega), n_clamp (by omega)]
/-- a row with one more behind -/
theorem push_D {f : Nat → Int32} {ps : List Nat} {d : Nat} (h : ∀ k, k < ps.length → f k = Int32.ofNat (ps.getD k 0)) : ∀ k, k < (ps ++ [d]).length → upd f ps.length (Int32.ofNat d) k = Int32.ofNat ((ps ++ [d]).getD k 0) := fun k hk => by
  rw [upd_e, List.getD_eq_getElem?_getD]
  by_cases c : k = ps.length
  · subst c; rw [if_pos rfl, List.getElem?_append_right (Nat.le_refl _)]; simp
  · rw [List.length_append, List.length_singleton] at hk
    rw [if_neg c, h k (by omega), List.getElem?_append_left (by omega), ← List.getD_eq_getElem?_getD]
theorem set_D {f : Nat → Int32} {ps : List Nat} {d i : Nat} (hi : i < ps.length) (h : ∀ k, k < ps.length → f k = Int32.ofNat (ps.getD k 0)) : ∀ k, k < (ps.set i d).length → upd f i (Int32.ofNat d) k = Int32.ofNat ((ps.set i d).getD k 0) := fun k hk => by
  rw [List.length_set] at hk
  rw [upd_e, List.getD_eq_getElem?_getD]
  by_cases c : k = i
  · subst c; rw [if_pos rfl, List.getElem?_set_self hk]; rfl
  · rw [if_neg c, h k hk, List.getElem?_set_ne (Ne.symm c), ← List.getD_eq_getElem?_getD]
theorem ls_mark : LS_mark LR := by
  intro k d_x_deeds_desks q_x_deeds_desks x_imageKept x_desk_genus x_desk_size x_desk_limit x_desk_tree a_x_desk_powers x_imageDesk_genus x_imageDesk_size x_imageDesk_limit x_imageDesk_tree a_x_imageDesk_powers x_deeds_now x_deeds_last a_x_deeds_desks x_deeds_desks_genus x_deeds_desks_size x_deeds_desks_limit x_deeds_desks_tree x_numbers_round x_numbers_size x_numbers_sum x_numbers_gathered a_x_numbers_keys a_x_numbers_aboves a_x_numbers_rounds x_reader_refused x_reader_place x_reader_cannotBe x_tape_size a_x_tape_bytes x_reader_told_genus x_reader_told_size x_reader_told_limit x_reader_told_tree a_x_reader_told_powers a_x_reader_causes x_speller_size a_x_speller_bytes a_x_holders x_holders_sort x_holders_tree x_holders_limit x_holders_above x_holders_size m_genus m_marks m_leaves m_splits m_done m_undone m_metMany m_treesSeen m_taped m_place m_isWrong m_toldGenus m_toldMarks m_isTree m_toldLeaves m_leavesPlace m_toldSplits m_isWhy m_papered m_isKept a_m_powers a_m_tree a_m_ahead a_m_behind a_m_before a_m_rows a_m_met a_m_metSizes a_m_chosen a_m_tape a_m_toldPowers a_m_powerPlaces a_m_toldTree a_m_splitPlaces a_m_layers a_m_paper a_m_held a_m_numbers a_m_sizes a_m_heldLeaves a_m_items a_m_kept p0 hk hLR
  obtain ⟨us, cur, rs, bs, hV, h8, h9, hH8, hH9, hT, hTP, hWY, hHO, hIM⟩ := hLR
  have hVc : VD cur := hV cur (List.mem_append_right _ List.mem_cons_self)
  rcases power9 p0 with hp | ⟨n, hn, rfl, hp⟩
  · refine ⟨-1, a_x_desk_powers, x_desk_size, x_deeds_now, x_deeds_last, a_x_deeds_desks, d_x_deeds_desks, x_deeds_desks_genus, x_deeds_desks_limit, q_x_deeds_desks, x_deeds_desks_size, x_deeds_desks_tree, a_m_before, a_m_powers, a_m_behind, a_m_ahead, m_marks, m_undone, m_done, ?_, ?_, ⟨us, cur, rs, bs, hV, h8, h9, hH8, hH9, TN_mono hT, hTP, hWY, hHO, hIM⟩⟩
    · unfold F_X8_mark; rw [isPower8, hp, bd_s, if_pos i00]
    · unfold F_X9_mark; rw [hp, bd_s, if_pos i00]
  obtain ⟨q1, q2, q3, q4, q5⟩ := id h8
  obtain ⟨w1, w2, w3, w4, w5, w6⟩ := id h9
  have n8 := hVc.2.1
  by_cases c : cur.2.1.length < 8
  · have c1 : Int32.ofNat cur.2.1.length < (8 : Int32) := (n_lt (b := 8) (by omega) (by omega)).mpr c
    have c2 : ¬ (Int32.ofNat cur.2.1.length = (8 : Int32)) := fun z => by have := (n_inj (b := 8) (by omega) (by omega)).mp z; omega
    have e1 : Int32.ofNat cur.2.1.length + (1 : Int32) = Int32.ofNat (cur.2.1.length + 1) := n_add _ 1
    have hvn : VD (cur.1, cur.2.1 ++ [n], cur.2.2) := ⟨hVc.1, by simp; omega, fun d hd => by
      rcases List.mem_append.mp hd with hd | hd
      · exact hVc.2.2.1 d hd
      · rw [List.mem_singleton.mp hd]; exact hn, hVc.2.2.2⟩
    have d8 : D8 x_desk_genus (Int32.ofNat (cur.2.1.length + 1)) x_desk_limit x_desk_tree (upd a_x_desk_powers cur.2.1.length (Int32.ofNat n)) (cur.1, cur.2.1 ++ [n], cur.2.2) := ⟨q1, by simp, q3, q4, push_D q5⟩
    have d9 : D9 m_genus (Int32.ofNat (cur.2.1.length + 1)) m_leaves m_splits (upd a_m_powers cur.2.1.length (Int32.ofNat n)) a_m_tree (cur.1, cur.2.1 ++ [n], cur.2.2) := ⟨w1, by simp, w3, w4, push_D w5, w6⟩
    obtain ⟨now', last', fp', d', fg', fl', q', fs', ft', es, hs⟩ := settle8 d_x_deeds_desks q_x_deeds_desks hH8 d8 hV hvn
    obtain ⟨bf, eb, hb⟩ := begins9 h9 hVc a_m_before
    obtain ⟨be', ah', un', do', ee, he⟩ := ends9 d9 hvn hVc hb hH9 hH8.2.2.1
    refine ⟨Int32.ofNat (cur.2.1.length + 1), (upd a_x_desk_powers cur.2.1.length (Int32.ofNat n)), (Int32.ofNat (cur.2.1.length + 1)), now', last', fp', d', fg', fl', q', fs', ft', bf, (upd a_m_powers cur.2.1.length (Int32.ofNat n)), be', ah', (Int32.ofNat (cur.2.1.length + 1)), un', do', ?_, ?_, _, _, _, bs, stl_V hV hvn, d8, d9, hs, he, TN_mono hT, hTP, hWY, hHO, hIM⟩
    · unfold F_X8_mark F_X1_addMark
      rw [isPower8, hp, bd_s, if_neg i10, q2, if_pos c1, if_neg (c8 c), setPower8 c, bd_s, bd_s, e1, es, bd_s]
    · unfold F_X9_mark
      rw [hp, bd_s, if_neg i10, w2, if_neg c2, ← w2, eb, bd_s, w2, ck_n c (by omega), n_clamp (by omega), e1, ee, bd_s]
  · have c0 : cur.2.1.length = 8 := by omega
    refine ⟨-3, a_x_desk_powers, x_desk_size, x_deeds_now, x_deeds_last, a_x_deeds_desks, d_x_deeds_desks, x_deeds_desks_genus, x_deeds_desks_limit, q_x_deeds_desks, x_deeds_desks_size, x_deeds_desks_tree, a_m_before, a_m_powers, a_m_behind, a_m_ahead, m_marks, m_undone, m_done, ?_, ?_, ⟨us, cur, rs, bs, hV, h8, h9, hH8, hH9, TN_mono hT, hTP, hWY, hHO, hIM⟩⟩
    · unfold F_X8_mark
      have c1 : ¬ (Int32.ofNat cur.2.1.length < (8 : Int32)) := fun z => c ((n_lt (b := 8) (by omega) (by omega)).mp z)
      rw [isPower8, hp, bd_s, if_neg i10, q2, if_neg c1]
    · unfold F_X9_mark
      have c2 : Int32.ofNat cur.2.1.length = (8 : Int32) := by rw [c0]; rfl
      rw [hp, bd_s, if_neg i10, w2, if_pos c2]
theorem ls_change : LS_change LR := by
  intro k d_x_deeds_desks q_x_deeds_desks x_imageKept x_desk_genus x_desk_size x_desk_limit x_desk_tree a_x_desk_powers x_imageDesk_genus x_imageDesk_size x_imageDesk_limit x_imageDesk_tree a_x_imageDesk_powers x_deeds_now x_deeds_last a_x_deeds_desks x_deeds_desks_genus x_deeds_desks_size x_deeds_desks_limit x_deeds_desks_tree x_numbers_round x_numbers_size x_numbers_sum x_numbers_gathered a_x_numbers_keys a_x_numbers_aboves a_x_numbers_rounds x_reader_refused x_reader_place x_reader_cannotBe x_tape_size a_x_tape_bytes x_reader_told_genus x_reader_told_size x_reader_told_limit x_reader_told_tree a_x_reader_told_powers a_x_reader_causes x_speller_size a_x_speller_bytes a_x_holders x_holders_sort x_holders_tree x_holders_limit x_holders_above x_holders_size m_genus m_marks m_leaves m_splits m_done m_undone m_metMany m_treesSeen m_taped m_place m_isWrong m_toldGenus m_toldMarks m_isTree m_toldLeaves m_leavesPlace m_toldSplits m_isWhy m_papered m_isKept a_m_powers a_m_tree a_m_ahead a_m_behind a_m_before a_m_rows a_m_met a_m_metSizes a_m_chosen a_m_tape a_m_toldPowers a_m_powerPlaces a_m_toldTree a_m_splitPlaces a_m_layers a_m_paper a_m_held a_m_numbers a_m_sizes a_m_heldLeaves a_m_items a_m_kept p0 p1 hk hLR
  obtain ⟨us, cur, rs, bs, hV, h8, h9, hH8, hH9, hT, hTP, hWY, hHO, hIM⟩ := hLR
  have hVc : VD cur := hV cur (List.mem_append_right _ List.mem_cons_self)
  obtain ⟨q1, q2, q3, q4, q5⟩ := id h8
  obtain ⟨w1, w2, w3, w4, w5, w6⟩ := id h9
  have n8 := hVc.2.1
  have hm8 : F_X1_hasMark x_desk_size p0 = some (if 0 ≤ p0.toInt ∧ p0.toInt < cur.2.1.length then 1 else 0) := by rw [q2]; exact hasMark8 (by omega) p0
  have hm9 : F_X9_isMark m_marks p0 = some (if 0 ≤ p0.toInt ∧ p0.toInt < cur.2.1.length then 1 else 0) := by rw [w2]; exact isMark9 (by omega) p0
  by_cases c : 0 ≤ p0.toInt ∧ p0.toInt < cur.2.1.length
  · obtain ⟨i, hi, rfl⟩ := i_ofNat c.1
    have hi2 : i < cur.2.1.length := by rw [n_toInt hi] at c; omega
    rw [if_pos c] at hm8 hm9
    rcases power9 p1 with hp | ⟨n, hn, rfl, hp⟩
    · refine ⟨-1, a_x_desk_powers, x_deeds_now, x_deeds_last, a_x_deeds_desks, d_x_deeds_desks, x_deeds_desks_genus, x_deeds_desks_limit, q_x_deeds_desks, x_deeds_desks_size, x_deeds_desks_tree, a_m_powers, a_m_before, a_m_behind, a_m_ahead, m_undone, m_done, ?_, ?_, ⟨us, cur, rs, bs, hV, h8, h9, hH8, hH9, TN_mono hT, hTP, hWY, hHO, hIM⟩⟩
      · unfold F_X8_change; rw [hm8, bd_s, if_neg i10, isPower8, hp, bd_s, if_pos i00]
      · unfold F_X9_change; rw [hm9, bd_s, if_neg i10, hp, bd_s, if_pos i00]
    have hvn : VD (cur.1, cur.2.1.set i n, cur.2.2) := ⟨hVc.1, by simp; omega, fun d hd => by
      rcases List.mem_or_eq_of_mem_set hd with hd | hd
      · exact hVc.2.2.1 d hd
      · rw [hd]; exact hn, hVc.2.2.2⟩
    have d8 : D8 x_desk_genus x_desk_size x_desk_limit x_desk_tree (upd a_x_desk_powers i (Int32.ofNat n)) (cur.1, cur.2.1.set i n, cur.2.2) := ⟨q1, by simp [q2], q3, q4, set_D hi2 q5⟩
    have d9 : D9 m_genus m_marks m_leaves m_splits (upd a_m_powers i (Int32.ofNat n)) a_m_tree (cur.1, cur.2.1.set i n, cur.2.2) := ⟨w1, by simp [w2], w3, w4, set_D hi2 w5, w6⟩
    obtain ⟨now', last', fp', d', fg', fl', q', fs', ft', es, hs⟩ := settle8 d_x_deeds_desks q_x_deeds_desks hH8 d8 hV hvn
    obtain ⟨bf, eb, hb⟩ := begins9 h9 hVc a_m_before
    obtain ⟨be', ah', un', do', ee, he⟩ := ends9 d9 hvn hVc hb hH9 hH8.2.2.1
    refine ⟨a_x_desk_powers i, (upd a_x_desk_powers i (Int32.ofNat n)), now', last', fp', d', fg', fl', q', fs', ft', (upd a_m_powers i (Int32.ofNat n)), bf, be', ah', un', do', ?_, ?_, _, _, _, bs, stl_V hV hvn, d8, d9, hs, he, TN_mono hT, hTP, hWY, hHO, hIM⟩
    · unfold F_X8_change
      rw [hm8, bd_s, if_neg i10, isPower8, hp, bd_s, if_neg i10, powerAt8 (by omega), bd_s, setPower8 (by omega), bd_s, es, bd_s]
    · unfold F_X9_change
      rw [hm9, bd_s, if_neg i10, hp, bd_s, if_neg i10, ck_n (by omega) (by omega), eb, bd_s, ck_n (by omega) (by omega), n_clamp hi, ee, bd_s, q5 i hi2, w5 i hi2]
  · rw [if_neg c] at hm8 hm9
    refine ⟨-1, a_x_desk_powers, x_deeds_now, x_deeds_last, a_x_deeds_desks, d_x_deeds_desks, x_deeds_desks_genus, x_deeds_desks_limit, q_x_deeds_desks, x_deeds_desks_size, x_deeds_desks_tree, a_m_powers, a_m_before, a_m_behind, a_m_ahead, m_undone, m_done, ?_, ?_, ⟨us, cur, rs, bs, hV, h8, h9, hH8, hH9, TN_mono hT, hTP, hWY, hHO, hIM⟩⟩
    · unfold F_X8_change; rw [hm8, bd_s, if_pos i00]
    · unfold F_X9_change; rw [hm9, bd_s, if_pos i00]
