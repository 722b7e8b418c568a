/-! A split goes; nodes. -/
noncomputable def chkHas (ts : List Nat) : Bool := (List.range 64).all (fun s => decide (F_X6_has (tr64 ts) (Int32.ofNat s) = some (if s ∈ ts then 1 else 0))) && (List.range ts.length).all (fun m => decide (F_X6_without (tr64 ts) (Int32.ofNat (ts.getD m 0)) = some (tr64 (ts.eraseIdx m))))
theorem has_all : (allT 3).all chkHas = true ∧ (allT 4).all chkHas = true ∧ (allT 5).all chkHas = true ∧ (allT 6).all chkHas = true := by decide +kernel
theorem has8 {L : Nat} (h3 : 3 ≤ L) (h6 : L ≤ 6) {ts : List Nat} (h : vt L ts = true) {s : Nat} (hs : s < 64) : F_X6_has (tr64 ts) (Int32.ofNat s) = some (if s ∈ ts then 1 else 0) := by
  have h1 := all_L h3 h6 h has_all
  unfold chkHas at h1
  rw [Bool.and_eq_true] at h1
  exact of_decide_eq_true (List.all_eq_true.mp h1.1 s (List.mem_range.mpr hs))
theorem without8 {L : Nat} (h3 : 3 ≤ L) (h6 : L ≤ 6) {ts : List Nat} (h : vt L ts = true) {m : Nat} (hm : m < ts.length) : F_X6_without (tr64 ts) (Int32.ofNat (ts.getD m 0)) = some (tr64 (ts.eraseIdx m)) := by
  have h1 := all_L h3 h6 h has_all
  unfold chkHas at h1
  rw [Bool.and_eq_true] at h1
  exact of_decide_eq_true (List.all_eq_true.mp h1.2 m (List.mem_range.mpr hm))
theorem vt_eraseIdx {L : Nat} : ∀ {ts : List Nat} (m : Nat), vt L ts = true → vt L (ts.eraseIdx m) = true
  | [], _, _ => rfl
  | t :: ts, 0, h => vt_tail h
  | t :: ts, m + 1, h => by
    have h1 := vt_eraseIdx m (vt_tail h)
    simp only [vt, Bool.and_eq_true, List.all_eq_true] at h
    have e : vt L ((t :: ts).eraseIdx (m + 1)) = (isSp L t && (ts.eraseIdx m).all (fun u => Nat.blt t u && goT t u) && vt L (ts.eraseIdx m)) := rfl
    rw [e, h.1.1, h1]
    simp only [Bool.true_and, Bool.and_true, List.all_eq_true, Bool.and_eq_true]
    exact fun u hu => Bool.and_eq_true _ _ ▸ h.1.2 u (List.mem_of_mem_eraseIdx hu)
theorem ls_join : LS_join LR := by
  intro k d_x_deeds_desks q_x_deeds_desks x_imageKept x_desk_genus x_desk_size x_desk_limit x_desk_tree a_x_desk_powers x_imageDesk_genus x_imageDesk_size x_imageDesk_limit x_imageDesk_tree a_x_imageDesk_powers x_deeds_now x_deeds_last a_x_deeds_desks x_deeds_desks_genus x_deeds_desks_size x_deeds_desks_limit x_deeds_desks_tree x_numbers_round x_numbers_size x_numbers_sum x_numbers_gathered a_x_numbers_keys a_x_numbers_aboves a_x_numbers_rounds x_reader_refused x_reader_place x_reader_cannotBe x_tape_size a_x_tape_bytes x_reader_told_genus x_reader_told_size x_reader_told_limit x_reader_told_tree a_x_reader_told_powers a_x_reader_causes x_speller_size a_x_speller_bytes a_x_holders x_holders_sort x_holders_tree x_holders_limit x_holders_above x_holders_size m_genus m_marks m_leaves m_splits m_done m_undone m_metMany m_treesSeen m_taped m_place m_isWrong m_toldGenus m_toldMarks m_isTree m_toldLeaves m_leavesPlace m_toldSplits m_isWhy m_papered m_isKept a_m_powers a_m_tree a_m_ahead a_m_behind a_m_before a_m_rows a_m_met a_m_metSizes a_m_chosen a_m_tape a_m_toldPowers a_m_powerPlaces a_m_toldTree a_m_splitPlaces a_m_layers a_m_paper a_m_held a_m_numbers a_m_sizes a_m_heldLeaves a_m_items a_m_kept p0 hk hLR
  obtain ⟨us, cur, rs, bs, hV, h8, h9, hH8, hH9, hT, hTP, hWY, hHO, hIM⟩ := hLR
  have hVc : VD cur := hV cur (List.mem_append_right _ List.mem_cons_self)
  obtain ⟨q1, q2, q3, q4, q5⟩ := id h8
  obtain ⟨w1, w2, w3, w4, w5, w6⟩ := id h9
  have L3 := hVc.2.2.2.1
  have L6 := hVc.2.2.2.2.1
  have hvt := hVc.2.2.2.2.2
  have hl3 := VD_tlen hVc
  have sm := vt_small L6 hvt
  rcases split89 L3 L6 p0 with ⟨a, b⟩ | ⟨s, hs, hsp, rfl, a, b⟩
  · refine ⟨-1, x_desk_tree, x_deeds_now, x_deeds_last, a_x_deeds_desks, d_x_deeds_desks, x_deeds_desks_genus, x_deeds_desks_limit, q_x_deeds_desks, x_deeds_desks_size, x_deeds_desks_tree, a_m_tree, a_m_before, a_m_behind, a_m_ahead, m_undone, m_splits, m_done, ?_, ?_, ⟨us, cur, rs, bs, hV, h8, h9, hH8, hH9, TN_mono hT, hTP, hWY, hHO, hIM⟩⟩
    · unfold F_X8_join; rw [q3, a, bd_s, if_pos i00]
    · unfold F_X9_join; rw [w3, b, bd_s, if_pos i00]
  obtain ⟨r, er, hr⟩ := place_9 hl3 a_m_tree w6 s (by omega) (fun u hu => by have := sm u hu; omega)
  have h8' := has8 L3 L6 hvt hs
  rcases hr with ⟨rfl, hn⟩ | ⟨m, hm, rfl, e⟩
  · rw [if_neg hn] at h8'
    refine ⟨-5, x_desk_tree, x_deeds_now, x_deeds_last, a_x_deeds_desks, d_x_deeds_desks, x_deeds_desks_genus, x_deeds_desks_limit, q_x_deeds_desks, x_deeds_desks_size, x_deeds_desks_tree, a_m_tree, a_m_before, a_m_behind, a_m_ahead, m_undone, m_splits, m_done, ?_, ?_, ⟨us, cur, rs, bs, hV, h8, h9, hH8, hH9, TN_mono hT, hTP, hWY, hHO, hIM⟩⟩
    · unfold F_X8_join; rw [q3, a, bd_s, if_neg i10, q4, h8', bd_s, if_pos i00]
    · unfold F_X9_join; rw [w3, b, bd_s, if_neg i10, w4, er, bd_s, if_neg (by decide)]
  · have hmem : s ∈ cur.2.2.2 := by rw [← e, getD_el hm]; exact List.getElem_mem hm
    rw [if_pos hmem] at h8'
    have hvi := vt_eraseIdx m hvt
    have hlen : Int32.ofNat (cur.2.2.2.length - 1) = Int32.ofNat (cur.2.2.2.eraseIdx m).length := by rw [List.length_eraseIdx_of_lt hm]
    have hvn : VD (cur.1, cur.2.1, cur.2.2.1, cur.2.2.2.eraseIdx m) := ⟨hVc.1, hVc.2.1, hVc.2.2.1, L3, L6, hvi⟩
    have d8 : D8 x_desk_genus x_desk_size x_desk_limit (tr64 (cur.2.2.2.eraseIdx m)) a_x_desk_powers (cur.1, cur.2.1, cur.2.2.1, cur.2.2.2.eraseIdx m) := ⟨q1, q2, q3, rfl, q5⟩
    have d9 : D9 m_genus m_marks m_leaves (Int32.ofNat (cur.2.2.2.length - 1)) a_m_powers (fun k => if m ≤ k ∧ k < cur.2.2.2.length - 1 then a_m_tree (k + 1) else a_m_tree k) (cur.1, cur.2.1, cur.2.2.1, cur.2.2.2.eraseIdx m) := ⟨w1, w2, w3, hlen, w5, erase_D hm w6⟩
    obtain ⟨now', last', fp', d', fg', fl', q', fs', ft', es, hs'⟩ := settle8 d_x_deeds_desks q_x_deeds_desks hH8 d8 hV hvn
    obtain ⟨bf, eb, hb⟩ := begins9 h9 hVc a_m_before
    obtain ⟨be', ah', un', do', ee, he⟩ := ends9 d9 hvn hVc hb hH9 hH8.2.2.1
    refine ⟨Int32.ofNat (cur.2.2.2.length - 1), (tr64 (cur.2.2.2.eraseIdx m)), now', last', fp', d', fg', fl', q', fs', ft', (fun k => if m ≤ k ∧ k < cur.2.2.2.length - 1 then a_m_tree (k + 1) else a_m_tree k), bf, be', ah', un', (Int32.ofNat (cur.2.2.2.length - 1)), do', ?_, ?_, _, _, _, bs, stl_V hV hvn, d8, d9, hs', he, TN_mono hT, hTP, hWY, hHO, hIM⟩
    · unfold F_X8_join
      have ew := without8 L3 L6 hvt hm
      rw [e] at ew
      rw [q3, a, bd_s, if_neg i10, q4, h8', bd_s, if_neg i10, ew, bd_s, ← q3, es, bd_s, sizeOf8 L3 L6 hvi, bd_s, hlen]
    · unfold F_X9_join
      have e0 : (0 : Int32) ≤ Int32.ofNat m := (n_le (a := 0) (by omega) (by omega)).mpr (by omega)
      rw [← w3] at b
      rw [b, bd_s, if_neg i10, w4, er, bd_s, if_pos e0, ← w4, eb, bd_s, w4]
      have e1 : ∀ j, Int32.ofNat j + (1 : Int32) = Int32.ofNat (j + 1) := fun j => n_add j 1
      have en : Int32.ofNat cur.2.2.2.length - (1 : Int32) = Int32.ofNat (cur.2.2.2.length - 1) := n_sub (b := 1) (by omega)
      have key := fun r hr => wq2_it (B := B_X9_join_42 (Int32.ofNat cur.2.2.2.length) (K_X9_join_42_70 m_genus m_marks m_leaves (Int32.ofNat cur.2.2.2.length) m_done m_undone a_m_powers a_m_behind a_m_ahead bf)) (cur.2.2.2.length - 1 - m) (fun t k => if m ≤ k ∧ k < m + t then a_m_tree (k + 1) else a_m_tree k) (fun t => Int32.ofNat (m + t)) (r := r)
        (fun t ht ag => by
          unfold B_X9_join_42
          rw [en, if_neg (c_ge (by omega) (by omega) (by omega)), e1, ck_n (by omega) (by omega), ck_n (by omega) (by omega), n_clamp (by omega), n_clamp (by omega)]
          dsimp only
          rw [if_neg (show ¬ (m ≤ m + t + 1 ∧ m + t + 1 < m + t) by omega), er_step]
          rfl) hr FU (by unfold FU; omega)
      have k2 := key _ (fun ag => by
        unfold B_X9_join_42 K_X9_join_42_70
        try dsimp only
        rw [en, show m + (cur.2.2.2.length - 1 - m) = cur.2.2.2.length - 1 by omega, if_pos ((n_le (by omega) (by omega)).mpr (Nat.le_refl _)), ee, bd_s])
      dsimp only at k2
      rw [er_0] at k2
      exact k2
