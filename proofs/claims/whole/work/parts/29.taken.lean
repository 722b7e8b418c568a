/-! What is held, taken. -/
theorem rem64 (z : Int64) : (z - z / (1000003 : Int64) * (1000003 : Int64)).toInt = z.toInt - (z.toInt.tdiv 1000003) * 1000003 := by
  have e : (1000003 : Int64).toInt = 1000003 := rfl
  have b1 := Int64.le_toInt z
  have b2 := Int64.toInt_lt z
  have d : (z / (1000003 : Int64)).toInt = z.toInt.tdiv 1000003 := by
    have h := Int64.toInt_div_of_ne_right z (1000003 : Int64) (by decide)
    rw [e] at h
    exact h
  have q : -9223372036854775808 ≤ (z.toInt.tdiv 1000003) * 1000003 ∧ (z.toInt.tdiv 1000003) * 1000003 ≤ 9223372036854775807 ∧ -1000003 < z.toInt - (z.toInt.tdiv 1000003) * 1000003 ∧ z.toInt - (z.toInt.tdiv 1000003) * 1000003 < 1000003 := by
    by_cases c : z.toInt < 0
    · have t : z.toInt.tdiv 1000003 = - ((- z.toInt) / 1000003) := by
        have h1 : z.toInt = - (- z.toInt) := by omega
        rw [h1, Int.neg_tdiv, Int.tdiv_eq_ediv_of_nonneg (by omega)]
        simp
      rw [t]; omega
    · rw [Int.tdiv_eq_ediv_of_nonneg (by omega)]; omega
  rw [Int64.toInt_sub, Int64.toInt_mul, d, e, Int.bmod_eq_of_le (n := (z.toInt.tdiv 1000003) * 1000003) (by omega) (by omega), Int.bmod_eq_of_le (by omega) (by omega)]
theorem rem64_s (z : Int64) : (0 ≤ z.toInt → 0 ≤ z.toInt - (z.toInt.tdiv 1000003) * 1000003) ∧ (z.toInt < 0 → z.toInt - (z.toInt.tdiv 1000003) * 1000003 ≤ 0) := by
  refine ⟨fun c => ?_, fun c => ?_⟩
  · rw [Int.tdiv_eq_ediv_of_nonneg c]; omega
  · have t : z.toInt.tdiv 1000003 = - ((- z.toInt) / 1000003) := by
      have h1 : z.toInt = - (- z.toInt) := by omega
      rw [h1, Int.neg_tdiv, Int.tdiv_eq_ediv_of_nonneg (by omega)]
      simp
    rw [t]; omega
theorem xor_s (z : Int64) : (0 ≤ (z ^^^ (1000003 : Int64)).toInt) ↔ 0 ≤ z.toInt := by
  have h : (z ^^^ (1000003 : Int64)).toBitVec.msb = (z.toBitVec.msb ^^ (1000003 : Int64).toBitVec.msb) := by
    rw [Int64.toBitVec_xor, BitVec.msb_xor]
  have h1 : (1000003 : Int64).toBitVec.msb = false := by decide
  rw [h1, Bool.xor_false, BitVec.msb_eq_toInt, BitVec.msb_eq_toInt] at h
  have h2 : ((z ^^^ (1000003 : Int64)).toBitVec.toInt < 0) ↔ (z.toBitVec.toInt < 0) := by simpa using h
  show 0 ≤ (z ^^^ (1000003 : Int64)).toBitVec.toInt ↔ 0 ≤ z.toBitVec.toInt
  omega
theorem cmp0 (z : Int64) : (0 ≤ lg_cmp z (0 : Int64)) ↔ 0 ≤ z.toInt := by
  rw [lg_cmp_ge, Int64.le_iff_toInt_le]
  have : (0 : Int64).toInt = 0 := rfl
  rw [this]
theorem eq0 (z : Int64) : (lg_cmp z (0 : Int64) = 0) ↔ z.toInt = 0 := by
  rw [lg_cmp_eq]
  constructor
  · intro h; rw [h]; rfl
  · intro h; exact Int64.toInt_inj.mp (by rw [h]; rfl)
theorem fmod8 (z : Int64) : F_J9_floorMod_f86c9 z (1000003 : Int64) = some (fm64 z) := by
  unfold F_J9_floorMod_f86c9 dvl fm64
  have hr := rem64 z
  obtain ⟨s1, s2⟩ := rem64_s z
  have y : ¬ (1000003 : Int64) = 0 := by decide
  rw [if_neg y]
  simp only [cmp0, eq0, xor_s, hr]
  by_cases c : 0 ≤ z.toInt
  · rw [if_pos c, if_pos (s1 c)]
  · have s3 := s2 (by omega)
    rw [if_neg c]
    by_cases d : z.toInt - (z.toInt.tdiv 1000003) * 1000003 = 0
    · rw [if_pos d, if_pos (by omega)]
    · rw [if_neg d, if_neg (by omega)]
noncomputable def chkZ (ts : List Nat) : Bool := decide (tr64 ts = 0) == decide (ts.length = 0)
theorem zero_all : (allT 3).all chkZ = true ∧ (allT 4).all chkZ = true ∧ (allT 5).all chkZ = true ∧ (allT 6).all chkZ = true := by decide +kernel
theorem tr64_0 {L : Nat} (h3 : 3 ≤ L) (h6 : L ≤ 6) {ts : List Nat} (h : vt L ts = true) : tr64 ts = 0 ↔ ts.length = 0 := by
  have h1 := all_L h3 h6 h zero_all
  unfold chkZ at h1
  simpa using h1
theorem full8 {L : Nat} (h3 : 3 ≤ L) (h6 : L ≤ 6) {ts : List Nat} (h : vt L ts = true) : F_X2_isFullTree (tr64 ts) (Int32.ofNat L) = some (if ts.length = L - 3 then 1 else 0) := by
  have hl := vt_len h3 h6 h
  unfold F_X2_isFullTree
  rw [sizeOf8 h3 h6 h, bd_s, show (3 : Int32) = Int32.ofNat 3 from rfl, n_sub (by omega)]
  by_cases c : ts.length = L - 3
  · rw [if_pos c, if_pos (by rw [c])]
  · rw [if_neg c, if_neg (fun z => c ((n_inj (by omega) (by omega)).mp z))]
theorem full9 {L h : Nat} (hh : h < 6) (h3 : 3 ≤ L) (h6 : L ≤ 6) {n : Nat} (hn : n ≤ 3) (sizes leaves : Nat → Int32) (hs : sizes h = Int32.ofNat n) (hL : leaves h = Int32.ofNat L) : F_X9_isFull sizes leaves (Int32.ofNat h) = some (if n = L - 3 then 1 else 0) := by
  unfold F_X9_isFull
  rw [ck_n hh (by omega), ck_n hh (by omega), n_clamp (by omega), hs, hL, show (3 : Int32) = Int32.ofNat 3 from rfl, n_sub (by omega)]
  by_cases c : n = L - 3
  · rw [if_pos c, if_pos (by rw [c])]
  · rw [if_neg c, if_neg (fun z => c ((n_inj (by omega) (by omega)).mp z))]
theorem le4 {n : Nat} (h : n ≤ 3) : n = 0 ∨ n = 1 ∨ n = 2 ∨ n = 3 := by omega
theorem full01 (n m : Nat) : ((if n = m then (1 : Int32) else 0) = 0) ↔ ¬ n = m := by
  by_cases c : n = m
  · rw [if_pos c]; exact ⟨fun z => absurd z (by decide), fun z => absurd c z⟩
  · rw [if_neg c]; exact ⟨fun _ => c, fun _ => rfl⟩
theorem ls_taken : LS_taken LR := by
  intro k d_x_deeds_desks q_x_deeds_desks x_imageKept x_desk_genus x_desk_size x_desk_limit x_desk_tree a_x_desk_powers x_imageDesk_genus x_imageDesk_size x_imageDesk_limit x_imageDesk_tree a_x_imageDesk_powers x_deeds_now x_deeds_last a_x_deeds_desks x_deeds_desks_genus x_deeds_desks_size x_deeds_desks_limit x_deeds_desks_tree x_numbers_round x_numbers_size x_numbers_sum x_numbers_gathered a_x_numbers_keys a_x_numbers_aboves a_x_numbers_rounds x_reader_refused x_reader_place x_reader_cannotBe x_tape_size a_x_tape_bytes x_reader_told_genus x_reader_told_size x_reader_told_limit x_reader_told_tree a_x_reader_told_powers a_x_reader_causes x_speller_size a_x_speller_bytes a_x_holders x_holders_sort x_holders_tree x_holders_limit x_holders_above x_holders_size m_genus m_marks m_leaves m_splits m_done m_undone m_metMany m_treesSeen m_taped m_place m_isWrong m_toldGenus m_toldMarks m_isTree m_toldLeaves m_leavesPlace m_toldSplits m_isWhy m_papered m_isKept a_m_powers a_m_tree a_m_ahead a_m_behind a_m_before a_m_rows a_m_met a_m_metSizes a_m_chosen a_m_tape a_m_toldPowers a_m_powerPlaces a_m_toldTree a_m_splitPlaces a_m_layers a_m_paper a_m_held a_m_numbers a_m_sizes a_m_heldLeaves a_m_items a_m_kept p0 p1 hk hLR
  obtain ⟨us, cur, rs, bs, hV, h8, h9, hH8, hH9, hT, hTP, hWY, hHO, hIM⟩ := hLR
  have hVc : VD cur := hV cur (List.mem_append_right _ List.mem_cons_self)
  rcases hold_cases p0 with ⟨e8, e9⟩ | ⟨h, hh, rfl, e8, e9⟩
  · refine ⟨-1, ?_, ?_, ⟨us, cur, rs, bs, hV, h8, h9, hH8, hH9, TN_mono hT, hTP, hWY, hHO, hIM⟩⟩
    · unfold F_X8_taken; rw [e8, bd_s, if_pos rfl]
    · unfold F_X9_taken; rw [e9, bd_s, if_pos i00]
  rcases n_cases p1 with hp | ⟨n, hn, rfl⟩
  · refine ⟨-1, ?_, ?_, ⟨us, cur, rs, bs, hV, h8, h9, hH8, hH9, TN_mono hT, hTP, hWY, hHO, hIM⟩⟩
    · unfold F_X8_taken; rw [e8, bd_s, if_neg (h_ne6 hh), if_pos hp]
    · unfold F_X9_taken; rw [e9, bd_s, if_neg i10, in9neg hp, bd_s, if_pos i00]
  have e3 : (3 : Int64).toInt = 3 := rfl
  have c3 : (Int32.ofNat n ≤ (3 : Int32)) ↔ n ≤ 3 := n_le (b := 3) hn (by omega)
  by_cases n3 : n ≤ 3
  · obtain ⟨g1, g2⟩ := hHO h hh
    have A8 : ∀ r, (if x_holders_sort h = 0 then some (-11 : Int32) else bd (F_X2_isOfKind (x_holders_sort h) (x_holders_tree h) (x_holders_limit h) (Int32.ofNat n)) (fun x5 => if x5 = 0 then some (-12 : Int32) else bd (F_X2_takenFor (x_holders_tree h) (x_holders_limit h) (x_holders_above h) (Int32.ofNat n)) (fun x7 => some x7))) = some r → F_X8_taken x_holders_sort x_holders_tree x_holders_limit x_holders_above (Int32.ofNat h) (Int32.ofNat n) = some r := fun r z => by
      unfold F_X8_taken; rw [e8, bd_s, if_neg (h_ne6 hh), if_neg (n_neg hn), if_pos (c3.mpr n3)]; exact z
    have A9 : ∀ r, (if a_m_held h = 0 then some (-11 : Int32) else if Int32.ofNat n = 0 then (if a_m_held h = (1 : Int32) then some (a_m_numbers h).toInt32 else some (-12 : Int32)) else if a_m_held h = (2 : Int32) then (if Int32.ofNat n = (1 : Int32) then some (a_m_sizes h) else if Int32.ofNat n = (2 : Int32) then bd (F_X9_isFull a_m_sizes a_m_heldLeaves (Int32.ofNat h)) (fun x18 => J_X9_taken_120 a_m_heldLeaves (Int32.ofNat h) x18) else bd (F_X9_isFull a_m_sizes a_m_heldLeaves (Int32.ofNat h)) (fun x14 => if x14 = 0 then (if a_m_sizes h = 0 then J_X9_taken_120 a_m_heldLeaves (Int32.ofNat h) (1 : Int32) else J_X9_taken_119 a_m_heldLeaves (Int32.ofNat h)) else J_X9_taken_119 a_m_heldLeaves (Int32.ofNat h))) else some (-12 : Int32)) = some r → F_X9_taken a_m_held a_m_sizes a_m_heldLeaves a_m_numbers (Int32.ofNat h) (Int32.ofNat n) = some r := fun r z => by
      have kk : ∀ {β : Type} (o : Option β), ck (Int32.ofNat h) 6 o = o := fun o => ck_n hh (by omega)
      unfold F_X9_taken; rw [e9, bd_s, if_neg i10, in9n hn, e3, if_pos (by omega), bd_s, if_neg i10]; simp only [kk, n_clamp (show h < 2147483648 by omega)]; exact z
    have jn : J_X9_taken_119 a_m_heldLeaves (Int32.ofNat h) = some (-12 : Int32) := rfl
    have jp : J_X9_taken_120 a_m_heldLeaves (Int32.ofNat h) (1 : Int32) = some (a_m_heldLeaves h) := by
      unfold J_X9_taken_120; rw [if_neg i10, ck_n hh (by omega), n_clamp (by omega)]
    have jz : J_X9_taken_120 a_m_heldLeaves (Int32.ofNat h) (0 : Int32) = some (-12 : Int32) := rfl
    rcases g2 with c | ⟨c, g2⟩ | ⟨c, L, ts, l1, l2, l3, l4, l5, l6, l7, -⟩ | ⟨c, -⟩
    · refine ⟨-11, A8 _ ?_, A9 _ ?_, ⟨us, cur, rs, bs, hV, h8, h9, hH8, hH9, TN_mono hT, hTP, hWY, hHO, hIM⟩⟩
      · rw [if_pos c]
      · rw [← g1, if_pos c]
    · rcases le4 n3 with rfl | rfl | rfl | rfl
      · refine ⟨(a_m_numbers h).toInt32, A8 _ ?_, A9 _ ?_, ⟨us, cur, rs, bs, hV, h8, h9, hH8, hH9, TN_mono hT, hTP, hWY, hHO, hIM⟩⟩
        · have k1 : F_X2_isOfKind (1 : Int32) (x_holders_tree h) (x_holders_limit h) (Int32.ofNat 0) = some 1 := rfl
          have k2 : F_X2_takenFor (x_holders_tree h) (x_holders_limit h) (x_holders_above h) (Int32.ofNat 0) = bd (F_J9_floorMod_f86c9 (x_holders_above h) (1000003 : Int64)) (fun x2 => some x2.toInt32) := rfl
          rw [c, k1, k2, fmod8, bd_s, bd_s, bd_s, g2]; rfl
        · rw [← g1, c]; rfl
      all_goals
        refine ⟨-12, A8 _ ?_, A9 _ ?_, ⟨us, cur, rs, bs, hV, h8, h9, hH8, hH9, TN_mono hT, hTP, hWY, hHO, hIM⟩⟩
        · rw [c]; rfl
        · rw [← g1, c]; rfl
    · have hl := vt_len l1 l2 l3
      have f8 := full8 l1 l2 l3
      have f9 := full9 hh l1 l2 (n := ts.length) (by omega) a_m_sizes a_m_heldLeaves l7 l6
      rcases le4 n3 with rfl | rfl | rfl | rfl
      · refine ⟨-12, A8 _ ?_, A9 _ ?_, ⟨us, cur, rs, bs, hV, h8, h9, hH8, hH9, TN_mono hT, hTP, hWY, hHO, hIM⟩⟩
        · rw [c]; rfl
        · rw [← g1, c]; rfl
      · refine ⟨a_m_sizes h, A8 _ ?_, A9 _ ?_, ⟨us, cur, rs, bs, hV, h8, h9, hH8, hH9, TN_mono hT, hTP, hWY, hHO, hIM⟩⟩
        · have k1 : F_X2_isOfKind (2 : Int32) (x_holders_tree h) (x_holders_limit h) (Int32.ofNat 1) = some 1 := rfl
          have k2 : F_X2_takenFor (x_holders_tree h) (x_holders_limit h) (x_holders_above h) (Int32.ofNat 1) = bd (F_X6_sizeOf (x_holders_tree h)) (fun x4 => some x4) := rfl
          rw [c, k1, k2, l5, sizeOf8 l1 l2 l3, bd_s, bd_s, bd_s, l7]; rfl
        · rw [← g1, c]; rfl
      · have k1 : F_X2_isOfKind (2 : Int32) (x_holders_tree h) (x_holders_limit h) (Int32.ofNat 2) = bd (F_X2_isFullTree (x_holders_tree h) (x_holders_limit h)) (fun x5 => some x5) := rfl
        have k2 : F_X2_takenFor (x_holders_tree h) (x_holders_limit h) (x_holders_above h) (Int32.ofNat 2) = some (x_holders_limit h) := rfl
        refine ⟨if ts.length = L - 3 then a_m_heldLeaves h else -12, A8 _ ?_, A9 _ ?_, ⟨us, cur, rs, bs, hV, h8, h9, hH8, hH9, TN_mono hT, hTP, hWY, hHO, hIM⟩⟩
        · rw [c, k1, k2, l5, l4, f8, bd_s, bd_s, bd_s, l6]
          by_cases d : ts.length = L - 3
          · rw [if_pos d, if_pos d]; rfl
          · rw [if_neg d, if_neg d]; rfl
        · rw [← g1, c, f9, bd_s]
          by_cases d : ts.length = L - 3
          · rw [if_pos d, if_pos d]; exact jp
          · rw [if_neg d, if_neg d]; rfl
      · have k1 : F_X2_isOfKind (2 : Int32) (x_holders_tree h) (x_holders_limit h) (Int32.ofNat 3) = (if (lg_cmp (x_holders_tree h) (0 : Int64)) = 0 then (bd (F_X2_isFullTree (x_holders_tree h) (x_holders_limit h)) (fun x8 => if x8 = 0 then (some (1 : Int32)) else (some (0 : Int32)))) else (some (0 : Int32))) := rfl
        have k2 : F_X2_takenFor (x_holders_tree h) (x_holders_limit h) (x_holders_above h) (Int32.ofNat 3) = some (x_holders_limit h) := rfl
        have z8 : (lg_cmp (x_holders_tree h) (0 : Int64) = 0) ↔ ts.length = 0 := by rw [lg_cmp_eq, l5]; exact tr64_0 l1 l2 l3
        have z9 : (a_m_sizes h = 0) ↔ ts.length = 0 := by rw [l7]; exact n_inj (b := 0) (by omega) (by omega)
        have f8' := f8
        rw [← l4, ← l5] at f8'
        refine ⟨if ts.length = 0 ∧ ¬ ts.length = L - 3 then a_m_heldLeaves h else -12, A8 _ ?_, A9 _ ?_, ⟨us, cur, rs, bs, hV, h8, h9, hH8, hH9, TN_mono hT, hTP, hWY, hHO, hIM⟩⟩
        · rw [c, k1, k2, f8', bd_s, bd_s, l6]
          by_cases d : ts.length = 0
          · rw [if_pos (z8.mpr d)]
            by_cases e : ts.length = L - 3
            · have w : ¬ (ts.length = 0 ∧ ¬ ts.length = L - 3) := fun z => z.2 e
              rw [if_pos e, if_neg i10, if_neg w]; rfl
            · have w : ts.length = 0 ∧ ¬ ts.length = L - 3 := And.intro d e
              rw [if_neg e, if_pos i00, if_pos w, l4]; rfl
          · have w : ¬ (ts.length = 0 ∧ ¬ ts.length = L - 3) := fun z => d z.1
            rw [if_neg (fun z => d (z8.mp z)), if_neg w]; rfl
        · have m1 : ¬ Int32.ofNat 3 = (0 : Int32) := by decide
          have m2 : ¬ Int32.ofNat 3 = (1 : Int32) := by decide
          have m3 : ¬ Int32.ofNat 3 = (2 : Int32) := by decide
          have m4 : ¬ (2 : Int32) = 0 := by decide
          rw [← g1, c, if_neg m4, if_neg m1, if_pos rfl, if_neg m2, if_neg m3, f9, bd_s]
          by_cases e : ts.length = L - 3
          · have w : ¬ (ts.length = 0 ∧ ¬ ts.length = L - 3) := fun z => z.2 e
            rw [if_pos e, if_neg i10, if_neg w]; rfl
          · rw [if_neg e, if_pos i00]
            by_cases d : ts.length = 0
            · have w : ts.length = 0 ∧ ¬ ts.length = L - 3 := And.intro d e
              rw [if_pos (z9.mpr d), if_pos w]; exact jp
            · have w : ¬ (ts.length = 0 ∧ ¬ ts.length = L - 3) := fun z => d z.1
              rw [if_neg (fun z => d (z9.mp z)), if_neg w]; rfl
    · refine ⟨-12, A8 _ ?_, A9 _ ?_, ⟨us, cur, rs, bs, hV, h8, h9, hH8, hH9, TN_mono hT, hTP, hWY, hHO, hIM⟩⟩
      all_goals rcases le4 n3 with rfl | rfl | rfl | rfl
      all_goals first | (rw [c]; rfl) | (rw [← g1, c]; rfl)
  · refine ⟨-1, ?_, ?_, ⟨us, cur, rs, bs, hV, h8, h9, hH8, hH9, TN_mono hT, hTP, hWY, hHO, hIM⟩⟩
    · unfold F_X8_taken; rw [e8, bd_s, if_neg (h_ne6 hh), if_neg (n_neg hn), if_neg (fun z => n3 (c3.mp z))]
    · unfold F_X9_taken; rw [e9, bd_s, if_neg i10, in9n hn, e3, if_neg (by omega), bd_s, if_pos i00]
