/-! Rows judged. -/
theorem stop3 (P : Nat → Prop) [DecidablePred P] : ∀ n, ¬ P n → ∃ m, m ≤ n ∧ (∀ j, j < m → P j) ∧ ¬ P m := by
  intro n hn
  induction n using Nat.strongRecOn with
  | _ n ih =>
    by_cases h : ∀ j, j < n → P j
    · exact ⟨n, Nat.le_refl n, h, hn⟩
    · have ⟨j, hj⟩ := Classical.not_forall.mp h
      have ⟨h1, h2⟩ := Classical.not_imp.mp hj
      obtain ⟨m, a, b, c⟩ := ih j h1 h2
      exact ⟨m, by omega, b, c⟩
theorem unlikeRow8 {L : Nat} (h3 : 3 ≤ L) (h6 : L ≤ 6) {ts : List Nat} (hv : vt L ts = true) {n m : Nat} (hn : n ≤ 20) (f : Nat → Int32) (hm : ∀ j, j < m → j < n ∧ j < ts.length ∧ f j = Int32.ofNat (ts.getD j 0)) (hs : ¬ (m < n ∧ m < ts.length ∧ f m = Int32.ofNat (ts.getD m 0))) :
    F_X2_firstUnlike (Int32.ofNat n) f (tr64 ts) = some (if n ≤ m ∧ ts.length ≤ m then (-1 : Int32) else Int32.ofNat m) := by
  have hl := vt_len h3 h6 hv
  have hm3 : m ≤ 3 := by
    rcases Nat.lt_or_ge 3 m with q | q
    · have := (hm 3 q).2.1; omega
    · exact q
  unfold F_X2_firstUnlike
  rw [sizeOf8 h3 h6 hv, bd_s]
  have mx : (if Int32.ofNat n < Int32.ofNat ts.length then Int32.ofNat ts.length else Int32.ofNat n) = Int32.ofNat (max n ts.length) := by
    by_cases z : n < ts.length
    · rw [if_pos ((n_lt (by omega) (by omega)).mpr z), Nat.max_eq_right (by omega)]
    · rw [if_neg (fun q => z ((n_lt (by omega) (by omega)).mp q)), Nat.max_eq_left (by omega)]
  refine wq1_it m (fun j => Int32.ofNat j) (fun j hj ag => ?_) (fun ag => ?_) FU (by unfold FU; omega)
  · obtain ⟨a1, a2, a3⟩ := hm j hj
    unfold B_X2_firstUnlike_18
    have y0 : ¬ Int32.ofNat (max n ts.length) ≤ Int32.ofNat j := fun z => by have := (n_le (by omega) (by omega)).mp z; omega
    have y1 : ¬ Int32.ofNat ts.length ≤ Int32.ofNat j := fun z => by have := (n_le (by omega) (by omega)).mp z; omega
    rw [mx, if_neg y0, if_neg y1, place8 hn, n_toInt (by omega), if_pos (by omega), bd_s, if_neg i10, ck_n (by omega) (by omega), nth8 h3 h6 hv (by omega), bd_s, n_clamp (by omega), if_pos a2, if_pos a3, show (1 : Int32) = Int32.ofNat 1 from rfl, n_add]
  · unfold B_X2_firstUnlike_18
    rw [mx]
    by_cases c : n ≤ m ∧ ts.length ≤ m
    · rw [if_pos ((n_le (by omega) (by omega)).mpr (by omega)), if_pos c]; rfl
    · have y0 : ¬ Int32.ofNat (max n ts.length) ≤ Int32.ofNat m := fun z => by have := (n_le (by omega) (by omega)).mp z; omega
      rw [if_neg y0]
      by_cases d : ts.length ≤ m
      · rw [if_pos ((n_le (by omega) (by omega)).mpr d), if_neg (by omega)]
      · have y1 : ¬ Int32.ofNat ts.length ≤ Int32.ofNat m := fun z => by have := (n_le (by omega) (by omega)).mp z; omega
        rw [if_neg y1]
        by_cases e : n ≤ m
        · rw [place8 hn, n_toInt (by omega), if_neg (by omega), bd_s, if_pos i00, if_neg (by omega)]
        · have y3 : ¬ f m = Int32.ofNat (ts.getD m 0) := fun z => hs ⟨by omega, by omega, z⟩
          rw [place8 hn, n_toInt (by omega), if_pos (by omega), bd_s, if_neg i10, ck_n (by omega) (by omega), nth8 h3 h6 hv (by omega), bd_s, n_clamp (by omega), if_pos (show m < ts.length by omega), if_neg y3, if_neg (by omega)]
theorem unlikeRow9 {ts : List Nat} (hl : ts.length ≤ 3) {n m h : Nat} (hh : h < 6) (hn : n ≤ 20) (sizes items T : Nat → Int32) (hsz : sizes h = Int32.ofNat n) (hT : ∀ k, k < ts.length → T k = Int32.ofNat (ts.getD k 0)) (hm : ∀ j, j < m → j < n ∧ j < ts.length ∧ items (20 * h + j) = Int32.ofNat (ts.getD j 0)) (hs : ¬ (m < n ∧ m < ts.length ∧ items (20 * h + m) = Int32.ofNat (ts.getD m 0))) :
    wq1 (B_X9_judge_25 (Int32.ofNat ts.length) sizes items T (Int32.ofNat h) K_X9_judge_25_89) FU (0 : Int32) = some (if n ≤ m ∧ ts.length ≤ m then (-2 : Int32) else Int32.ofNat m) := by
  have hm3 : m ≤ 3 := by
    rcases Nat.lt_or_ge 3 m with q | q
    · have := (hm 3 q).2.1; omega
    · exact q
  have e20 : ∀ j, (20 : Int32) * Int32.ofNat h + Int32.ofNat j = Int32.ofNat (20 * h + j) := fun j => by rw [show (20 : Int32) = Int32.ofNat 20 from rfl, n_mul, n_add]
  refine wq1_it m (fun j => Int32.ofNat j) (fun j hj ag => ?_) (fun ag => ?_) FU (by unfold FU; omega)
  · obtain ⟨a1, a2, a3⟩ := hm j hj
    unfold B_X9_judge_25 J_X9_judge_43
    have y1 : ¬ Int32.ofNat ts.length ≤ Int32.ofNat j := fun z => by have := (n_le (by omega) (by omega)).mp z; omega
    have y2 : Int32.ofNat j < Int32.ofNat n := (n_lt (by omega) (by omega)).mpr a1
    have y4 : ¬ Int32.ofNat n ≤ Int32.ofNat j := fun z => by have := (n_le (by omega) (by omega)).mp z; omega
    rw [ck_n hh (by omega), ck_n hh (by omega), n_clamp (by omega), hsz, if_pos y2, if_neg y4, if_neg y1, e20, ck_n (by omega) (by omega), ck_n (by omega) (by omega), n_clamp (by omega), n_clamp (by omega), hT j a2, if_pos a3, show (1 : Int32) = Int32.ofNat 1 from rfl, n_add]
  · unfold B_X9_judge_25 J_X9_judge_43
    rw [ck_n hh (by omega), ck_n hh (by omega), n_clamp (by omega), hsz]
    by_cases c : n ≤ m
    · have y2 : ¬ Int32.ofNat m < Int32.ofNat n := fun z => by have := (n_lt (by omega) (by omega)).mp z; omega
      have y4 : Int32.ofNat n ≤ Int32.ofNat m := (n_le (by omega) (by omega)).mpr c
      rw [if_neg y2]
      by_cases d : ts.length ≤ m
      · rw [if_pos ((n_le (by omega) (by omega)).mpr d), if_pos ⟨c, d⟩]; rfl
      · have y1 : ¬ Int32.ofNat ts.length ≤ Int32.ofNat m := fun z => by have := (n_le (by omega) (by omega)).mp z; omega
        rw [if_neg y1, if_pos y4, if_neg (by omega)]
    · have y2 : Int32.ofNat m < Int32.ofNat n := (n_lt (by omega) (by omega)).mpr (by omega)
      have y4 : ¬ Int32.ofNat n ≤ Int32.ofNat m := fun z => by have := (n_le (by omega) (by omega)).mp z; omega
      rw [if_pos y2, if_neg y4]
      by_cases d : ts.length ≤ m
      · rw [if_pos ((n_le (by omega) (by omega)).mpr d), if_neg (by omega)]
      · have y1 : ¬ Int32.ofNat ts.length ≤ Int32.ofNat m := fun z => by have := (n_le (by omega) (by omega)).mp z; omega
        have y3 : ¬ items (20 * h + m) = Int32.ofNat (ts.getD m 0) := fun z => hs ⟨by omega, by omega, z⟩
        rw [if_neg y1, e20, ck_n (by omega) (by omega), ck_n (by omega) (by omega), n_clamp (by omega), n_clamp (by omega), hT m (by omega), if_neg y3, if_neg (by omega)]
theorem ls_judge : LS_judge LR := by
  intro k d_x_deeds_desks q_x_deeds_desks x_imageKept x_desk_genus x_desk_size x_desk_limit x_desk_tree a_x_desk_powers x_imageDesk_genus x_imageDesk_size x_imageDesk_limit x_imageDesk_tree a_x_imageDesk_powers x_deeds_now x_deeds_last a_x_deeds_desks x_deeds_desks_genus x_deeds_desks_size x_deeds_desks_limit x_deeds_desks_tree x_numbers_round x_numbers_size x_numbers_sum x_numbers_gathered a_x_numbers_keys a_x_numbers_aboves a_x_numbers_rounds x_reader_refused x_reader_place x_reader_cannotBe x_tape_size a_x_tape_bytes x_reader_told_genus x_reader_told_size x_reader_told_limit x_reader_told_tree a_x_reader_told_powers a_x_reader_causes x_speller_size a_x_speller_bytes a_x_holders x_holders_sort x_holders_tree x_holders_limit x_holders_above x_holders_size m_genus m_marks m_leaves m_splits m_done m_undone m_metMany m_treesSeen m_taped m_place m_isWrong m_toldGenus m_toldMarks m_isTree m_toldLeaves m_leavesPlace m_toldSplits m_isWhy m_papered m_isKept a_m_powers a_m_tree a_m_ahead a_m_behind a_m_before a_m_rows a_m_met a_m_metSizes a_m_chosen a_m_tape a_m_toldPowers a_m_powerPlaces a_m_toldTree a_m_splitPlaces a_m_layers a_m_paper a_m_held a_m_numbers a_m_sizes a_m_heldLeaves a_m_items a_m_kept p0 hk hLR
  obtain ⟨us, cur, rs, bs, hV, h8, h9, hH8, hH9, hT, hTP, hWY, hHO, hIM⟩ := hLR
  have hVc : VD cur := hV cur (List.mem_append_right _ List.mem_cons_self)
  rcases hold_cases p0 with ⟨e8, e9⟩ | ⟨h, hh, rfl, e8, e9⟩
  · refine ⟨-1, ?_, ?_, ⟨us, cur, rs, bs, hV, h8, h9, hH8, hH9, TN_mono hT, hTP, hWY, hHO, hIM⟩⟩
    · unfold F_X8_judge; rw [e8, bd_s, if_pos rfl]; rfl
    · unfold F_X9_judge; rw [e9, bd_s, if_pos i00]
  obtain ⟨g1, -⟩ := hHO h hh
  rcases refusal3 (x_holders_sort h) with ⟨c, cr⟩ | ⟨c, r, hr, cr⟩
  · obtain ⟨n, hn, s1, s2, s3⟩ := HO_row hHO hh c
    have hl := VD_tlen hVc
    have hb : ¬ (3 < n ∧ 3 < cur.2.2.2.length ∧ a_x_holders h 3 = Int32.ofNat (cur.2.2.2.getD 3 0)) := by omega
    obtain ⟨m, m1, m2, m3⟩ := stop3 (fun j => j < n ∧ j < cur.2.2.2.length ∧ a_x_holders h j = Int32.ofNat (cur.2.2.2.getD j 0)) 3 hb
    have u8 := unlikeRow8 hVc.2.2.2.1 hVc.2.2.2.2.1 hVc.2.2.2.2.2 hn (a_x_holders h) m2 m3
    have u9 := unlikeRow9 hl hh hn a_m_sizes a_m_items a_m_tree s2 h9.2.2.2.2.2 (fun j hj => ⟨(m2 j hj).1, (m2 j hj).2.1, by rw [← s3 j (m2 j hj).1]; exact (m2 j hj).2.2⟩) (fun z => m3 ⟨z.1, z.2.1, by rw [s3 m z.1]; exact z.2.2⟩)
    refine ⟨if n ≤ m ∧ cur.2.2.2.length ≤ m then (-2 : Int32) else Int32.ofNat m, ?_, ?_, ⟨us, cur, rs, bs, hV, h8, h9, hH8, hH9, TN_mono hT, hTP, hWY, hHO, hIM⟩⟩
    · unfold F_X8_judge
      rw [e8, bd_s, if_neg (h_ne6 hh), cr, bd_s, if_pos i00, s1, h8.2.2.2.1, u8, bd_s]
      by_cases d : n ≤ m ∧ cur.2.2.2.length ≤ m
      · rw [if_pos d, if_pos d, if_pos rfl]
      · have y : ¬ Int32.ofNat m = (-1 : Int32) := fun z => by
          have z1 := congrArg Int32.toInt z
          rw [n_toInt (by omega), show (-1 : Int32).toInt = -1 from rfl] at z1
          omega
        rw [if_neg d, if_neg d, if_neg y]
    · unfold F_X9_judge
      rw [e9, bd_s, if_neg i10, rowless9 hh, ← g1, cr, bd_s, if_pos i00, h9.2.2.2.1, u9]
  · refine ⟨r, ?_, ?_, ⟨us, cur, rs, bs, hV, h8, h9, hH8, hH9, TN_mono hT, hTP, hWY, hHO, hIM⟩⟩
    · unfold F_X8_judge; rw [e8, bd_s, if_neg (h_ne6 hh), cr, bd_s, if_neg hr]
    · unfold F_X9_judge; rw [e9, bd_s, if_neg i10, rowless9 hh, ← g1, cr, bd_s, if_neg hr, bd_s]
