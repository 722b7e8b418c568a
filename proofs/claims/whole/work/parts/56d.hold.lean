/-! hold(), onTree(). -/
theorem in01 (p : Int32) : (F_X9_in p.toInt64 (0 : Int64) (1 : Int64) = some 0 ∧ (p < 0 ∨ ¬ p < 0 ∧ ¬ p ≤ (1 : Int32))) ∨ ((p = 0 ∨ p = 1) ∧ F_X9_in p.toInt64 (0 : Int64) (1 : Int64) = some 1) := by
  rcases isPart89 p with ⟨a1, a2⟩ | ⟨a0, a1, a2⟩
  · refine Or.inl ⟨a2, ?_⟩
    rcases n_cases p with hp | ⟨n, hn, rfl⟩
    · exact Or.inl hp
    · refine Or.inr ⟨n_neg hn, fun z => ?_⟩
      have z1 := (n_le (b := 1) hn (by omega)).mp z
      have e1 : (1 : Int64).toInt = 1 := rfl
      rw [in9n hn, e1, if_pos (by omega)] at a2
      exact absurd a2 (by decide)
  · exact Or.inr ⟨a0, a2⟩
theorem items9 {h c : Nat} (hh : h < 6) (hc : c ≤ 3) (T items : Nat → Int32) (kk : (Nat → Int32) → Option (Int32 × (Nat → Int32) × (Nat → Int32) × (Nat → Int32) × (Nat → Int32) × (Nat → Int64) × (Nat → Int32))) :
    wq2 (B_X9_hold_110 (Int32.ofNat c) T (Int32.ofNat h) kk) FU items (0 : Int32) = kk (layd items (20 * h) T c) := by
  have e0 := layd_0 items (20 * h) T
  conv => lhs; rw [← e0]
  refine wq2_it c (fun j => layd items (20 * h) T j) (fun j => Int32.ofNat j) (fun j hj ag => ?_) (fun ag => ?_) FU (by unfold FU; omega)
  · have ej : Int32.ofNat j + (1 : Int32) = Int32.ofNat (j + 1) := n_add j 1
    have e20 : (20 : Int32) * Int32.ofNat h + Int32.ofNat j = Int32.ofNat (20 * h + j) := by rw [show (20 : Int32) = Int32.ofNat 20 from rfl, n_mul, n_add]
    unfold B_X9_hold_110
    rw [if_neg (c_ge (by omega) (by omega) hj), e20, ck_n (by omega) (by omega), ck_n (by omega) (by omega), n_clamp (by omega), n_clamp (by omega), layd_s, ej]
  · unfold B_X9_hold_110
    rw [if_pos ((n_le (by omega) (by omega)).mpr (Nat.le_refl _))]
theorem ls_hold : LS_hold LR := by
  intro k d_x_deeds_desks q_x_deeds_desks x_imageKept x_desk_genus x_desk_size x_desk_limit x_desk_tree a_x_desk_powers x_imageDesk_genus x_imageDesk_size x_imageDesk_limit x_imageDesk_tree a_x_imageDesk_powers x_deeds_now x_deeds_last a_x_deeds_desks x_deeds_desks_genus x_deeds_desks_size x_deeds_desks_limit x_deeds_desks_tree x_numbers_round x_numbers_size x_numbers_sum x_numbers_gathered a_x_numbers_keys a_x_numbers_aboves a_x_numbers_rounds x_reader_refused x_reader_place x_reader_cannotBe x_tape_size a_x_tape_bytes x_reader_told_genus x_reader_told_size x_reader_told_limit x_reader_told_tree a_x_reader_told_powers a_x_reader_causes x_speller_size a_x_speller_bytes a_x_holders x_holders_sort x_holders_tree x_holders_limit x_holders_above x_holders_size m_genus m_marks m_leaves m_splits m_done m_undone m_metMany m_treesSeen m_taped m_place m_isWrong m_toldGenus m_toldMarks m_isTree m_toldLeaves m_leavesPlace m_toldSplits m_isWhy m_papered m_isKept a_m_powers a_m_tree a_m_ahead a_m_behind a_m_before a_m_rows a_m_met a_m_metSizes a_m_chosen a_m_tape a_m_toldPowers a_m_powerPlaces a_m_toldTree a_m_splitPlaces a_m_layers a_m_paper a_m_held a_m_numbers a_m_sizes a_m_heldLeaves a_m_items a_m_kept p0 p1 hk hLR
  obtain ⟨us, cur, rs, bs, hV, h8, h9, hH8, hH9, hT, hTP, hWY, hHO, hIM⟩ := hLR
  have hVc : VD cur := hV cur (List.mem_append_right _ List.mem_cons_self)
  obtain ⟨q1, q2, q3, q4, q5⟩ := id h8
  obtain ⟨w1, w2, w3, w4, w5, w6⟩ := id h9
  have hvt := hVc.2.2.2.2.2
  have L3 := hVc.2.2.2.1
  have L6 := hVc.2.2.2.2.1
  have hl3 := VD_tlen hVc
  rcases hold_cases p0 with ⟨e8, e9⟩ | ⟨h, hh, rfl, e8, e9⟩
  · refine ⟨-1, a_x_numbers_keys, a_x_numbers_aboves, x_numbers_size, x_numbers_sum, x_numbers_gathered, x_holders_above, x_holders_limit, x_holders_sort, x_holders_tree, a_m_held, a_m_heldLeaves, a_m_sizes, a_m_items, a_m_numbers, a_m_rows, ?_, ?_, ⟨us, cur, rs, bs, hV, h8, h9, hH8, hH9, TN_mono hT, hTP, hWY, hHO, hIM⟩⟩
    · unfold F_X8_hold; rw [e8, bd_s, if_pos rfl]
    · unfold F_X9_hold; rw [e9, bd_s, if_pos i00]
  rcases in01 p1 with ⟨b, c⟩ | ⟨c, b⟩
  · refine ⟨-1, a_x_numbers_keys, a_x_numbers_aboves, x_numbers_size, x_numbers_sum, x_numbers_gathered, x_holders_above, x_holders_limit, x_holders_sort, x_holders_tree, a_m_held, a_m_heldLeaves, a_m_sizes, a_m_items, a_m_numbers, a_m_rows, ?_, ?_, ⟨us, cur, rs, bs, hV, h8, h9, hH8, hH9, TN_mono hT, hTP, hWY, hHO, hIM⟩⟩
    · unfold F_X8_hold
      rcases c with c | ⟨c, d⟩
      · rw [e8, bd_s, if_neg (h_ne6 hh), if_pos c]
      · rw [e8, bd_s, if_neg (h_ne6 hh), if_neg c, if_neg d]
    · unfold F_X9_hold; rw [e9, bd_s, if_neg i10, b, bd_s, if_pos i00]
  rcases c with rfl | rfl
  · obtain ⟨r, keys', aboves', sz, sm, ga, rows', n8, n9, t⟩ := number89 h8 h9 hVc hT.2.2.2 x_numbers_size x_numbers_sum x_numbers_gathered a_m_rows (0 : Int32)
    have hn : ∃ N', (F_X9_hold m_genus m_marks m_leaves m_splits a_m_held a_m_heldLeaves a_m_sizes a_m_items a_m_tree a_m_numbers a_m_rows a_m_powers (Int32.ofNat h) (0 : Int32) = some (m_marks, upd a_m_held h (1 : Int32), a_m_heldLeaves, a_m_sizes, a_m_items, N', rows')) ∧ N' h = fm64 r ∧ ∀ j, ¬ j = h → N' j = a_m_numbers j := by
      by_cases c : 0 ≤ lg_cmp (r - r / (1000003 : Int64) * (1000003 : Int64)) (0 : Int64)
      · refine ⟨vp_updL (vp_updL a_m_numbers h (r - r / (1000003 : Int64) * (1000003 : Int64))) h (vp_updL a_m_numbers h (r - r / (1000003 : Int64) * (1000003 : Int64)) h), ?_, ?_, fun j hj => ?_⟩
        · unfold F_X9_hold
          have c2 : 0 ≤ lg_cmp (vp_updL a_m_numbers h (r - r / (1000003 : Int64) * (1000003 : Int64)) h) (0 : Int64) := by rw [vpL_e, if_pos rfl]; exact c
          rw [e9, bd_s, if_neg i10, b, bd_s, if_neg i10, ck_n hh (by omega), if_pos rfl, n9, bd_s, n_clamp (by omega)]
          dsimp only
          rw [ck_n hh (by omega), ck_n hh (by omega), if_pos c2, ck_n hh (by omega), ck_n hh (by omega)]; rfl
        · rw [vpL_e, if_pos rfl, vpL_e, if_pos rfl]; unfold fm64; rw [if_pos c]
        · rw [vpL_e, if_neg hj, vpL_e, if_neg hj]
      · refine ⟨vp_updL (vp_updL a_m_numbers h (r - r / (1000003 : Int64) * (1000003 : Int64))) h (vp_updL a_m_numbers h (r - r / (1000003 : Int64) * (1000003 : Int64)) h + (1000003 : Int64)), ?_, ?_, fun j hj => ?_⟩
        · unfold F_X9_hold
          have c2 : ¬ 0 ≤ lg_cmp (vp_updL a_m_numbers h (r - r / (1000003 : Int64) * (1000003 : Int64)) h) (0 : Int64) := by rw [vpL_e, if_pos rfl]; exact c
          rw [e9, bd_s, if_neg i10, b, bd_s, if_neg i10, ck_n hh (by omega), if_pos rfl, n9, bd_s, n_clamp (by omega)]
          dsimp only
          rw [ck_n hh (by omega), ck_n hh (by omega), if_neg c2, ck_n hh (by omega), ck_n hh (by omega)]; rfl
        · rw [vpL_e, if_pos rfl, vpL_e, if_pos rfl]; unfold fm64; rw [if_neg c]
        · rw [vpL_e, if_neg hj, vpL_e, if_neg hj]
    obtain ⟨N', f9, fh, fj⟩ := hn
    refine ⟨x_desk_size, keys', aboves', sz, sm, ga, (va_up x_holders_above h r), x_holders_limit, (va_up x_holders_sort h (1 : Int32)), x_holders_tree, (upd a_m_held h (1 : Int32)), a_m_heldLeaves, a_m_sizes, a_m_items, N', rows', ?_, ?_, us, cur, rs, bs, hV, h8, h9, hH8, hH9, TN_new hT t, hTP, hWY, fun j hj => ?_, hIM⟩
    · unfold F_X8_hold F_X2_holdNumber
      rw [e8, bd_s, if_neg (h_ne6 hh), if_neg (by decide), if_pos (by decide), if_pos rfl, n8, bd_s, bd_s]
    · rw [f9, w2, q2]
    · by_cases z : j = h
      · subst z
        simp only [va_up_e, upd_e, if_true]
        exact ⟨trivial, Or.inr (Or.inl ⟨trivial, fh⟩)⟩
      · simp only [va_up_e, upd_e, if_neg z]
        obtain ⟨g1, g2⟩ := hHO j hj
        refine ⟨g1, ?_⟩
        rcases g2 with g2 | g2 | g2 | g2
        · exact Or.inl g2
        · exact Or.inr (Or.inl ⟨g2.1, (fj j z).trans g2.2⟩)
        · exact Or.inr (Or.inr (Or.inl g2))
        · exact Or.inr (Or.inr (Or.inr g2))
  · refine ⟨Int32.ofNat cur.2.2.2.length, a_x_numbers_keys, a_x_numbers_aboves, x_numbers_size, x_numbers_sum, x_numbers_gathered, x_holders_above, (va_up x_holders_limit h x_desk_limit), (va_up x_holders_sort h (2 : Int32)), (va_up x_holders_tree h x_desk_tree), (upd a_m_held h (2 : Int32)), (upd a_m_heldLeaves h m_leaves), (upd a_m_sizes h m_splits), (layd a_m_items (20 * h) a_m_tree cur.2.2.2.length), a_m_numbers, a_m_rows, ?_, ?_, us, cur, rs, bs, hV, h8, h9, hH8, hH9, TN_mono hT, hTP, hWY, fun j hj => ?_, hIM⟩
    · unfold F_X8_hold F_X2_holdTree
      rw [e8, bd_s, if_neg (h_ne6 hh), if_neg (by decide), if_pos (by decide), if_neg i10, bd_s, q4, VD_size hVc, bd_s]
    · unfold F_X9_hold
      have e12 : (1 : Int32) + (1 : Int32) = 2 := by decide
      rw [e9, bd_s, if_neg i10, b, bd_s, if_neg i10, ck_n hh (by omega), if_neg i10, ck_n hh (by omega), ck_n hh (by omega), w4, items9 hh hl3]
      unfold K_X9_hold_110_141
      rw [n_clamp (by omega), e12]
    · by_cases z : j = h
      · subst z
        simp only [va_up_e, upd_e, if_true]
        refine ⟨trivial, Or.inr (Or.inr (Or.inl ⟨trivial, cur.2.2.1, cur.2.2.2, L3, L6, hvt, q3, q4, w3, w4, fun k hk => ?_⟩))⟩
        unfold layd
        rw [if_pos (by omega), show 20 * j + k - 20 * j = k by omega]; exact w6 k hk
      · simp only [va_up_e, upd_e, if_neg z]
        obtain ⟨g1, g2⟩ := hHO j hj
        refine ⟨g1, ?_⟩
        rcases g2 with g2 | g2 | ⟨g2, L, ts, l1, l2, l3, l4, l5, l6, l7, l8⟩ | ⟨g2, m, l1, l2, l3, l4⟩
        · exact Or.inl g2
        · exact Or.inr (Or.inl g2)
        · refine Or.inr (Or.inr (Or.inl ⟨g2, L, ts, l1, l2, l3, l4, l5, l6, l7, fun k hk => ?_⟩))
          have := vt_len l1 l2 l3
          unfold layd
          rw [if_neg (by omega)]; exact l8 k hk
        · refine Or.inr (Or.inr (Or.inr ⟨g2, m, l1, l2, l3, fun k hk => ?_⟩))
          unfold layd
          rw [if_neg (by omega)]; exact l4 k hk
/-! Numbers at nodes. -/
def sel (A : Nat) (ps : List Nat) (j : Nat) : List Nat := ((List.range j).filter (fun k => A.testBit k)).map (fun k => ps.getD k 0)
theorem sel_s (A : Nat) (ps : List Nat) (j : Nat) : sel A ps (j + 1) = sel A ps j ++ if A.testBit j = true then [ps.getD j 0] else [] := by
  unfold sel
  rw [List.range_succ, List.filter_append, List.map_append]
  congr 1
  by_cases c : A.testBit j = true
  · rw [if_pos c, List.filter_cons_of_pos c]; rfl
  · rw [if_neg c, List.filter_cons_of_neg c]; rfl
theorem sel_len (A : Nat) (ps : List Nat) (j : Nat) : (sel A ps j).length ≤ j := by
  unfold sel
  rw [List.length_map]
  have := List.length_filter_le (fun k => A.testBit k) (List.range j)
  rw [List.length_range] at this; exact this
theorem sel_12 {A : Nat} {ps : List Nat} (h : ∀ d ∈ ps, d ≤ 12) (j : Nat) : ∀ x ∈ sel A ps j, x ≤ 12 := fun x hx => by
  obtain ⟨k, -, rfl⟩ := List.mem_map.mp hx
  exact getD_le h
def ndL (A e : Nat) (ps : List Nat) (L : Nat) : List Nat := sel A ps L ++ List.replicate e 0
theorem rep_s (l : List Nat) (e : Nat) : l ++ List.replicate (e + 1) 0 = (l ++ List.replicate e 0) ++ [0] := by
  rw [List.replicate_succ', List.append_assoc]
theorem nd_sum (l : List Nat) (e : Nat) : (l ++ List.replicate e 0).sum = l.sum := by
  rw [List.sum_append_nat, List.sum_replicate_nat, Nat.mul_zero, Nat.add_zero]
theorem or1 : ∀ a, a < 64 → a % 2 = 0 → a ||| 1 = a + 1 := by decide
theorem node8 {A e L : Nat} {ps : List Nat} {pw : Nat → Int32} (hp : ∀ k, k < ps.length → pw k = Int32.ofNat (ps.getD k 0)) (h12 : ∀ d ∈ ps, d ≤ 12) (hL : ps.length = L) (L6 : L ≤ 6) (hA : A < 64) (he : e ≤ 4) {keys aboves : Nat → Int64} (hT : TI keys aboves) :
    ∃ keys' aboves' sz sm ga, J_X8_numberOfNode_51 (Int32.ofNat L) pw keys aboves (Int32.ofNat A) (Int32.ofNat e) = some (Int64.ofNat (VW 0 (ndL A e ps L)), keys', aboves', sz, sm, ga) ∧ TI keys' aboves' := by
  have ej : ∀ j, Int32.ofNat j + (1 : Int32) = Int32.ofNat (j + 1) := fun j => n_add j 1
  have hlen := sel_len A ps L
  have hs := sum_le12 (sel_12 (A := A) h12 L)
  have hnl : (ndL A e ps L).length ≤ 10 := by unfold ndL; rw [List.length_append, List.length_replicate]; omega
  have hns : (ndL A e ps L).sum ≤ 100 := by unfold ndL; rw [nd_sum]; omega
  obtain ⟨keys', aboves', e2, t⟩ := above8 (kzL_O 0 (ndL A e ps L)) hT
  have k128 : K_X8_numberOfNode_107_128 keys aboves (Int32.ofNat (ndL A e ps L).length) (Int32.ofNat (ndL A e ps L).sum) (gth (ndL A e ps L)) = some (Int64.ofNat (VW 0 (ndL A e ps L)), keys', aboves', Int32.ofNat (ndL A e ps L).length, Int32.ofNat (ndL A e ps L).sum, gth (ndL A e ps L)) := by
    unfold K_X8_numberOfNode_107_128
    have ek : F_X3_keyFor (Int32.ofNat (ndL A e ps L).length) (Int32.ofNat (ndL A e ps L).sum) (gth (ndL A e ps L)) (0 : Int32) = some (Int64.ofNat (kzL 0 (ndL A e ps L))) := keyFor8 (g := 0) (by omega) (by omega) (by omega)
    rw [ek, bd_s, e2, bd_s]; rfl
  refine ⟨keys', aboves', Int32.ofNat (ndL A e ps L).length, Int32.ofNat (ndL A e ps L).sum, gth (ndL A e ps L), ?_, t⟩
  unfold J_X8_numberOfNode_51 F_X3_begin
  rw [bd_s]
  dsimp only
  refine wq4_it L (fun j => Int32.ofNat (sel A ps j).length) (fun j => Int32.ofNat (sel A ps j).sum) (fun j => gth (sel A ps j)) (fun j => Int32.ofNat j) (fun j hj ag => ?_) (fun ag => ?_) FU (by unfold FU; omega)
  · unfold B_X8_numberOfNode_61
    rw [if_neg (c_ge (by omega) (by omega) hj), bit6 A hA j (by omega), ej]
    by_cases c : A.testBit j = true
    · have hd : ps.getD j 0 ≤ 12 := getD_le h12
      rw [if_pos c, if_neg i10, powerAt8 (by omega), bd_s, hp j (by omega), add8 (sel A ps j) (by omega), bd_s, sel_s, if_pos c]
    · rw [if_neg c, if_pos i00, sel_s, if_neg c, List.append_nil]
  · unfold B_X8_numberOfNode_61
    rw [if_pos ((n_le (by omega) (by omega)).mpr (Nat.le_refl _))]
    unfold K_X8_numberOfNode_61_104
    have key := wq4_it (B := B_X8_numberOfNode_107 (Int32.ofNat e) (K_X8_numberOfNode_107_128 keys aboves)) e (fun j => Int32.ofNat (sel A ps L ++ List.replicate j 0).length) (fun j => Int32.ofNat (sel A ps L ++ List.replicate j 0).sum) (fun j => gth (sel A ps L ++ List.replicate j 0)) (fun j => Int32.ofNat j) (r := some (Int64.ofNat (VW 0 (ndL A e ps L)), keys', aboves', Int32.ofNat (ndL A e ps L).length, Int32.ofNat (ndL A e ps L).sum, gth (ndL A e ps L))) (fun j hj ag => by
      unfold B_X8_numberOfNode_107
      have ea : F_X3_add (Int32.ofNat (sel A ps L ++ List.replicate j 0).length) (Int32.ofNat (sel A ps L ++ List.replicate j 0).sum) (gth (sel A ps L ++ List.replicate j 0)) (0 : Int32) = _ := add8 (sel A ps L ++ List.replicate j 0) (p := 0) (by omega)
      rw [if_neg (c_ge (by omega) (by omega) hj), ea, bd_s, ej, rep_s]) (fun ag => by
      unfold B_X8_numberOfNode_107
      rw [if_pos ((n_le (by omega) (by omega)).mpr (Nat.le_refl _))]
      exact k128) FU (by unfold FU; omega)
    have z0 : sel A ps L ++ List.replicate 0 0 = sel A ps L := by simp
    rw [z0] at key
    exact key
theorem node9 {A e L c : Nat} {ps : List Nat} {mp T : Nat → Int32} {s : Nat} (hp : ∀ k, k < ps.length → mp k = Int32.ofNat (ps.getD k 0)) (h12 : ∀ d ∈ ps, d ≤ 12) (hL : ps.length = L) (L6 : L ≤ 6) (hA : A < 64) (he : e ≤ 4)
    (eA : F_X9_at (Int32.ofNat L) (Int32.ofNat c) T (Int32.ofNat s) = some (Int32.ofNat A)) (eE : F_X9_edges (Int32.ofNat c) T (Int32.ofNat s) = some (Int32.ofNat e)) (rows : Nat → Int32) :
    ∃ rows', F_X9_numberAtNode (Int32.ofNat L) (Int32.ofNat c) T rows mp (Int32.ofNat s) = some (Int64.ofNat (VW 0 (ndL A e ps L)), rows') := by
  have ej : ∀ j, Int32.ofNat j + (1 : Int32) = Int32.ofNat (j + 1) := fun j => n_add j 1
  have hlen := sel_len A ps L
  have hs := sum_le12 (sel_12 (A := A) h12 L)
  unfold F_X9_numberAtNode
  rw [eA, bd_s]
  refine wq3_inv (B := B_X9_numberAtNode_11 (Int32.ofNat L) mp (Int32.ofNat A) (K_X9_numberAtNode_11_54 (Int32.ofNat c) T (Int32.ofNat s))) L (fun j f n i => i = Int32.ofNat j ∧ n = Int32.ofNat (sel A ps j).length ∧ rp f (sel A ps j)) (fun r => ∃ rows', r = some (Int64.ofNat (VW 0 (ndL A e ps L)), rows')) (fun j hj f n i hI => ?_) (fun f n i hI => ?_) FU (by unfold FU; omega) rows 0 0 ⟨rfl, rfl, rp_nil _⟩
  · obtain ⟨rfl, rfl, hf⟩ := hI
    have hlj := sel_len A ps j
    by_cases b : A.testBit j = true
    · refine Or.inl ⟨upd f (sel A ps j).length (Int32.ofNat (ps.getD j 0)), _, _, ⟨rfl, rfl, by rw [sel_s, if_pos b]; exact rp_push hf _⟩, fun ag => ?_⟩
      unfold B_X9_numberAtNode_11
      rw [if_neg (c_ge (by omega) (by omega) hj), bit6 A hA j (by omega), if_pos b, if_neg i10, ck_n (by omega) (by omega), ck_n (by omega) (by omega), n_clamp (by omega), n_clamp (by omega), hp j (by omega), ej, ej, sel_s, if_pos b, List.length_append, List.length_singleton]
    · refine Or.inl ⟨f, _, _, ⟨rfl, rfl, by rw [sel_s, if_neg b, List.append_nil]; exact hf⟩, fun ag => ?_⟩
      unfold B_X9_numberAtNode_11
      rw [if_neg (c_ge (by omega) (by omega) hj), bit6 A hA j (by omega), if_neg b, if_pos i00, ej, sel_s, if_neg b, List.append_nil]
  · obtain ⟨rfl, rfl, hf⟩ := hI
    have key := wq2_inv (B := B_X9_numberAtNode_63 (Int32.ofNat (sel A ps L).length) (Int32.ofNat e) K_X9_numberAtNode_63_82) e (fun j f n => n = Int32.ofNat (sel A ps L ++ List.replicate j 0).length ∧ rp f (sel A ps L ++ List.replicate j 0)) (fun r => ∃ rows', r = some (Int64.ofNat (VW 0 (ndL A e ps L)), rows')) (fun j hj f n hI => by
      obtain ⟨rfl, hf⟩ := hI
      refine Or.inl ⟨upd f (sel A ps L ++ List.replicate j 0).length (Int32.ofNat 0), _, ⟨rfl, by rw [rep_s]; exact rp_push hf 0⟩, fun ag => ?_⟩
      have hl : (sel A ps L ++ List.replicate j 0).length = (sel A ps L).length + j := by simp
      unfold B_X9_numberAtNode_63
      rw [n_add, if_neg (c_ge (by omega) (by omega) (by omega)), ck_n (by omega) (by omega), n_clamp (by omega), len1 _ 0, rep_s]; rfl) (fun f n hI => by
      obtain ⟨rfl, hf⟩ := hI
      have hl : (sel A ps L ++ List.replicate e 0).length = (sel A ps L).length + e := by simp
      obtain ⟨rows', e2⟩ := numOf9 (g := 0) hf (by omega) (by omega) (by rw [nd_sum]; omega)
      refine ⟨_, ⟨rows', rfl⟩, fun ag => ?_⟩
      unfold B_X9_numberAtNode_63 K_X9_numberAtNode_63_82
      have e2' : F_X9_numberOf f (0 : Int32) (Int32.ofNat (sel A ps L ++ List.replicate e 0).length) = some (Int64.ofNat (VW 0 (sel A ps L ++ List.replicate e 0)), rows') := e2
      rw [n_add, if_pos ((n_le (by omega) (by omega)).mpr (by omega)), e2', bd_s]; rfl) FU (by unfold FU; omega) f (Int32.ofNat (sel A ps L).length) ⟨by simp, by simpa using hf⟩
    obtain ⟨rows', e2⟩ := key
    refine ⟨_, ⟨rows', rfl⟩, fun ag => ?_⟩
    unfold B_X9_numberAtNode_11 K_X9_numberAtNode_11_54
    rw [if_pos ((n_le (by omega) (by omega)).mpr (Nat.le_refl _)), eE, bd_s, e2]
noncomputable def nodeV (a : AD) (s : Nat) : Nat := VW 0 (ndL (nodeA a.2.2.1 a.2.2.2 s + if s = 0 then 1 else 0) (nodeE a.2.2.1 a.2.2.2 s + if s = 0 then 0 else 1) a.2.1 a.2.2.1)
theorem nodeN8 {g s lim : Int32} {tr : Int64} {pw : Nat → Int32} {a : AD} (h : D8 g s lim tr pw a) (hv : VD a) (hL : a.2.1.length = a.2.2.1) {sp : Nat} (hsp : sp = 0 ∨ sp ∈ a.2.2.2) {keys aboves : Nat → Int64} (hT : TI keys aboves) :
    ∃ keys' aboves' sz sm ga, F_X8_numberOfNode s lim tr pw keys aboves (Int32.ofNat sp) = some (Int64.ofNat (nodeV a sp), keys', aboves', sz, sm, ga) ∧ TI keys' aboves' := by
  obtain ⟨rfl, rfl, rfl, rfl, hp⟩ := h
  have L3 := hv.2.2.2.1
  have L6 := hv.2.2.2.2.1
  have hvt := hv.2.2.2.2.2
  obtain ⟨a1, a2, a3, a4, a5, a6, a7, a8⟩ := node89 L3 L6 hvt (T := trf a.2.2.2) (fun k v hv => by unfold trf; rw [List.getD_eq_getElem?_getD, hv]; rfl) hsp
  have hp64 := pow_le64 L6
  have sm := vt_small L6 hvt
  obtain ⟨keys', aboves', sz, smm, ga, e, t⟩ := node8 (A := nodeA a.2.2.1 a.2.2.2 sp + if sp = 0 then 1 else 0) (e := nodeE a.2.2.1 a.2.2.2 sp + if sp = 0 then 0 else 1) hp hv.2.2.1 hL L6 (by by_cases c : sp = 0 <;> simp [c] <;> first | omega | (subst c; omega)) (by by_cases c : sp = 0 <;> simp [c] <;> first | omega | (subst c; omega)) hT
  refine ⟨keys', aboves', sz, smm, ga, ?_, t⟩
  unfold F_X8_numberOfNode
  rw [a1, bd_s, a2, bd_s, a3, bd_s]
  unfold nodeV
  rw [hL]
  by_cases c : sp = 0
  · subst c
    rw [if_pos rfl, if_pos rfl] at e
    have e1 : Int32.ofNat (nodeA a.2.2.1 a.2.2.2 0) ||| (1 : Int32) = Int32.ofNat (nodeA a.2.2.1 a.2.2.2 0 + 1) := by
      have := n_or (nodeA a.2.2.1 a.2.2.2 0) 1
      rw [or1 _ (by omega) a8] at this; exact this
    rw [if_pos rfl, if_pos rfl, if_pos (show Int32.ofNat 0 = (0 : Int32) from rfl), e1]
    exact e
  · have c0 : ¬ Int32.ofNat sp = 0 := fun z => c ((n_inj (b := 0) (by have := hsp.resolve_left c; have := sm sp this; omega) (by omega)).mp z)
    rw [if_neg c, if_neg c] at e
    have e1 : Int32.ofNat (nodeE a.2.2.1 a.2.2.2 sp) + (1 : Int32) = Int32.ofNat (nodeE a.2.2.1 a.2.2.2 sp + 1) := n_add _ 1
    rw [if_neg c0, if_neg c, if_neg c, e1]
    exact e
theorem nodeN9 {g n L s : Int32} {mp mt : Nat → Int32} {a : AD} (h : D9 g n L s mp mt a) (hv : VD a) (hL : a.2.1.length = a.2.2.1) {sp : Nat} (hsp : sp = 0 ∨ sp ∈ a.2.2.2) (rows : Nat → Int32) : ∃ rows', F_X9_numberAtNode L s mt rows mp (Int32.ofNat sp) = some (Int64.ofNat (nodeV a sp), rows') := by
  obtain ⟨rfl, rfl, rfl, rfl, hp, ht⟩ := h
  have L3 := hv.2.2.2.1
  have L6 := hv.2.2.2.2.1
  have hvt := hv.2.2.2.2.2
  obtain ⟨a1, a2, a3, a4, a5, a6, a7, a8⟩ := node89 L3 L6 hvt (T := mt) (D_rp ht) hsp
  have hp64 := pow_le64 L6
  exact node9 hp hv.2.2.1 hL L6 (by by_cases c : sp = 0 <;> simp [c] <;> first | omega | (subst c; omega)) (by by_cases c : sp = 0 <;> simp [c] <;> first | omega | (subst c; omega)) a4 a5 rows
noncomputable def prT (a : AD) (j : Nat) : Int64 := (a.2.2.2.take j).foldl (fun p t => p * Int64.ofNat (nodeV a t)) (Int64.ofNat (nodeV a 0))
theorem prT_s (a : AD) {j : Nat} (hj : j < a.2.2.2.length) : prT a (j + 1) = prT a j * Int64.ofNat (nodeV a (a.2.2.2.getD j 0)) := by
  unfold prT
  rw [getD_el hj, List.take_succ_eq_append_getElem hj, List.foldl_append]; rfl
theorem ls_onTree : LS_onTree LR := by
  intro k d_x_deeds_desks q_x_deeds_desks x_imageKept x_desk_genus x_desk_size x_desk_limit x_desk_tree a_x_desk_powers x_imageDesk_genus x_imageDesk_size x_imageDesk_limit x_imageDesk_tree a_x_imageDesk_powers x_deeds_now x_deeds_last a_x_deeds_desks x_deeds_desks_genus x_deeds_desks_size x_deeds_desks_limit x_deeds_desks_tree x_numbers_round x_numbers_size x_numbers_sum x_numbers_gathered a_x_numbers_keys a_x_numbers_aboves a_x_numbers_rounds x_reader_refused x_reader_place x_reader_cannotBe x_tape_size a_x_tape_bytes x_reader_told_genus x_reader_told_size x_reader_told_limit x_reader_told_tree a_x_reader_told_powers a_x_reader_causes x_speller_size a_x_speller_bytes a_x_holders x_holders_sort x_holders_tree x_holders_limit x_holders_above x_holders_size m_genus m_marks m_leaves m_splits m_done m_undone m_metMany m_treesSeen m_taped m_place m_isWrong m_toldGenus m_toldMarks m_isTree m_toldLeaves m_leavesPlace m_toldSplits m_isWhy m_papered m_isKept a_m_powers a_m_tree a_m_ahead a_m_behind a_m_before a_m_rows a_m_met a_m_metSizes a_m_chosen a_m_tape a_m_toldPowers a_m_powerPlaces a_m_toldTree a_m_splitPlaces a_m_layers a_m_paper a_m_held a_m_numbers a_m_sizes a_m_heldLeaves a_m_items a_m_kept hk hLR
  obtain ⟨us, cur, rs, bs, hV, h8, h9, hH8, hH9, hT, hTP, hWY, hHO, hIM⟩ := hLR
  have hVc : VD cur := hV cur (List.mem_append_right _ List.mem_cons_self)
  obtain ⟨q1, q2, q3, q4, q5⟩ := id h8
  obtain ⟨w1, w2, w3, w4, w5, w6⟩ := id h9
  have L3 := hVc.2.2.2.1
  have L6 := hVc.2.2.2.2.1
  have hvt := hVc.2.2.2.2.2
  have n8 := hVc.2.1
  have hl3 := VD_tlen hVc
  by_cases hL : cur.2.1.length = cur.2.2.1
  · obtain ⟨k1, b1, s1, m1, g1, e1, t1⟩ := nodeN8 h8 hVc hL (sp := 0) (Or.inl rfl) hT.2.2.2
    obtain ⟨r1, f1⟩ := nodeN9 h9 hVc hL (sp := 0) (Or.inl rfl) a_m_rows
    have e1' : F_X8_numberOfNode x_desk_size x_desk_limit x_desk_tree a_x_desk_powers a_x_numbers_keys a_x_numbers_aboves (0 : Int32) = some (Int64.ofNat (nodeV cur 0), k1, b1, s1, m1, g1) := e1
    have f1' : F_X9_numberAtNode m_leaves m_splits a_m_tree a_m_rows a_m_powers (0 : Int32) = some (Int64.ofNat (nodeV cur 0), r1) := f1
    have ej : ∀ j, Int32.ofNat j + (1 : Int32) = Int32.ofNat (j + 1) := fun j => n_add j 1
    have G8 : ∃ keys' aboves' sz sm ga, F_X8_onTree x_desk_size x_desk_limit x_desk_tree x_numbers_size x_numbers_sum x_numbers_gathered a_x_desk_powers a_x_numbers_keys a_x_numbers_aboves = some (prT cur cur.2.2.2.length, keys', aboves', sz, sm, ga) ∧ TI keys' aboves' := by
      unfold F_X8_onTree
      rw [if_pos (by rw [q2, q3, hL]), e1', bd_s, q4, VD_size hVc, bd_s, ← q4]
      dsimp only
      refine wq7_inv (B := B_X8_onTree_41 x_desk_size x_desk_limit x_desk_tree a_x_desk_powers (Int32.ofNat cur.2.2.2.length) K_X8_onTree_41_72) cur.2.2.2.length (fun j ks as sz sm ga p i => i = Int32.ofNat j ∧ p = prT cur j ∧ TI ks as) (fun r => ∃ keys' aboves' sz sm ga, r = some (prT cur cur.2.2.2.length, keys', aboves', sz, sm, ga) ∧ TI keys' aboves') (fun j hj ks as sz sm ga p i hI => ?_) (fun ks as sz sm ga p i hI => ?_) FU (by unfold FU; omega) _ _ _ _ _ _ _ ⟨rfl, rfl, t1⟩
      · obtain ⟨rfl, rfl, ht⟩ := hI
        have gm : cur.2.2.2.getD j 0 ∈ cur.2.2.2 := getD_mem hj
        obtain ⟨k2, b2, s2, m2, g2, e2, t2⟩ := nodeN8 h8 hVc hL (Or.inr gm) ht
        refine Or.inl ⟨k2, b2, s2, m2, g2, _, _, ⟨rfl, rfl, t2⟩, fun ag => ?_⟩
        unfold B_X8_onTree_41
        have en : F_X6_nth x_desk_tree (Int32.ofNat j) = some (Int32.ofNat (cur.2.2.2.getD j 0)) := by rw [q4, nth8 L3 L6 hvt (by omega), if_pos hj]
        rw [if_neg (c_ge (by omega) (by omega) hj), en, bd_s, e2, bd_s, ej, prT_s cur hj]
      · obtain ⟨rfl, rfl, ht⟩ := hI
        refine ⟨_, ⟨ks, as, sz, sm, ga, rfl, ht⟩, fun ag => ?_⟩
        unfold B_X8_onTree_41
        rw [if_pos ((n_le (by omega) (by omega)).mpr (Nat.le_refl _))]; rfl
    have G9 : ∃ rows', F_X9_onTree m_marks m_leaves m_splits a_m_tree a_m_rows a_m_powers = some (prT cur cur.2.2.2.length, rows') := by
      unfold F_X9_onTree
      rw [if_pos (by rw [w2, w3, hL]), f1', bd_s]
      dsimp only
      refine wq3_inv (B := B_X9_onTree_23 m_leaves m_splits a_m_tree a_m_powers K_X9_onTree_23_50) cur.2.2.2.length (fun j rw0 p i => i = Int32.ofNat j ∧ p = prT cur j) (fun r => ∃ rows', r = some (prT cur cur.2.2.2.length, rows')) (fun j hj rw0 p i hI => ?_) (fun rw0 p i hI => ?_) FU (by unfold FU; omega) _ _ _ ⟨rfl, rfl⟩
      · obtain ⟨rfl, rfl⟩ := hI
        have gm : cur.2.2.2.getD j 0 ∈ cur.2.2.2 := getD_mem hj
        obtain ⟨r2, f2⟩ := nodeN9 h9 hVc hL (Or.inr gm) rw0
        refine Or.inl ⟨r2, _, _, ⟨rfl, rfl⟩, fun ag => ?_⟩
        have c1 : ¬ m_splits ≤ Int32.ofNat j := by rw [w4]; exact c_ge (by omega) (by omega) hj
        unfold B_X9_onTree_23
        rw [if_neg c1, ck_n (by omega) (by omega), n_clamp (by omega), w6 j hj, f2, bd_s, ej, prT_s cur hj]
      · obtain ⟨rfl, rfl⟩ := hI
        refine ⟨_, ⟨rw0, rfl⟩, fun ag => ?_⟩
        have c1 : m_splits ≤ Int32.ofNat cur.2.2.2.length := by rw [w4]; exact (n_le (by omega) (by omega)).mpr (Nat.le_refl _)
        unfold B_X9_onTree_23
        rw [if_pos c1]; rfl
    obtain ⟨keys', aboves', sz, sm, ga, e8, t⟩ := G8
    obtain ⟨rows', e9⟩ := G9
    exact ⟨prT cur cur.2.2.2.length, keys', aboves', sz, sm, ga, rows', e8, e9, us, cur, rs, bs, hV, h8, h9, hH8, hH9, TN_new hT t, hTP, hWY, hHO, hIM⟩
  · have c8 : ¬ x_desk_size = x_desk_limit := by rw [q2, q3]; exact fun z => hL ((n_inj (by omega) (by omega)).mp z)
    have c9 : ¬ m_marks = m_leaves := by rw [w2, w3]; exact fun z => hL ((n_inj (by omega) (by omega)).mp z)
    refine ⟨-9223372036854775808, a_x_numbers_keys, a_x_numbers_aboves, x_numbers_size, x_numbers_sum, x_numbers_gathered, a_m_rows, ?_, ?_, ⟨us, cur, rs, bs, hV, h8, h9, hH8, hH9, TN_mono hT, hTP, hWY, hHO, hIM⟩⟩
    · unfold F_X8_onTree; rw [if_neg c8]
    · unfold F_X9_onTree; rw [if_neg c9]
