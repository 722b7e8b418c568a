/-! Nodes of a tree; valence(). -/
theorem ck_none {β : Type} {v : Int32} {N : Nat} {k : Option β} (h : v < 0) : ck v N k = none := by
  unfold ck; rw [if_pos (Or.inl h)]
/-- what is read below n, is read the same -/
theorem rd_eq {n : Nat} {T T' : Nat → Int32} (h : ∀ k, k < n → T k = T' k) (hn : n < 1000) {v : Int32} (hv : ¬ Int32.ofNat n ≤ v) : v < 0 ∨ T v.toNatClampNeg = T' v.toNatClampNeg := by
  rcases n_cases v with c | ⟨m, hm, rfl⟩
  · exact Or.inl c
  · refine Or.inr ?_
    rw [n_clamp hm]
    exact h m (Nat.lt_of_not_le fun z => hv ((n_le (by omega) hm).mpr z))
theorem below_c {n : Nat} {T T' : Nat → Int32} (h : ∀ k, k < n → T k = T' k) (hn : n < 1000) {v : Int32} (hv : ¬ Int32.ofNat n ≤ v) (p : Int32) : F_X9_isBelow (Int32.ofNat n) T v p = F_X9_isBelow (Int32.ofNat n) T' v p := by
  have e1 : B_X9_isBelow_22 (Int32.ofNat n) T v p K_X9_isBelow_22_75 = B_X9_isBelow_22 (Int32.ofNat n) T' v p K_X9_isBelow_22_75 := by
    funext w ag
    unfold B_X9_isBelow_22
    by_cases c : Int32.ofNat n ≤ w
    · rw [if_pos c, if_pos c]
    · rw [if_neg c, if_neg c]
      rcases rd_eq h hn hv with z | z
      · rw [ck_none z, ck_none z]
      · rcases rd_eq h hn c with y | y
        · rw [ck_none (N := 3) y, ck_none (N := 3) y]
        · rw [z, y]
  have e2 : B_X9_isBelow_22x1 (Int32.ofNat n) T v p K_X9_isBelow_22_75x1 = B_X9_isBelow_22x1 (Int32.ofNat n) T' v p K_X9_isBelow_22_75x1 := by
    funext w ag
    unfold B_X9_isBelow_22x1
    by_cases c : Int32.ofNat n ≤ w
    · rw [if_pos c, if_pos c]
    · rw [if_neg c, if_neg c]
      rcases rd_eq h hn hv with z | z
      · rw [ck_none z, ck_none z]
      · rcases rd_eq h hn c with y | y
        · rw [ck_none (N := 3) y, ck_none (N := 3) y]
        · rw [z, y]
  unfold F_X9_isBelow
  rw [e1, e2]
  rcases rd_eq h hn hv with z | z
  · rw [ck_none z, ck_none z]
  · rw [z]
theorem edges_c {n : Nat} {T T' : Nat → Int32} (h : ∀ k, k < n → T k = T' k) (hn : n < 1000) (p : Int32) : F_X9_edges (Int32.ofNat n) T p = F_X9_edges (Int32.ofNat n) T' p := by
  have e1 : B_X9_edges_12 (Int32.ofNat n) T p K_X9_edges_12_35 = B_X9_edges_12 (Int32.ofNat n) T' p K_X9_edges_12_35 := by
    funext u w ag
    unfold B_X9_edges_12
    by_cases c : Int32.ofNat n ≤ w
    · rw [if_pos c, if_pos c]
    · rw [if_neg c, if_neg c, below_c h hn c]
  have e2 : B_X9_edges_12x1 (Int32.ofNat n) T p K_X9_edges_12_35x1 = B_X9_edges_12x1 (Int32.ofNat n) T' p K_X9_edges_12_35x1 := by
    funext u w ag
    unfold B_X9_edges_12x1
    by_cases c : Int32.ofNat n ≤ w
    · rw [if_pos c, if_pos c]
    · rw [if_neg c, if_neg c, below_c h hn c]
  unfold F_X9_edges
  rw [e1, e2]
theorem at_c {n : Nat} {T T' : Nat → Int32} (h : ∀ k, k < n → T k = T' k) (hn : n < 1000) (l p : Int32) : F_X9_at l (Int32.ofNat n) T p = F_X9_at l (Int32.ofNat n) T' p := by
  have e1 : B_X9_at_19 (Int32.ofNat n) T p K_X9_at_19_58 = B_X9_at_19 (Int32.ofNat n) T' p K_X9_at_19_58 := by
    funext u w ag
    unfold B_X9_at_19
    by_cases c : Int32.ofNat n ≤ w
    · rw [if_pos c, if_pos c]
    · rw [if_neg c, if_neg c, below_c h hn c]
      rcases rd_eq h hn c with y | y
      · simp only [ck_none (N := 3) y]
      · rw [y]
  have e2 : B_X9_at_19x1 (Int32.ofNat n) T p K_X9_at_19_58x1 = B_X9_at_19x1 (Int32.ofNat n) T' p K_X9_at_19_58x1 := by
    funext u w ag
    unfold B_X9_at_19x1
    by_cases c : Int32.ofNat n ≤ w
    · rw [if_pos c, if_pos c]
    · rw [if_neg c, if_neg c, below_c h hn c]
      rcases rd_eq h hn c with y | y
      · simp only [ck_none (N := 3) y]
      · rw [y]
  unfold F_X9_at
  rw [e1, e2]
def trf (ts : List Nat) : Nat → Int32 := fun k => Int32.ofNat (ts.getD k 0)
def unN (L s : Nat) : Nat := if s = 0 then 2 ^ L - 2 else s
def lesN (L : Nat) (ts : List Nat) (s : Nat) : List Nat := ts.filter (fun t => !(t == unN L s) && (t &&& unN L s == t))
def nodeA (L : Nat) (ts : List Nat) (s : Nat) : Nat := (lesN L ts s).foldl (fun a t => a - (a &&& t)) (unN L s)
def nodeE (L : Nat) (ts : List Nat) (s : Nat) : Nat := ((lesN L ts s).filter (fun t => (lesN L ts s).all (fun u => u == t || !(t &&& u == t)))).length
noncomputable def chkNode (L : Nat) (ts : List Nat) : Bool := (0 :: ts).all (fun s => decide (F_X6_under (Int32.ofNat s) (Int32.ofNat L) = some (Int32.ofNat (unN L s))) && decide (F_X6_leavesAt (tr64 ts) (Int32.ofNat (unN L s)) = some (Int32.ofNat (nodeA L ts s))) && decide (F_X6_edgesDown (tr64 ts) (Int32.ofNat (unN L s)) = some (Int32.ofNat (nodeE L ts s))) &&
  decide (F_X9_at (Int32.ofNat L) (Int32.ofNat ts.length) (trf ts) (Int32.ofNat s) = some (Int32.ofNat (nodeA L ts s + if s = 0 then 1 else 0))) && decide (F_X9_edges (Int32.ofNat ts.length) (trf ts) (Int32.ofNat s) = some (Int32.ofNat (nodeE L ts s + if s = 0 then 0 else 1))) && decide (nodeA L ts s < 2 ^ L) && decide (nodeE L ts s ≤ 3) && decide (nodeA L ts s % 2 = 0))
theorem node_all : (allT 3).all (chkNode 3) = true ∧ (allT 4).all (chkNode 4) = true ∧ (allT 5).all (chkNode 5) = true ∧ (allT 6).all (chkNode 6) = true := by decide +kernel
theorem all_L2 {L : Nat} (h3 : 3 ≤ L) (h6 : L ≤ 6) {ts : List Nat} (h : vt L ts = true) {p : Nat → List Nat → Bool} (hp : (allT 3).all (p 3) = true ∧ (allT 4).all (p 4) = true ∧ (allT 5).all (p 5) = true ∧ (allT 6).all (p 6) = true) : p L ts = true := by
  have h1 := vt_all h3 h6 h
  rcases (show L = 3 ∨ L = 4 ∨ L = 5 ∨ L = 6 by omega) with rfl | rfl | rfl | rfl
  · exact List.all_eq_true.mp hp.1 _ h1
  · exact List.all_eq_true.mp hp.2.1 _ h1
  · exact List.all_eq_true.mp hp.2.2.1 _ h1
  · exact List.all_eq_true.mp hp.2.2.2 _ h1
theorem node89 {L : Nat} (h3 : 3 ≤ L) (h6 : L ≤ 6) {ts : List Nat} (hv : vt L ts = true) {T : Nat → Int32} (hT : rp T ts) {s : Nat} (hs : s = 0 ∨ s ∈ ts) :
    F_X6_under (Int32.ofNat s) (Int32.ofNat L) = some (Int32.ofNat (unN L s)) ∧ F_X6_leavesAt (tr64 ts) (Int32.ofNat (unN L s)) = some (Int32.ofNat (nodeA L ts s)) ∧ F_X6_edgesDown (tr64 ts) (Int32.ofNat (unN L s)) = some (Int32.ofNat (nodeE L ts s)) ∧
    F_X9_at (Int32.ofNat L) (Int32.ofNat ts.length) T (Int32.ofNat s) = some (Int32.ofNat (nodeA L ts s + if s = 0 then 1 else 0)) ∧ F_X9_edges (Int32.ofNat ts.length) T (Int32.ofNat s) = some (Int32.ofNat (nodeE L ts s + if s = 0 then 0 else 1)) ∧ nodeA L ts s < 2 ^ L ∧ nodeE L ts s ≤ 3 ∧ nodeA L ts s % 2 = 0 := by
  have hl := vt_len h3 h6 hv
  have h1 := List.all_eq_true.mp (all_L2 h3 h6 hv node_all) s (by
    rcases hs with rfl | hs
    · exact List.mem_cons_self
    · exact List.mem_cons_of_mem _ hs)
  simp only [Bool.and_eq_true, decide_eq_true_eq] at h1
  obtain ⟨⟨⟨⟨⟨⟨⟨a1, a2⟩, a3⟩, a4⟩, a5⟩, a6⟩, a7⟩, a8⟩ := h1
  have hc : ∀ k, k < ts.length → T k = trf ts k := rp_D hT
  rw [at_c hc (by omega), edges_c hc (by omega)]
  exact ⟨a1, a2, a3, a4, a5, a6, a7, a8⟩
theorem bits_n : ∀ a, a < 64 → F_J6_bitCount_0f7a4 (Int32.ofNat a) = some (Int32.ofNat (bcN a)) ∧ F_X9_bits (Int32.ofNat a) = some (Int32.ofNat (bcN a)) ∧ bcN a ≤ 6 ∧ (a % 2 = 0 → bcN (a + 1) = bcN a + 1) := by decide +kernel
theorem val89 {L : Nat} (h3 : 3 ≤ L) (h6 : L ≤ 6) {ts : List Nat} (hv : vt L ts = true) {T : Nat → Int32} (hT : rp T ts) {s : Nat} (hs : s = 0 ∨ s ∈ ts) :
    ∃ r, J_X8_valence_41 (Int32.ofNat L) (tr64 ts) (Int32.ofNat s) = some r ∧ J_X9_valence_32 (Int32.ofNat L) (Int32.ofNat ts.length) T (Int32.ofNat s) = some r := by
  obtain ⟨a1, a2, a3, a4, a5, a6, a7, a8⟩ := node89 h3 h6 hv hT hs
  have hp := pow_le64 h6
  obtain ⟨b1, b2, b3, b4⟩ := bits_n (nodeA L ts s) (by omega)
  refine ⟨Int32.ofNat (bcN (nodeA L ts s) + nodeE L ts s + 1), ?_, ?_⟩
  · unfold J_X8_valence_41
    rw [a1, bd_s, a2, bd_s, b1, bd_s, a3, bd_s, n_add, show (1 : Int32) = Int32.ofNat 1 from rfl, n_add]
  · unfold J_X9_valence_32
    rw [a4, bd_s, a5]
    by_cases c : s = 0
    · obtain ⟨-, d2, -, -⟩ := bits_n (nodeA L ts s + 1) (by omega)
      rw [if_pos c, if_pos c, d2, bd_s, bd_s, n_add, b4 a8]
      congr 2
      omega
    · rw [if_neg c, if_neg c, Nat.add_zero, b2, bd_s, bd_s, n_add]
      congr 2
theorem ls_valence : LS_valence LR := by
  intro k d_x_deeds_desks q_x_deeds_desks x_imageKept x_desk_genus x_desk_size x_desk_limit x_desk_tree a_x_desk_powers x_imageDesk_genus x_imageDesk_size x_imageDesk_limit x_imageDesk_tree a_x_imageDesk_powers x_deeds_now x_deeds_last a_x_deeds_desks x_deeds_desks_genus x_deeds_desks_size x_deeds_desks_limit x_deeds_desks_tree x_numbers_round x_numbers_size x_numbers_sum x_numbers_gathered a_x_numbers_keys a_x_numbers_aboves a_x_numbers_rounds x_reader_refused x_reader_place x_reader_cannotBe x_tape_size a_x_tape_bytes x_reader_told_genus x_reader_told_size x_reader_told_limit x_reader_told_tree a_x_reader_told_powers a_x_reader_causes x_speller_size a_x_speller_bytes a_x_holders x_holders_sort x_holders_tree x_holders_limit x_holders_above x_holders_size m_genus m_marks m_leaves m_splits m_done m_undone m_metMany m_treesSeen m_taped m_place m_isWrong m_toldGenus m_toldMarks m_isTree m_toldLeaves m_leavesPlace m_toldSplits m_isWhy m_papered m_isKept a_m_powers a_m_tree a_m_ahead a_m_behind a_m_before a_m_rows a_m_met a_m_metSizes a_m_chosen a_m_tape a_m_toldPowers a_m_powerPlaces a_m_toldTree a_m_splitPlaces a_m_layers a_m_paper a_m_held a_m_numbers a_m_sizes a_m_heldLeaves a_m_items a_m_kept p0 hk hLR
  obtain ⟨us, cur, rs, bs, hV, h8, h9, hH8, hH9, hT, hTP, hWY, hHO, hIM⟩ := hLR
  have hVc : VD cur := hV cur (List.mem_append_right _ List.mem_cons_self)
  obtain ⟨q1, q2, q3, q4, q5⟩ := id h8
  obtain ⟨w1, w2, w3, w4, w5, w6⟩ := id h9
  have L3 := hVc.2.2.2.1
  have L6 := hVc.2.2.2.2.1
  have hvt := hVc.2.2.2.2.2
  have hl3 := VD_tlen hVc
  have sm := vt_small L6 hvt
  by_cases z : p0 = 0
  · subst z
    obtain ⟨r, r8, r9⟩ := val89 L3 L6 hvt (D_rp w6) (s := 0) (Or.inl rfl)
    refine ⟨r, ?_, ?_, ⟨us, cur, rs, bs, hV, h8, h9, hH8, hH9, TN_mono hT, hTP, hWY, hHO, hIM⟩⟩
    · unfold F_X8_valence J_X8_valence_20
      rw [if_pos rfl, if_pos rfl, q3, q4]; exact r8
    · unfold F_X9_valence J_X9_valence_17
      rw [if_pos rfl, if_pos rfl, w3, w4]; exact r9
  rcases split89 L3 L6 p0 with ⟨a, b⟩ | ⟨s, hs, hsp, rfl, a, b⟩
  · refine ⟨-1, ?_, ?_, ⟨us, cur, rs, bs, hV, h8, h9, hH8, hH9, TN_mono hT, hTP, hWY, hHO, hIM⟩⟩
    · unfold F_X8_valence; rw [if_neg z, q3, a, bd_s, if_pos i00]
    · unfold F_X9_valence; rw [if_neg z, w3, b, bd_s, if_pos i00]
  obtain ⟨r, er, hr⟩ := place_9 hl3 a_m_tree w6 s (by omega) (fun u hu => by have := sm u hu; omega)
  have h8' := has8 L3 L6 hvt hs
  rcases hr with ⟨rfl, hn⟩ | ⟨m, hm, rfl, e⟩
  · rw [if_neg hn] at h8'
    refine ⟨-5, ?_, ?_, ⟨us, cur, rs, bs, hV, h8, h9, hH8, hH9, TN_mono hT, hTP, hWY, hHO, hIM⟩⟩
    · unfold F_X8_valence J_X8_valence_20; rw [if_neg z, q3, a, bd_s, if_neg i10, if_neg z, q4, h8', bd_s, if_pos i00]
    · unfold F_X9_valence J_X9_valence_17; rw [if_neg z, w3, b, bd_s, if_neg i10, if_neg z, w4, er, bd_s, if_neg (by decide)]
  · have hmem : s ∈ cur.2.2.2 := by rw [← e, getD_el hm]; exact List.getElem_mem hm
    rw [if_pos hmem] at h8'
    obtain ⟨r, r8, r9⟩ := val89 L3 L6 hvt (D_rp w6) (s := s) (Or.inr hmem)
    have e0 : (0 : Int32) ≤ Int32.ofNat m := (n_le (a := 0) (by omega) (by omega)).mpr (by omega)
    refine ⟨r, ?_, ?_, ⟨us, cur, rs, bs, hV, h8, h9, hH8, hH9, TN_mono hT, hTP, hWY, hHO, hIM⟩⟩
    · unfold F_X8_valence J_X8_valence_20; rw [if_neg z, q3, a, bd_s, if_neg i10, if_neg z, q4, h8', bd_s, if_neg i10]; exact r8
    · unfold F_X9_valence J_X9_valence_17; rw [if_neg z, w3, b, bd_s, if_neg i10, if_neg z, w4, er, bd_s, if_pos e0]; exact r9
