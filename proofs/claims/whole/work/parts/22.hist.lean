/-! Records and desks against their values; the deeds. -/
theorem KR_congr {f f' : Nat → Int32} {o o' : Nat} {a : AD} (h : ∀ k, k < 16 → f' (o' + k) = f (o + k)) (hk : KR f o a) : KR f' o' a := by
  obtain ⟨h0, h1, h2, h3, hp, ht, h15⟩ := hk
  refine ⟨(h 0 (by omega)).trans h0, (h 1 (by omega)).trans h1, (h 2 (by omega)).trans h2, (h 3 (by omega)).trans h3, fun k hk => ?_, fun k hk => ?_, (h 15 (by omega)).trans h15⟩
  · rw [← hp k hk, Nat.add_assoc, h _ (by omega), Nat.add_assoc]
  · rw [← ht k hk, Nat.add_assoc, h _ (by omega), Nat.add_assoc]
theorem KR_off {f : Nat → Int32} {o o' : Nat} {r : Nat → Int32} {a : AD} (h : o' + 16 ≤ o ∨ o + 16 ≤ o') (hk : KR f o' a) : KR (layd f o r 16) o' a :=
  KR_congr (fun k hk => by unfold layd; rw [if_neg (by omega)]) hk
theorem VD_tlen {a : AD} (h : VD a) : a.2.2.2.length ≤ 3 := by
  have := vt_len h.2.2.2.1 h.2.2.2.2.1 h.2.2.2.2.2
  have := h.2.2.2.2.1
  omega
theorem getD_of_ge {l : List Nat} {k : Nat} (h : l.length ≤ k) : l.getD k 0 = 0 := by
  rw [List.getD_eq_getElem?_getD, List.getElem?_eq_none h]; rfl
theorem KR_lay {g m l s : Int32} {mp mt a0 : Nat → Int32} {o : Nat} {a : AD} (h : D9 g m l s mp mt a) (hv : VD a) : KR (layd a0 o (recA g m l s mp mt a.2.1.length a.2.2.2.length) 16) o a := by
  obtain ⟨rfl, rfl, rfl, rfl, hp, ht⟩ := h
  have n8 := hv.2.1
  have c3 := VD_tlen hv
  have q : ∀ j, j < 16 → layd a0 o (recA (Int32.ofNat a.1) (Int32.ofNat a.2.1.length) (Int32.ofNat a.2.2.1) (Int32.ofNat a.2.2.2.length) mp mt a.2.1.length a.2.2.2.length) 16 (o + j) = recA (Int32.ofNat a.1) (Int32.ofNat a.2.1.length) (Int32.ofNat a.2.2.1) (Int32.ofNat a.2.2.2.length) mp mt a.2.1.length a.2.2.2.length j := fun j hj => by
    unfold layd; rw [if_pos (by omega), show o + j - o = j by omega]
  refine ⟨q 0 (by omega), q 1 (by omega), q 2 (by omega), q 3 (by omega), fun k hk => ?_, fun k hk => ?_, q 15 (by omega)⟩
  · rw [Nat.add_assoc, q _ (by omega)]
    unfold recA
    rw [if_neg (by omega), if_neg (by omega), if_neg (by omega), if_neg (by omega), if_pos (by omega), show 4 + k - 4 = k by omega]
    by_cases d : k < a.2.1.length
    · rw [if_pos d, hp k d]
    · rw [if_neg d, getD_of_ge (by omega)]; rfl
  · rw [Nat.add_assoc, q _ (by omega)]
    unfold recA
    rw [if_neg (by omega), if_neg (by omega), if_neg (by omega), if_neg (by omega), if_neg (by omega), if_pos (by omega), show 12 + k - 12 = k by omega]
    by_cases d : k < a.2.2.2.length
    · rw [if_pos d, ht k d]
    · rw [if_neg d, getD_of_ge (by omega)]; rfl
theorem takes9 {N o : Nat} {ap pw tr : Nat → Int32} (hN : o + 16 ≤ N) (hN2 : N < 1000) :
    F_X9_takes N ap pw tr (Int32.ofNat o) = some ((fun k => if k < 8 then ap (o + 4 + k) else pw k), (fun k => if k < 3 then ap (o + 12 + k) else tr k), ap o, ap (o + 1), ap (o + 2), ap (o + 3)) := by
  unfold F_X9_takes
  have e1 : Int32.ofNat o + (1 : Int32) = Int32.ofNat (o + 1) := n_add o 1
  have e2 : Int32.ofNat o + (2 : Int32) = Int32.ofNat (o + 2) := n_add o 2
  have e3 : Int32.ofNat o + (3 : Int32) = Int32.ofNat (o + 3) := n_add o 3
  have e4 : Int32.ofNat o + (4 : Int32) = Int32.ofNat (o + 4) := n_add o 4
  have e12 : Int32.ofNat o + (12 : Int32) = Int32.ofNat (o + 12) := n_add o 12
  rw [e1, e2, e3, ck_n (by omega) (by omega), ck_n (by omega) (by omega), ck_n (by omega) (by omega), ck_n (by omega) (by omega)]
  have step : ∀ (f g : Nat → Int32) (j : Nat), upd (fun k => if k < j then f k else g k) j (f j) = fun k => if k < j + 1 then f k else g k := fun f g j => by
    funext k
    rw [upd_e]
    by_cases e : k = j
    · subst e; rw [if_pos rfl, if_pos (by omega)]
    · rw [if_neg e]
      by_cases d : k < j
      · rw [if_pos d, if_pos (by omega)]
      · rw [if_neg d, if_neg (by omega)]
  have kt : ∀ P : Nat → Int32, wq2 (B_X9_takes_63 N ap (Int32.ofNat o) (K_X9_takes_63_88 ap (Int32.ofNat o) P)) FU tr (Int32.ofNat 0) = some (P, (fun k => if k < 3 then ap (o + 12 + k) else tr k), ap o, ap (o + 1), ap (o + 2), ap (o + 3)) := fun P => by
    have e0 : (fun k => if k < 0 then ap (o + 12 + k) else tr k) = tr := by funext k; simp
    conv => lhs; rw [← e0]
    refine wq2_it 3 (fun j k => if k < j then ap (o + 12 + k) else tr k) (fun j => Int32.ofNat j) (fun j hj ag => ?_) (fun ag => ?_) FU (by unfold FU; omega)
    · unfold B_X9_takes_63
      have q : ¬ ((3 : Int32) ≤ Int32.ofNat j) := c_ge (m := 3) (by omega) (by omega) hj
      rw [if_neg q, e12, n_add, show (1 : Int32) = Int32.ofNat 1 from rfl, n_add, ck_n (by omega) (by omega), ck_n (by omega) (by omega), n_clamp (by omega), n_clamp (by omega), step (fun k => ap (o + 12 + k)) tr j]
    · unfold B_X9_takes_63 K_X9_takes_63_88
      rw [if_pos (by decide), e1, e2, e3, n_clamp (by omega), n_clamp (by omega), n_clamp (by omega), n_clamp (by omega)]
  have e0 : (fun k => if k < 0 then ap (o + 4 + k) else pw k) = pw := by funext k; simp
  conv => lhs; rw [← e0]
  refine wq2_it 8 (fun j k => if k < j then ap (o + 4 + k) else pw k) (fun j => Int32.ofNat j) (fun j hj ag => ?_) (fun ag => ?_) FU (by unfold FU; omega)
  · unfold B_X9_takes_36
    have q : ¬ ((8 : Int32) ≤ Int32.ofNat j) := c_ge (m := 8) (by omega) (by omega) hj
    rw [if_neg q, e4, n_add, show (1 : Int32) = Int32.ofNat 1 from rfl, n_add, ck_n (by omega) (by omega), ck_n (by omega) (by omega), n_clamp (by omega), n_clamp (by omega), step (fun k => ap (o + 4 + k)) pw j]
  · unfold B_X9_takes_36 K_X9_takes_36_61
    rw [if_pos (by decide)]
    exact kt _
theorem D9_takes {ap pw tr : Nat → Int32} {o : Nat} {a : AD} (h : KR ap o a) (hv : VD a) : D9 (ap o) (ap (o + 1)) (ap (o + 2)) (ap (o + 3)) (fun k => if k < 8 then ap (o + 4 + k) else pw k) (fun k => if k < 3 then ap (o + 12 + k) else tr k) a := by
  obtain ⟨h0, h1, h2, h3, hp, ht, h15⟩ := h
  have n8 := hv.2.1
  have c3 := VD_tlen hv
  refine ⟨h0, h1, h2, h3, fun k hk => ?_, fun k hk => ?_⟩
  · show (if k < 8 then _ else _) = _
    rw [if_pos (by omega), hp k (by omega)]
  · show (if k < 3 then _ else _) = _
    rw [if_pos (by omega), ht k (by omega)]
theorem D8_copy {g s l : Int32} {t : Int64} {ap pp : Nat → Int32} {a : AD} (h : D8 g s l t pp a) (hv : VD a) : D8 g s l t (fun k => if k < 8 then pp k else ap k) a := by
  obtain ⟨h0, h1, h2, h3, hp⟩ := h
  refine ⟨h0, h1, h2, h3, fun k hk => ?_⟩
  have := hv.2.1
  show (if k < 8 then _ else _) = _
  rw [if_pos (by omega), hp k hk]
theorem present8 {n : Nat} (h : n ≤ 8) : F_X0_present (Int32.ofNat n) = some n := by
  unfold F_X0_present
  have q : ¬ ((8 : Int32) < Int32.ofNat n) := fun z => by have := (n_lt (a := 8) (by omega) (by omega)).mp z; omega
  rw [if_neg (n_neg (by omega)), if_neg q, ck_n (by omega) (by omega), n_clamp (by omega)]
theorem ls_image : LS_image LR := by
  intro k d_x_deeds_desks q_x_deeds_desks x_imageKept x_desk_genus x_desk_size x_desk_limit x_desk_tree a_x_desk_powers x_imageDesk_genus x_imageDesk_size x_imageDesk_limit x_imageDesk_tree a_x_imageDesk_powers x_deeds_now x_deeds_last a_x_deeds_desks x_deeds_desks_genus x_deeds_desks_size x_deeds_desks_limit x_deeds_desks_tree x_numbers_round x_numbers_size x_numbers_sum x_numbers_gathered a_x_numbers_keys a_x_numbers_aboves a_x_numbers_rounds x_reader_refused x_reader_place x_reader_cannotBe x_tape_size a_x_tape_bytes x_reader_told_genus x_reader_told_size x_reader_told_limit x_reader_told_tree a_x_reader_told_powers a_x_reader_causes x_speller_size a_x_speller_bytes a_x_holders x_holders_sort x_holders_tree x_holders_limit x_holders_above x_holders_size m_genus m_marks m_leaves m_splits m_done m_undone m_metMany m_treesSeen m_taped m_place m_isWrong m_toldGenus m_toldMarks m_isTree m_toldLeaves m_leavesPlace m_toldSplits m_isWhy m_papered m_isKept a_m_powers a_m_tree a_m_ahead a_m_behind a_m_before a_m_rows a_m_met a_m_metSizes a_m_chosen a_m_tape a_m_toldPowers a_m_powerPlaces a_m_toldTree a_m_splitPlaces a_m_layers a_m_paper a_m_held a_m_numbers a_m_sizes a_m_heldLeaves a_m_items a_m_kept hk hLR
  obtain ⟨us, cur, rs, bs, hV, h8, h9, hH8, hH9, hT, hTP, hWY, hHO, hIM⟩ := hLR
  have hVc : VD cur := hV cur (List.mem_append_right _ List.mem_cons_self)
  obtain ⟨q1, q2, q3, q4, q5⟩ := id h8
  obtain ⟨w1, w2, w3, w4, w5, w6⟩ := id h9
  have e9 : F_X9_image m_genus m_marks m_leaves m_splits a_m_kept a_m_powers a_m_tree = some (m_marks, layd a_m_kept 0 (recA m_genus m_marks m_leaves m_splits a_m_powers a_m_tree cur.2.1.length cur.2.2.2.length) 16, (1 : Int32)) := by
    unfold F_X9_image
    rw [show (0 : Int32) = Int32.ofNat 0 from rfl, lays9 w2 w4 hVc.2.1 (VD_tlen hVc) (by omega) (by omega), bd_s]
  have e8 : F_X8_image x_desk_genus x_desk_size x_desk_limit x_desk_tree a_x_imageDesk_powers a_x_desk_powers = some (x_desk_size, (fun k => if k < 8 then a_x_desk_powers k else a_x_imageDesk_powers k), (1 : Int32), x_desk_genus, x_desk_size, x_desk_limit, x_desk_tree) := by
    unfold F_X8_image
    rw [copyFrom8, bd_s]
  exact ⟨x_desk_size, _, _, _, _, _, _, _, _, e8, by rw [e9, q2, w2], us, cur, rs, bs, hV, h8, h9, hH8, hH9, TN_mono hT, hTP, hWY, hHO, rfl, Or.inr ⟨rfl, cur, hVc, D8_copy h8 hVc, KR_lay h9 hVc⟩⟩
theorem mul16 (u : Nat) : Int32.ofNat u * (16 : Int32) = Int32.ofNat (16 * u) := by
  rw [show (16 : Int32) = Int32.ofNat 16 from rfl, n_mul, Nat.mul_comm]
theorem ofNat_ne0 {n : Nat} (h : 0 < n) (h2 : n < 2147483648) : ¬ (Int32.ofNat n = 0) := fun q => by
  have := (n_inj (b := 0) h2 (by omega)).mp q; omega
theorem le0_iff {n : Nat} (h2 : n < 2147483648) : (Int32.ofNat n ≤ 0) ↔ n = 0 := by
  rw [show (0 : Int32) = Int32.ofNat 0 from rfl, n_le h2 (by omega)]; omega
theorem last_of {us : List AD} (h : us ≠ []) : ∃ us' a, us = us' ++ [a] := ⟨us.dropLast, us.getLast h, (List.dropLast_concat_getLast h).symm⟩
theorem ls_undo : LS_undo LR := by
  intro k d_x_deeds_desks q_x_deeds_desks x_imageKept x_desk_genus x_desk_size x_desk_limit x_desk_tree a_x_desk_powers x_imageDesk_genus x_imageDesk_size x_imageDesk_limit x_imageDesk_tree a_x_imageDesk_powers x_deeds_now x_deeds_last a_x_deeds_desks x_deeds_desks_genus x_deeds_desks_size x_deeds_desks_limit x_deeds_desks_tree x_numbers_round x_numbers_size x_numbers_sum x_numbers_gathered a_x_numbers_keys a_x_numbers_aboves a_x_numbers_rounds x_reader_refused x_reader_place x_reader_cannotBe x_tape_size a_x_tape_bytes x_reader_told_genus x_reader_told_size x_reader_told_limit x_reader_told_tree a_x_reader_told_powers a_x_reader_causes x_speller_size a_x_speller_bytes a_x_holders x_holders_sort x_holders_tree x_holders_limit x_holders_above x_holders_size m_genus m_marks m_leaves m_splits m_done m_undone m_metMany m_treesSeen m_taped m_place m_isWrong m_toldGenus m_toldMarks m_isTree m_toldLeaves m_leavesPlace m_toldSplits m_isWhy m_papered m_isKept a_m_powers a_m_tree a_m_ahead a_m_behind a_m_before a_m_rows a_m_met a_m_metSizes a_m_chosen a_m_tape a_m_toldPowers a_m_powerPlaces a_m_toldTree a_m_splitPlaces a_m_layers a_m_paper a_m_held a_m_numbers a_m_sizes a_m_heldLeaves a_m_items a_m_kept hk hLR
  obtain ⟨us, cur, rs, bs, hV, h8, h9, hH8, hH9, hT, hTP, hWY, hHO, hIM⟩ := hLR
  have hVc : VD cur := hV cur (List.mem_append_right _ List.mem_cons_self)
  obtain ⟨z1, z2, z3, z4⟩ := id hH8
  obtain ⟨y1, y2, y3, y4⟩ := id hH9
  obtain ⟨w1, w2, w3, w4, w5, w6⟩ := id h9
  by_cases hu : us = []
  · have z0 : x_deeds_now = 0 := by rw [z1, hu]; rfl
    have y0 : m_done = 0 := by rw [y1, hu]; rfl
    refine ⟨-5, a_x_desk_powers, x_deeds_now, x_desk_genus, x_desk_size, x_desk_limit, x_desk_tree, a_m_behind, a_m_powers, a_m_tree, m_genus, m_marks, m_undone, m_leaves, m_splits, m_done, ?_, ?_, ⟨us, cur, rs, bs, hV, h8, h9, hH8, hH9, TN_mono hT, hTP, hWY, hHO, hIM⟩⟩
    · unfold F_X8_undo F_X0_undoable
      rw [bd_s, if_pos z0]
    · unfold F_X9_undo
      rw [if_pos y0]
  · obtain ⟨us, a, rfl⟩ := last_of hu
    have hl : (us ++ [a]).length = us.length + 1 := by simp
    rw [hl] at z1 z2 z3 y1
    have hVa : VD a := hV a (by simp)
    have ea : (us ++ [a] ++ cur :: rs)[us.length]? = some a := by simp
    have hDa := z4 us.length a ea
    have e9 : F_X9_undo m_genus m_marks m_leaves m_splits m_done m_undone a_m_behind a_m_powers a_m_tree a_m_ahead = some (Int32.ofNat us.length, layd a_m_behind (16 * rs.length) (recA m_genus m_marks m_leaves m_splits a_m_powers a_m_tree cur.2.1.length cur.2.2.2.length) 16,
        (fun k => if k < 8 then a_m_ahead (16 * us.length + 4 + k) else a_m_powers k), (fun k => if k < 3 then a_m_ahead (16 * us.length + 12 + k) else a_m_tree k), a_m_ahead (16 * us.length), a_m_ahead (16 * us.length + 1), Int32.ofNat (rs.length + 1), a_m_ahead (16 * us.length + 2), a_m_ahead (16 * us.length + 3), Int32.ofNat us.length) := by
      unfold F_X9_undo
      have e1 : Int32.ofNat (us.length + 1) - (1 : Int32) = Int32.ofNat us.length := n_sub (b := 1) (by omega)
      have e2 : Int32.ofNat rs.length + (1 : Int32) = Int32.ofNat (rs.length + 1) := n_add _ 1
      rw [y1, y2, if_neg (ofNat_ne0 (by omega) (by omega)), mul16, lays9 w2 w4 hVc.2.1 (VD_tlen hVc) (by omega) (by omega), bd_s, e1, mul16, takes9 (by omega) (by omega), bd_s, e2]
    have e8 : F_X8_undo a_x_deeds_desks x_deeds_desks_genus x_deeds_desks_size x_deeds_desks_limit x_deeds_desks_tree x_deeds_now x_desk_genus x_desk_size x_desk_limit x_desk_tree a_x_desk_powers = some (Int32.ofNat us.length, (fun k => if k < 8 then a_x_deeds_desks us.length k else a_x_desk_powers k), Int32.ofNat us.length, x_deeds_desks_genus us.length, x_deeds_desks_size us.length, x_deeds_desks_limit us.length, x_deeds_desks_tree us.length) := by
      unfold F_X8_undo F_X0_undoable F_X0_stepBack J_X0_stepBack_17
      have e1 : Int32.ofNat (us.length + 1) - (1 : Int32) = Int32.ofNat us.length := n_sub (b := 1) (by omega)
      rw [bd_s, z1, if_neg (ofNat_ne0 (by omega) (by omega)), if_neg (fun q => by have := (le0_iff (by omega)).mp q; omega), e1, present8 (by omega), bd_s, copyFrom8, bd_s, bd_s, bd_s]
    have eq1 : us ++ [a] ++ cur :: rs = us ++ a :: cur :: rs := by simp
    refine ⟨_, _, _, _, _, _, _, _, _, _, _, _, _, _, _, _, e8, e9, us, a, cur :: rs, bs, by rw [← eq1]; exact hV, D8_copy hDa hVa, D9_takes (y3 us.length a (by simp)) hVa, ⟨rfl, by rw [z2]; congr 1; simp; omega, by simp; omega, by rw [← eq1]; exact z4⟩, ⟨rfl, by simp, fun j b hj => y3 j b ?_, fun j b hj => ?_⟩, TN_mono hT, hTP, hWY, hHO, hIM⟩
    · rw [List.getElem?_append_left (List.getElem?_eq_some_iff.mp hj).1]; exact hj
    · rw [List.reverse_cons] at hj
      by_cases hj2 : j < rs.length
      · rw [List.getElem?_append_left (by simpa using hj2)] at hj
        exact KR_off (by omega) (y4 j b hj)
      · have hj3 : j = rs.length := by
          have := (List.getElem?_eq_some_iff.mp hj).1
          simp at this; omega
        subst hj3
        have : b = cur := by
          rw [List.getElem?_append_right (by simp)] at hj
          simpa using hj.symm
        subst this
        exact KR_lay h9 hVc
theorem ls_again : LS_again LR := by
  intro k d_x_deeds_desks q_x_deeds_desks x_imageKept x_desk_genus x_desk_size x_desk_limit x_desk_tree a_x_desk_powers x_imageDesk_genus x_imageDesk_size x_imageDesk_limit x_imageDesk_tree a_x_imageDesk_powers x_deeds_now x_deeds_last a_x_deeds_desks x_deeds_desks_genus x_deeds_desks_size x_deeds_desks_limit x_deeds_desks_tree x_numbers_round x_numbers_size x_numbers_sum x_numbers_gathered a_x_numbers_keys a_x_numbers_aboves a_x_numbers_rounds x_reader_refused x_reader_place x_reader_cannotBe x_tape_size a_x_tape_bytes x_reader_told_genus x_reader_told_size x_reader_told_limit x_reader_told_tree a_x_reader_told_powers a_x_reader_causes x_speller_size a_x_speller_bytes a_x_holders x_holders_sort x_holders_tree x_holders_limit x_holders_above x_holders_size m_genus m_marks m_leaves m_splits m_done m_undone m_metMany m_treesSeen m_taped m_place m_isWrong m_toldGenus m_toldMarks m_isTree m_toldLeaves m_leavesPlace m_toldSplits m_isWhy m_papered m_isKept a_m_powers a_m_tree a_m_ahead a_m_behind a_m_before a_m_rows a_m_met a_m_metSizes a_m_chosen a_m_tape a_m_toldPowers a_m_powerPlaces a_m_toldTree a_m_splitPlaces a_m_layers a_m_paper a_m_held a_m_numbers a_m_sizes a_m_heldLeaves a_m_items a_m_kept hk hLR
  obtain ⟨us, cur, rs, bs, hV, h8, h9, hH8, hH9, hT, hTP, hWY, hHO, hIM⟩ := hLR
  have hVc : VD cur := hV cur (List.mem_append_right _ List.mem_cons_self)
  obtain ⟨z1, z2, z3, z4⟩ := id hH8
  obtain ⟨y1, y2, y3, y4⟩ := id hH9
  obtain ⟨w1, w2, w3, w4, w5, w6⟩ := id h9
  have er : x_deeds_last - x_deeds_now = Int32.ofNat rs.length := by rw [z2, z1, n_sub (by omega)]; congr 1; omega
  cases hr : rs with
  | nil =>
    have z0 : x_deeds_last - x_deeds_now = 0 := by rw [er, hr]; rfl
    have y0 : m_undone = 0 := by rw [y2, hr]; rfl
    refine ⟨-5, a_x_desk_powers, x_deeds_now, x_desk_genus, x_desk_size, x_desk_limit, x_desk_tree, a_m_ahead, a_m_powers, a_m_tree, m_genus, m_marks, m_undone, m_leaves, m_splits, m_done, ?_, ?_, ⟨us, cur, rs, bs, hV, h8, h9, hH8, hH9, TN_mono hT, hTP, hWY, hHO, hIM⟩⟩
    · unfold F_X8_again F_X0_repeatable
      rw [bd_s, if_pos z0]
    · unfold F_X9_again
      rw [if_pos y0]
  | cons a rs' =>
    subst hr
    rw [List.length_cons] at z2 z3 y2 er
    have hVa : VD a := hV a (by simp)
    have ea : (us ++ cur :: a :: rs')[us.length + 1]? = some a := by
      rw [List.getElem?_append_right (by omega)]
      simp
    have hDa := z4 (us.length + 1) a ea
    have ka : KR a_m_behind (16 * rs'.length) a := y4 rs'.length a (by rw [List.reverse_cons, List.getElem?_append_right (by simp)]; simp)
    have e9 : F_X9_again m_genus m_marks m_leaves m_splits m_done m_undone a_m_ahead a_m_powers a_m_tree a_m_behind = some (Int32.ofNat rs'.length, layd a_m_ahead (16 * us.length) (recA m_genus m_marks m_leaves m_splits a_m_powers a_m_tree cur.2.1.length cur.2.2.2.length) 16,
        (fun k => if k < 8 then a_m_behind (16 * rs'.length + 4 + k) else a_m_powers k), (fun k => if k < 3 then a_m_behind (16 * rs'.length + 12 + k) else a_m_tree k), a_m_behind (16 * rs'.length), a_m_behind (16 * rs'.length + 1), Int32.ofNat rs'.length, a_m_behind (16 * rs'.length + 2), a_m_behind (16 * rs'.length + 3), Int32.ofNat (us.length + 1)) := by
      unfold F_X9_again
      have e1 : Int32.ofNat (rs'.length + 1) - (1 : Int32) = Int32.ofNat rs'.length := n_sub (b := 1) (by omega)
      have e2 : Int32.ofNat us.length + (1 : Int32) = Int32.ofNat (us.length + 1) := n_add _ 1
      rw [y1, y2, if_neg (ofNat_ne0 (by omega) (by omega)), mul16, lays9 w2 w4 hVc.2.1 (VD_tlen hVc) (by omega) (by omega), bd_s, e1, mul16, takes9 (by omega) (by omega), bd_s, e2]
    have er2 : x_deeds_last - Int32.ofNat (us.length + 1) = Int32.ofNat rs'.length := by rw [z2, n_sub (by omega)]; congr 1; omega
    have e8 : F_X8_again a_x_deeds_desks x_deeds_desks_genus x_deeds_desks_size x_deeds_desks_limit x_deeds_desks_tree x_deeds_now x_deeds_last x_desk_genus x_desk_size x_desk_limit x_desk_tree a_x_desk_powers = some (Int32.ofNat rs'.length, (fun k => if k < 8 then a_x_deeds_desks (us.length + 1) k else a_x_desk_powers k), Int32.ofNat (us.length + 1), x_deeds_desks_genus (us.length + 1), x_deeds_desks_size (us.length + 1), x_deeds_desks_limit (us.length + 1), x_deeds_desks_tree (us.length + 1)) := by
      unfold F_X8_again F_X0_repeatable F_X0_stepOn J_X0_stepOn_21
      have e1 : x_deeds_now + (1 : Int32) = Int32.ofNat (us.length + 1) := by rw [z1]; exact n_add _ 1
      have e2 : ¬ (x_deeds_last ≤ x_deeds_now) := by rw [z2, z1]; exact c_ge (by omega) (by omega) (by omega)
      rw [bd_s, er, if_neg (ofNat_ne0 (by omega) (by omega)), if_neg e2, e1, present8 (by omega), bd_s, copyFrom8, bd_s, bd_s, bd_s, er2]
    have eq1 : us ++ cur :: a :: rs' = (us ++ [cur]) ++ a :: rs' := by simp
    refine ⟨_, _, _, _, _, _, _, _, _, _, _, _, _, _, _, _, e8, e9, us ++ [cur], a, rs', bs, by rw [← eq1]; exact hV, D8_copy hDa hVa, D9_takes ka hVa, ⟨by simp, by rw [z2]; congr 1; simp; omega, by simp; omega, by rw [← eq1]; exact z4⟩, ⟨by simp, rfl, fun j b hj => ?_, fun j b hj => y4 j b ?_⟩, TN_mono hT, hTP, hWY, hHO, hIM⟩
    · by_cases hj2 : j < us.length
      · rw [List.getElem?_append_left hj2] at hj
        exact KR_off (by omega) (y3 j b hj)
      · have hj3 : j = us.length := by
          have := (List.getElem?_eq_some_iff.mp hj).1
          simp at this; omega
        subst hj3
        have : b = cur := by
          rw [List.getElem?_append_right (by omega)] at hj
          simpa using hj.symm
        subst this
        exact KR_lay h9 hVc
    · rw [List.reverse_cons, List.getElem?_append_left (List.getElem?_eq_some_iff.mp hj).1]; exact hj
theorem ls_restore : LS_restore LR := by
  intro k d_x_deeds_desks q_x_deeds_desks x_imageKept x_desk_genus x_desk_size x_desk_limit x_desk_tree a_x_desk_powers x_imageDesk_genus x_imageDesk_size x_imageDesk_limit x_imageDesk_tree a_x_imageDesk_powers x_deeds_now x_deeds_last a_x_deeds_desks x_deeds_desks_genus x_deeds_desks_size x_deeds_desks_limit x_deeds_desks_tree x_numbers_round x_numbers_size x_numbers_sum x_numbers_gathered a_x_numbers_keys a_x_numbers_aboves a_x_numbers_rounds x_reader_refused x_reader_place x_reader_cannotBe x_tape_size a_x_tape_bytes x_reader_told_genus x_reader_told_size x_reader_told_limit x_reader_told_tree a_x_reader_told_powers a_x_reader_causes x_speller_size a_x_speller_bytes a_x_holders x_holders_sort x_holders_tree x_holders_limit x_holders_above x_holders_size m_genus m_marks m_leaves m_splits m_done m_undone m_metMany m_treesSeen m_taped m_place m_isWrong m_toldGenus m_toldMarks m_isTree m_toldLeaves m_leavesPlace m_toldSplits m_isWhy m_papered m_isKept a_m_powers a_m_tree a_m_ahead a_m_behind a_m_before a_m_rows a_m_met a_m_metSizes a_m_chosen a_m_tape a_m_toldPowers a_m_powerPlaces a_m_toldTree a_m_splitPlaces a_m_layers a_m_paper a_m_held a_m_numbers a_m_sizes a_m_heldLeaves a_m_items a_m_kept hk hLR
  obtain ⟨us, cur, rs, bs, hV, h8, h9, hH8, hH9, hT, hTP, hWY, hHO, hIM⟩ := hLR
  have hVc : VD cur := hV cur (List.mem_append_right _ List.mem_cons_self)
  obtain ⟨z1, z2, z3, z4⟩ := id hH8
  obtain ⟨w1, w2, w3, w4, w5, w6⟩ := id h9
  obtain ⟨i1, i2⟩ := id hIM
  rcases i2 with i0 | ⟨i0, a, hVa, hDa, hKa⟩
  · refine ⟨-5, a_x_desk_powers, x_desk_genus, x_desk_size, x_desk_limit, x_desk_tree, x_deeds_now, x_deeds_last, a_x_deeds_desks, x_deeds_desks_genus, x_deeds_desks_limit, x_deeds_desks_size, x_deeds_desks_tree, a_m_powers, a_m_tree, m_genus, m_marks, m_undone, m_leaves, m_splits, m_done, ?_, ?_, ⟨us, cur, rs, bs, hV, h8, h9, hH8, hH9, TN_mono hT, hTP, hWY, hHO, hIM⟩⟩
    · unfold F_X8_restore
      rw [if_pos i0]
    · unfold F_X9_restore
      rw [if_pos (i1 ▸ i0)]
  · have e9 : F_X9_restore m_genus m_marks m_leaves m_splits m_done m_undone m_isKept a_m_kept a_m_powers a_m_tree = some (a_m_kept 1, (fun k => if k < 8 then a_m_kept (0 + 4 + k) else a_m_powers k), (fun k => if k < 3 then a_m_kept (0 + 12 + k) else a_m_tree k), a_m_kept 0, a_m_kept 1, (0 : Int32), a_m_kept 2, a_m_kept 3, (0 : Int32)) := by
      unfold F_X9_restore
      have n0 : ¬ (m_isKept = 0) := by rw [← i1, i0]; exact i10
      rw [if_neg n0, show (0 : Int32) = Int32.ofNat 0 from rfl, takes9 (by omega) (by omega), bd_s]
    have e8 : F_X8_restore a_x_deeds_desks x_deeds_desks_genus x_deeds_desks_size x_deeds_desks_limit x_deeds_desks_tree x_imageKept x_desk_genus x_desk_size x_desk_limit x_desk_tree x_imageDesk_genus x_imageDesk_size x_imageDesk_limit x_imageDesk_tree a_x_desk_powers a_x_imageDesk_powers x_deeds_now x_deeds_last = some (x_imageDesk_size, (fun k => if k < 8 then a_x_imageDesk_powers k else a_x_desk_powers k), x_imageDesk_genus, x_imageDesk_size, x_imageDesk_limit, x_imageDesk_tree, (0 : Int32), (0 : Int32),
        va_up a_x_deeds_desks 0 (fun k => if k < 8 then (if k < 8 then a_x_imageDesk_powers k else a_x_desk_powers k) else a_x_deeds_desks 0 k), va_up x_deeds_desks_genus 0 x_imageDesk_genus, va_up x_deeds_desks_limit 0 x_imageDesk_limit, va_up x_deeds_desks_size 0 x_imageDesk_size, va_up x_deeds_desks_tree 0 x_imageDesk_tree) := by
      unfold F_X8_restore F_X0_startAnew
      have n0 : ¬ (x_imageKept = 0) := by rw [i0]; exact i10
      rw [if_neg n0, copyFrom8, bd_s, copyFrom8, bd_s, bd_s]
    have hD1 := D8_copy (ap := a_x_desk_powers) hDa hVa
    have hD2 := D8_copy (ap := a_x_deeds_desks 0) hD1 hVa
    have hD9 := D9_takes (pw := a_m_powers) (tr := a_m_tree) hKa hVa
    have er : x_imageDesk_size = a_m_kept 1 := hDa.2.1.trans hKa.2.1.symm
    refine ⟨_, _, _, _, _, _, _, _, _, _, _, _, _, _, _, _, _, _, _, _, _, e8, by rw [e9, er]; rfl, [], a, [], bs, ?_, hD1, hD9, ⟨rfl, rfl, by simp, fun j b hj => ?_⟩, ⟨rfl, rfl, fun j b hj => by simp at hj, fun j b hj => by simp at hj⟩, TN_mono hT, hTP, hWY, hHO, hIM⟩
    · intro b hb
      simp at hb
      subst hb; exact hVa
    · cases j with
      | zero =>
        have : b = a := by simpa using hj.symm
        subst this
        exact hD2
      | succ j => simp at hj
