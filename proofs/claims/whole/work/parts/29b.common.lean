/-! Trees in common. -/
def trN (ts : List Nat) : Nat := ts.foldr (fun t n => n + 2 ^ t) 0
theorem trN_c (t : Nat) (ts : List Nat) : trN (t :: ts) = trN ts + 2 ^ t := rfl
def asc : List Nat → Prop
  | [] => True
  | t :: ts => (∀ u ∈ ts, t < u) ∧ asc ts
theorem vt_asc {L : Nat} : ∀ {ts : List Nat}, vt L ts = true → asc ts
  | [], _ => trivial
  | t :: ts, h => by
    have h1 := vt_tail h
    simp only [vt, Bool.and_eq_true, List.all_eq_true, Nat.blt_eq] at h
    exact ⟨fun u hu => (h.1.2 u hu).1, vt_asc h1⟩
theorem trN_dvd {t : Nat} : ∀ {ts : List Nat}, (∀ u ∈ ts, t < u) → ∃ q, trN ts = 2 ^ (t + 1) * q
  | [], _ => ⟨0, rfl⟩
  | u :: ts, h => by
    obtain ⟨q, hq⟩ := trN_dvd (ts := ts) (fun v hv => h v (List.mem_cons_of_mem _ hv))
    have h1 := h u List.mem_cons_self
    refine ⟨q + 2 ^ (u - (t + 1)), ?_⟩
    rw [trN_c, hq, Nat.mul_add, ← Nat.pow_add]
    congr 2
    omega
theorem trN_bit : ∀ {ts : List Nat}, asc ts → ∀ k, (trN ts).testBit k = decide (k ∈ ts)
  | [], _, k => by simp [trN]
  | t :: ts, h, k => by
    obtain ⟨q, hq⟩ := trN_dvd h.1
    have ih := trN_bit h.2 k
    have lt : 2 ^ t < 2 ^ (t + 1) := Nat.pow_lt_pow_right (by omega) (by omega)
    have z : 0 < 2 ^ (t + 1) := Nat.pow_pos (by omega)
    have ih2 : (2 ^ (t + 1) * q + 0).testBit k = decide (k ∈ ts) := by rw [Nat.add_zero, ← hq]; exact ih
    rw [Nat.testBit_two_pow_mul_add q z] at ih2
    rw [trN_c, hq, Nat.testBit_two_pow_mul_add q lt]
    by_cases c : k < t + 1
    · rw [if_pos c] at ih2 ⊢
      rw [Nat.testBit_two_pow]
      rw [Nat.zero_testBit] at ih2
      have n : ¬ k ∈ ts := by simpa using ih2.symm
      by_cases e : t = k
      · subst e; simp
      · have e2 : ¬ k = t := fun z => e z.symm
        simp [e, e2, n]
    · rw [if_neg c] at ih2 ⊢
      rw [ih2]
      have e2 : ¬ k = t := by omega
      simp [e2]
theorem asc_filter (p : Nat → Bool) : ∀ {ts : List Nat}, asc ts → asc (ts.filter p)
  | [], _ => trivial
  | t :: ts, h => by
    by_cases c : p t = true
    · rw [List.filter_cons_of_pos c]
      exact ⟨fun u hu => h.1 u (List.mem_filter.mp hu).1, asc_filter p h.2⟩
    · rw [List.filter_cons_of_neg c]; exact asc_filter p h.2
theorem vt_filter {L : Nat} (p : Nat → Bool) : ∀ {ts : List Nat}, vt L ts = true → vt L (ts.filter p) = true
  | [], _ => rfl
  | t :: ts, h => by
    have h1 := vt_filter p (vt_tail h)
    by_cases c : p t = true
    · rw [List.filter_cons_of_pos c]
      simp only [vt, Bool.and_eq_true, List.all_eq_true] at h ⊢
      exact ⟨⟨h.1.1, fun u hu => h.1.2 u (List.mem_filter.mp hu).1⟩, h1⟩
    · rw [List.filter_cons_of_neg c]; exact h1
theorem trN_and {ts us : List Nat} (h1 : asc ts) (h2 : asc us) : trN ts &&& trN us = trN (ts.filter (fun t => decide (t ∈ us))) := by
  apply Nat.eq_of_testBit_eq
  intro k
  rw [Nat.testBit_and, trN_bit h1, trN_bit h2, trN_bit (asc_filter _ h1)]
  by_cases a : k ∈ ts <;> by_cases b : k ∈ us <;> simp [a, b]
theorem tr64_and {ts us : List Nat} (h1 : asc ts) (h2 : asc us) : tr64 ts &&& tr64 us = tr64 (ts.filter (fun t => decide (t ∈ us))) := by
  apply Int64.toBitVec_inj.mp
  rw [Int64.toBitVec_and]
  show BitVec.ofNat 64 (trN ts) &&& BitVec.ofNat 64 (trN us) = BitVec.ofNat 64 (trN (ts.filter (fun t => decide (t ∈ us))))
  rw [← BitVec.ofNat_and, trN_and h1 h2]
theorem getD_el {l : List Nat} {j : Nat} (h : j < l.length) : l.getD j 0 = l[j] := by
  rw [List.getD_eq_getElem?_getD, List.getElem?_eq_getElem h]; rfl
theorem place_9 {us : List Nat} (hl : us.length ≤ 3) (T : Nat → Int32) (hT : ∀ k, k < us.length → T k = Int32.ofNat (us.getD k 0)) (v : Nat) (hv : v < 2147483648) (hu : ∀ u ∈ us, u < 2147483648) :
    ∃ r, F_X9_placeOf (Int32.ofNat us.length) T (Int32.ofNat v) = some r ∧ ((r = -2 ∧ ¬ v ∈ us) ∨ ∃ m : Nat, m < us.length ∧ r = Int32.ofNat m ∧ us.getD m 0 = v) := by
  obtain ⟨m, m1, m2, m3⟩ := stop3 (fun j => j < us.length ∧ ¬ us.getD j 0 = v) us.length (by omega)
  have g : ∀ j, j < us.length → us.getD j 0 ∈ us := fun j hj => by
    rw [getD_el hj]; exact List.getElem_mem hj
  refine ⟨if us.length ≤ m then (-2 : Int32) else Int32.ofNat m, ?_, ?_⟩
  · unfold F_X9_placeOf
    refine wq1_it m (fun j => Int32.ofNat j) (fun j hj ag => ?_) (fun ag => ?_) FU (by unfold FU; omega)
    · obtain ⟨a1, a2⟩ := m2 j hj
      unfold B_X9_placeOf_2
      have y1 : ¬ Int32.ofNat us.length ≤ Int32.ofNat j := fun z => by have := (n_le (by omega) (by omega)).mp z; omega
      rw [if_neg y1, ck_n (by omega) (by omega), n_clamp (by omega), hT j a1, if_neg (fun z => a2 ((n_inj (hu _ (g j a1)) hv).mp z)), show (1 : Int32) = Int32.ofNat 1 from rfl, n_add]
    · unfold B_X9_placeOf_2
      by_cases c : us.length ≤ m
      · rw [if_pos ((n_le (by omega) (by omega)).mpr c), if_pos c]; rfl
      · have y1 : ¬ Int32.ofNat us.length ≤ Int32.ofNat m := fun z => by have := (n_le (by omega) (by omega)).mp z; omega
        have e : us.getD m 0 = v := Classical.byContradiction fun z => m3 ⟨by omega, z⟩
        rw [if_neg y1, ck_n (by omega) (by omega), n_clamp (by omega), hT m (by omega), if_pos (by rw [e]), if_neg c]
  · by_cases c : us.length ≤ m
    · rw [if_pos c]
      refine Or.inl ⟨rfl, fun hm => ?_⟩
      obtain ⟨j, hj, e⟩ := List.getElem_of_mem hm
      exact (m2 j (by omega)).2 (by rw [getD_el hj]; exact e)
    · rw [if_neg c]
      exact Or.inr ⟨m, by omega, rfl, Classical.byContradiction fun z => m3 ⟨by omega, z⟩⟩
theorem vt_small {L : Nat} (h6 : L ≤ 6) : ∀ {ts : List Nat}, vt L ts = true → ∀ u ∈ ts, u < 64
  | [], _, u, hu => absurd hu List.not_mem_nil
  | t :: ts, h, u, hu => by
    rcases List.mem_cons.mp hu with rfl | hu
    · simp only [vt, Bool.and_eq_true] at h; exact isSp_lt h6 h.1.1
    · exact vt_small h6 (vt_tail h) u hu
theorem filt_take (p : Nat → Bool) (ts : List Nat) {j : Nat} (hj : j < ts.length) : ((ts.take (j + 1)).filter p).length = ((ts.take j).filter p).length + if p (ts.getD j 0) = true then 1 else 0 := by
  rw [getD_el hj, List.take_succ_eq_append_getElem hj, List.filter_append, List.length_append]
  congr 1
  by_cases c : p ts[j] = true
  · rw [if_pos c, List.filter_cons_of_pos c]; rfl
  · rw [if_neg c, List.filter_cons_of_neg c]; rfl
theorem common9 {h : Nat} (hh : h < 6) {ts us : List Nat} (ht : ts.length ≤ 3) (hu : us.length ≤ 3) (st : ∀ u ∈ ts, u < 64) (su : ∀ u ∈ us, u < 64) (sizes items T : Nat → Int32) (hs : sizes h = Int32.ofNat ts.length) (hi : ∀ k, k < ts.length → items (20 * h + k) = Int32.ofNat (ts.getD k 0)) (hT : ∀ k, k < us.length → T k = Int32.ofNat (us.getD k 0)) :
    wq2 (B_X9_common__56 (Int32.ofNat us.length) sizes items T (Int32.ofNat h) K_X9_common__56_98) FU (0 : Int32) (0 : Int32) = some (Int32.ofNat (ts.filter (fun t => decide (t ∈ us))).length) := by
  have e20 : ∀ j, (20 : Int32) * Int32.ofNat h + Int32.ofNat j = Int32.ofNat (20 * h + j) := fun j => by rw [show (20 : Int32) = Int32.ofNat 20 from rfl, n_mul, n_add]
  refine wq2_it ts.length (fun j => Int32.ofNat ((ts.take j).filter (fun t => decide (t ∈ us))).length) (fun j => Int32.ofNat j) (fun j hj ag => ?_) (fun ag => ?_) FU (by unfold FU; omega)
  · unfold B_X9_common__56
    have y1 : ¬ Int32.ofNat ts.length ≤ Int32.ofNat j := fun z => by have := (n_le (by omega) (by omega)).mp z; omega
    have gm : ts.getD j 0 ∈ ts := by rw [getD_el hj]; exact List.getElem_mem hj
    obtain ⟨r, hr, hc⟩ := place_9 hu T hT (ts.getD j 0) (by have := st _ gm; omega) (fun u z => by have := su u z; omega)
    rw [ck_n hh (by omega), n_clamp (by omega), hs, if_neg y1, e20, ck_n (by omega) (by omega), n_clamp (by omega), hi j hj, hr, bd_s, filt_take _ _ hj]
    rcases hc with ⟨rfl, hc⟩ | ⟨m, hm, rfl, e⟩
    · have y : (-2 : Int32) < 0 := by decide
      have w : ¬ decide (ts.getD j 0 ∈ us) = true := by simpa using hc
      rw [if_pos y, if_neg w, show (1 : Int32) = Int32.ofNat 1 from rfl, show (0 : Int32) = Int32.ofNat 0 from rfl, n_add, n_add]
    · have w : decide (ts.getD j 0 ∈ us) = true := by
        rw [← e, getD_el hm]; exact decide_eq_true (List.getElem_mem hm)
      rw [if_neg (n_neg (by omega)), if_pos w, show (1 : Int32) = Int32.ofNat 1 from rfl, n_add, n_add]
  · unfold B_X9_common__56
    have y1 : Int32.ofNat ts.length ≤ Int32.ofNat ts.length := (n_le (by omega) (by omega)).mpr (Nat.le_refl _)
    rw [ck_n hh (by omega), n_clamp (by omega), hs, if_pos y1, List.take_length]; rfl
theorem refusal2 (x : Int32) : F_X8_refusalOf x (2 : Int32) = some (if x = 2 then 0 else if x = 0 then -11 else -12) := by
  unfold F_X8_refusalOf
  by_cases c : x = 2
  · subst c; rfl
  · rw [if_neg c]
    by_cases d : x = 0
    · rw [if_pos d, if_neg c, if_pos d]
    · rw [if_neg d, if_neg d, if_neg c]
theorem ls_common : LS_common LR := by
  intro k d_x_deeds_desks q_x_deeds_desks x_imageKept x_desk_genus x_desk_size x_desk_limit x_desk_tree a_x_desk_powers x_imageDesk_genus x_imageDesk_size x_imageDesk_limit x_imageDesk_tree a_x_imageDesk_powers x_deeds_now x_deeds_last a_x_deeds_desks x_deeds_desks_genus x_deeds_desks_size x_deeds_desks_limit x_deeds_desks_tree x_numbers_round x_numbers_size x_numbers_sum x_numbers_gathered a_x_numbers_keys a_x_numbers_aboves a_x_numbers_rounds x_reader_refused x_reader_place x_reader_cannotBe x_tape_size a_x_tape_bytes x_reader_told_genus x_reader_told_size x_reader_told_limit x_reader_told_tree a_x_reader_told_powers a_x_reader_causes x_speller_size a_x_speller_bytes a_x_holders x_holders_sort x_holders_tree x_holders_limit x_holders_above x_holders_size m_genus m_marks m_leaves m_splits m_done m_undone m_metMany m_treesSeen m_taped m_place m_isWrong m_toldGenus m_toldMarks m_isTree m_toldLeaves m_leavesPlace m_toldSplits m_isWhy m_papered m_isKept a_m_powers a_m_tree a_m_ahead a_m_behind a_m_before a_m_rows a_m_met a_m_metSizes a_m_chosen a_m_tape a_m_toldPowers a_m_powerPlaces a_m_toldTree a_m_splitPlaces a_m_layers a_m_paper a_m_held a_m_numbers a_m_sizes a_m_heldLeaves a_m_items a_m_kept p0 hk hLR
  obtain ⟨us, cur, rs, bs, hV, h8, h9, hH8, hH9, hT, hTP, hWY, hHO, hIM⟩ := hLR
  have hVc : VD cur := hV cur (List.mem_append_right _ List.mem_cons_self)
  rcases hold_cases p0 with ⟨e8, e9⟩ | ⟨h, hh, rfl, e8, e9⟩
  · refine ⟨-1, ?_, ?_, ⟨us, cur, rs, bs, hV, h8, h9, hH8, hH9, TN_mono hT, hTP, hWY, hHO, hIM⟩⟩
    · unfold F_X8_common; rw [e8, bd_s, if_pos rfl]; rfl
    · unfold F_X9_common_; rw [e9, bd_s, if_pos i00]
  obtain ⟨g1, g2⟩ := hHO h hh
  by_cases c : x_holders_sort h = 2
  · have w : ∃ (L : Nat) (ts : List Nat), 3 ≤ L ∧ L ≤ 6 ∧ vt L ts = true ∧ x_holders_limit h = Int32.ofNat L ∧ x_holders_tree h = tr64 ts ∧ a_m_heldLeaves h = Int32.ofNat L ∧ a_m_sizes h = Int32.ofNat ts.length ∧ ∀ k, k < ts.length → a_m_items (20 * h + k) = Int32.ofNat (ts.getD k 0) := by
      rw [c] at g2
      rcases g2 with g | g | g | g
      · exact absurd g (by decide)
      · exact absurd g.1 (by decide)
      · exact g.2
      · exact absurd g.1 (by decide)
    obtain ⟨L, ts, l1, l2, l3, l4, l5, l6, l7, l8⟩ := w
    have hl := vt_len l1 l2 l3
    by_cases d : L = cur.2.2.1
    · subst d
      have vf := vt_filter (fun t => decide (t ∈ cur.2.2.2)) l3
      refine ⟨Int32.ofNat (ts.filter (fun t => decide (t ∈ cur.2.2.2))).length, ?_, ?_, ⟨us, cur, rs, bs, hV, h8, h9, hH8, hH9, TN_mono hT, hTP, hWY, hHO, hIM⟩⟩
      · unfold F_X8_common
        rw [e8, bd_s, if_neg (h_ne6 hh), refusal2, if_pos c, bd_s, if_pos i00, l4, h8.2.2.1, if_pos rfl, l5, h8.2.2.2.1, tr64_and (vt_asc l3) (vt_asc hVc.2.2.2.2.2), sizeOf8 l1 l2 vf, bd_s]
      · unfold F_X9_common_
        rw [e9, bd_s, if_neg i10, ck_n hh (by omega), ck_n hh (by omega), n_clamp (by omega), ← g1, if_pos c, l6, h9.2.2.1, if_pos rfl, h9.2.2.2.1]
        exact common9 hh (by omega) (VD_tlen hVc) (vt_small l2 l3) (vt_small l2 hVc.2.2.2.2.2) a_m_sizes a_m_items a_m_tree l7 l8 h9.2.2.2.2.2
    · have l40 := hVc.2.2.2.2.1
      have y : ¬ Int32.ofNat L = Int32.ofNat cur.2.2.1 := fun z => d ((n_inj (by omega) (by omega)).mp z)
      refine ⟨-5, ?_, ?_, ⟨us, cur, rs, bs, hV, h8, h9, hH8, hH9, TN_mono hT, hTP, hWY, hHO, hIM⟩⟩
      · unfold F_X8_common
        rw [e8, bd_s, if_neg (h_ne6 hh), refusal2, if_pos c, bd_s, if_pos i00, l4, h8.2.2.1, if_neg y]
      · unfold F_X9_common_
        rw [e9, bd_s, if_neg i10, ck_n hh (by omega), ck_n hh (by omega), n_clamp (by omega), ← g1, if_pos c, l6, h9.2.2.1, if_neg y]
  · by_cases d : x_holders_sort h = 0
    · refine ⟨-11, ?_, ?_, ⟨us, cur, rs, bs, hV, h8, h9, hH8, hH9, TN_mono hT, hTP, hWY, hHO, hIM⟩⟩
      · unfold F_X8_common
        rw [e8, bd_s, if_neg (h_ne6 hh), refusal2, if_neg c, if_pos d]; rfl
      · unfold F_X9_common_
        rw [e9, bd_s, if_neg i10, ck_n hh (by omega), ck_n hh (by omega), n_clamp (by omega), ← g1, if_neg c, if_pos d, ck_n hh (by omega)]
    · refine ⟨-12, ?_, ?_, ⟨us, cur, rs, bs, hV, h8, h9, hH8, hH9, TN_mono hT, hTP, hWY, hHO, hIM⟩⟩
      · unfold F_X8_common
        rw [e8, bd_s, if_neg (h_ne6 hh), refusal2, if_neg c, if_neg d]; rfl
      · unfold F_X9_common_
        rw [e9, bd_s, if_neg i10, ck_n hh (by omega), ck_n hh (by omega), n_clamp (by omega), ← g1, if_neg c, if_neg d, ck_n hh (by omega)]
