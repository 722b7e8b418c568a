/-! Splits come and go. -/
def ins (s : Nat) : List Nat → List Nat
  | [] => [s]
  | t :: ts => if s < t then s :: t :: ts else t :: ins s ts
theorem ins_perm (s : Nat) : ∀ ts : List Nat, (ins s ts).Perm (s :: ts)
  | [] => List.Perm.refl _
  | t :: ts => by
    unfold ins
    by_cases c : s < t
    · rw [if_pos c]
    · rw [if_neg c]
      exact (List.Perm.cons t (ins_perm s ts)).trans (List.Perm.swap s t ts)
theorem mem_ins {s x : Nat} {ts : List Nat} : x ∈ ins s ts ↔ x = s ∨ x ∈ ts := by
  rw [(ins_perm s ts).mem_iff, List.mem_cons]
theorem len_ins (s : Nat) (ts : List Nat) : (ins s ts).length = ts.length + 1 := by
  have := (ins_perm s ts).length_eq
  rw [List.length_cons] at this; exact this
theorem asc_ins {s : Nat} : ∀ {ts : List Nat}, asc ts → ¬ s ∈ ts → asc (ins s ts)
  | [], _, _ => ⟨fun u hu => absurd hu List.not_mem_nil, trivial⟩
  | t :: ts, h, hs => by
    unfold ins
    by_cases c : s < t
    · rw [if_pos c]
      exact ⟨fun u hu => by
        rcases List.mem_cons.mp hu with rfl | hu
        · exact c
        · have := h.1 u hu; omega, h⟩
    · rw [if_neg c]
      have ne : ¬ s = t := fun z => hs (by rw [z]; exact List.mem_cons_self)
      exact ⟨fun u hu => by
        rcases mem_ins.mp hu with rfl | hu
        · omega
        · exact h.1 u hu, asc_ins h.2 (fun z => hs (List.mem_cons_of_mem _ z))⟩
theorem vt_ins {L s : Nat} (hs : isSp L s = true) : ∀ {ts : List Nat}, vt L ts = true → fit ts s = true → vt L (ins s ts) = true
  | [], _, _ => by
    show vt L [s] = true
    simp only [vt, Bool.and_eq_true, hs]; simp
  | t :: ts, h, hf => by
    have h1 := vt_tail h
    have hf2 : fit ts s = true := fit_m.mpr fun u hu => fit_m.mp hf u (List.mem_cons_of_mem _ hu)
    have ft := fit_m.mp hf t List.mem_cons_self
    have h2 := h
    simp only [vt, Bool.and_eq_true, List.all_eq_true, Nat.blt_eq] at h2
    unfold ins
    by_cases c : s < t
    · rw [if_pos c]
      have e : vt L (s :: t :: ts) = (isSp L s && (t :: ts).all (fun u => Nat.blt s u && goT s u) && vt L (t :: ts)) := rfl
      rw [e, hs, h]
      simp only [Bool.true_and, Bool.and_true, List.all_eq_true, Bool.and_eq_true, Nat.blt_eq]
      intro u hu
      rw [goT_comm]
      refine ⟨?_, (fit_m.mp hf u hu).2⟩
      rcases List.mem_cons.mp hu with rfl | hu
      · exact c
      · have := (h2.1.2 u hu).1; omega
    · rw [if_neg c]
      have e : vt L (t :: ins s ts) = (isSp L t && (ins s ts).all (fun u => Nat.blt t u && goT t u) && vt L (ins s ts)) := rfl
      rw [e, h2.1.1, vt_ins hs h1 hf2]
      simp only [Bool.true_and, Bool.and_true, List.all_eq_true, Bool.and_eq_true, Nat.blt_eq]
      intro u hu
      rcases mem_ins.mp hu with rfl | hu
      · exact ⟨by omega, ft.2⟩
      · exact h2.1.2 u hu
theorem asc_pw : ∀ {ts : List Nat}, asc ts → ts.Pairwise (fun a b => a ≤ b)
  | [], _ => List.Pairwise.nil
  | t :: ts, h => List.pairwise_cons.mpr ⟨fun u hu => by have := h.1 u hu; omega, asc_pw h.2⟩
theorem shl64 {s : Nat} (hs : s < 64) : lshl (1 : Int64) (Int32.ofNat s) = Int64.ofNat (2 ^ s) := by
  have : ∀ s, s < 64 → lshl (1 : Int64) (Int32.ofNat s) = Int64.ofNat (2 ^ s) := by decide +kernel
  exact this s hs
theorem with8 {ts : List Nat} (ha : asc ts) {s : Nat} (hs : s < 64) (hn : ¬ s ∈ ts) : F_X6_with (tr64 ts) (Int32.ofNat s) = some (tr64 (ins s ts)) := by
  unfold F_X6_with
  have c : ¬ (63 : Int32) < Int32.ofNat s := fun z => by have := (n_lt (a := 63) (by omega) (by omega)).mp z; omega
  rw [if_neg (n_neg (by omega)), if_neg c, shl64 hs]
  congr 1
  apply Int64.toBitVec_inj.mp
  rw [Int64.toBitVec_or]
  show BitVec.ofNat 64 (trN ts) ||| BitVec.ofNat 64 (2 ^ s) = BitVec.ofNat 64 (trN (ins s ts))
  rw [← BitVec.ofNat_or]
  congr 1
  apply Nat.eq_of_testBit_eq
  intro k
  rw [Nat.testBit_or, trN_bit ha, trN_bit (asc_ins ha hn), Nat.testBit_two_pow]
  by_cases d : k = s
  · subst d; simp [mem_ins]
  · have d2 : ¬ s = k := fun z => d z.symm
    simp [mem_ins, d, d2]
theorem comes9 {ts : List Nat} (hl : ts.length < 3) (ha : asc ts) (sm : ∀ t ∈ ts, t < 64) {T : Nat → Int32} (hT : rp T ts) {s : Nat} (hs : s < 64) (hn : ¬ s ∈ ts) :
    ∃ T', F_X9_comes (Int32.ofNat ts.length) T (Int32.ofNat s) = some (T', Int32.ofNat (ins s ts).length) ∧ rp T' (ins s ts) := by
  have r1 : rp (upd T ts.length (Int32.ofNat s)) (ts ++ [s]) := D_rp (push_D (rp_D hT))
  obtain ⟨f', l', e, rf, pf, of⟩ := sorts9 (N := 3) (p2 := 1) (B := 64) (by omega) (ord1 (by omega)) (f := upd T ts.length (Int32.ofNat s)) (l := ts ++ [s]) (by simp; omega) r1 (fun z hz => by
    rcases List.mem_append.mp hz with hz | hz
    · exact sm z hz
    · rw [List.mem_singleton.mp hz]; exact hs)
  have el : l' = ins s ts := List.Perm.eq_of_pairwise (fun a b _ _ h1 h2 => by omega) of (asc_pw (asc_ins ha hn)) (pf.trans ((List.perm_append_singleton s ts).trans (ins_perm s ts).symm))
  subst el
  refine ⟨f', ?_, rf⟩
  unfold F_X9_comes
  rw [List.length_append, List.length_singleton] at e
  have e1 : Int32.ofNat ts.length + (1 : Int32) = Int32.ofNat (ts.length + 1) := n_add _ 1
  rw [ck_n hl (by omega), n_clamp (by omega), e1, e, bd_s, len_ins]
theorem fit_not {ts : List Nat} {s : Nat} (h : fit ts s = true) : ¬ s ∈ ts := fun z => (fit_m.mp h s z).1 rfl
theorem ls_split : LS_split LR := by
  intro k d_x_deeds_desks q_x_deeds_desks x_imageKept x_desk_genus x_desk_size x_desk_limit x_desk_tree a_x_desk_powers x_imageDesk_genus x_imageDesk_size x_imageDesk_limit x_imageDesk_tree a_x_imageDesk_powers x_deeds_now x_deeds_last a_x_deeds_desks x_deeds_desks_genus x_deeds_desks_size x_deeds_desks_limit x_deeds_desks_tree x_numbers_round x_numbers_size x_numbers_sum x_numbers_gathered a_x_numbers_keys a_x_numbers_aboves a_x_numbers_rounds x_reader_refused x_reader_place x_reader_cannotBe x_tape_size a_x_tape_bytes x_reader_told_genus x_reader_told_size x_reader_told_limit x_reader_told_tree a_x_reader_told_powers a_x_reader_causes x_speller_size a_x_speller_bytes a_x_holders x_holders_sort x_holders_tree x_holders_limit x_holders_above x_holders_size m_genus m_marks m_leaves m_splits m_done m_undone m_metMany m_treesSeen m_taped m_place m_isWrong m_toldGenus m_toldMarks m_isTree m_toldLeaves m_leavesPlace m_toldSplits m_isWhy m_papered m_isKept a_m_powers a_m_tree a_m_ahead a_m_behind a_m_before a_m_rows a_m_met a_m_metSizes a_m_chosen a_m_tape a_m_toldPowers a_m_powerPlaces a_m_toldTree a_m_splitPlaces a_m_layers a_m_paper a_m_held a_m_numbers a_m_sizes a_m_heldLeaves a_m_items a_m_kept p0 hk hLR
  obtain ⟨us, cur, rs, bs, hV, h8, h9, hH8, hH9, hT, hTP, hWY, hHO, hIM⟩ := hLR
  have hVc : VD cur := hV cur (List.mem_append_right _ List.mem_cons_self)
  obtain ⟨q1, q2, q3, q4, q5⟩ := id h8
  obtain ⟨w1, w2, w3, w4, w5, w6⟩ := id h9
  have L3 := hVc.2.2.2.1
  have L6 := hVc.2.2.2.2.1
  have hvt := hVc.2.2.2.2.2
  rcases split89 L3 L6 p0 with ⟨a, b⟩ | ⟨s, hs, hsp, rfl, a, b⟩
  · refine ⟨-1, x_desk_tree, x_deeds_now, x_deeds_last, a_x_deeds_desks, d_x_deeds_desks, x_deeds_desks_genus, x_deeds_desks_limit, q_x_deeds_desks, x_deeds_desks_size, x_deeds_desks_tree, a_m_tree, a_m_before, a_m_behind, a_m_ahead, m_undone, m_splits, m_done, ?_, ?_, ⟨us, cur, rs, bs, hV, h8, h9, hH8, hH9, TN_mono hT, hTP, hWY, hHO, hIM⟩⟩
    · unfold F_X8_split; rw [q3, a, bd_s, if_pos i00]
    · unfold F_X9_split; rw [w3, b, bd_s, if_pos i00]
  have m9 := may9 (VD_tlen hVc) (vt_small L6 hvt) (D_rp w6) hs
  have f8 := fits8 L3 L6 hvt hs
  by_cases f : fit cur.2.2.2 s = true
  · rw [if_pos f] at m9 f8
    have hvi := vt_ins hsp hvt f
    have hl := vt_len L3 L6 hvi
    rw [len_ins] at hl
    obtain ⟨T', eT, rT⟩ := comes9 (by omega) (vt_asc hvt) (vt_small L6 hvt) (D_rp w6) hs (fit_not f)
    have hvn : VD (cur.1, cur.2.1, cur.2.2.1, ins s cur.2.2.2) := ⟨hVc.1, hVc.2.1, hVc.2.2.1, L3, L6, hvi⟩
    have d8 : D8 x_desk_genus x_desk_size x_desk_limit (tr64 (ins s cur.2.2.2)) a_x_desk_powers (cur.1, cur.2.1, cur.2.2.1, ins s cur.2.2.2) := ⟨q1, q2, q3, rfl, q5⟩
    have d9 : D9 m_genus m_marks m_leaves (Int32.ofNat (ins s cur.2.2.2).length) a_m_powers T' (cur.1, cur.2.1, cur.2.2.1, ins s cur.2.2.2) := ⟨w1, w2, w3, rfl, w5, rp_D rT⟩
    obtain ⟨now', last', fp', d', fg', fl', q', fs', ft', es, hs'⟩ := settle8 d_x_deeds_desks q_x_deeds_desks hH8 d8 hV hvn
    obtain ⟨bf, eb, hb⟩ := begins9 h9 hVc a_m_before
    obtain ⟨be', ah', un', do', ee, he⟩ := ends9 d9 hvn hVc hb hH9 hH8.2.2.1
    refine ⟨Int32.ofNat (ins s cur.2.2.2).length, (tr64 (ins s cur.2.2.2)), now', last', fp', d', fg', fl', q', fs', ft', T', bf, be', ah', un', (Int32.ofNat (ins s cur.2.2.2).length), do', ?_, ?_, _, _, _, bs, stl_V hV hvn, d8, d9, hs', he, TN_mono hT, hTP, hWY, hHO, hIM⟩
    · unfold F_X8_split
      rw [q3, a, bd_s, if_neg i10, q4, f8, bd_s, if_neg i10, with8 (vt_asc hvt) hs (fit_not f), bd_s, ← q3, es, bd_s, sizeOf8 L3 L6 hvi, bd_s]
    · unfold F_X9_split
      rw [← w3] at b
      rw [b, bd_s, if_neg i10, w4, m9, bd_s, if_neg i10, ← w4, eb, bd_s, w4, eT, bd_s, ee, bd_s]
  · rw [if_neg f] at m9 f8
    refine ⟨-5, x_desk_tree, x_deeds_now, x_deeds_last, a_x_deeds_desks, d_x_deeds_desks, x_deeds_desks_genus, x_deeds_desks_limit, q_x_deeds_desks, x_deeds_desks_size, x_deeds_desks_tree, a_m_tree, a_m_before, a_m_behind, a_m_ahead, m_undone, m_splits, m_done, ?_, ?_, ⟨us, cur, rs, bs, hV, h8, h9, hH8, hH9, TN_mono hT, hTP, hWY, hHO, hIM⟩⟩
    · unfold F_X8_split
      rw [q3, a, bd_s, if_neg i10, q4, f8, bd_s, if_pos i00]
    · unfold F_X9_split
      rw [w3, b, bd_s, if_neg i10, w4, m9, bd_s, if_pos i00]
theorem leafCount89 (p : Int32) : (F_X6_isLeafCount p = some 0 ∧ F_X9_in p.toInt64 (3 : Int64) (6 : Int64) = some 0) ∨ ∃ L : Nat, 3 ≤ L ∧ L ≤ 6 ∧ p = Int32.ofNat L ∧ F_X6_isLeafCount p = some 1 ∧ F_X9_in p.toInt64 (3 : Int64) (6 : Int64) = some 1 := by
  have e3 : (3 : Int64).toInt = 3 := rfl
  have e6 : (6 : Int64).toInt = 6 := rfl
  rw [in9i, e3, e6]
  unfold F_X6_isLeafCount
  rcases n_cases p with hp | ⟨L, hL, rfl⟩
  · have i := i_neg hp
    have c : p < (3 : Int32) := by
      rw [Int32.lt_iff_toInt_lt]
      have : (3 : Int32).toInt = 3 := rfl
      omega
    exact Or.inl ⟨if_pos c, by rw [if_neg (by omega)]⟩
  · rw [n_toInt hL]
    by_cases c : L < 3
    · have c1 : Int32.ofNat L < (3 : Int32) := (n_lt (b := 3) hL (by omega)).mpr c
      exact Or.inl ⟨if_pos c1, by rw [if_neg (by omega)]⟩
    · have c1 : ¬ Int32.ofNat L < (3 : Int32) := fun z => c ((n_lt (b := 3) hL (by omega)).mp z)
      rw [if_neg c1]
      by_cases d : 6 < L
      · have d1 : (6 : Int32) < Int32.ofNat L := (n_lt (a := 6) (by omega) hL).mpr d
        exact Or.inl ⟨if_pos d1, by rw [if_neg (by omega)]⟩
      · have d1 : ¬ (6 : Int32) < Int32.ofNat L := fun z => d ((n_lt (a := 6) (by omega) hL).mp z)
        exact Or.inr ⟨L, by omega, by omega, rfl, if_neg d1, by rw [if_pos (by omega)]⟩
theorem ls_leaves : LS_leaves LR := by
  intro k d_x_deeds_desks q_x_deeds_desks x_imageKept x_desk_genus x_desk_size x_desk_limit x_desk_tree a_x_desk_powers x_imageDesk_genus x_imageDesk_size x_imageDesk_limit x_imageDesk_tree a_x_imageDesk_powers x_deeds_now x_deeds_last a_x_deeds_desks x_deeds_desks_genus x_deeds_desks_size x_deeds_desks_limit x_deeds_desks_tree x_numbers_round x_numbers_size x_numbers_sum x_numbers_gathered a_x_numbers_keys a_x_numbers_aboves a_x_numbers_rounds x_reader_refused x_reader_place x_reader_cannotBe x_tape_size a_x_tape_bytes x_reader_told_genus x_reader_told_size x_reader_told_limit x_reader_told_tree a_x_reader_told_powers a_x_reader_causes x_speller_size a_x_speller_bytes a_x_holders x_holders_sort x_holders_tree x_holders_limit x_holders_above x_holders_size m_genus m_marks m_leaves m_splits m_done m_undone m_metMany m_treesSeen m_taped m_place m_isWrong m_toldGenus m_toldMarks m_isTree m_toldLeaves m_leavesPlace m_toldSplits m_isWhy m_papered m_isKept a_m_powers a_m_tree a_m_ahead a_m_behind a_m_before a_m_rows a_m_met a_m_metSizes a_m_chosen a_m_tape a_m_toldPowers a_m_powerPlaces a_m_toldTree a_m_splitPlaces a_m_layers a_m_paper a_m_held a_m_numbers a_m_sizes a_m_heldLeaves a_m_items a_m_kept p0 hk hLR
  obtain ⟨us, cur, rs, bs, hV, h8, h9, hH8, hH9, hT, hTP, hWY, hHO, hIM⟩ := hLR
  have hVc : VD cur := hV cur (List.mem_append_right _ List.mem_cons_self)
  obtain ⟨q1, q2, q3, q4, q5⟩ := id h8
  obtain ⟨w1, w2, w3, w4, w5, w6⟩ := id h9
  rcases leafCount89 p0 with ⟨a, b⟩ | ⟨L, h3, h6, rfl, a, b⟩
  · refine ⟨-1, x_desk_limit, x_desk_tree, x_deeds_now, x_deeds_last, a_x_deeds_desks, d_x_deeds_desks, x_deeds_desks_genus, x_deeds_desks_limit, q_x_deeds_desks, x_deeds_desks_size, x_deeds_desks_tree, a_m_before, a_m_behind, a_m_ahead, m_undone, m_leaves, m_splits, m_done, ?_, ?_, ⟨us, cur, rs, bs, hV, h8, h9, hH8, hH9, TN_mono hT, hTP, hWY, hHO, hIM⟩⟩
    · unfold F_X8_leaves; rw [a, bd_s, if_pos i00]
    · unfold F_X9_leaves_; rw [b, bd_s, if_pos i00]
  · have hvn : VD (cur.1, cur.2.1, L, []) := ⟨hVc.1, hVc.2.1, hVc.2.2.1, h3, h6, rfl⟩
    have d8 : D8 x_desk_genus x_desk_size (Int32.ofNat L) (0 : Int64) a_x_desk_powers (cur.1, cur.2.1, L, []) := ⟨q1, q2, rfl, rfl, q5⟩
    have d9 : D9 m_genus m_marks (Int32.ofNat L) (0 : Int32) a_m_powers a_m_tree (cur.1, cur.2.1, L, []) := ⟨w1, w2, rfl, rfl, w5, fun k hk => absurd hk (by simp)⟩
    obtain ⟨now', last', fp', d', fg', fl', q', fs', ft', es, hs'⟩ := settle8 d_x_deeds_desks q_x_deeds_desks hH8 d8 hV hvn
    obtain ⟨bf, eb, hb⟩ := begins9 h9 hVc a_m_before
    obtain ⟨be', ah', un', do', ee, he⟩ := ends9 d9 hvn hVc hb hH9 hH8.2.2.1
    refine ⟨x_desk_limit, (Int32.ofNat L), (0 : Int64), now', last', fp', d', fg', fl', q', fs', ft', bf, be', ah', un', (Int32.ofNat L), (0 : Int32), do', ?_, ?_, _, _, _, bs, stl_V hV hvn, d8, d9, hs', he, TN_mono hT, hTP, hWY, hHO, hIM⟩
    · unfold F_X8_leaves
      rw [a, bd_s, if_neg i10, es, bd_s]
    · unfold F_X9_leaves_
      rw [b, bd_s, if_neg i10, eb, bd_s, ee, bd_s, q3, w3]
