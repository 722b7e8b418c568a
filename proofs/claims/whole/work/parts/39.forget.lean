/-! A leaf is forgotten. -/
def woN (L s leaf : Nat) : Nat := if ((s &&& (2 ^ leaf - 1)) ||| ((s >>> (leaf + 1)) <<< leaf)) % 2 = 1 then (2 ^ (L - 1) - 1) ^^^ ((s &&& (2 ^ leaf - 1)) ||| ((s >>> (leaf + 1)) <<< leaf)) else (s &&& (2 ^ leaf - 1)) ||| ((s >>> (leaf + 1)) <<< leaf)
noncomputable def chkWo (L : Nat) : Bool := (List.range (2 ^ L)).all (fun s => (List.range L).all (fun leaf => decide (F_X6_leftWithout (Int32.ofNat s) (Int32.ofNat L) (Int32.ofNat leaf) = some (Int32.ofNat (woN L s leaf))) && decide (F_X9_without (Int32.ofNat s) (Int32.ofNat leaf) (Int32.ofNat (L - 1)) = some (Int32.ofNat (woN L s leaf))) && decide (woN L s leaf < 64)))
theorem wo_all : chkWo 4 = true ∧ chkWo 5 = true ∧ chkWo 6 = true := by decide +kernel
theorem wo_n {L : Nat} (h4 : 4 ≤ L) (h6 : L ≤ 6) {s leaf : Nat} (hs : s < 2 ^ L) (hl : leaf < L) : F_X6_leftWithout (Int32.ofNat s) (Int32.ofNat L) (Int32.ofNat leaf) = some (Int32.ofNat (woN L s leaf)) ∧ F_X9_without (Int32.ofNat s) (Int32.ofNat leaf) (Int32.ofNat (L - 1)) = some (Int32.ofNat (woN L s leaf)) ∧ woN L s leaf < 64 := by
  have h : chkWo L = true := by
    obtain ⟨a, b, c⟩ := wo_all
    rcases (show L = 4 ∨ L = 5 ∨ L = 6 by omega) with rfl | rfl | rfl <;> assumption
  have h1 := List.all_eq_true.mp (List.all_eq_true.mp h s (List.mem_range.mpr hs)) leaf (List.mem_range.mpr hl)
  simp only [Bool.and_eq_true, decide_eq_true_eq] at h1
  exact ⟨h1.1.1, h1.1.2, h1.2⟩
def fg (L leaf : Nat) (acc : List Nat) (s : Nat) : List Nat := if isSp (L - 1) (woN L s leaf) = true then (if woN L s leaf ∈ acc then acc else ins (woN L s leaf) acc) else acc
def fgA (L leaf : Nat) (ts : List Nat) : List Nat := ts.foldl (fg L leaf) []
def chkFg (L : Nat) (ts : List Nat) : Bool := (List.range L).all (fun leaf => vt (L - 1) (fgA L leaf ts))
theorem fg_all : (allT 4).all (chkFg 4) = true ∧ (allT 5).all (chkFg 5) = true ∧ (allT 6).all (chkFg 6) = true := by decide +kernel
theorem fg_vt {L : Nat} (h4 : 4 ≤ L) (h6 : L ≤ 6) {ts : List Nat} (hv : vt L ts = true) {leaf : Nat} (hl : leaf < L) : vt (L - 1) (fgA L leaf ts) = true := by
  have hm := vt_all (by omega) h6 hv
  have h : chkFg L ts = true := by
    obtain ⟨a, b, c⟩ := fg_all
    rcases (show L = 4 ∨ L = 5 ∨ L = 6 by omega) with rfl | rfl | rfl
    · exact List.all_eq_true.mp a _ hm
    · exact List.all_eq_true.mp b _ hm
    · exact List.all_eq_true.mp c _ hm
  exact List.all_eq_true.mp h leaf (List.mem_range.mpr hl)
theorem with8m {ts : List Nat} (ha : asc ts) {s : Nat} (hs : s < 64) (hn : s ∈ ts) : F_X6_with (tr64 ts) (Int32.ofNat s) = some (tr64 ts) := by
  unfold F_X6_with
  have c : ¬ (63 : Int32) < Int32.ofNat s := fun z => by have := (n_lt (a := 63) (by omega) (by omega)).mp z; omega
  rw [if_neg (n_neg (by omega)), if_neg c, shl64 hs]
  congr 1
  apply Int64.toBitVec_inj.mp
  rw [Int64.toBitVec_or]
  show BitVec.ofNat 64 (trN ts) ||| BitVec.ofNat 64 (2 ^ s) = BitVec.ofNat 64 (trN ts)
  rw [← BitVec.ofNat_or]
  congr 1
  apply Nat.eq_of_testBit_eq
  intro k
  rw [Nat.testBit_or, trN_bit ha, Nat.testBit_two_pow]
  by_cases d : s = k
  · subst d; simp [hn]
  · simp [d]
/-- what is gathered on the way -/
def okA (j : Nat) (acc : List Nat) : Prop := asc acc ∧ (∀ t ∈ acc, t < 64) ∧ acc.length ≤ j
theorem fg_ok {L leaf j s : Nat} {acc : List Nat} (h : okA j acc) (hw : woN L s leaf < 64) : okA (j + 1) (fg L leaf acc s) := by
  obtain ⟨h1, h2, h3⟩ := h
  unfold fg
  by_cases c : isSp (L - 1) (woN L s leaf) = true
  · rw [if_pos c]
    by_cases d : woN L s leaf ∈ acc
    · rw [if_pos d]; exact ⟨h1, h2, by omega⟩
    · rw [if_neg d]
      refine ⟨asc_ins h1 d, fun t ht => ?_, by rw [len_ins]; omega⟩
      rcases mem_ins.mp ht with rfl | ht
      · exact hw
      · exact h2 t ht
  · rw [if_neg c]; exact ⟨h1, h2, by omega⟩
theorem fold_take (L leaf : Nat) (ts : List Nat) {j : Nat} (hj : j < ts.length) : fgA L leaf (ts.take (j + 1)) = fg L leaf (fgA L leaf (ts.take j)) (ts.getD j 0) := by
  unfold fgA
  rw [getD_el hj, List.take_succ_eq_append_getElem hj, List.foldl_append]; rfl
theorem fold_ok {L leaf : Nat} (h4 : 4 ≤ L) (h6 : L ≤ 6) (hl : leaf < L) {ts : List Nat} (hs : ∀ t ∈ ts, t < 2 ^ L) : ∀ j, j ≤ ts.length → okA j (fgA L leaf (ts.take j))
  | 0, _ => ⟨trivial, by simp [fgA], by simp [fgA]⟩
  | j + 1, hj => by
    rw [fold_take L leaf ts (by omega)]
    have gm : ts.getD j 0 ∈ ts := by rw [getD_el (by omega)]; exact List.getElem_mem (by omega)
    exact fg_ok (fold_ok h4 h6 hl hs j (by omega)) (wo_n h4 h6 (hs _ gm) hl).2.2
theorem vt_pow {L : Nat} : ∀ {ts : List Nat}, vt L ts = true → ∀ t ∈ ts, t < 2 ^ L
  | [], _, t, ht => absurd ht List.not_mem_nil
  | u :: ts, h, t, ht => by
    rcases List.mem_cons.mp ht with rfl | ht
    · simp only [vt, Bool.and_eq_true] at h; exact (isSp_even h.1.1).2
    · exact vt_pow (vt_tail h) t ht
theorem forget8 {L leaf : Nat} (h4 : 4 ≤ L) (h6 : L ≤ 6) (hl : leaf < L) {ts : List Nat} (hv : vt L ts = true) : F_X6_forgetLeaf (tr64 ts) (Int32.ofNat L) (Int32.ofNat leaf) = some (tr64 (fgA L leaf ts)) := by
  have hlen := vt_len (by omega) h6 hv
  unfold F_X6_forgetLeaf
  rw [sizeOf8 (by omega) h6 hv, bd_s]
  refine wq2_it ts.length (fun j => tr64 (fgA L leaf (ts.take j))) (fun j => Int32.ofNat j) (fun j hj ag => ?_) (fun ag => ?_) FU (by unfold FU; omega)
  · have gm : ts.getD j 0 ∈ ts := by rw [getD_el hj]; exact List.getElem_mem hj
    obtain ⟨w8, -, w64⟩ := wo_n h4 h6 (vt_pow hv _ gm) hl
    obtain ⟨o1, o2, o3⟩ := fold_ok h4 h6 hl (vt_pow hv) j (by omega)
    have e1 : Int32.ofNat L - (1 : Int32) = Int32.ofNat (L - 1) := n_sub (b := 1) (by omega)
    unfold B_X6_forgetLeaf_12
    rw [if_neg (c_ge (by omega) (by omega) hj), nth8 (by omega) h6 hv (by omega), bd_s, if_pos hj, w8, bd_s, e1, cand_n (by omega) (by omega) w64, bd_s, show (1 : Int32) = Int32.ofNat 1 from rfl, n_add, fold_take L leaf ts hj]
    unfold fg
    by_cases c : isSp (L - 1) (woN L (ts.getD j 0) leaf) = true
    · have w : ¬ Int32.ofNat 1 = 0 := by decide
      rw [if_pos c, if_neg w, if_pos c]
      by_cases d : woN L (ts.getD j 0) leaf ∈ fgA L leaf (ts.take j)
      · rw [if_pos d, with8m o1 w64 d, bd_s]
      · rw [if_neg d, with8 o1 w64 d, bd_s]
    · rw [if_neg c, if_pos i00, if_neg c]
  · unfold B_X6_forgetLeaf_12
    rw [if_pos ((n_le (by omega) (by omega)).mpr (Nat.le_refl _)), List.take_length]; rfl
theorem forget9 {L leaf : Nat} (h4 : 4 ≤ L) (h6 : L ≤ 6) (hl : leaf < L) {ts : List Nat} (hv : vt L ts = true) {bf T : Nat → Int32} (hb : ∀ k, k < ts.length → bf (12 + k) = Int32.ofNat (ts.getD k 0)) (kk : (Nat → Int32) → Int32 → Option (Int32 × (Nat → Int32) × (Nat → Int32) × (Nat → Int32) × (Nat → Int32) × Int32 × Int32 × Int32 × Int32)) :
    ∃ T', rp T' (fgA L leaf ts) ∧ wq3 (B_X9_forget_55 (Int32.ofNat L) (Int32.ofNat ts.length) (Int32.ofNat leaf) bf kk) FU T (0 : Int32) (0 : Int32) = kk T' (Int32.ofNat (fgA L leaf ts).length) := by
  have hlen := vt_len (by omega) h6 hv
  refine wq3_inv (B := B_X9_forget_55 (Int32.ofNat L) (Int32.ofNat ts.length) (Int32.ofNat leaf) bf kk) ts.length (fun j T n i => i = Int32.ofNat j ∧ n = Int32.ofNat (fgA L leaf (ts.take j)).length ∧ rp T (fgA L leaf (ts.take j))) (fun r => ∃ T', rp T' (fgA L leaf ts) ∧ r = kk T' (Int32.ofNat (fgA L leaf ts).length)) (fun j hj T n i hI => ?_) (fun T n i hI => ?_) FU (by unfold FU; omega) T 0 0 ⟨rfl, rfl, fun k v hv => absurd hv (by simp [fgA])⟩
  · obtain ⟨rfl, rfl, hT⟩ := hI
    have gm : ts.getD j 0 ∈ ts := by rw [getD_el hj]; exact List.getElem_mem hj
    obtain ⟨-, w9, w64⟩ := wo_n h4 h6 (vt_pow hv _ gm) hl
    obtain ⟨o1, o2, o3⟩ := fold_ok h4 h6 hl (vt_pow hv) j (by omega)
    have e1 : Int32.ofNat L - (1 : Int32) = Int32.ofNat (L - 1) := n_sub (b := 1) (by omega)
    have e12 : (12 : Int32) + Int32.ofNat j = Int32.ofNat (12 + j) := n_add 12 j
    have ej : Int32.ofNat j + (1 : Int32) = Int32.ofNat (j + 1) := n_add j 1
    have hstep : ∀ ag, B_X9_forget_55 (Int32.ofNat L) (Int32.ofNat ts.length) (Int32.ofNat leaf) bf kk T (Int32.ofNat (fgA L leaf (ts.take j)).length) (Int32.ofNat j) ag = if isSp (L - 1) (woN L (ts.getD j 0) leaf) = true then bd (F_X9_placeOf (Int32.ofNat (fgA L leaf (ts.take j)).length) T (Int32.ofNat (woN L (ts.getD j 0) leaf))) (fun x11 => if 0 ≤ x11 then (ag T (Int32.ofNat (fgA L leaf (ts.take j)).length) (Int32.ofNat (j + 1))) else (bd (F_X9_comes (Int32.ofNat (fgA L leaf (ts.take j)).length) T (Int32.ofNat (woN L (ts.getD j 0) leaf))) (fun x13 => ag (x13.1) (x13.2) (Int32.ofNat (j + 1))))) else ag T (Int32.ofNat (fgA L leaf (ts.take j)).length) (Int32.ofNat (j + 1)) := fun ag => by
      unfold B_X9_forget_55
      rw [if_neg (c_ge (by omega) (by omega) hj), e12, ck_n (by omega) (by omega), n_clamp (by omega), hb j hj, e1, w9, bd_s, (is_n (L := L - 1) (by omega) (by omega) w64).2, bd_s, ej]
      by_cases c : isSp (L - 1) (woN L (ts.getD j 0) leaf) = true
      · rw [if_pos c, if_neg i10, if_pos c]
      · rw [if_neg c, if_pos i00, if_neg c]
    rw [fold_take L leaf ts hj]
    by_cases c : isSp (L - 1) (woN L (ts.getD j 0) leaf) = true
    · obtain ⟨r, er, hr⟩ := place_9 (us := fgA L leaf (ts.take j)) (by omega) T (rp_D hT) (woN L (ts.getD j 0) leaf) (by omega) (fun u hu => by have := o2 u hu; omega)
      rcases hr with ⟨rfl, hn⟩ | ⟨m, hm, rfl, e⟩
      · obtain ⟨T', eT, rT⟩ := comes9 (by omega) o1 o2 hT w64 hn
        refine Or.inl ⟨T', Int32.ofNat (ins (woN L (ts.getD j 0) leaf) (fgA L leaf (ts.take j))).length, Int32.ofNat (j + 1), ⟨rfl, ?_, ?_⟩, fun ag => ?_⟩
        · unfold fg; rw [if_pos c, if_neg hn]
        · unfold fg; rw [if_pos c, if_neg hn]; exact rT
        · rw [hstep ag, if_pos c, er, bd_s, if_neg (by decide), eT, bd_s]
      · have hmem : woN L (ts.getD j 0) leaf ∈ fgA L leaf (ts.take j) := by rw [← e, getD_el hm]; exact List.getElem_mem hm
        have e0 : (0 : Int32) ≤ Int32.ofNat m := (n_le (a := 0) (by omega) (by omega)).mpr (by omega)
        refine Or.inl ⟨T, _, Int32.ofNat (j + 1), ⟨rfl, ?_, ?_⟩, fun ag => by rw [hstep ag, if_pos c, er, bd_s, if_pos e0]⟩
        · unfold fg; rw [if_pos c, if_pos hmem]
        · unfold fg; rw [if_pos c, if_pos hmem]; exact hT
    · refine Or.inl ⟨T, _, Int32.ofNat (j + 1), ⟨rfl, ?_, ?_⟩, fun ag => by rw [hstep ag, if_neg c]⟩
      · unfold fg; rw [if_neg c]
      · unfold fg; rw [if_neg c]; exact hT
  · obtain ⟨rfl, rfl, hT⟩ := hI
    rw [List.take_length] at hT ⊢
    refine ⟨_, ⟨T, hT, rfl⟩, fun ag => ?_⟩
    unfold B_X9_forget_55
    rw [if_pos ((n_le (by omega) (by omega)).mpr (Nat.le_refl _))]
theorem ls_forget : LS_forget LR := by
  intro k d_x_deeds_desks q_x_deeds_desks x_imageKept x_desk_genus x_desk_size x_desk_limit x_desk_tree a_x_desk_powers x_imageDesk_genus x_imageDesk_size x_imageDesk_limit x_imageDesk_tree a_x_imageDesk_powers x_deeds_now x_deeds_last a_x_deeds_desks x_deeds_desks_genus x_deeds_desks_size x_deeds_desks_limit x_deeds_desks_tree x_numbers_round x_numbers_size x_numbers_sum x_numbers_gathered a_x_numbers_keys a_x_numbers_aboves a_x_numbers_rounds x_reader_refused x_reader_place x_reader_cannotBe x_tape_size a_x_tape_bytes x_reader_told_genus x_reader_told_size x_reader_told_limit x_reader_told_tree a_x_reader_told_powers a_x_reader_causes x_speller_size a_x_speller_bytes a_x_holders x_holders_sort x_holders_tree x_holders_limit x_holders_above x_holders_size m_genus m_marks m_leaves m_splits m_done m_undone m_metMany m_treesSeen m_taped m_place m_isWrong m_toldGenus m_toldMarks m_isTree m_toldLeaves m_leavesPlace m_toldSplits m_isWhy m_papered m_isKept a_m_powers a_m_tree a_m_ahead a_m_behind a_m_before a_m_rows a_m_met a_m_metSizes a_m_chosen a_m_tape a_m_toldPowers a_m_powerPlaces a_m_toldTree a_m_splitPlaces a_m_layers a_m_paper a_m_held a_m_numbers a_m_sizes a_m_heldLeaves a_m_items a_m_kept p0 hk hLR
  obtain ⟨us, cur, rs, bs, hV, h8, h9, hH8, hH9, hT, hTP, hWY, hHO, hIM⟩ := hLR
  have hVc : VD cur := hV cur (List.mem_append_right _ List.mem_cons_self)
  obtain ⟨q1, q2, q3, q4, q5⟩ := id h8
  obtain ⟨w1, w2, w3, w4, w5, w6⟩ := id h9
  have L3 := hVc.2.2.2.1
  have L6 := hVc.2.2.2.2.1
  have hvt := hVc.2.2.2.2.2
  have h9' := place9 (n := cur.2.2.1) (by omega) p0
  by_cases c : 0 ≤ p0.toInt ∧ p0.toInt < cur.2.2.1
  · obtain ⟨leaf, hlf, hl2, rfl⟩ := i_max_ck c
    rw [if_pos c] at h9'
    have c1 : Int32.ofNat leaf < Int32.ofNat cur.2.2.1 := (n_lt (by omega) (by omega)).mpr hlf
    by_cases d : 3 < cur.2.2.1
    · have d1 : (3 : Int32) < Int32.ofNat cur.2.2.1 := (n_lt (a := 3) (by omega) (by omega)).mpr d
      have d2 : ¬ Int32.ofNat cur.2.2.1 = (3 : Int32) := fun z => by have := (n_inj (b := 3) (by omega) (by omega)).mp z; omega
      have hvf := fg_vt (by omega) L6 hvt hlf
      have eL : Int32.ofNat cur.2.2.1 - (1 : Int32) = Int32.ofNat (cur.2.2.1 - 1) := n_sub (b := 1) (by omega)
      obtain ⟨bf, eb, hb⟩ := begins9 h9 hVc a_m_before
      have hbf : ∀ k, k < cur.2.2.2.length → bf (12 + k) = Int32.ofNat (cur.2.2.2.getD k 0) := fun k hk => by
        have h3 := VD_tlen hVc
        have := hb.2.2.2.2.2.1 k (by omega)
        rw [Nat.zero_add] at this; exact this
      obtain ⟨T', rT, eT⟩ := forget9 (L := cur.2.2.1) (leaf := leaf) (by omega) L6 hlf hvt (T := a_m_tree) hbf (K_X9_forget_55_112 m_genus m_marks (Int32.ofNat cur.2.2.1) m_done m_undone a_m_powers a_m_behind a_m_ahead bf)
      have hvn : VD (cur.1, cur.2.1, cur.2.2.1 - 1, fgA cur.2.2.1 leaf cur.2.2.2) := ⟨hVc.1, hVc.2.1, hVc.2.2.1, by show 3 ≤ cur.2.2.1 - 1; omega, by show cur.2.2.1 - 1 ≤ 6; omega, hvf⟩
      have d8 : D8 x_desk_genus x_desk_size (Int32.ofNat (cur.2.2.1 - 1)) (tr64 (fgA cur.2.2.1 leaf cur.2.2.2)) a_x_desk_powers (cur.1, cur.2.1, cur.2.2.1 - 1, fgA cur.2.2.1 leaf cur.2.2.2) := ⟨q1, q2, rfl, rfl, q5⟩
      have d9 : D9 m_genus m_marks (Int32.ofNat (cur.2.2.1 - 1)) (Int32.ofNat (fgA cur.2.2.1 leaf cur.2.2.2).length) a_m_powers T' (cur.1, cur.2.1, cur.2.2.1 - 1, fgA cur.2.2.1 leaf cur.2.2.2) := ⟨w1, w2, rfl, rfl, w5, rp_D rT⟩
      obtain ⟨now', last', fp', d', fg', fl', q', fs', ft', es, hs'⟩ := settle8 d_x_deeds_desks q_x_deeds_desks hH8 d8 hV hvn
      obtain ⟨be', ah', un', do', ee, he⟩ := ends9 d9 hvn hVc hb hH9 hH8.2.2.1
      refine ⟨Int32.ofNat (fgA cur.2.2.1 leaf cur.2.2.2).length, (Int32.ofNat (cur.2.2.1 - 1)), (tr64 (fgA cur.2.2.1 leaf cur.2.2.2)), now', last', fp', d', fg', fl', q', fs', ft', bf, T', be', ah', un', (Int32.ofNat (cur.2.2.1 - 1)), (Int32.ofNat (fgA cur.2.2.1 leaf cur.2.2.2).length), do', ?_, ?_, _, _, _, bs, stl_V hV hvn, d8, d9, hs', he, TN_mono hT, hTP, hWY, hHO, hIM⟩
      · unfold F_X8_forget
        rw [if_neg (n_neg hl2), q3, if_pos c1, if_pos d1, q4, forget8 (by omega) L6 hlf hvt, bd_s, eL, es, bd_s, sizeOf8 (by omega) (by omega) hvf, bd_s]
      · unfold F_X9_forget
        rw [w3, h9', bd_s, if_neg i10, if_neg d2, ← w3, eb, bd_s, w3, w4, eT]
        unfold K_X9_forget_55_112
        rw [eL, ee, bd_s]
    · have d1 : ¬ (3 : Int32) < Int32.ofNat cur.2.2.1 := fun z => d ((n_lt (a := 3) (by omega) (by omega)).mp z)
      have d2 : Int32.ofNat cur.2.2.1 = (3 : Int32) := by rw [show cur.2.2.1 = 3 by omega]; rfl
      refine ⟨-5, x_desk_limit, x_desk_tree, x_deeds_now, x_deeds_last, a_x_deeds_desks, d_x_deeds_desks, x_deeds_desks_genus, x_deeds_desks_limit, q_x_deeds_desks, x_deeds_desks_size, x_deeds_desks_tree, a_m_before, a_m_tree, a_m_behind, a_m_ahead, m_undone, m_leaves, m_splits, m_done, ?_, ?_, ⟨us, cur, rs, bs, hV, h8, h9, hH8, hH9, TN_mono hT, hTP, hWY, hHO, hIM⟩⟩
      · unfold F_X8_forget
        rw [if_neg (n_neg hl2), q3, if_pos c1, if_neg d1]
      · unfold F_X9_forget
        rw [w3, h9', bd_s, if_neg i10, if_pos d2]
  · rw [if_neg c] at h9'
    refine ⟨-1, x_desk_limit, x_desk_tree, x_deeds_now, x_deeds_last, a_x_deeds_desks, d_x_deeds_desks, x_deeds_desks_genus, x_deeds_desks_limit, q_x_deeds_desks, x_deeds_desks_size, x_deeds_desks_tree, a_m_before, a_m_tree, a_m_behind, a_m_ahead, m_undone, m_leaves, m_splits, m_done, ?_, ?_, ⟨us, cur, rs, bs, hV, h8, h9, hH8, hH9, TN_mono hT, hTP, hWY, hHO, hIM⟩⟩
    · unfold F_X8_forget
      rcases n_cases p0 with hp | ⟨n, hn, rfl⟩
      · rw [if_pos hp]
      · rw [n_toInt hn] at c
        rw [if_neg (n_neg hn), q3, if_neg (fun z => c ⟨by omega, by have := (n_lt hn (by omega)).mp z; omega⟩)]
    · unfold F_X9_forget
      rw [w3, h9', bd_s, if_pos i00]
