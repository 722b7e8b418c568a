/-! Splits: what is one, what goes together, what comes and goes. -/
theorem pow_L {L : Nat} (h6 : L ≤ 6) : (1 : Int32) <<< (Int32.ofNat L &&& 31) = Int32.ofNat (2 ^ L) := by
  have : ∀ L, L < 7 → (1 : Int32) <<< (Int32.ofNat L &&& 31) = Int32.ofNat (2 ^ L) := by decide
  exact this L (by omega)
theorem pow_le64 {L : Nat} (h6 : L ≤ 6) : 2 ^ L ≤ 64 := by
  have : 2 ^ L ≤ 2 ^ 6 := Nat.pow_le_pow_right (by omega) h6
  omega
noncomputable def chkIs (L : Nat) : Bool := (List.range 64).all (fun s => decide (F_X6_isSplit (Int32.ofNat s) (Int32.ofNat L) = some (if isSp L s = true then 1 else 0)) && decide (F_X9_isSplit (Int32.ofNat s) (Int32.ofNat L) = some (if isSp L s = true then 1 else 0)))
theorem is_all : (chkIs 2 && chkIs 3 && chkIs 4 && chkIs 5 && chkIs 6) = true := by decide +kernel
theorem is_L {L : Nat} (h3 : 2 ≤ L) (h6 : L ≤ 6) : chkIs L = true := by
  have h := is_all
  simp only [Bool.and_eq_true] at h
  rcases (show L = 2 ∨ L = 3 ∨ L = 4 ∨ L = 5 ∨ L = 6 by omega) with rfl | rfl | rfl | rfl | rfl
  · exact h.1.1.1.1
  · exact h.1.1.1.2
  · exact h.1.1.2
  · exact h.1.2
  · exact h.2
theorem is_n {L : Nat} (h3 : 2 ≤ L) (h6 : L ≤ 6) {s : Nat} (hs : s < 64) : F_X6_isSplit (Int32.ofNat s) (Int32.ofNat L) = some (if isSp L s = true then 1 else 0) ∧ F_X9_isSplit (Int32.ofNat s) (Int32.ofNat L) = some (if isSp L s = true then 1 else 0) := by
  have h := List.all_eq_true.mp (is_L h3 h6) s (List.mem_range.mpr hs)
  rw [Bool.and_eq_true] at h
  exact ⟨of_decide_eq_true h.1, of_decide_eq_true h.2⟩
theorem isLeaf8 {L : Nat} (h3 : 3 ≤ L) (h6 : L ≤ 6) : F_X6_isLeafCount (Int32.ofNat L) = some 1 := by
  rcases (show L = 3 ∨ L = 4 ∨ L = 5 ∨ L = 6 by omega) with rfl | rfl | rfl | rfl <;> decide
theorem split89 {L : Nat} (h3 : 3 ≤ L) (h6 : L ≤ 6) (p : Int32) : (F_X6_isSplit p (Int32.ofNat L) = some 0 ∧ F_X9_isSplit p (Int32.ofNat L) = some 0) ∨ ∃ s : Nat, s < 64 ∧ isSp L s = true ∧ p = Int32.ofNat s ∧ F_X6_isSplit p (Int32.ofNat L) = some 1 ∧ F_X9_isSplit p (Int32.ofNat L) = some 1 := by
  rcases n_cases p with hp | ⟨s, hs, rfl⟩
  · refine Or.inl ⟨?_, ?_⟩
    · unfold F_X6_isSplit
      have : p ≤ 0 := Int32.le_of_lt hp
      rw [isLeaf8 h3 h6, bd_s, if_neg i10, if_pos this]
    · unfold F_X9_isSplit
      rw [in9neg hp, bd_s, if_pos i00]
  · by_cases c : s < 64
    · obtain ⟨a, b⟩ := is_n (by omega) h6 c
      by_cases d : isSp L s = true
      · rw [if_pos d] at a b
        exact Or.inr ⟨s, c, d, rfl, a, b⟩
      · rw [if_neg d] at a b
        exact Or.inl ⟨a, b⟩
    · have hL := pow_le64 h6
      refine Or.inl ⟨?_, ?_⟩
      · unfold F_X6_isSplit
        have y1 : ¬ Int32.ofNat s ≤ 0 := fun z => by have := (le0_iff hs).mp z; omega
        rw [isLeaf8 h3 h6, bd_s, if_neg i10, if_neg y1, pow_L h6, if_pos ((n_le (by omega) hs).mpr (by omega))]
      · unfold F_X9_isSplit
        rw [pow_L h6, in9n hs, n_pred64 (by omega), if_neg (by omega), bd_s, if_pos i00]
theorem n_and (a b : Nat) : Int32.ofNat a &&& Int32.ofNat b = Int32.ofNat (a &&& b) := by
  apply Int32.toBitVec_inj.mp
  rw [Int32.toBitVec_and]
  show BitVec.ofNat 32 a &&& BitVec.ofNat 32 b = BitVec.ofNat 32 (a &&& b)
  rw [← BitVec.ofNat_and]
theorem and_lt {a b : Nat} (h : a < 2147483648) : a &&& b < 2147483648 := Nat.lt_of_le_of_lt Nat.and_le_left h
theorem goT_c (a b : Nat) : goT a b = true ↔ (a &&& b = 0 ∨ a &&& b = a ∨ a &&& b = b) := by
  have e : goT a b = (Nat.land a b == 0 || Nat.land a b == a || Nat.land a b == b) := rfl
  have e2 : Nat.land a b = a &&& b := rfl
  rw [e, e2, Bool.or_eq_true, Bool.or_eq_true, beq_iff_eq, beq_iff_eq, beq_iff_eq, or_assoc]
theorem goT_comm (a b : Nat) : goT a b = goT b a := by
  rw [Bool.eq_iff_iff, goT_c, goT_c, Nat.and_comm b a]
  constructor <;> (rintro (h | h | h) <;> simp [h])
theorem goT9 {a b : Nat} (ha : a < 2147483648) (hb : b < 2147483648) : F_X9_goTogether (Int32.ofNat a) (Int32.ofNat b) = some (if goT a b = true then 1 else 0) := by
  unfold F_X9_goTogether
  have l := and_lt (b := b) ha
  have c0 : (Int32.ofNat (a &&& b) = 0) ↔ a &&& b = 0 := n_inj (b := 0) l (by omega)
  rw [n_and]
  by_cases h : goT a b = true
  · rw [if_pos h]
    rcases (goT_c a b).mp h with q | q | q
    · rw [if_pos (c0.mpr q)]
    · by_cases d : Int32.ofNat (a &&& b) = 0
      · rw [if_pos d]
      · rw [if_neg d, q, if_pos rfl]
    · by_cases d : Int32.ofNat (a &&& b) = 0
      · rw [if_pos d]
      · by_cases e : Int32.ofNat (a &&& b) = Int32.ofNat a
        · rw [if_neg d, if_pos e]
        · rw [if_neg d, if_neg e, q, if_pos rfl]
  · have h2 := fun z => h ((goT_c a b).mpr z)
    rw [if_neg h, if_neg (fun z => h2 (Or.inl (c0.mp z))), if_neg (fun z => h2 (Or.inr (Or.inl ((n_inj l ha).mp z)))), if_neg (fun z => h2 (Or.inr (Or.inr ((n_inj l hb).mp z))))]
theorem goT8 {a b : Nat} (ha : a < 2147483648) (hb : b < 2147483648) : F_X6_goTogether (Int32.ofNat a) (Int32.ofNat b) = some (if goT a b = true then 1 else 0) := by
  rw [← goT9 ha hb]; rfl
/-- a split can come to a tree -/
def fit (ts : List Nat) (s : Nat) : Bool := ts.all (fun t => !(t == s) && goT t s)
theorem fit_m {ts : List Nat} {s : Nat} : fit ts s = true ↔ ∀ t ∈ ts, ¬ t = s ∧ goT t s = true := by
  simp [fit, List.all_eq_true]
theorem fits8 {L : Nat} (h3 : 3 ≤ L) (h6 : L ≤ 6) {ts : List Nat} (hv : vt L ts = true) {s : Nat} (hs : s < 64) : F_X6_fits (tr64 ts) (Int32.ofNat s) = some (if fit ts s = true then 1 else 0) := by
  have hl := vt_len h3 h6 hv
  have sm := vt_small h6 hv
  unfold F_X6_fits
  rw [sizeOf8 h3 h6 hv, bd_s]
  obtain ⟨m, m1, m2, m3⟩ := stop3 (fun j => j < ts.length ∧ ¬ ts.getD j 0 = s ∧ goT (ts.getD j 0) s = true) ts.length (fun z => absurd z.1 (by omega))
  refine wq1_it m (fun j => Int32.ofNat j) (fun j hj ag => ?_) (fun ag => ?_) FU (by unfold FU; omega)
  · obtain ⟨a1, a2, a3⟩ := m2 j hj
    have b := sm _ (by rw [getD_el a1]; exact List.getElem_mem a1 : ts.getD j 0 ∈ ts)
    unfold B_X6_fits_8
    rw [if_neg (c_ge (by omega) (by omega) a1), nth8 h3 h6 hv (by omega), bd_s, if_pos a1, if_neg (fun z => a2 ((n_inj (by omega) (by omega)).mp z).symm), goT8 (by omega) (by omega), goT_comm, if_pos a3, bd_s, if_neg i10, show (1 : Int32) = Int32.ofNat 1 from rfl, n_add]
  · unfold B_X6_fits_8
    by_cases c : m < ts.length
    · have gm : ts.getD m 0 ∈ ts := by rw [getD_el c]; exact List.getElem_mem c
      have b := sm _ gm
      have nf : ¬ fit ts s = true := fun z => m3 ⟨c, fit_m.mp z _ gm⟩
      rw [if_neg (c_ge (by omega) (by omega) c), nth8 h3 h6 hv (by omega), bd_s, if_pos c, if_neg nf]
      by_cases d : ts.getD m 0 = s
      · rw [if_pos (by rw [d])]
      · have e : ¬ goT (ts.getD m 0) s = true := fun z => m3 ⟨c, d, z⟩
        rw [if_neg (fun z => d ((n_inj (by omega) (by omega)).mp z).symm), goT8 (by omega) (by omega), goT_comm, if_neg e, bd_s, if_pos i00]
    · have f : fit ts s = true := fit_m.mpr fun t ht => by
        obtain ⟨j, hj, e⟩ := List.getElem_of_mem ht
        have := (m2 j (by omega)).2
        rw [getD_el hj, e] at this
        exact this
      rw [if_pos ((n_le (by omega) (by omega)).mpr (by omega)), if_pos f]; rfl
theorem may9 {ts : List Nat} (hl : ts.length ≤ 3) (sm : ∀ t ∈ ts, t < 64) {T : Nat → Int32} (hT : rp T ts) {s : Nat} (hs : s < 64) : F_X9_mayCome (Int32.ofNat ts.length) T (Int32.ofNat s) = some (if fit ts s = true then 1 else 0) := by
  unfold F_X9_mayCome
  obtain ⟨m, m1, m2, m3⟩ := stop3 (fun j => j < ts.length ∧ ¬ ts.getD j 0 = s ∧ goT (ts.getD j 0) s = true) ts.length (fun z => absurd z.1 (by omega))
  refine wq1_it m (fun j => Int32.ofNat j) (fun j hj ag => ?_) (fun ag => ?_) FU (by unfold FU; omega)
  · obtain ⟨a1, a2, a3⟩ := m2 j hj
    have b := sm _ (by rw [getD_el a1]; exact List.getElem_mem a1 : ts.getD j 0 ∈ ts)
    unfold B_X9_mayCome_2
    rw [if_neg (c_ge (by omega) (by omega) a1), ck_n (by omega) (by omega), ck_n (by omega) (by omega), n_clamp (by omega), rp_D hT j a1, if_neg (fun z => a2 ((n_inj (by omega) (by omega)).mp z)), goT9 (by omega) (by omega), if_pos a3, bd_s, if_neg i10, show (1 : Int32) = Int32.ofNat 1 from rfl, n_add]
  · unfold B_X9_mayCome_2
    by_cases c : m < ts.length
    · have gm : ts.getD m 0 ∈ ts := by rw [getD_el c]; exact List.getElem_mem c
      have b := sm _ gm
      have nf : ¬ fit ts s = true := fun z => m3 ⟨c, fit_m.mp z _ gm⟩
      rw [if_neg (c_ge (by omega) (by omega) c), ck_n (by omega) (by omega), ck_n (by omega) (by omega), n_clamp (by omega), rp_D hT m c, if_neg nf]
      by_cases d : ts.getD m 0 = s
      · rw [if_pos (by rw [d])]
      · have e : ¬ goT (ts.getD m 0) s = true := fun z => m3 ⟨c, d, z⟩
        rw [if_neg (fun z => d ((n_inj (by omega) (by omega)).mp z)), goT9 (by omega) (by omega), if_neg e, bd_s, if_pos i00]
    · have f : fit ts s = true := fit_m.mpr fun t ht => by
        obtain ⟨j, hj, e⟩ := List.getElem_of_mem ht
        have := (m2 j (by omega)).2
        rw [getD_el hj, e] at this
        exact this
      rw [if_pos ((n_le (by omega) (by omega)).mpr (by omega)), if_pos f]; rfl
theorem ls_may : LS_may LR := by
  intro k d_x_deeds_desks q_x_deeds_desks x_imageKept x_desk_genus x_desk_size x_desk_limit x_desk_tree a_x_desk_powers x_imageDesk_genus x_imageDesk_size x_imageDesk_limit x_imageDesk_tree a_x_imageDesk_powers x_deeds_now x_deeds_last a_x_deeds_desks x_deeds_desks_genus x_deeds_desks_size x_deeds_desks_limit x_deeds_desks_tree x_numbers_round x_numbers_size x_numbers_sum x_numbers_gathered a_x_numbers_keys a_x_numbers_aboves a_x_numbers_rounds x_reader_refused x_reader_place x_reader_cannotBe x_tape_size a_x_tape_bytes x_reader_told_genus x_reader_told_size x_reader_told_limit x_reader_told_tree a_x_reader_told_powers a_x_reader_causes x_speller_size a_x_speller_bytes a_x_holders x_holders_sort x_holders_tree x_holders_limit x_holders_above x_holders_size m_genus m_marks m_leaves m_splits m_done m_undone m_metMany m_treesSeen m_taped m_place m_isWrong m_toldGenus m_toldMarks m_isTree m_toldLeaves m_leavesPlace m_toldSplits m_isWhy m_papered m_isKept a_m_powers a_m_tree a_m_ahead a_m_behind a_m_before a_m_rows a_m_met a_m_metSizes a_m_chosen a_m_tape a_m_toldPowers a_m_powerPlaces a_m_toldTree a_m_splitPlaces a_m_layers a_m_paper a_m_held a_m_numbers a_m_sizes a_m_heldLeaves a_m_items a_m_kept p0 hk hLR
  obtain ⟨us, cur, rs, bs, hV, h8, h9, hH8, hH9, hT, hTP, hWY, hHO, hIM⟩ := hLR
  have hVc : VD cur := hV cur (List.mem_append_right _ List.mem_cons_self)
  have L3 := hVc.2.2.2.1
  have L6 := hVc.2.2.2.2.1
  have hvt := hVc.2.2.2.2.2
  rcases split89 L3 L6 p0 with ⟨a, b⟩ | ⟨s, hs, hsp, rfl, a, b⟩
  · refine ⟨-1, ?_, ?_, ⟨us, cur, rs, bs, hV, h8, h9, hH8, hH9, TN_mono hT, hTP, hWY, hHO, hIM⟩⟩
    · unfold F_X8_may; rw [h8.2.2.1, a, bd_s, if_pos i00]
    · unfold F_X9_may; rw [h9.2.2.1, b, bd_s, if_pos i00]
  · refine ⟨if fit cur.2.2.2 s = true then 1 else 0, ?_, ?_, ⟨us, cur, rs, bs, hV, h8, h9, hH8, hH9, TN_mono hT, hTP, hWY, hHO, hIM⟩⟩
    · unfold F_X8_may
      rw [h8.2.2.1, a, bd_s, if_neg i10, h8.2.2.2.1, fits8 L3 L6 hvt hs, bd_s]
      by_cases f : fit cur.2.2.2 s = true
      · rw [if_pos f, if_neg i10]
      · rw [if_neg f, if_pos i00]
    · unfold F_X9_may
      rw [h9.2.2.1, b, bd_s, if_neg i10, h9.2.2.2.1, may9 (VD_tlen hVc) (vt_small L6 hvt) (D_rp h9.2.2.2.2.2) hs, bd_s]
      by_cases f : fit cur.2.2.2 s = true
      · rw [if_pos f, if_neg i10]
      · rw [if_neg f, if_pos i00]
