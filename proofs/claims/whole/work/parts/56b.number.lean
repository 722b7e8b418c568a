/-! number(), rule(). -/
theorem TN_new {k : Nat} {round : Int32} {keys aboves keys' aboves' : Nat → Int64} {rounds : Nat → Int32} (h : TN k round keys aboves rounds) (h' : TI keys' aboves') : TN (k + 5) round keys' aboves' rounds := ⟨by have := h.1; omega, h.2.1, h.2.2.1, h'⟩
def lnN (g : Nat) : Nat := if g = 0 then 1 else if g = 1 then 24 else 5760
theorem line89 : ∀ g, g < 3 → F_X3_lineOf (Int32.ofNat g) = some (Int64.ofNat (lnN g)) ∧ F_X9_line (Int32.ofNat g) = some (Int64.ofNat (lnN g)) ∧ 0 < lnN g ∧ lnN g < 8192 := by decide +kernel
theorem part89 {x : Int64} {z : Int} (hx : x.toInt = z) (h1 : -2305843009213693952 < z) (h2 : z < 2305843009213693952) {L : Nat} (hL : 0 < L) (hL2 : L < 8192) (p2 : Int32) : ∃ r, F_X8_partOf x (Int64.ofNat L) p2 = some r ∧ F_X9_part x (Int64.ofNat L) p2 = some r := by
  have z0 : (0 : Int64).toInt = 0 := rfl
  have ha : z.natAbs < 4611686018427387904 := by omega
  have hneg : (-x).toInt = -z := by rw [Int64.toInt_neg, hx, Int.bmod_eq_of_le (by omega) (by omega)]
  have hpos : 0 ≤ z → x = Int64.ofNat z.natAbs := fun h => by
    apply Int64.toInt_inj.mp
    rw [hx, Int64.toInt_ofNat_of_lt (by omega)]; omega
  have hng : z ≤ 0 → -x = Int64.ofNat z.natAbs := fun h => by
    apply Int64.toInt_inj.mp
    rw [hneg, Int64.toInt_ofNat_of_lt (by omega)]; omega
  have hg : 0 < Nat.gcd z.natAbs L := Nat.gcd_pos_of_pos_right _ hL
  have hgL : Nat.gcd z.natAbs L ≤ L := Nat.gcd_le_right _ hL
  have e8 : F_X8_greatestDivisor (if 0 < x then x else -x) (Int64.ofNat L) = some (Int64.ofNat (Nat.gcd z.natAbs L)) := by
    have ex : (if 0 < x then x else -x) = Int64.ofNat z.natAbs := by
      by_cases c : 0 < x
      · rw [if_pos c]
        rw [Int64.lt_iff_toInt_lt, hx, z0] at c
        exact hpos (by omega)
      · rw [if_neg c]
        rw [Int64.lt_iff_toInt_lt, hx, z0] at c
        exact hng (by omega)
    rw [ex]
    unfold F_X8_greatestDivisor
    exact gcd8 13 z.natAbs L 0 FU ha hL2 (by omega) (by omega) (by unfold FU; omega)
  have e9 : F_X9_common x (Int64.ofNat L) = some (Int64.ofNat (Nat.gcd z.natAbs L)) := by
    have j12 : J_X9_common_12 (Int64.ofNat L) (Int64.ofNat z.natAbs) = some (Int64.ofNat (Nat.gcd z.natAbs L)) := by
      unfold J_X9_common_12
      have c : 0 ≤ lg_cmp (Int64.ofNat L) (0 : Int64) := by
        rw [lg_cmp_ge, Int64.le_iff_toInt_le, Int64.toInt_ofNat_of_lt (by omega), z0]; omega
      rw [if_pos c]
      exact gcd9 13 z.natAbs L FU ha hL2 (by omega) (by unfold FU; omega)
    unfold F_X9_common
    by_cases c : 0 ≤ lg_cmp x (0 : Int64)
    · rw [if_pos c]
      rw [lg_cmp_ge, Int64.le_iff_toInt_le, hx, z0] at c
      rw [hpos c]; exact j12
    · rw [if_neg c]
      rw [lg_cmp_ge, Int64.le_iff_toInt_le, hx, z0] at c
      rw [hng (by omega)]; exact j12
  have c8 : 0 < lg_cmp (Int64.ofNat (Nat.gcd z.natAbs L)) (0 : Int64) := by
    have h1 : (0 < lg_cmp (Int64.ofNat (Nat.gcd z.natAbs L)) (0 : Int64)) ↔ ¬ Int64.ofNat (Nat.gcd z.natAbs L) ≤ 0 := by rw [← lg_cmp_le, Int32.not_le]
    rw [h1, Int64.le_iff_toInt_le, Int64.toInt_ofNat_of_lt (by omega), z0]; omega
  unfold F_X8_partOf F_X9_part
  rw [e8, bd_s, e9, bd_s, if_pos c8, dvl_n hg (by omega), dvl_n hg (by omega)]
  by_cases c : p2 = 0
  · rw [if_pos c]; exact ⟨_, rfl, rfl⟩
  · rw [if_neg c]; exact ⟨_, rfl, rfl⟩
theorem isPart89 (p : Int32) : (F_X8_isPart p = some 0 ∧ F_X9_in p.toInt64 (0 : Int64) (1 : Int64) = some 0) ∨ ((p = 0 ∨ p = 1) ∧ F_X8_isPart p = some 1 ∧ F_X9_in p.toInt64 (0 : Int64) (1 : Int64) = some 1) := by
  have e1 : (1 : Int64).toInt = 1 := rfl
  unfold F_X8_isPart
  rcases n_cases p with hp | ⟨n, hn, rfl⟩
  · have n0 : ¬ p = 0 := fun z => by rw [z] at hp; exact absurd hp (by decide)
    have n1 : ¬ p = 1 := fun z => by rw [z] at hp; exact absurd hp (by decide)
    exact Or.inl ⟨by rw [if_neg n0, if_neg n1], in9neg hp⟩
  · have c0 : (Int32.ofNat n = (0 : Int32)) ↔ n = 0 := n_inj (b := 0) hn (by omega)
    have c1 : (Int32.ofNat n = (1 : Int32)) ↔ n = 1 := n_inj (b := 1) hn (by omega)
    rw [in9n hn, e1]
    by_cases d0 : n = 0
    · exact Or.inr ⟨Or.inl (c0.mpr d0), by rw [if_pos (c0.mpr d0)], by rw [if_pos (by omega)]⟩
    · by_cases d1 : n = 1
      · exact Or.inr ⟨Or.inr (c1.mpr d1), by rw [if_neg (fun z => d0 (c0.mp z)), if_pos (c1.mpr d1)], by rw [if_pos (by omega)]⟩
      · exact Or.inl ⟨by rw [if_neg (fun z => d0 (c0.mp z)), if_neg (fun z => d1 (c1.mp z))], by rw [if_neg (by omega)]⟩
theorem cp_up (f g : Nat → Int32) (j : Nat) : upd (fun k => if k < j then f k else g k) j (f j) = fun k => if k < j + 1 then f k else g k := by
  funext k
  rw [upd_e]
  by_cases c : k = j
  · subst c; rw [if_pos rfl, if_pos (by omega)]
  · rw [if_neg c]
    by_cases d : k < j
    · rw [if_pos d, if_pos (by omega)]
    · rw [if_neg d, if_neg (by omega)]
theorem cp_0 (f g : Nat → Int32) : (fun k => if k < 0 then f k else g k) = g := by funext k; simp
theorem cp_rp {f g : Nat → Int32} {l : List Nat} (h : ∀ k, k < l.length → f k = Int32.ofNat (l.getD k 0)) : rp (fun k => if k < l.length then f k else g k) l := D_rp fun k hk => by
  show (if k < l.length then f k else g k) = _
  rw [if_pos hk, h k hk]
theorem ofMarks9 {g n L s : Int32} {mp mt : Nat → Int32} {a : AD} (h : D9 g n L s mp mt a) (hv : VD a) (rows : Nat → Int32) : ∃ rows', F_X9_numberOfMarks g n rows mp = some (Int64.ofNat (VW a.1 a.2.1), rows') := by
  obtain ⟨rfl, rfl, rfl, rfl, hp, ht⟩ := h
  have n8 := hv.2.1
  have hs := sum_le12 hv.2.2.1
  obtain ⟨rows', e⟩ := numOf9 (cp_rp (g := rows) hp) (show a.1 < 3 by have := hv.1; omega) (by omega) (by omega)
  refine ⟨rows', ?_⟩
  unfold F_X9_numberOfMarks
  have e0 := cp_0 mp rows
  conv => lhs; rw [← e0]
  refine wq2_it a.2.1.length (fun j k => if k < j then mp k else rows k) (fun j => Int32.ofNat j) (fun j hj ag => ?_) (fun ag => ?_) FU (by unfold FU; omega)
  · have ej : Int32.ofNat j + (1 : Int32) = Int32.ofNat (j + 1) := n_add j 1
    unfold B_X9_numberOfMarks_2
    rw [if_neg (c_ge (by omega) (by omega) hj), ck_n (by omega) (by omega), ck_n (by omega) (by omega), n_clamp (by omega), cp_up, ej]
  · unfold B_X9_numberOfMarks_2 K_X9_numberOfMarks_2_28
    rw [if_pos ((n_le (by omega) (by omega)).mpr (Nat.le_refl _)), e, bd_s]
theorem o_none : oL none := fun a h => absurd h (by simp)
theorem VW_int (g : Nat) (l : List Nat) : (Int64.ofNat (VW g l)).toInt = (VW g l : Int) := by
  have := VW_lt g l
  exact Int64.toInt_ofNat_of_lt (by omega)
theorem numM8 {g s lim : Int32} {tr : Int64} {pw : Nat → Int32} {a : AD} (h : D8 g s lim tr pw a) (hv : VD a) {keys aboves : Nat → Int64} (hT : TI keys aboves) :
    ∃ keys' aboves' sz sm ga, F_X8_aboveWith g s pw keys aboves (-1 : Int32) (-1 : Int32) (-1 : Int32) = some (Int64.ofNat (VW a.1 a.2.1), keys', aboves', sz, sm, ga) ∧ TI keys' aboves' := by
  obtain ⟨keys', aboves', sz, sm, ga, e, t⟩ := aboveW8 h hv o_none o_none o_none hT
  refine ⟨keys', aboves', sz, sm, ga, ?_, t⟩
  have el : a.2.1 ++ lO none ++ lO none ++ lO none = a.2.1 := by simp [lO]
  rw [el] at e; exact e
theorem number89 {g s lim : Int32} {tr : Int64} {pw : Nat → Int32} {g9 n9 L9 s9 : Int32} {mp mt : Nat → Int32} {a : AD} (h8 : D8 g s lim tr pw a) (h9 : D9 g9 n9 L9 s9 mp mt a) (hv : VD a) {keys aboves : Nat → Int64} (hT : TI keys aboves) (sz0 sm0 : Int32) (ga0 : Int64) (rows : Nat → Int32) (p : Int32) :
    ∃ r keys' aboves' sz sm ga rows', F_X8_number sz0 sm0 ga0 g s pw keys aboves p = some (r, keys', aboves', sz, sm, ga) ∧ F_X9_number g9 n9 rows mp p = some (r, rows') ∧ TI keys' aboves' := by
  rcases isPart89 p with ⟨a1, a2⟩ | ⟨a0, a1, a2⟩
  · refine ⟨-9223372036854775808, keys, aboves, sz0, sm0, ga0, rows, ?_, ?_, hT⟩
    · unfold F_X8_number; rw [a1, bd_s, if_pos i00]
    · unfold F_X9_number; rw [a2, bd_s, if_pos i00]
  · obtain ⟨keys', aboves', sz, sm, ga, e8, t⟩ := numM8 h8 hv hT
    obtain ⟨rows', e9⟩ := ofMarks9 h9 hv rows
    obtain ⟨l8, l9, l1, l2⟩ := line89 a.1 (by have := hv.1; omega)
    have hlt := VW_lt a.1 a.2.1
    obtain ⟨r, r8, r9⟩ := part89 (VW_int a.1 a.2.1) (by omega) (by omega) l1 l2 p
    refine ⟨r, keys', aboves', sz, sm, ga, rows', ?_, ?_, t⟩
    · unfold F_X8_number
      rw [a1, bd_s, if_neg i10, e8, bd_s, h8.1, l8, bd_s]
      dsimp only
      rw [r8, bd_s]
    · unfold F_X9_number
      rw [a2, bd_s, if_neg i10, e9, bd_s, h9.1, l9, bd_s]
      dsimp only
      rw [r9, bd_s]
theorem ls_number : LS_number LR := by
  intro k d_x_deeds_desks q_x_deeds_desks x_imageKept x_desk_genus x_desk_size x_desk_limit x_desk_tree a_x_desk_powers x_imageDesk_genus x_imageDesk_size x_imageDesk_limit x_imageDesk_tree a_x_imageDesk_powers x_deeds_now x_deeds_last a_x_deeds_desks x_deeds_desks_genus x_deeds_desks_size x_deeds_desks_limit x_deeds_desks_tree x_numbers_round x_numbers_size x_numbers_sum x_numbers_gathered a_x_numbers_keys a_x_numbers_aboves a_x_numbers_rounds x_reader_refused x_reader_place x_reader_cannotBe x_tape_size a_x_tape_bytes x_reader_told_genus x_reader_told_size x_reader_told_limit x_reader_told_tree a_x_reader_told_powers a_x_reader_causes x_speller_size a_x_speller_bytes a_x_holders x_holders_sort x_holders_tree x_holders_limit x_holders_above x_holders_size m_genus m_marks m_leaves m_splits m_done m_undone m_metMany m_treesSeen m_taped m_place m_isWrong m_toldGenus m_toldMarks m_isTree m_toldLeaves m_leavesPlace m_toldSplits m_isWhy m_papered m_isKept a_m_powers a_m_tree a_m_ahead a_m_behind a_m_before a_m_rows a_m_met a_m_metSizes a_m_chosen a_m_tape a_m_toldPowers a_m_powerPlaces a_m_toldTree a_m_splitPlaces a_m_layers a_m_paper a_m_held a_m_numbers a_m_sizes a_m_heldLeaves a_m_items a_m_kept p0 hk hLR
  obtain ⟨us, cur, rs, bs, hV, h8, h9, hH8, hH9, hT, hTP, hWY, hHO, hIM⟩ := hLR
  have hVc : VD cur := hV cur (List.mem_append_right _ List.mem_cons_self)
  obtain ⟨r, keys', aboves', sz, sm, ga, rows', e8, e9, t⟩ := number89 h8 h9 hVc hT.2.2.2 x_numbers_size x_numbers_sum x_numbers_gathered a_m_rows p0
  exact ⟨r, keys', aboves', sz, sm, ga, rows', e8, e9, us, cur, rs, bs, hV, h8, h9, hH8, hH9, TN_new hT t, hTP, hWY, hHO, hIM⟩
theorem ruleK {key : Nat} (h : lgt key) : rlK key = 1 ∨ rlK key = 2 ∨ rlK key = 3 := by
  unfold rlK
  by_cases c : bK key = 0
  · by_cases d : dg key 0 = 0
    · rw [if_pos c, if_pos d]; exact Or.inr (Or.inr rfl)
    · rw [if_pos c, if_neg d]; exact Or.inr (Or.inl rfl)
  · rw [if_neg c]; exact Or.inl rfl
theorem bK_lt (key : Nat) : bK key < 1000 := by
  unfold bK
  repeat' split
  all_goals omega
theorem rule9 {g n L s : Int32} {mp mt : Nat → Int32} {a : AD} (h : D9 g n L s mp mt a) (hv : VD a) (rows : Nat → Int32) : ∃ rows', F_X9_ruleOf g n rows mp = some (Int32.ofNat (if kzL a.1 a.2.1 = 0 then 0 else rlK (kzL a.1 a.2.1)), rows') := by
  obtain ⟨rfl, rfl, rfl, rfl, hp, ht⟩ := h
  have n8 := hv.2.1
  have hs := sum_le12 hv.2.2.1
  have hr := cp_rp (g := rows) hp
  refine ⟨fun k => if k < a.2.1.length then mp k else rows k, ?_⟩
  unfold F_X9_ruleOf
  have e0 := cp_0 mp rows
  conv => lhs; rw [← e0]
  refine wq2_it a.2.1.length (fun j k => if k < j then mp k else rows k) (fun j => Int32.ofNat j) (fun j hj ag => ?_) (fun ag => ?_) FU (by unfold FU; omega)
  · have ej : Int32.ofNat j + (1 : Int32) = Int32.ofNat (j + 1) := n_add j 1
    unfold B_X9_ruleOf_2
    rw [if_neg (c_ge (by omega) (by omega) hj), ck_n (by omega) (by omega), ck_n (by omega) (by omega), n_clamp (by omega), cp_up, ej]
  · unfold B_X9_ruleOf_2 K_X9_ruleOf_2_28
    have eN : F_X9_isNothing 480 (fun k => if k < a.2.1.length then mp k else rows k) (Int32.ofNat a.1) (0 : Int32) (Int32.ofNat a.2.1.length) = some (if kzL a.1 a.2.1 = 0 then 1 else 0) := nothing9 (N := 480) (o := 0) (by omega) (rA_rp hr) (by have := hv.1; omega) (by omega) (by omega) (by omega)
    rw [if_pos ((n_le (by omega) (by omega)).mpr (Nat.le_refl _)), eN, bd_s]
    by_cases c : vR a.1 a.2.1
    · have k0 : ¬ kzL a.1 a.2.1 = 0 := by rw [kzL_Y c]; exact lgt_n0 (vR_l c).1
      have eB : F_X9_base 480 (fun k => if k < a.2.1.length then mp k else rows k) (Int32.ofNat a.1) (0 : Int32) (Int32.ofNat a.2.1.length) = some (if bK (gK a.1 a.2.1) = 0 then (-1 : Int64) else Int64.ofNat (bK (gK a.1 a.2.1))) := base9 (N := 480) (o := 0) (by omega) (rA_rp hr) c (by omega)
      have eO : F_X9_often 480 (fun k => if k < a.2.1.length then mp k else rows k) (0 : Int32) (Int32.ofNat a.2.1.length) (0 : Int32) = some (Int32.ofNat (a.2.1.count 0)) := often9 (N := 480) (o := 0) (p := 0) (by omega) (rA_rp hr) (vR_lt c) (by omega) (by omega) (by omega)
      have hcl : a.2.1.count 0 ≤ a.2.1.length := List.count_le_length
      have hc0 := (rep_f c).1 0 (by omega)
      rw [if_neg k0, if_pos i00, eB, bd_s, if_neg k0, kzL_Y c]
      by_cases d : bK (gK a.1 a.2.1) = 0
      · have hm1 : lg_cmp (-1 : Int64) (0 : Int64) < 0 := by decide
        rw [if_pos d, if_pos hm1, eO, bd_s]
        unfold rlK
        rw [if_pos d, hc0]
        by_cases e : a.2.1.count 0 = 0
        · rw [if_pos ((le0_iff (by omega)).mpr e), if_pos e]; rfl
        · rw [if_neg (fun z => e ((le0_iff (by omega)).mp z)), if_neg e]; rfl
      · have := bK_lt (gK a.1 a.2.1)
        rw [if_neg d, if_neg (lg_neg (by omega))]
        unfold rlK
        rw [if_neg d]; rfl
    · rw [if_pos (kzL_N c), if_neg i10, if_pos (kzL_N c)]; rfl
theorem ls_rule : LS_rule LR := by
  intro k d_x_deeds_desks q_x_deeds_desks x_imageKept x_desk_genus x_desk_size x_desk_limit x_desk_tree a_x_desk_powers x_imageDesk_genus x_imageDesk_size x_imageDesk_limit x_imageDesk_tree a_x_imageDesk_powers x_deeds_now x_deeds_last a_x_deeds_desks x_deeds_desks_genus x_deeds_desks_size x_deeds_desks_limit x_deeds_desks_tree x_numbers_round x_numbers_size x_numbers_sum x_numbers_gathered a_x_numbers_keys a_x_numbers_aboves a_x_numbers_rounds x_reader_refused x_reader_place x_reader_cannotBe x_tape_size a_x_tape_bytes x_reader_told_genus x_reader_told_size x_reader_told_limit x_reader_told_tree a_x_reader_told_powers a_x_reader_causes x_speller_size a_x_speller_bytes a_x_holders x_holders_sort x_holders_tree x_holders_limit x_holders_above x_holders_size m_genus m_marks m_leaves m_splits m_done m_undone m_metMany m_treesSeen m_taped m_place m_isWrong m_toldGenus m_toldMarks m_isTree m_toldLeaves m_leavesPlace m_toldSplits m_isWhy m_papered m_isKept a_m_powers a_m_tree a_m_ahead a_m_behind a_m_before a_m_rows a_m_met a_m_metSizes a_m_chosen a_m_tape a_m_toldPowers a_m_powerPlaces a_m_toldTree a_m_splitPlaces a_m_layers a_m_paper a_m_held a_m_numbers a_m_sizes a_m_heldLeaves a_m_items a_m_kept hk hLR
  obtain ⟨us, cur, rs, bs, hV, h8, h9, hH8, hH9, hT, hTP, hWY, hHO, hIM⟩ := hLR
  have hVc : VD cur := hV cur (List.mem_append_right _ List.mem_cons_self)
  obtain ⟨sz, sm, ga, e8⟩ := keyW8 h8 hVc o_none o_none o_none
  obtain ⟨rows', e9⟩ := rule9 h9 hVc a_m_rows
  have el : cur.2.1 ++ lO none ++ lO none ++ lO none = cur.2.1 := by simp [lO]
  rw [el] at e8
  have e8' : F_X8_keyWith x_desk_genus x_desk_size a_x_desk_powers (-1 : Int32) (-1 : Int32) (-1 : Int32) = _ := e8
  refine ⟨Int32.ofNat (if kzL cur.1 cur.2.1 = 0 then 0 else rlK (kzL cur.1 cur.2.1)), sz, sm, ga, rows', ?_, ?_, ⟨us, cur, rs, bs, hV, h8, h9, hH8, hH9, TN_mono hT, hTP, hWY, hHO, hIM⟩⟩
  · unfold F_X8_rule
    rw [e8', bd_s]
    dsimp only
    by_cases c : vR cur.1 cur.2.1
    · have k0 : ¬ kzL cur.1 cur.2.1 = 0 := by rw [kzL_Y c]; exact lgt_n0 (vR_l c).1
      have hk : lgt (kzL cur.1 cur.2.1) := by rw [kzL_Y c]; exact (vR_l c).1
      rw [(KF_l hk).2.2.2.2.1, bd_s, if_neg k0]
    · have k0 := kzL_N c
      rw [if_pos k0, k0]
      have : F_X3_ruleOf (Int64.ofNat 0) = some 0 := by decide
      rw [this, bd_s]; rfl
  · unfold F_X9_rule
    rw [e9, bd_s]
