/-! order(). -/
theorem modn8 : ∀ n, n < 9 → ∀ v, v < n → (Int32.ofNat v + (1 : Int32)) - (Int32.ofNat v + (1 : Int32)) / Int32.ofNat n * Int32.ofNat n = Int32.ofNat ((v + 1) % n) := by decide
theorem dvi_n {β : Type} {n : Nat} {k : Option β} (h : 0 < n) (h2 : n < 2147483648) : dvi (Int32.ofNat n) k = k := by
  unfold dvi; rw [if_neg (ofNat_ne0 h h2)]
theorem lay9o {n : Nat} (hn : n ≤ 8) (p0 : Int32) (bf pw : Nat → Int32) (ix : Nat → Nat) {R : Type}
    (hix : ∀ j, j < n → ix j < n ∧ (p0 = (2 : Int32) → ix j = n - 1 - j) ∧ (¬ p0 = (2 : Int32) → ix j = (j + 1) % n)) (kk : (Nat → Int32) → Option (Int32 × (Nat → Int32) × (Nat → Int32) × (Nat → Int32) × (Nat → Int32) × Int32 × Int32)) :
    wq2 (B_X9_order_48 (Int32.ofNat n) p0 bf kk) FU pw (0 : Int32) = kk (fun k => if k < n then bf (4 + ix k) else pw k) := by
  have e0 : (fun k => if k < 0 then bf (4 + ix k) else pw k) = pw := by funext k; simp
  conv => lhs; rw [← e0]
  have e4 : ∀ j, (4 : Int32) + Int32.ofNat j = Int32.ofNat (4 + j) := fun j => n_add 4 j
  have hup : ∀ j, upd (fun k => if k < j then bf (4 + ix k) else pw k) j (bf (4 + ix j)) = fun k => if k < j + 1 then bf (4 + ix k) else pw k := fun j => by
    funext k
    rw [upd_e]
    by_cases c : k = j
    · subst c; rw [if_pos rfl, if_pos (by omega)]
    · rw [if_neg c]
      by_cases d : k < j
      · rw [if_pos d, if_pos (by omega)]
      · rw [if_neg d, if_neg (by omega)]
  refine wq2_it n (fun j k => if k < j then bf (4 + ix k) else pw k) (fun j => Int32.ofNat j) (fun j hj ag => ?_) (fun ag => ?_) FU (by unfold FU; omega)
  · obtain ⟨h1, h2, h3⟩ := hix j hj
    unfold B_X9_order_48
    rw [if_neg (c_ge (by omega) (by omega) hj)]
    have e1 : Int32.ofNat n - (1 : Int32) = Int32.ofNat (n - 1) := n_sub (b := 1) (by omega)
    by_cases c : p0 = (2 : Int32)
    · rw [if_pos c, e1, n_sub (by omega), e4, ck_n (by omega) (by omega), ck_n (by omega) (by omega), n_clamp (by omega), n_clamp (by omega), ← h2 c, hup, show (1 : Int32) = Int32.ofNat 1 from rfl, n_add]
    · rw [if_neg c, dvi_n (by omega) (by omega), modn8 n (by omega) j hj, e4, ← h3 c, ck_n (by omega) (by omega), ck_n (by omega) (by omega), n_clamp (by omega), n_clamp (by omega), hup, show (1 : Int32) = Int32.ofNat 1 from rfl, n_add]
  · unfold B_X9_order_48
    rw [if_pos ((n_le (by omega) (by omega)).mpr (Nat.le_refl _))]
theorem cnt9o {n : Nat} (hn : n ≤ 8) (bf p : Nat → Int32) (kk : Int32 → Option (Int32 × (Nat → Int32) × (Nat → Int32) × (Nat → Int32) × (Nat → Int32) × Int32 × Int32)) :
    wq2 (B_X9_order_103 (Int32.ofNat n) bf p kk) FU (0 : Int32) (0 : Int32) = kk (Int32.ofNat (ucnt p (fun k => bf (4 + k)) n)) := by
  have e4 : ∀ j, (4 : Int32) + Int32.ofNat j = Int32.ofNat (4 + j) := fun j => n_add 4 j
  refine wq2_it n (fun j => Int32.ofNat (ucnt p (fun k => bf (4 + k)) j)) (fun j => Int32.ofNat j) (fun j hj ag => ?_) (fun ag => ?_) FU (by unfold FU; omega)
  · unfold B_X9_order_103
    rw [if_neg (c_ge (by omega) (by omega) hj), e4, ck_n (by omega) (by omega), ck_n (by omega) (by omega), n_clamp (by omega), n_clamp (by omega), ucnt_s]
    by_cases c : p j = bf (4 + j)
    · rw [if_pos c, if_pos c, show (1 : Int32) = Int32.ofNat 1 from rfl, show (0 : Int32) = Int32.ofNat 0 from rfl, n_add, n_add]
    · rw [if_neg c, if_neg c, show (1 : Int32) = Int32.ofNat 1 from rfl, n_add, n_add]
  · unfold B_X9_order_103
    rw [if_pos ((n_le (by omega) (by omega)).mpr (Nat.le_refl _))]
theorem ls_order : LS_order LR := by
  intro k d_x_deeds_desks q_x_deeds_desks x_imageKept x_desk_genus x_desk_size x_desk_limit x_desk_tree a_x_desk_powers x_imageDesk_genus x_imageDesk_size x_imageDesk_limit x_imageDesk_tree a_x_imageDesk_powers x_deeds_now x_deeds_last a_x_deeds_desks x_deeds_desks_genus x_deeds_desks_size x_deeds_desks_limit x_deeds_desks_tree x_numbers_round x_numbers_size x_numbers_sum x_numbers_gathered a_x_numbers_keys a_x_numbers_aboves a_x_numbers_rounds x_reader_refused x_reader_place x_reader_cannotBe x_tape_size a_x_tape_bytes x_reader_told_genus x_reader_told_size x_reader_told_limit x_reader_told_tree a_x_reader_told_powers a_x_reader_causes x_speller_size a_x_speller_bytes a_x_holders x_holders_sort x_holders_tree x_holders_limit x_holders_above x_holders_size m_genus m_marks m_leaves m_splits m_done m_undone m_metMany m_treesSeen m_taped m_place m_isWrong m_toldGenus m_toldMarks m_isTree m_toldLeaves m_leavesPlace m_toldSplits m_isWhy m_papered m_isKept a_m_powers a_m_tree a_m_ahead a_m_behind a_m_before a_m_rows a_m_met a_m_metSizes a_m_chosen a_m_tape a_m_toldPowers a_m_powerPlaces a_m_toldTree a_m_splitPlaces a_m_layers a_m_paper a_m_held a_m_numbers a_m_sizes a_m_heldLeaves a_m_items a_m_kept p0 hk hLR
  obtain ⟨us, cur, rs, bs, hV, h8, h9, hH8, hH9, hT, hTP, hWY, hHO, hIM⟩ := hLR
  have hVc : VD cur := hV cur (List.mem_append_right _ List.mem_cons_self)
  obtain ⟨q1, q2, q3, q4, q5⟩ := id h8
  obtain ⟨w1, w2, w3, w4, w5, w6⟩ := id h9
  have n8 := hVc.2.1
  have e3 : (3 : Int64).toInt = 3 := rfl
  rcases n_cases p0 with hp | ⟨how, hw, rfl⟩
  · refine ⟨-1, a_x_desk_powers, x_deeds_now, x_deeds_last, a_x_deeds_desks, d_x_deeds_desks, x_deeds_desks_genus, x_deeds_desks_limit, q_x_deeds_desks, x_deeds_desks_size, x_deeds_desks_tree, a_m_before, a_m_powers, a_m_behind, a_m_ahead, m_undone, m_done, ?_, ?_, ⟨us, cur, rs, bs, hV, h8, h9, hH8, hH9, TN_mono hT, hTP, hWY, hHO, hIM⟩⟩
    · unfold F_X8_order; rw [if_pos hp]
    · unfold F_X9_order; rw [in9neg hp, bd_s, if_pos i00]
  by_cases c3 : how ≤ 3
  · have c1 : Int32.ofNat how ≤ (3 : Int32) := (n_le (b := 3) hw (by omega)).mpr c3
    have c2 : (how : Int) ≤ 3 := by omega
    obtain ⟨bf, eb, hb⟩ := begins9 h9 hVc a_m_before
    have hbf : ∀ k, k < cur.2.1.length → bf (4 + k) = Int32.ofNat (cur.2.1.getD k 0) := fun k hk => by
      have := hb.2.2.2.2.1 k (by omega)
      rw [Nat.zero_add] at this; exact this
    have r8 : rp a_x_desk_powers cur.2.1 := D_rp q5
    have r9 : rp a_m_powers cur.2.1 := D_rp w5
    have rb : rp (fun k => bf (4 + k)) cur.2.1 := D_rp hbf
    have hB : ∀ z ∈ cur.2.1, z < 1000 := fun z hz => by have := hVc.2.2.1 z hz; omega
    have fin : ∀ (l' : List Nat) (p8 p9 : Nat → Int32), rp p8 l' → rp p9 l' → l'.length = cur.2.1.length → (∀ d ∈ l', d ≤ 12) →
        (F_X8_order d_x_deeds_desks q_x_deeds_desks a_x_deeds_desks x_deeds_desks_genus x_deeds_desks_size x_deeds_desks_limit x_deeds_desks_tree x_desk_genus x_desk_size x_desk_limit x_desk_tree a_x_desk_powers x_deeds_now x_deeds_last (Int32.ofNat how) = J_X8_order_56 d_x_deeds_desks q_x_deeds_desks a_x_deeds_desks x_deeds_desks_genus x_deeds_desks_size x_deeds_desks_limit x_deeds_desks_tree x_desk_genus x_desk_size x_desk_limit x_desk_tree x_deeds_now x_deeds_last p8) →
        (F_X9_order m_genus m_marks m_leaves m_splits m_done m_undone a_m_before a_m_powers a_m_tree a_m_behind a_m_ahead (Int32.ofNat how) = wq2 (B_X9_order_103 m_marks bf p9 (K_X9_order_103_142 m_genus m_marks m_leaves m_splits m_done m_undone a_m_tree a_m_behind a_m_ahead bf p9)) FU (0 : Int32) (0 : Int32)) →
        ∃ (r : Int32) (n_a_x_desk_powers : Nat → Int32) (n_x_deeds_now n_x_deeds_last : Int32) (n_a_x_deeds_desks : Nat → Nat → Int32) (n_d_x_deeds_desks : Nat → Nat) (n_x_deeds_desks_genus n_x_deeds_desks_limit : Nat → Int32) (n_q_x_deeds_desks : Nat → Nat) (n_x_deeds_desks_size : Nat → Int32) (n_x_deeds_desks_tree : Nat → Int64) (n_a_m_before n_a_m_powers n_a_m_behind n_a_m_ahead : Nat → Int32) (n_m_undone n_m_done : Int32), F_X8_order d_x_deeds_desks q_x_deeds_desks a_x_deeds_desks x_deeds_desks_genus x_deeds_desks_size x_deeds_desks_limit x_deeds_desks_tree x_desk_genus x_desk_size x_desk_limit x_desk_tree a_x_desk_powers x_deeds_now x_deeds_last (Int32.ofNat how) = some (r, n_a_x_desk_powers, n_x_deeds_now, n_x_deeds_last, n_a_x_deeds_desks, n_d_x_deeds_desks, n_x_deeds_desks_genus, n_x_deeds_desks_limit, n_q_x_deeds_desks, n_x_deeds_desks_size, n_x_deeds_desks_tree) ∧
          F_X9_order m_genus m_marks m_leaves m_splits m_done m_undone a_m_before a_m_powers a_m_tree a_m_behind a_m_ahead (Int32.ofNat how) = some (r, n_a_m_before, n_a_m_powers, n_a_m_behind, n_a_m_ahead, n_m_undone, n_m_done) ∧ ∃ new : AD, (∃ us' rs', (∀ a ∈ us' ++ new :: rs', VD a) ∧ H8 n_x_deeds_now n_x_deeds_last n_a_x_deeds_desks n_x_deeds_desks_genus n_x_deeds_desks_size n_x_deeds_desks_limit n_x_deeds_desks_tree us' new rs' ∧ H9 n_m_done n_m_undone n_a_m_ahead n_a_m_behind us' rs') ∧ D8 x_desk_genus x_desk_size x_desk_limit x_desk_tree n_a_x_desk_powers new ∧ D9 m_genus m_marks m_leaves m_splits n_a_m_powers a_m_tree new := by
      intro l' p8 p9 g8 g9 hl hd f8 f9
      have hvn : VD (cur.1, l', cur.2.2) := ⟨hVc.1, by rw [hl]; exact n8, hd, hVc.2.2.2⟩
      have d8 : D8 x_desk_genus x_desk_size x_desk_limit x_desk_tree p8 (cur.1, l', cur.2.2) := ⟨q1, by rw [hl]; exact q2, q3, q4, rp_D g8⟩
      have d9 : D9 m_genus m_marks m_leaves m_splits p9 a_m_tree (cur.1, l', cur.2.2) := ⟨w1, by rw [hl]; exact w2, w3, w4, rp_D g9, w6⟩
      obtain ⟨now', last', fp', d', fg', fl', q', fs', ft', es, hs⟩ := settle8 d_x_deeds_desks q_x_deeds_desks hH8 d8 hV hvn
      obtain ⟨be', ah', un', do', ee, he⟩ := ends9 d9 hvn hVc hb hH9 hH8.2.2.1
      obtain ⟨z1, z2, z3, z4⟩ := id hH8
      have hcur := z4 us.length cur (by simp)
      refine ⟨Int32.ofNat (ucnt p8 (a_x_deeds_desks us.length) cur.2.1.length), p8, now', last', fp', d', fg', fl', q', fs', ft', bf, p9, be', ah', un', do', ?_, ?_, _, ⟨_, _, stl_V hV hvn, hs, he⟩, d8, d9⟩
      · rw [f8]
        unfold J_X8_order_56 J_X8_order_71
        rw [z1, present8 (by omega), bd_s, q2, hcur.2.1, unlike8 n8, bd_s, ← q2, ← z1, es, bd_s]
      · rw [f9, w2, cnt9o n8]
        unfold K_X9_order_103_142
        rw [← w2, ee, bd_s]
        have : ucnt p9 (fun k => bf (4 + k)) cur.2.1.length = ucnt p8 (a_x_deeds_desks us.length) cur.2.1.length := ucnt_congr (fun k hk => by rw [rp_D g9 k (by omega), rp_D g8 k (by omega)]) (fun k hk => by rw [hbf k hk, hcur.2.2.2.2 k hk])
        rw [this]
    have main : ∃ (l' : List Nat) (p8 p9 : Nat → Int32), rp p8 l' ∧ rp p9 l' ∧ l'.length = cur.2.1.length ∧ (∀ d ∈ l', d ≤ 12) ∧
        (F_X8_order d_x_deeds_desks q_x_deeds_desks a_x_deeds_desks x_deeds_desks_genus x_deeds_desks_size x_deeds_desks_limit x_deeds_desks_tree x_desk_genus x_desk_size x_desk_limit x_desk_tree a_x_desk_powers x_deeds_now x_deeds_last (Int32.ofNat how) = J_X8_order_56 d_x_deeds_desks q_x_deeds_desks a_x_deeds_desks x_deeds_desks_genus x_deeds_desks_size x_deeds_desks_limit x_deeds_desks_tree x_desk_genus x_desk_size x_desk_limit x_desk_tree x_deeds_now x_deeds_last p8) ∧
        (F_X9_order m_genus m_marks m_leaves m_splits m_done m_undone a_m_before a_m_powers a_m_tree a_m_behind a_m_ahead (Int32.ofNat how) = wq2 (B_X9_order_103 m_marks bf p9 (K_X9_order_103_142 m_genus m_marks m_leaves m_splits m_done m_undone a_m_tree a_m_behind a_m_ahead bf p9)) FU (0 : Int32) (0 : Int32)) := by
      have A9 : ∀ X, (if (2 : Int32) ≤ Int32.ofNat how then (wq2 (B_X9_order_48 m_marks (Int32.ofNat how) bf (K_X9_order_48_99 m_genus m_marks m_leaves m_splits m_done m_undone a_m_tree a_m_behind a_m_ahead bf)) FU a_m_powers (0 : Int32)) else (if Int32.ofNat how = 0 then (J_X9_order_40 m_genus m_marks m_leaves m_splits m_done m_undone a_m_powers a_m_tree a_m_behind a_m_ahead bf m_marks (1 : Int32)) else (J_X9_order_40 m_genus m_marks m_leaves m_splits m_done m_undone a_m_powers a_m_tree a_m_behind a_m_ahead bf m_marks (-1 : Int32)))) = X → F_X9_order m_genus m_marks m_leaves m_splits m_done m_undone a_m_before a_m_powers a_m_tree a_m_behind a_m_ahead (Int32.ofNat how) = X := fun X hX => by
        unfold F_X9_order
        rw [in9n hw, bd_s, e3, if_pos c2, if_neg i10, eb, bd_s]; exact hX
      have A8 : ∀ X, (if Int32.ofNat how = 0 then (J_X8_order_20 d_x_deeds_desks q_x_deeds_desks a_x_deeds_desks x_deeds_desks_genus x_deeds_desks_size x_deeds_desks_limit x_deeds_desks_tree x_desk_genus x_desk_size x_desk_limit x_desk_tree a_x_desk_powers x_deeds_now x_deeds_last (Int32.ofNat how)) else (if Int32.ofNat how = (1 : Int32) then (J_X8_order_20 d_x_deeds_desks q_x_deeds_desks a_x_deeds_desks x_deeds_desks_genus x_deeds_desks_size x_deeds_desks_limit x_deeds_desks_tree x_desk_genus x_desk_size x_desk_limit x_desk_tree a_x_desk_powers x_deeds_now x_deeds_last (Int32.ofNat how)) else (J_X8_order_27 d_x_deeds_desks q_x_deeds_desks a_x_deeds_desks x_deeds_desks_genus x_deeds_desks_size x_deeds_desks_limit x_deeds_desks_tree x_desk_genus x_desk_size x_desk_limit x_desk_tree x_deeds_now x_deeds_last (Int32.ofNat how) a_x_desk_powers))) = X → F_X8_order d_x_deeds_desks q_x_deeds_desks a_x_deeds_desks x_deeds_desks_genus x_deeds_desks_size x_deeds_desks_limit x_deeds_desks_tree x_desk_genus x_desk_size x_desk_limit x_desk_tree a_x_desk_powers x_deeds_now x_deeds_last (Int32.ofNat how) = X := fun X hX => by
        unfold F_X8_order
        rw [if_neg (n_neg hw), if_pos c1]; exact hX
      obtain ⟨s8, l8, es8, rs8, ps8, os8⟩ := rising8 n8 r8 hB
      rw [← q2] at es8
      rcases (show how = 0 ∨ how = 1 ∨ how = 2 ∨ how = 3 by omega) with rfl | rfl | rfl | rfl
      · obtain ⟨s9, l9, es9, rs9, ps9, os9⟩ := sorts9 (N := 8) (p2 := 1) (by omega) (ord1 (B := 1000) (by omega)) n8 r9 hB
        rw [← w2] at es9
        have el : l9 = l8 := List.Perm.eq_of_pairwise (fun a b _ _ h1 h2 => by omega) os9 os8 (ps9.trans ps8.symm)
        subst el
        refine ⟨l9, s8, s9, rs8, rs9, ps9.length_eq, fun d hd => hVc.2.2.1 d (ps9.mem_iff.mp hd), A8 _ ?_, A9 _ ?_⟩
        · rw [if_pos (show Int32.ofNat 0 = (0 : Int32) from rfl)]
          unfold J_X8_order_20
          rw [es8, bd_s]; rfl
        · rw [if_neg (show ¬ (2 : Int32) ≤ Int32.ofNat 0 by decide), if_pos (show Int32.ofNat 0 = (0 : Int32) from rfl)]
          unfold J_X9_order_40
          rw [es9, bd_s]; rfl
      · obtain ⟨s9, l9, es9, rs9, ps9, os9⟩ := sorts9 (N := 8) (p2 := -1) (by omega) (ordM (B := 1000) (by omega)) n8 r9 hB
        rw [← w2] at es9
        have el : l9 = l8.reverse := List.Perm.eq_of_pairwise (fun a b _ _ h1 h2 => by omega) os9 (List.pairwise_reverse.mpr os8) (ps9.trans (ps8.symm.trans (List.reverse_perm l8).symm))
        subst el
        refine ⟨l8.reverse, _, s9, rp_rev (f' := fun k => if k < cur.2.1.length then s8 (cur.2.1.length - 1 - k) else s8 k) rs8 (fun k hk => by rw [ps8.length_eq] at hk ⊢; exact if_pos hk), rs9, by rw [List.length_reverse]; exact ps8.length_eq, fun d hd => hVc.2.2.1 d (ps9.mem_iff.mp hd), A8 _ ?_, A9 _ ?_⟩
        · rw [if_neg (show ¬ Int32.ofNat 1 = (0 : Int32) by decide), if_pos (show Int32.ofNat 1 = (1 : Int32) from rfl)]
          unfold J_X8_order_20 J_X8_order_27
          rw [es8, bd_s, if_pos (show Int32.ofNat 1 = (1 : Int32) from rfl)]
          unfold J_X8_order_37
          rw [q2, turn8 n8, bd_s]; rfl
        · rw [if_neg (show ¬ (2 : Int32) ≤ Int32.ofNat 1 by decide), if_neg (show ¬ Int32.ofNat 1 = (0 : Int32) by decide)]
          unfold J_X9_order_40
          rw [es9, bd_s]; rfl
      · have lay := lay9o n8 (Int32.ofNat 2) bf a_m_powers (fun j => cur.2.1.length - 1 - j) (R := Nat) (fun j hj => ⟨by omega, fun _ => rfl, fun z => absurd rfl z⟩)
        refine ⟨cur.2.1.reverse, _, _, rp_rev (f' := fun k => if k < cur.2.1.length then a_x_desk_powers (cur.2.1.length - 1 - k) else a_x_desk_powers k) r8 (fun k hk => if_pos hk), rp_rev (f' := fun k => if k < cur.2.1.length then bf (4 + (cur.2.1.length - 1 - k)) else a_m_powers k) rb (fun k hk => if_pos hk), List.length_reverse, fun d hd => hVc.2.2.1 d (List.mem_reverse.mp hd), A8 _ ?_, A9 _ ?_⟩
        · rw [if_neg (show ¬ Int32.ofNat 2 = (0 : Int32) by decide), if_neg (show ¬ Int32.ofNat 2 = (1 : Int32) by decide)]
          unfold J_X8_order_27
          rw [if_neg (show ¬ Int32.ofNat 2 = (1 : Int32) by decide), if_pos (show Int32.ofNat 2 = (2 : Int32) from rfl)]
          unfold J_X8_order_37
          rw [q2, turn8 n8, bd_s]; rfl
        · rw [if_pos (show (2 : Int32) ≤ Int32.ofNat 2 by decide), w2, lay]; rfl
      · have lay := lay9o n8 (Int32.ofNat 3) bf a_m_powers (fun j => (j + 1) % cur.2.1.length) (R := Nat) (fun j hj => ⟨Nat.mod_lt _ (by omega), fun z => absurd z (by decide), fun _ => rfl⟩)
        have e8 : F_X8_order d_x_deeds_desks q_x_deeds_desks a_x_deeds_desks x_deeds_desks_genus x_deeds_desks_size x_deeds_desks_limit x_deeds_desks_tree x_desk_genus x_desk_size x_desk_limit x_desk_tree a_x_desk_powers x_deeds_now x_deeds_last (Int32.ofNat 3) = J_X8_order_56 d_x_deeds_desks q_x_deeds_desks a_x_deeds_desks x_deeds_desks_genus x_deeds_desks_size x_deeds_desks_limit x_deeds_desks_tree x_desk_genus x_desk_size x_desk_limit x_desk_tree x_deeds_now x_deeds_last (fun k => if k < cur.2.1.length - 1 then a_x_desk_powers (k + 1) else if k = cur.2.1.length - 1 then a_x_desk_powers 0 else a_x_desk_powers k) := A8 _ (by
          rw [if_neg (show ¬ Int32.ofNat 3 = (0 : Int32) by decide), if_neg (show ¬ Int32.ofNat 3 = (1 : Int32) by decide)]
          unfold J_X8_order_27
          rw [if_neg (show ¬ Int32.ofNat 3 = (1 : Int32) by decide), if_neg (show ¬ Int32.ofNat 3 = (2 : Int32) by decide)]
          unfold J_X8_order_44
          rw [if_pos (show Int32.ofNat 3 = (3 : Int32) from rfl), q2, first8 n8, bd_s])
        have e9 : F_X9_order m_genus m_marks m_leaves m_splits m_done m_undone a_m_before a_m_powers a_m_tree a_m_behind a_m_ahead (Int32.ofNat 3) = wq2 (B_X9_order_103 m_marks bf (fun k => if k < cur.2.1.length then bf (4 + (k + 1) % cur.2.1.length) else a_m_powers k) (K_X9_order_103_142 m_genus m_marks m_leaves m_splits m_done m_undone a_m_tree a_m_behind a_m_ahead bf (fun k => if k < cur.2.1.length then bf (4 + (k + 1) % cur.2.1.length) else a_m_powers k))) FU (0 : Int32) (0 : Int32) := A9 _ (by
          rw [if_pos (show (2 : Int32) ≤ Int32.ofNat 3 by decide), w2, lay]; rfl)
        refine ⟨match cur.2.1 with | [] => [] | x :: r => r ++ [x], _, _, ?_, ?_, ?_, ?_, e8, e9⟩
        all_goals generalize hcl : cur.2.1 = cl at r8 rb
        all_goals cases cl with
          | nil => first | exact fun k v hv => absurd hv (by simp) | rfl | exact fun d hd => absurd hd (by simp)
          | cons x r => ?_
        · exact rp_rot r8 (fun k hk => by simp only [List.length_cons]; rw [if_pos (by omega)]) (by simp only [List.length_cons]; rw [if_neg (by omega), if_pos (by omega)])
        · exact rp_rot rb (fun k hk => by simp only [List.length_cons]; rw [if_pos (by omega), Nat.mod_eq_of_lt (by omega)]) (by simp only [List.length_cons]; rw [if_pos (by omega), Nat.mod_self])
        · simp
        · intro d hd
          refine hVc.2.2.1 d ?_
          rw [hcl]
          simp at hd ⊢
          rcases hd with h | h <;> simp [h]
    obtain ⟨l', p8, p9, g8, g9, hl, hd, f8, f9⟩ := main
    obtain ⟨r, y1, y2, y3, y4, y5, y6, y7, y8, y9, y10, y11, y12, y13, y14, y15, y16, k8, k9, new, ⟨us', rs', kV, kH8, kH9⟩, kd8, kd9⟩ := fin l' p8 p9 g8 g9 hl hd f8 f9
    exact ⟨r, y1, y2, y3, y4, y5, y6, y7, y8, y9, y10, y11, y12, y13, y14, y15, y16, k8, k9, us', new, rs', bs, kV, kd8, kd9, kH8, kH9, TN_mono hT, hTP, hWY, hHO, hIM⟩
  · refine ⟨-1, a_x_desk_powers, x_deeds_now, x_deeds_last, a_x_deeds_desks, d_x_deeds_desks, x_deeds_desks_genus, x_deeds_desks_limit, q_x_deeds_desks, x_deeds_desks_size, x_deeds_desks_tree, a_m_before, a_m_powers, a_m_behind, a_m_ahead, m_undone, m_done, ?_, ?_, ⟨us, cur, rs, bs, hV, h8, h9, hH8, hH9, TN_mono hT, hTP, hWY, hHO, hIM⟩⟩
    · unfold F_X8_order
      have c1 : ¬ (Int32.ofNat how ≤ (3 : Int32)) := fun z => c3 ((n_le (b := 3) hw (by omega)).mp z)
      rw [if_neg (n_neg hw), if_neg c1]
    · unfold F_X9_order
      have c2 : ¬ ((how : Int) ≤ 3) := by omega
      rw [in9n hw, bd_s, e3, if_neg c2, if_pos i00]
