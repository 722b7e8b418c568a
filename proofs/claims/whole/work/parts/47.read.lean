/-! read(). -/
theorem foldS_lt {L B : Nat} : ∀ (l : List (Nat × Nat)) (st : List Nat × Option Nat), (∀ x ∈ l, x.2 < B) → (∀ q, st.2 = some q → q < B) → ∀ q, (l.foldl (stS L) st).2 = some q → q < B
  | [], st, _, hc => hc
  | x :: l, st, hl, hc => by
    refine foldS_lt l (stS L st x) (fun y hy => hl y (List.mem_cons_of_mem _ hy)) ?_
    by_cases c : okS L st.1 x.1
    · rw [stS_Y c]; exact hc
    · rw [stS_N c]; exact nt_lt hc (hl x List.mem_cons_self)
theorem pBad_none {bs : List Nat} (h : pBad bs = none) : isF bs 0 = true ∧ isC bs 1 58 = true ∧ (pT bs = true → isF bs ((pMk bs).2.1 + 1) = true) := by
  unfold pBad at h
  by_cases c0 : isF bs 0 = true
  · rw [if_neg (fun z => z c0)] at h
    by_cases c1 : isC bs 1 58 = true
    · rw [if_neg (fun z => z c1)] at h
      refine ⟨c0, c1, fun c3 => ?_⟩
      by_cases c2 : (pMk bs).2.2 = true
      · rw [if_pos c2] at h; exact absurd h (by simp)
      · rw [if_neg c2, if_neg (fun z => z c3)] at h
        by_cases c4 : isF bs ((pMk bs).2.1 + 1) = true
        · exact c4
        · rw [if_pos c4] at h; exact absurd h (by simp)
    · rw [if_pos c1] at h; exact absurd h (by simp)
  · rw [if_pos c0] at h; exact absurd h (by simp)
theorem pCb_le {bs : List Nat} (h : pBad bs = none) {w : Nat} (hw : pCb bs = some w) : w ≤ bs.length := by
  obtain ⟨c0, c1, c4⟩ := pBad_none h
  have l1 := (isC_c c1).1
  obtain ⟨m1, m2, m3⟩ := pMk_le (bs := bs) (by omega)
  have h0 : ∀ q, pC0 bs = some q → q < bs.length + 1 := fun q hq => by
    unfold pC0 at hq
    by_cases d : fi bs 0 ≤ 2
    · rw [if_pos d] at hq; exact absurd hq (by simp)
    · rw [if_neg d] at hq; rw [← Option.some.inj hq]; omega
  have hM : ∀ q, pCM bs = some q → q < bs.length + 1 := foldN_lt _ _ (fun x hx => by have := (m3 x hx).2; omega) h0
  unfold pCb at hw
  by_cases c3 : pT bs = true
  · rw [if_pos c3] at hw
    have l4 := (isF_c (c4 c3)).1
    have hL : ∀ q, pCL bs = some q → q < bs.length + 1 := by
      unfold pCL
      by_cases d : 3 ≤ pL bs ∧ pL bs ≤ 6
      · rw [if_pos d]; exact hM
      · rw [if_neg d]; exact nt_lt hM (by omega)
    have k3 := (pkk_le (bs := bs) 3 ((pMk bs).2.1 + 2) (by omega)).2.2
    have := foldS_lt (L := pL bs) (B := bs.length + 1) (pSl bs).1 ([], pCL bs) (fun x hx => by have := (k3 x hx).2; omega) hL w hw
    omega
  · rw [if_neg c3] at hw
    have := hM w hw
    omega
theorem foldN_none : ∀ (l : List (Nat × Nat)) (c : Option Nat), l.foldl ntp c = none → c = none ∧ ∀ x ∈ l, x.1 ≤ 12
  | [], c, h => ⟨h, by simp⟩
  | x :: l, c, h => by
    obtain ⟨a, b⟩ := foldN_none l (ntp c x) h
    cases c with
    | some q =>
      exfalso
      have : ntp (some q) x = some q := by unfold ntp; by_cases d : x.1 ≤ 12 <;> simp [d, nt]
      rw [this] at a; exact absurd a (by simp)
    | none =>
      refine ⟨rfl, fun y hy => ?_⟩
      rcases List.mem_cons.mp hy with rfl | hy
      · by_cases d : y.1 ≤ 12
        · exact d
        · unfold ntp at a; rw [if_neg d] at a; exact absurd a (by simp [nt])
      · exact b y hy
theorem foldS_V {L : Nat} : ∀ (l : List (Nat × Nat)) (st : List Nat × Option Nat), stV L st → (∀ x ∈ l, x.2 < 1000) → stV L (l.foldl (stS L) st)
  | [], _, h, _ => h
  | x :: l, st, h, hl => foldS_V l (stS L st x) (stS_V h (hl x List.mem_cons_self)) (fun y hy => hl y (List.mem_cons_of_mem _ hy))
theorem foldS_none {L : Nat} {l : List (Nat × Nat)} {acc : List Nat} {c : Option Nat} (h : (l.foldl (stS L) (acc, c)).2 = none) : c = none := by
  cases c with
  | none => rfl
  | some q => rw [foldS_some] at h; exact absurd h (by simp)
theorem comes_lp {L : Nat} {l : List (Nat × Nat)} (hl : l.length ≤ 3) (hx2 : ∀ x ∈ l, x.2 < 1000) (h0 : (l.foldl (stS L) ([], none)).2 = none) (hL : 3 ≤ L ∧ L ≤ 6) {tt : Nat → Int32} (ht : rp tt (l.map (fun x => x.1))) {x1 : (Nat → Int32) × (Nat → Int32) × (Nat → Int32) × (Nat → Int32) × Int32 × Int32 × Int32 × Int32 × Int32 × Int32 × Int32 × Int32} (e1 : x1.2.2.2.1 = tt) (e2 : x1.2.2.2.2.2.2.2.2.2.2.2 = Int32.ofNat l.length) :
    ∀ (r a : List (Nat × Nat)) (acc : List Nat) (T : Nat → Int32) (n : Nat), l = a ++ r → r.length < n → a.foldl (stS L) ([], none) = (acc, none) → acc.length = a.length → rp T acc →
    ∃ T', rp T' (l.foldl (stS L) ([], none)).1 ∧ (l.foldl (stS L) ([], none)).1.length = l.length ∧ ∀ kk, wq3 (B_X9_read_137 x1 kk) n T (Int32.ofNat a.length) (Int32.ofNat a.length) = kk T' (Int32.ofNat l.length)
  | [], a, acc, T, n, e, hn, hf, ha, hT => by
    obtain ⟨n, rfl⟩ : ∃ m, n = m + 1 := ⟨n - 1, by simp at hn; omega⟩
    have e3 : l = a := by simpa using e
    rw [e3, hf]
    refine ⟨T, hT, ha, fun kk => ?_⟩
    show B_X9_read_137 x1 kk T (Int32.ofNat a.length) (Int32.ofNat a.length) (wq3 (B_X9_read_137 x1 kk) n) = _
    unfold B_X9_read_137
    rw [e2, e3, if_pos ((n_le (by rw [← e3]; omega) (by rw [← e3]; omega)).mpr (Nat.le_refl _))]
  | x :: r, a, acc, T, n, e, hn, hf, ha, hT => by
    obtain ⟨n, rfl⟩ : ∃ m, n = m + 1 := ⟨n - 1, by simp at hn; omega⟩
    have hla : a.length < l.length := by rw [e]; simp
    have h0' := h0
    rw [e, List.foldl_append, hf, List.foldl_cons] at h0'
    have hok : okS L acc x.1 := Classical.byContradiction fun c => by
      rw [stS_N (st := (acc, none)) c] at h0'
      have := foldS_none h0'
      simp [nt] at this
    have hv : stV L (acc, none) := by
      have := foldS_V (L := L) a ([], none) ⟨Or.inl ⟨hL.1, hL.2, rfl⟩, fun q hq => absurd hq (by simp)⟩ (fun y hy => hx2 y (by rw [e]; exact List.mem_append_left _ hy))
      rw [hf] at this; exact this
    have hvt : vt L acc = true := by
      rcases hv.1 with ⟨p1, p2, v⟩ | ⟨p1, -⟩
      · exact v
      · exact absurd hL p1
    have hs64 := isSp_lt hL.2 hok.2.2.1
    obtain ⟨T1, eT, rT⟩ := comes9 (by omega) (vt_asc hvt) (vt_small hL.2 hvt) hT hs64 (fit_not hok.2.2.2)
    have hf2 : (a ++ [x]).foldl (stS L) ([], none) = (ins x.1 acc, none) := by
      rw [List.foldl_append, hf]
      show stS L (acc, none) x = _
      rw [stS_Y (st := (acc, none)) hok]
    obtain ⟨T', g1, g2, g3⟩ := comes_lp hl hx2 h0 hL ht e1 e2 r (a ++ [x]) (ins x.1 acc) T1 n (by rw [e]; simp) (by simp at hn; omega) hf2 (by rw [len_ins, ha]; simp) rT
    refine ⟨T', g1, g2, fun kk => ?_⟩
    show B_X9_read_137 x1 kk T (Int32.ofNat a.length) (Int32.ofNat a.length) (wq3 (B_X9_read_137 x1 kk) n) = _
    have g3' := g3 kk
    generalize hW : wq3 (B_X9_read_137 x1 kk) n = W at g3' ⊢
    unfold B_X9_read_137
    have gx : tt a.length = Int32.ofNat x.1 := ht _ _ (by rw [e]; exact map_at _ a r x)
    have ea : Int32.ofNat a.length + (1 : Int32) = Int32.ofNat (a ++ [x]).length := by rw [List.length_append, List.length_singleton]; exact n_add _ 1
    have ei : (ins x.1 acc).length = (a ++ [x]).length := by rw [len_ins, ha]; simp
    rw [ha, ei] at eT
    rw [e2, if_neg (c_ge (by omega) (by omega) hla), ck_n (by omega) (by omega), n_clamp (by omega), e1, gx, eT, bd_s]
    dsimp only
    rw [ea]; exact g3'
theorem pw_cp {n : Nat} (hn : n ≤ 8) {x1 : (Nat → Int32) × (Nat → Int32) × (Nat → Int32) × (Nat → Int32) × Int32 × Int32 × Int32 × Int32 × Int32 × Int32 × Int32 × Int32} (e : x1.2.2.2.2.2.2.2.1 = Int32.ofNat n) (pw : Nat → Int32) (kk : (Nat → Int32) → Option (Int32 × (Nat → Int32) × (Nat → Int32) × (Nat → Int32) × (Nat → Int32) × (Nat → Int32) × (Nat → Int32) × (Nat → Int32) × (Nat → Int32) × (Nat → Int32) × (Nat → Int32) × Int32 × Int32 × Int32 × Int32 × Int32 × Int32 × Int32 × Int32 × Int32 × Int32 × Int32 × Int32 × Int32 × Int32 × Int32 × Int32)) :
    wq2 (B_X9_read_89 x1 kk) FU pw (0 : Int32) = kk (fun k => if k < n then x1.2.1 k else pw k) := by
  have e0 : (fun k => if k < 0 then x1.2.1 k else pw k) = pw := by funext k; simp
  conv => lhs; rw [← e0]
  refine wq2_it n (fun j k => if k < j then x1.2.1 k else pw k) (fun j => Int32.ofNat j) (fun j hj ag => ?_) (fun ag => ?_) FU (by unfold FU; omega)
  · unfold B_X9_read_89
    rw [e, if_neg (c_ge (by omega) (by omega) hj), ck_n (by omega) (by omega), ck_n (by omega) (by omega), n_clamp (by omega), show (1 : Int32) = Int32.ofNat 1 from rfl, n_add]
    congr 1
    funext k
    rw [upd_e]
    by_cases c : k = j
    · subst c; rw [if_pos rfl, if_pos (by omega)]
    · rw [if_neg c]
      by_cases d : k < j
      · rw [if_pos d, if_pos (by omega)]
      · rw [if_neg d, if_neg (by omega)]
  · unfold B_X9_read_89
    rw [e, if_pos ((n_le (by omega) (by omega)).mpr (Nat.le_refl _))]
theorem ls_read : LS_read LR := by
  intro k d_x_deeds_desks q_x_deeds_desks x_imageKept x_desk_genus x_desk_size x_desk_limit x_desk_tree a_x_desk_powers x_imageDesk_genus x_imageDesk_size x_imageDesk_limit x_imageDesk_tree a_x_imageDesk_powers x_deeds_now x_deeds_last a_x_deeds_desks x_deeds_desks_genus x_deeds_desks_size x_deeds_desks_limit x_deeds_desks_tree x_numbers_round x_numbers_size x_numbers_sum x_numbers_gathered a_x_numbers_keys a_x_numbers_aboves a_x_numbers_rounds x_reader_refused x_reader_place x_reader_cannotBe x_tape_size a_x_tape_bytes x_reader_told_genus x_reader_told_size x_reader_told_limit x_reader_told_tree a_x_reader_told_powers a_x_reader_causes x_speller_size a_x_speller_bytes a_x_holders x_holders_sort x_holders_tree x_holders_limit x_holders_above x_holders_size m_genus m_marks m_leaves m_splits m_done m_undone m_metMany m_treesSeen m_taped m_place m_isWrong m_toldGenus m_toldMarks m_isTree m_toldLeaves m_leavesPlace m_toldSplits m_isWhy m_papered m_isKept a_m_powers a_m_tree a_m_ahead a_m_behind a_m_before a_m_rows a_m_met a_m_metSizes a_m_chosen a_m_tape a_m_toldPowers a_m_powerPlaces a_m_toldTree a_m_splitPlaces a_m_layers a_m_paper a_m_held a_m_numbers a_m_sizes a_m_heldLeaves a_m_items a_m_kept hk hLR
  obtain ⟨us, cur, rs, bs, hV, h8, h9, hH8, hH9, hT, hTP, hWY, hHO, hIM⟩ := hLR
  have hVc : VD cur := hV cur (List.mem_append_right _ List.mem_cons_self)
  obtain ⟨q1, q2, q3, q4, q5⟩ := id h8
  obtain ⟨w1, w2, w3, w4, w5, w6⟩ := id h9
  obtain ⟨t1, t2, t3, t4, t5⟩ := id hTP
  have hQ8 : TQ bs a_x_tape_bytes := ⟨D_rp (fun k hk => (t5 k hk).1), t3, t4⟩
  have hQ9 : TQ bs a_m_tape := ⟨D_rp (fun k hk => (t5 k hk).2), t3, t4⟩
  have hTP0 : TP (0 : Int32) a_x_tape_bytes (0 : Int32) a_m_tape [] := ⟨rfl, rfl, by simp, by simp, fun k hk => absurd hk (by simp)⟩
  obtain ⟨m, s1, s2, s3⟩ := slash_at bs
  obtain ⟨ok, pws, pl8, cb8, tg, tn, tl, tt8, e8, a8, b8⟩ := text8 hQ8 x_desk_genus x_desk_size x_desk_limit x_desk_tree (fun k => if k < 8 then a_x_desk_powers k else a_x_reader_told_powers k)
  obtain ⟨pp, tp, spl, tt, pl9, wr, g9, n9, isT, L9, lp9, k9, e9, a9, b9⟩ := form9 hQ9 m_toldLeaves m_leavesPlace a_m_powerPlaces a_m_toldPowers a_m_splitPlaces a_m_toldTree
  rw [← t1] at e8
  rw [← t2] at e9
  cases hb : pBad bs with
  | some w =>
    obtain ⟨rfl, rfl⟩ := a8 w hb
    obtain ⟨rfl, rfl⟩ := a9 w hb
    have hw := pBad_le hb
    obtain ⟨c8s, k8, kk8⟩ := keep8 hQ8 (how := 6) s1 s2 s3 hw a_x_reader_causes
    obtain ⟨c9s, k9', kk9⟩ := because9 hQ9 (how := 6) s1 s2 s3 hw a_m_layers
    rw [← t1] at k8
    rw [← t2] at k9'
    obtain ⟨now', last', fp', d', fg', fl', q', fs', ft', es, hs⟩ := settle8 d_x_deeds_desks q_x_deeds_desks hH8 h8 hV hVc
    rw [if_pos rfl, if_pos rfl] at hs
    refine ⟨(-1000 : Int32) - Int32.ofNat w, pws, a_x_desk_powers, c8s, (1 : Int32), (Int32.ofNat w), cb8, x_desk_genus, x_desk_size, x_desk_limit, x_desk_tree, tg, tn, tl, tt8, (0 : Int32), now', last', fp', d', fg', fl', q', fs', ft', a_m_behind, a_m_ahead, pp, tp, spl, tt, a_m_before, a_m_powers, a_m_tree, c9s, m_genus, m_marks, m_undone, (0 : Int32), (Int32.ofNat w), (1 : Int32), g9, n9, isT, L9, lp9, k9, m_leaves, (1 : Int32), m_splits, m_done, ?_, ?_, us, cur, rs, [], hV, h8, h9, hs, hH9, TN_mono hT, hTP0, ⟨rfl, Or.inr rfl, fun _ k hk => by rw [kk8 k hk, kk9 k hk]⟩, hHO, hIM⟩
    · unfold F_X8_read F_X4_readOver
      have k8' : F_X4_keepWhy a_x_reader_causes x_tape_size a_x_tape_bytes (6 : Int32) (Int32.ofNat w) = some (c8s, (1 : Int32)) := k8
      rw [copyFrom8, bd_s]
      dsimp only
      rw [e8, bd_s]
      dsimp only
      rw [if_pos i00, k8', bd_s, bd_s]
      dsimp only
      rw [es, bd_s]
    · unfold F_X9_read
      have k9'' : F_X9_because m_taped a_m_tape a_m_layers (6 : Int32) (Int32.ofNat w) = some (c9s, (1 : Int32)) := k9'
      rw [e9, bd_s]
      dsimp only
      rw [if_neg i10, k9'', bd_s]
  | none =>
    obtain ⟨c0, c1, c4⟩ := pBad_none hb
    have l1 := (isC_c c1).1
    obtain ⟨rfl, rfl, r8, rfl, rfl, x1, x2⟩ := b8 hb
    obtain ⟨rfl, rfl, r9, rp9, rfl, y1, y2⟩ := b9 hb
    have hwf := wrong9 (by omega) c0 c4 (g := Int32.ofNat (fi bs 0)) (n := Int32.ofNat (pMk bs).1.length) rfl r9 rp9 rfl y1 y2
    cases hc : pCb bs with
    | some w =>
      rw [hc] at hwf
      have hw := pCb_le hb hc
      obtain ⟨c8s, k8, kk8⟩ := keep8 hQ8 (how := 7) s1 s2 s3 hw a_x_reader_causes
      obtain ⟨c9s, k9', kk9⟩ := because9 hQ9 (how := 7) s1 s2 s3 hw a_m_layers
      rw [← t1] at k8
      rw [← t2] at k9'
      obtain ⟨now', last', fp', d', fg', fl', q', fs', ft', es, hs⟩ := settle8 d_x_deeds_desks q_x_deeds_desks hH8 h8 hV hVc
      rw [if_pos rfl, if_pos rfl] at hs
      refine ⟨(-2000 : Int32) - Int32.ofNat w, pws, a_x_desk_powers, c8s, (1 : Int32), pl8, (Int32.ofNat w), x_desk_genus, x_desk_size, x_desk_limit, x_desk_tree, (Int32.ofNat (fi bs 0)), (Int32.ofNat (pMk bs).1.length), tl, tt8, (0 : Int32), now', last', fp', d', fg', fl', q', fs', ft', a_m_behind, a_m_ahead, pp, tp, spl, tt, a_m_before, a_m_powers, a_m_tree, c9s, m_genus, m_marks, m_undone, (0 : Int32), pl9, (0 : Int32), (Int32.ofNat (fi bs 0)), (Int32.ofNat (pMk bs).1.length), isT, L9, lp9, k9, m_leaves, (1 : Int32), m_splits, m_done, ?_, ?_, us, cur, rs, [], hV, h8, h9, hs, hH9, TN_mono hT, hTP0, ⟨rfl, Or.inr rfl, fun _ k hk => by rw [kk8 k hk, kk9 k hk]⟩, hHO, hIM⟩
      · unfold F_X8_read F_X4_readOver
        have k8' : F_X4_keepWhy a_x_reader_causes x_tape_size a_x_tape_bytes (7 : Int32) (Int32.ofNat w) = some (c8s, (1 : Int32)) := k8
        have nc : ¬ Int32.ofNat w = (-1 : Int32) := fun z => by
          have z1 := congrArg Int32.toInt z
          rw [n_toInt (by omega), show (-1 : Int32).toInt = -1 from rfl] at z1
          omega
        rw [copyFrom8, bd_s]
        dsimp only
        rw [e8, bd_s, hc]
        dsimp only
        rw [if_neg i10, show cI (some w) = Int32.ofNat w from rfl, if_neg nc, k8', bd_s, bd_s]
        dsimp only
        rw [es, bd_s]
      · unfold F_X9_read
        have k9'' : F_X9_because m_taped a_m_tape a_m_layers (7 : Int32) (Int32.ofNat w) = some (c9s, (1 : Int32)) := k9'
        rw [e9, bd_s]
        dsimp only
        rw [if_pos i00, hwf, bd_s, if_neg (n_neg (by omega)), k9'', bd_s]
    | none =>
      rw [hc] at hwf
      obtain ⟨m1, m2, m3⟩ := pMk_le (bs := bs) (by omega)
      have hpars : pCM bs = none ∧ (pT bs = true → 3 ≤ pL bs ∧ pL bs ≤ 6 ∧ pCL bs = none) := by
        unfold pCb at hc
        by_cases c3 : pT bs = true
        · rw [if_pos c3] at hc
          have hL := foldS_none hc
          have hL2 := hL
          unfold pCL at hL2
          by_cases d : 3 ≤ pL bs ∧ pL bs ≤ 6
          · rw [if_pos d] at hL2; exact ⟨hL2, fun _ => ⟨d.1, d.2, hL⟩⟩
          · rw [if_neg d] at hL2
            exfalso
            cases hm : pCM bs with
            | none => rw [hm] at hL2; simp [nt] at hL2
            | some q => rw [hm] at hL2; simp [nt] at hL2
        · rw [if_neg c3] at hc; exact ⟨hc, fun z => absurd z c3⟩
      obtain ⟨hM, hLL⟩ := hpars
      obtain ⟨hC0, hM12⟩ := foldN_none _ _ hM
      have hg2 : fi bs 0 ≤ 2 := by
        unfold pC0 at hC0
        by_cases d : fi bs 0 ≤ 2
        · exact d
        · rw [if_neg d] at hC0; exact absurd hC0 (by simp)
      obtain ⟨bf, eb, hbf⟩ := begins9 h9 hVc a_m_before
      have hm12 : ∀ d ∈ (pMk bs).1.map (fun x => x.1), d ≤ 12 := fun d hd => by
        obtain ⟨x, hx, rfl⟩ := List.mem_map.mp hd
        exact hM12 x hx
      have hlen : ((pMk bs).1.map (fun x => x.1)).length = (pMk bs).1.length := List.length_map _
      have r9' : rp (fun k => if k < (pMk bs).1.length then tp k else a_m_powers k) ((pMk bs).1.map (fun x => x.1)) := fun k v hv => by
        have hk := (List.getElem?_eq_some_iff.mp hv).1
        rw [List.length_map] at hk
        show (if k < (pMk bs).1.length then tp k else a_m_powers k) = _
        rw [if_pos hk]; exact r9 k v hv
      -- the class, then the model, for a new L and a new tree
      have fin8 : ∀ (L : Nat) (ts : List Nat), tl = Int32.ofNat L → tt8 = tr64 ts → 3 ≤ L → L ≤ 6 → vt L ts = true →
          ∃ (new : AD), new = (fi bs 0, (pMk bs).1.map (fun x => x.1), L, ts) ∧ VD new ∧ D8 (Int32.ofNat (fi bs 0)) (Int32.ofNat (pMk bs).1.length) tl tt8 (fun k => if k < 8 then pws k else a_x_desk_powers k) new ∧
          ∀ now' last' fp' d' fg' fl' q' fs' ft', F_X0_settle d_x_deeds_desks q_x_deeds_desks a_x_deeds_desks x_deeds_desks_genus x_deeds_desks_size x_deeds_desks_limit x_deeds_desks_tree x_deeds_now x_deeds_last (Int32.ofNat (fi bs 0)) (Int32.ofNat (pMk bs).1.length) tl tt8 (fun k => if k < 8 then pws k else a_x_desk_powers k) = some (now', last', fp', d', fg', fl', q', fs', ft') →
            F_X8_read d_x_deeds_desks q_x_deeds_desks a_x_deeds_desks x_deeds_desks_genus x_deeds_desks_size x_deeds_desks_limit x_deeds_desks_tree x_reader_refused x_desk_genus x_desk_size x_desk_limit x_desk_tree a_x_reader_told_powers a_x_desk_powers x_tape_size a_x_tape_bytes a_x_reader_causes x_deeds_now x_deeds_last = some (Int32.ofNat (pMk bs).1.length, pws, (fun k => if k < 8 then pws k else a_x_desk_powers k), a_x_reader_causes, x_reader_refused, pl8, (-1 : Int32), Int32.ofNat (fi bs 0), Int32.ofNat (pMk bs).1.length, tl, tt8, Int32.ofNat (fi bs 0), Int32.ofNat (pMk bs).1.length, tl, tt8, (0 : Int32), now', last', fp', d', fg', fl', q', fs', ft') := by
        intro L ts hl1 hl2 h3 h6 hv
        have hVn : VD (fi bs 0, (pMk bs).1.map (fun x => x.1), L, ts) := ⟨hg2, by rw [hlen]; exact m2, hm12, h3, h6, hv⟩
        refine ⟨_, rfl, hVn, D8_copy (a := (fi bs 0, (pMk bs).1.map (fun x => x.1), L, ts)) ⟨rfl, by rw [hlen], hl1, hl2, rp_D r8⟩ hVn, fun now' last' fp' d' fg' fl' q' fs' ft' es => ?_⟩
        unfold F_X8_read F_X4_readOver
        rw [copyFrom8, bd_s]
        dsimp only
        rw [e8, bd_s, hc]
        dsimp only
        rw [if_neg i10, show cI none = (-1 : Int32) from rfl, if_pos rfl, copyFrom8, bd_s, bd_s]
        dsimp only
        rw [es, bd_s]
      by_cases c3 : pT bs = true
      · obtain ⟨z1, z2⟩ := x1 c3
        obtain ⟨rfl, rfl, rfl, rt9, rs9, rfl⟩ := y1 c3
        obtain ⟨L3, L6, hCL⟩ := hLL c3
        obtain ⟨k1, k2, k3⟩ := pkk_le (bs := bs) 3 ((pMk bs).2.1 + 2) (by have := (isF_c (c4 c3)).1; omega)
        have hSt : (pSl bs).1.foldl (stS (pL bs)) ([], none) = pSt bs := by unfold pSt; rw [hCL]
        have hx2 : ∀ x ∈ (pSl bs).1, x.2 < 1000 := fun x hx => by have := (k3 x hx).2; omega
        have h0 : ((pSl bs).1.foldl (stS (pL bs)) ([], none)).2 = none := by
          rw [hSt]; unfold pCb at hc; rw [if_pos c3] at hc; exact hc
        have hv : vt (pL bs) (pSt bs).1 = true := by
          have := foldS_V (L := pL bs) (pSl bs).1 ([], none) ⟨Or.inl ⟨L3, L6, rfl⟩, fun q hq => absurd hq (by simp)⟩ hx2
          rw [hSt] at this
          rcases this.1 with ⟨_, _, v⟩ | ⟨v, -⟩
          · exact v
          · exact absurd ⟨L3, L6⟩ v
        obtain ⟨new, hnew, hVn, hD8, go8⟩ := fin8 (pL bs) (pSt bs).1 z1 z2 L3 L6 hv
        obtain ⟨T', rT, lT, eT⟩ := comes_lp (L := pL bs) (l := (pSl bs).1) k2 hx2 h0 ⟨L3, L6⟩ rt9 (x1 := (pp, tp, spl, tt, pl9, (0 : Int32), Int32.ofNat (fi bs 0), Int32.ofNat (pMk bs).1.length, (1 : Int32), Int32.ofNat (pL bs), Int32.ofNat ((pMk bs).2.1 + 1), Int32.ofNat (pSl bs).1.length)) rfl rfl (pSl bs).1 [] [] a_m_tree FU rfl (by have : (pSl bs).1.length ≤ 3 := k2; unfold FU; omega) rfl rfl (rp_nil _)
        rw [hSt] at rT lT
        have hD9 : D9 (Int32.ofNat (fi bs 0)) (Int32.ofNat (pMk bs).1.length) (Int32.ofNat (pL bs)) (Int32.ofNat (pSl bs).1.length) (fun k => if k < (pMk bs).1.length then tp k else a_m_powers k) T' new := by
          subst hnew
          exact ⟨rfl, by rw [hlen], rfl, by rw [lT], rp_D r9', rp_D rT⟩
        obtain ⟨now', last', fp', d', fg', fl', q', fs', ft', es, hs⟩ := settle8 d_x_deeds_desks q_x_deeds_desks hH8 hD8 hV hVn
        obtain ⟨be', ah', un', do', ee, he⟩ := ends9 hD9 hVn hVc hbf hH9 hH8.2.2.1
        refine ⟨Int32.ofNat (pMk bs).1.length, pws, (fun k => if k < 8 then pws k else a_x_desk_powers k), a_x_reader_causes, x_reader_refused, pl8, (-1 : Int32), (Int32.ofNat (fi bs 0)), (Int32.ofNat (pMk bs).1.length), tl, tt8, (Int32.ofNat (fi bs 0)), (Int32.ofNat (pMk bs).1.length), tl, tt8, (0 : Int32), now', last', fp', d', fg', fl', q', fs', ft', be', ah', pp, tp, spl, tt, bf, (fun k => if k < (pMk bs).1.length then tp k else a_m_powers k), T', a_m_layers, (Int32.ofNat (fi bs 0)), (Int32.ofNat (pMk bs).1.length), un', (0 : Int32), pl9, (0 : Int32), (Int32.ofNat (fi bs 0)), (Int32.ofNat (pMk bs).1.length), (1 : Int32), (Int32.ofNat (pL bs)), (Int32.ofNat ((pMk bs).2.1 + 1)), (Int32.ofNat (pSl bs).1.length), (Int32.ofNat (pL bs)), m_isWhy, (Int32.ofNat (pSl bs).1.length), do', go8 _ _ _ _ _ _ _ _ _ es, ?_, _, new, _, [], stl_V hV hVn, hD8, hD9, hs, he, TN_mono hT, hTP0, hWY, hHO, hIM⟩
        unfold F_X9_read
        rw [e9, bd_s]
        dsimp only
        rw [if_pos i00, hwf, bd_s, if_pos (by decide), eb, bd_s, pw_cp m2 (x1 := (pp, tp, spl, tt, pl9, (0 : Int32), Int32.ofNat (fi bs 0), Int32.ofNat (pMk bs).1.length, (1 : Int32), Int32.ofNat (pL bs), Int32.ofNat ((pMk bs).2.1 + 1), Int32.ofNat (pSl bs).1.length)) rfl]
        unfold K_X9_read_89_115
        dsimp only
        rw [if_neg i10]
        have eT' := eT (K_X9_read_137_161 m_done m_undone m_isWhy a_m_layers a_m_behind a_m_ahead (pp, tp, spl, tt, pl9, (0 : Int32), Int32.ofNat (fi bs 0), Int32.ofNat (pMk bs).1.length, (1 : Int32), Int32.ofNat (pL bs), Int32.ofNat ((pMk bs).2.1 + 1), Int32.ofNat (pSl bs).1.length) bf (fun k => if k < (pMk bs).1.length then tp k else a_m_powers k))
        refine Eq.trans eT' ?_
        unfold K_X9_read_137_161
        dsimp only
        rw [ee, bd_s]
      · obtain ⟨z1, z2⟩ := x2 c3
        have hT0 := y2 c3
        subst hT0
        obtain ⟨new, hnew, hVn, hD8, go8⟩ := fin8 cur.2.2.1 cur.2.2.2 (z1.trans q3) (z2.trans q4) hVc.2.2.2.1 hVc.2.2.2.2.1 hVc.2.2.2.2.2
        have hD9 : D9 (Int32.ofNat (fi bs 0)) (Int32.ofNat (pMk bs).1.length) m_leaves m_splits (fun k => if k < (pMk bs).1.length then tp k else a_m_powers k) a_m_tree new := by
          subst hnew
          exact ⟨rfl, by rw [hlen], w3, w4, rp_D r9', w6⟩
        obtain ⟨now', last', fp', d', fg', fl', q', fs', ft', es, hs⟩ := settle8 d_x_deeds_desks q_x_deeds_desks hH8 hD8 hV hVn
        obtain ⟨be', ah', un', do', ee, he⟩ := ends9 hD9 hVn hVc hbf hH9 hH8.2.2.1
        refine ⟨Int32.ofNat (pMk bs).1.length, pws, (fun k => if k < 8 then pws k else a_x_desk_powers k), a_x_reader_causes, x_reader_refused, pl8, (-1 : Int32), (Int32.ofNat (fi bs 0)), (Int32.ofNat (pMk bs).1.length), tl, tt8, (Int32.ofNat (fi bs 0)), (Int32.ofNat (pMk bs).1.length), tl, tt8, (0 : Int32), now', last', fp', d', fg', fl', q', fs', ft', be', ah', pp, tp, spl, tt, bf, (fun k => if k < (pMk bs).1.length then tp k else a_m_powers k), a_m_tree, a_m_layers, (Int32.ofNat (fi bs 0)), (Int32.ofNat (pMk bs).1.length), un', (0 : Int32), pl9, (0 : Int32), (Int32.ofNat (fi bs 0)), (Int32.ofNat (pMk bs).1.length), (0 : Int32), L9, lp9, k9, m_leaves, m_isWhy, m_splits, do', go8 _ _ _ _ _ _ _ _ _ es, ?_, _, new, _, [], stl_V hV hVn, hD8, hD9, hs, he, TN_mono hT, hTP0, hWY, hHO, hIM⟩
        unfold F_X9_read
        rw [e9, bd_s]
        dsimp only
        rw [if_pos i00, hwf, bd_s, if_pos (by decide), eb, bd_s, pw_cp m2 (x1 := (pp, tp, spl, tt, pl9, (0 : Int32), Int32.ofNat (fi bs 0), Int32.ofNat (pMk bs).1.length, (0 : Int32), L9, lp9, k9)) rfl]
        unfold K_X9_read_89_115
        dsimp only
        rw [if_pos i00]
        unfold J_X9_read_161
        dsimp only
        rw [ee, bd_s]
