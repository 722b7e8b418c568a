/-! The model's text; spell(). -/
theorem app_lpk {R : Type} {Bk : ((Nat → Int32) → Int32 → Option R) → (Nat → Int32) → Int32 → Int32 → ((Nat → Int32) → Int32 → Int32 → Option R) → Option R} (N : Nat) (hN : N < 6000) (A : Nat → List Nat)
    (step : ∀ j, j < N → ∀ f, rp f (A j) → ∃ f', rp f' (A (j + 1)) ∧ ∀ kk ag, Bk kk f (Int32.ofNat (A j).length) (Int32.ofNat j) ag = ag f' (Int32.ofNat (A (j + 1)).length) (Int32.ofNat (j + 1)))
    (exit : ∀ kk f ag, Bk kk f (Int32.ofNat (A N).length) (Int32.ofNat N) ag = kk f (Int32.ofNat (A N).length)) {f : Nat → Int32} {n : Int32} (hn : n = Int32.ofNat (A 0).length) (h0 : rp f (A 0)) :
    ∃ f', rp f' (A N) ∧ ∀ kk, wq3 (Bk kk) FU f n (0 : Int32) = kk f' (Int32.ofNat (A N).length) := by
  have key : ∀ d j, j + d = N → ∀ n, d < n → ∀ f, rp f (A j) → ∃ f', rp f' (A N) ∧ ∀ kk, wq3 (Bk kk) n f (Int32.ofNat (A j).length) (Int32.ofNat j) = kk f' (Int32.ofNat (A N).length) := by
    intro d
    induction d with
    | zero =>
      intro j hj n hn f hf
      obtain ⟨n, rfl⟩ : ∃ m, n = m + 1 := ⟨n - 1, by omega⟩
      have e : j = N := by omega
      subst e
      exact ⟨f, hf, fun kk => exit kk f _⟩
    | succ d ih =>
      intro j hj n hn f hf
      obtain ⟨n, rfl⟩ : ∃ m, n = m + 1 := ⟨n - 1, by omega⟩
      obtain ⟨f1, h1, h2⟩ := step j (by omega) f hf
      obtain ⟨f', h3, h4⟩ := ih (j + 1) (by omega) n (by omega) f1 h1
      exact ⟨f', h3, fun kk => (h2 kk _).trans (h4 kk)⟩
  subst hn
  exact key N 0 (by omega) FU (by unfold FU; omega) f h0
theorem spells9 {g n l s : Int32} {mp mt : Nat → Int32} {a : AD} (h : D9 g n l s mp mt a) (hv : VD a) (f : Nat → Int32) : ∃ f', F_X9_spells g n l s f mp mt = some (f', Int32.ofNat (txt a).length) ∧ rp f' (txt a) := by
  obtain ⟨rfl, rfl, rfl, rfl, hp, ht⟩ := h
  have n8 := hv.2.1
  have c3 := VD_tlen hv
  have L3 := hv.2.2.2.1
  have L6 := hv.2.2.2.2.1
  have e48 : ∀ d, (48 : Int32) + Int32.ofNat d = Int32.ofNat (48 + d) := fun d => n_add 48 d
  obtain ⟨f1, e1, r1⟩ := wr9 (rp_nil f) (by simp) (48 + a.1)
  obtain ⟨f2, e2, r2⟩ := wr9 r1 (by simp) 58
  have e1' : F_X9_writes (0 : Int32) f (Int32.ofNat (48 + a.1)) = some (f1, Int32.ofNat ([] ++ [48 + a.1]).length) := e1
  have e2' : F_X9_writes (Int32.ofNat ([] ++ [48 + a.1]).length) f1 (58 : Int32) = some (f2, Int32.ofNat ([] ++ [48 + a.1] ++ [58]).length) := e2
  have r2' : rp f2 (txt1 a 0) := r2
  unfold F_X9_spells
  rw [e48, e1', bd_s]
  dsimp only
  rw [e2', bd_s]
  dsimp only
  obtain ⟨f3, r3, e3⟩ := app_lp (B := B_X9_spells_24 (Int32.ofNat a.2.1.length) mp (K_X9_spells_24_81 (Int32.ofNat a.2.2.1) (Int32.ofNat a.2.2.2.length) mt)) (K_X9_spells_24_81 (Int32.ofNat a.2.2.1) (Int32.ofNat a.2.2.2.length) mt) a.2.1.length (by omega) (fun j => txt1 a j) (fun j hj f hf => by
    have hlj := txt1_len hv (j := j)
    have ej : Int32.ofNat j + (1 : Int32) = Int32.ofNat (j + 1) := n_add j 1
    have hd : a.2.1.getD j 0 ≤ 12 := getD_le hv.2.2.1
    have ea : txt1 a (j + 1) = txt1 a j ++ ((if j = 0 then [] else [44]) ++ pwT (a.2.1.getD j 0)) := by unfold txt1; rw [msT_s, List.append_assoc]
    obtain ⟨t1, t2⟩ := ten12 (a.2.1.getD j 0) (by omega)
    have pw9 : ∀ (q : List Nat) (f : Nat → Int32), rp f q → q.length + 1 < 80 → ∃ f', rp f' (q ++ pwT (a.2.1.getD j 0)) ∧ ∀ ag, J_X9_spells_42 mp (Int32.ofNat j) ag f (Int32.ofNat q.length) = ag f' (Int32.ofNat (q ++ pwT (a.2.1.getD j 0)).length) (Int32.ofNat (j + 1)) := fun q f hf hq => by
      by_cases c : a.2.1.getD j 0 < 10
      · have c1 : Int32.ofNat (a.2.1.getD j 0) ≤ (9 : Int32) := (n_le (b := 9) (by omega) (by omega)).mpr (by omega)
        have ep : pwT (a.2.1.getD j 0) = [48 + a.2.1.getD j 0 % 10] := by unfold pwT; rw [if_pos c]; rfl
        obtain ⟨f', e, r⟩ := wr9 hf (by omega) (48 + a.2.1.getD j 0 % 10)
        refine ⟨f', by rw [ep]; exact r, fun ag => ?_⟩
        unfold J_X9_spells_42 J_X9_spells_59
        rw [ck_n (by omega) (by omega), n_clamp (by omega), hp j hj, if_pos c1, ck_n (by omega) (by omega), t2, e48, e, bd_s, ej, ep]
      · have c1 : ¬ Int32.ofNat (a.2.1.getD j 0) ≤ (9 : Int32) := fun z => by have := (n_le (b := 9) (by omega) (by omega)).mp z; omega
        obtain ⟨f1, e1, r1⟩ := wr9 hf (by omega) 49
        have e1' : F_X9_writes (Int32.ofNat q.length) f (49 : Int32) = some (f1, Int32.ofNat (q ++ [49]).length) := e1
        obtain ⟨f', e, r⟩ := wr9 r1 (by rw [List.length_append, List.length_singleton]; omega) (48 + a.2.1.getD j 0 % 10)
        have ep : q ++ pwT (a.2.1.getD j 0) = q ++ [49] ++ [48 + a.2.1.getD j 0 % 10] := by unfold pwT; rw [if_neg c, List.append_assoc]
        refine ⟨f', by rw [ep]; exact r, fun ag => ?_⟩
        unfold J_X9_spells_42 J_X9_spells_59
        rw [ck_n (by omega) (by omega), n_clamp (by omega), hp j hj, if_neg c1, e1', bd_s]
        dsimp only
        rw [ck_n (by omega) (by omega), t2, e48, e, bd_s, ej, ep]
    by_cases c : j = 0
    · rw [if_pos c, List.nil_append] at ea
      obtain ⟨f', r, e⟩ := pw9 (txt1 a j) f hf (by omega)
      refine ⟨f', by rw [ea]; exact r, fun ag => ?_⟩
      unfold B_X9_spells_24
      rw [if_neg (c_ge (by omega) (by omega) hj), if_pos ((le0_iff (by omega)).mpr c), e, ea]
    · rw [if_neg c] at ea
      obtain ⟨f1, e1, r1⟩ := wr9 hf (by omega) 44
      have e1' : F_X9_writes (Int32.ofNat (txt1 a j).length) f (44 : Int32) = some (f1, Int32.ofNat (txt1 a j ++ [44]).length) := e1
      obtain ⟨f', r, e⟩ := pw9 (txt1 a j ++ [44]) f1 r1 (by rw [List.length_append, List.length_singleton]; omega)
      rw [List.append_assoc] at r
      refine ⟨f', by rw [ea]; exact r, fun ag => ?_⟩
      unfold B_X9_spells_24
      rw [if_neg (c_ge (by omega) (by omega) hj), if_neg (fun z => c ((le0_iff (by omega)).mp z)), e1', bd_s]
      dsimp only
      rw [e, ea, List.append_assoc]) (fun f ag => by
    unfold B_X9_spells_24
    rw [if_pos ((n_le (by omega) (by omega)).mpr (Nat.le_refl _))]) (f := f2) (n := Int32.ofNat ([] ++ [48 + a.1] ++ [58]).length) rfl r2'
  rw [e3]
  unfold K_X9_spells_24_81
  have hl1 := txt1_len hv (j := a.2.1.length)
  obtain ⟨f4, e4, r4⟩ := wr9 r3 (by omega) 47
  have e4' : F_X9_writes (Int32.ofNat (txt1 a a.2.1.length).length) f3 (47 : Int32) = some (f4, Int32.ofNat (txt1 a a.2.1.length ++ [47]).length) := e4
  obtain ⟨f5, e5, r5⟩ := wr9 r4 (by rw [List.length_append, List.length_singleton]; omega) (48 + a.2.2.1)
  have z0 : txt1 a a.2.1.length ++ [47] ++ [48 + a.2.2.1] = txt2 a 0 := by unfold txt2; rw [show spT a.2.2.2 0 = [] from rfl, List.append_nil]
  rw [z0] at e5 r5
  rw [e4', bd_s]
  dsimp only
  rw [e48, e5, bd_s]
  dsimp only
  obtain ⟨f6, r6, e6⟩ := app_lp (B := B_X9_spells_100 (Int32.ofNat a.2.2.1) (Int32.ofNat a.2.2.2.length) mt K_X9_spells_100_158) K_X9_spells_100_158 a.2.2.2.length (by omega) (fun j => txt2 a j) (fun j hj f hf => by
    have hlj := txt2_len hv (j := j) (by omega)
    have ej : Int32.ofNat j + (1 : Int32) = Int32.ofNat (j + 1) := n_add j 1
    have gm : a.2.2.2.getD j 0 ∈ a.2.2.2 := by rw [getD_el hj]; exact List.getElem_mem hj
    have hs := vt_small L6 hv.2.2.2.2.2 _ gm
    have hsL := vt_pow hv.2.2.2.2.2 _ gm
    have ea : txt2 a (j + 1) = txt2 a j ++ 59 :: fgs (a.2.2.2.getD j 0) 6 := by unfold txt2; rw [spT_s]; simp only [List.append_assoc]
    have e6L : fgs (a.2.2.2.getD j 0) 6 = fgs (a.2.2.2.getD j 0) a.2.2.1 := by
      have := fgs_ge hsL (6 - a.2.2.1)
      rw [show a.2.2.1 + (6 - a.2.2.1) = 6 by omega] at this; exact this
    obtain ⟨f1, e1, r1⟩ := wr9 hf (by omega) 59
    have e1' : F_X9_writes (Int32.ofNat (txt2 a j).length) f (59 : Int32) = some (f1, Int32.ofNat (txt2 a j ++ [59]).length) := e1
    obtain ⟨f', r, e⟩ := app_lpk (Bk := fun kk => B_X9_spells_116 (Int32.ofNat a.2.2.1) mt (Int32.ofNat j) kk) (R := (Nat → Int32) × Int32) a.2.2.1 (by omega) (fun b => txt2 a j ++ 59 :: fgs (a.2.2.2.getD j 0) b) (fun b hb f hf => by
      have hlb : (txt2 a j ++ 59 :: fgs (a.2.2.2.getD j 0) b).length < 80 := by
        have := fgs_len (a.2.2.2.getD j 0) b
        rw [List.length_append, List.length_cons]; omega
      have eb : Int32.ofNat b + (1 : Int32) = Int32.ofNat (b + 1) := n_add b 1
      have ea : txt2 a j ++ 59 :: fgs (a.2.2.2.getD j 0) (b + 1) = (txt2 a j ++ 59 :: fgs (a.2.2.2.getD j 0) b) ++ if (a.2.2.2.getD j 0).testBit b = true then [48 + b] else [] := by rw [fgs_s]; simp
      by_cases c : (a.2.2.2.getD j 0).testBit b = true
      · rw [if_pos c] at ea
        obtain ⟨f', e, r⟩ := wr9 hf hlb (48 + b)
        refine ⟨f', by rw [ea]; exact r, fun kk ag => ?_⟩
        unfold B_X9_spells_116
        rw [if_neg (c_ge (by omega) (by omega) hb), ck_n (by omega) (by omega), n_clamp (by omega), ht j hj, bit6 _ hs b (by omega), if_pos c, if_pos rfl, e48, e, bd_s, eb, ea]
      · rw [if_neg c, List.append_nil] at ea
        refine ⟨f, by rw [ea]; exact hf, fun kk ag => ?_⟩
        unfold B_X9_spells_116
        rw [if_neg (c_ge (by omega) (by omega) hb), ck_n (by omega) (by omega), n_clamp (by omega), ht j hj, bit6 _ hs b (by omega), if_neg c, if_neg (by decide), eb, ea]) (fun kk f ag => by
      unfold B_X9_spells_116
      rw [if_pos ((n_le (by omega) (by omega)).mpr (Nat.le_refl _))]) (f := f1) (n := Int32.ofNat (txt2 a j ++ [59]).length) rfl r1
    rw [← e6L] at r e
    refine ⟨f', by rw [ea]; exact r, fun ag => ?_⟩
    unfold B_X9_spells_100
    rw [if_neg (c_ge (by omega) (by omega) hj), e1', bd_s]
    dsimp only
    have e7 := e (K_X9_spells_116_152 (Int32.ofNat j) ag)
    rw [e7]
    unfold K_X9_spells_116_152
    rw [ej, ea]) (fun f ag => by
    unfold B_X9_spells_100
    rw [if_pos ((n_le (by omega) (by omega)).mpr (Nat.le_refl _))]) (f := f5) (n := Int32.ofNat (txt2 a 0).length) rfl r5
  rw [e6]
  exact ⟨f6, rfl, r6⟩
theorem ls_spell : LS_spell LR := by
  intro k d_x_deeds_desks q_x_deeds_desks x_imageKept x_desk_genus x_desk_size x_desk_limit x_desk_tree a_x_desk_powers x_imageDesk_genus x_imageDesk_size x_imageDesk_limit x_imageDesk_tree a_x_imageDesk_powers x_deeds_now x_deeds_last a_x_deeds_desks x_deeds_desks_genus x_deeds_desks_size x_deeds_desks_limit x_deeds_desks_tree x_numbers_round x_numbers_size x_numbers_sum x_numbers_gathered a_x_numbers_keys a_x_numbers_aboves a_x_numbers_rounds x_reader_refused x_reader_place x_reader_cannotBe x_tape_size a_x_tape_bytes x_reader_told_genus x_reader_told_size x_reader_told_limit x_reader_told_tree a_x_reader_told_powers a_x_reader_causes x_speller_size a_x_speller_bytes a_x_holders x_holders_sort x_holders_tree x_holders_limit x_holders_above x_holders_size m_genus m_marks m_leaves m_splits m_done m_undone m_metMany m_treesSeen m_taped m_place m_isWrong m_toldGenus m_toldMarks m_isTree m_toldLeaves m_leavesPlace m_toldSplits m_isWhy m_papered m_isKept a_m_powers a_m_tree a_m_ahead a_m_behind a_m_before a_m_rows a_m_met a_m_metSizes a_m_chosen a_m_tape a_m_toldPowers a_m_powerPlaces a_m_toldTree a_m_splitPlaces a_m_layers a_m_paper a_m_held a_m_numbers a_m_sizes a_m_heldLeaves a_m_items a_m_kept p0 hk hLR
  obtain ⟨us, cur, rs, bs, hV, h8, h9, hH8, hH9, hT, hTP, hWY, hHO, hIM⟩ := hLR
  have hVc : VD cur := hV cur (List.mem_append_right _ List.mem_cons_self)
  obtain ⟨f8, e8, r8⟩ := tell8 h8 hVc a_x_speller_bytes
  obtain ⟨f9, e9, r9⟩ := spells9 h9 hVc a_m_paper
  have hl : (txt cur).length ≤ 39 := txt2_len1 hVc (Nat.le_refl _)
  by_cases c : (-1 : Int32) ≤ p0
  · by_cases d : p0 = (-1 : Int32)
    · refine ⟨Int32.ofNat (txt cur).length, f8, (Int32.ofNat (txt cur).length), f9, (Int32.ofNat (txt cur).length), ?_, ?_, ⟨us, cur, rs, bs, hV, h8, h9, hH8, hH9, TN_mono hT, hTP, hWY, hHO, hIM⟩⟩
      · unfold F_X8_spell; rw [if_pos c, e8, bd_s, if_pos d]
      · unfold F_X9_spell; rw [if_pos c, e9, bd_s, if_pos d]
    · have n0 : 0 ≤ p0.toInt := by
        rw [Int32.le_iff_toInt_le, show (-1 : Int32).toInt = -1 from rfl] at c
        have : ¬ p0.toInt = -1 := fun z => d (Int32.toInt_inj.mp (by rw [z]; rfl))
        omega
      obtain ⟨i, hi, rfl⟩ := i_ofNat n0
      by_cases e : i < (txt cur).length
      · have hv : (txt cur)[i]? = some ((txt cur).getD i 0) := by rw [List.getD_eq_getElem?_getD, List.getElem?_eq_getElem e]; rfl
        refine ⟨Int32.ofNat ((txt cur).getD i 0), f8, (Int32.ofNat (txt cur).length), f9, (Int32.ofNat (txt cur).length), ?_, ?_, ⟨us, cur, rs, bs, hV, h8, h9, hH8, hH9, TN_mono hT, hTP, hWY, hHO, hIM⟩⟩
        · unfold F_X8_spell F_X5_byteAt
          rw [if_pos c, e8, bd_s, if_neg d]
          dsimp only
          rw [if_neg (n_neg hi), if_neg (c_ge (by omega) hi e), if_neg (show ¬ (39 : Int32) ≤ Int32.ofNat i from c_ge (m := 39) (by omega) hi (by omega)), ck_n (by omega) (by omega), n_clamp hi, bd_s, r8 _ _ hv]
        · unfold F_X9_spell
          rw [if_pos c, e9, bd_s, if_neg d]
          dsimp only
          rw [if_neg (c_ge (by omega) hi e), ck_n (by omega) (by omega), n_clamp hi, r9 _ _ hv]
      · refine ⟨-2, f8, (Int32.ofNat (txt cur).length), f9, (Int32.ofNat (txt cur).length), ?_, ?_, ⟨us, cur, rs, bs, hV, h8, h9, hH8, hH9, TN_mono hT, hTP, hWY, hHO, hIM⟩⟩
        · unfold F_X8_spell F_X5_byteAt
          rw [if_pos c, e8, bd_s, if_neg d]
          dsimp only
          rw [if_neg (n_neg hi), if_pos ((n_le (by omega) hi).mpr (by omega)), bd_s]
        · unfold F_X9_spell
          rw [if_pos c, e9, bd_s, if_neg d]
          dsimp only
          rw [if_pos ((n_le (by omega) hi).mpr (by omega))]
  · refine ⟨-1, a_x_speller_bytes, x_speller_size, a_m_paper, m_papered, ?_, ?_, ⟨us, cur, rs, bs, hV, h8, h9, hH8, hH9, TN_mono hT, hTP, hWY, hHO, hIM⟩⟩
    · unfold F_X8_spell; rw [if_neg c]
    · unfold F_X9_spell; rw [if_neg c]
