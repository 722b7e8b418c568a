/-! What is known of keys; where they are kept. -/
theorem chk_in {g n key : Nat} (hg : g < 3) (hn : n < 12) (h2 : 2 < 2 * g + n) (hk : key ∈ lkG g n) : chkK g n key = true := by
  have h : chkG g = true := by
    rcases (show g = 0 ∨ g = 1 ∨ g = 2 by omega) with rfl | rfl | rfl
    · exact keys0
    · exact keys1
    · exact keys2
  have h1 := List.all_eq_true.mp h n (List.mem_range.mpr hn)
  rw [Bool.or_eq_true] at h1
  rcases h1 with h1 | h1
  · rw [Nat.ble_eq] at h1; omega
  · exact List.all_eq_true.mp h1 key hk
theorem chk_of {key : Nat} (h : lgt key) : chkK (gOf key) (nOf key) key = true := chk_in h.1 h.2.1 h.2.2.1 h.2.2.2
/-- all that is checked of a key -/
def KF (g n key : Nat) : Prop := gOf key = g ∧ nOf key = n ∧ key < 4611686018427387904 ∧ 0 < key ∧ F_X3_ruleOf (Int64.ofNat key) = some (Int32.ofNat (rlK key)) ∧ F_X3_baseOf (Int64.ofNat key) = some (Int64.ofNat (bK key)) ∧
  (∀ p, 1 ≤ p → p ≤ 14 → F_X3_nextKey (Int64.ofNat key) (Int32.ofNat (rlK key)) (Int32.ofNat p) = some (Int64.ofNat (nxK key p))) ∧
  (∀ p, 1 ≤ p → p ≤ 14 → ¬ nxK key p = 0 → nxK key p ∈ lkG g (n - 1) ∧ 2 ≤ n ∧ 2 < 2 * g + n - 1 ∧ F_X3_weightOf (Int64.ofNat key) (Int32.ofNat (rlK key)) (Int32.ofNat p) = some (Int64.ofNat (wtK key p))) ∧
  VN key = bK key + ((List.range 14).map (fun i => if nxK key (i + 1) = 0 then 0 else wtK key (i + 1) * VN (nxK key (i + 1)))).sum ∧ VN key < 4294967296
theorem KF_of {g n key : Nat} (h : chkK g n key = true) : KF g n key := by
  unfold chkK at h
  simp only [Bool.and_eq_true, decide_eq_true_eq] at h
  obtain ⟨⟨⟨⟨⟨⟨⟨⟨⟨a1, a2⟩, a3⟩, a4⟩, a5⟩, a6⟩, a7⟩, a8⟩, a9⟩, a10⟩ := h
  refine ⟨a1, a2, a3, a4, a5, a6, fun p h1 h2 => ?_, fun p h1 h2 h0 => ?_, a9, a10⟩
  · have := List.all_eq_true.mp a7 (p - 1) (List.mem_range.mpr (by omega))
    rw [show p - 1 + 1 = p by omega] at this
    exact of_decide_eq_true this
  · have := List.all_eq_true.mp a8 (p - 1) (List.mem_range.mpr (by omega))
    rw [show p - 1 + 1 = p by omega, Bool.or_eq_true] at this
    rcases this with q | q
    · exact absurd (beq_iff_eq.mp q) h0
    · simp only [Bool.and_eq_true] at q
      obtain ⟨⟨⟨q1, q2⟩, q3⟩, q4⟩ := q
      exact ⟨List.mem_of_elem_eq_true q1, Nat.le_of_ble_eq_true q2, by rw [Nat.blt_eq] at q3; exact q3, of_decide_eq_true q4⟩
theorem KF_l {key : Nat} (h : lgt key) : KF (gOf key) (nOf key) key := KF_of (chk_of h)
theorem lgt_in {g n key : Nat} (hg : g < 3) (hn : n < 12) (h2 : 2 < 2 * g + n) (hk : key ∈ lkG g n) : lgt key ∧ gOf key = g ∧ nOf key = n := by
  obtain ⟨a, b, -⟩ := KF_of (chk_in hg hn h2 hk)
  refine ⟨⟨by omega, by omega, by omega, ?_⟩, a, b⟩
  rw [a, b]; exact hk
theorem nx_l {key p : Nat} (h : lgt key) (h1 : 1 ≤ p) (h2 : p ≤ 14) (h0 : ¬ nxK key p = 0) : lgt (nxK key p) ∧ gOf (nxK key p) = gOf key ∧ nOf (nxK key p) + 1 = nOf key := by
  obtain ⟨a, b, c, -⟩ := (KF_l h).2.2.2.2.2.2.2.1 p h1 h2 h0
  have := h.2.1
  obtain ⟨x, y, z⟩ := lgt_in (g := gOf key) (n := nOf key - 1) h.1 (by omega) (by omega) a
  exact ⟨x, y, by omega⟩
theorem k64_inj {a b : Nat} (ha : a < 9223372036854775808) (hb : b < 9223372036854775808) (h : Int64.ofNat a = Int64.ofNat b) : a = b := by
  have h1 := congrArg Int64.toInt h
  rw [Int64.toInt_ofNat_of_lt (by omega), Int64.toInt_ofNat_of_lt (by omega)] at h1
  omega
theorem k64_0 {key : Nat} (h : lgt key) : ¬ Int64.ofNat key = 0 := fun z => by
  obtain ⟨-, -, a, b, -⟩ := KF_l h
  have := k64_inj (a := key) (b := 0) (by omega) (by omega) z
  omega
theorem l64_inj {a b : Nat} (ha : lgt a) (hb : lgt b) (h : Int64.ofNat a = Int64.ofNat b) : a = b := by
  obtain ⟨-, -, x, -⟩ := KF_l ha
  obtain ⟨-, -, y, -⟩ := KF_l hb
  exact k64_inj (by omega) (by omega) h
theorem and1023 (a : Nat) : a &&& 1023 = a % 1024 := Nat.and_two_pow_sub_one_eq_mod a 10
theorem hS_e (k : Int64) : (lush (k * (-7046029254386353131 : Int64)) (54 : Int32)).toInt32 &&& (1023 : Int32) = Int32.ofNat (hS k) := of_bv _
theorem hS_lt (k : Int64) : hS k < 1024 := by
  unfold hS
  rw [Int32.toBitVec_and, BitVec.toNat_and]
  have h : ((1023 : Int32).toBitVec).toNat = 1023 := rfl
  rw [h]
  have := @Nat.and_le_right ((lush (k * (-7046029254386353131 : Int64)) (54 : Int32)).toInt32).toBitVec.toNat 1023
  omega
theorem pS_lt (k : Int64) (t : Nat) : pS k t < 1024 := Nat.mod_lt _ (by omega)
theorem pS_s (k : Int64) (t : Nat) : (Int32.ofNat (pS k t) + (1 : Int32)) &&& (1023 : Int32) = Int32.ofNat (pS k (t + 1)) := by
  have e1 : Int32.ofNat (pS k t) + (1 : Int32) = Int32.ofNat (pS k t + 1) := n_add _ 1
  have e2 : (1023 : Int32) = Int32.ofNat 1023 := rfl
  rw [e1, e2, n_and, and1023]
  congr 1
  unfold pS
  omega
theorem walk8 (keys : Nat → Int64) (k : Int64) {m : Nat} (hm : ∀ j, j < m → ¬ keys (pS k j) = k ∧ ¬ keys (pS k j) = 0) (hm2 : m ≤ 1024) : ∃ n, FU = m + n ∧ F_X3_slotOf keys k = wq2 (B_X3_slotOf_17 keys k K_X3_slotOf_17_63) n (Int32.ofNat (pS k m)) (Int32.ofNat m) := by
  have key : ∀ m, m ≤ 1024 → (∀ j, j < m → ¬ keys (pS k j) = k ∧ ¬ keys (pS k j) = 0) → wq2 (B_X3_slotOf_17 keys k K_X3_slotOf_17_63) FU (Int32.ofNat (hS k)) (0 : Int32) = wq2 (B_X3_slotOf_17 keys k K_X3_slotOf_17_63) (FU - m) (Int32.ofNat (pS k m)) (Int32.ofNat m) := by
    intro m
    induction m with
    | zero =>
      intro _ _
      have : pS k 0 = hS k := by unfold pS; have := hS_lt k; omega
      rw [this]; rfl
    | succ m ih =>
      intro h1 h2
      rw [ih (by omega) (fun j hj => h2 j (by omega))]
      obtain ⟨n, hn⟩ : ∃ n, FU - m = n + 1 := ⟨FU - m - 1, by unfold FU; omega⟩
      have hn2 : FU - (m + 1) = n := by omega
      rw [hn, hn2]
      show B_X3_slotOf_17 keys k K_X3_slotOf_17_63 (Int32.ofNat (pS k m)) (Int32.ofNat m) (wq2 (B_X3_slotOf_17 keys k K_X3_slotOf_17_63) n) = _
      generalize wq2 (B_X3_slotOf_17 keys k K_X3_slotOf_17_63) n = W
      unfold B_X3_slotOf_17
      obtain ⟨a, b⟩ := h2 m (by omega)
      have c : ¬ (1024 : Int32) ≤ Int32.ofNat m := c_ge (m := 1024) (by omega) (by omega) (by omega)
      have hp := pS_lt k m
      have em : Int32.ofNat m + (1 : Int32) = Int32.ofNat (m + 1) := n_add m 1
      rw [if_neg c, ck_n hp (by omega), ck_n hp (by omega), n_clamp (by omega), if_neg (fun z => a ((lg_cmp_eq _ _).mp z)), if_neg (fun z => b ((lg_cmp_eq _ _).mp z)), pS_s, em]
  refine ⟨FU - m, by unfold FU; omega, ?_⟩
  unfold F_X3_slotOf
  rw [hS_e]
  exact key m hm2 hm
theorem slot_SL {keys : Nat → Int64} {k : Int64} {s : Nat} (h : SL keys k s) : F_X3_slotOf keys k = some (Int32.ofNat s) := by
  obtain ⟨t, h1, h2, h3, h4⟩ := h
  obtain ⟨n, hn, e⟩ := walk8 keys k h2 (by omega)
  rw [e]
  obtain ⟨n, rfl⟩ : ∃ q, n = q + 1 := ⟨n - 1, by unfold FU at hn; omega⟩
  show B_X3_slotOf_17 keys k K_X3_slotOf_17_63 (Int32.ofNat (pS k t)) (Int32.ofNat t) (wq2 (B_X3_slotOf_17 keys k K_X3_slotOf_17_63) n) = _
  unfold B_X3_slotOf_17
  have c : ¬ (1024 : Int32) ≤ Int32.ofNat t := c_ge (m := 1024) (by omega) (by omega) (by omega)
  have hp := pS_lt k t
  rw [if_neg c, ck_n hp (by omega), ck_n hp (by omega), n_clamp (by omega), h3]
  by_cases d : keys s = k
  · rw [if_pos ((lg_cmp_eq _ _).mpr d)]
  · rw [if_neg (fun z => d ((lg_cmp_eq _ _).mp z)), if_pos ((lg_cmp_eq _ _).mpr (h4.resolve_left d))]
theorem SL_lt {keys : Nat → Int64} {k : Int64} {s : Nat} (h : SL keys k s) : s < 1024 := by
  obtain ⟨t, -, -, h3, -⟩ := h
  rw [← h3]; exact pS_lt k t
theorem SL_inj {keys : Nat → Int64} {k : Int64} {s s' : Nat} (h : SL keys k s) (h' : SL keys k s') : s = s' := by
  have e := slot_SL h
  rw [slot_SL h'] at e
  have a := SL_lt h; have b := SL_lt h'
  exact ((n_inj (by omega) (by omega)).mp (Option.some.inj e)).symm
theorem slot_ex (keys : Nat → Int64) (k : Int64) : (∃ s, SL keys k s) ∨ (F_X3_slotOf keys k = some (-1 : Int32) ∧ ∀ s, s < 1024 → ¬ keys s = 0) := by
  obtain ⟨m, m1, m2, m3⟩ := stop3 (fun j => j < 1024 ∧ ¬ keys (pS k j) = k ∧ ¬ keys (pS k j) = 0) 1024 (fun z => absurd z.1 (by omega))
  by_cases c : m < 1024
  · refine Or.inl ⟨pS k m, m, c, fun j hj => (m2 j hj).2, rfl, ?_⟩
    by_cases d : keys (pS k m) = k
    · exact Or.inl d
    · exact Or.inr (Classical.byContradiction fun z => m3 ⟨c, d, z⟩)
  · have e : m = 1024 := by omega
    subst e
    refine Or.inr ⟨?_, fun s hs => ?_⟩
    · obtain ⟨n, hn, e⟩ := walk8 keys k (fun j hj => (m2 j hj).2) (by omega)
      rw [e]
      obtain ⟨n, rfl⟩ : ∃ q, n = q + 1 := ⟨n - 1, by unfold FU at hn; omega⟩
      show B_X3_slotOf_17 keys k K_X3_slotOf_17_63 (Int32.ofNat (pS k 1024)) (Int32.ofNat 1024) (wq2 (B_X3_slotOf_17 keys k K_X3_slotOf_17_63) n) = _
      unfold B_X3_slotOf_17
      rw [if_pos (by decide)]; rfl
    · have hh := hS_lt k
      have := (m2 ((s + 1024 - hS k) % 1024) (Nat.mod_lt _ (by omega))).2.2
      have e : pS k ((s + 1024 - hS k) % 1024) = s := by unfold pS; omega
      rw [e] at this; exact this
/-- all keys -/
def lkAll : List Nat := (List.range 3).flatMap (fun g => (List.range 12).flatMap (fun n => lkG g n))
theorem lk_len : lkAll.length < 1024 := by decide +kernel
theorem lk_mem {key : Nat} (h : lgt key) : key ∈ lkAll := List.mem_flatMap.mpr ⟨gOf key, List.mem_range.mpr h.1, List.mem_flatMap.mpr ⟨nOf key, List.mem_range.mpr h.2.1, h.2.2.2⟩⟩
theorem TI_free {keys aboves : Nat → Int64} (h : TI keys aboves) : ∃ s, s < 1024 ∧ keys s = 0 := Classical.byContradiction fun c => by
  have nz : ∀ s, s < 1024 → ¬ keys s = 0 := fun s hs z => c ⟨s, hs, z⟩
  have nd : ((List.range 1024).map keys).Nodup := by
    unfold List.Nodup
    rw [List.pairwise_map]
    refine List.Pairwise.imp_of_mem (R := fun a b => a ≠ b) (fun {a b} ha hb hab e => hab ?_) List.nodup_range
    rw [List.mem_range] at ha hb
    obtain ⟨ka, l1, l2, l3, l4, -⟩ := (h a ha).resolve_left (nz a ha)
    obtain ⟨kb, r1, r2, r3, r4, -⟩ := (h b hb).resolve_left (nz b hb)
    have e2 : Int64.ofNat ka = Int64.ofNat kb := by rw [← l2, ← r2]; exact e
    rw [e2] at l4
    exact SL_inj l4 r4
  have sub : (List.range 1024).map keys ⊆ lkAll.map Int64.ofNat := fun k hk => by
    obtain ⟨s, hs, rfl⟩ := List.mem_map.mp hk
    rw [List.mem_range] at hs
    obtain ⟨ks, l1, l2, -⟩ := (h s hs).resolve_left (nz s hs)
    rw [l2]; exact List.mem_map.mpr ⟨ks, lk_mem l1, rfl⟩
  have := nd.length_le_of_subset sub
  rw [List.length_map, List.length_map, List.length_range] at this
  have := lk_len
  omega
theorem TI_slot {keys aboves : Nat → Int64} (h : TI keys aboves) (k : Int64) : ∃ s, SL keys k s := by
  rcases slot_ex keys k with h1 | ⟨-, h1⟩
  · exact h1
  · obtain ⟨s, hs, h0⟩ := TI_free h
    exact absurd h0 (h1 s hs)
theorem vpL_e (f : Nat → Int64) (i j : Nat) (v : Int64) : vp_updL f i v j = if j = i then v else f j := rfl
theorem SL_keep {keys : Nat → Int64} {k k2 : Int64} {s s2 : Nat} (h : SL keys k s) (hk : keys s = k) (h0 : ¬ k = 0) (h2 : keys s2 = 0) : SL (vp_updL keys s2 k2) k s := by
  obtain ⟨t, a, b, c, d⟩ := h
  have ns : ¬ s = s2 := fun z => h0 (by rw [← hk, z, h2])
  refine ⟨t, a, fun j hj => ?_, c, Or.inl (by rw [vpL_e, if_neg ns]; exact hk)⟩
  have nj : ¬ pS k j = s2 := fun z => (b j hj).2 (by rw [z]; exact h2)
  rw [vpL_e, if_neg nj]; exact b j hj
theorem SL_new {keys : Nat → Int64} {k : Int64} {s : Nat} (h : SL keys k s) (h2 : keys s = 0) : SL (vp_updL keys s k) k s := by
  obtain ⟨t, a, b, c, d⟩ := h
  refine ⟨t, a, fun j hj => ?_, c, Or.inl (by rw [vpL_e, if_pos rfl])⟩
  have nj : ¬ pS k j = s := fun z => (b j hj).2 (by rw [z]; exact h2)
  rw [vpL_e, if_neg nj]; exact b j hj
theorem sto_keep {keys : Nat → Int64} {key : Nat} {k2 : Int64} {s2 : Nat} (h : sto keys key) (h0 : ¬ Int64.ofNat key = 0) (h2 : keys s2 = 0 ∨ keys s2 = k2) : sto (vp_updL keys s2 k2) key := by
  obtain ⟨s, hs, e⟩ := h
  by_cases c : s = s2
  · subst c
    rcases h2 with h2 | h2
    · exact absurd (e.symm.trans h2) h0
    · exact ⟨s, hs, by rw [vpL_e, if_pos rfl, ← h2]; exact e⟩
  · exact ⟨s, hs, by rw [vpL_e, if_neg c]; exact e⟩
theorem keepT {keys aboves : Nat → Int64} (h : TI keys aboves) {key : Nat} (hk : lgt key) (hn : ∀ p, 1 ≤ p → p ≤ 14 → ¬ nxK key p = 0 → sto keys (nxK key p)) :
    ∃ keys' aboves', F_X3_keep keys aboves (Int64.ofNat key) (Int64.ofNat (VN key)) = some (keys', aboves') ∧ TI keys' aboves' ∧ sto keys' key ∧ ∀ k, lgt k → sto keys k → sto keys' k := by
  obtain ⟨s, hs⟩ := TI_slot h (Int64.ofNat key)
  have hlt := SL_lt hs
  have k0 := k64_0 hk
  have hc : keys s = 0 ∨ keys s = Int64.ofNat key := by
    obtain ⟨t, -, -, -, d⟩ := hs
    exact d.symm
  refine ⟨vp_updL keys s (Int64.ofNat key), vp_updL aboves s (Int64.ofNat (VN key)), ?_, ?_, ⟨s, hlt, by rw [vpL_e, if_pos rfl]⟩, fun k hk hs2 => sto_keep hs2 (k64_0 hk) hc⟩
  · unfold F_X3_keep
    have nm : ¬ Int32.ofNat s = (-1 : Int32) := fun z => by
      have z1 := congrArg Int32.toInt z
      rw [n_toInt (by omega), show (-1 : Int32).toInt = -1 from rfl] at z1
      omega
    rw [slot_SL hs, bd_s, if_neg nm, ck_n hlt (by omega), ck_n hlt (by omega), n_clamp (by omega)]
  · intro u hu
    by_cases c : u = s
    · subst c
      refine Or.inr ⟨key, hk, by rw [vpL_e, if_pos rfl], by rw [vpL_e, if_pos rfl], ?_, fun p h1 h2 h0 => sto_keep (hn p h1 h2 h0) (k64_0 (nx_l hk h1 h2 h0).1) hc⟩
      rcases hc with hc | hc
      · exact SL_new hs hc
      · have e : vp_updL keys u (Int64.ofNat key) = keys := by
          funext j
          rw [vpL_e]
          by_cases d : j = u
          · rw [if_pos d, d, hc]
          · rw [if_neg d]
        rw [e]; exact hs
    · rw [vpL_e, vpL_e, if_neg c, if_neg c]
      rcases h u hu with h0 | ⟨ku, l1, l2, l3, l4, l5⟩
      · exact Or.inl h0
      · refine Or.inr ⟨ku, l1, l2, l3, ?_, fun p h1 h2 h0 => sto_keep (l5 p h1 h2 h0) (k64_0 (nx_l l1 h1 h2 h0).1) hc⟩
        rcases hc with hc | hc
        · exact SL_keep l4 l2 (k64_0 l1) hc
        · have e : vp_updL keys s (Int64.ofNat key) = keys := by
            funext j
            rw [vpL_e]
            by_cases d : j = s
            · rw [if_pos d, d, hc]
            · rw [if_neg d]
          rw [e]; exact l4
