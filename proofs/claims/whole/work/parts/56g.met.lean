/-! met(). -/
def GR (g key : Nat) (R : List (List Nat)) : Prop := R.Nodup ∧ ∀ t ∈ R, vR g t ∧ t.length ≤ 8 ∧ t.Pairwise (fun p q => p ≤ q) ∧ Rch key (gK g t)
def hasK (g : Nat) (R : List (List Nat)) (k : Nat) : Prop := ∃ t ∈ R, gK g t = k
def Ext (R R' : List (List Nat)) : Prop := ∃ X, R' = R ++ X
theorem gK_inj {g : Nat} {r t : List Nat} (hr : vR g r) (ht : vR g t) (sr : r.Pairwise (fun p q => p ≤ q)) (st : t.Pairwise (fun p q => p ≤ q)) (h : gK g r = gK g t) : r = t := by
  have hp : r.Perm t := by
    rw [List.perm_iff_count]
    intro p
    by_cases c : p < 15
    · rw [← (rep_f hr).1 p c, ← (rep_f ht).1 p c, h]
    · have z1 : r.count p = 0 := Classical.byContradiction fun z => by
        have := vR_le hr p (cnt_mem.mp (by omega)); omega
      have z2 : t.count p = 0 := Classical.byContradiction fun z => by
        have := vR_le ht p (cnt_mem.mp (by omega)); omega
      rw [z1, z2]
  exact List.Perm.eq_of_pairwise (fun a b _ _ h1 h2 => by omega) sr st hp
theorem GR_nd {g key : Nat} {R : List (List Nat)} (h : GR g key R) : (R.map (gK g)).Nodup := by
  unfold List.Nodup
  rw [List.pairwise_map]
  refine List.Pairwise.imp_of_mem (R := fun a b => a ≠ b) (fun {a b} ha hb hab e => hab ?_) h.1
  obtain ⟨a1, a2, a3, a4⟩ := h.2 a ha
  obtain ⟨b1, b2, b3, b4⟩ := h.2 b hb
  exact gK_inj a1 b1 a3 b3 e
theorem GR_len {g key : Nat} {R : List (List Nat)} (h : GR g key R) : R.length < 1024 := by
  have sub : R.map (gK g) ⊆ lkAll := fun k hk => by
    obtain ⟨t, ht, rfl⟩ := List.mem_map.mp hk
    exact lk_mem (vR_l (h.2 t ht).1).1
  have := (GR_nd h).length_le_of_subset sub
  rw [List.length_map] at this
  have := lk_len
  omega
theorem GR_b {g key : Nat} {R : List (List Nat)} (h : GR g key R) : ∀ r ∈ R, r.length < 12 ∧ ∀ z ∈ r, z < 1000 := fun r hr => ⟨by have := (h.2 r hr).2.1; omega, vR_lt (h.2 r hr).1⟩
theorem Ext_at {R R' : List (List Nat)} (h : Ext R R') {m : Nat} {r : List Nat} (hm : R[m]? = some r) : R'[m]? = some r := by
  obtain ⟨X, rfl⟩ := h
  rw [List.getElem?_append_left (List.getElem?_eq_some_iff.mp hm).1]; exact hm
theorem Ext_has {g k : Nat} {R R' : List (List Nat)} (h : Ext R R') (hk : hasK g R k) : hasK g R' k := by
  obtain ⟨X, rfl⟩ := h
  obtain ⟨t, a, b⟩ := hk
  exact ⟨t, List.mem_append_left _ a, b⟩
theorem Ext_len {R R' : List (List Nat)} (h : Ext R R') : R.length ≤ R'.length := by
  obtain ⟨X, rfl⟩ := h
  rw [List.length_append]; omega
theorem Ext_t {A B C : List (List Nat)} (h : Ext A B) (h' : Ext B C) : Ext A C := by
  obtain ⟨X, rfl⟩ := h
  obtain ⟨Y, rfl⟩ := h'
  exact ⟨X ++ Y, by rw [List.append_assoc]⟩
theorem Ext_r (A : List (List Nat)) : Ext A A := ⟨[], by rw [List.append_nil]⟩
theorem add9 {g key m d pw ls : Nat} {M S : Nat → Int32} {R : List (List Nat)} {r : List Nat} (hR : Rep M S R) (hG : GR g key R) (hm : R[m]? = some r) (h1 : 1 ≤ d) (h14 : d ≤ 14) (h2 : rlK (gK g r) = 2 ∧ 0 < r.count d ∧ pw = 0 ∧ ls = d ∨ rlK (gK g r) = 3 ∧ d = 1 ∧ pw = 1 ∧ ls = 0) :
    ∃ f' M' S' R', F_X9_leaves 36000 M (Int32.ofNat (12 * m)) (Int32.ofNat r.length) (Int32.ofNat pw) (Int32.ofNat ls) (Int32.ofNat (12 * R.length)) = some f' ∧ F_X9_meets (Int32.ofNat R.length) f' S (Int32.ofNat (12 * R.length)) (Int32.ofNat (r.length - 1)) = some (M', S', Int32.ofNat R'.length) ∧ Rep M' S' R' ∧ GR g key R' ∧ Ext R R' ∧ hasK g R' (nxK (gK g r) d) := by
  have hrm := List.mem_of_getElem? hm
  have hml := (List.getElem?_eq_some_iff.mp hm).1
  obtain ⟨a1, a2, a3, a4⟩ := hG.2 r hrm
  obtain ⟨b1, b2⟩ := hR m r hm
  have hlen := GR_len hG
  have hd : rlK (gK g r) = 2 ∧ 0 < r.count d ∨ rlK (gK g r) = 3 ∧ d = 1 := by
    rcases h2 with ⟨x, y, _, _⟩ | ⟨x, y, _, _⟩
    · exact Or.inl ⟨x, y⟩
    · exact Or.inr ⟨x, y⟩
  obtain ⟨v1, v2, v3, v4⟩ := nxR_v a1 h1 h14 hd
  have hx : nxR (gK g r) d r = lvG pw ls true (decide (0 < ls)) r := by
    unfold nxR
    rcases h2 with ⟨x, y, rfl, rfl⟩ | ⟨x, rfl, rfl, rfl⟩
    · rw [if_pos x]
    · rw [if_neg (by rw [x]; decide)]; rfl
  obtain ⟨f', e1, e2, e3⟩ := leaves9 (N := 36000) (by omega) b1 (pw := pw) (ls := ls) (to := 12 * R.length) (by omega) (by omega) (by omega) (by omega) (by omega) (vR_lt a1)
  rw [← hx] at e2
  have hR' := Rep_same hR (fun r hr => (GR_b hG r hr).1) (fun k hk => e3 k (Or.inl hk))
  obtain ⟨M', S', R', t, f1, f2, f3, f4, f5⟩ := meets9 hR' (GR_b hG) e2 (by omega) (vR_lt v1) (by omega)
  have hlx : (nxR (gK g r) d r).length = r.length - 1 := by omega
  rw [hlx] at f1
  have ht : gK g t = nxK (gK g r) d := (gK_perm f3).trans v2
  have hvt : vR g t := ⟨v1.1, by rw [f3.length_eq]; exact v1.2.1, by rw [f3.length_eq]; exact v1.2.2.1, by rw [f3.length_eq, f3.sum_nat]; exact v1.2.2.2⟩
  refine ⟨f', M', S', R', e1, f1, f2, ?_, ?_, ?_⟩
  · rcases f5 with ⟨_, rfl⟩ | ⟨nt, rfl⟩
    · exact hG
    · refine ⟨?_, fun u hu => ?_⟩
      · rw [List.nodup_append]
        refine ⟨hG.1, by simp, fun a ha b hb e => nt ?_⟩
        rw [List.mem_singleton.mp hb] at e
        rw [← e]; exact ha
      · rcases List.mem_append.mp hu with hu | hu
        · exact hG.2 u hu
        · rw [List.mem_singleton.mp hu]
          exact ⟨hvt, by rw [f3.length_eq]; omega, f4, by rw [ht]; exact Rch_s a4 h1 h14 v3⟩
  · rcases f5 with ⟨_, rfl⟩ | ⟨nt, rfl⟩
    · exact Ext_r _
    · exact ⟨[t], rfl⟩
  · rcases f5 with ⟨mt, rfl⟩ | ⟨nt, rfl⟩
    · exact ⟨t, mt, ht⟩
    · exact ⟨t, List.mem_append_right _ (by simp), ht⟩
theorem inn9 {g key m : Nat} {S0 : Nat → Int32} {r : List Nat} (hv : vR g r) (hrl : rlK (gK g r) = 2) (hS0 : S0 m = Int32.ofNat r.length) (hm2 : m < 1024) : ∀ (rem j n : Nat), j + rem = 12 → rem < n → ∀ (M S : Nat → Int32) (R : List (List Nat)), Rep M S R → GR g key R → R[m]? = some r → (∀ q, 1 ≤ q → q ≤ j → 0 < r.count q → hasK g R (nxK (gK g r) q)) →
    ∃ M' S' R', Rep M' S' R' ∧ GR g key R' ∧ Ext R R' ∧ (∀ q, 1 ≤ q → q ≤ 12 → 0 < r.count q → hasK g R' (nxK (gK g r) q)) ∧ ∀ kk, wq4 (B_X9_met_145 S0 (Int32.ofNat m) kk) n M S (Int32.ofNat R.length) (Int32.ofNat (j + 1)) = kk M' S' (Int32.ofNat R'.length) := by
  intro rem
  induction rem with
  | zero =>
    intro j n hj hn M S R hR hG hm hq
    obtain ⟨n, rfl⟩ : ∃ q, n = q + 1 := ⟨n - 1, by omega⟩
    refine ⟨M, S, R, hR, hG, Ext_r R, fun q h1 h2 h0 => hq q h1 (by omega) h0, fun kk => ?_⟩
    show B_X9_met_145 S0 (Int32.ofNat m) kk M S (Int32.ofNat R.length) (Int32.ofNat (j + 1)) _ = _
    unfold B_X9_met_145
    have c : (12 : Int32) < Int32.ofNat (j + 1) := (n_lt (a := 12) (by omega) (by omega)).mpr (by omega)
    rw [if_pos c]
  | succ rem ih =>
    intro j n hj hn M S R hR hG hm hq
    obtain ⟨n, rfl⟩ : ∃ q, n = q + 1 := ⟨n - 1, by omega⟩
    have hml := (List.getElem?_eq_some_iff.mp hm).1
    have hlen := GR_len hG
    obtain ⟨b1, b2⟩ := hR m r hm
    have c12 : ¬ (12 : Int32) < Int32.ofNat (j + 1) := fun z => by have := (n_lt (a := 12) (by omega) (by omega)).mp z; omega
    have ej : Int32.ofNat (j + 1) + (1 : Int32) = Int32.ofNat (j + 1 + 1) := n_add (j + 1) 1
    have oft := often9 (N := 36000) (by omega) b1 (vR_lt hv) (by have := hv.2.1; omega) (by have := hv.2.1; omega) (p := j + 1) (by omega)
    have hcl : r.count (j + 1) ≤ r.length := List.count_le_length
    have hl12 := hv.2.1
    by_cases z : r.count (j + 1) = 0
    · obtain ⟨M', S', R', g1, g2, g3, g4, g5⟩ := ih (j + 1) n (by omega) (by omega) M S R hR hG hm (fun q h1 h2 h0 => by
        by_cases y : q = j + 1
        · subst y; omega
        · exact hq q h1 (by omega) h0)
      refine ⟨M', S', R', g1, g2, g3, g4, fun kk => ?_⟩
      show B_X9_met_145 S0 (Int32.ofNat m) kk M S (Int32.ofNat R.length) (Int32.ofNat (j + 1)) (wq4 (B_X9_met_145 S0 (Int32.ofNat m) kk) n) = _
      have g5' := g5 kk
      generalize wq4 (B_X9_met_145 S0 (Int32.ofNat m) kk) n = W at g5' ⊢
      unfold B_X9_met_145
      rw [if_neg c12, n_clamp (by omega), hS0, mul12, oft, bd_s, z, if_pos (show Int32.ofNat 0 = (0 : Int32) from rfl), ej]
      exact g5'
    · have h14 : j + 1 ≤ 14 := by omega
      obtain ⟨f', M1, S1, R1, e1, e2, e3, e4, e5, e6⟩ := add9 (d := j + 1) (pw := 0) (ls := j + 1) hR hG hm (by omega) h14 (Or.inl ⟨hrl, by omega, rfl, rfl⟩)
      obtain ⟨M', S', R', g1, g2, g3, g4, g5⟩ := ih (j + 1) n (by omega) (by omega) M1 S1 R1 e3 e4 (Ext_at e5 hm) (fun q h1 h2 h0 => by
        by_cases y : q = j + 1
        · subst y; exact e6
        · exact Ext_has e5 (hq q h1 (by omega) h0))
      refine ⟨M', S', R', g1, g2, Ext_t e5 g3, g4, fun kk => ?_⟩
      show B_X9_met_145 S0 (Int32.ofNat m) kk M S (Int32.ofNat R.length) (Int32.ofNat (j + 1)) (wq4 (B_X9_met_145 S0 (Int32.ofNat m) kk) n) = _
      have g5' := g5 kk
      generalize wq4 (B_X9_met_145 S0 (Int32.ofNat m) kk) n = W at g5' ⊢
      unfold B_X9_met_145
      have e1' : F_X9_leaves 36000 M (Int32.ofNat (12 * m)) (Int32.ofNat r.length) (0 : Int32) (Int32.ofNat (j + 1)) (Int32.ofNat (12 * R.length)) = some f' := e1
      have er : Int32.ofNat r.length - (1 : Int32) = Int32.ofNat (r.length - 1) := n_sub (b := 1) (by omega)
      have cz : ¬ Int32.ofNat (r.count (j + 1)) = (0 : Int32) := fun y => z ((n_inj (b := 0) (by omega) (by omega)).mp y)
      rw [if_neg c12, n_clamp (by omega), hS0, mul12, oft, bd_s, if_neg cz, mul12, e1', bd_s, er, e2, bd_s, ej]
      exact g5'
/-- the model's list, when all is met -/
def MF (g key : Nat) (x1 : Int32 × (Nat → Int32)) (r : Option (Int32 × (Nat → Int32) × (Nat → Int32) × (Nat → Int32) × Int32)) : Prop := ∃ (R : List (List Nat)) (M S : Nat → Int32), r = some (Int32.ofNat R.length, x1.2, M, S, Int32.ofNat R.length) ∧ GR g key R ∧ hasK g R key ∧ ∀ t ∈ R, ∀ p, 1 ≤ p → p ≤ 14 → ¬ nxK (gK g t) p = 0 → hasK g R (nxK (gK g t) p)
theorem nx_cases {g p : Nat} {r : List Nat} (hv : vR g r) (hp : p < 15) (h0 : ¬ nxK (gK g r) p = 0) : rlK (gK g r) = 2 ∧ 0 < r.count p ∨ rlK (gK g r) = 3 ∧ p = 1 := by
  unfold nxK at h0
  by_cases c : rlK (gK g r) = 2 ∧ 0 < dg (gK g r) p
  · exact Or.inl ⟨c.1, by rw [← (rep_f hv).1 p hp]; exact c.2⟩
  · rw [if_neg c] at h0
    by_cases d : rlK (gK g r) = 3 ∧ p = 1
    · exact Or.inr d
    · rw [if_neg d] at h0; exact absurd rfl h0
theorem all9 {g key : Nat} (hg : g < 3) (x1 : Int32 × (Nat → Int32)) {M S : Nat → Int32} {R : List (List Nat)} (hR : Rep M S R) (hG : GR g key R) (hk : hasK g R key) :
    MF g key x1 (wq4 (B_X9_met_53 (Int32.ofNat g) (K_X9_met_53_214 x1)) FU M S (Int32.ofNat R.length) (0 : Int32)) := by
  refine wq4_inv (B := B_X9_met_53 (Int32.ofNat g) (K_X9_met_53_214 x1)) 1024
    (fun i M S many m => m = Int32.ofNat i ∧ ∃ R, many = Int32.ofNat R.length ∧ Rep M S R ∧ GR g key R ∧ i ≤ R.length ∧ hasK g R key ∧ ∀ j t, j < i → R[j]? = some t → ∀ p, 1 ≤ p → p ≤ 14 → ¬ nxK (gK g t) p = 0 → hasK g R (nxK (gK g t) p))
    (MF g key x1) (fun i hi M S many m hI => ?_) (fun M S many m hI => ?_) FU (by unfold FU; omega) M S _ _ ⟨rfl, R, rfl, hR, hG, by omega, hk, fun j t hj => by omega⟩
  · obtain ⟨rfl, R, rfl, hR, hG, hle, hk, hc⟩ := hI
    have hlen := GR_len hG
    by_cases ce : i = R.length
    · refine Or.inr ⟨_, ⟨R, M, S, rfl, hG, hk, fun t ht => ?_⟩, fun ag => ?_⟩
      · obtain ⟨j, hj, e⟩ := List.getElem_of_mem ht
        exact hc j t (by omega) (by rw [List.getElem?_eq_getElem hj, e])
      · unfold B_X9_met_53
        rw [if_pos ((n_le (by omega) (by omega)).mpr (by omega))]; rfl
    · have hil : i < R.length := by omega
      have hm : R[i]? = some R[i] := List.getElem?_eq_getElem hil
      generalize R[i] = r at hm
      obtain ⟨a1, a2, a3, a4⟩ := hG.2 r (List.mem_of_getElem? hm)
      obtain ⟨b1, b2⟩ := hR i r hm
      have ei : Int32.ofNat i + (1 : Int32) = Int32.ofNat (i + 1) := n_add i 1
      have eb := base9 (N := 36000) (by omega) b1 a1 (by omega)
      have oft := often9 (N := 36000) (by omega) b1 (vR_lt a1) (by omega) (by omega) (p := 0) (by omega)
      have oft' : F_X9_often 36000 M (Int32.ofNat (12 * i)) (Int32.ofNat r.length) (0 : Int32) = some (Int32.ofNat (r.count 0)) := oft
      have hc0 : r.count 0 ≤ r.length := List.count_le_length
      have hd0 := (rep_f a1).1 0 (by omega)
      -- what is closed after a row, if the list grew
      have fin : ∀ R', Ext R R' → (∀ p, 1 ≤ p → p ≤ 14 → ¬ nxK (gK g r) p = 0 → hasK g R' (nxK (gK g r) p)) → ∀ j t, j < i + 1 → R'[j]? = some t → ∀ p, 1 ≤ p → p ≤ 14 → ¬ nxK (gK g t) p = 0 → hasK g R' (nxK (gK g t) p) := fun R' hE hr j t hj ht p h1 h2 h0 => by
        by_cases y : j = i
        · subst y
          rw [Ext_at hE hm] at ht
          rw [← Option.some.inj ht] at h0 ⊢
          exact hr p h1 h2 h0
        · have hjl : j < R.length := by omega
          have e : R[j]? = some R[j] := List.getElem?_eq_getElem hjl
          rw [Ext_at hE e] at ht
          exact Ext_has hE (hc j t (by omega) (by rw [e]; exact ht) p h1 h2 h0)
      have hB := bK_lt (gK g r)
      by_cases hb : bK (gK g r) = 0
      · have hm1 : lg_cmp (-1 : Int64) (0 : Int64) < 0 := by decide
        rw [if_pos hb] at eb
        by_cases h0 : r.count 0 = 0
        · have hrl : rlK (gK g r) = 3 := by unfold rlK; rw [if_pos hb, hd0, if_pos h0]
          obtain ⟨f', M', S', R', e1, e2, e3, e4, e5, e6⟩ := add9 (d := 1) (pw := 1) (ls := 0) hR hG hm (by omega) (by omega) (Or.inr ⟨hrl, rfl, rfl, rfl⟩)
          refine Or.inl ⟨M', S', _, _, ⟨rfl, R', rfl, e3, e4, by have := Ext_len e5; omega, Ext_has e5 hk, fin R' e5 (fun p h1 h2 hn => ?_)⟩, fun ag => ?_⟩
          · rcases nx_cases a1 (by omega) hn with y | y
            · rw [hrl] at y; exact absurd y.1 (by decide)
            · rw [y.2]; exact e6
          · unfold B_X9_met_53
            have e1' : F_X9_leaves 36000 M (Int32.ofNat (12 * i)) (Int32.ofNat r.length) (1 : Int32) (0 : Int32) (Int32.ofNat (12 * R.length)) = some f' := e1
            have hlr : 1 ≤ r.length := by
              have := (nxR_v a1 (d := 1) (by omega) (by omega) (Or.inr ⟨hrl, rfl⟩)).2.2.2
              omega
            have er : Int32.ofNat r.length - (1 : Int32) = Int32.ofNat (r.length - 1) := n_sub (b := 1) (by omega)
            rw [if_neg (c_ge (by omega) (by omega) hil), ck_n (by omega) (by omega), n_clamp (by omega), b2, mul12, eb, bd_s, if_pos hm1, oft', bd_s, h0, if_pos (show Int32.ofNat 0 = (0 : Int32) from rfl), mul12, e1', bd_s, er, e2, bd_s, ei]
        · have hrl : rlK (gK g r) = 2 := by unfold rlK; rw [if_pos hb, hd0, if_neg h0]
          obtain ⟨M', S', R', e1, e2, e3, e4, e5⟩ := inn9 (g := g) (key := key) (m := i) (S0 := S) a1 hrl b2 (by omega) 12 0 FU (by omega) (by unfold FU; omega) M S R hR hG hm (fun q h1 h2 => by omega)
          refine Or.inl ⟨M', S', _, _, ⟨rfl, R', rfl, e1, e2, by have := Ext_len e3; have hlt : R.length ≤ R'.length := Ext_len e3; omega, Ext_has e3 hk, fin R' e3 (fun p h1 h2 hn => ?_)⟩, fun ag => ?_⟩
          · rcases nx_cases a1 (by omega) hn with y | y
            · have hp12 : p ≤ 12 := by
                have := mem_le_sum (cnt_mem.mp y.2)
                have := a1.2.2.2
                omega
              exact e4 p h1 hp12 y.2
            · rw [hrl] at y; exact absurd y.1 (by decide)
          · unfold B_X9_met_53
            have e5' : wq4 (B_X9_met_145 S (Int32.ofNat i) (K_X9_met_145_208 (Int32.ofNat i) ag)) FU M S (Int32.ofNat R.length) (1 : Int32) = K_X9_met_145_208 (Int32.ofNat i) ag M' S' (Int32.ofNat R'.length) := e5 _
            have cz : ¬ Int32.ofNat (r.count 0) = (0 : Int32) := fun z => h0 ((n_inj (b := 0) (by omega) (by omega)).mp z)
            rw [if_neg (c_ge (by omega) (by omega) hil), ck_n (by omega) (by omega), n_clamp (by omega), b2, mul12, eb, bd_s, if_pos hm1, oft', bd_s, if_neg cz, e5']
            unfold K_X9_met_145_208
            rw [ei]
      · have hrl : rlK (gK g r) = 1 := by unfold rlK; rw [if_neg hb]
        rw [if_neg hb] at eb
        refine Or.inl ⟨M, S, _, _, ⟨rfl, R, rfl, hR, hG, by omega, hk, fin R (Ext_r R) (fun p h1 h2 hn => ?_)⟩, fun ag => ?_⟩
        · rcases nx_cases a1 (by omega) hn with y | y
          · rw [hrl] at y; exact absurd y.1 (by decide)
          · rw [hrl] at y; exact absurd y.1 (by decide)
        · unfold B_X9_met_53
          rw [if_neg (c_ge (by omega) (by omega) hil), ck_n (by omega) (by omega), n_clamp (by omega), b2, mul12, eb, bd_s, if_neg (lg_neg (by omega)), ei]
  · obtain ⟨rfl, R, rfl, hR, hG, hle, hk, hc⟩ := hI
    have := GR_len hG
    omega
theorem met9 {g n L s : Int32} {mp mt : Nat → Int32} {a : AD} (h : D9 g n L s mp mt a) (hv : VD a) (many : Int32) (rows met sizes : Nat → Int32) :
    (kzL a.1 a.2.1 = 0 ∧ ∃ rows', F_X9_met g n many rows mp met sizes = some ((0 : Int32), rows', met, sizes, many)) ∨
    (vR a.1 a.2.1 ∧ ∃ x1, MF a.1 (gK a.1 a.2.1) x1 (F_X9_met g n many rows mp met sizes)) := by
  obtain ⟨rows', e⟩ := rule9 h hv rows
  obtain ⟨rfl, rfl, rfl, rfl, hp, ht⟩ := h
  have n8 := hv.2.1
  unfold F_X9_met
  rw [e, bd_s]
  by_cases c : vR a.1 a.2.1
  · have hl := (vR_l c).1
    have k0 : ¬ kzL a.1 a.2.1 = 0 := by rw [kzL_Y c]; exact lgt_n0 hl
    have hrl := ruleK hl
    have nz : ¬ Int32.ofNat (if kzL a.1 a.2.1 = 0 then 0 else rlK (kzL a.1 a.2.1)) = (0 : Int32) := by
      rw [if_neg k0, kzL_Y c]
      intro z
      have := (n_inj (b := 0) (by omega) (by omega)).mp z
      omega
    refine Or.inr ⟨c, (Int32.ofNat (if kzL a.1 a.2.1 = 0 then 0 else rlK (kzL a.1 a.2.1)), rows'), ?_⟩
    dsimp only
    rw [if_neg nz]
    have e0 := cp_0 mp met
    have key : ∀ kk, wq2 (B_X9_met_16 (Int32.ofNat a.2.1.length) mp kk) FU met (0 : Int32) = kk (fun k => if k < a.2.1.length then mp k else met k) := fun kk => by
      conv => lhs; rw [← e0]
      refine wq2_it a.2.1.length (fun j k => if k < j then mp k else met k) (fun j => Int32.ofNat j) (fun j hj ag => ?_) (fun ag => ?_) FU (by unfold FU; omega)
      · have ej : Int32.ofNat j + (1 : Int32) = Int32.ofNat (j + 1) := n_add j 1
        unfold B_X9_met_16
        rw [if_neg (c_ge (by omega) (by omega) hj), ck_n (by omega) (by omega), ck_n (by omega) (by omega), n_clamp (by omega), cp_up, ej]
      · unfold B_X9_met_16
        rw [if_pos ((n_le (by omega) (by omega)).mpr (Nat.le_refl _))]
    rw [key]
    unfold K_X9_met_16_42
    obtain ⟨M', S', R', t, f1, f2, f3, f4, f5⟩ := meets9 (M := fun k => if k < a.2.1.length then mp k else met k) (S := sizes) (R := []) (l := a.2.1) (fun m r hm => absurd hm (by simp)) (fun r hr => absurd hr List.not_mem_nil) (rA_rp (cp_rp hp)) (by omega) (vR_lt c) (by simp)
    have f1' : F_X9_meets (0 : Int32) (fun k => if k < a.2.1.length then mp k else met k) sizes (0 : Int32) (Int32.ofNat a.2.1.length) = some (M', S', Int32.ofNat R'.length) := f1
    rw [f1', bd_s]
    have hR' : R' = [t] := by
      rcases f5 with ⟨z, _⟩ | ⟨_, z⟩
      · exact absurd z List.not_mem_nil
      · exact z
    subst hR'
    have hvt : vR a.1 t := ⟨c.1, by rw [f3.length_eq]; exact c.2.1, by rw [f3.length_eq]; exact c.2.2.1, by rw [f3.length_eq, f3.sum_nat]; exact c.2.2.2⟩
    have hkt : gK a.1 t = gK a.1 a.2.1 := gK_perm f3
    exact all9 c.1 _ f2 ⟨by simp, fun u hu => by
      rw [List.mem_singleton.mp hu]
      exact ⟨hvt, by rw [f3.length_eq]; omega, f4, by rw [hkt]; exact Rch_r _⟩⟩ ⟨t, by simp, hkt⟩
  · have k0 := kzL_N c
    have z : Int32.ofNat (if kzL a.1 a.2.1 = 0 then 0 else rlK (kzL a.1 a.2.1)) = (0 : Int32) := by rw [if_pos k0]; rfl
    refine Or.inl ⟨k0, rows', ?_⟩
    dsimp only
    rw [if_pos z]
theorem ls_met : LS_met LR := by
  intro k d_x_deeds_desks q_x_deeds_desks x_imageKept x_desk_genus x_desk_size x_desk_limit x_desk_tree a_x_desk_powers x_imageDesk_genus x_imageDesk_size x_imageDesk_limit x_imageDesk_tree a_x_imageDesk_powers x_deeds_now x_deeds_last a_x_deeds_desks x_deeds_desks_genus x_deeds_desks_size x_deeds_desks_limit x_deeds_desks_tree x_numbers_round x_numbers_size x_numbers_sum x_numbers_gathered a_x_numbers_keys a_x_numbers_aboves a_x_numbers_rounds x_reader_refused x_reader_place x_reader_cannotBe x_tape_size a_x_tape_bytes x_reader_told_genus x_reader_told_size x_reader_told_limit x_reader_told_tree a_x_reader_told_powers a_x_reader_causes x_speller_size a_x_speller_bytes a_x_holders x_holders_sort x_holders_tree x_holders_limit x_holders_above x_holders_size m_genus m_marks m_leaves m_splits m_done m_undone m_metMany m_treesSeen m_taped m_place m_isWrong m_toldGenus m_toldMarks m_isTree m_toldLeaves m_leavesPlace m_toldSplits m_isWhy m_papered m_isKept a_m_powers a_m_tree a_m_ahead a_m_behind a_m_before a_m_rows a_m_met a_m_metSizes a_m_chosen a_m_tape a_m_toldPowers a_m_powerPlaces a_m_toldTree a_m_splitPlaces a_m_layers a_m_paper a_m_held a_m_numbers a_m_sizes a_m_heldLeaves a_m_items a_m_kept hk hLR
  obtain ⟨us, cur, rs, bs, hV, h8, h9, hH8, hH9, hT, hTP, hWY, hHO, hIM⟩ := hLR
  have hVc : VD cur := hV cur (List.mem_append_right _ List.mem_cons_self)
  obtain ⟨sz, sm, ga, e8⟩ := keyW8 h8 hVc o_none o_none o_none
  have el : cur.2.1 ++ lO none ++ lO none ++ lO none = cur.2.1 := by simp [lO]
  rw [el] at e8
  have e8' : F_X8_keyWith x_desk_genus x_desk_size a_x_desk_powers (-1 : Int32) (-1 : Int32) (-1 : Int32) = _ := e8
  obtain ⟨c, keys', aboves', rounds', f8, t1, t2, t3, t4⟩ := count8 hT.2.2.2 hT.2.1 (by have := hT.1; omega) hT.2.2.1 (kzL_O cur.1 cur.2.1)
  have E8 : F_X8_met x_numbers_round x_desk_genus x_desk_size a_x_desk_powers a_x_numbers_keys a_x_numbers_aboves a_x_numbers_rounds = some (Int32.ofNat c, keys', aboves', rounds', x_numbers_round + (1 : Int32), sz, sm, ga) := by
    unfold F_X8_met
    rw [e8', bd_s]
    dsimp only
    rw [f8, bd_s]
  have hTN : TN (k + 5) (x_numbers_round + (1 : Int32)) keys' aboves' rounds' := ⟨by have := hT.1; omega, by have := hT.2.1; omega, t2, t1⟩
  rcases met9 h9 hVc m_metMany a_m_rows a_m_met a_m_metSizes with ⟨k0, rows', e9⟩ | ⟨hv, x1, R, M, S, e9, hG, hk, hc⟩
  · have c0 : c = 0 := by
      rcases t4 with ⟨_, z⟩ | ⟨z, _⟩
      · exact z
      · exact absurd k0 (lgt_n0 z)
    subst c0
    exact ⟨0, keys', aboves', rounds', (x_numbers_round + (1 : Int32)), sz, sm, ga, rows', a_m_met, a_m_metSizes, m_metMany, E8, e9, us, cur, rs, bs, hV, h8, h9, hH8, hH9, hTN, hTP, hWY, hHO, hIM⟩
  · have hkz : kzL cur.1 cur.2.1 = gK cur.1 cur.2.1 := kzL_Y hv
    have hcR : c = R.length := by
      rcases t4 with ⟨z, _⟩ | ⟨hl, RL, r1, r2, r3⟩
      · exact absurd (hkz.symm.trans z) (lgt_n0 (vR_l hv).1)
      · have hp : RL.Perm (R.map (gK cur.1)) := by
          rw [List.perm_ext_iff_of_nodup r1 (GR_nd hG)]
          intro q
          rw [r3 q, hkz]
          constructor
          · intro hq
            have hh : hasK cur.1 R q := hq (fun q => hasK cur.1 R q) hk (fun key p hh h1 h2 h0 => by
              obtain ⟨t, ht, e⟩ := hh
              rw [← e] at h0 ⊢
              exact hc t ht p h1 h2 h0)
            obtain ⟨t, ht, e⟩ := hh
            exact List.mem_map.mpr ⟨t, ht, e⟩
          · intro hq
            obtain ⟨t, ht, e⟩ := List.mem_map.mp hq
            rw [← e]; exact (hG.2 t ht).2.2.2
        have := hp.length_eq
        rw [List.length_map] at this
        omega
    refine ⟨Int32.ofNat R.length, keys', aboves', rounds', (x_numbers_round + (1 : Int32)), sz, sm, ga, x1.2, M, S, (Int32.ofNat R.length), by rw [E8, hcR], e9, us, cur, rs, bs, hV, h8, h9, hH8, hH9, hTN, hTP, hWY, hHO, hIM⟩
