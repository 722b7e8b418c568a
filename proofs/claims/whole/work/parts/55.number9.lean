/-! The model's recursion. -/
theorem n_i64 {a : Nat} (h : a < 2147483648) : (Int32.ofNat a).toInt64 = Int64.ofNat a := by
  apply Int64.toInt_inj.mp
  rw [Int32.toInt_toInt64, n_toInt h, Int64.toInt_ofNat_of_lt (by omega)]
theorem dil64 : ∀ g, g < 3 → ∀ n, n < 12 → 2 < 2 * g + n → ((((2 : Int64) * (Int32.ofNat g).toInt64) - (2 : Int64)) + (Int32.ofNat n).toInt64) - (1 : Int64) = Int64.ofNat (2 * g + n - 3) := by decide +kernel
theorem lg_neg {a : Nat} (h : a < 9223372036854775808) : ¬ lg_cmp (Int64.ofNat a) (0 : Int64) < 0 := by
  rw [lg_cmp_lt, Int64.lt_iff_toInt_lt, Int64.toInt_ofNat_of_lt (by omega)]
  have : (0 : Int64).toInt = 0 := rfl
  omega
/-- what a row's number tells, and which cells stay -/
def NR (o : Nat) (rows : Nat → Int32) (v : Nat) (r : Option (Int64 × (Nat → Int32))) : Prop := ∃ rows', r = some (Int64.ofNat v, rows') ∧ ∀ k, k < o + 12 → rows' k = rows k
theorem wS8_const {key : Nat} (h : rlK key = 3) : ∀ q, wS8 key (q + 1) = wS8 key 1
  | 0 => rfl
  | q + 1 => by
    have hz : nxK key (q + 1 + 1) = 0 := by
      unfold nxK
      rw [if_neg (fun z => by rw [h] at z; exact absurd z.1 (by decide)), if_neg (fun z => by omega)]
    rw [wS8_s, if_pos hz, Nat.add_zero, wS8_const h q]
theorem mul12 (u : Nat) : Int32.ofNat u * (12 : Int32) = Int32.ofNat (12 * u) := by
  rw [show (12 : Int32) = Int32.ofNat 12 from rfl, n_mul, Nat.mul_comm]
theorem numAt9 : ∀ (n g : Nat) (r : List Nat) (rows : Nat → Int32) (u d : Nat), r.length = n → vR g r → n < d → u + n ≤ 20 → rA rows (12 * u) r → NR (12 * u) rows (VN (gK g r)) (F_X9_numberAt d rows (Int32.ofNat g) (Int32.ofNat u) (Int32.ofNat n)) := by
  intro n
  induction n using Nat.strongRecOn with
  | _ n ih =>
  intro g r rows u d hn h hd hu hr
  subst hn
  obtain ⟨d, rfl⟩ : ∃ q, d = q + 1 := ⟨d - 1, by omega⟩
  obtain ⟨l1, l2, l3⟩ := vR_l h
  obtain ⟨k1, k2, k3, k4, k5, k6, k7, k8, k9, k10⟩ := KF_l l1
  obtain ⟨a, b, c, e⟩ := id h
  obtain ⟨r1, r2, r3⟩ := rep_f h
  have hlt := vR_lt h
  have hl1 : 1 ≤ r.length := Nat.pos_of_ne_zero (fun z => by
    have e2 := List.eq_nil_of_length_eq_zero z
    rw [e2] at e c
    simp at e c
    omega)
  have e12 : Int32.ofNat (12 * u) + (12 : Int32) = Int32.ofNat (12 * u + 12) := n_add _ 12
  have eu : Int32.ofNat u + (1 : Int32) = Int32.ofNat (u + 1) := n_add u 1
  have en : Int32.ofNat r.length - (1 : Int32) = Int32.ofNat (r.length - 1) := n_sub (b := 1) (by omega)
  have oft := fun p (hp : p < 1000) => often9 (N := 480) (by omega) hr hlt (by omega) (by omega) hp
  have o0 : F_X9_often 480 rows (Int32.ofNat (12 * u)) (Int32.ofNat r.length) (0 : Int32) = some (Int32.ofNat (r.count 0)) := oft 0 (by omega)
  have cl : ∀ p, r.count p < 100 := fun p => by have : r.count p ≤ r.length := List.count_le_length; omega
  have ev : VN (gK g r) = bK (gK g r) + wS8 (gK g r) 14 := k9
  show NR (12 * u) rows (VN (gK g r)) (G_X9_numberAt (F_X9_numberAt d) rows (Int32.ofNat g) (Int32.ofNat u) (Int32.ofNat r.length))
  unfold G_X9_numberAt
  rw [mul12, base9 (N := 480) (by omega) hr h (by omega), bd_s]
  by_cases hb : bK (gK g r) = 0
  · have hm1 : lg_cmp (-1 : Int64) (0 : Int64) < 0 := by decide
    rw [if_pos hb, if_pos hm1, o0, bd_s]
    by_cases h0 : r.count 0 = 0
    · have hrl : rlK (gK g r) = 3 := by unfold rlK; rw [if_pos hb, r1 0 (by omega), if_pos h0]
      obtain ⟨v1, v2, v3, v4⟩ := nxR_v h (d := 1) (by omega) (by omega) (Or.inr ⟨hrl, rfl⟩)
      have hx : nxR (gK g r) 1 r = lvG 1 0 true (decide (0 < 0)) r := by unfold nxR; rw [if_neg (by rw [hrl]; decide)]; rfl
      obtain ⟨f', e1, e2, e3⟩ := leaves9 (N := 480) (by omega) hr (pw := 1) (ls := 0) (to := 12 * u + 12) (by omega) (by omega) (by omega) (by omega) (by omega) hlt
      rw [← hx] at e2
      obtain ⟨rows', g1, g2⟩ := ih (nxR (gK g r) 1 r).length (by omega) g (nxR (gK g r) 1 r) f' (u + 1) d rfl v1 (by omega) (by omega) (by rw [show 12 * (u + 1) = 12 * u + 12 by omega]; exact e2)
      have e1' : F_X9_leaves 480 rows (Int32.ofNat (12 * u)) (Int32.ofNat r.length) (1 : Int32) (0 : Int32) (Int32.ofNat (12 * u + 12)) = some f' := e1
      rw [if_pos (by rw [h0]; rfl), e12, e1', bd_s, eu, en, show r.length - 1 = (nxR (gK g r) 1 r).length by omega, g1, bd_s]
      refine ⟨rows', ?_, fun k hk => ?_⟩
      · dsimp only
        rw [dil64 g a r.length b c, ← Int64.ofNat_mul, v2]
        congr 2
        rw [ev, hb, Nat.zero_add, wS8_const hrl 13, wS8_s, if_neg v3]
        have hw : wtK (gK g r) (0 + 1) = 2 * g + r.length - 3 := by
          unfold wtK
          rw [if_neg (by rw [hrl]; decide), l2, l3]
        have hz : wS8 (gK g r) 0 = 0 := rfl
        rw [hw, hz, Nat.zero_add]
      · rw [g2 k (by omega), e3 k (Or.inl hk)]
    · have hrl : rlK (gK g r) = 2 := by unfold rlK; rw [if_pos hb, r1 0 (by omega), if_neg h0]
      have c0 : ¬ Int32.ofNat (r.count 0) = 0 := fun z => h0 ((n_inj (b := 0) (by have := cl 0; omega) (by omega)).mp z)
      rw [if_neg c0]
      refine wq3_inv (B := B_X9_numberAt_94 (F_X9_numberAt d) (Int32.ofNat g) (Int32.ofNat u) (Int32.ofNat r.length) K_X9_numberAt_94_167) 40
        (fun j rw' sm p => p = Int32.ofNat (j + 1) ∧ sm = Int64.ofNat (wS8 (gK g r) (min j 14)) ∧ ∀ k, k < 12 * u + 12 → rw' k = rows k)
        (NR (12 * u) rows (VN (gK g r))) (fun j hj rw' sm p hI => ?_) (fun rw' sm p hI => ?_) FU (by unfold FU; omega) rows _ _ ⟨rfl, rfl, fun k _ => rfl⟩
      · obtain ⟨rfl, rfl, i1⟩ := hI
        have c40 : ¬ (40 : Int32) < Int32.ofNat (j + 1) := fun z => by have := (n_lt (a := 40) (by omega) (by omega)).mp z; omega
        have ej : Int32.ofNat (j + 1) + (1 : Int32) = Int32.ofNat (j + 2) := n_add (j + 1) 1
        have hr' : rA rw' (12 * u) r := rA_same hr (fun k hk => i1 _ (by omega))
        have oj := often9 (N := 480) (by omega) hr' hlt (by omega) (by omega) (p := j + 1) (by omega)
        by_cases z : r.count (j + 1) = 0
        · refine Or.inl ⟨rw', _, Int32.ofNat (j + 2), ⟨rfl, rfl, i1⟩, fun ag => ?_⟩
          have es : wS8 (gK g r) (min (j + 1) 14) = wS8 (gK g r) (min j 14) := by
            by_cases q : j < 14
            · have hx : nxK (gK g r) (j + 1) = 0 := by
                unfold nxK
                rw [if_neg (fun y => by rw [r1 (j + 1) (by omega), z] at y; omega), if_neg (fun y => by rw [hrl] at y; exact absurd y.1 (by decide))]
              rw [show min (j + 1) 14 = j + 1 by omega, show min j 14 = j by omega, wS8_s, if_pos hx, Nat.add_zero]
            · rw [show min (j + 1) 14 = 14 by omega, show min j 14 = 14 by omega]
          unfold B_X9_numberAt_94
          rw [if_neg c40, mul12, oj, bd_s, z, if_pos (show Int32.ofNat 0 = (0 : Int32) from rfl), ej, es]
        · have hj14 : j + 1 ≤ 14 := by
            have hm : j + 1 ∈ r := cnt_mem.mp (by omega)
            exact vR_le h _ hm
          obtain ⟨v1, v2, v3, v4⟩ := nxR_v h (d := j + 1) (by omega) hj14 (Or.inl ⟨hrl, by omega⟩)
          have hx : nxR (gK g r) (j + 1) r = lvG 0 (j + 1) true (decide (0 < j + 1)) r := by unfold nxR; rw [if_pos hrl]
          obtain ⟨f', e1, e2, e3⟩ := leaves9 (N := 480) (by omega) hr' (pw := 0) (ls := j + 1) (to := 12 * u + 12) (by omega) (by omega) (by omega) (by omega) (by omega) hlt
          rw [← hx] at e2
          obtain ⟨rows', g1, g2⟩ := ih (nxR (gK g r) (j + 1) r).length (by omega) g (nxR (gK g r) (j + 1) r) f' (u + 1) d rfl v1 (by omega) (by omega) (by rw [show 12 * (u + 1) = 12 * u + 12 by omega]; exact e2)
          have e1' : F_X9_leaves 480 rw' (Int32.ofNat (12 * u)) (Int32.ofNat r.length) (0 : Int32) (Int32.ofNat (j + 1)) (Int32.ofNat (12 * u + 12)) = some f' := e1
          have cz : ¬ Int32.ofNat (r.count (j + 1)) = 0 := fun y => z ((n_inj (b := 0) (by have := cl (j + 1); omega) (by omega)).mp y)
          refine Or.inl ⟨rows', Int64.ofNat (wS8 (gK g r) (min (j + 1) 14)), Int32.ofNat (j + 2), ⟨rfl, rfl, fun k hk => ?_⟩, fun ag => ?_⟩
          · rw [g2 k (by omega), e3 k (Or.inl hk), i1 k hk]
          · unfold B_X9_numberAt_94
            rw [if_neg c40, mul12, oj, bd_s, if_neg cz, e12, e1', bd_s, eu, en, show r.length - 1 = (nxR (gK g r) (j + 1) r).length by omega, g1, bd_s, ej]
            dsimp only
            have hw : wtK (gK g r) (j + 1) = r.count (j + 1) := by unfold wtK; rw [if_pos hrl, r1 (j + 1) (by omega)]
            rw [n_i64 (by have := cl (j + 1); omega), ← Int64.ofNat_mul, ← Int64.ofNat_add, show min (j + 1) 14 = j + 1 by omega, show min j 14 = j by omega, wS8_s, if_neg v3, hw, v2]
      · obtain ⟨rfl, rfl, i1⟩ := hI
        refine ⟨_, ⟨rw', rfl, i1⟩, fun ag => ?_⟩
        unfold B_X9_numberAt_94
        rw [if_pos (by decide)]
        show some (Int64.ofNat (wS8 (gK g r) 14), rw') = _
        rw [ev, hb, Nat.zero_add]
  · have hB : bK (gK g r) < 1000 := by
      unfold bK
      repeat' split
      all_goals omega
    rw [if_neg hb, if_neg (lg_neg (by omega))]
    refine ⟨rows, ?_, fun k _ => rfl⟩
    have hw : wS8 (gK g r) 14 = 0 := by
      have hrl : rlK (gK g r) = 1 := by unfold rlK; rw [if_neg hb]
      have : ∀ q, wS8 (gK g r) q = 0 := fun q => by
        induction q with
        | zero => rfl
        | succ q ih2 =>
          have hx : nxK (gK g r) (q + 1) = 0 := by
            unfold nxK
            rw [if_neg (fun y => by rw [hrl] at y; exact absurd y.1 (by decide)), if_neg (fun y => by rw [hrl] at y; exact absurd y.1 (by decide))]
          rw [wS8_s, ih2, if_pos hx]
      exact this 14
    rw [ev, hw, Nat.add_zero]
/-- the number of a row, over its line -/
noncomputable def VW (g : Nat) (l : List Nat) : Nat := VZ (kzL g l)
theorem kzL_Y {g : Nat} {l : List Nat} (h : vR g l) : kzL g l = gK g l := by unfold kzL; rw [if_pos h]
theorem kzL_N {g : Nat} {l : List Nat} (h : ¬ vR g l) : kzL g l = 0 := by unfold kzL; rw [if_neg h]
theorem kzL_O (g : Nat) (l : List Nat) : kzO (kzL g l) := by
  by_cases h : vR g l
  · rw [kzL_Y h]; exact Or.inr (vR_l h).1
  · rw [kzL_N h]; exact Or.inl rfl
theorem VW_Y {g : Nat} {l : List Nat} (h : vR g l) : VW g l = VN (gK g l) := by
  unfold VW VZ
  rw [kzL_Y h, if_neg (lgt_n0 (vR_l h).1)]
theorem VW_N {g : Nat} {l : List Nat} (h : ¬ vR g l) : VW g l = 0 := by
  unfold VW VZ
  rw [kzL_N h, if_pos rfl]
theorem VW_lt (g : Nat) (l : List Nat) : VW g l < 4294967296 := by
  by_cases h : vR g l
  · rw [VW_Y h]; exact (KF_l (vR_l h).1).2.2.2.2.2.2.2.2.2
  · rw [VW_N h]; omega
theorem gn_le : ∀ g, g < 3 → ∀ n, n < 12 → ((((2 : Int32) * Int32.ofNat g) - (2 : Int32)) + Int32.ofNat n ≤ 0 ↔ 2 * g + n ≤ 2) := by decide +kernel
theorem gn_eq : ∀ g, g < 3 → ∀ n, n < 12 → 2 < 2 * g + n → ((((3 : Int32) * Int32.ofNat g) - (3 : Int32)) + Int32.ofNat n) = Int32.ofNat (3 * g + n - 3) := by decide +kernel
theorem sum_take (l : List Nat) {j : Nat} (hj : j < l.length) : (l.take (j + 1)).sum = (l.take j).sum + l.getD j 0 := by
  rw [getD_el hj, List.take_succ_eq_append_getElem hj, List.sum_append_nat]; simp
theorem nothing9 {N : Nat} (hN : N < 100000) {f : Nat → Int32} {o g : Nat} {l : List Nat} (hf : rA f o l) (hg : g < 3) (hl : l.length < 12) (ho : o + l.length ≤ N) (hs : l.sum < 1000000) :
    F_X9_isNothing N f (Int32.ofNat g) (Int32.ofNat o) (Int32.ofNat l.length) = some (if kzL g l = 0 then 1 else 0) := by
  have key : F_X9_isNothing N f (Int32.ofNat g) (Int32.ofNat o) (Int32.ofNat l.length) = K_X9_isNothing_6_29 (Int32.ofNat g) (Int32.ofNat l.length) (Int32.ofNat l.sum) := by
    unfold F_X9_isNothing
    refine wq2_it l.length (fun j => Int32.ofNat (l.take j).sum) (fun j => Int32.ofNat j) (fun j hj ag => ?_) (fun ag => ?_) FU (by unfold FU; omega)
    · have ej : ∀ j, Int32.ofNat j + (1 : Int32) = Int32.ofNat (j + 1) := fun j => n_add j 1
      unfold B_X9_isNothing_6
      rw [if_neg (c_ge (by omega) (by omega) hj), n_add, ck_n (by omega) (by omega), n_clamp (by omega), rA_D hf hj, n_add, sum_take l hj, ej]
    · unfold B_X9_isNothing_6
      rw [if_pos ((n_le (by omega) (by omega)).mpr (Nat.le_refl _)), List.take_length]
  rw [key]
  unfold K_X9_isNothing_6_29
  have k0 : ∀ (h : vR g l), ¬ kzL g l = 0 := fun h => by rw [kzL_Y h]; exact lgt_n0 (vR_l h).1
  by_cases c : 2 * g + l.length ≤ 2
  · rw [if_pos ((gn_le g hg _ hl).mpr c), if_pos (kzL_N (fun h => by have := h.2.2.1; omega))]
  · rw [if_neg (fun z => c ((gn_le g hg _ hl).mp z)), gn_eq g hg _ hl (by omega)]
    by_cases d : l.sum = 3 * g + l.length - 3
    · have hv : vR g l := ⟨hg, hl, by omega, by omega⟩
      rw [if_pos (by rw [d]), if_neg (k0 hv)]
    · rw [if_neg (fun z => d ((n_inj (by omega) (by omega)).mp z)), if_pos (kzL_N (fun h => d (by have := h.2.2.2; omega)))]
theorem numOf9 {rows : Nat → Int32} {g : Nat} {l : List Nat} (hr : rp rows l) (hg : g < 3) (hl : l.length < 12) (hs : l.sum < 1000000) : ∃ rows', F_X9_numberOf rows (Int32.ofNat g) (Int32.ofNat l.length) = some (Int64.ofNat (VW g l), rows') := by
  unfold F_X9_numberOf
  have e0 : F_X9_isNothing 480 rows (Int32.ofNat g) (0 : Int32) (Int32.ofNat l.length) = some (if kzL g l = 0 then 1 else 0) := nothing9 (N := 480) (o := 0) (by omega) (rA_rp hr) hg hl (by omega) hs
  rw [e0, bd_s]
  by_cases h : vR g l
  · have k0 : ¬ kzL g l = 0 := by rw [kzL_Y h]; exact lgt_n0 (vR_l h).1
    obtain ⟨rows', e1, -⟩ := numAt9 l.length g l rows 0 16 rfl h (by omega) (by omega) (rA_rp hr)
    have e1' : F_X9_numberAt 16 rows (Int32.ofNat g) (0 : Int32) (Int32.ofNat l.length) = some (Int64.ofNat (VN (gK g l)), rows') := e1
    rw [if_neg k0, if_pos i00, e1', bd_s, VW_Y h]
    exact ⟨rows', rfl⟩
  · rw [if_pos (kzL_N h), if_neg i10, VW_N h]
    exact ⟨rows, rfl⟩
