/-! The model's NUMBER. -/
theorem rep_f {g : Nat} {r : List Nat} (h : vR g r) : (∀ p, p < 15 → dg (gK g r) p = r.count p) ∧ bK (gK g r) = bC g r.length r ∧ (rlK (gK g r) = 3 → 0 < r.count 1) := by
  obtain ⟨t, h1, h2⟩ := vR_rep h
  obtain ⟨a, b, c, d⟩ := h
  have hG : chkRG g = true := by
    rcases (show g = 0 ∨ g = 1 ∨ g = 2 by omega) with rfl | rfl | rfl
    · exact reps0
    · exact reps1
    · exact reps2
  have hq := List.all_eq_true.mp hG r.length (List.mem_range.mpr b)
  rw [Bool.or_eq_true] at hq
  have hq2 : chkR g r.length t = true := by
    rcases hq with hq | hq
    · rw [Nat.ble_eq] at hq; omega
    · exact List.all_eq_true.mp hq t h1
  unfold chkR at hq2
  rw [Bool.and_eq_true, Bool.and_eq_true] at hq2
  obtain ⟨⟨q1, q2⟩, q3⟩ := hq2
  have eK : gK g t = gK g r := gK_perm h2
  have ec : ∀ p, t.count p = r.count p := fun p => h2.count p
  have eb : bC g r.length t = bC g r.length r := by unfold bC; rw [ec, ec, ec, ec, ec]
  refine ⟨fun p hp => ?_, ?_, fun h3 => ?_⟩
  · have := beq_iff_eq.mp (List.all_eq_true.mp q1 p (List.mem_range.mpr hp))
    rw [eK, ec] at this; exact this
  · have := beq_iff_eq.mp q2
    rw [eK, eb] at this; exact this
  · rw [eK, ec] at q3
    rw [Bool.or_eq_true] at q3
    rcases q3 with q3 | q3
    · have : (rlK (gK g r) == 3) = true := beq_iff_eq.mpr h3
      rw [this] at q3; exact absurd q3 (by decide)
    · rw [Nat.blt_eq] at q3; exact q3
/-- the row that comes up by a power -/
def nxR (key d : Nat) (r : List Nat) : List Nat := if rlK key = 2 then lvG 0 d true (decide (0 < d)) r else lvG 1 0 true false r
theorem cnt_mem {r : List Nat} {p : Nat} : 0 < r.count p ↔ p ∈ r := List.count_pos_iff
theorem K_cons (g a : Nat) (r : List Nat) : gK g (a :: r) = gK g r + 16 ^ a := by
  unfold gK
  rw [List.map_cons, List.sum_cons]; omega
theorem nxR_v {g d : Nat} {r : List Nat} (h : vR g r) (h1 : 1 ≤ d) (h14 : d ≤ 14) (h2 : rlK (gK g r) = 2 ∧ 0 < r.count d ∨ rlK (gK g r) = 3 ∧ d = 1) : vR g (nxR (gK g r) d r) ∧ gK g (nxR (gK g r) d r) = nxK (gK g r) d ∧ ¬ nxK (gK g r) d = 0 ∧ (nxR (gK g r) d r).length + 1 = r.length := by
  obtain ⟨l1, l2, l3⟩ := vR_l h
  obtain ⟨k1, k2, k3, k4, k5, k6, k7, k8, k9, k10⟩ := KF_l l1
  obtain ⟨a, b, c, e⟩ := id h
  obtain ⟨r1, r2, r3⟩ := rep_f h
  rcases h2 with ⟨h2, hd⟩ | ⟨h2, rfl⟩
  · have h0 : 0 < r.count 0 := by
      have := h2
      unfold rlK at this
      by_cases z : bK (gK g r) = 0
      · rw [if_pos z] at this
        by_cases y : dg (gK g r) 0 = 0
        · rw [if_pos y] at this; exact absurd this (by decide)
        · rw [r1 0 (by omega)] at y; omega
      · rw [if_neg z] at this; exact absurd this (by decide)
    obtain ⟨x, p1, p2⟩ := lvG_tt 0 d (by omega) r (cnt_mem.mp h0) (cnt_mem.mp hd)
    have hn : nxR (gK g r) d r = lvG 0 d true true r := by unfold nxR; rw [if_pos h2, decide_eq_true (show 0 < d by omega)]
    have hl := p1.length_eq
    have hs := p1.sum_nat
    have hl2 := p2.length_eq
    have hs2 := p2.sum_nat
    have hK := gK_perm (g := g) p1
    have hK2 := gK_perm (g := g) p2
    rw [K_cons, K_cons] at hK
    rw [K_cons] at hK2
    rw [List.length_cons, List.length_cons] at hl
    rw [List.length_cons] at hl2
    rw [List.sum_cons, List.sum_cons] at hs
    rw [List.sum_cons] at hs2
    have hx : nxK (gK g r) d = gK g r - 1 - 16 ^ d + 16 ^ (d - 1) := by
      unfold nxK; rw [if_pos ⟨h2, by rw [r1 d (by omega)]; exact hd⟩]
    have p16 : 0 < 16 ^ (d - 1) := Nat.pow_pos (by omega)
    have hx2 : nxK (gK g r) d = gK g (lvG 0 d true true r) := by
      rw [hx, hK2, hK]
      show gK g x + 16 ^ d + 16 ^ 0 - 1 - 16 ^ d + 16 ^ (d - 1) = gK g x + 16 ^ (d - 1)
      rw [Nat.pow_zero]; omega
    have h0' : ¬ nxK (gK g r) d = 0 := by rw [hx]; omega
    obtain ⟨f1, f2, f3, f4⟩ := k8 d h1 h14 h0'
    rw [hn]
    refine ⟨⟨a, by omega, by rw [l2, l3] at f3; omega, by omega⟩, hx2.symm, h0', by omega⟩
  · have h1' := r3 h2
    have p1 := lvG_tf 1 0 r (cnt_mem.mp h1')
    have hn : nxR (gK g r) 1 r = lvG 1 0 true false r := by unfold nxR; rw [if_neg (by rw [h2]; decide)]
    have hl := p1.length_eq
    have hs := p1.sum_nat
    have hK := gK_perm (g := g) p1
    rw [K_cons] at hK
    rw [List.length_cons] at hl
    rw [List.sum_cons] at hs
    have hx : nxK (gK g r) 1 = gK g r - 16 := by
      unfold nxK; rw [if_neg (fun z => by rw [h2] at z; exact absurd z.1 (by decide)), if_pos ⟨h2, rfl⟩]
    have hx2 : nxK (gK g r) 1 = gK g (lvG 1 0 true false r) := by
      rw [hx, hK, Nat.pow_one]; omega
    have hge : 2 ≤ r.length := by
      obtain ⟨x1, x2, x3⟩ := r3 |> fun _ => (⟨b, c, e⟩ : r.length < 12 ∧ 2 < 2 * g + r.length ∧ r.sum + 3 = 3 * g + r.length)
      by_cases q : 2 ≤ r.length
      · exact q
      · exfalso
        have hb0 : bK (gK g r) = 0 := by
          have := h2
          unfold rlK at this
          by_cases z : bK (gK g r) = 0
          · exact z
          · rw [if_neg z] at this; exact absurd this (by decide)
        have hlen : (lvG 1 0 true false r).length = 0 := by omega
        have hnil : lvG 1 0 true false r = [] := List.eq_nil_of_length_eq_zero hlen
        rw [hnil] at hs p1
        have er : r = [1] := List.Perm.eq_singleton p1
        subst er
        simp at e
        have hg : g = 1 := by omega
        subst hg
        exact absurd hb0 (by decide)
    have h0' : ¬ nxK (gK g r) 1 = 0 := by
      intro z
      have hh : gK g (lvG 1 0 true false r) = 0 := by rw [← hx2]; exact z
      cases hc : lvG 1 0 true false r with
      | nil => rw [hc] at hl; simp at hl; omega
      | cons y q =>
        rw [hc, K_cons] at hh
        have : 0 < 16 ^ y := Nat.pow_pos (by omega)
        omega
    obtain ⟨f1, f2, f3, f4⟩ := k8 1 (by omega) (by omega) h0'
    rw [hn]
    refine ⟨⟨a, by omega, by rw [l2, l3] at f3; omega, by omega⟩, hx2.symm, h0', by omega⟩
theorem vR_lt {g : Nat} {r : List Nat} (h : vR g r) : ∀ x ∈ r, x < 1000 := fun x hx => by have := vR_le h x hx; omega
theorem base9 {N : Nat} (hN : N < 100000) {f : Nat → Int32} {o g : Nat} {r : List Nat} (hf : rA f o r) (h : vR g r) (ho : o + r.length ≤ N) : F_X9_base N f (Int32.ofNat g) (Int32.ofNat o) (Int32.ofNat r.length) = some (if bK (gK g r) = 0 then (-1 : Int64) else Int64.ofNat (bK (gK g r))) := by
  obtain ⟨r1, r2, r3⟩ := rep_f h
  obtain ⟨a, b, c, e⟩ := id h
  have oft := fun p (hp : p < 1000) => often9 hN hf (vR_lt h) ho (by omega) hp
  have ci : ∀ p q, p < 100 → q < 100 → ((Int32.ofNat p = Int32.ofNat q) ↔ p = q) := fun p q hp hq => n_inj (by omega) (by omega)
  have cl : ∀ p, r.count p < 100 := fun p => by have : r.count p ≤ r.length := List.count_le_length; omega
  have o0 : F_X9_often N f (Int32.ofNat o) (Int32.ofNat r.length) (0 : Int32) = some (Int32.ofNat (r.count 0)) := oft 0 (by omega)
  have o2 : F_X9_often N f (Int32.ofNat o) (Int32.ofNat r.length) (2 : Int32) = some (Int32.ofNat (r.count 2)) := oft 2 (by omega)
  have o3 : F_X9_often N f (Int32.ofNat o) (Int32.ofNat r.length) (3 : Int32) = some (Int32.ofNat (r.count 3)) := oft 3 (by omega)
  have n1 : (Int32.ofNat r.length = (1 : Int32)) ↔ r.length = 1 := ci r.length 1 (by omega) (by omega)
  have n2 : (Int32.ofNat r.length = (2 : Int32)) ↔ r.length = 2 := ci r.length 2 (by omega) (by omega)
  have n3 : (Int32.ofNat r.length = (3 : Int32)) ↔ r.length = 3 := ci r.length 3 (by omega) (by omega)
  have one : ∀ q, q < 100 → r.length = 1 → ((f o = Int32.ofNat q) ↔ r.count q = 1) := fun q hq hl => by
    obtain ⟨x, rfl⟩ := List.length_eq_one_iff.mp hl
    have hx := vR_lt h x (by simp)
    have := hf 0 x rfl
    rw [Nat.add_zero] at this
    rw [this, n_inj (by omega) (by omega)]
    by_cases z : x = q
    · simp [z]
    · simp [z]
  rw [r2]
  unfold F_X9_base bC
  rcases (show g = 0 ∨ g = 1 ∨ g = 2 by omega) with rfl | rfl | rfl
  · rw [if_pos (show Int32.ofNat 0 = (0 : Int32) from rfl), if_pos rfl]
    by_cases d : r.length = 3
    · rw [if_pos (n3.mpr d), o0, bd_s]
      have : (Int32.ofNat (r.count 0) = (3 : Int32)) ↔ r.count 0 = 3 := ci _ 3 (cl 0) (by omega)
      by_cases z : r.count 0 = 3
      · have y : r.length = 3 ∧ r.count 0 = 3 := ⟨d, z⟩
        rw [if_pos (this.mpr z), if_pos y]; rfl
      · have y : ¬ (r.length = 3 ∧ r.count 0 = 3) := fun w => z w.2
        rw [if_neg (fun w => z (this.mp w)), if_neg y]; rfl
    · have y : ¬ (r.length = 3 ∧ r.count 0 = 3) := fun w => d w.1
      rw [if_neg (fun z => d (n3.mp z)), if_neg y]; rfl
  · have g0 : ¬ Int32.ofNat 1 = (0 : Int32) := by decide
    have g1 : ¬ (1 : Nat) = 0 := by decide
    rw [if_neg g0, if_pos (show Int32.ofNat 1 = (1 : Int32) from rfl), if_neg g1, if_pos rfl]
    by_cases d : r.length = 1
    · rw [if_pos (n1.mpr d), ck_n (by omega) (by omega), n_clamp (by omega)]
      have q1 : (f o = (1 : Int32)) ↔ r.count 1 = 1 := one 1 (by omega) d
      by_cases z : r.count 1 = 1
      · have y : r.length = 1 ∧ r.count 1 = 1 := ⟨d, z⟩
        rw [if_pos (q1.mpr z), if_pos y]; rfl
      · have y : ¬ (r.length = 1 ∧ r.count 1 = 1) := fun w => z w.2
        rw [if_neg (fun w => z (q1.mp w)), if_neg y]; rfl
    · have y : ¬ (r.length = 1 ∧ r.count 1 = 1) := fun w => d w.1
      rw [if_neg (fun z => d (n1.mp z)), if_neg y]; rfl
  · have g0 : ¬ Int32.ofNat 2 = (0 : Int32) := by decide
    have g1 : ¬ Int32.ofNat 2 = (1 : Int32) := by decide
    have h0 : ¬ (2 : Nat) = 0 := by decide
    have h1 : ¬ (2 : Nat) = 1 := by decide
    have c2_1 : (Int32.ofNat (r.count 2) = (1 : Int32)) ↔ r.count 2 = 1 := ci _ 1 (cl 2) (by omega)
    have c2_3 : (Int32.ofNat (r.count 2) = (3 : Int32)) ↔ r.count 2 = 3 := ci _ 3 (cl 2) (by omega)
    have c3_1 : (Int32.ofNat (r.count 3) = (1 : Int32)) ↔ r.count 3 = 1 := ci _ 1 (cl 3) (by omega)
    have j100 : ¬ (r.length = 2 ∧ r.count 2 = 1 ∧ r.count 3 = 1) → J_X9_base_100 N f (Int32.ofNat o) (Int32.ofNat r.length) = some (if (if r.length = 2 ∧ r.count 2 = 1 ∧ r.count 3 = 1 then 29 else if r.length = 3 ∧ r.count 2 = 3 then 168 else 0) = 0 then (-1 : Int64) else Int64.ofNat (if r.length = 2 ∧ r.count 2 = 1 ∧ r.count 3 = 1 then 29 else if r.length = 3 ∧ r.count 2 = 3 then 168 else 0)) := fun hn => by
      unfold J_X9_base_100
      rw [if_neg hn]
      by_cases d : r.length = 3
      · rw [if_pos (n3.mpr d), o2, bd_s]
        by_cases z : r.count 2 = 3
        · have y : r.length = 3 ∧ r.count 2 = 3 := ⟨d, z⟩
          rw [if_pos (c2_3.mpr z), if_pos y]; rfl
        · have y : ¬ (r.length = 3 ∧ r.count 2 = 3) := fun w => z w.2
          rw [if_neg (fun w => z (c2_3.mp w)), if_neg y]; rfl
      · have y : ¬ (r.length = 3 ∧ r.count 2 = 3) := fun w => d w.1
        rw [if_neg (fun z => d (n3.mp z)), if_neg y]; rfl
    have j69 : J_X9_base_69 N f (Int32.ofNat o) (Int32.ofNat r.length) = some (if (if r.length = 2 ∧ r.count 2 = 1 ∧ r.count 3 = 1 then 29 else if r.length = 3 ∧ r.count 2 = 3 then 168 else 0) = 0 then (-1 : Int64) else Int64.ofNat (if r.length = 2 ∧ r.count 2 = 1 ∧ r.count 3 = 1 then 29 else if r.length = 3 ∧ r.count 2 = 3 then 168 else 0)) := by
      unfold J_X9_base_69
      by_cases d : r.length = 2
      · rw [if_pos (n2.mpr d), o2, bd_s]
        by_cases z : r.count 2 = 1
        · rw [if_pos (c2_1.mpr z), o3, bd_s]
          by_cases w : r.count 3 = 1
          · have y : r.length = 2 ∧ r.count 2 = 1 ∧ r.count 3 = 1 := ⟨d, z, w⟩
            rw [if_pos (c3_1.mpr w), if_pos y]; rfl
          · rw [if_neg (fun v => w (c3_1.mp v)), j100 (fun v => w v.2.2)]
        · rw [if_neg (fun v => z (c2_1.mp v)), j100 (fun v => z v.2.1)]
      · rw [if_neg (fun v => d (n2.mp v)), j100 (fun v => d v.1)]
    rw [if_neg g0, if_neg g1, if_neg h0, if_neg h1]
    by_cases d : r.length = 1
    · rw [if_pos (n1.mpr d), ck_n (by omega) (by omega), n_clamp (by omega)]
      have q4 : (f o = (4 : Int32)) ↔ r.count 4 = 1 := one 4 (by omega) d
      by_cases z : r.count 4 = 1
      · have y : r.length = 1 ∧ r.count 4 = 1 := ⟨d, z⟩
        rw [if_pos (q4.mpr z), if_pos y]; rfl
      · have y : ¬ (r.length = 1 ∧ r.count 4 = 1) := fun w => z w.2
        rw [if_neg (fun w => z (q4.mp w)), if_neg y, j69]
    · have y : ¬ (r.length = 1 ∧ r.count 4 = 1) := fun w => d w.1
      rw [if_neg (fun z => d (n1.mp z)), if_neg y, j69]
