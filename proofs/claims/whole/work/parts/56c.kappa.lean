/-! kappa(), hold(). -/
theorem wmCp {g n L s : Int32} {mp mt : Nat → Int32} {a : AD} (h : D9 g n L s mp mt a) (hv : VD a) (rows : Nat → Int32) (p0 p1 p2 p3 : Int32) : ∃ rw, rp rw a.2.1 ∧ F_X9_withMore g n rows mp p0 p1 p2 p3 = K_X9_withMore_3_32 (Int32.ofNat a.1) (Int32.ofNat a.2.1.length) p0 p1 p2 p3 rw := by
  obtain ⟨rfl, rfl, rfl, rfl, hp, ht⟩ := h
  have n8 := hv.2.1
  refine ⟨fun k => if k < a.2.1.length then mp k else rows k, cp_rp hp, ?_⟩
  unfold F_X9_withMore
  have e0 := cp_0 mp rows
  conv => lhs; rw [← e0]
  refine wq2_it a.2.1.length (fun j k => if k < j then mp k else rows k) (fun j => Int32.ofNat j) (fun j hj ag => ?_) (fun ag => ?_) FU (by unfold FU; omega)
  · have ej : Int32.ofNat j + (1 : Int32) = Int32.ofNat (j + 1) := n_add j 1
    unfold B_X9_withMore_3
    rw [if_neg (c_ge (by omega) (by omega) hj), ck_n (by omega) (by omega), ck_n (by omega) (by omega), n_clamp (by omega), cp_up, ej]
  · unfold B_X9_withMore_3
    rw [if_pos ((n_le (by omega) (by omega)).mpr (Nat.le_refl _))]
noncomputable def W1 (a : AD) (x : Nat) : Nat := VW a.1 (a.2.1 ++ [x + 1])
noncomputable def W2 (a : AD) (x y : Nat) : Nat := VW a.1 (a.2.1 ++ [x + 1] ++ [y + 1])
noncomputable def W3 (a : AD) (x y z : Nat) : Nat := VW a.1 (a.2.1 ++ [x + 1] ++ [y + 1] ++ [z + 1])
theorem wm1 {g n L s : Int32} {mp mt : Nat → Int32} {a : AD} (h : D9 g n L s mp mt a) (hv : VD a) (rows : Nat → Int32) {x : Nat} (hx : x < 100) (q r : Int32) : ∃ rows', F_X9_withMore g n rows mp (Int32.ofNat x) q r (1 : Int32) = some (Int64.ofNat (W1 a x), rows') := by
  obtain ⟨rw0, hr, e⟩ := wmCp h hv rows (Int32.ofNat x) q r (1 : Int32)
  have n8 := hv.2.1
  have hs := sum_le12 hv.2.2.1
  obtain ⟨rows', e2⟩ := numOf9 (rp_push hr (x + 1)) (show a.1 < 3 by have := hv.1; omega) (by simp; omega) (by rw [List.sum_append_nat]; simp; omega)
  refine ⟨rows', ?_⟩
  rw [e]
  unfold K_X9_withMore_3_32 J_X9_withMore_49 J_X9_withMore_69 J_X9_withMore_89
  rw [if_neg (by decide), if_pos (by decide), if_pos (by decide), ck_n (by omega) (by omega), n_clamp (by omega), pO_1, len1 a.2.1 (x + 1), e2, bd_s]; rfl
theorem wm2 {g n L s : Int32} {mp mt : Nat → Int32} {a : AD} (h : D9 g n L s mp mt a) (hv : VD a) (rows : Nat → Int32) {x y : Nat} (hx : x < 100) (hy : y < 100) (r : Int32) : ∃ rows', F_X9_withMore g n rows mp (Int32.ofNat x) (Int32.ofNat y) r (2 : Int32) = some (Int64.ofNat (W2 a x y), rows') := by
  obtain ⟨rw0, hr, e⟩ := wmCp h hv rows (Int32.ofNat x) (Int32.ofNat y) r (2 : Int32)
  have n8 := hv.2.1
  have hs := sum_le12 hv.2.2.1
  have r2 := rp_push (rp_push hr (x + 1)) (y + 1)
  obtain ⟨rows', e2⟩ := numOf9 r2 (show a.1 < 3 by have := hv.1; omega) (by simp; omega) (by rw [List.sum_append_nat, List.sum_append_nat]; simp; omega)
  refine ⟨rows', ?_⟩
  have l1 : Int32.ofNat a.2.1.length + (1 : Int32) = Int32.ofNat (a.2.1 ++ [x + 1]).length := len1 a.2.1 (x + 1)
  have l2 : Int32.ofNat a.2.1.length + (2 : Int32) = Int32.ofNat (a.2.1 ++ [x + 1] ++ [y + 1]).length := by
    have := n_add a.2.1.length 2
    simpa using this
  have l3 : (a.2.1 ++ [x + 1]).length < 480 := by simp; omega
  rw [e]
  unfold K_X9_withMore_3_32 J_X9_withMore_49 J_X9_withMore_69 J_X9_withMore_89
  rw [if_neg (by decide), if_neg (by decide), if_pos (by decide), l1, l2, ck_n (by omega) (by omega), n_clamp (by omega), ck_n l3 (by omega), n_clamp (by omega), pO_1, pO_1, e2, bd_s]; rfl
theorem wm3 {g n L s : Int32} {mp mt : Nat → Int32} {a : AD} (h : D9 g n L s mp mt a) (hv : VD a) (rows : Nat → Int32) {x y z : Nat} (hx : x < 100) (hy : y < 100) (hz : z < 100) : ∃ rows', F_X9_withMore g n rows mp (Int32.ofNat x) (Int32.ofNat y) (Int32.ofNat z) (3 : Int32) = some (Int64.ofNat (W3 a x y z), rows') := by
  obtain ⟨rw0, hr, e⟩ := wmCp h hv rows (Int32.ofNat x) (Int32.ofNat y) (Int32.ofNat z) (3 : Int32)
  have n8 := hv.2.1
  have hs := sum_le12 hv.2.2.1
  have r2 := rp_push (rp_push (rp_push hr (x + 1)) (y + 1)) (z + 1)
  obtain ⟨rows', e2⟩ := numOf9 r2 (show a.1 < 3 by have := hv.1; omega) (by simp; omega) (by rw [List.sum_append_nat, List.sum_append_nat, List.sum_append_nat]; simp; omega)
  refine ⟨rows', ?_⟩
  have l1 : Int32.ofNat a.2.1.length + (1 : Int32) = Int32.ofNat (a.2.1 ++ [x + 1]).length := len1 a.2.1 (x + 1)
  have l2 : Int32.ofNat a.2.1.length + (2 : Int32) = Int32.ofNat (a.2.1 ++ [x + 1] ++ [y + 1]).length := by
    have := n_add a.2.1.length 2
    simpa using this
  have l3 : Int32.ofNat a.2.1.length + (3 : Int32) = Int32.ofNat (a.2.1 ++ [x + 1] ++ [y + 1] ++ [z + 1]).length := by
    have := n_add a.2.1.length 3
    simpa using this
  have b1 : (a.2.1 ++ [x + 1]).length < 480 := by simp; omega
  have b2 : (a.2.1 ++ [x + 1] ++ [y + 1]).length < 480 := by simp; omega
  rw [e]
  unfold K_X9_withMore_3_32 J_X9_withMore_49 J_X9_withMore_69 J_X9_withMore_89
  rw [if_neg (by decide), if_neg (by decide), if_neg (by decide), l1, l2, l3, ck_n (by omega) (by omega), n_clamp (by omega), ck_n b1 (by omega), n_clamp (by omega), ck_n b2 (by omega), n_clamp (by omega), pO_1, pO_1, pO_1, e2, bd_s]; rfl
theorem k1_9 {g n L s : Int32} {mp mt : Nat → Int32} {a : AD} (h : D9 g n L s mp mt a) (hv : VD a) (rows : Nat → Int32) {x : Nat} (hx : x < 100) : ∃ rows', F_X9_kappaOne g n rows mp (Int32.ofNat x) = some (Int64.ofNat (W1 a x), rows') := by
  obtain ⟨rows', e⟩ := wm1 h hv rows hx (0 : Int32) (0 : Int32)
  exact ⟨rows', by unfold F_X9_kappaOne; rw [e, bd_s]⟩
theorem k2_9 {g n L s : Int32} {mp mt : Nat → Int32} {a : AD} (h : D9 g n L s mp mt a) (hv : VD a) (rows : Nat → Int32) {x y : Nat} (hx : x < 50) (hy : y < 50) : ∃ rows', F_X9_kappaTwo g n rows mp (Int32.ofNat x) (Int32.ofNat y) = some (Int64.ofNat (W2 a x y) - Int64.ofNat (W1 a (x + y)), rows') := by
  obtain ⟨r1, e1⟩ := wm2 h hv rows (x := x) (y := y) (by omega) (by omega) (0 : Int32)
  obtain ⟨r2, e2⟩ := k1_9 h hv r1 (x := x + y) (by omega)
  refine ⟨r2, ?_⟩
  unfold F_X9_kappaTwo
  rw [e1, bd_s, n_add]
  dsimp only
  rw [e2, bd_s]
theorem o_some {x : Nat} (h : x < 1000) : oL (some x) := fun a e => by rw [← Option.some.inj e]; exact h
theorem a1_8 {g s lim : Int32} {tr : Int64} {pw : Nat → Int32} {a : AD} (h : D8 g s lim tr pw a) (hv : VD a) {x : Nat} (hx : x < 1000) {keys aboves : Nat → Int64} (hT : TI keys aboves) :
    ∃ keys' aboves' sz sm ga, F_X8_aboveWith g s pw keys aboves (Int32.ofNat x) (-1 : Int32) (-1 : Int32) = some (Int64.ofNat (W1 a x), keys', aboves', sz, sm, ga) ∧ TI keys' aboves' := by
  obtain ⟨keys', aboves', sz, sm, ga, e, t⟩ := aboveW8 h hv (o_some hx) o_none o_none hT
  refine ⟨keys', aboves', sz, sm, ga, ?_, t⟩
  have el : a.2.1 ++ lO (some x) ++ lO none ++ lO none = a.2.1 ++ [x + 1] := by simp [lO]
  rw [el] at e; exact e
theorem a2_8 {g s lim : Int32} {tr : Int64} {pw : Nat → Int32} {a : AD} (h : D8 g s lim tr pw a) (hv : VD a) {x y : Nat} (hx : x < 1000) (hy : y < 1000) {keys aboves : Nat → Int64} (hT : TI keys aboves) :
    ∃ keys' aboves' sz sm ga, F_X8_aboveWith g s pw keys aboves (Int32.ofNat x) (Int32.ofNat y) (-1 : Int32) = some (Int64.ofNat (W2 a x y), keys', aboves', sz, sm, ga) ∧ TI keys' aboves' := by
  obtain ⟨keys', aboves', sz, sm, ga, e, t⟩ := aboveW8 h hv (o_some hx) (o_some hy) o_none hT
  refine ⟨keys', aboves', sz, sm, ga, ?_, t⟩
  have el : a.2.1 ++ lO (some x) ++ lO (some y) ++ lO none = a.2.1 ++ [x + 1] ++ [y + 1] := by simp [lO]
  rw [el] at e; exact e
theorem a3_8 {g s lim : Int32} {tr : Int64} {pw : Nat → Int32} {a : AD} (h : D8 g s lim tr pw a) (hv : VD a) {x y z : Nat} (hx : x < 1000) (hy : y < 1000) (hz : z < 1000) {keys aboves : Nat → Int64} (hT : TI keys aboves) :
    ∃ keys' aboves' sz sm ga, F_X8_aboveWith g s pw keys aboves (Int32.ofNat x) (Int32.ofNat y) (Int32.ofNat z) = some (Int64.ofNat (W3 a x y z), keys', aboves', sz, sm, ga) ∧ TI keys' aboves' := by
  obtain ⟨keys', aboves', sz, sm, ga, e, t⟩ := aboveW8 h hv (o_some hx) (o_some hy) (o_some hz) hT
  refine ⟨keys', aboves', sz, sm, ga, ?_, t⟩
  have el : a.2.1 ++ lO (some x) ++ lO (some y) ++ lO (some z) = a.2.1 ++ [x + 1] ++ [y + 1] ++ [z + 1] := by simp [lO]
  rw [el] at e; exact e
theorem k2_8 {g s lim : Int32} {tr : Int64} {pw : Nat → Int32} {a : AD} (h : D8 g s lim tr pw a) (hv : VD a) {x y : Nat} (hx : x < 50) (hy : y < 50) {keys aboves : Nat → Int64} (hT : TI keys aboves) :
    ∃ keys' aboves' sz sm ga, F_X8_kappaOfTwo g s pw keys aboves (Int32.ofNat x) (Int32.ofNat y) = some (Int64.ofNat (W2 a x y) - Int64.ofNat (W1 a (x + y)), keys', aboves', sz, sm, ga) ∧ TI keys' aboves' := by
  obtain ⟨k1, b1, s1, m1, g1, e1, t1⟩ := a2_8 h hv (x := x) (y := y) (by omega) (by omega) hT
  obtain ⟨k2, b2, s2, m2, g2, e2, t2⟩ := a1_8 h hv (x := x + y) (by omega) t1
  refine ⟨k2, b2, s2, m2, g2, ?_, t2⟩
  unfold F_X8_kappaOfTwo
  rw [e1, bd_s, n_add]
  dsimp only
  rw [e2, bd_s]
theorem sub_int {x y : Int64} {p q : Int} (hx : x.toInt = p) (hy : y.toInt = q) (h1 : -1152921504606846976 < p - q) (h2 : p - q < 1152921504606846976) : (x - y).toInt = p - q := by
  rw [Int64.toInt_sub, hx, hy, Int.bmod_eq_of_le (by omega) (by omega)]
theorem W1_lt (a : AD) (x : Nat) : W1 a x < 4294967296 := VW_lt _ _
theorem W2_lt (a : AD) (x y : Nat) : W2 a x y < 4294967296 := VW_lt _ _
theorem W3_lt (a : AD) (x y z : Nat) : W3 a x y z < 4294967296 := VW_lt _ _
theorem W_int {A : Nat} (h : A < 4294967296) : (Int64.ofNat A).toInt = (A : Int) := Int64.toInt_ofNat_of_lt (by omega)
noncomputable def K2 (a : AD) (x y : Nat) : Int64 := Int64.ofNat (W2 a x y) - Int64.ofNat (W1 a (x + y))
noncomputable def K3 (a : AD) (x y z : Nat) : Int64 := Int64.ofNat (W3 a x y z) - K2 a (x + y) z - K2 a (x + z) y - K2 a (y + z) x - (2 : Int64) * Int64.ofNat (W1 a (x + y + z))
theorem K2_int (a : AD) (x y : Nat) : ∃ q : Int, (K2 a x y).toInt = q ∧ -4294967296 < q ∧ q < 4294967296 := by
  have h1 := W2_lt a x y
  have h2 := W1_lt a (x + y)
  exact ⟨_, sub_int (W_int h1) (W_int h2) (by omega) (by omega), by omega, by omega⟩
theorem K3_int (a : AD) (x y z : Nat) : ∃ q : Int, (K3 a x y z).toInt = q ∧ -1152921504606846976 < q ∧ q < 1152921504606846976 := by
  have h3 := W3_lt a x y z
  have h4 := W1_lt a (x + y + z)
  obtain ⟨p1, a1, a2, a3⟩ := K2_int a (x + y) z
  obtain ⟨p2, b1, b2, b3⟩ := K2_int a (x + z) y
  obtain ⟨p3, c1, c2, c3⟩ := K2_int a (y + z) x
  have hm : ((2 : Int64) * Int64.ofNat (W1 a (x + y + z))).toInt = 2 * (W1 a (x + y + z) : Int) := by
    rw [Int64.toInt_mul, W_int h4, show (2 : Int64).toInt = 2 from rfl, Int.bmod_eq_of_le (by omega) (by omega)]
  have s1 := sub_int (W_int h3) a1 (by omega) (by omega)
  have s2 := sub_int s1 b1 (by omega) (by omega)
  have s3 := sub_int s2 c1 (by omega) (by omega)
  have s4 := sub_int s3 hm (by omega) (by omega)
  exact ⟨_, s4, by omega, by omega⟩
theorem kap89 (p : Int32) : (F_X8_isKappa p = some 0 ∧ F_X9_in p.toInt64 (-1 : Int64) (9 : Int64) = some 0) ∨ ((p = -1 ∨ ∃ x : Nat, x ≤ 9 ∧ p = Int32.ofNat x) ∧ F_X8_isKappa p = some 1 ∧ F_X9_in p.toInt64 (-1 : Int64) (9 : Int64) = some 1) := by
  have e1 : (-1 : Int64).toInt = -1 := rfl
  have e9 : (9 : Int64).toInt = 9 := rfl
  have f1 : (-1 : Int32).toInt = -1 := rfl
  have f9 : (9 : Int32).toInt = 9 := rfl
  have c1 : (p < (-1 : Int32)) ↔ p.toInt < -1 := by rw [Int32.lt_iff_toInt_lt, f1]
  have c2 : ((9 : Int32) < p) ↔ 9 < p.toInt := by rw [Int32.lt_iff_toInt_lt, f9]
  rw [in9i, e1, e9]
  unfold F_X8_isKappa
  by_cases d1 : p.toInt < -1
  · exact Or.inl ⟨by rw [if_pos (c1.mpr d1)], by rw [if_neg (by omega)]⟩
  · by_cases d2 : 9 < p.toInt
    · exact Or.inl ⟨by rw [if_neg (fun z => d1 (c1.mp z)), if_pos (c2.mpr d2)], by rw [if_neg (by omega)]⟩
    · refine Or.inr ⟨?_, by rw [if_neg (fun z => d1 (c1.mp z)), if_neg (fun z => d2 (c2.mp z))], by rw [if_pos (by omega)]⟩
      by_cases d3 : p.toInt = -1
      · exact Or.inl (Int32.toInt_inj.mp (by rw [d3]; rfl))
      · obtain ⟨n, hn, rfl⟩ := i_ofNat (p := p) (by omega)
        rw [n_toInt hn] at d2
        exact Or.inr ⟨n, by omega, rfl⟩
theorem nn1 {x : Nat} (h : x ≤ 9) : ¬ Int32.ofNat x = (-1 : Int32) := pO_n (by omega)
theorem ge0 {x : Nat} (h : x ≤ 9) : (0 : Int32) ≤ Int32.ofNat x := (n_le (a := 0) (by omega) (by omega)).mpr (by omega)
/-- both sides of kappa(), if the value above the line is known -/
theorem kfin {g8 g9 : Int32} {a : AD} (h8 : g8 = Int32.ofNat a.1) (h9 : g9 = Int32.ofNat a.1) (hv : VD a) {v : Int64} {q : Int} (hq : v.toInt = q) (q1 : -1152921504606846976 < q) (q2 : q < 1152921504606846976) (keys aboves : Nat → Int64) (sz sm : Int32) (ga : Int64) (rows : Nat → Int32) (p : Int32) :
    ∃ r, J_X8_kappa_99 g8 p keys aboves sz sm ga v = some (r, keys, aboves, sz, sm, ga) ∧ J_X9_kappa_166 g9 p rows v = some (r, rows) := by
  obtain ⟨l8, l9, l1, l2⟩ := line89 a.1 (by have := hv.1; omega)
  obtain ⟨r, r8, r9⟩ := part89 hq (by omega) (by omega) l1 l2 p
  refine ⟨r, ?_, ?_⟩
  · unfold J_X8_kappa_99; rw [h8, l8, bd_s, r8, bd_s]
  · unfold J_X9_kappa_166; rw [h9, l9, bd_s, r9, bd_s]
theorem kappa89 {g s lim : Int32} {tr : Int64} {pw : Nat → Int32} {g9 n9 L9 s9 : Int32} {mp mt : Nat → Int32} {a : AD} (h8 : D8 g s lim tr pw a) (h9 : D9 g9 n9 L9 s9 mp mt a) (hv : VD a) {keys aboves : Nat → Int64} (hT : TI keys aboves) (sz0 sm0 : Int32) (ga0 : Int64) (rows : Nat → Int32) (p0 p1 p2 p3 : Int32) :
    ∃ r keys' aboves' sz sm ga rows', F_X8_kappa sz0 sm0 ga0 g s pw keys aboves p0 p1 p2 p3 = some (r, keys', aboves', sz, sm, ga) ∧ F_X9_kappa g9 n9 rows mp p0 p1 p2 p3 = some (r, rows') ∧ TI keys' aboves' := by
  have no8 : ∀ X Y, F_X8_kappa sz0 sm0 ga0 g s pw keys aboves p0 p1 p2 p3 = X → F_X9_kappa g9 n9 rows mp p0 p1 p2 p3 = Y → X = some ((-9223372036854775808 : Int64), keys, aboves, sz0, sm0, ga0) → Y = some ((-9223372036854775808 : Int64), rows) → ∃ r keys' aboves' sz sm ga rows', F_X8_kappa sz0 sm0 ga0 g s pw keys aboves p0 p1 p2 p3 = some (r, keys', aboves', sz, sm, ga) ∧ F_X9_kappa g9 n9 rows mp p0 p1 p2 p3 = some (r, rows') ∧ TI keys' aboves' := fun X Y hX hY e1 e2 => ⟨_, keys, aboves, sz0, sm0, ga0, rows, hX.trans e1, hY.trans e2, hT⟩
  have hm : ¬ (0 : Int32) ≤ (-1 : Int32) := by decide
  rcases kap89 p0 with ⟨a1, a2⟩ | ⟨a0, a1, a2⟩
  · exact no8 _ _ rfl rfl (by unfold F_X8_kappa; rw [a1, bd_s, if_pos i00]) (by unfold F_X9_kappa; rw [a2, bd_s, if_pos i00])
  rcases kap89 p1 with ⟨b1, b2⟩ | ⟨b0, b1, b2⟩
  · exact no8 _ _ rfl rfl (by unfold F_X8_kappa; rw [a1, bd_s, if_neg i10, b1, bd_s, if_pos i00]) (by unfold F_X9_kappa; rw [a2, bd_s, if_neg i10, b2, bd_s, if_pos i00])
  rcases kap89 p2 with ⟨c1, c2⟩ | ⟨c0, c1, c2⟩
  · exact no8 _ _ rfl rfl (by unfold F_X8_kappa; rw [a1, bd_s, if_neg i10, b1, bd_s, if_neg i10, c1, bd_s, if_pos i00]) (by unfold F_X9_kappa; rw [a2, bd_s, if_neg i10, b2, bd_s, if_neg i10, c2, bd_s, if_pos i00])
  have A8 : ∀ X, (bd (F_X8_isPart p3) (fun x7 => if x7 = 0 then (some ((-9223372036854775808 : Int64), keys, aboves, sz0, sm0, ga0)) else (if p0 = (-1 : Int32) then (if p1 = (-1 : Int32) then (J_X8_kappa_43 sz0 sm0 ga0 g s pw keys aboves p0 p1 p2 p3) else (some ((-9223372036854775808 : Int64), keys, aboves, sz0, sm0, ga0))) else (J_X8_kappa_43 sz0 sm0 ga0 g s pw keys aboves p0 p1 p2 p3)))) = X → F_X8_kappa sz0 sm0 ga0 g s pw keys aboves p0 p1 p2 p3 = X := fun X hX => by
    unfold F_X8_kappa
    rw [a1, bd_s, if_neg i10, b1, bd_s, if_neg i10, c1, bd_s, if_neg i10]; exact hX
  have A9 : ∀ X, (if 0 ≤ p0 then (J_X9_kappa_50 g9 n9 rows mp p0 p1 p2 p3) else (if 0 ≤ p1 then (some ((-9223372036854775808 : Int64), rows)) else (J_X9_kappa_50 g9 n9 rows mp p0 p1 p2 p3))) = X → F_X9_kappa g9 n9 rows mp p0 p1 p2 p3 = X := fun X hX => by
    unfold F_X9_kappa
    rw [a2, bd_s, if_neg i10, b2, bd_s, if_neg i10, c2, bd_s, if_neg i10]; exact hX
  rcases isPart89 p3 with ⟨d1, d2⟩ | ⟨d0, d1, d2⟩
  · refine no8 _ _ rfl rfl (A8 _ (by rw [d1, bd_s, if_pos i00])) (A9 _ ?_)
    unfold J_X9_kappa_50 J_X9_kappa_58
    rw [d2, bd_s, if_pos i00]
    by_cases z0 : 0 ≤ p0 <;> by_cases z1 : 0 ≤ p1 <;> by_cases z2 : 0 ≤ p2 <;> simp [z0, z1, z2]
  rcases a0 with rfl | ⟨x, hx, rfl⟩
  · rcases b0 with rfl | ⟨y, hy, rfl⟩
    · rcases c0 with rfl | ⟨z, hz, rfl⟩
      · obtain ⟨keys', aboves', sz, sm, ga, e8, t⟩ := numM8 h8 hv hT
        obtain ⟨rows', e9⟩ := ofMarks9 h9 hv rows
        have hlt := VW_lt a.1 a.2.1
        obtain ⟨r, r8, r9⟩ := kfin h8.1 h9.1 hv (VW_int a.1 a.2.1) (by omega) (by omega) keys' aboves' sz sm ga rows' p3
        refine ⟨r, keys', aboves', sz, sm, ga, rows', A8 _ ?_, A9 _ ?_, t⟩
        · rw [d1, bd_s, if_neg i10, if_pos rfl, if_pos rfl]
          unfold J_X8_kappa_43 J_X8_kappa_57
          rw [if_pos rfl, if_pos rfl, if_pos rfl, if_pos rfl, e8, bd_s]; exact r8
        · rw [if_neg hm, if_neg hm]
          unfold J_X9_kappa_50 J_X9_kappa_58
          rw [if_neg hm, if_neg hm, d2, bd_s, if_neg i10, if_neg hm, e9, bd_s]; exact r9
      · refine no8 _ _ rfl rfl (A8 _ ?_) (A9 _ ?_)
        · rw [d1, bd_s, if_neg i10, if_pos rfl, if_pos rfl]
          unfold J_X8_kappa_43
          rw [if_pos rfl, if_neg (nn1 hz)]
        · rw [if_neg hm, if_neg hm]
          unfold J_X9_kappa_50
          rw [if_neg hm, if_pos (ge0 hz)]
    · refine no8 _ _ rfl rfl (A8 _ ?_) (A9 _ ?_)
      · rw [d1, bd_s, if_neg i10, if_pos rfl, if_neg (nn1 hy)]
      · rw [if_neg hm, if_pos (ge0 hy)]
  · rcases b0 with rfl | ⟨y, hy, rfl⟩
    · rcases c0 with rfl | ⟨z, hz, rfl⟩
      · obtain ⟨keys', aboves', sz, sm, ga, e8, t⟩ := a1_8 h8 hv (x := x) (by omega) hT
        obtain ⟨rows', e9⟩ := k1_9 h9 hv rows (x := x) (by omega)
        have hlt := W1_lt a x
        obtain ⟨r, r8, r9⟩ := kfin h8.1 h9.1 hv (W_int hlt) (by omega) (by omega) keys' aboves' sz sm ga rows' p3
        refine ⟨r, keys', aboves', sz, sm, ga, rows', A8 _ ?_, A9 _ ?_, t⟩
        · rw [d1, bd_s, if_neg i10, if_neg (nn1 hx)]
          unfold J_X8_kappa_43 J_X8_kappa_57
          rw [if_pos rfl, if_pos rfl, if_pos rfl, if_pos rfl, e8, bd_s]; exact r8
        · rw [if_pos (ge0 hx)]
          unfold J_X9_kappa_50 J_X9_kappa_58
          rw [if_neg hm, if_neg hm, d2, bd_s, if_neg i10, if_pos (ge0 hx), if_neg hm, e9, bd_s]; exact r9
      · refine no8 _ _ rfl rfl (A8 _ ?_) (A9 _ ?_)
        · rw [d1, bd_s, if_neg i10, if_neg (nn1 hx)]
          unfold J_X8_kappa_43
          rw [if_pos rfl, if_neg (nn1 hz)]
        · rw [if_pos (ge0 hx)]
          unfold J_X9_kappa_50
          rw [if_neg hm, if_pos (ge0 hz)]
    · rcases c0 with rfl | ⟨z, hz, rfl⟩
      · obtain ⟨keys', aboves', sz, sm, ga, e8, t⟩ := k2_8 h8 hv (x := x) (y := y) (by omega) (by omega) hT
        obtain ⟨rows', e9⟩ := k2_9 h9 hv rows (x := x) (y := y) (by omega) (by omega)
        obtain ⟨q, q0, q1, q2⟩ := K2_int a x y
        obtain ⟨r, r8, r9⟩ := kfin h8.1 h9.1 hv q0 (by omega) (by omega) keys' aboves' sz sm ga rows' p3
        refine ⟨r, keys', aboves', sz, sm, ga, rows', A8 _ ?_, A9 _ ?_, t⟩
        · rw [d1, bd_s, if_neg i10, if_neg (nn1 hx)]
          unfold J_X8_kappa_43 J_X8_kappa_57
          rw [if_neg (nn1 hy), if_pos rfl, if_neg (nn1 hy), e8, bd_s]; exact r8
        · rw [if_pos (ge0 hx)]
          unfold J_X9_kappa_50 J_X9_kappa_58
          rw [if_pos (ge0 hy), d2, bd_s, if_neg i10, if_pos (ge0 hx), if_pos (ge0 hy), if_neg hm, e9, bd_s]; exact r9
      · obtain ⟨k1, b1', s1, m1, g1, e1, t1⟩ := a3_8 h8 hv (x := x) (y := y) (z := z) (by omega) (by omega) (by omega) hT
        obtain ⟨k2, b2', s2, m2, g2, e2, t2⟩ := k2_8 h8 hv (x := x + y) (y := z) (by omega) (by omega) t1
        obtain ⟨k3, b3', s3, m3, g3, e3, t3⟩ := k2_8 h8 hv (x := x + z) (y := y) (by omega) (by omega) t2
        obtain ⟨k4, b4', s4, m4, g4, e4, t4⟩ := k2_8 h8 hv (x := y + z) (y := x) (by omega) (by omega) t3
        obtain ⟨k5, b5', s5, m5, g5, e5, t5⟩ := a1_8 h8 hv (x := x + y + z) (by omega) t4
        obtain ⟨r1, f1⟩ := wm3 h9 hv rows (x := x) (y := y) (z := z) (by omega) (by omega) (by omega)
        obtain ⟨r2, f2⟩ := k2_9 h9 hv r1 (x := x + y) (y := z) (by omega) (by omega)
        obtain ⟨r3, f3⟩ := k2_9 h9 hv r2 (x := x + z) (y := y) (by omega) (by omega)
        obtain ⟨r4, f4⟩ := k2_9 h9 hv r3 (x := y + z) (y := x) (by omega) (by omega)
        obtain ⟨r5, f5⟩ := k1_9 h9 hv r4 (x := x + y + z) (by omega)
        obtain ⟨q, q0, q1, q2⟩ := K3_int a x y z
        obtain ⟨r, r8, r9⟩ := kfin h8.1 h9.1 hv q0 q1 q2 k5 b5' s5 m5 g5 r5 p3
        have k38 : F_X8_kappaOfThree g s pw keys aboves (Int32.ofNat x) (Int32.ofNat y) (Int32.ofNat z) = some (K3 a x y z, k5, b5', s5, m5, g5) := by
          unfold F_X8_kappaOfThree
          rw [e1, bd_s, n_add, n_add, n_add, n_add]
          dsimp only
          rw [e2, bd_s]
          dsimp only
          rw [e3, bd_s]
          dsimp only
          rw [e4, bd_s]
          dsimp only
          rw [e5, bd_s]; rfl
        refine ⟨r, k5, b5', s5, m5, g5, r5, A8 _ ?_, A9 _ ?_, t5⟩
        · rw [d1, bd_s, if_neg i10, if_neg (nn1 hx)]
          unfold J_X8_kappa_43 J_X8_kappa_57
          rw [if_neg (nn1 hy), if_neg (nn1 hz), k38, bd_s]; exact r8
        · rw [if_pos (ge0 hx)]
          unfold J_X9_kappa_50 J_X9_kappa_58
          rw [if_pos (ge0 hy), d2, bd_s, if_neg i10, if_pos (ge0 hx), if_pos (ge0 hy), if_pos (ge0 hz), f1, bd_s, n_add, n_add, n_add, n_add]
          dsimp only
          rw [f2, bd_s]
          dsimp only
          rw [f3, bd_s]
          dsimp only
          rw [f4, bd_s]
          dsimp only
          rw [f5, bd_s]; exact r9
theorem ls_kappa : LS_kappa LR := by
  intro k d_x_deeds_desks q_x_deeds_desks x_imageKept x_desk_genus x_desk_size x_desk_limit x_desk_tree a_x_desk_powers x_imageDesk_genus x_imageDesk_size x_imageDesk_limit x_imageDesk_tree a_x_imageDesk_powers x_deeds_now x_deeds_last a_x_deeds_desks x_deeds_desks_genus x_deeds_desks_size x_deeds_desks_limit x_deeds_desks_tree x_numbers_round x_numbers_size x_numbers_sum x_numbers_gathered a_x_numbers_keys a_x_numbers_aboves a_x_numbers_rounds x_reader_refused x_reader_place x_reader_cannotBe x_tape_size a_x_tape_bytes x_reader_told_genus x_reader_told_size x_reader_told_limit x_reader_told_tree a_x_reader_told_powers a_x_reader_causes x_speller_size a_x_speller_bytes a_x_holders x_holders_sort x_holders_tree x_holders_limit x_holders_above x_holders_size m_genus m_marks m_leaves m_splits m_done m_undone m_metMany m_treesSeen m_taped m_place m_isWrong m_toldGenus m_toldMarks m_isTree m_toldLeaves m_leavesPlace m_toldSplits m_isWhy m_papered m_isKept a_m_powers a_m_tree a_m_ahead a_m_behind a_m_before a_m_rows a_m_met a_m_metSizes a_m_chosen a_m_tape a_m_toldPowers a_m_powerPlaces a_m_toldTree a_m_splitPlaces a_m_layers a_m_paper a_m_held a_m_numbers a_m_sizes a_m_heldLeaves a_m_items a_m_kept p0 p1 p2 p3 hk hLR
  obtain ⟨us, cur, rs, bs, hV, h8, h9, hH8, hH9, hT, hTP, hWY, hHO, hIM⟩ := hLR
  have hVc : VD cur := hV cur (List.mem_append_right _ List.mem_cons_self)
  obtain ⟨r, keys', aboves', sz, sm, ga, rows', e8, e9, t⟩ := kappa89 h8 h9 hVc hT.2.2.2 x_numbers_size x_numbers_sum x_numbers_gathered a_m_rows p0 p1 p2 p3
  exact ⟨r, keys', aboves', sz, sm, ga, rows', e8, e9, us, cur, rs, bs, hV, h8, h9, hH8, hH9, TN_new hT t, hTP, hWY, hHO, hIM⟩
