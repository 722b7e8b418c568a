/-! Trees one by one. -/
theorem at_step {L : Nat} (h3 : 3 ≤ L) (h6 : L ≤ 6) {ts : List Nat} (hv : vt L ts = true) {more : Nat} (hmo : more < 100) (fr : Int32) :
    ∀ (m A n : Nat), m + 2 < n → 2 * m ≤ 2 ^ L → (∀ t ∈ ts, t < 2 ^ L - 2 * m) → A < 2147483648 →
    (∃ s A' : Nat, s % 2 = 0 ∧ s + 2 ≤ 2 ^ L ∧ cand L ts s = true ∧ (∀ t ∈ ts, t < s) ∧ A' < (exT L more (ts ++ [s]) (2 ^ L - (s + 2))).length ∧ (exT L more (ts ++ [s]) (2 ^ L - (s + 2)))[A']? = (exT L (more + 1) ts (2 * m))[A]? ∧ ∀ kk, wq5 (B_X6_treeAt_25 (Int32.ofNat L) (Int32.ofNat more) kk) n (tr64 ts) fr (Int32.ofNat A) (0 : Int32) (Int32.ofNat (2 ^ L - 2 * m)) = kk (tr64 (ts ++ [s])) (Int32.ofNat (s + 2)) (Int32.ofNat A') (1 : Int32)) ∨
    ((exT L (more + 1) ts (2 * m))[A]? = none ∧ ∃ A2, ∀ kk, wq5 (B_X6_treeAt_25 (Int32.ofNat L) (Int32.ofNat more) kk) n (tr64 ts) fr (Int32.ofNat A) (0 : Int32) (Int32.ofNat (2 ^ L - 2 * m)) = kk (tr64 ts) fr A2 (0 : Int32)) := by
  have hp := pow_le64 h6
  have h2p := pow_even h3
  intro m
  induction m with
  | zero =>
    intro A n hn hm hs hA
    obtain ⟨n, rfl⟩ : ∃ k, n = k + 1 := ⟨n - 1, by omega⟩
    refine Or.inr ⟨rfl, Int32.ofNat A, fun kk => ?_⟩
    show B_X6_treeAt_25 (Int32.ofNat L) (Int32.ofNat more) kk (tr64 ts) fr (Int32.ofNat A) (0 : Int32) (Int32.ofNat (2 ^ L)) (wq5 (B_X6_treeAt_25 (Int32.ofNat L) (Int32.ofNat more) kk) n) = _
    unfold B_X6_treeAt_25
    rw [pow_L h6, if_pos ((n_le (by omega) (by omega)).mpr (Nat.le_refl _))]
  | succ m ih =>
    intro A n hn hm hs hA
    obtain ⟨n, rfl⟩ : ∃ k, n = k + 2 := ⟨n - 2, by omega⟩
    have e2 : 2 * (m + 1) = 2 * m + 1 + 1 := by omega
    have hex : exT L (more + 1) ts (2 * (m + 1)) = (if cand L ts (2 ^ L - 2 * (m + 1)) = true then exT L more (ts ++ [2 ^ L - 2 * (m + 1)]) (2 ^ L - (2 ^ L - 2 * (m + 1) + 2)) else []) ++ exT L (more + 1) ts (2 * m) := by
      have ea : 2 ^ L - (2 ^ L - 2 * (m + 1) + 1) = 2 ^ L - (2 ^ L - 2 * (m + 1) + 2) + 1 := by omega
      have eb : exT L more (ts ++ [2 ^ L - 2 * (m + 1)]) (2 ^ L - (2 ^ L - 2 * (m + 1) + 1)) = exT L more (ts ++ [2 ^ L - 2 * (m + 1)]) (2 ^ L - (2 ^ L - 2 * (m + 1) + 2)) := by rw [ea, exT_skip (by omega)]
      rw [← eb]
      conv => lhs; rw [e2, exT_s, exD_s, exD_skip (d := 2 * m) (by omega), ← exT_s, ← e2]
    have ih2 := fun A hA => ih A (n + 1) (by omega) (by omega) (fun t ht => by have := hs t ht; omega) hA
    have stp : ∀ kk, wq5 (B_X6_treeAt_25 (Int32.ofNat L) (Int32.ofNat more) kk) (n + 2) (tr64 ts) fr (Int32.ofNat A) (0 : Int32) (Int32.ofNat (2 ^ L - 2 * (m + 1))) = B_X6_treeAt_25 (Int32.ofNat L) (Int32.ofNat more) kk (tr64 ts) fr (Int32.ofNat A) (0 : Int32) (Int32.ofNat (2 ^ L - 2 * (m + 1))) (wq5 (B_X6_treeAt_25 (Int32.ofNat L) (Int32.ofNat more) kk) (n + 1)) := fun kk => rfl
    rw [hex]
    have hend : ∀ (s : Nat) (kk : Int64 → Int32 → Int32 → Int32 → Option Int64) (t : Int64) (a b c : Int32), wq5 (B_X6_treeAt_25 (Int32.ofNat L) (Int32.ofNat more) kk) (n + 1) t a b (1 : Int32) c = kk t a b (1 : Int32) := fun s kk t a b c => by
      show B_X6_treeAt_25 (Int32.ofNat L) (Int32.ofNat more) kk t a b (1 : Int32) c (wq5 (B_X6_treeAt_25 (Int32.ofNat L) (Int32.ofNat more) kk) n) = _
      unfold B_X6_treeAt_25
      by_cases c1 : (1 : Int32) <<< (Int32.ofNat L &&& 31) ≤ c
      · rw [if_pos c1]
      · rw [if_neg c1, if_neg i10]
    generalize hsd : 2 ^ L - 2 * (m + 1) = s at hs stp ⊢
    have hs64 : s < 64 := by omega
    have en : Int32.ofNat s + (2 : Int32) = Int32.ofNat (2 ^ L - 2 * m) := by
      rw [show (2 : Int32) = Int32.ofNat 2 from rfl, n_add]; congr 1; omega
    have en2 : Int32.ofNat (s + 2) = Int32.ofNat (2 ^ L - 2 * m) := by congr 1; omega
    have skip : ∀ (W : ∀ kk : Int64 → Int32 → Int32 → Int32 → Option Int64, B_X6_treeAt_25 (Int32.ofNat L) (Int32.ofNat more) kk (tr64 ts) fr (Int32.ofNat A) (0 : Int32) (Int32.ofNat s) (wq5 (B_X6_treeAt_25 (Int32.ofNat L) (Int32.ofNat more) kk) (n + 1)) = wq5 (B_X6_treeAt_25 (Int32.ofNat L) (Int32.ofNat more) kk) (n + 1) (tr64 ts) fr (Int32.ofNat A) (0 : Int32) (Int32.ofNat (2 ^ L - 2 * m))), ∀ kk, wq5 (B_X6_treeAt_25 (Int32.ofNat L) (Int32.ofNat more) kk) (n + 2) (tr64 ts) fr (Int32.ofNat A) (0 : Int32) (Int32.ofNat s) = wq5 (B_X6_treeAt_25 (Int32.ofNat L) (Int32.ofNat more) kk) (n + 1) (tr64 ts) fr (Int32.ofNat A) (0 : Int32) (Int32.ofNat (2 ^ L - 2 * m)) := fun W kk => (stp kk).trans (W kk)
    by_cases c1 : isSp L s = true
    · by_cases c2 : fit ts s = true
      · have c : cand L ts s = true := by unfold cand; rw [c1, c2]; rfl
        have he := (isSp_even c1).1
        have hvs := vt_snoc hv c hs
        have hT := more8 h3 h6 8 more (ts ++ [s]) (s + 2) (by omega) hmo hvs (by omega) (by omega) (lt_snoc hs (by omega))
        have hTs := exT_small h3 h6 (k := more) (d := 2 ^ L - (s + 2)) hvs (by omega) (lt_snoc hs (by omega))
        rw [if_pos c]
        have go : ∀ kk, wq5 (B_X6_treeAt_25 (Int32.ofNat L) (Int32.ofNat more) kk) (n + 2) (tr64 ts) fr (Int32.ofNat A) (0 : Int32) (Int32.ofNat s) = if (exT L more (ts ++ [s]) (2 ^ L - (s + 2))).length ≤ A then wq5 (B_X6_treeAt_25 (Int32.ofNat L) (Int32.ofNat more) kk) (n + 1) (tr64 ts) fr (Int32.ofNat (A - (exT L more (ts ++ [s]) (2 ^ L - (s + 2))).length)) (0 : Int32) (Int32.ofNat (2 ^ L - 2 * m)) else wq5 (B_X6_treeAt_25 (Int32.ofNat L) (Int32.ofNat more) kk) (n + 1) (tr64 (ts ++ [s])) (Int32.ofNat (s + 2)) (Int32.ofNat A) (1 : Int32) (Int32.ofNat (2 ^ L - 2 * m)) := fun kk => by
          rw [stp kk]
          generalize wq5 (B_X6_treeAt_25 (Int32.ofNat L) (Int32.ofNat more) kk) (n + 1) = W
          unfold B_X6_treeAt_25
          rw [pow_L h6, if_neg (c_ge (by omega) (by omega) (by omega)), if_pos i00, cand_n h3 h6 hs64, bd_s, if_pos c1, if_neg i10, fits8 h3 h6 hv hs64, bd_s, if_pos c2, if_neg i10, with8 (vt_asc hv) hs64 (fit_not c2), ins_last hs, bd_s, en, ← en2, hT, bd_s, bd_s]
          by_cases d : (exT L more (ts ++ [s]) (2 ^ L - (s + 2))).length ≤ A
          · rw [if_pos d, if_pos ((n_le (by omega) hA).mpr d), n_sub d]
          · rw [if_neg d, if_neg (fun z => d ((n_le (by omega) hA).mp z))]
        by_cases d : (exT L more (ts ++ [s]) (2 ^ L - (s + 2))).length ≤ A
        · rw [List.getElem?_append_right d]
          rcases ih2 (A - (exT L more (ts ++ [s]) (2 ^ L - (s + 2))).length) (by omega) with ⟨s', A', y1, y2, y3, y4, y5, y6, y7⟩ | ⟨y1, A2, y2⟩
          · exact Or.inl ⟨s', A', y1, y2, y3, y4, y5, y6, fun kk => by rw [go kk, if_pos d, y7 kk]⟩
          · exact Or.inr ⟨y1, A2, fun kk => by rw [go kk, if_pos d, y2 kk]⟩
        · refine Or.inl ⟨s, A, he, by omega, c, hs, by omega, by rw [List.getElem?_append_left (by omega)], fun kk => ?_⟩
          rw [go kk, if_neg d, hend s]
      · have c : ¬ cand L ts s = true := fun z => by unfold cand at z; rw [Bool.and_eq_true] at z; exact c2 z.2
        rw [if_neg c, List.nil_append]
        have sk := skip fun kk => by
          generalize wq5 (B_X6_treeAt_25 (Int32.ofNat L) (Int32.ofNat more) kk) (n + 1) = W
          unfold B_X6_treeAt_25
          rw [pow_L h6, if_neg (c_ge (by omega) (by omega) (by omega)), if_pos i00, cand_n h3 h6 hs64, bd_s, if_pos c1, if_neg i10, fits8 h3 h6 hv hs64, bd_s, if_neg c2, if_pos i00, en]
        rcases ih2 A hA with ⟨s', A', y1, y2, y3, y4, y5, y6, y7⟩ | ⟨y1, A2, y2⟩
        · exact Or.inl ⟨s', A', y1, y2, y3, y4, y5, y6, fun kk => by rw [sk kk, y7 kk]⟩
        · exact Or.inr ⟨y1, A2, fun kk => by rw [sk kk, y2 kk]⟩
    · have c : ¬ cand L ts s = true := fun z => by unfold cand at z; rw [Bool.and_eq_true] at z; exact c1 z.1
      rw [if_neg c, List.nil_append]
      have sk := skip fun kk => by
        generalize wq5 (B_X6_treeAt_25 (Int32.ofNat L) (Int32.ofNat more) kk) (n + 1) = W
        unfold B_X6_treeAt_25
        rw [pow_L h6, if_neg (c_ge (by omega) (by omega) (by omega)), if_pos i00, cand_n h3 h6 hs64, bd_s, if_neg c1, if_pos i00, en]
      rcases ih2 A hA with ⟨s', A', y1, y2, y3, y4, y5, y6, y7⟩ | ⟨y1, A2, y2⟩
      · exact Or.inl ⟨s', A', y1, y2, y3, y4, y5, y6, fun kk => by rw [sk kk, y7 kk]⟩
      · exact Or.inr ⟨y1, A2, fun kk => by rw [sk kk, y2 kk]⟩
def atx (L r : Nat) (ts : List Nat) (d A : Nat) : Int64 := if r = 0 then tr64 ts else match (exT L r ts d)[A]? with
  | some x => tr64 x
  | none => 0
theorem treeAt8 {L : Nat} (h3 : 3 ≤ L) (h6 : L ≤ 6) : ∀ (r : Nat) (ts : List Nat) (s0 A n : Nat), r < n → r < 100 → vt L ts = true → s0 % 2 = 0 → s0 ≤ 2 ^ L → (∀ t ∈ ts, t < s0) → A < 2147483648 →
    wq4 (B_X6_treeAt_13 (Int32.ofNat L) K_X6_treeAt_13_129) n (tr64 ts) (Int32.ofNat s0) (Int32.ofNat A) (Int32.ofNat r - (1 : Int32)) = some (atx L r ts (2 ^ L - s0) A) := by
  have hp := pow_le64 h6
  have h2p := pow_even h3
  intro r
  induction r with
  | zero =>
    intro ts s0 A n hn hr hv he hl hs hA
    obtain ⟨n, rfl⟩ : ∃ k, n = k + 1 := ⟨n - 1, by omega⟩
    show B_X6_treeAt_13 (Int32.ofNat L) K_X6_treeAt_13_129 (tr64 ts) (Int32.ofNat s0) (Int32.ofNat A) (Int32.ofNat 0 - (1 : Int32)) (wq4 (B_X6_treeAt_13 (Int32.ofNat L) K_X6_treeAt_13_129) n) = _
    unfold B_X6_treeAt_13
    rw [if_pos (by decide)]; rfl
  | succ r ih =>
    intro ts s0 A n hn hr hv he hl hs hA
    obtain ⟨n, rfl⟩ : ∃ k, n = k + 1 := ⟨n - 1, by omega⟩
    have e1 : Int32.ofNat (r + 1) - (1 : Int32) = Int32.ofNat r := n_sub (b := 1) (by omega)
    have em : Int32.ofNat r + (-1 : Int32) = Int32.ofNat r - (1 : Int32) := by rw [Int32.sub_eq_add_neg]
    obtain ⟨m, hm⟩ : ∃ m, 2 ^ L - s0 = 2 * m := ⟨(2 ^ L - s0) / 2, by omega⟩
    have es : 2 ^ L - 2 * m = s0 := by omega
    rw [e1]
    show B_X6_treeAt_13 (Int32.ofNat L) K_X6_treeAt_13_129 (tr64 ts) (Int32.ofNat s0) (Int32.ofNat A) (Int32.ofNat r) (wq4 (B_X6_treeAt_13 (Int32.ofNat L) K_X6_treeAt_13_129) n) = _
    generalize hW : wq4 (B_X6_treeAt_13 (Int32.ofNat L) K_X6_treeAt_13_129) n = W at ih ⊢
    have ih2 : ∀ (ts : List Nat) (s0 A : Nat), vt L ts = true → s0 % 2 = 0 → s0 ≤ 2 ^ L → (∀ t ∈ ts, t < s0) → A < 2147483648 → W (tr64 ts) (Int32.ofNat s0) (Int32.ofNat A) (Int32.ofNat r - (1 : Int32)) = some (atx L r ts (2 ^ L - s0) A) := fun ts s0 A a1 a2 a3 a4 a5 => by
      rw [← hW]; exact ih ts s0 A n (by omega) (by omega) a1 a2 a3 a4 a5
    unfold B_X6_treeAt_13
    rw [if_neg (n_neg (by omega))]
    have key := at_step h3 h6 hv (more := r) (by omega) (Int32.ofNat s0) m A FU (by unfold FU; omega) (by omega) (fun t ht => by have := hs t ht; omega) hA
    rw [es] at key
    unfold atx
    rw [if_neg (by omega), hm]
    rcases key with ⟨s, A', y1, y2, y3, y4, y5, y6, y7⟩ | ⟨y1, A2, y2⟩
    · rw [y7, ← y6]
      unfold K_X6_treeAt_25_116
      have hvs := vt_snoc hv y3 y4
      have hTs := exT_small h3 h6 (k := r) (d := 2 ^ L - (s + 2)) hvs (by omega) (lt_snoc y4 (by omega))
      rw [if_neg i10, em, ih2 (ts ++ [s]) (s + 2) A' hvs (by omega) y2 (lt_snoc y4 (by omega)) (by omega)]
      unfold atx
      by_cases r0 : r = 0
      · subst r0
        have ea : exT L 0 (ts ++ [s]) (2 ^ L - (s + 2)) = [ts ++ [s]] := rfl
        rw [ea] at y5 ⊢
        have : A' = 0 := by simp at y5; exact y5
        subst this
        rw [if_pos rfl]; rfl
      · rw [if_neg r0]
    · rw [y1, y2]
      unfold K_X6_treeAt_25_116
      rw [if_pos i00]
/-- the tree of a number, if it is in a list that begins at n -/
def fnd (p4 : Int32) : Nat → List (List Nat) → Option (List Nat)
  | _, [] => none
  | n, x :: xs => if Int32.ofNat n = p4 then some x else fnd p4 (n + 1) xs
theorem fnd_app (p4 : Int32) : ∀ (A B : List (List Nat)) (n : Nat), fnd p4 n (A ++ B) = (match fnd p4 n A with | some x => some x | none => fnd p4 (n + A.length) B)
  | [], B, n => rfl
  | x :: A, B, n => by
    show (if Int32.ofNat n = p4 then some x else fnd p4 (n + 1) (A ++ B)) = match (if Int32.ofNat n = p4 then some x else fnd p4 (n + 1) A) with | some x => some x | none => fnd p4 (n + (A.length + 1)) B
    by_cases c : Int32.ofNat n = p4
    · rw [if_pos c, if_pos c]
    · rw [if_neg c, if_neg c, fnd_app p4 A B (n + 1), show n + 1 + A.length = n + (A.length + 1) by omega]
theorem fnd_neg {p4 : Int32} (hp : p4 < 0) : ∀ (A : List (List Nat)) (n : Nat), n + A.length < 2147483648 → fnd p4 n A = none
  | [], n, h => rfl
  | x :: A, n, h => by
    rw [List.length_cons] at h
    show (if Int32.ofNat n = p4 then some x else fnd p4 (n + 1) A) = none
    rw [if_neg (fun z => by rw [← z] at hp; exact n_neg (by omega) hp), fnd_neg hp A (n + 1) (by omega)]
theorem fnd_nat {I : Nat} (hI : I < 2147483648) : ∀ (A : List (List Nat)) (n : Nat), n ≤ I → n + A.length < 2147483648 → fnd (Int32.ofNat I) n A = A[I - n]?
  | [], n, hn, h => rfl
  | x :: A, n, hn, h => by
    rw [List.length_cons] at h
    show (if Int32.ofNat n = Int32.ofNat I then some x else fnd (Int32.ofNat I) (n + 1) A) = _
    by_cases c : n = I
    · subst c; rw [if_pos rfl, Nat.sub_self]; rfl
    · rw [if_neg (fun z => c ((n_inj (by omega) hI).mp z)), fnd_nat hI A (n + 1) (by omega) (by omega), show I - n = (I - (n + 1)) + 1 by omega]; rfl
theorem rp_pre {f : Nat → Int32} {a b : List Nat} (h : rp f (a ++ b)) : rp f a := fun k v hv => h k v (by
  rw [List.getElem?_append_left (List.getElem?_eq_some_iff.mp hv).1]; exact hv)
theorem all_take (p : Nat → Bool) (ts : List Nat) {j : Nat} (hj : j < ts.length) : (ts.take (j + 1)).all p = ((ts.take j).all p && p (ts.getD j 0)) := by
  rw [getD_el hj, List.take_succ_eq_append_getElem hj, List.all_append]; simp
theorem go_in {ts : List Nat} (hl : ts.length ≤ 3) (sm : ∀ t ∈ ts, t < 64) {ch : Nat → Int32} (hc : rp ch ts) {s : Nat} (hs : s < 64) (kk : Int32 → Option (Int32 × (Nat → Int32) × Int32)) :
    wq2 (B_X9_finds_62 (Int32.ofNat ts.length) ch (Int32.ofNat s) kk) FU (1 : Int32) (0 : Int32) = kk (if ts.all (fun t => goT t s) = true then 1 else 0) := by
  refine wq2_it ts.length (fun j => if (ts.take j).all (fun t => goT t s) = true then (1 : Int32) else 0) (fun j => Int32.ofNat j) (fun j hj ag => ?_) (fun ag => ?_) FU (by unfold FU; omega)
  · unfold B_X9_finds_62
    have gm : ts.getD j 0 ∈ ts := by rw [getD_el hj]; exact List.getElem_mem hj
    have b := sm _ gm
    rw [if_neg (c_ge (by omega) (by omega) hj), all_take _ _ hj, show (1 : Int32) = Int32.ofNat 1 from rfl, n_add]
    by_cases c : (ts.take j).all (fun t => goT t s) = true
    · have w : ¬ Int32.ofNat 1 = 0 := by decide
      rw [if_pos c, if_neg w, ck_n (by omega) (by omega), n_clamp (by omega), rp_D hc j hj, goT9 (by omega) (by omega), bd_s, c, Bool.true_and]
      by_cases d : goT (ts.getD j 0) s = true
      · rw [if_pos d, if_neg i10, if_pos d]
      · rw [if_neg d, if_pos i00, if_neg d]
    · rw [if_neg c, if_pos i00, Bool.eq_false_iff.mpr c, Bool.false_and, if_neg (by decide)]
  · unfold B_X9_finds_62
    rw [if_pos ((n_le (by omega) (by omega)).mpr (Nat.le_refl _)), List.take_length]
theorem fit_all {ts : List Nat} {s : Nat} (hs : ∀ t ∈ ts, t < s) : fit ts s = ts.all (fun t => goT t s) := by
  rw [Bool.eq_iff_iff, fit_m, List.all_eq_true]
  exact ⟨fun h t ht => (h t ht).2, fun h t ht => ⟨by have := hs t ht; omega, h t ht⟩⟩
/-- what finds tells of a list -/
def fRes (p4 : Int32) (ts : List Nat) (n : Nat) (E : List (List Nat)) (r : Option (Int32 × (Nat → Int32) × Int32)) : Prop :=
  ∃ (b : Int32) (ch' : Nat → Int32) (n' : Int32), r = some (b, ch', n') ∧ ((∃ x, fnd p4 n E = some x ∧ b = 1 ∧ rp ch' x) ∨ (fnd p4 n E = none ∧ b = 0 ∧ rp ch' ts ∧ n' = Int32.ofNat (n + E.length)))
theorem finds9 {L : Nat} (h3 : 3 ≤ L) (h6 : L ≤ 6) (p4 : Int32) : ∀ (f : Nat) (ts : List Nat) (r d : Nat) (ch : Nat → Int32) (n : Nat), 5 ≤ f + ts.length → r < 100 → vt L ts = true → d ≤ 2 ^ L → (∀ t ∈ ts, t < 2 ^ L - d) → rp ch ts →
    fRes p4 ts n (exT L r ts d) (F_X9_finds f (Int32.ofNat n) ch (Int32.ofNat L) (Int32.ofNat (2 ^ L - d)) (Int32.ofNat ts.length) (Int32.ofNat (ts.length + r)) p4) := by
  have hp := pow_le64 h6
  intro f
  induction f with
  | zero =>
    intro ts r d ch n hf hr hv hd hs hc
    have := vt_len h3 h6 hv
    omega
  | succ f ih =>
    intro ts r d ch n hf hr hv hd hs hc
    have hl := vt_len h3 h6 hv
    show fRes p4 ts n (exT L r ts d) (G_X9_finds (F_X9_finds f) (Int32.ofNat n) ch (Int32.ofNat L) (Int32.ofNat (2 ^ L - d)) (Int32.ofNat ts.length) (Int32.ofNat (ts.length + r)) p4)
    unfold G_X9_finds
    cases r with
    | zero =>
      rw [if_pos (by rw [Nat.add_zero]), Int32.add_sub_cancel]
      have e1 : Int32.ofNat n + (1 : Int32) = Int32.ofNat (n + 1) := n_add _ 1
      have ef : fnd p4 n (exT L 0 ts d) = if Int32.ofNat n = p4 then some ts else none := rfl
      by_cases c : Int32.ofNat n = p4
      · rw [if_pos c] at ef ⊢
        exact ⟨_, _, _, rfl, Or.inl ⟨ts, ef, rfl, hc⟩⟩
      · rw [if_neg c] at ef ⊢
        exact ⟨_, _, _, rfl, Or.inr ⟨ef, rfl, hc, e1⟩⟩
    | succ r =>
      rw [if_neg (fun z => by have := (n_inj (by omega) (by omega)).mp z; omega)]
      have loop : ∀ (d N : Nat) (ch : Nat → Int32) (n : Nat), d < N → d ≤ 2 ^ L → (∀ t ∈ ts, t < 2 ^ L - d) → rp ch ts → fRes p4 ts n (exT L (r + 1) ts d) (wq3 (B_X9_finds_36 (F_X9_finds f) (Int32.ofNat L) (Int32.ofNat ts.length) (Int32.ofNat (ts.length + (r + 1))) p4 K_X9_finds_36_144) N ch (Int32.ofNat n) (Int32.ofNat (2 ^ L - d))) := by
        intro d
        induction d with
        | zero =>
          intro N ch n hN hd hs hc
          obtain ⟨N, rfl⟩ : ∃ k, N = k + 1 := ⟨N - 1, by omega⟩
          show fRes p4 ts n [] (B_X9_finds_36 (F_X9_finds f) (Int32.ofNat L) (Int32.ofNat ts.length) (Int32.ofNat (ts.length + (r + 1))) p4 K_X9_finds_36_144 ch (Int32.ofNat n) (Int32.ofNat (2 ^ L)) (wq3 (B_X9_finds_36 (F_X9_finds f) (Int32.ofNat L) (Int32.ofNat ts.length) (Int32.ofNat (ts.length + (r + 1))) p4 K_X9_finds_36_144) N))
          unfold B_X9_finds_36
          rw [pow_L h6, if_pos ((n_le (by omega) (by omega)).mpr (Nat.le_refl _))]
          exact ⟨_, _, _, rfl, Or.inr ⟨rfl, rfl, hc, rfl⟩⟩
        | succ d ihd =>
          intro N ch n hN hd hs hc
          obtain ⟨N, rfl⟩ : ∃ k, N = k + 1 := ⟨N - 1, by omega⟩
          have ihd2 := fun ch n => ihd N ch n (by omega) (by omega) (fun t ht => by have := hs t ht; omega)
          show fRes p4 ts n (exT L (r + 1) ts (d + 1)) (B_X9_finds_36 (F_X9_finds f) (Int32.ofNat L) (Int32.ofNat ts.length) (Int32.ofNat (ts.length + (r + 1))) p4 K_X9_finds_36_144 ch (Int32.ofNat n) (Int32.ofNat (2 ^ L - (d + 1))) (wq3 (B_X9_finds_36 (F_X9_finds f) (Int32.ofNat L) (Int32.ofNat ts.length) (Int32.ofNat (ts.length + (r + 1))) p4 K_X9_finds_36_144) N))
          generalize wq3 (B_X9_finds_36 (F_X9_finds f) (Int32.ofNat L) (Int32.ofNat ts.length) (Int32.ofNat (ts.length + (r + 1))) p4 K_X9_finds_36_144) N = W at ihd2 ⊢
          have hex : exT L (r + 1) ts (d + 1) = (if cand L ts (2 ^ L - (d + 1)) = true then exT L r (ts ++ [2 ^ L - (d + 1)]) d else []) ++ exT L (r + 1) ts d := by
            conv => lhs; rw [exT_s, exD_s, ← exT_s]
            rw [show 2 ^ L - (2 ^ L - (d + 1) + 1) = d by omega]
          rw [hex]
          have en : Int32.ofNat (2 ^ L - (d + 1)) + (1 : Int32) = Int32.ofNat (2 ^ L - d) := by
            rw [show (1 : Int32) = Int32.ofNat 1 from rfl, n_add]; congr 1; omega
          generalize hsd : 2 ^ L - (d + 1) = s at hs en ⊢
          have hs64 : s < 64 := by omega
          unfold B_X9_finds_36
          rw [pow_L h6, if_neg (c_ge (by omega) (by omega) (by omega)), (is_n (by omega) h6 hs64).2, bd_s]
          by_cases c1 : isSp L s = true
          · rw [if_pos c1, if_neg i10, go_in (by omega) (vt_small h6 hv) hc hs64, ← fit_all hs]
            by_cases c2 : fit ts s = true
            · have c : cand L ts s = true := by unfold cand; rw [c1, c2]; rfl
              unfold K_X9_finds_62_101
              have r1 : rp (upd ch ts.length (Int32.ofNat s)) (ts ++ [s]) := D_rp (push_D (rp_D hc))
              have hvs := vt_snoc hv c hs
              have e1 : Int32.ofNat ts.length + (1 : Int32) = Int32.ofNat (ts ++ [s]).length := by rw [List.length_append, List.length_singleton]; exact n_add _ 1
              have e2 : Int32.ofNat (ts.length + (r + 1)) = Int32.ofNat ((ts ++ [s]).length + r) := by
                rw [List.length_append, List.length_singleton]; congr 1; omega
              obtain ⟨b, ch', n', er, hr2⟩ := ih (ts ++ [s]) r d (upd ch ts.length (Int32.ofNat s)) n (by rw [List.length_append, List.length_singleton]; omega) (by omega) hvs (by omega) (lt_snoc hs (by omega)) r1
              rw [if_pos c2, if_neg i10, ck_n (by omega) (by omega), n_clamp (by omega), en, e1, e2, er, bd_s, if_pos c]
              dsimp only
              rcases hr2 with ⟨x, x1, rfl, x3⟩ | ⟨x1, rfl, x3, rfl⟩
              · rw [if_neg i10]
                refine ⟨_, _, _, rfl, Or.inl ⟨x, ?_, rfl, x3⟩⟩
                rw [fnd_app, x1]
              · rw [if_pos i00]
                obtain ⟨b2, ch2, n2, er2, hr3⟩ := ihd2 ch' (n + (exT L r (ts ++ [s]) d).length) (rp_pre x3)
                refine ⟨b2, ch2, n2, er2, ?_⟩
                rw [fnd_app, x1]
                rcases hr3 with ⟨x, z1, z2, z3⟩ | ⟨z1, z2, z3, z4⟩
                · exact Or.inl ⟨x, z1, z2, z3⟩
                · refine Or.inr ⟨z1, z2, z3, ?_⟩
                  rw [z4, List.length_append, Nat.add_assoc]
            · have c : ¬ cand L ts s = true := fun z => by unfold cand at z; rw [Bool.and_eq_true] at z; exact c2 z.2
              unfold K_X9_finds_62_101
              rw [if_neg c2, if_pos i00, if_neg c, List.nil_append, en]
              exact ihd2 ch n hc
          · have c : ¬ cand L ts s = true := fun z => by unfold cand at z; rw [Bool.and_eq_true] at z; exact c1 z.1
            rw [if_neg c1, if_pos i00, if_neg c, List.nil_append, en]
            exact ihd2 ch n hc
      exact loop d FU ch n (by unfold FU; omega) hd hs hc
