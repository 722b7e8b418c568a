/-! Marks in orders. -/
theorem bub_in : ∀ (r a : List Nat) (m : Nat) (v : List Nat) (g : Nat → Int32) (n E : Nat), r.length < n → E = a.length + r.length → E + 1 + v.length ≤ 8 → rp g (a ++ m :: (r ++ v)) → (∀ z ∈ a ++ m :: (r ++ v), z < 1000) → (∀ z ∈ a, z ≤ m) →
    ∃ (g' : Nat → Int32) (a' : List Nat) (m' : Nat), (a' ++ [m']).Perm (a ++ m :: r) ∧ (∀ z ∈ a', z ≤ m') ∧ rp g' (a' ++ m' :: v) ∧ ∀ kk, wq2 (B_X1_sortRising_13 (Int32.ofNat E) kk) n g (Int32.ofNat a.length) = kk g'
  | [], a, m, v, g, n, E, hn, hE, h8, hg, hB, ha => by
    obtain ⟨n, rfl⟩ : ∃ k, n = k + 1 := ⟨n - 1, by simp at hn; omega⟩
    simp at hE
    refine ⟨g, a, m, List.Perm.refl _, ha, hg, fun kk => ?_⟩
    show B_X1_sortRising_13 (Int32.ofNat E) kk g (Int32.ofNat a.length) _ = kk g
    unfold B_X1_sortRising_13
    rw [if_pos ((n_le (by omega) (by omega)).mpr (by omega))]
  | y :: r, a, m, v, g, n, E, hn, hE, h8, hg, hB, ha => by
    obtain ⟨n, rfl⟩ : ∃ k, n = k + 1 := ⟨n - 1, by simp at hn; omega⟩
    simp at hE hn
    have gi := hg _ _ (at_mid (a := a) (x := m))
    have gi1 := hg _ _ (at_mid1 (a := a) (x := m) (y := y))
    have e1 : Int32.ofNat a.length + (1 : Int32) = Int32.ofNat (a.length + 1) := n_add _ 1
    have hm : m < 1000 := hB m (by simp)
    have hy : y < 1000 := hB y (by simp)
    have hs : ∀ kk, wq2 (B_X1_sortRising_13 (Int32.ofNat E) kk) (n + 1) g (Int32.ofNat a.length) = if m ≤ y then wq2 (B_X1_sortRising_13 (Int32.ofNat E) kk) n g (Int32.ofNat (a.length + 1)) else wq2 (B_X1_sortRising_13 (Int32.ofNat E) kk) n (upd (upd g a.length (g (a.length + 1))) (a.length + 1) (g a.length)) (Int32.ofNat (a.length + 1)) := fun kk => by
      show B_X1_sortRising_13 (Int32.ofNat E) kk g (Int32.ofNat a.length) (wq2 (B_X1_sortRising_13 (Int32.ofNat E) kk) n) = _
      unfold B_X1_sortRising_13
      have y1 : ¬ Int32.ofNat E ≤ Int32.ofNat a.length := c_ge (by omega) (by omega) (by omega)
      rw [if_neg y1, e1, powerAt8 (by omega), bd_s, powerAt8 (by omega), bd_s]
      by_cases c : m ≤ y
      · have c2 : g a.length ≤ g (a.length + 1) := by rw [gi, gi1]; exact (n_le (by omega) (by omega)).mpr c
        rw [if_pos c, if_pos c2]
      · have c2 : ¬ g a.length ≤ g (a.length + 1) := by rw [gi, gi1]; exact fun z => c ((n_le (by omega) (by omega)).mp z)
        rw [if_neg c, if_neg c2]
        unfold F_X1_swap
        rw [powerAt8 (by omega), bd_s, powerAt8 (by omega), bd_s, setPower8 (by omega), bd_s, setPower8 (by omega), bd_s, bd_s]
    have eqA : ∀ u w, (a ++ [u]) ++ w :: (r ++ v) = a ++ u :: w :: (r ++ v) := fun u w => by simp
    by_cases c : m ≤ y
    · obtain ⟨g', a', m', s1, s2, s3, s4⟩ := bub_in r (a ++ [m]) y v g n E (by omega) (by simp; omega) h8 (by rw [eqA]; exact hg) (by rw [eqA]; exact hB) (fun z hz => by
        rcases List.mem_append.mp hz with hz | hz
        · have := ha z hz; omega
        · rw [List.mem_singleton.mp hz]; exact c)
      refine ⟨g', a', m', s1.trans (by simp), s2, s3, fun kk => ?_⟩
      rw [hs kk, if_pos c]
      have := s4 kk
      rw [List.length_append, List.length_singleton] at this
      exact this
    · obtain ⟨g', a', m', s1, s2, s3, s4⟩ := bub_in r (a ++ [y]) m v (upd (upd g a.length (g (a.length + 1))) (a.length + 1) (g a.length)) n E (by omega) (by simp; omega) h8 (by rw [eqA]; exact rp_swap2 rfl hg) (by rw [eqA]; intro z hz; exact hB z (by simp at hz ⊢; rcases hz with h | h | h | h | h <;> simp [h])) (fun z hz => by
        rcases List.mem_append.mp hz with hz | hz
        · exact ha z hz
        · rw [List.mem_singleton.mp hz]; omega)
      refine ⟨g', a', m', s1.trans ?_, s2, s3, fun kk => ?_⟩
      · rw [List.append_assoc]
        exact List.Perm.append_left a (List.Perm.swap m y r)
      · rw [hs kk, if_neg c]
        have := s4 kk
        rw [List.length_append, List.length_singleton] at this
        exact this
theorem rising8 {f : Nat → Int32} {l : List Nat} (hl : l.length ≤ 8) (hf : rp f l) (hB : ∀ z ∈ l, z < 1000) :
    ∃ (f' : Nat → Int32) (l' : List Nat), F_X1_sortRising (Int32.ofNat l.length) f = some f' ∧ rp f' l' ∧ l'.Perm l ∧ l'.Pairwise (fun a b => a ≤ b) := by
  unfold F_X1_sortRising
  by_cases h0 : l.length = 0
  · have : l = [] := List.eq_nil_of_length_eq_zero h0
    subst this
    exact ⟨f, [], rfl, hf, List.Perm.refl _, List.Pairwise.nil⟩
  have e0 : Int32.ofNat l.length - (1 : Int32) = Int32.ofNat (l.length - 1) := n_sub (b := 1) (by omega)
  rw [e0]
  refine wq2_inv (B := B_X1_sortRising_7 K_X1_sortRising_7_53) (l.length - 1) (fun j g e => e = Int32.ofNat (l.length - 1 - j) ∧ ∃ u v : List Nat, v.length = j ∧ v.Pairwise (fun a b => a ≤ b) ∧ (∀ x ∈ u, ∀ y ∈ v, x ≤ y) ∧ (u ++ v).Perm l ∧ rp g (u ++ v)) (fun r => ∃ (f' : Nat → Int32) (l' : List Nat), r = some f' ∧ rp f' l' ∧ l'.Perm l ∧ l'.Pairwise (fun a b => a ≤ b))
    (fun j hj g e hI => ?_) (fun g e hI => ?_) FU (by unfold FU; omega) f (Int32.ofNat (l.length - 1)) ⟨rfl, l, [], rfl, List.Pairwise.nil, by simp, by simp, by simpa using hf⟩
  · obtain ⟨rfl, u, v, h1, h2, h3, h4, h5⟩ := hI
    have hlen := h4.length_eq
    rw [List.length_append] at hlen
    have hne : u ≠ [] := by intro z; subst z; simp at hlen; omega
    obtain ⟨m, r, rfl⟩ := List.exists_cons_of_ne_nil hne
    rw [List.length_cons] at hlen
    obtain ⟨g', a', m', s1, s2, s3, s4⟩ := bub_in r [] m v g FU (l.length - 1 - j) (by unfold FU; omega) (by simp; omega) (by omega) h5 (fun z hz => hB z (h4.mem_iff.mp hz)) (by simp)
    have hmem : ∀ z, z ∈ a' ++ [m'] → z ∈ m :: r := fun z hz => s1.mem_iff.mp hz
    have sl := s1.length_eq
    simp at sl
    refine Or.inl ⟨g', Int32.ofNat (l.length - 1 - (j + 1)), ⟨rfl, a', m' :: v, by simp [h1], List.pairwise_cons.mpr ⟨fun y hy => h3 m' (hmem m' (by simp)) y hy, h2⟩, fun x hx y hy => ?_, ?_, s3⟩, fun ag => ?_⟩
    · rcases List.mem_cons.mp hy with rfl | hy
      · exact s2 x hx
      · exact h3 x (hmem x (by simp [hx])) y hy
    · refine List.Perm.trans ?_ h4
      have := List.Perm.append_right v s1
      simpa using this
    · unfold B_X1_sortRising_7
      have y1 : ¬ Int32.ofNat (l.length - 1 - j) ≤ 0 := fun z => by have := (le0_iff (by omega)).mp z; omega
      have em : Int32.ofNat (l.length - 1 - j) + (-1 : Int32) = Int32.ofNat (l.length - 1 - (j + 1)) := by
        rw [← Int32.sub_eq_add_neg, show (1 : Int32) = Int32.ofNat 1 from rfl, n_sub (by omega)]; congr 1
      rw [if_neg y1]
      have := s4 (K_X1_sortRising_13_47 (Int32.ofNat (l.length - 1 - j)) ag)
      refine this.trans ?_
      unfold K_X1_sortRising_13_47
      rw [em]
  · obtain ⟨rfl, u, v, h1, h2, h3, h4, h5⟩ := hI
    have hlen := h4.length_eq
    rw [List.length_append] at hlen
    obtain ⟨x, rfl⟩ : ∃ x, u = [x] := List.length_eq_one_iff.mp (by omega)
    refine ⟨some g, ⟨g, [x] ++ v, rfl, h5, h4, List.pairwise_cons.mpr ⟨fun y hy => h3 x (by simp) y hy, h2⟩⟩, fun ag => ?_⟩
    unfold B_X1_sortRising_7
    rw [if_pos ((le0_iff (by omega)).mpr (by omega))]; rfl
theorem half8 : ∀ n, n < 9 → Int32.ofNat n / (2 : Int32) = Int32.ofNat (n / 2) := by decide
theorem turn8 {n : Nat} (hn : n ≤ 8) (f : Nat → Int32) : F_X1_turnAbout (Int32.ofNat n) f = some (fun k => if k < n then f (n - 1 - k) else f k) := by
  unfold F_X1_turnAbout
  have e0 : (fun k => if k < 0 ∨ (n - 1 - 0 < k ∧ k < n) then f (n - 1 - k) else f k) = f := by funext k; rw [if_neg (by omega)]
  conv => lhs; rw [← e0]
  refine wq2_it (n / 2) (fun j k => if k < j ∨ (n - 1 - j < k ∧ k < n) then f (n - 1 - k) else f k) (fun j => Int32.ofNat j) (fun j hj ag => ?_) (fun ag => ?_) FU (by unfold FU; omega)
  · unfold B_X1_turnAbout_2 F_X1_swap
    have e1 : Int32.ofNat n - (1 : Int32) = Int32.ofNat (n - 1) := n_sub (b := 1) (by omega)
    rw [half8 n (by omega), if_neg (c_ge (by omega) (by omega) hj), e1, n_sub (by omega), powerAt8 (by omega), bd_s, powerAt8 (by omega), bd_s, setPower8 (by omega), bd_s, setPower8 (by omega), bd_s, bd_s, show (1 : Int32) = Int32.ofNat 1 from rfl, n_add]
    congr 1
    funext k
    rw [upd_e, upd_e]
    try dsimp only
    by_cases c : k = n - 1 - j
    · subst c
      rw [if_pos rfl, if_neg (by omega), if_pos (by omega)]; congr 1; omega
    · rw [if_neg c]
      by_cases d : k = j
      · subst d
        rw [if_pos rfl, if_neg (by omega), if_pos (by omega)]
      · rw [if_neg d]
        by_cases e : k < j ∨ (n - 1 - j < k ∧ k < n)
        · rw [if_pos e, if_pos (by omega)]
        · rw [if_neg e, if_neg (by omega)]
  · unfold B_X1_turnAbout_2
    rw [half8 n (by omega), if_pos ((n_le (by omega) (by omega)).mpr (Nat.le_refl _))]
    unfold K_X1_turnAbout_2_31
    congr 1
    funext k
    by_cases c : k < n
    · rw [if_pos c]
      by_cases e : k < n / 2 ∨ (n - 1 - n / 2 < k ∧ k < n)
      · rw [if_pos e]
      · rw [if_neg e]; congr 1; omega
    · rw [if_neg c, if_neg (by omega)]
theorem rp_rev {f : Nat → Int32} {l : List Nat} (h : rp f l) {f' : Nat → Int32} (h' : ∀ k, k < l.length → f' k = f (l.length - 1 - k)) : rp f' l.reverse := fun k v hv => by
  have hk := (List.getElem?_eq_some_iff.mp hv).1
  rw [List.length_reverse] at hk
  rw [List.getElem?_reverse hk] at hv
  rw [h' k hk]; exact h _ _ hv
theorem first8 {n : Nat} (hn : n ≤ 8) (f : Nat → Int32) : F_X1_putFirstLast (Int32.ofNat n) f = some (fun k => if k < n - 1 then f (k + 1) else if k = n - 1 then f 0 else f k) := by
  unfold F_X1_putFirstLast
  have e0 : (fun k => if k < 0 then f (k + 1) else if k = 0 then f 0 else f k) = f := by
    funext k; rw [if_neg (by omega)]
    by_cases c : k = 0
    · rw [if_pos c, c]
    · rw [if_neg c]
  conv => lhs; rw [← e0]
  have e1 : 0 < n → Int32.ofNat n - (1 : Int32) = Int32.ofNat (n - 1) := fun h => n_sub (b := 1) (by omega)
  refine wq2_it (n - 1) (fun j k => if k < j then f (k + 1) else if k = j then f 0 else f k) (fun j => Int32.ofNat j) (fun j hj ag => ?_) (fun ag => ?_) FU (by unfold FU; omega)
  · unfold B_X1_putFirstLast_2 F_X1_swap
    have ea : Int32.ofNat j + (1 : Int32) = Int32.ofNat (j + 1) := n_add _ 1
    rw [e1 (by omega), if_neg (c_ge (by omega) (by omega) hj), ea, powerAt8 (by omega), bd_s, powerAt8 (by omega), bd_s, setPower8 (by omega), bd_s, setPower8 (by omega), bd_s, bd_s]
    congr 1
    funext k
    rw [upd_e, upd_e]
    try dsimp only
    by_cases c : k = j + 1
    · subst c
      rw [if_pos rfl, if_neg (by omega), if_pos rfl, if_neg (by omega), if_pos rfl]
    · rw [if_neg c]
      by_cases d : k = j
      · subst d
        rw [if_pos rfl, if_neg (by omega), if_neg (by omega), if_pos (by omega)]
      · rw [if_neg d, if_neg d, if_neg c]
        by_cases e : k < j
        · rw [if_pos e, if_pos (by omega)]
        · rw [if_neg e, if_neg (by omega)]
  · unfold B_X1_putFirstLast_2
    by_cases h0 : n = 0
    · subst h0; rfl
    · rw [e1 (by omega), if_pos ((n_le (by omega) (by omega)).mpr (Nat.le_refl _))]; rfl
theorem rp_rot {f : Nat → Int32} {x : Nat} {r : List Nat} (h : rp f (x :: r)) {f' : Nat → Int32} (h' : ∀ k, k < r.length → f' k = f (k + 1)) (h2 : f' r.length = f 0) : rp f' (r ++ [x]) := fun k v hv => by
  have hk := (List.getElem?_eq_some_iff.mp hv).1
  rw [List.length_append, List.length_singleton] at hk
  by_cases c : k < r.length
  · rw [List.getElem?_append_left c] at hv
    rw [h' k c]; exact h (k + 1) v hv
  · have : k = r.length := by omega
    subst this
    rw [at_mid (r := [])] at hv
    rw [h2, ← Option.some.inj hv]; exact h 0 x rfl
theorem ucnt_congr {f g f' g' : Nat → Int32} {n : Nat} (h1 : ∀ k, k < n → f k = f' k) (h2 : ∀ k, k < n → g k = g' k) : ucnt f g n = ucnt f' g' n := by
  induction n with
  | zero => rfl
  | succ n ih =>
    rw [ucnt_s, ucnt_s, ih (fun k hk => h1 k (by omega)) (fun k hk => h2 k (by omega)), h1 n (by omega), h2 n (by omega)]
