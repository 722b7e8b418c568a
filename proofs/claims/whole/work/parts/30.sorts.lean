/-! Rows against lists; rows sorted. -/
def rp (f : Nat → Int32) (l : List Nat) : Prop := ∀ (k v : Nat), l[k]? = some v → f k = Int32.ofNat v
theorem rp_D {f : Nat → Int32} {l : List Nat} (h : rp f l) : ∀ k, k < l.length → f k = Int32.ofNat (l.getD k 0) := fun k hk => h k _ (by rw [List.getD_eq_getElem?_getD, List.getElem?_eq_getElem hk]; rfl)
theorem D_rp {f : Nat → Int32} {l : List Nat} (h : ∀ k, k < l.length → f k = Int32.ofNat (l.getD k 0)) : rp f l := fun k v hv => by
  have hk := (List.getElem?_eq_some_iff.mp hv).1
  rw [h k hk, List.getD_eq_getElem?_getD, hv]; rfl
theorem at_mid {a r : List Nat} {x : Nat} : (a ++ x :: r)[a.length]? = some x := by simp
theorem at_mid1 {a r : List Nat} {x y : Nat} : (a ++ x :: y :: r)[a.length + 1]? = some y := by
  rw [List.getElem?_append_right (by omega)]; simp
theorem rp_swap {g : Nat → Int32} {a r : List Nat} {x y i : Nat} (hi : i = a.length) (hg : rp g (a ++ x :: y :: r)) : rp (upd (upd g (i + 1) (g i)) i (g (i + 1))) (a ++ y :: x :: r) := by
  subst hi
  have e0 := hg _ _ at_mid
  have e1 := hg _ _ at_mid1
  intro k v h
  rw [upd_e, upd_e]
  by_cases c : k = a.length
  · subst c
    rw [at_mid] at h
    rw [if_pos rfl, e1, Option.some.inj h]
  · rw [if_neg c]
    by_cases d : k = a.length + 1
    · subst d
      rw [at_mid1] at h
      rw [if_pos rfl, e0, Option.some.inj h]
    · rw [if_neg d]
      apply hg
      by_cases e : k < a.length
      · rw [List.getElem?_append_left e] at h ⊢; exact h
      · obtain ⟨t, rfl⟩ : ∃ t, k = a.length + (t + 2) := ⟨k - a.length - 2, by omega⟩
        rw [List.getElem?_append_right (by omega), show a.length + (t + 2) - a.length = t + 2 by omega] at h ⊢
        exact h
theorem rp_swap2 {g : Nat → Int32} {a r : List Nat} {x y i : Nat} (hi : i = a.length) (hg : rp g (a ++ x :: y :: r)) : rp (upd (upd g i (g (i + 1))) (i + 1) (g i)) (a ++ y :: x :: r) := by
  have e : upd (upd g i (g (i + 1))) (i + 1) (g i) = upd (upd g (i + 1) (g i)) i (g (i + 1)) := by
    funext k
    simp only [upd_e]
    by_cases c : k = i
    · subst c; rw [if_neg (by omega), if_pos rfl, if_pos rfl]
    · rw [if_neg c, if_neg c]
  rw [e]; exact rp_swap hi hg
/-- an order in which ints are sorted -/
def ordW (p2 : Int32) (B : Nat) (le : Nat → Nat → Prop) : Prop := (∀ a b, a < B → b < B → (p2 * Int32.ofNat a ≤ p2 * Int32.ofNat b ↔ le a b)) ∧ (∀ a b, le a b ∨ le b a) ∧ ∀ a b c, le a b → le b c → le a c
theorem srt_in {N : Nat} {p2 : Int32} {B : Nat} {le : Nat → Nat → Prop} (hN : N < 100000) (ho : ordW p2 B le) : ∀ (i : Nat) (a : List Nat), a.length = i → ∀ (x : Nat) (c rest : List Nat) (g : Nat → Int32) (n : Nat), i < n → i < N → rp g (a ++ x :: (c ++ rest)) → (∀ z ∈ a ++ x :: (c ++ rest), z < B) → (a ++ c).Pairwise le → (∀ y ∈ c, le x y) →
    ∃ (g' : Nat → Int32) (s : List Nat), s.Perm (x :: (a ++ c)) ∧ s.Pairwise le ∧ rp g' (s ++ rest) ∧ ∀ kk, wq2 (B_X9_sorts_10 N p2 kk) n g (Int32.ofNat i) = kk g' := by
  intro i
  induction i with
  | zero =>
    intro a ha x c rest g n hn hiN hg hB hp hx
    have ha0 : a = [] := List.eq_nil_of_length_eq_zero ha
    subst ha0
    obtain ⟨n, rfl⟩ : ∃ m, n = m + 1 := ⟨n - 1, by omega⟩
    refine ⟨g, x :: c, List.Perm.refl _, List.pairwise_cons.mpr ⟨hx, hp⟩, hg, fun kk => ?_⟩
    show B_X9_sorts_10 N p2 kk g (Int32.ofNat 0) _ = kk g
    unfold B_X9_sorts_10
    rw [if_pos (by decide)]
  | succ i ih =>
    intro a ha x c rest g n hn hiN hg hB hp hx
    obtain ⟨n, rfl⟩ : ∃ m, n = m + 1 := ⟨n - 1, by omega⟩
    have hne : a ≠ [] := by intro z; subst z; simp at ha
    obtain ⟨a', y, rfl⟩ : ∃ a' y, a = a' ++ [y] := ⟨a.dropLast, a.getLast hne, (List.dropLast_concat_getLast hne).symm⟩
    have ha' : a'.length = i := by simpa using ha
    have eq1 : (a' ++ [y]) ++ x :: (c ++ rest) = a' ++ y :: x :: (c ++ rest) := by simp
    rw [eq1] at hg hB
    have gi : g i = Int32.ofNat y := by have := hg _ _ (at_mid (a := a') (x := y) (r := x :: (c ++ rest))); rw [ha'] at this; exact this
    have gi1 : g (i + 1) = Int32.ofNat x := by have := hg _ _ (at_mid1 (a := a') (x := y) (y := x) (r := c ++ rest)); rw [ha'] at this; exact this
    have e1 : Int32.ofNat (i + 1) - (1 : Int32) = Int32.ofNat i := n_sub (b := 1) (by omega)
    have em : Int32.ofNat (i + 1) + (-1 : Int32) = Int32.ofNat i := by rw [← e1, Int32.sub_eq_add_neg]
    have c0 : ¬ Int32.ofNat (i + 1) ≤ 0 := fun z => by have := (le0_iff (by omega)).mp z; omega
    have hs : ∀ kk, wq2 (B_X9_sorts_10 N p2 kk) (n + 1) g (Int32.ofNat (i + 1)) = if p2 * Int32.ofNat y ≤ p2 * Int32.ofNat x then kk g else wq2 (B_X9_sorts_10 N p2 kk) n (upd (upd g (i + 1) (g i)) i (g (i + 1))) (Int32.ofNat i) := fun kk => by
      show B_X9_sorts_10 N p2 kk g (Int32.ofNat (i + 1)) (wq2 (B_X9_sorts_10 N p2 kk) n) = _
      unfold B_X9_sorts_10
      rw [if_neg c0, e1, em, ck_n (by omega) (by omega), ck_n (by omega) (by omega), ck_n (by omega) (by omega), ck_n (by omega) (by omega), ck_n (by omega) (by omega), ck_n (by omega) (by omega), n_clamp (by omega), n_clamp (by omega)]
      by_cases q : p2 * Int32.ofNat y ≤ p2 * Int32.ofNat x
      · rw [if_pos q, gi, gi1, if_pos q]
      · rw [if_neg q]
        have q2 : ¬ p2 * g i ≤ p2 * g (i + 1) := by rw [gi, gi1]; exact q
        rw [if_neg q2]
    have hyB : y < B := hB y (by simp)
    have hxB : x < B := hB x (by simp)
    by_cases q : p2 * Int32.ofNat y ≤ p2 * Int32.ofNat x
    · have lyx := (ho.1 y x hyB hxB).mp q
      refine ⟨g, (a' ++ [y]) ++ x :: c, List.perm_middle, ?_, by rw [List.append_assoc, List.cons_append, eq1]; exact hg, fun kk => by rw [hs kk, if_pos q]⟩
      rw [List.pairwise_append] at hp ⊢
      refine ⟨hp.1, List.pairwise_cons.mpr ⟨hx, hp.2.1⟩, fun u hu v hv => ?_⟩
      have huy : le u y := by
        rcases List.mem_append.mp hu with hu | hu
        · exact (List.pairwise_append.mp hp.1).2.2 u hu y (by simp)
        · rw [List.mem_singleton.mp hu]; rcases ho.2.1 y y with w | w <;> exact w
      rcases List.mem_cons.mp hv with rfl | hv
      · exact ho.2.2 _ _ _ huy lyx
      · exact hp.2.2 u hu v hv
    · have lxy : le x y := by
        rcases ho.2.1 x y with w | w
        · exact w
        · exact absurd ((ho.1 y x hyB hxB).mpr w) q
      have hp2 : (a' ++ y :: c).Pairwise le := by rw [List.append_assoc] at hp; exact hp
      obtain ⟨g', s, s1, s2, s3, s4⟩ := ih a' ha' x (y :: c) rest (upd (upd g (i + 1) (g i)) i (g (i + 1))) n (by omega) (by omega) (rp_swap ha'.symm hg) (fun z hz => hB z (by simp at hz ⊢; rcases hz with h | h | h | h <;> simp [h])) hp2 (fun z hz => by
        rcases List.mem_cons.mp hz with rfl | hz
        · exact lxy
        · exact hx z hz)
      refine ⟨g', s, ?_, s2, s3, fun kk => by rw [hs kk, if_neg q]; exact s4 kk⟩
      refine s1.trans ?_
      rw [List.append_assoc]; exact List.Perm.refl _
theorem sorts9 {N : Nat} {p2 : Int32} {B : Nat} {le : Nat → Nat → Prop} (hN : N < 5000) (ho : ordW p2 B le) {f : Nat → Int32} {l : List Nat} (hl : l.length ≤ N) (hf : rp f l) (hB : ∀ z ∈ l, z < B) :
    ∃ (f' : Nat → Int32) (l' : List Nat), F_X9_sorts N f (Int32.ofNat l.length) p2 = some f' ∧ rp f' l' ∧ l'.Perm l ∧ l'.Pairwise le := by
  unfold F_X9_sorts
  by_cases h0 : l.length ≤ 1
  · refine ⟨f, l, ?_, hf, List.Perm.refl _, ?_⟩
    · have c : Int32.ofNat l.length ≤ (1 : Int32) := (n_le (b := 1) (by omega) (by omega)).mpr h0
      show (if Int32.ofNat l.length ≤ (1 : Int32) then K_X9_sorts_2_68 f else _) = some f
      rw [if_pos c]; rfl
    · match l, h0 with
      | [], _ => exact List.Pairwise.nil
      | [x], _ => simp
  have key := wq2_inv (B := B_X9_sorts_2 N (Int32.ofNat l.length) p2 K_X9_sorts_2_68) (l.length - 1) (fun j g i => i = Int32.ofNat (j + 1) ∧ ∃ s rest : List Nat, s.length = j + 1 ∧ s.Pairwise le ∧ (s ++ rest).Perm l ∧ rp g (s ++ rest)) (fun r => ∃ (f' : Nat → Int32) (l' : List Nat), r = some f' ∧ rp f' l' ∧ l'.Perm l ∧ l'.Pairwise le)
    (fun j hj g i hI => by
      obtain ⟨rfl, s, rest, h1, h2, h3, h4⟩ := hI
      have hlen := h3.length_eq
      rw [List.length_append] at hlen
      have hne : rest ≠ [] := by intro z; subst z; simp at hlen; omega
      obtain ⟨x, rest, rfl⟩ := List.exists_cons_of_ne_nil hne
      have hBs : ∀ z ∈ s ++ x :: rest, z < B := fun z hz => hB z (h3.mem_iff.mp hz)
      obtain ⟨g', s', a1, a2, a3, a4⟩ := srt_in (N := N) (p2 := p2) (by omega) ho (j + 1) s h1 x [] rest g FU (by unfold FU; omega) (by omega) h4 hBs (by simpa using h2) (by simp)
      refine Or.inl ⟨g', Int32.ofNat (j + 2), ⟨rfl, s', rest, ?_, a2, ?_, a3⟩, fun ag => ?_⟩
      · have := a1.length_eq; simp at this; omega
      · refine List.Perm.trans ?_ h3
        refine (List.Perm.append_right rest a1).trans ?_
        simpa using (List.perm_middle (a := x) (l₁ := s) (l₂ := rest)).symm
      · unfold B_X9_sorts_2
        rw [if_neg (c_ge (by omega) (by omega) (by omega)), a4]
        unfold K_X9_sorts_10_62
        rw [show (1 : Int32) = Int32.ofNat 1 from rfl, n_add])
    (fun g i hI => by
      obtain ⟨rfl, s, rest, h1, h2, h3, h4⟩ := hI
      have hlen := h3.length_eq
      rw [List.length_append] at hlen
      have hr : rest = [] := List.eq_nil_of_length_eq_zero (by omega)
      subst hr
      rw [List.append_nil] at h3 h4
      refine ⟨some g, ⟨g, s, rfl, h4, h3, h2⟩, fun ag => ?_⟩
      unfold B_X9_sorts_2
      rw [if_pos ((n_le (by omega) (by omega)).mpr (by omega))]; rfl)
    FU (by unfold FU; omega) f (1 : Int32)
  obtain ⟨x, r, rfl⟩ : ∃ x r, l = x :: r := by
    cases l with
    | nil => simp at h0
    | cons x r => exact ⟨x, r, rfl⟩
  exact key ⟨rfl, [x], r, rfl, by simp, List.Perm.refl _, hf⟩
theorem ord1 {B : Nat} (hB : B ≤ 1000000) : ordW (1 : Int32) B (fun a b => a ≤ b) := by
  refine ⟨fun a b ha hb => ?_, fun a b => by omega, fun a b c h1 h2 => by omega⟩
  rw [Int32.one_mul, Int32.one_mul]
  exact n_le (by omega) (by omega)
theorem n_negInt {a : Nat} (ha : a < 1000000) : ((-1 : Int32) * Int32.ofNat a).toInt = -(a : Int) := by
  have e : (-1 : Int32).toInt = -1 := rfl
  rw [Int32.toInt_mul, n_toInt (by omega), e, Int.bmod_eq_of_le (by omega) (by omega)]; omega
theorem ordM {B : Nat} (hB : B ≤ 1000000) : ordW (-1 : Int32) B (fun a b => b ≤ a) := by
  refine ⟨fun a b ha hb => ?_, fun a b => by omega, fun a b c h1 h2 => by omega⟩
  rw [Int32.le_iff_toInt_le, n_negInt (by omega), n_negInt (by omega)]; omega
