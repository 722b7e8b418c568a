/-! Numbers that are met: the model's rows. -/
theorem sh_upd (f : Nat → Int32) (o i : Nat) (v : Int32) : (fun k => upd f (o + i) v (o + k)) = upd (fun k => f (o + k)) i v := by
  funext k
  rw [upd_e, upd_e]
  by_cases c : k = i
  · rw [if_pos c, if_pos (by omega)]
  · rw [if_neg c, if_neg (by omega)]
theorem rA_sh {f : Nat → Int32} {o : Nat} {l : List Nat} : rA f o l ↔ rp (fun k => f (o + k)) l := Iff.rfl
theorem rA_swap {f : Nat → Int32} {o i x y : Nat} {a r : List Nat} (hi : i = a.length) (h : rA f o (a ++ x :: y :: r)) : rA (upd (upd f (o + (i + 1)) (f (o + i))) (o + i) (f (o + (i + 1)))) o (a ++ y :: x :: r) := by
  rw [rA_sh, sh_upd, sh_upd]
  exact rp_swap hi (rA_sh.mp h)
theorem mt_in {o : Nat} (ho : o ≤ 35980) : ∀ (i : Nat) (a : List Nat), a.length = i → ∀ (x : Nat) (c rest : List Nat) (f : Nat → Int32) (n : Nat), i < n → i < 15 → rA f o (a ++ x :: (c ++ rest)) → (∀ z ∈ a ++ x :: (c ++ rest), z < 1000) → (a ++ c).Pairwise (fun p q => p ≤ q) → (∀ y ∈ c, x ≤ y) →
    ∃ (f' : Nat → Int32) (s : List Nat), s.Perm (x :: (a ++ c)) ∧ s.Pairwise (fun p q => p ≤ q) ∧ rA f' o (s ++ rest) ∧ (∀ k, k < o → f' k = f k) ∧ ∀ kk, wq2 (B_X9_meets_10 (Int32.ofNat o) kk) n f (Int32.ofNat i) = kk f' := by
  intro i
  induction i with
  | zero =>
    intro a ha x c rest f n hn hi hf hB hp hx
    have ha0 : a = [] := List.eq_nil_of_length_eq_zero ha
    subst ha0
    obtain ⟨n, rfl⟩ : ∃ m, n = m + 1 := ⟨n - 1, by omega⟩
    refine ⟨f, x :: c, List.Perm.refl _, List.pairwise_cons.mpr ⟨hx, hp⟩, hf, fun k _ => rfl, fun kk => ?_⟩
    show B_X9_meets_10 (Int32.ofNat o) kk f (Int32.ofNat 0) _ = kk f
    unfold B_X9_meets_10
    rw [if_pos (by decide)]
  | succ i ih =>
    intro a ha x c rest f n hn hi hf hB hp hx
    obtain ⟨n, rfl⟩ : ∃ m, n = m + 1 := ⟨n - 1, by omega⟩
    have hne : a ≠ [] := by intro z; subst z; simp at ha
    obtain ⟨a', y, rfl⟩ : ∃ a' y, a = a' ++ [y] := ⟨a.dropLast, a.getLast hne, (List.dropLast_concat_getLast hne).symm⟩
    have ha' : a'.length = i := by simpa using ha
    have eq1 : (a' ++ [y]) ++ x :: (c ++ rest) = a' ++ y :: x :: (c ++ rest) := by simp
    rw [eq1] at hf hB
    have gi : f (o + i) = Int32.ofNat y := by have := hf _ _ (at_mid (a := a') (x := y) (r := x :: (c ++ rest))); rw [ha'] at this; exact this
    have gi1 : f (o + (i + 1)) = Int32.ofNat x := by have := hf _ _ (at_mid1 (a := a') (x := y) (y := x) (r := c ++ rest)); rw [ha'] at this; exact this
    have e0 : Int32.ofNat o + Int32.ofNat (i + 1) = Int32.ofNat (o + (i + 1)) := n_add _ _
    have e1 : Int32.ofNat (o + (i + 1)) - (1 : Int32) = Int32.ofNat (o + i) := n_sub (b := 1) (by omega)
    have em : Int32.ofNat (i + 1) + (-1 : Int32) = Int32.ofNat i := by rw [← Int32.sub_eq_add_neg]; exact n_sub (b := 1) (by omega)
    have c0 : ¬ Int32.ofNat (i + 1) ≤ 0 := fun z => by have := (le0_iff (by omega)).mp z; omega
    have hyB : y < 1000 := hB y (by simp)
    have hxB : x < 1000 := hB x (by simp)
    have hs : ∀ kk, wq2 (B_X9_meets_10 (Int32.ofNat o) kk) (n + 1) f (Int32.ofNat (i + 1)) = if y ≤ x then kk f else wq2 (B_X9_meets_10 (Int32.ofNat o) kk) n (upd (upd f (o + (i + 1)) (f (o + i))) (o + i) (f (o + (i + 1)))) (Int32.ofNat i) := fun kk => by
      show B_X9_meets_10 (Int32.ofNat o) kk f (Int32.ofNat (i + 1)) (wq2 (B_X9_meets_10 (Int32.ofNat o) kk) n) = _
      generalize wq2 (B_X9_meets_10 (Int32.ofNat o) kk) n = W
      unfold B_X9_meets_10
      rw [if_neg c0, e0, e1, em, ck_n (by omega) (by omega), ck_n (by omega) (by omega), ck_n (by omega) (by omega), ck_n (by omega) (by omega), ck_n (by omega) (by omega), ck_n (by omega) (by omega), n_clamp (by omega), n_clamp (by omega)]
      have cc : (f (o + i) ≤ f (o + (i + 1))) ↔ y ≤ x := by rw [gi, gi1]; exact n_le (by omega) (by omega)
      by_cases q : y ≤ x
      · rw [if_pos (cc.mpr q), if_pos q]
      · rw [if_neg (fun z => q (cc.mp z)), if_neg q]
    by_cases q : y ≤ x
    · refine ⟨f, (a' ++ [y]) ++ x :: c, List.perm_middle, ?_, by rw [List.append_assoc, List.cons_append, eq1]; exact hf, fun k _ => rfl, fun kk => by rw [hs kk, if_pos q]⟩
      rw [List.pairwise_append] at hp ⊢
      refine ⟨hp.1, List.pairwise_cons.mpr ⟨hx, hp.2.1⟩, fun u hu v hv => ?_⟩
      have huy : u ≤ y := by
        rcases List.mem_append.mp hu with hu | hu
        · exact (List.pairwise_append.mp hp.1).2.2 u hu y (by simp)
        · rw [List.mem_singleton.mp hu]; exact Nat.le_refl _
      rcases List.mem_cons.mp hv with rfl | hv
      · omega
      · exact hp.2.2 u hu v hv
    · have hp2 : (a' ++ y :: c).Pairwise (fun p q => p ≤ q) := by rw [List.append_assoc] at hp; exact hp
      obtain ⟨f', s, s1, s2, s3, s5, s4⟩ := ih a' ha' x (y :: c) rest (upd (upd f (o + (i + 1)) (f (o + i))) (o + i) (f (o + (i + 1)))) n (by omega) (by omega) (rA_swap ha'.symm hf) (fun z hz => hB z (by simp at hz ⊢; rcases hz with h | h | h | h <;> simp [h])) hp2 (fun z hz => by
        rcases List.mem_cons.mp hz with rfl | hz
        · omega
        · exact hx z hz)
      refine ⟨f', s, ?_, s2, s3, fun k hk => ?_, fun kk => by rw [hs kk, if_neg q]; exact s4 kk⟩
      · refine s1.trans ?_
        rw [List.append_assoc]; exact List.Perm.refl _
      · rw [s5 k hk, upd_e, if_neg (by omega), upd_e, if_neg (by omega)]
theorem mt_sort {o : Nat} (ho : o ≤ 35980) {f : Nat → Int32} {l : List Nat} (hf : rA f o l) (hl : l.length < 12) (hB : ∀ z ∈ l, z < 1000) (many : Int32) (S : Nat → Int32) :
    ∃ (f' : Nat → Int32) (t : List Nat), t.Perm l ∧ t.Pairwise (fun p q => p ≤ q) ∧ rA f' o t ∧ (∀ k, k < o → f' k = f k) ∧ F_X9_meets many f S (Int32.ofNat o) (Int32.ofNat l.length) = K_X9_meets_2_94 many S (Int32.ofNat o) (Int32.ofNat l.length) f' := by
  unfold F_X9_meets
  by_cases h0 : l.length ≤ 1
  · refine ⟨f, l, List.Perm.refl _, ?_, hf, fun k _ => rfl, ?_⟩
    · match l, h0 with
      | [], _ => exact List.Pairwise.nil
      | [x], _ => simp
    · have c : Int32.ofNat l.length ≤ (1 : Int32) := (n_le (b := 1) (by omega) (by omega)).mpr h0
      show (if Int32.ofNat l.length ≤ (1 : Int32) then K_X9_meets_2_94 many S (Int32.ofNat o) (Int32.ofNat l.length) f else _) = _
      rw [if_pos c]
  have key := wq2_inv (B := B_X9_meets_2 (Int32.ofNat o) (Int32.ofNat l.length) (K_X9_meets_2_94 many S (Int32.ofNat o) (Int32.ofNat l.length))) (l.length - 1) (fun j g i => i = Int32.ofNat (j + 1) ∧ (∀ k, k < o → g k = f k) ∧ ∃ s rest : List Nat, s.length = j + 1 ∧ s.Pairwise (fun p q => p ≤ q) ∧ (s ++ rest).Perm l ∧ rA g o (s ++ rest)) (fun r => ∃ (f' : Nat → Int32) (t : List Nat), t.Perm l ∧ t.Pairwise (fun p q => p ≤ q) ∧ rA f' o t ∧ (∀ k, k < o → f' k = f k) ∧ r = K_X9_meets_2_94 many S (Int32.ofNat o) (Int32.ofNat l.length) f')
    (fun j hj g i hI => by
      obtain ⟨rfl, h5, s, rest, h1, h2, h3, h4⟩ := hI
      have hlen := h3.length_eq
      rw [List.length_append] at hlen
      have hne : rest ≠ [] := by intro z; subst z; simp at hlen; omega
      obtain ⟨x, rest, rfl⟩ := List.exists_cons_of_ne_nil hne
      have hBs : ∀ z ∈ s ++ x :: rest, z < 1000 := fun z hz => hB z (h3.mem_iff.mp hz)
      obtain ⟨g', s', a1, a2, a3, a5, a4⟩ := mt_in ho (j + 1) s h1 x [] rest g FU (by unfold FU; omega) (by omega) h4 hBs (by simpa using h2) (by simp)
      refine Or.inl ⟨g', Int32.ofNat (j + 2), ⟨rfl, fun k hk => by rw [a5 k hk, h5 k hk], s', rest, ?_, a2, ?_, a3⟩, fun ag => ?_⟩
      · have := a1.length_eq; simp at this; omega
      · refine List.Perm.trans ?_ h3
        refine (List.Perm.append_right rest a1).trans ?_
        simpa using (List.perm_middle (a := x) (l₁ := s) (l₂ := rest)).symm
      · unfold B_X9_meets_2
        rw [if_neg (c_ge (by omega) (by omega) (by omega)), a4]
        unfold K_X9_meets_10_88
        rw [show (1 : Int32) = Int32.ofNat 1 from rfl, n_add])
    (fun g i hI => by
      obtain ⟨rfl, h5, s, rest, h1, h2, h3, h4⟩ := hI
      have hlen := h3.length_eq
      rw [List.length_append] at hlen
      have hr : rest = [] := List.eq_nil_of_length_eq_zero (by omega)
      subst hr
      rw [List.append_nil] at h3 h4
      refine ⟨_, ⟨g, s, h3, h2, h4, h5, rfl⟩, fun ag => ?_⟩
      unfold B_X9_meets_2
      rw [if_pos ((n_le (by omega) (by omega)).mpr (by omega))])
    FU (by unfold FU; omega) f (1 : Int32)
  obtain ⟨x, r, rfl⟩ : ∃ x r, l = x :: r := by
    cases l with
    | nil => simp at h0
    | cons x r => exact ⟨x, r, rfl⟩
  exact key ⟨rfl, fun k _ => rfl, [x], r, rfl, by simp, List.Perm.refl _, hf⟩
theorem cmp9 {o m n : Nat} {M : Nat → Int32} {r t : List Nat} (hr : rA M (12 * m) r) (ht : rA M o t) (lr : r.length = n) (lt : t.length = n) (hn : n < 12) (hm : 12 * m + 12 ≤ 36000) (ho : o + 12 ≤ 36000) (br : ∀ z ∈ r, z < 1000) (bt : ∀ z ∈ t, z < 1000) (kk : Int32 → Option ((Nat → Int32) × (Nat → Int32) × Int32)) :
    wq2 (B_X9_meets_124x1 (Int32.ofNat o) (Int32.ofNat n) M (Int32.ofNat m) kk) FU (1 : Int32) (0 : Int32) = kk (if r = t then 1 else 0) := by
  obtain ⟨q, q1, q2, q3⟩ := stop3 (fun j => j < n ∧ r.getD j 0 = t.getD j 0) n (fun z => absurd z.1 (by omega))
  have ej : ∀ j, Int32.ofNat j + (1 : Int32) = Int32.ofNat (j + 1) := fun j => n_add j 1
  have stp : ∀ j, j < n → ∀ ag, B_X9_meets_124x1 (Int32.ofNat o) (Int32.ofNat n) M (Int32.ofNat m) kk (1 : Int32) (Int32.ofNat j) ag = if r.getD j 0 = t.getD j 0 then ag (1 : Int32) (Int32.ofNat (j + 1)) else ag (0 : Int32) (Int32.ofNat (j + 1)) := fun j hj ag => by
    have b1 := br _ (getD_mem (l := r) (k := j) (by omega))
    have b2 := bt _ (getD_mem (l := t) (k := j) (by omega))
    unfold B_X9_meets_124x1
    rw [if_neg (c_ge (by omega) (by omega) hj), if_neg i10, mul12, n_add, n_add, ck_n (by omega) (by omega), ck_n (by omega) (by omega), n_clamp (by omega), n_clamp (by omega), rA_D hr (by omega), rA_D ht (by omega), ej]
    by_cases c : r.getD j 0 = t.getD j 0
    · rw [if_pos (by rw [c]), if_pos c]
    · rw [if_neg (fun z => c ((n_inj (by omega) (by omega)).mp z)), if_neg c]
  by_cases c : q = n
  · have e : r = t := ext_getD (by omega) fun k hk => (q2 k (by omega)).2
    rw [if_pos e]
    refine wq2_it n (fun j => (1 : Int32)) (fun j => Int32.ofNat j) (fun j hj ag => ?_) (fun ag => ?_) FU (by unfold FU; omega)
    · rw [stp j hj, if_pos (q2 j (by omega)).2]
    · unfold B_X9_meets_124x1
      rw [if_pos ((n_le (by omega) (by omega)).mpr (Nat.le_refl _))]
  · have ne : ¬ r = t := fun z => q3 ⟨by omega, by rw [z]⟩
    have nq : ¬ r.getD q 0 = t.getD q 0 := fun z => q3 ⟨by omega, z⟩
    rw [if_neg ne]
    refine wq2_it (q + 1) (fun j => if j ≤ q then (1 : Int32) else 0) (fun j => Int32.ofNat j) (fun j hj ag => ?_) (fun ag => ?_) FU (by unfold FU; omega)
    · rw [if_pos (by omega), stp j (by omega)]
      by_cases d : j = q
      · subst d
        rw [if_neg nq, if_neg (by omega)]
      · rw [if_pos (q2 j (by omega)).2, if_pos (by omega)]
    · rw [if_neg (by omega)]
      unfold B_X9_meets_124x1
      by_cases d : Int32.ofNat n ≤ Int32.ofNat (q + 1)
      · rw [if_pos d]
      · rw [if_neg d, if_pos i00]
def Rep (M S : Nat → Int32) (R : List (List Nat)) : Prop := ∀ (m : Nat) (r : List Nat), R[m]? = some r → rA M (12 * m) r ∧ S m = Int32.ofNat r.length
theorem srch9 {M S : Nat → Int32} {R : List (List Nat)} {t : List Nat} (hR : Rep M S R) (hl : ∀ r ∈ R, r.length < 12 ∧ ∀ z ∈ r, z < 1000) (ht : rA M (12 * R.length) t) (tl : t.length < 12) (tb : ∀ z ∈ t, z < 1000) (hlen : R.length < 2000) :
    ∃ S' R', K_X9_meets_2_94 (Int32.ofNat R.length) S (Int32.ofNat (12 * R.length)) (Int32.ofNat t.length) M = some (M, S', Int32.ofNat R'.length) ∧ Rep M S' R' ∧ ((t ∈ R ∧ R' = R) ∨ (¬ t ∈ R ∧ R' = R ++ [t])) := by
  have ej : ∀ j, Int32.ofNat j + (1 : Int32) = Int32.ofNat (j + 1) := fun j => n_add j 1
  obtain ⟨q, q1, q2, q3⟩ := stop3 (fun m => m < R.length ∧ ¬ R[m]? = some t) R.length (fun z => absurd z.1 (by omega))
  unfold K_X9_meets_2_94
  have stp : ∀ j, j < R.length → ∀ ag, ∃ r, R[j]? = some r ∧ B_X9_meets_96 (Int32.ofNat R.length) S (Int32.ofNat (12 * R.length)) (Int32.ofNat t.length) M (K_X9_meets_96_184 (Int32.ofNat R.length) S (Int32.ofNat t.length) M) (Int32.ofNat j) ag = if r = t then some (M, S, Int32.ofNat R.length) else ag (Int32.ofNat (j + 1)) := fun j hj ag => by
    have hj2 : R[j]? = some R[j] := List.getElem?_eq_getElem hj
    obtain ⟨hr, hS⟩ := hR j R[j] hj2
    obtain ⟨b1, b2⟩ := hl R[j] (List.getElem_mem hj)
    refine ⟨R[j], hj2, ?_⟩
    unfold B_X9_meets_96
    rw [if_neg (c_ge (by omega) (by omega) hj), ck_n (by omega) (by omega), n_clamp (by omega), hS]
    by_cases c : R[j].length = t.length
    · rw [if_pos (by rw [c]), cmp9 hr ht c rfl tl (by omega) (by omega) b2 tb]
      unfold K_X9_meets_124_172x1
      by_cases d : R[j] = t
      · rw [if_pos d, if_neg i10, if_pos d]
      · rw [if_neg d, if_pos i00, ej, if_neg d]
    · have d : ¬ R[j] = t := fun z => c (by rw [z])
      have e : ∀ kk, wq2 (B_X9_meets_124 (Int32.ofNat (12 * R.length)) (Int32.ofNat t.length) M (Int32.ofNat j) kk) FU (0 : Int32) (0 : Int32) = kk (0 : Int32) := fun kk => by
        show B_X9_meets_124 (Int32.ofNat (12 * R.length)) (Int32.ofNat t.length) M (Int32.ofNat j) kk (0 : Int32) (0 : Int32) _ = _
        unfold B_X9_meets_124
        by_cases y : Int32.ofNat t.length ≤ (0 : Int32)
        · rw [if_pos y]
        · rw [if_neg y, if_pos i00]
      rw [if_neg (fun z => c ((n_inj (by omega) (by omega)).mp z)), e, if_neg d]
      unfold K_X9_meets_124_172
      rw [if_pos i00, ej]
  have go : ∀ X, (∀ ag, B_X9_meets_96 (Int32.ofNat R.length) S (Int32.ofNat (12 * R.length)) (Int32.ofNat t.length) M (K_X9_meets_96_184 (Int32.ofNat R.length) S (Int32.ofNat t.length) M) (Int32.ofNat q) ag = X) → wq1 (B_X9_meets_96 (Int32.ofNat R.length) S (Int32.ofNat (12 * R.length)) (Int32.ofNat t.length) M (K_X9_meets_96_184 (Int32.ofNat R.length) S (Int32.ofNat t.length) M)) FU (0 : Int32) = X := fun X hX =>
    wq1_it q (fun j => Int32.ofNat j) (fun j hj ag => by
      obtain ⟨a, b⟩ := q2 j hj
      obtain ⟨r, e1, e2⟩ := stp j a ag
      rw [e2, if_neg (fun z => b (by rw [e1, z]))]) hX FU (by unfold FU; omega)
  by_cases c : q < R.length
  · have hq : R[q]? = some t := Classical.byContradiction fun z => q3 ⟨c, z⟩
    refine ⟨S, R, go _ (fun ag => ?_), hR, Or.inl ⟨List.mem_of_getElem? hq, rfl⟩⟩
    obtain ⟨r, e1, e2⟩ := stp q c ag
    rw [hq] at e1
    rw [e2, if_pos (Option.some.inj e1).symm]
  · have eq : q = R.length := by omega
    subst eq
    have nt' : ¬ t ∈ R := fun z => by
      obtain ⟨j, hj, e⟩ := List.getElem_of_mem z
      exact (q2 j hj).2 (by rw [List.getElem?_eq_getElem hj, e])
    refine ⟨upd S R.length (Int32.ofNat t.length), R ++ [t], go _ (fun ag => ?_), fun m r hm => ?_, Or.inr ⟨nt', rfl⟩⟩
    · unfold B_X9_meets_96 K_X9_meets_96_184
      rw [if_pos ((n_le (by omega) (by omega)).mpr (Nat.le_refl _)), ck_n (by omega) (by omega), n_clamp (by omega), ej, List.length_append, List.length_singleton]
    · have hk := (List.getElem?_eq_some_iff.mp hm).1
      rw [List.length_append, List.length_singleton] at hk
      by_cases d : m < R.length
      · rw [List.getElem?_append_left d] at hm
        obtain ⟨a, b⟩ := hR m r hm
        exact ⟨a, by rw [upd_e, if_neg (by omega)]; exact b⟩
      · have e : m = R.length := by omega
        subst e
        rw [List.getElem?_append_right (Nat.le_refl _), Nat.sub_self] at hm
        have e2 : t = r := Option.some.inj hm
        subst e2
        exact ⟨ht, by rw [upd_e, if_pos rfl]⟩
theorem Rep_same {M M' S : Nat → Int32} {R : List (List Nat)} (h : Rep M S R) (hl : ∀ r ∈ R, r.length < 12) (he : ∀ k, k < 12 * R.length → M' k = M k) : Rep M' S R := fun m r hm => by
  obtain ⟨a, b⟩ := h m r hm
  have hk := (List.getElem?_eq_some_iff.mp hm).1
  have hl2 := hl r (List.mem_of_getElem? hm)
  exact ⟨rA_same a (fun k hk2 => he _ (by omega)), b⟩
/-- a row is met: it is one of them then -/
theorem meets9 {M S : Nat → Int32} {R : List (List Nat)} {l : List Nat} (hR : Rep M S R) (hl : ∀ r ∈ R, r.length < 12 ∧ ∀ z ∈ r, z < 1000) (ht : rA M (12 * R.length) l) (tl : l.length < 12) (tb : ∀ z ∈ l, z < 1000) (hlen : R.length < 2000) :
    ∃ M' S' R' t, F_X9_meets (Int32.ofNat R.length) M S (Int32.ofNat (12 * R.length)) (Int32.ofNat l.length) = some (M', S', Int32.ofNat R'.length) ∧ Rep M' S' R' ∧ t.Perm l ∧ t.Pairwise (fun p q => p ≤ q) ∧ ((t ∈ R ∧ R' = R) ∨ (¬ t ∈ R ∧ R' = R ++ [t])) := by
  obtain ⟨f', t, p1, p2, p3, p4, e⟩ := mt_sort (o := 12 * R.length) (by omega) ht tl tb (Int32.ofNat R.length) S
  have hR' := Rep_same hR (fun r hr => (hl r hr).1) p4
  have pl := p1.length_eq
  obtain ⟨S', R', e2, r2, r3⟩ := srch9 hR' hl p3 (by omega) (fun z hz => tb z (p1.mem_iff.mp hz)) hlen
  rw [pl] at e2
  exact ⟨f', S', R', t, e.trans e2, r2, p1, p2, r3⟩
