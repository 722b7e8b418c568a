/-! A deed is settled (the class), ended (the model). -/
theorem ext_getD {l l' : List Nat} (h : l.length = l'.length) (hg : ∀ k, k < l.length → l.getD k 0 = l'.getD k 0) : l = l' := by
  refine List.ext_getElem h fun k h1 h2 => ?_
  have := hg k h1
  rw [List.getD_eq_getElem?_getD, List.getD_eq_getElem?_getD, List.getElem?_eq_getElem h1, List.getElem?_eq_getElem h2] at this
  exact this
theorem vt_lt {L : Nat} (h6 : L ≤ 6) : ∀ {ts : List Nat}, vt L ts = true → ∀ t ∈ ts, t < 64
  | [], _, t, ht => absurd ht List.not_mem_nil
  | u :: ts, h, t, ht => by
    rcases List.mem_cons.mp ht with rfl | h2
    · simp only [vt, Bool.and_eq_true] at h
      exact isSp_lt h6 h.1.1
    · exact vt_lt h6 (vt_tail h) t h2
theorem getD_mem {l : List Nat} {k : Nat} (h : k < l.length) : l.getD k 0 ∈ l := by
  rw [List.getD_eq_getElem?_getD, List.getElem?_eq_getElem h]
  exact List.getElem_mem h
theorem getD_le {l : List Nat} {B k : Nat} (h : ∀ d ∈ l, d ≤ B) : l.getD k 0 ≤ B := by
  by_cases hk : k < l.length
  · exact h _ (getD_mem hk)
  · rw [getD_of_ge (by omega)]; omega
theorem VD_tlt {a : AD} (h : VD a) (k : Nat) : a.2.2.2.getD k 0 ≤ 63 := getD_le (fun d hd => by have := vt_lt h.2.2.2.2.1 h.2.2.2.2.2 d hd; omega)
theorem AD_ext {a b : AD} (va : VD a) (vb : VD b) (h0 : Int32.ofNat a.1 = Int32.ofNat b.1) (h1 : Int32.ofNat a.2.1.length = Int32.ofNat b.2.1.length) (h2 : Int32.ofNat a.2.2.1 = Int32.ofNat b.2.2.1) (h3 : a.2.2.2 = b.2.2.2)
    (hp : ∀ k, k < a.2.1.length → Int32.ofNat (a.2.1.getD k 0) = Int32.ofNat (b.2.1.getD k 0)) : a = b := by
  obtain ⟨a0, a1, a2, a3⟩ := a
  obtain ⟨b0, b1, b2, b3⟩ := b
  have q1 := va.1; have q2 := vb.1; have q3 := va.2.1; have q4 := vb.2.1; have q5 := va.2.2.2.2.1; have q6 := vb.2.2.2.2.1
  simp only at h0 h1 h2 h3 hp q1 q2 q3 q4 q5 q6
  have e0 := (n_inj (by omega) (by omega)).mp h0
  have e1 := (n_inj (by omega) (by omega)).mp h1
  have e2 := (n_inj (by omega) (by omega)).mp h2
  have ep : a1 = b1 := ext_getD e1 fun k hk => by
    have m1 : a1.getD k 0 ≤ 12 := getD_le va.2.2.1
    have m2 : b1.getD k 0 ≤ 12 := getD_le vb.2.2.1
    exact (n_inj (by omega) (by omega)).mp (hp k hk)
  rw [e0, e2, ep, h3]
theorem KR_inj {f f' : Nat → Int32} {o o' : Nat} {a b : AD} (ha : KR f o a) (hb : KR f' o' b) (va : VD a) (vb : VD b) : (∀ k, k < 16 → f (o + k) = f' (o' + k)) ↔ a = b := by
  obtain ⟨a0, a1, a2, a3, ap, at_, a15⟩ := ha
  obtain ⟨b0, b1, b2, b3, bp, bt, b15⟩ := hb
  constructor
  · intro h
    have h0 := h 0 (by omega); have h1 := h 1 (by omega); have h2 := h 2 (by omega); have h3 := h 3 (by omega)
    rw [Nat.add_zero, Nat.add_zero, a0, b0] at h0
    rw [a1, b1] at h1; rw [a2, b2] at h2; rw [a3, b3] at h3
    have c1 := VD_tlen va; have c2 := VD_tlen vb
    have e3 := (n_inj (by omega) (by omega)).mp h3
    have n1 := va.2.1
    refine AD_ext va vb h0 h1 h2 (ext_getD e3 fun k hk => ?_) fun k hk => ?_
    · have q := h (12 + k) (by omega)
      rw [← Nat.add_assoc, ← Nat.add_assoc, at_ k (by omega), bt k (by omega)] at q
      have m1 := VD_tlt va k; have m2 := VD_tlt vb k
      exact (n_inj (by omega) (by omega)).mp q
    · have q := h (4 + k) (by omega)
      rw [← Nat.add_assoc, ← Nat.add_assoc, ap k (by omega), bp k (by omega)] at q
      exact q
  · rintro rfl k hk
    by_cases k4 : k < 4
    · rcases (show k = 0 ∨ k = 1 ∨ k = 2 ∨ k = 3 by omega) with rfl | rfl | rfl | rfl
      · rw [Nat.add_zero, Nat.add_zero, a0, b0]
      · rw [a1, b1]
      · rw [a2, b2]
      · rw [a3, b3]
    · by_cases k12 : k < 12
      · obtain ⟨j, rfl⟩ : ∃ j, k = 4 + j := ⟨k - 4, by omega⟩
        rw [← Nat.add_assoc, ← Nat.add_assoc, ap j (by omega), bp j (by omega)]
      · by_cases k15 : k < 15
        · obtain ⟨j, rfl⟩ : ∃ j, k = 12 + j := ⟨k - 12, by omega⟩
          rw [← Nat.add_assoc, ← Nat.add_assoc, at_ j (by omega), bt j (by omega)]
        · have : k = 15 := by omega
          subst this
          rw [a15, b15]
/-- the deeds that can be undone, behind one more -/
def stl (us : List AD) (cur : AD) : List AD := if us.length = 8 then us.tail ++ [cur] else us ++ [cur]
theorem lay_bf {ah bf : Nat → Int32} {o : Nat} {R : Type} (r : (Nat → Int32) → Option R) (B : (Nat → Int32) → Int32 → ((Nat → Int32) → Int32 → Option R) → Option R)
    (hstep : ∀ f j, j < 16 → ∀ ag, B f (Int32.ofNat j) ag = ag (upd f (o + j) (bf j)) (Int32.ofNat (j + 1))) (hexit : ∀ f ag, B f (16 : Int32) ag = r f) : wq2 B FU ah (0 : Int32) = r (layd ah o bf 16) := by
  have h0 : layd ah o bf 0 = ah := layd_0 ah o bf
  have key := wq2_it (B := B) 16 (fun j => layd ah o bf j) (fun j => Int32.ofNat j) (r := r (layd ah o bf 16)) (fun j hj ag => by
    rw [hstep _ j hj, layd_s]) (fun ag => hexit _ ag) FU (by unfold FU; omega)
  have k2 : wq2 B FU (layd ah o bf 0) (Int32.ofNat 0) = r (layd ah o bf 16) := key
  rw [h0] at k2
  exact k2
theorem KR_lay_bf {ah bf : Nat → Int32} {o : Nat} {a : AD} (h : KR bf 0 a) : KR (layd ah o bf 16) o a :=
  KR_congr (fun k hk => by unfold layd; rw [if_pos (by omega), Nat.zero_add]; congr 1; omega) h
theorem ends9 {g m l s done undone : Int32} {be mp mt bf ah : Nat → Int32} {us rs : List AD} {cur new : AD} (h : D9 g m l s mp mt new) (hv : VD new) (hvc : VD cur) (hb : KR bf 0 cur) (hH : H9 done undone ah be us rs) (hn : us.length + rs.length ≤ 8) :
    ∃ be' ah' un' do', F_X9_ends g m l s done undone be mp mt bf ah = some (be', ah', un', do') ∧ H9 do' un' ah' be' (if new = cur then us else stl us cur) (if new = cur then rs else []) := by
  obtain ⟨w1, w2, w3, w4, w5, w6⟩ := id h
  obtain ⟨y1, y2, y3, y4⟩ := hH
  unfold F_X9_ends
  rw [show (128 : Int32) = Int32.ofNat 128 from rfl, lays9 w2 w4 hv.2.1 (VD_tlen hv) (by omega) (by omega), bd_s]
  have hx := KR_lay (a0 := be) (o := 128) h hv
  generalize hx1 : layd be 128 (recA g m l s mp mt new.2.1.length new.2.2.2.length) 16 = x1 at hx ⊢
  have hoff : ∀ j b, 16 * j + 16 ≤ 128 → KR be (16 * j) b → KR x1 (16 * j) b := fun j b hj hk => by
    rw [← hx1]; exact KR_off (by omega) hk
  have hloop : wq2 (B_X9_ends_15 bf x1 (K_X9_ends_15_56 done undone bf ah x1)) FU (1 : Int32) (0 : Int32) = K_X9_ends_15_56 done undone bf ah x1 (if new = cur then 1 else 0) := by
    have key := wq2_it (B := B_X9_ends_15 bf x1 (K_X9_ends_15_56 done undone bf ah x1)) 16 (fun j => if (List.range j).all (fun i => decide (x1 (128 + i) = bf (0 + i))) = true then (1 : Int32) else 0) (fun j => Int32.ofNat j) (r := K_X9_ends_15_56 done undone bf ah x1 (if new = cur then 1 else 0)) (fun j hj ag => by
      unfold B_X9_ends_15
      have q : ¬ ((16 : Int32) ≤ Int32.ofNat j) := c_ge (m := 16) (by omega) (by omega) hj
      have ea : ∀ j, Int32.ofNat j + (1 : Int32) = Int32.ofNat (j + 1) := fun j => n_add j 1
      have eb : (128 : Int32) + Int32.ofNat j = Int32.ofNat (128 + j) := n_add 128 j
      have er : (List.range (j + 1)).all (fun i => decide (x1 (128 + i) = bf (0 + i))) = ((List.range j).all (fun i => decide (x1 (128 + i) = bf (0 + i))) && decide (x1 (128 + j) = bf (0 + j))) := by
        rw [List.range_succ, List.all_append]; simp
      rw [if_neg q, ea, eb, er]
      by_cases c : (List.range j).all (fun i => decide (x1 (128 + i) = bf (0 + i))) = true
      · rw [c, if_pos rfl, if_neg i10, ck_n (by omega) (by omega), ck_n hj (by omega), n_clamp (by omega), n_clamp (by omega), Bool.true_and, Nat.zero_add]
        by_cases d : x1 (128 + j) = bf j
        · rw [if_pos d, decide_eq_true d, if_pos rfl]
        · rw [if_neg d, decide_eq_false d, if_neg (by decide)]
      · rw [if_neg c, if_pos i00, Bool.eq_false_iff.mpr c, Bool.false_and, if_neg (by decide)])
      (fun ag => by
        unfold B_X9_ends_15
        have hk : (List.range 16).all (fun i => decide (x1 (128 + i) = bf (0 + i))) = true ↔ new = cur := by
          rw [← KR_inj hx hb hv hvc]
          simp only [List.all_eq_true, List.mem_range, decide_eq_true_eq]
        rw [if_pos (by decide)]
        by_cases c : new = cur
        · rw [if_pos (hk.mpr c), if_pos c]
        · rw [if_neg (fun q => c (hk.mp q)), if_neg c]) FU (by unfold FU; omega)
    exact key
  rw [hloop]
  unfold K_X9_ends_15_56
  by_cases c : new = cur
  · rw [if_pos c, if_neg i10, if_pos c, if_pos c]
    exact ⟨_, _, _, _, rfl, y1, y2, y3, fun j b hj => hoff j b (by have := (List.getElem?_eq_some_iff.mp hj).1; simp at this; omega) (y4 j b hj)⟩
  · rw [if_neg c, if_pos i00, if_neg c, if_neg c]
    have e1 : ∀ j, Int32.ofNat j + (1 : Int32) = Int32.ofNat (j + 1) := fun j => n_add j 1
    by_cases d : us.length = 8
    · have d1 : done = (8 : Int32) := by rw [y1, d]; rfl
      rw [if_pos d1]
      have hsh : wq2 (B_X9_ends_72 (K_X9_ends_72_99 done bf x1)) FU ah (0 : Int32) = K_X9_ends_72_99 done bf x1 (fun k => if k < 112 then ah (k + 16) else ah k) := by
        have e0 : (fun k => if k < 0 then ah (k + 16) else ah k) = ah := by funext k; simp
        have key := wq2_it (B := B_X9_ends_72 (K_X9_ends_72_99 done bf x1)) 112 (fun j k => if k < j then ah (k + 16) else ah k) (fun j => Int32.ofNat j) (r := K_X9_ends_72_99 done bf x1 (fun k => if k < 112 then ah (k + 16) else ah k)) (fun j hj ag => by
          unfold B_X9_ends_72
          have q : ¬ ((112 : Int32) ≤ Int32.ofNat j) := c_ge (m := 112) (by omega) (by omega) hj
          have e16 : Int32.ofNat j + (16 : Int32) = Int32.ofNat (j + 16) := n_add j 16
          rw [if_neg q, e16, e1, ck_n (by omega) (by omega), ck_n (by omega) (by omega), n_clamp (by omega), n_clamp (by omega)]
          congr 1
          funext k
          rw [upd_e]
          dsimp only
          rw [if_neg (show ¬ (j + 16 < j) by omega)]
          by_cases e : k = j
          · subst e; rw [if_pos rfl, if_pos (by omega)]
          · rw [if_neg e]
            by_cases z : k < j
            · rw [if_pos z, if_pos (by omega)]
            · rw [if_neg z, if_neg (by omega)]) (fun ag => by unfold B_X9_ends_72; rw [if_pos (by decide)]) FU (by unfold FU; omega)
        have k2 : wq2 (B_X9_ends_72 (K_X9_ends_72_99 done bf x1)) FU (fun k => if k < 0 then ah (k + 16) else ah k) (Int32.ofNat 0) = K_X9_ends_72_99 done bf x1 (fun k => if k < 112 then ah (k + 16) else ah k) := key
        rw [e0] at k2
        exact k2
      rw [hsh]
      unfold K_X9_ends_72_99
      have ed : (done - (1 : Int32)) * (16 : Int32) = Int32.ofNat 112 := by rw [d1]; decide
      rw [lay_bf (o := 112) (fun f => K_X9_ends_111_143x1 done x1 f) (B_X9_ends_111x1 done bf (K_X9_ends_111_143x1 done x1)) (fun f j hj ag => by
        unfold B_X9_ends_111x1
        have q : ¬ ((16 : Int32) ≤ Int32.ofNat j) := c_ge (m := 16) (by omega) (by omega) hj
        rw [if_neg q, ed, n_add, e1, ck_n hj (by omega), ck_n (by omega) (by omega), n_clamp (by omega), n_clamp (by omega)]) (fun f ag => by unfold B_X9_ends_111x1; rw [if_pos (by decide)])]
      refine ⟨_, _, _, _, rfl, ?_, rfl, fun j b hj => ?_, fun j b hj => by simp at hj⟩
      · rw [d1]; unfold stl; rw [if_pos d]; simp [d]
      · unfold stl at hj
        rw [if_pos d] at hj
        by_cases z : j < 7
        · rw [List.getElem?_append_left (by simp [d]; omega), List.getElem?_tail] at hj
          refine KR_off (by omega) (KR_congr (f := ah) (o := 16 * (j + 1)) (fun k hk => ?_) (y3 (j + 1) b hj))
          show (if 16 * j + k < 112 then ah (16 * j + k + 16) else ah (16 * j + k)) = _
          rw [if_pos (by omega)]; exact congrArg ah (by omega)
        · have hj3 : j = 7 := by
            have := (List.getElem?_eq_some_iff.mp hj).1
            simp [d] at this; omega
          subst hj3
          have : b = cur := by
            rw [List.getElem?_append_right (by simp [d])] at hj
            simpa [d] using hj.symm
          subst this
          exact KR_lay_bf hb
    · have d1 : ¬ (done = (8 : Int32)) := by
        rw [y1]; intro q
        exact d ((n_inj (b := 8) (by omega) (by omega)).mp q)
      rw [if_neg d1]
      have ed : done * (16 : Int32) = Int32.ofNat (16 * us.length) := by rw [y1, mul16]
      rw [lay_bf (o := 16 * us.length) (fun f => K_X9_ends_111_143 done x1 f) (B_X9_ends_111 done bf (K_X9_ends_111_143 done x1)) (fun f j hj ag => by
        unfold B_X9_ends_111
        have q : ¬ ((16 : Int32) ≤ Int32.ofNat j) := c_ge (m := 16) (by omega) (by omega) hj
        rw [if_neg q, ed, n_add, e1, ck_n hj (by omega), ck_n (by omega) (by omega), n_clamp (by omega), n_clamp (by omega)]) (fun f ag => by unfold B_X9_ends_111; rw [if_pos (by decide)])]
      refine ⟨_, _, _, _, rfl, ?_, rfl, fun j b hj => ?_, fun j b hj => by simp at hj⟩
      · rw [y1, e1]; unfold stl; rw [if_neg d]; simp
      · unfold stl at hj
        rw [if_neg d] at hj
        by_cases z : j < us.length
        · rw [List.getElem?_append_left z] at hj
          exact KR_off (by omega) (y3 j b hj)
        · have hj3 : j = us.length := by
            have := (List.getElem?_eq_some_iff.mp hj).1
            simp at this; omega
          subst hj3
          have : b = cur := by
            rw [List.getElem?_append_right (by omega)] at hj
            simpa using hj.symm
          subst this
          exact KR_lay_bf hb
noncomputable def chkN (ts : List Nat) : Bool := (List.range 4).all (fun k => decide (F_X6_nth (tr64 ts) (Int32.ofNat k) = some (if k < ts.length then Int32.ofNat (ts.getD k 0) else (-1 : Int32))))
theorem nth_all : (allT 3).all chkN = true ∧ (allT 4).all chkN = true ∧ (allT 5).all chkN = true ∧ (allT 6).all chkN = true := by decide +kernel
theorem nth8 {L : Nat} (h3 : 3 ≤ L) (h6 : L ≤ 6) {ts : List Nat} (h : vt L ts = true) {k : Nat} (hk : k < 4) : F_X6_nth (tr64 ts) (Int32.ofNat k) = some (if k < ts.length then Int32.ofNat (ts.getD k 0) else (-1 : Int32)) := by
  have h1 := all_L h3 h6 h nth_all
  have h2 := List.all_eq_true.mp h1 k (List.mem_range.mpr hk)
  exact of_decide_eq_true h2
theorem tr64_inj {a b : AD} (va : VD a) (vb : VD b) (h : tr64 a.2.2.2 = tr64 b.2.2.2) : a.2.2.2 = b.2.2.2 := by
  have s1 := VD_size va
  have s2 := VD_size vb
  have c1 := VD_tlen va; have c2 := VD_tlen vb
  rw [h, s2] at s1
  have e := (n_inj (by omega) (by omega)).mp (Option.some.inj s1)
  refine (ext_getD e fun k hk => ?_).symm
  have q1 := nth8 va.2.2.2.1 va.2.2.2.2.1 va.2.2.2.2.2 (k := k) (by omega)
  have q2 := nth8 vb.2.2.2.1 vb.2.2.2.2.1 vb.2.2.2.2.2 (k := k) (by omega)
  rw [h, q2, if_pos hk, if_pos (by omega)] at q1
  have m1 := VD_tlt va k; have m2 := VD_tlt vb k
  exact (n_inj (by omega) (by omega)).mp (Option.some.inj q1)
/-- at how many of the first n places two rows are unlike -/
def ucnt (f g : Nat → Int32) (n : Nat) : Nat := ((List.range n).filter (fun k => !decide (f k = g k))).length
theorem ucnt_s (f g : Nat → Int32) (n : Nat) : ucnt f g (n + 1) = ucnt f g n + if f n = g n then 0 else 1 := by
  unfold ucnt
  rw [List.range_succ, List.filter_append, List.length_append]
  congr 1
  by_cases c : f n = g n
  · rw [if_pos c]; simp [c]
  · rw [if_neg c]; simp [c]
theorem ucnt_le (f g : Nat → Int32) (n : Nat) : ucnt f g n ≤ n := by
  unfold ucnt
  have := List.length_filter_le (fun k => !decide (f k = g k)) (List.range n)
  rw [List.length_range] at this
  exact this
theorem ucnt_0 {f g : Nat → Int32} {n : Nat} : ucnt f g n = 0 ↔ ∀ k, k < n → f k = g k := by
  induction n with
  | zero => simp [ucnt]
  | succ n ih =>
    rw [ucnt_s]
    constructor
    · intro h k hk
      by_cases c : f n = g n
      · rw [if_pos c] at h
        by_cases e : k = n
        · rw [e]; exact c
        · exact ih.mp (by omega) k (by omega)
      · rw [if_neg c] at h; omega
    · intro h
      rw [if_pos (h n (by omega)), ih.mpr fun k hk => h k (by omega)]
theorem unlike8 {n : Nat} (hn : n ≤ 8) (pa pb : Nat → Int32) : F_X1_unlikePowers (Int32.ofNat n) (Int32.ofNat n) pa pb = some (Int32.ofNat (ucnt pa pb n)) := by
  unfold F_X1_unlikePowers
  refine wq2_it n (fun j => Int32.ofNat (ucnt pa pb j)) (fun j => Int32.ofNat j) (fun j hj ag => ?_) (fun ag => ?_) FU (by unfold FU; omega)
  · unfold B_X1_unlikePowers_4
    have e1 : ∀ j, Int32.ofNat j + (1 : Int32) = Int32.ofNat (j + 1) := fun j => n_add j 1
    rw [if_neg (c_ge (by omega) (by omega) hj), if_neg (c_ge (by omega) (by omega) hj), powerAt8 (by omega), bd_s, powerAt8 (by omega), bd_s, e1, e1, ucnt_s]
    by_cases c : pa j = pb j
    · rw [if_pos c, if_pos c]; rfl
    · rw [if_neg c, if_neg c]
  · unfold B_X1_unlikePowers_4
    rw [if_pos ((n_le (by omega) (by omega)).mpr (Nat.le_refl n))]
    rfl
theorem isLike8 {g s l g' s' l' : Int32} {t t' : Int64} {pw pw' : Nat → Int32} {a b : AD} (ha : D8 g s l t pw a) (hb : D8 g' s' l' t' pw' b) (va : VD a) (vb : VD b) : F_X1_isLike g s l t g' s' l' t' pw pw' = some (if a = b then 1 else 0) := by
  obtain ⟨rfl, rfl, rfl, rfl, hp⟩ := ha
  obtain ⟨rfl, rfl, rfl, rfl, hq⟩ := hb
  have n8 := va.2.1
  have m8 := vb.2.1
  unfold F_X1_isLike
  by_cases c : a = b
  · subst c
    have e : ucnt pw pw' a.2.1.length = 0 := ucnt_0.mpr fun k hk => (hp k hk).trans (hq k hk).symm
    rw [if_pos rfl, if_pos rfl, if_pos ((lg_cmp_eq _ _).mpr rfl), if_pos rfl, unlike8 n8, bd_s, e, if_pos rfl]; rfl
  · rw [if_neg c]
    by_cases h0 : Int32.ofNat a.1 = Int32.ofNat b.1
    · rw [if_pos h0]
      by_cases h2 : Int32.ofNat a.2.2.1 = Int32.ofNat b.2.2.1
      · rw [if_pos h2]
        by_cases h3 : lg_cmp (tr64 a.2.2.2) (tr64 b.2.2.2) = 0
        · rw [if_pos h3]
          have h3 := tr64_inj va vb ((lg_cmp_eq _ _).mp h3)
          by_cases h1 : Int32.ofNat a.2.1.length = Int32.ofNat b.2.1.length
          · have e1 := (n_inj (by omega) (by omega)).mp h1
            rw [if_pos h1, ← e1, unlike8 n8, bd_s, if_neg]
            intro q
            have l1 := ucnt_le pw pw' a.2.1.length
            have q0 := (n_inj (b := 0) (by omega) (by omega)).mp q
            exact c (AD_ext va vb h0 h1 h2 h3 fun k hk => by rw [← hp k hk, ← hq k (by omega)]; exact ucnt_0.mp q0 k hk)
          · rw [if_neg h1]
        · rw [if_neg h3]
      · rw [if_neg h2]
    · rw [if_neg h0]
theorem va_up_e {α : Type} (f : Nat → α) (k j : Nat) (v : α) : va_up f k v j = if j = k then v else f j := rfl
theorem rot9_lt {α : Type} (f : Nat → α) {j : Nat} (h : j < 8) : rot9 f j = f (j + 1) := by unfold rot9; rw [if_pos h]
theorem settle8 {now last g s l : Int32} {t : Int64} {pw : Nat → Int32} {fp : Nat → Nat → Int32} {fg fs fl : Nat → Int32} {ft : Nat → Int64} {us rs : List AD} {cur new : AD} (d q : Nat → Nat) (hH : H8 now last fp fg fs fl ft us cur rs) (h : D8 g s l t pw new) (hv : ∀ a ∈ us ++ cur :: rs, VD a) (hvn : VD new) :
    ∃ now' last' fp' d' fg' fl' q' fs' ft', F_X0_settle d q fp fg fs fl ft now last g s l t pw = some (now', last', fp', d', fg', fl', q', fs', ft') ∧ H8 now' last' fp' fg' fs' fl' ft' (if new = cur then us else stl us cur) new (if new = cur then rs else []) := by
  obtain ⟨z1, z2, z3, z4⟩ := id hH
  have hVc : VD cur := hv cur (by simp)
  have hcur := z4 us.length cur (by simp)
  unfold F_X0_settle
  rw [z1, present8 (by omega), bd_s, isLike8 h hcur hvn hVc, bd_s]
  by_cases c : new = cur
  · rw [if_pos c, if_neg i10, if_pos c, if_pos c, c]
    exact ⟨_, _, _, _, _, _, _, _, _, rfl, rfl, z2, z3, z4⟩
  · rw [if_neg c, if_pos i00, if_neg c, if_neg c]
    unfold J_X0_settle_12
    by_cases e : us.length < 8
    · have e1 : Int32.ofNat us.length < (8 : Int32) := (n_lt (b := 8) (by omega) (by omega)).mpr e
      have e2 : Int32.ofNat us.length + (1 : Int32) = Int32.ofNat (us.length + 1) := n_add _ 1
      rw [if_pos e1]
      unfold J_X0_settle_25
      rw [e2, present8 (by omega), bd_s, copyFrom8, bd_s]
      refine ⟨_, _, _, _, _, _, _, _, _, rfl, ?_⟩
      unfold stl
      rw [if_neg (by omega)]
      refine ⟨by simp, by simp, by simp; omega, fun j a hj => ?_⟩
      by_cases k : j = us.length + 1
      · subst k
        have : a = new := by
          rw [List.getElem?_append_right (by simp)] at hj
          simpa using hj.symm
        subst this
        simp only [va_up_e, if_true]
        exact D8_copy h hvn
      · have hl := (List.getElem?_eq_some_iff.mp hj).1
        simp at hl
        simp only [va_up_e, if_neg k]
        refine z4 j a ?_
        rw [List.append_assoc] at hj
        by_cases k2 : j < us.length
        · rw [List.getElem?_append_left k2] at hj ⊢; exact hj
        · have : j = us.length := by omega
          subst this
          rw [List.getElem?_append_right (by omega)] at hj ⊢
          simpa using hj
    · have e0 : us.length = 8 := by omega
      have e1 : ¬ (Int32.ofNat us.length < (8 : Int32)) := fun z => e ((n_lt (b := 8) (by omega) (by omega)).mp z)
      have e2 : Int32.ofNat us.length - (1 : Int32) + (1 : Int32) = Int32.ofNat 8 := by rw [e0]; decide
      rw [if_neg e1]
      unfold F_X0_dropOldest
      rw [bd_s]
      unfold J_X0_settle_25
      dsimp only
      rw [e2, present8 (by omega), bd_s, copyFrom8, bd_s]
      refine ⟨_, _, _, _, _, _, _, _, _, rfl, ?_⟩
      unfold stl
      rw [if_pos e0]
      refine ⟨by simp [e0], by simp [e0], by simp [e0], fun j a hj => ?_⟩
      by_cases k : j = 8
      · subst k
        have : a = new := by
          rw [List.getElem?_append_right (by simp [e0])] at hj
          simpa [e0] using hj.symm
        subst this
        simp only [va_up_e, if_true]
        exact D8_copy h hvn
      · have hl := (List.getElem?_eq_some_iff.mp hj).1
        simp [e0] at hl
        simp only [va_up_e, if_neg k]
        rw [rot9_lt _ (by omega), rot9_lt _ (by omega), rot9_lt _ (by omega), rot9_lt _ (by omega), rot9_lt _ (by omega)]
        refine z4 (j + 1) a ?_
        rw [List.append_assoc] at hj
        by_cases k2 : j < 7
        · rw [List.getElem?_append_left (by simp [e0]; omega), List.getElem?_tail] at hj
          rw [List.getElem?_append_left (by omega)]; exact hj
        · have : j = 7 := by omega
          subst this
          rw [List.getElem?_append_right (by simp [e0])] at hj
          rw [List.getElem?_append_right (by omega)]
          simpa [e0] using hj
theorem stl_V {us rs : List AD} {cur new : AD} (hv : ∀ a ∈ us ++ cur :: rs, VD a) (hvn : VD new) : ∀ a ∈ (if new = cur then us else stl us cur) ++ new :: (if new = cur then rs else []), VD a := by
  by_cases c : new = cur
  · rw [if_pos c, if_pos c, c]; exact hv
  · rw [if_neg c, if_neg c]
    intro a ha
    rcases List.mem_append.mp ha with ha | ha
    · unfold stl at ha
      by_cases e : us.length = 8
      · rw [if_pos e] at ha
        rcases List.mem_append.mp ha with ha | ha
        · exact hv a (List.mem_append_left _ (List.mem_of_mem_tail ha))
        · rw [List.mem_singleton.mp ha]; exact hv cur (by simp)
      · rw [if_neg e] at ha
        rcases List.mem_append.mp ha with ha | ha
        · exact hv a (List.mem_append_left _ ha)
        · rw [List.mem_singleton.mp ha]; exact hv cur (by simp)
    · rw [List.mem_singleton.mp ha]; exact hvn
