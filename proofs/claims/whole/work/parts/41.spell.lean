/-! The text of a desk is written. -/
theorem app_lp {R : Type} {B : (Nat → Int32) → Int32 → Int32 → ((Nat → Int32) → Int32 → Int32 → Option R) → Option R} (kk : (Nat → Int32) → Int32 → Option R) (N : Nat) (hN : N < 6000) (A : Nat → List Nat)
    (step : ∀ j, j < N → ∀ f, rp f (A j) → ∃ f', rp f' (A (j + 1)) ∧ ∀ ag, B f (Int32.ofNat (A j).length) (Int32.ofNat j) ag = ag f' (Int32.ofNat (A (j + 1)).length) (Int32.ofNat (j + 1)))
    (exit : ∀ f ag, B f (Int32.ofNat (A N).length) (Int32.ofNat N) ag = kk f (Int32.ofNat (A N).length)) {f : Nat → Int32} {n : Int32} (hn : n = Int32.ofNat (A 0).length) (h0 : rp f (A 0)) :
    ∃ f', rp f' (A N) ∧ wq3 B FU f n (0 : Int32) = kk f' (Int32.ofNat (A N).length) := by
  subst hn
  refine wq3_inv (B := B) N (fun j f n i => i = Int32.ofNat j ∧ n = Int32.ofNat (A j).length ∧ rp f (A j)) (fun r => ∃ f', rp f' (A N) ∧ r = kk f' (Int32.ofNat (A N).length)) (fun j hj f n i hI => ?_) (fun f n i hI => ?_) FU (by unfold FU; omega) f _ 0 ⟨rfl, rfl, h0⟩
  · obtain ⟨rfl, rfl, hf⟩ := hI
    obtain ⟨f', h1, h2⟩ := step j hj f hf
    exact Or.inl ⟨f', _, _, ⟨rfl, rfl, h1⟩, h2⟩
  · obtain ⟨rfl, rfl, hf⟩ := hI
    exact ⟨_, ⟨f, hf, rfl⟩, fun ag => exit f ag⟩
theorem rp_push {f : Nat → Int32} {l : List Nat} (h : rp f l) (d : Nat) : rp (upd f l.length (Int32.ofNat d)) (l ++ [d]) := D_rp (push_D (rp_D h))
theorem len1 (l : List Nat) (d : Nat) : Int32.ofNat l.length + (1 : Int32) = Int32.ofNat (l ++ [d]).length := by
  rw [List.length_append, List.length_singleton]; exact n_add _ 1
theorem addB8 {f : Nat → Int32} {l : List Nat} (h : rp f l) (hl : l.length < 39) (d : Nat) : ∃ f', F_X5_addByte (Int32.ofNat l.length) f (Int32.ofNat d) = some (f', Int32.ofNat (l ++ [d]).length) ∧ rp f' (l ++ [d]) := by
  refine ⟨_, ?_, rp_push h d⟩
  unfold F_X5_addByte
  rw [if_neg (show ¬ (39 : Int32) ≤ Int32.ofNat l.length from c_ge (m := 39) (by omega) (by omega) hl), ck_n hl (by omega), n_clamp (by omega), len1 l d]
theorem addF8 {f : Nat → Int32} {l : List Nat} (h : rp f l) (hl : l.length < 39) (d : Nat) : ∃ f', F_X5_addFigure (Int32.ofNat l.length) f (Int32.ofNat d) = some (f', Int32.ofNat (l ++ [48 + d]).length) ∧ rp f' (l ++ [48 + d]) := by
  obtain ⟨f', e, r⟩ := addB8 h hl (48 + d)
  refine ⟨f', ?_, r⟩
  unfold F_X5_addFigure
  have e48 : (48 : Int32) + Int32.ofNat d = Int32.ofNat (48 + d) := n_add 48 d
  rw [e48, e, bd_s]
theorem wr9 {f : Nat → Int32} {l : List Nat} (h : rp f l) (hl : l.length < 80) (d : Nat) : ∃ f', F_X9_writes (Int32.ofNat l.length) f (Int32.ofNat d) = some (f', Int32.ofNat (l ++ [d]).length) ∧ rp f' (l ++ [d]) := by
  refine ⟨_, ?_, rp_push h d⟩
  unfold F_X9_writes
  rw [ck_n hl (by omega), n_clamp (by omega), len1 l d]
def pwT (d : Nat) : List Nat := (if d < 10 then [] else [49]) ++ [48 + d % 10]
theorem ten12 : ∀ d, d < 13 → Int32.ofNat d / (10 : Int32) = Int32.ofNat (d / 10) ∧ Int32.ofNat d - Int32.ofNat d / (10 : Int32) * (10 : Int32) = Int32.ofNat (d % 10) := by decide
theorem addP8 {f : Nat → Int32} {l : List Nat} (h : rp f l) (hl : l.length + 1 < 39) {d : Nat} (hd : d ≤ 12) : ∃ f', F_X5_addPower (Int32.ofNat l.length) f (Int32.ofNat d) = some (f', Int32.ofNat (l ++ pwT d).length) ∧ rp f' (l ++ pwT d) := by
  obtain ⟨t1, t2⟩ := ten12 d (by omega)
  unfold F_X5_addPower J_X5_addPower_14
  by_cases c : d < 10
  · have c1 : Int32.ofNat d < (10 : Int32) := (n_lt (b := 10) (by omega) (by omega)).mpr c
    obtain ⟨f', e, r⟩ := addF8 h (by omega) (d % 10)
    have ep : pwT d = [48 + d % 10] := by unfold pwT; rw [if_pos c]; rfl
    refine ⟨f', ?_, by rw [ep]; exact r⟩
    rw [if_pos c1, t2, e, bd_s, ep]
  · have c1 : ¬ Int32.ofNat d < (10 : Int32) := fun z => c ((n_lt (b := 10) (by omega) (by omega)).mp z)
    obtain ⟨f1, e1, r1⟩ := addF8 h (by omega) (d / 10)
    rw [show 48 + d / 10 = 49 by omega] at e1 r1
    obtain ⟨f', e, r⟩ := addF8 r1 (by rw [List.length_append, List.length_singleton]; omega) (d % 10)
    have ep : l ++ pwT d = l ++ [49] ++ [48 + d % 10] := by unfold pwT; rw [if_neg c, List.append_assoc]
    refine ⟨f', ?_, by rw [ep]; exact r⟩
    rw [if_neg c1, t2, t1, e1, bd_s]
    dsimp only
    rw [e, bd_s, ep]
/-- figures of the leaves below j that a split has -/
def fgs (s j : Nat) : List Nat := ((List.range j).filter (fun k => s.testBit k)).map (fun k => 48 + k)
theorem fgs_s (s j : Nat) : fgs s (j + 1) = fgs s j ++ if s.testBit j = true then [48 + j] else [] := by
  unfold fgs
  rw [List.range_succ, List.filter_append, List.map_append]
  congr 1
  by_cases c : s.testBit j = true
  · rw [if_pos c, List.filter_cons_of_pos c]; rfl
  · rw [if_neg c, List.filter_cons_of_neg c]; rfl
theorem fgs_len (s j : Nat) : (fgs s j).length ≤ j := by
  unfold fgs
  rw [List.length_map]
  have := List.length_filter_le (fun k => s.testBit k) (List.range j)
  rw [List.length_range] at this; exact this
theorem fgs_ge {s L : Nat} (hs : s < 2 ^ L) : ∀ d, fgs s (L + d) = fgs s L
  | 0 => rfl
  | d + 1 => by
    have h : ¬ s.testBit (L + d) = true := by
      have := Nat.testBit_lt_two_pow (x := s) (i := L + d) (Nat.lt_of_lt_of_le hs (Nat.pow_le_pow_right (by omega) (by omega)))
      rw [this]; simp
    rw [show L + (d + 1) = L + d + 1 by omega, fgs_s, if_neg h, List.append_nil, fgs_ge hs d]
theorem bit6 : ∀ s, s < 64 → ∀ k, k < 6 → (Int32.ofNat s >>> (Int32.ofNat k &&& 31)) &&& (1 : Int32) = if s.testBit k = true then 1 else 0 := by decide +kernel
theorem fgs_up (s : Nat) {j : Nat} : ∀ d, (fgs s j).length ≤ (fgs s (j + d)).length
  | 0 => Nat.le_refl _
  | d + 1 => by
    have := fgs_up s (j := j) d
    rw [show j + (d + 1) = j + d + 1 by omega, fgs_s, List.length_append]; omega
theorem addS8 {f : Nat → Int32} {l : List Nat} (h : rp f l) {s : Nat} (hl : l.length + (fgs s 6).length < 39) (hs : s < 64) : ∃ f', F_X5_addSplit (Int32.ofNat l.length) f (Int32.ofNat s) = some (f', Int32.ofNat (l ++ 59 :: fgs s 6).length) ∧ rp f' (l ++ 59 :: fgs s 6) := by
  obtain ⟨f1, e1, r1⟩ := addB8 h (by omega) 59
  have e1' : F_X5_addByte (Int32.ofNat l.length) f (59 : Int32) = some (f1, Int32.ofNat (l ++ [59]).length) := e1
  obtain ⟨f2, r2, e2⟩ := app_lp (B := B_X5_addSplit_8 (Int32.ofNat s) K_X5_addSplit_8_33) K_X5_addSplit_8_33 6 (by omega) (fun j => l ++ 59 :: fgs s j) (fun j hj f hf => by
    have ej : Int32.ofNat j + (1 : Int32) = Int32.ofNat (j + 1) := n_add j 1
    have c6 : ¬ (6 : Int32) ≤ Int32.ofNat j := c_ge (m := 6) (by omega) (by omega) hj
    have ea : l ++ 59 :: fgs s (j + 1) = (l ++ 59 :: fgs s j) ++ if s.testBit j = true then [48 + j] else [] := by rw [fgs_s]; simp
    by_cases c : s.testBit j = true
    · rw [if_pos c] at ea
      have hlj : (l ++ 59 :: fgs s j).length < 39 := by
        have h1 := fgs_up s (j := j + 1) (5 - j)
        rw [show j + 1 + (5 - j) = 6 by omega, fgs_s, if_pos c, List.length_append, List.length_singleton] at h1
        rw [List.length_append, List.length_cons]; omega
      obtain ⟨f', e, r⟩ := addF8 hf hlj j
      refine ⟨f', by rw [ea]; exact r, fun ag => ?_⟩
      unfold B_X5_addSplit_8
      rw [if_neg c6, bit6 s hs j hj, if_pos c, if_neg i10, e, bd_s, ej, ea]
    · rw [if_neg c, List.append_nil] at ea
      refine ⟨f, by rw [ea]; exact hf, fun ag => ?_⟩
      unfold B_X5_addSplit_8
      rw [if_neg c6, bit6 s hs j hj, if_neg c, if_pos i00, ej, ea]) (fun f ag => by
    unfold B_X5_addSplit_8
    rw [if_pos (by decide)]) (f := f1) (n := Int32.ofNat (l ++ [59]).length) rfl r1
  refine ⟨f2, ?_, r2⟩
  unfold F_X5_addSplit
  rw [e1', bd_s, e2]; rfl
def msT (ms : List Nat) (j : Nat) : List Nat := (List.range j).flatMap (fun i => (if i = 0 then [] else [44]) ++ pwT (ms.getD i 0))
theorem msT_s (ms : List Nat) (j : Nat) : msT ms (j + 1) = msT ms j ++ ((if j = 0 then [] else [44]) ++ pwT (ms.getD j 0)) := by
  unfold msT
  rw [List.range_succ, List.flatMap_append]
  simp
theorem pwT_len (d : Nat) : (pwT d).length ≤ 2 := by
  unfold pwT
  by_cases c : d < 10
  · rw [if_pos c]; simp
  · rw [if_neg c]; simp
theorem msT_len (ms : List Nat) : ∀ j, (msT ms j).length ≤ 3 * j
  | 0 => Nat.le_refl _
  | j + 1 => by
    have h := msT_len ms j
    have h2 := pwT_len (ms.getD j 0)
    rw [msT_s, List.length_append, List.length_append]
    by_cases c : j = 0
    · rw [if_pos c, List.length_nil]; omega
    · rw [if_neg c, List.length_singleton]; omega
theorem msT_len1 (ms : List Nat) : ∀ j, (msT ms j).length ≤ 3 * j - 1
  | 0 => Nat.le_refl _
  | j + 1 => by
    have h := msT_len1 ms j
    have h2 := pwT_len (ms.getD j 0)
    rw [msT_s, List.length_append, List.length_append]
    by_cases c : j = 0
    · rw [if_pos c, List.length_nil]; omega
    · rw [if_neg c, List.length_singleton]; omega
def spT (ts : List Nat) (j : Nat) : List Nat := (List.range j).flatMap (fun i => 59 :: fgs (ts.getD i 0) 6)
theorem spT_s (ts : List Nat) (j : Nat) : spT ts (j + 1) = spT ts j ++ 59 :: fgs (ts.getD j 0) 6 := by
  unfold spT
  rw [List.range_succ, List.flatMap_append]
  simp
theorem fgs4 : ∀ s, s < 64 → isSp 3 s = true ∨ isSp 4 s = true ∨ isSp 5 s = true ∨ isSp 6 s = true → (fgs s 6).length ≤ 4 := by decide +kernel
theorem vt_sp {L : Nat} : ∀ {ts : List Nat}, vt L ts = true → ∀ t ∈ ts, isSp L t = true
  | [], _, t, ht => absurd ht List.not_mem_nil
  | u :: ts, h, t, ht => by
    rcases List.mem_cons.mp ht with rfl | ht
    · simp only [vt, Bool.and_eq_true] at h; exact h.1.1
    · exact vt_sp (vt_tail h) t ht
theorem fgs_le {L : Nat} (h3 : 3 ≤ L) (h6 : L ≤ 6) {s : Nat} (h : isSp L s = true) : (fgs s 6).length ≤ 4 := by
  refine fgs4 s (isSp_lt h6 h) ?_
  rcases (show L = 3 ∨ L = 4 ∨ L = 5 ∨ L = 6 by omega) with rfl | rfl | rfl | rfl
  · exact Or.inl h
  · exact Or.inr (Or.inl h)
  · exact Or.inr (Or.inr (Or.inl h))
  · exact Or.inr (Or.inr (Or.inr h))
theorem spT_len {L : Nat} (h3 : 3 ≤ L) (h6 : L ≤ 6) {ts : List Nat} (hv : vt L ts = true) : ∀ j, j ≤ ts.length → (spT ts j).length ≤ 5 * j
  | 0, _ => Nat.le_refl _
  | j + 1, hj => by
    have h := spT_len h3 h6 hv j (by omega)
    have gm : ts.getD j 0 ∈ ts := by rw [getD_el (by omega)]; exact List.getElem_mem (by omega)
    have h2 := fgs_le h3 h6 (vt_sp hv _ gm)
    rw [spT_s, List.length_append, List.length_cons]; omega
theorem spT_up (ts : List Nat) {j : Nat} : ∀ d, (spT ts j).length ≤ (spT ts (j + d)).length
  | 0 => Nat.le_refl _
  | d + 1 => by
    have := spT_up ts (j := j) d
    rw [show j + (d + 1) = j + d + 1 by omega, spT_s, List.length_append]; omega
def chkSp (ts : List Nat) : Bool := Nat.ble (spT ts ts.length).length 12
theorem sp_all : (allT 3).all chkSp = true ∧ (allT 4).all chkSp = true ∧ (allT 5).all chkSp = true ∧ (allT 6).all chkSp = true := by decide +kernel
theorem spT_12 {L : Nat} (h3 : 3 ≤ L) (h6 : L ≤ 6) {ts : List Nat} (hv : vt L ts = true) {j : Nat} (hj : j ≤ ts.length) : (spT ts j).length ≤ 12 := by
  have h1 := vt_all h3 h6 hv
  obtain ⟨q3, q4, q5, q6⟩ := sp_all
  have h2 : chkSp ts = true := by
    rcases (show L = 3 ∨ L = 4 ∨ L = 5 ∨ L = 6 by omega) with rfl | rfl | rfl | rfl
    · exact List.all_eq_true.mp q3 ts h1
    · exact List.all_eq_true.mp q4 ts h1
    · exact List.all_eq_true.mp q5 ts h1
    · exact List.all_eq_true.mp q6 ts h1
  unfold chkSp at h2
  rw [Nat.ble_eq] at h2
  have h4 := spT_up ts (j := j) (ts.length - j)
  rw [show j + (ts.length - j) = ts.length by omega] at h4
  omega
/-- the text of a desk -/
def txt1 (a : AD) (j : Nat) : List Nat := [48 + a.1, 58] ++ msT a.2.1 j
def txt2 (a : AD) (j : Nat) : List Nat := txt1 a a.2.1.length ++ [47] ++ [48 + a.2.2.1] ++ spT a.2.2.2 j
def txt (a : AD) : List Nat := txt2 a a.2.2.2.length
theorem txt1_len {a : AD} (hv : VD a) {j : Nat} : (txt1 a j).length ≤ 2 + 3 * j := by
  have := msT_len a.2.1 j
  unfold txt1
  rw [List.length_append]
  have : [48 + a.1, 58].length = 2 := rfl
  omega
theorem txt2_len {a : AD} (hv : VD a) {j : Nat} (hj : j ≤ a.2.2.2.length) : (txt2 a j).length ≤ 28 + 5 * j := by
  have h1 := txt1_len hv (j := a.2.1.length)
  have h2 := spT_len hv.2.2.2.1 hv.2.2.2.2.1 hv.2.2.2.2.2 j hj
  have h3 := hv.2.1
  unfold txt2
  rw [List.length_append, List.length_append, List.length_append, List.length_singleton, List.length_singleton]; omega
theorem txt2_len1 {a : AD} (hv : VD a) {j : Nat} (hj : j ≤ a.2.2.2.length) : (txt2 a j).length ≤ 39 := by
  have h1 := msT_len1 a.2.1 a.2.1.length
  have h2 := spT_12 hv.2.2.2.1 hv.2.2.2.2.1 hv.2.2.2.2.2 hj
  have h3 := hv.2.1
  have h4 : [48 + a.1, 58].length = 2 := rfl
  unfold txt2 txt1
  rw [List.length_append, List.length_append, List.length_append, List.length_append, List.length_singleton, List.length_singleton]; omega
theorem rp_nil (f : Nat → Int32) : rp f [] := fun k v hv => absurd hv (by simp)
theorem tell8 {g s l : Int32} {t : Int64} {pw : Nat → Int32} {a : AD} (h : D8 g s l t pw a) (hv : VD a) (f : Nat → Int32) : ∃ f', F_X5_tell g s l t f pw = some (f', Int32.ofNat (txt a).length) ∧ rp f' (txt a) := by
  obtain ⟨rfl, rfl, rfl, rfl, hp⟩ := h
  have n8 := hv.2.1
  have c3 := VD_tlen hv
  have L3 := hv.2.2.2.1
  have L6 := hv.2.2.2.2.1
  obtain ⟨f1, e1, r1⟩ := addF8 (rp_nil f) (by simp) a.1
  obtain ⟨f2, e2, r2⟩ := addB8 r1 (by simp) 58
  have e1' : F_X5_addFigure (0 : Int32) f (Int32.ofNat a.1) = some (f1, Int32.ofNat ([] ++ [48 + a.1]).length) := e1
  have e2' : F_X5_addByte (Int32.ofNat ([] ++ [48 + a.1]).length) f1 (58 : Int32) = some (f2, Int32.ofNat ([] ++ [48 + a.1] ++ [58]).length) := e2
  have r2' : rp f2 (txt1 a 0) := r2
  unfold F_X5_tell
  rw [e1', bd_s]
  dsimp only
  rw [e2', bd_s]
  dsimp only
  obtain ⟨f3, r3, e3⟩ := app_lp (B := B_X5_tell_21 (Int32.ofNat a.2.1.length) pw (K_X5_tell_21_54 (Int32.ofNat a.2.2.1) (tr64 a.2.2.2))) (K_X5_tell_21_54 (Int32.ofNat a.2.2.1) (tr64 a.2.2.2)) a.2.1.length (by omega) (fun j => txt1 a j) (fun j hj f hf => by
    have hlj := txt1_len hv (j := j)
    have ej : Int32.ofNat j + (1 : Int32) = Int32.ofNat (j + 1) := n_add j 1
    have hd : a.2.1.getD j 0 ≤ 12 := getD_le hv.2.2.1
    have ea : txt1 a (j + 1) = txt1 a j ++ ((if j = 0 then [] else [44]) ++ pwT (a.2.1.getD j 0)) := by unfold txt1; rw [msT_s, List.append_assoc]
    by_cases c : j = 0
    · rw [if_pos c, List.nil_append] at ea
      obtain ⟨f', e, r⟩ := addP8 hf (by omega) hd
      refine ⟨f', by rw [ea]; exact r, fun ag => ?_⟩
      unfold B_X5_tell_21 J_X5_tell_39
      rw [if_neg (c_ge (by omega) (by omega) hj), if_pos ((le0_iff (by omega)).mpr c), powerAt8 (by omega), bd_s, hp j hj, e, bd_s, ej, ea]
    · rw [if_neg c] at ea
      obtain ⟨f1, e1, r1⟩ := addB8 hf (by omega) 44
      have e1' : F_X5_addByte (Int32.ofNat (txt1 a j).length) f (44 : Int32) = some (f1, Int32.ofNat (txt1 a j ++ [44]).length) := e1
      obtain ⟨f', e, r⟩ := addP8 r1 (by rw [List.length_append, List.length_singleton]; omega) hd
      rw [List.append_assoc] at r e
      refine ⟨f', by rw [ea]; exact r, fun ag => ?_⟩
      unfold B_X5_tell_21 J_X5_tell_39
      rw [if_neg (c_ge (by omega) (by omega) hj), if_neg (fun z => c ((le0_iff (by omega)).mp z)), e1', bd_s]
      dsimp only
      rw [powerAt8 (by omega), bd_s, hp j hj, e, bd_s, ej, ea]) (fun f ag => by
    unfold B_X5_tell_21
    rw [if_pos ((n_le (by omega) (by omega)).mpr (Nat.le_refl _))]) (f := f2) (n := Int32.ofNat ([] ++ [48 + a.1] ++ [58]).length) rfl r2'
  rw [e3]
  unfold K_X5_tell_21_54
  have hl1 := txt1_len hv (j := a.2.1.length)
  obtain ⟨f4, e4, r4⟩ := addB8 r3 (by omega) 47
  have e4' : F_X5_addByte (Int32.ofNat (txt1 a a.2.1.length).length) f3 (47 : Int32) = some (f4, Int32.ofNat (txt1 a a.2.1.length ++ [47]).length) := e4
  obtain ⟨f5, e5, r5⟩ := addF8 r4 (by rw [List.length_append, List.length_singleton]; omega) a.2.2.1
  have z0 : txt1 a a.2.1.length ++ [47] ++ [48 + a.2.2.1] = txt2 a 0 := by unfold txt2; rw [show spT a.2.2.2 0 = [] from rfl, List.append_nil]
  rw [z0] at e5 r5
  rw [e4', bd_s]
  dsimp only
  rw [e5, bd_s, VD_size hv, bd_s]
  obtain ⟨f6, r6, e6⟩ := app_lp (B := B_X5_tell_78 (tr64 a.2.2.2) (Int32.ofNat a.2.2.2.length) K_X5_tell_78_101) K_X5_tell_78_101 a.2.2.2.length (by omega) (fun j => txt2 a j) (fun j hj f hf => by
    have hlj := txt2_len hv (j := j) (by omega)
    have ej : Int32.ofNat j + (1 : Int32) = Int32.ofNat (j + 1) := n_add j 1
    have gm : a.2.2.2.getD j 0 ∈ a.2.2.2 := by rw [getD_el hj]; exact List.getElem_mem hj
    have ea : txt2 a (j + 1) = txt2 a j ++ 59 :: fgs (a.2.2.2.getD j 0) 6 := by unfold txt2; rw [spT_s]; simp only [List.append_assoc]
    have hl1 := txt2_len1 hv (j := j + 1) (by omega)
    rw [ea, List.length_append, List.length_cons] at hl1
    by_cases hj2 : (txt2 a j).length + (fgs (a.2.2.2.getD j 0) 6).length < 39
    · obtain ⟨f', e, r⟩ := addS8 hf hj2 (vt_small L6 hv.2.2.2.2.2 _ gm)
      refine ⟨f', by rw [ea]; exact r, fun ag => ?_⟩
      unfold B_X5_tell_78
      rw [if_neg (c_ge (by omega) (by omega) hj), nth8 L3 L6 hv.2.2.2.2.2 (by omega), bd_s, if_pos hj, e, bd_s, ej, ea]
    · exfalso; omega) (fun f ag => by
    unfold B_X5_tell_78
    rw [if_pos ((n_le (by omega) (by omega)).mpr (Nat.le_refl _))]) (f := f5) (n := Int32.ofNat (txt2 a 0).length) rfl r5
  dsimp only
  rw [e6]
  exact ⟨f6, rfl, r6⟩
