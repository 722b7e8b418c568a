/-! Trees in order: the list of all that go on from a tree. -/
theorem isSp_even {L s : Nat} (h : isSp L s = true) : s % 2 = 0 ∧ s < 2 ^ L := by
  simp only [isSp, Bool.and_eq_true, Nat.blt_eq, beq_iff_eq] at h
  exact ⟨h.1.1.2, h.1.1.1⟩
def cand (L : Nat) (ts : List Nat) (s : Nat) : Bool := isSp L s && fit ts s
def exD (L : Nat) (ts : List Nat) (f : Nat → List (List Nat)) : Nat → List (List Nat)
  | 0 => []
  | d + 1 => (if cand L ts (2 ^ L - (d + 1)) = true then f (2 ^ L - (d + 1)) else []) ++ exD L ts f d
def exT (L : Nat) : Nat → List Nat → Nat → List (List Nat)
  | 0, ts, _ => [ts]
  | k + 1, ts, d => exD L ts (fun s => exT L k (ts ++ [s]) (2 ^ L - (s + 1))) d
theorem exD_s (L : Nat) (ts : List Nat) (f : Nat → List (List Nat)) (d : Nat) : exD L ts f (d + 1) = (if cand L ts (2 ^ L - (d + 1)) = true then f (2 ^ L - (d + 1)) else []) ++ exD L ts f d := rfl
theorem exT_s (L k : Nat) (ts : List Nat) (d : Nat) : exT L (k + 1) ts d = exD L ts (fun s => exT L k (ts ++ [s]) (2 ^ L - (s + 1))) d := rfl
theorem cand_odd {L s : Nat} {ts : List Nat} (h : s % 2 = 1) : ¬ cand L ts s = true := fun z => by
  unfold cand at z
  rw [Bool.and_eq_true] at z
  have := (isSp_even z.1).1
  omega
theorem exD_skip {L : Nat} {ts : List Nat} {f : Nat → List (List Nat)} {d : Nat} (h : (2 ^ L - (d + 1)) % 2 = 1) : exD L ts f (d + 1) = exD L ts f d := by
  rw [exD_s, if_neg (cand_odd h)]; rfl
theorem exT_skip {L k : Nat} {ts : List Nat} {d : Nat} (h : (2 ^ L - (d + 1)) % 2 = 1) : exT L k ts (d + 1) = exT L k ts d := by
  cases k with
  | zero => rfl
  | succ k => rw [exT_s, exT_s, exD_skip h]
theorem ins_last {s : Nat} : ∀ {ts : List Nat}, (∀ t ∈ ts, t < s) → ins s ts = ts ++ [s]
  | [], _ => rfl
  | t :: ts, h => by
    have := h t List.mem_cons_self
    unfold ins
    rw [if_neg (by omega), ins_last (fun u hu => h u (List.mem_cons_of_mem _ hu))]; rfl
theorem vt_snoc {L s : Nat} {ts : List Nat} (h : vt L ts = true) (hc : cand L ts s = true) (hs : ∀ t ∈ ts, t < s) : vt L (ts ++ [s]) = true := by
  unfold cand at hc
  rw [Bool.and_eq_true] at hc
  rw [← ins_last hs]
  exact vt_ins hc.1 h hc.2
theorem lt_snoc {ts : List Nat} {s : Nat} (hs : ∀ t ∈ ts, t < s) {b : Nat} (hb : s < b) : ∀ t ∈ ts ++ [s], t < b := fun t ht => by
  rcases List.mem_append.mp ht with ht | ht
  · have := hs t ht; omega
  · rw [List.mem_singleton.mp ht]; exact hb
theorem exT_vt {L : Nat} : ∀ (k : Nat) (ts : List Nat) (d : Nat), vt L ts = true → d ≤ 2 ^ L → (∀ t ∈ ts, t < 2 ^ L - d) → ∀ x ∈ exT L k ts d, vt L x = true ∧ x.length = ts.length + k
  | 0, ts, d, hv, hd, hs, x, hx => by
    rw [List.mem_singleton.mp hx]; exact ⟨hv, rfl⟩
  | k + 1, ts, 0, hv, hd, hs, x, hx => absurd hx List.not_mem_nil
  | k + 1, ts, d + 1, hv, hd, hs, x, hx => by
    rw [exT_s, exD_s, ← exT_s] at hx
    rcases List.mem_append.mp hx with hx | hx
    · by_cases c : cand L ts (2 ^ L - (d + 1)) = true
      · rw [if_pos c] at hx
        obtain ⟨a, b⟩ := exT_vt k (ts ++ [2 ^ L - (d + 1)]) _ (vt_snoc hv c hs) (by omega) (lt_snoc hs (by omega)) x hx
        refine ⟨a, ?_⟩
        rw [b, List.length_append, List.length_singleton]; omega
      · rw [if_neg c] at hx; exact absurd hx List.not_mem_nil
    · exact exT_vt (k + 1) ts d hv (by omega) (fun t ht => by have := hs t ht; omega) x hx
theorem exT_bound {L : Nat} (h6 : L ≤ 6) : ∀ (k : Nat) (ts : List Nat) (d : Nat), d ≤ 64 → (exT L k ts d).length ≤ 64 ^ k
  | 0, ts, d, hd => Nat.le_refl _
  | k + 1, ts, d, hd => by
    have hp := pow_le64 h6
    have key : ∀ d, (exT L (k + 1) ts d).length ≤ d * 64 ^ k := by
      intro d
      induction d with
      | zero => exact Nat.zero_le _
      | succ d ih =>
        rw [exT_s, exD_s, ← exT_s, List.length_append, Nat.succ_mul]
        by_cases c : cand L ts (2 ^ L - (d + 1)) = true
        · rw [if_pos c]
          have := exT_bound h6 k (ts ++ [2 ^ L - (d + 1)]) (2 ^ L - (2 ^ L - (d + 1) + 1)) (by omega)
          omega
        · rw [if_neg c, List.length_nil, Nat.zero_add]; exact Nat.le_trans ih (Nat.le_add_right _ _)
    have h1 := key d
    have h2 : d * 64 ^ k ≤ 64 * 64 ^ k := Nat.mul_le_mul_right _ hd
    rw [Nat.pow_succ, Nat.mul_comm]; omega
theorem exT_nil {L : Nat} (h3 : 3 ≤ L) (h6 : L ≤ 6) {k : Nat} {ts : List Nat} {d : Nat} (hv : vt L ts = true) (hd : d ≤ 2 ^ L) (hs : ∀ t ∈ ts, t < 2 ^ L - d) (hk : L - 3 < ts.length + k) : exT L k ts d = [] := by
  cases h : exT L k ts d with
  | nil => rfl
  | cons x r =>
    obtain ⟨a, b⟩ := exT_vt k ts d hv hd hs x (by rw [h]; exact List.mem_cons_self)
    have := vt_len h3 h6 a
    omega
theorem exT_small {L : Nat} (h3 : 3 ≤ L) (h6 : L ≤ 6) {k : Nat} {ts : List Nat} {d : Nat} (hv : vt L ts = true) (hd : d ≤ 2 ^ L) (hs : ∀ t ∈ ts, t < 2 ^ L - d) : (exT L k ts d).length ≤ 262144 := by
  by_cases c : L - 3 < ts.length + k
  · rw [exT_nil h3 h6 hv hd hs c]; exact Nat.zero_le _
  · have hp := pow_le64 h6
    have h1 := exT_bound h6 k ts d (by omega)
    have h2 : 64 ^ k ≤ 64 ^ 3 := Nat.pow_le_pow_right (by omega) (by omega)
    omega
theorem cand_n {L : Nat} (h3 : 3 ≤ L) (h6 : L ≤ 6) {s : Nat} (hs : s < 64) : F_X6_isSplit (Int32.ofNat s) (Int32.ofNat L) = some (if isSp L s = true then 1 else 0) := (is_n (by omega) h6 hs).1
/-- more trees: a step of the loop, then the loop -/
theorem more_step {L : Nat} (h3 : 3 ≤ L) (h6 : L ≤ 6) {ts : List Nat} (hv : vt L ts = true) (rc : Int32 → Int32 → Int64 → Int32 → Option Int32) (k : Nat) (f : Nat → List (List Nat))
    (hrc : ∀ s, s % 2 = 0 → s + 2 ≤ 2 ^ L → cand L ts s = true → (∀ t ∈ ts, t < s) → rc (Int32.ofNat L) (Int32.ofNat (k + 1) - (1 : Int32)) (tr64 (ts ++ [s])) (Int32.ofNat (s + 2)) = some (Int32.ofNat (f s).length)) :
    ∀ (m a n : Nat), m < n → 2 * m ≤ 2 ^ L → (∀ t ∈ ts, t < 2 ^ L - 2 * m) → wq2 (B_X6_countMore_27 rc (Int32.ofNat L) (Int32.ofNat (k + 1)) (tr64 ts) K_X6_countMore_27_81) n (Int32.ofNat a) (Int32.ofNat (2 ^ L - 2 * m)) = some (Int32.ofNat (a + (exD L ts f (2 * m)).length)) := by
  have hp := pow_le64 h6
  have h2p : 2 ^ L % 2 = 0 := by
    obtain ⟨q, rfl⟩ : ∃ q, L = q + 1 := ⟨L - 1, by omega⟩
    rw [Nat.pow_succ]; omega
  intro m
  induction m with
  | zero =>
    intro a n hn hm hs
    obtain ⟨n, rfl⟩ : ∃ k, n = k + 1 := ⟨n - 1, by omega⟩
    show B_X6_countMore_27 rc (Int32.ofNat L) (Int32.ofNat (k + 1)) (tr64 ts) K_X6_countMore_27_81 (Int32.ofNat a) (Int32.ofNat (2 ^ L)) _ = _
    unfold B_X6_countMore_27
    rw [pow_L h6, if_pos ((n_le (by omega) (by omega)).mpr (Nat.le_refl _))]; rfl
  | succ m ih =>
    intro a n hn hm hs
    obtain ⟨n, rfl⟩ : ∃ k, n = k + 1 := ⟨n - 1, by omega⟩
    have e2 : 2 * (m + 1) = 2 * m + 1 + 1 := by omega
    have ih2 := fun a => ih a n (by omega) (by omega) (fun t ht => by have := hs t ht; omega)
    show B_X6_countMore_27 rc (Int32.ofNat L) (Int32.ofNat (k + 1)) (tr64 ts) K_X6_countMore_27_81 (Int32.ofNat a) (Int32.ofNat (2 ^ L - 2 * (m + 1))) (wq2 (B_X6_countMore_27 rc (Int32.ofNat L) (Int32.ofNat (k + 1)) (tr64 ts) K_X6_countMore_27_81) n) = _
    rw [e2, exD_s, exD_skip (d := 2 * m) (by omega), List.length_append, ← e2]
    generalize hsd : 2 ^ L - 2 * (m + 1) = s at hs ⊢
    generalize hW : wq2 (B_X6_countMore_27 rc (Int32.ofNat L) (Int32.ofNat (k + 1)) (tr64 ts) K_X6_countMore_27_81) n = W at ih2 ⊢
    have en : Int32.ofNat s + (2 : Int32) = Int32.ofNat (2 ^ L - 2 * m) := by
      rw [show (2 : Int32) = Int32.ofNat 2 from rfl, n_add]; congr 1; omega
    have hs64 : s < 64 := by omega
    unfold B_X6_countMore_27
    rw [pow_L h6, if_neg (c_ge (by omega) (by omega) (by omega)), cand_n h3 h6 hs64, bd_s, en]
    by_cases c1 : isSp L s = true
    · rw [if_pos c1, if_neg i10, fits8 h3 h6 hv hs64, bd_s]
      by_cases c2 : fit ts s = true
      · have c : cand L ts s = true := by unfold cand; rw [c1, c2]; rfl
        rw [if_pos c2, if_neg i10, with8 (vt_asc hv) hs64 (fit_not c2), bd_s, ins_last hs, ← en, show (2 : Int32) = Int32.ofNat 2 from rfl, n_add, hrc s (isSp_even c1).1 (by omega) c hs, bd_s, n_add, if_pos c, show s + 2 = 2 ^ L - 2 * m by omega, ih2]
        congr 2; omega
      · have c : ¬ cand L ts s = true := fun z => by unfold cand at z; rw [Bool.and_eq_true] at z; exact c2 z.2
        rw [if_neg c2, if_pos i00, if_neg c, ih2]
        congr 2; simp
    · have c : ¬ cand L ts s = true := fun z => by unfold cand at z; rw [Bool.and_eq_true] at z; exact c1 z.1
      rw [if_neg c1, if_pos i00, if_neg c, ih2]
      congr 2; simp
theorem pow_even {L : Nat} (h3 : 3 ≤ L) : 2 ^ L % 2 = 0 := by
  obtain ⟨q, rfl⟩ : ∃ q, L = q + 1 := ⟨L - 1, by omega⟩
  rw [Nat.pow_succ]; omega
theorem more8 {L : Nat} (h3 : 3 ≤ L) (h6 : L ≤ 6) : ∀ (f k : Nat) (ts : List Nat) (s0 : Nat), 5 ≤ f + ts.length → k < 100 → vt L ts = true → s0 % 2 = 0 → s0 ≤ 2 ^ L → (∀ t ∈ ts, t < s0) →
    F_X6_countMore f (Int32.ofNat L) (Int32.ofNat k) (tr64 ts) (Int32.ofNat s0) = some (Int32.ofNat (exT L k ts (2 ^ L - s0)).length) := by
  have hp := pow_le64 h6
  have h2p := pow_even h3
  intro f
  induction f with
  | zero =>
    intro k ts s0 hf hk hv he hl hs
    have := vt_len h3 h6 hv
    omega
  | succ f ih =>
    intro k ts s0 hf hk hv he hl hs
    have hlen := vt_len h3 h6 hv
    show G_X6_countMore (F_X6_countMore f) (Int32.ofNat L) (Int32.ofNat k) (tr64 ts) (Int32.ofNat s0) = _
    unfold G_X6_countMore
    cases k with
    | zero => rw [if_neg (by decide)]; rfl
    | succ k =>
      have c0 : (0 : Int32) < Int32.ofNat (k + 1) := (n_lt (a := 0) (by omega) (by omega)).mpr (by omega)
      have e3 : Int32.ofNat L - (3 : Int32) = Int32.ofNat (L - 3) := n_sub (b := 3) (by omega)
      rw [if_pos c0, sizeOf8 h3 h6 hv, bd_s, n_add, e3]
      by_cases c : ts.length + (k + 1) ≤ L - 3
      · rw [if_pos ((n_le (by omega) (by omega)).mpr c), exT_s]
        obtain ⟨m, hm⟩ : ∃ m, 2 ^ L - s0 = 2 * m := ⟨(2 ^ L - s0) / 2, by omega⟩
        have e1 : Int32.ofNat (k + 1) - (1 : Int32) = Int32.ofNat k := n_sub (b := 1) (by omega)
        have key := more_step h3 h6 hv (F_X6_countMore f) k (fun s => exT L k (ts ++ [s]) (2 ^ L - (s + 1))) (fun s hs0 hs1 hs2 hs3 => by
          rw [e1, ih k (ts ++ [s]) (s + 2) (by rw [List.length_append, List.length_singleton]; omega) (by omega) (vt_snoc hv hs2 hs3) (by omega) hs1 (lt_snoc hs3 (by omega))]
          have e : 2 ^ L - (s + 1) = 2 ^ L - (s + 2) + 1 := by omega
          show _ = some (Int32.ofNat (exT L k (ts ++ [s]) (2 ^ L - (s + 1))).length)
          rw [e, exT_skip (by omega)]) m 0 FU (by unfold FU; omega) (by omega) (fun t ht => by have := hs t ht; omega)
        rw [← hm, show 2 ^ L - (2 ^ L - s0) = s0 by omega, Nat.zero_add] at key
        exact key
      · rw [if_neg (fun z => c ((n_le (by omega) (by omega)).mp z)), exT_nil h3 h6 hv (by omega) (fun t ht => by have := hs t ht; omega) (by omega)]; rfl
