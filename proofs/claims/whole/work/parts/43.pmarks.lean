/-! MARKS of a text, as both read them. -/
def pwr (bs : List Nat) (p : Nat) : Nat × Nat := if isF bs (p + 1) = true then (10 * fi bs p + fi bs (p + 1), p + 2) else (fi bs p, p + 1)
theorem pwr_le {bs : List Nat} {p : Nat} (h : isF bs p = true) : (pwr bs p).1 ≤ 99 ∧ (pwr bs p).2 ≤ bs.length := by
  obtain ⟨a, b, c⟩ := isF_c h
  unfold pwr
  by_cases d : isF bs (p + 1) = true
  · obtain ⟨a2, b2, c2⟩ := isF_c d
    rw [if_pos d]; exact ⟨by show 10 * fi bs p + fi bs (p + 1) ≤ 99; omega, by show p + 2 ≤ bs.length; omega⟩
  · rw [if_neg d]; exact ⟨by show fi bs p ≤ 99; omega, by show p + 1 ≤ bs.length; omega⟩
def ntp (cb : Option Nat) (x : Nat × Nat) : Option Nat := if x.1 ≤ 12 then cb else nt cb x.2
theorem ntp_lt {cb : Option Nat} {B : Nat} {x : Nat × Nat} (h : ∀ q, cb = some q → q < B) (hp : x.2 < B) : ∀ q, ntp cb x = some q → q < B := fun q hq => by
  unfold ntp at hq
  by_cases c : x.1 ≤ 12
  · rw [if_pos c] at hq; exact h q hq
  · rw [if_neg c] at hq; exact nt_lt h hp q hq
theorem addMark8 {m : Nat} (hm : m < 8) (pws : Nat → Int32) (v : Int32) : F_X1_addMark (Int32.ofNat m) pws v = some (upd pws m v, Int32.ofNat (m + 1)) := by
  unfold F_X1_addMark
  have e1 : Int32.ofNat m + (1 : Int32) = Int32.ofNat (m + 1) := n_add _ 1
  rw [if_neg (c8 hm), setPower8 hm, bd_s, e1]
theorem readPower8 {bs : List Nat} {f : Nat → Int32} (h : TQ bs f) {p m : Nat} (hf : isF bs p = true) (hm : m < 8) {cb : Option Nat} (hc : ∀ q, cb = some q → q < 1000) (pws : Nat → Int32) :
    F_X4_readPower (Int32.ofNat p) (cI cb) (Int32.ofNat bs.length) f (Int32.ofNat m) pws = some (upd pws m (Int32.ofNat (pwr bs p).1), Int32.ofNat (pwr bs p).2, cI (ntp cb ((pwr bs p).1, p)), Int32.ofNat (m + 1)) := by
  obtain ⟨a, b, c⟩ := isF_c hf
  have h60 := h.2.1
  have ep : Int32.ofNat p + (1 : Int32) = Int32.ofNat (p + 1) := n_add p 1
  have ep2 : Int32.ofNat (p + 1) + (1 : Int32) = Int32.ofNat (p + 2) := n_add (p + 1) 1
  have fin : ∀ (v q : Nat), v ≤ 99 → J_X4_readPower_68 (Int32.ofNat p) (cI cb) (Int32.ofNat m) pws (Int32.ofNat q) (Int32.ofNat v) = some (upd pws m (Int32.ofNat v), Int32.ofNat q, cI (ntp cb (v, p)), Int32.ofNat (m + 1)) := fun v q hv => by
    unfold J_X4_readPower_68 J_X4_readPower_79 ntp
    have c12 : (Int32.ofNat v ≤ (12 : Int32)) ↔ v ≤ 12 := n_le (b := 12) (by omega) (by omega)
    by_cases d : v ≤ 12
    · rw [if_pos (c12.mpr d), addMark8 hm, bd_s, if_pos d]
    · rw [if_neg (fun z => d (c12.mp z)), note8 hc, bd_s, addMark8 hm, bd_s, if_neg d]
  unfold F_X4_readPower
  rw [fig8 h hf, bd_s, ep, isFig8 h (by omega), bd_s]
  unfold pwr
  by_cases d : isF bs (p + 1) = true
  · obtain ⟨a2, b2, c2⟩ := isF_c d
    have e10 : (10 : Int32) * Int32.ofNat (fi bs p) + Int32.ofNat (fi bs (p + 1)) = Int32.ofNat (10 * fi bs p + fi bs (p + 1)) := by
      rw [show (10 : Int32) = Int32.ofNat 10 from rfl, n_mul, n_add]
    rw [if_pos d, if_neg i10, fig8 h d, bd_s, e10, ep2, fin _ _ (by omega), if_pos d]
  · rw [if_neg d, if_pos i00, fin _ _ (by omega), if_neg d]
theorem markHereY {bs : List Nat} {f : Nat → Int32} (h : TQ bs f) {p m : Nat} (hf : isF bs p = true) (hm : m < 8) (pp tp : Nat → Int32) :
    F_X9_markHere (Int32.ofNat bs.length) (Int32.ofNat p) (0 : Int32) (Int32.ofNat m) pp f tp = some (upd pp m (Int32.ofNat p), upd tp m (Int32.ofNat (pwr bs p).1), Int32.ofNat (pwr bs p).2, (0 : Int32), Int32.ofNat (m + 1)) := by
  obtain ⟨a, b, c⟩ := isF_c hf
  have h60 := h.2.1
  have em : Int32.ofNat m + (1 : Int32) = Int32.ofNat (m + 1) := n_add m 1
  unfold F_X9_markHere J_X9_markHere_42
  rw [ck_n hm (by omega), figY9 h hf, bd_s]
  dsimp only
  rw [if_pos i00, isFig9 h (by omega), bd_s, em, ck_n hm (by omega), n_clamp (by omega)]
  unfold pwr
  by_cases d : isF bs (p + 1) = true
  · have e10 : (10 : Int32) * Int32.ofNat (fi bs p) + Int32.ofNat (fi bs (p + 1)) = Int32.ofNat (10 * fi bs p + fi bs (p + 1)) := by
      rw [show (10 : Int32) = Int32.ofNat 10 from rfl, n_mul, n_add]
    rw [if_pos d, if_neg i10, figY9 h d, bd_s, ck_n hm (by omega), if_pos d]
    dsimp only
    rw [e10]
  · rw [if_neg d, if_pos i00, if_neg d]
theorem markHereN {bs : List Nat} {f : Nat → Int32} (h : TQ bs f) {p m : Nat} (hp : p < 2147483648) (hf : ¬ isF bs p = true) (hm : m < 8) (pp tp : Nat → Int32) :
    F_X9_markHere (Int32.ofNat bs.length) (Int32.ofNat p) (0 : Int32) (Int32.ofNat m) pp f tp = some (upd pp m (Int32.ofNat p), upd tp m (0 : Int32), Int32.ofNat p, (1 : Int32), Int32.ofNat (m + 1)) := by
  have em : Int32.ofNat m + (1 : Int32) = Int32.ofNat (m + 1) := n_add m 1
  unfold F_X9_markHere J_X9_markHere_42
  rw [ck_n hm (by omega), figN9 h hp hf, bd_s]
  dsimp only
  rw [if_neg i10, ck_n hm (by omega), n_clamp (by omega), em]
/-- MARKS from a place on: powers with their places, where they end, whether it is wrong there -/
def pm (bs : List Nat) : Nat → Nat → List (Nat × Nat) × Nat × Bool
  | 0, p => ([], p, false)
  | r + 1, p => if isF bs p = true then (if r = 0 then ([((pwr bs p).1, p)], (pwr bs p).2, false) else if isC bs (pwr bs p).2 44 = true then (((pwr bs p).1, p) :: (pm bs r ((pwr bs p).2 + 1)).1, (pm bs r ((pwr bs p).2 + 1)).2.1, (pm bs r ((pwr bs p).2 + 1)).2.2) else ([((pwr bs p).1, p)], (pwr bs p).2, false)) else ([], p, true)
theorem pm_N {bs : List Nat} {r p : Nat} (h : ¬ isF bs p = true) : pm bs (r + 1) p = ([], p, true) := if_neg h
theorem pm_1 {bs : List Nat} {p : Nat} (h : isF bs p = true) : pm bs 1 p = ([((pwr bs p).1, p)], (pwr bs p).2, false) := by
  show (if isF bs p = true then _ else _) = _
  rw [if_pos h, if_pos rfl]
theorem pm_C {bs : List Nat} {r p : Nat} (h : isF bs p = true) (hc : isC bs (pwr bs p).2 44 = true) : pm bs (r + 2) p = (((pwr bs p).1, p) :: (pm bs (r + 1) ((pwr bs p).2 + 1)).1, (pm bs (r + 1) ((pwr bs p).2 + 1)).2.1, (pm bs (r + 1) ((pwr bs p).2 + 1)).2.2) := by
  show (if isF bs p = true then _ else _) = _
  rw [if_pos h, if_neg (by omega), if_pos hc]
theorem pm_E {bs : List Nat} {r p : Nat} (h : isF bs p = true) (hc : ¬ isC bs (pwr bs p).2 44 = true) : pm bs (r + 1) p = ([((pwr bs p).1, p)], (pwr bs p).2, false) := by
  show (if isF bs p = true then _ else _) = _
  rw [if_pos h]
  by_cases c : r = 0
  · rw [if_pos c]
  · rw [if_neg c, if_neg hc]
theorem pm_le {bs : List Nat} : ∀ (r p : Nat), p ≤ bs.length → (pm bs r p).2.1 ≤ bs.length ∧ (pm bs r p).1.length ≤ r ∧ ∀ x ∈ (pm bs r p).1, x.1 ≤ 99 ∧ x.2 < bs.length
  | 0, p, h => ⟨h, Nat.zero_le _, by simp [pm]⟩
  | r + 1, p, h => by
    by_cases c : isF bs p = true
    · have hw := pwr_le c
      have hp := (isF_c c).1
      by_cases d : isC bs (pwr bs p).2 44 = true
      · cases r with
        | zero =>
          rw [pm_1 c]
          exact ⟨hw.2, Nat.le_refl _, fun x hx => by rw [List.mem_singleton.mp hx]; exact ⟨hw.1, hp⟩⟩
        | succ r =>
          rw [pm_C c d]
          have hl := (isC_c d).1
          obtain ⟨i1, i2, i3⟩ := pm_le (bs := bs) (r + 1) ((pwr bs p).2 + 1) (by omega)
          refine ⟨i1, by rw [List.length_cons]; omega, fun x hx => ?_⟩
          rcases List.mem_cons.mp hx with rfl | hx
          · exact ⟨hw.1, hp⟩
          · exact i3 x hx
      · rw [pm_E c d]
        exact ⟨hw.2, by rw [List.length_singleton]; omega, fun x hx => by rw [List.mem_singleton.mp hx]; exact ⟨hw.1, hp⟩⟩
    · rw [pm_N c]; exact ⟨h, Nat.zero_le _, by simp⟩
def b01 (w : Bool) : Int32 := if w = true then 0 else 1
theorem rm_exit {n m cm : Int32} {f pws : Nat → Int32} {p cb : Int32} {N : Nat} (hN : 0 < N) : wq6 (B_X4_readMarks_22 n f K_X4_readMarks_22_79) N pws p cb cm (0 : Int32) m = some ((1 : Int32), pws, p, cb, cm) := by
  obtain ⟨N, rfl⟩ : ∃ k, N = k + 1 := ⟨N - 1, by omega⟩
  show B_X4_readMarks_22 n f K_X4_readMarks_22_79 pws p cb cm (0 : Int32) m (wq6 (B_X4_readMarks_22 n f K_X4_readMarks_22_79) N) = _
  unfold B_X4_readMarks_22
  by_cases c : (8 : Int32) ≤ m
  · rw [if_pos c]; rfl
  · rw [if_neg c, if_pos i00]; rfl
theorem marks8 {bs : List Nat} {f : Nat → Int32} (h : TQ bs f) : ∀ (r m p : Nat) (pws : Nat → Int32) (cb : Option Nat) (acc : List Nat) (n : Nat), r + m = 8 → r < n → p ≤ bs.length → acc.length = m → rp pws acc → (∀ q, cb = some q → q < 1000) →
    ∃ pws', rp pws' (acc ++ (pm bs r p).1.map (fun x => x.1)) ∧ wq6 (B_X4_readMarks_22 (Int32.ofNat bs.length) f K_X4_readMarks_22_79) n pws (Int32.ofNat p) (cI cb) (Int32.ofNat m) (1 : Int32) (Int32.ofNat m) = some (b01 (pm bs r p).2.2, pws', Int32.ofNat (pm bs r p).2.1, cI ((pm bs r p).1.foldl ntp cb), Int32.ofNat (m + (pm bs r p).1.length)) := by
  intro r
  have h60 := h.2.1
  induction r with
  | zero =>
    intro m p pws cb acc n hrm hn hp hacc hr hc
    obtain ⟨n, rfl⟩ : ∃ k, n = k + 1 := ⟨n - 1, by omega⟩
    refine ⟨pws, by simpa [pm] using hr, ?_⟩
    show B_X4_readMarks_22 (Int32.ofNat bs.length) f K_X4_readMarks_22_79 pws (Int32.ofNat p) (cI cb) (Int32.ofNat m) (1 : Int32) (Int32.ofNat m) (wq6 (B_X4_readMarks_22 (Int32.ofNat bs.length) f K_X4_readMarks_22_79) n) = _
    unfold B_X4_readMarks_22
    have : (8 : Int32) ≤ Int32.ofNat m := (n_le (a := 8) (by omega) (by omega)).mpr (by omega)
    rw [if_pos this]; rfl
  | succ r ih =>
    intro m p pws cb acc n hrm hn hp hacc hr hc
    obtain ⟨n, rfl⟩ : ∃ k, n = k + 1 := ⟨n - 1, by omega⟩
    have ih2 := fun p pws cb acc => ih (m + 1) p pws cb acc n (by omega) (by omega)
    have ex2 := fun (pws : Nat → Int32) (p cb cm m : Int32) => rm_exit (n := Int32.ofNat bs.length) (f := f) (pws := pws) (p := p) (cb := cb) (cm := cm) (m := m) (N := n) (by omega)
    have em : Int32.ofNat m + (1 : Int32) = Int32.ofNat (m + 1) := n_add m 1
    have c7 : ((7 : Int32) ≤ Int32.ofNat m) ↔ 7 ≤ m := n_le (a := 7) (by omega) (by omega)
    have st : ∀ X, B_X4_readMarks_22 (Int32.ofNat bs.length) f K_X4_readMarks_22_79 pws (Int32.ofNat p) (cI cb) (Int32.ofNat m) (1 : Int32) (Int32.ofNat m) (wq6 (B_X4_readMarks_22 (Int32.ofNat bs.length) f K_X4_readMarks_22_79) n) = X → wq6 (B_X4_readMarks_22 (Int32.ofNat bs.length) f K_X4_readMarks_22_79) (n + 1) pws (Int32.ofNat p) (cI cb) (Int32.ofNat m) (1 : Int32) (Int32.ofNat m) = X := fun X hX => hX
    by_cases c : isF bs p = true
    · obtain ⟨hw1, hw2⟩ := pwr_le c
      have hpl := (isF_c c).1
      have rp8 := readPower8 h c (m := m) (by omega) hc pws
      have hcb := ntp_lt (x := ((pwr bs p).1, p)) hc (show p < 1000 by omega)
      have hr1 : rp (upd pws m (Int32.ofNat (pwr bs p).1)) (acc ++ [(pwr bs p).1]) := by rw [← hacc]; exact rp_push hr _
      by_cases d : isC bs (pwr bs p).2 44 = true
      · cases r with
        | zero =>
          rw [pm_1 c]
          refine ⟨_, hr1, st _ ?_⟩
          generalize hW : wq6 (B_X4_readMarks_22 (Int32.ofNat bs.length) f K_X4_readMarks_22_79) n = W at ex2 ⊢
          unfold B_X4_readMarks_22
          rw [if_neg (c8 (by omega)), if_neg i10, isFig8 h (by omega), bd_s, if_pos c, if_neg i10, rp8, bd_s, if_pos (c7.mpr (by omega))]
          dsimp only
          rw [ex2]; rfl
        | succ r =>
          have hl := (isC_c d).1
          obtain ⟨pws', r2, e2⟩ := ih2 ((pwr bs p).2 + 1) _ (ntp cb ((pwr bs p).1, p)) (acc ++ [(pwr bs p).1]) (by omega) (by rw [List.length_append, List.length_singleton]; omega) hr1 hcb
          rw [pm_C c d]
          refine ⟨pws', by simpa using r2, st _ ?_⟩
          generalize hW : wq6 (B_X4_readMarks_22 (Int32.ofNat bs.length) f K_X4_readMarks_22_79) n = W at e2 ⊢
          have s8 := sign8 h (p := (pwr bs p).2) (c := 44) (by omega) (by omega)
          have s8' : F_X4_readSign (Int32.ofNat (pwr bs p).2) (Int32.ofNat bs.length) f (44 : Int32) = some ((1 : Int32), Int32.ofNat ((pwr bs p).2 + 1)) := by rw [if_pos d] at s8; exact s8
          unfold B_X4_readMarks_22
          rw [if_neg (c8 (by omega)), if_neg i10, isFig8 h (by omega), bd_s, if_pos c, if_neg i10, rp8, bd_s, if_neg (fun z => by have := c7.mp z; omega)]
          dsimp only
          rw [s8', bd_s]
          dsimp only
          rw [if_neg i10, em, e2, List.length_cons, List.foldl_cons, show m + 1 + (pm bs (r + 1) ((pwr bs p).2 + 1)).1.length = m + ((pm bs (r + 1) ((pwr bs p).2 + 1)).1.length + 1) by omega]
      · rw [pm_E c d]
        refine ⟨_, hr1, st _ ?_⟩
        generalize hW : wq6 (B_X4_readMarks_22 (Int32.ofNat bs.length) f K_X4_readMarks_22_79) n = W at ex2 ⊢
        have s8 := sign8 h (p := (pwr bs p).2) (c := 44) (by omega) (by omega)
        have s8' : F_X4_readSign (Int32.ofNat (pwr bs p).2) (Int32.ofNat bs.length) f (44 : Int32) = some ((0 : Int32), Int32.ofNat (pwr bs p).2) := by rw [if_neg d] at s8; exact s8
        unfold B_X4_readMarks_22
        rw [if_neg (c8 (by omega)), if_neg i10, isFig8 h (by omega), bd_s, if_pos c, if_neg i10, rp8, bd_s]
        dsimp only
        by_cases c7' : (7 : Int32) ≤ Int32.ofNat m
        · rw [if_pos c7', ex2]; rfl
        · rw [if_neg c7', s8', bd_s]
          dsimp only
          rw [if_pos i00, ex2]; rfl
    · rw [pm_N c]
      refine ⟨pws, by simpa using hr, st _ ?_⟩
      unfold B_X4_readMarks_22
      rw [if_neg (c8 (by omega)), if_neg i10, isFig8 h (by omega), bd_s, if_neg c, if_pos i00]; rfl
theorem marks9 {bs : List Nat} {f : Nat → Int32} (h : TQ bs f) {R : Type} (kk : (Nat → Int32) → (Nat → Int32) → Int32 → Int32 → Int32 → Option ((Nat → Int32) × (Nat → Int32) × (Nat → Int32) × (Nat → Int32) × Int32 × Int32 × Int32 × Int32 × Int32 × Int32 × Int32 × Int32)) :
    ∀ (r m p : Nat) (pp tp : Nat → Int32) (acc accp : List Nat) (n : Nat), r + 1 + m = 8 → r + 1 < n → p ≤ bs.length → acc.length = m → accp.length = m → rp tp acc → rp pp accp →
    ∃ (pp' tp' : Nat → Int32) (m' : Int32), bd (F_X9_markHere (Int32.ofNat bs.length) (Int32.ofNat p) (0 : Int32) (Int32.ofNat m) pp f tp) (fun x => wq5 (B_X9_form_57 (Int32.ofNat bs.length) f kk) n (x.1) (x.2.1) (x.2.2.1) (x.2.2.2.1) (x.2.2.2.2)) = kk pp' tp' (Int32.ofNat (pm bs (r + 1) p).2.1) (if (pm bs (r + 1) p).2.2 = true then 1 else 0) m' ∧
      ((pm bs (r + 1) p).2.2 = false → m' = Int32.ofNat (m + (pm bs (r + 1) p).1.length) ∧ rp tp' (acc ++ (pm bs (r + 1) p).1.map (fun x => x.1)) ∧ rp pp' (accp ++ (pm bs (r + 1) p).1.map (fun x => x.2))) := by
  have h60 := h.2.1
  intro r
  induction r with
  | zero =>
    intro m p pp tp acc accp n hrm hn hp ha hap ht hpp
    obtain ⟨n, rfl⟩ : ∃ k, n = k + 1 := ⟨n - 1, by omega⟩
    by_cases c : isF bs p = true
    · obtain ⟨hw1, hw2⟩ := pwr_le c
      have r1 : rp (upd tp m (Int32.ofNat (pwr bs p).1)) (acc ++ [(pwr bs p).1]) := by rw [← ha]; exact rp_push ht _
      have r2 : rp (upd pp m (Int32.ofNat p)) (accp ++ [p]) := by rw [← hap]; exact rp_push hpp _
      rw [pm_1 c, markHereY h c (by omega), bd_s]
      refine ⟨_, _, _, ?_, fun _ => ⟨rfl, r1, r2⟩⟩
      show B_X9_form_57 (Int32.ofNat bs.length) f kk _ _ (Int32.ofNat (pwr bs p).2) (0 : Int32) (Int32.ofNat (m + 1)) (wq5 (B_X9_form_57 (Int32.ofNat bs.length) f kk) n) = _
      unfold B_X9_form_57
      have c8' : (8 : Int32) ≤ Int32.ofNat (m + 1) := (n_le (a := 8) (by omega) (by omega)).mpr (by omega)
      rw [if_pos i00, here9 h (by omega), bd_s, if_pos c8']
      by_cases d : bI bs (pwr bs p).2 = (44 : Int32)
      · rw [if_pos d]; rfl
      · rw [if_neg d]; rfl
    · rw [pm_N c, markHereN h (by omega) c (by omega), bd_s]
      refine ⟨upd pp m (Int32.ofNat p), upd tp m (0 : Int32), Int32.ofNat (m + 1), ?_, by intro z; cases z⟩
      show B_X9_form_57 (Int32.ofNat bs.length) f kk _ _ (Int32.ofNat p) (1 : Int32) (Int32.ofNat (m + 1)) (wq5 (B_X9_form_57 (Int32.ofNat bs.length) f kk) n) = _
      unfold B_X9_form_57
      rw [if_neg i10]; rfl
  | succ r ih =>
    intro m p pp tp acc accp n hrm hn hp ha hap ht hpp
    obtain ⟨n, rfl⟩ : ∃ k, n = k + 1 := ⟨n - 1, by omega⟩
    by_cases c : isF bs p = true
    · obtain ⟨hw1, hw2⟩ := pwr_le c
      have r1 : rp (upd tp m (Int32.ofNat (pwr bs p).1)) (acc ++ [(pwr bs p).1]) := by rw [← ha]; exact rp_push ht _
      have r2 : rp (upd pp m (Int32.ofNat p)) (accp ++ [p]) := by rw [← hap]; exact rp_push hpp _
      by_cases d : isC bs (pwr bs p).2 44 = true
      · have hl := (isC_c d).1
        obtain ⟨pp', tp', m', e, hh⟩ := ih (m + 1) ((pwr bs p).2 + 1) _ _ (acc ++ [(pwr bs p).1]) (accp ++ [p]) n (by omega) (by omega) (by omega) (by simp [ha]) (by simp [hap]) r1 r2
        rw [pm_C c d, markHereY h c (by omega), bd_s]
        refine ⟨pp', tp', m', ?_, fun z => ?_⟩
        · show B_X9_form_57 (Int32.ofNat bs.length) f kk _ _ (Int32.ofNat (pwr bs p).2) (0 : Int32) (Int32.ofNat (m + 1)) (wq5 (B_X9_form_57 (Int32.ofNat bs.length) f kk) n) = _
          have ep : Int32.ofNat (pwr bs p).2 + (1 : Int32) = Int32.ofNat ((pwr bs p).2 + 1) := n_add _ 1
          generalize hW : wq5 (B_X9_form_57 (Int32.ofNat bs.length) f kk) n = W at e ⊢
          unfold B_X9_form_57
          have c8' : ¬ (8 : Int32) ≤ Int32.ofNat (m + 1) := c8 (by omega)
          have d2 : bI bs (pwr bs p).2 = (44 : Int32) := (bI_c (c := 44) h.2.2 (by omega)).mpr d
          rw [if_pos i00, here9 h (by omega), bd_s, if_neg c8', if_pos d2, ep]
          exact e
        · obtain ⟨h1, h2, h3⟩ := hh z
          refine ⟨?_, by simpa using h2, by simpa using h3⟩
          rw [h1, List.length_cons]; congr 1; omega
      · rw [pm_E c d, markHereY h c (by omega), bd_s]
        refine ⟨_, _, _, ?_, fun _ => ⟨rfl, r1, r2⟩⟩
        show B_X9_form_57 (Int32.ofNat bs.length) f kk _ _ (Int32.ofNat (pwr bs p).2) (0 : Int32) (Int32.ofNat (m + 1)) (wq5 (B_X9_form_57 (Int32.ofNat bs.length) f kk) n) = _
        unfold B_X9_form_57
        have d2 : ¬ bI bs (pwr bs p).2 = (44 : Int32) := fun z => d ((bI_c (c := 44) h.2.2 (by omega)).mp z)
        rw [if_pos i00, here9 h (by omega), bd_s, if_neg d2]; rfl
    · rw [pm_N c, markHereN h (by omega) c (by omega), bd_s]
      refine ⟨upd pp m (Int32.ofNat p), upd tp m (0 : Int32), Int32.ofNat (m + 1), ?_, by intro z; cases z⟩
      show B_X9_form_57 (Int32.ofNat bs.length) f kk _ _ (Int32.ofNat p) (1 : Int32) (Int32.ofNat (m + 1)) (wq5 (B_X9_form_57 (Int32.ofNat bs.length) f kk) n) = _
      unfold B_X9_form_57
      rw [if_neg i10]; rfl
