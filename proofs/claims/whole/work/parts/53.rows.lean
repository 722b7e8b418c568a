/-! Rows of powers, as the model works with them. -/
def rA (f : Nat → Int32) (o : Nat) (l : List Nat) : Prop := ∀ (k v : Nat), l[k]? = some v → f (o + k) = Int32.ofNat v
theorem rA_D {f : Nat → Int32} {o : Nat} {l : List Nat} (h : rA f o l) {k : Nat} (hk : k < l.length) : f (o + k) = Int32.ofNat (l.getD k 0) := h k _ (by rw [List.getD_eq_getElem?_getD, List.getElem?_eq_getElem hk]; rfl)
theorem rA_rp {f : Nat → Int32} {l : List Nat} (h : rp f l) : rA f 0 l := fun k v hv => by rw [Nat.zero_add]; exact h k v hv
theorem rA_same {f f' : Nat → Int32} {o : Nat} {l : List Nat} (h : rA f o l) (he : ∀ k, k < l.length → f' (o + k) = f (o + k)) : rA f' o l := fun k v hv => by
  rw [he k (List.getElem?_eq_some_iff.mp hv).1]; exact h k v hv
theorem cnt_take (p : Nat) (l : List Nat) {j : Nat} (hj : j < l.length) : (l.take (j + 1)).count p = (l.take j).count p + if l.getD j 0 = p then 1 else 0 := by
  rw [getD_el hj, List.take_succ_eq_append_getElem hj, List.count_append]
  congr 1
  by_cases c : l[j] = p
  · rw [if_pos c, c]; simp
  · rw [if_neg c]; simp [c]
theorem often9 {N : Nat} (hN : N < 100000) {f : Nat → Int32} {o : Nat} {l : List Nat} (hf : rA f o l) (hb : ∀ x ∈ l, x < 1000) (ho : o + l.length ≤ N) (hl : l.length < 100) {p : Nat} (hp : p < 1000) : F_X9_often N f (Int32.ofNat o) (Int32.ofNat l.length) (Int32.ofNat p) = some (Int32.ofNat (l.count p)) := by
  unfold F_X9_often
  refine wq2_it l.length (fun j => Int32.ofNat ((l.take j).count p)) (fun j => Int32.ofNat j) (fun j hj ag => ?_) (fun ag => ?_) FU (by unfold FU; omega)
  · have ej : ∀ j, Int32.ofNat j + (1 : Int32) = Int32.ofNat (j + 1) := fun j => n_add j 1
    have ej0 : ∀ j, Int32.ofNat j + (0 : Int32) = Int32.ofNat j := fun j => n_add j 0
    have hx := hb _ (getD_mem hj)
    unfold B_X9_often_6
    rw [if_neg (c_ge (by omega) (by omega) hj), n_add, ck_n (by omega) (by omega), n_clamp (by omega), rA_D hf hj, cnt_take p l hj, ej, ej, ej0]
    by_cases c : l.getD j 0 = p
    · rw [if_pos (by rw [c]), if_pos c]
    · rw [if_neg (fun z => c ((n_inj (by omega) (by omega)).mp z)), if_neg c]; rfl
  · unfold B_X9_often_6
    rw [if_pos ((n_le (by omega) (by omega)).mpr (Nat.le_refl _)), List.take_length]; rfl
/-- a row with one power less, and perhaps one one less -/
def lvG (pw ls : Nat) : Bool → Bool → List Nat → List Nat
  | _, _, [] => []
  | goes, less, d :: r => if goes = true ∧ d = pw then lvG pw ls false less r else if less = true ∧ d = ls then (d - 1) :: lvG pw ls goes false r else d :: lvG pw ls goes less r
theorem lvG_ff (pw ls : Nat) : ∀ l : List Nat, lvG pw ls false false l = l
  | [] => rfl
  | d :: r => by
    show (if false = true ∧ d = pw then lvG pw ls false false r else if false = true ∧ d = ls then (d - 1) :: lvG pw ls false false r else d :: lvG pw ls false false r) = _
    rw [if_neg (fun z => Bool.noConfusion z.1), if_neg (fun z => Bool.noConfusion z.1), lvG_ff pw ls r]
theorem lvG_tf (pw ls : Nat) : ∀ l : List Nat, pw ∈ l → l.Perm (pw :: lvG pw ls true false l)
  | d :: r, h => by
    show (d :: r).Perm (pw :: if true = true ∧ d = pw then lvG pw ls false false r else if false = true ∧ d = ls then (d - 1) :: lvG pw ls true false r else d :: lvG pw ls true false r)
    by_cases c : d = pw
    · rw [if_pos ⟨rfl, c⟩, lvG_ff, c]
    · rw [if_neg (fun z => c z.2), if_neg (fun z => Bool.noConfusion z.1)]
      have h2 : pw ∈ r := by
        rcases List.mem_cons.mp h with h | h
        · exact absurd h.symm c
        · exact h
      exact ((lvG_tf pw ls r h2).cons d).trans (List.Perm.swap pw d _)
theorem lvG_ft (pw ls : Nat) : ∀ l : List Nat, ls ∈ l → ∃ x, l.Perm (ls :: x) ∧ (lvG pw ls false true l).Perm ((ls - 1) :: x)
  | d :: r, h => by
    show ∃ x, (d :: r).Perm (ls :: x) ∧ (if false = true ∧ d = pw then lvG pw ls false true r else if true = true ∧ d = ls then (d - 1) :: lvG pw ls false false r else d :: lvG pw ls false true r).Perm ((ls - 1) :: x)
    rw [if_neg (fun z => Bool.noConfusion z.1)]
    by_cases c : d = ls
    · rw [if_pos ⟨rfl, c⟩, lvG_ff, c]
      exact ⟨r, List.Perm.refl _, List.Perm.refl _⟩
    · rw [if_neg (fun z => c z.2)]
      have h2 : ls ∈ r := by
        rcases List.mem_cons.mp h with h | h
        · exact absurd h.symm c
        · exact h
      obtain ⟨x, a, b⟩ := lvG_ft pw ls r h2
      exact ⟨d :: x, (a.cons d).trans (List.Perm.swap ls d x), (b.cons d).trans (List.Perm.swap (ls - 1) d x)⟩
theorem lvG_tt (pw ls : Nat) (hne : ¬ pw = ls) : ∀ l : List Nat, pw ∈ l → ls ∈ l → ∃ x, l.Perm (pw :: ls :: x) ∧ (lvG pw ls true true l).Perm ((ls - 1) :: x)
  | d :: r, h, h' => by
    show ∃ x, (d :: r).Perm (pw :: ls :: x) ∧ (if true = true ∧ d = pw then lvG pw ls false true r else if true = true ∧ d = ls then (d - 1) :: lvG pw ls true false r else d :: lvG pw ls true true r).Perm ((ls - 1) :: x)
    by_cases c : d = pw
    · rw [if_pos ⟨rfl, c⟩]
      have h2 : ls ∈ r := by
        rcases List.mem_cons.mp h' with h' | h'
        · exact absurd (c.symm.trans h'.symm) hne
        · exact h'
      obtain ⟨x, a, b⟩ := lvG_ft pw ls r h2
      exact ⟨x, by rw [c]; exact a.cons pw, b⟩
    · have h2 : pw ∈ r := by
        rcases List.mem_cons.mp h with h | h
        · exact absurd h.symm c
        · exact h
      rw [if_neg (fun z => c z.2)]
      by_cases e : d = ls
      · rw [if_pos ⟨rfl, e⟩]
        have a := lvG_tf pw ls r h2
        refine ⟨lvG pw ls true false r, ?_, by rw [e]⟩
        rw [e]
        exact (a.cons ls).trans (List.Perm.swap pw ls _)
      · rw [if_neg (fun z => e z.2)]
        have h3 : ls ∈ r := by
          rcases List.mem_cons.mp h' with h' | h'
          · exact absurd h'.symm e
          · exact h'
        obtain ⟨x, a, b⟩ := lvG_tt pw ls hne r h2 h3
        refine ⟨d :: x, ?_, (b.cons d).trans (List.Perm.swap (ls - 1) d x)⟩
        exact (a.cons d).trans ((List.Perm.swap pw d _).trans ((List.Perm.swap ls d x).cons pw))
theorem lvG_len (pw ls : Nat) : ∀ (g s : Bool) (l : List Nat), (lvG pw ls g s l).length ≤ l.length
  | _, _, [] => Nat.le_refl _
  | g, s, d :: r => by
    show (if g = true ∧ d = pw then lvG pw ls false s r else if s = true ∧ d = ls then (d - 1) :: lvG pw ls g false r else d :: lvG pw ls g s r).length ≤ (d :: r).length
    have h1 := lvG_len pw ls false s r
    have h2 := lvG_len pw ls g false r
    have h3 := lvG_len pw ls g s r
    by_cases c : g = true ∧ d = pw
    · rw [if_pos c, List.length_cons]; omega
    · rw [if_neg c]
      by_cases e : s = true ∧ d = ls
      · rw [if_pos e, List.length_cons, List.length_cons]; omega
      · rw [if_neg e, List.length_cons, List.length_cons]; omega
theorem b21 : B_X9_leaves_21x1 = B_X9_leaves_21 := rfl
def bI1 (b : Bool) : Int32 := if b = true then 1 else 0
theorem bI1_0 (b : Bool) : (bI1 b = 0) ↔ b = false := by cases b <;> decide
theorem lv_loop {N : Nat} (hN : N < 100000) {o to n pw ls : Nat} (hpw : pw < 1000) (hls : ls < 1000) (hto : o + n ≤ to) (htN : to + n ≤ N) (hn : n < 100) :
    ∀ (r a b : List Nat) (gs ss : Bool) (f : Nat → Int32) (m : Nat), n = a.length + r.length → b.length ≤ a.length → r.length < m → (∀ (k v : Nat), (a ++ r)[k]? = some v → f (o + k) = Int32.ofNat v) → rA f to b → (∀ x ∈ r, x < 1000) → (ss = true → 0 < ls) →
    ∃ f', rA f' to (b ++ lvG pw ls gs ss r) ∧ (∀ k, k < to ∨ to + n ≤ k → f' k = f k) ∧ ∀ kk, wq5 (B_X9_leaves_21 N (Int32.ofNat o) (Int32.ofNat n) (Int32.ofNat pw) (Int32.ofNat ls) (Int32.ofNat to) kk) m f (Int32.ofNat b.length) (bI1 gs) (bI1 ss) (Int32.ofNat a.length) = kk f'
  | [], a, b, gs, ss, f, m, hl, hba, hm, hf, hb, hr, hs => by
    obtain ⟨m, rfl⟩ : ∃ q, m = q + 1 := ⟨m - 1, by simp at hm; omega⟩
    refine ⟨f, ?_, fun k _ => rfl, fun kk => ?_⟩
    · have : lvG pw ls gs ss [] = [] := by unfold lvG; rfl
      rw [this, List.append_nil]; exact hb
    · show B_X9_leaves_21 N (Int32.ofNat o) (Int32.ofNat n) (Int32.ofNat pw) (Int32.ofNat ls) (Int32.ofNat to) kk f (Int32.ofNat b.length) (bI1 gs) (bI1 ss) (Int32.ofNat a.length) (wq5 (B_X9_leaves_21 N (Int32.ofNat o) (Int32.ofNat n) (Int32.ofNat pw) (Int32.ofNat ls) (Int32.ofNat to) kk) m) = kk f
      unfold B_X9_leaves_21
      rw [List.length_nil] at hl
      rw [if_pos ((n_le (by omega) (by omega)).mpr (by omega))]
  | d :: r, a, b, gs, ss, f, m, hl, hba, hm, hf, hb, hr, hs => by
    obtain ⟨m, rfl⟩ : ∃ q, m = q + 1 := ⟨m - 1, by simp at hm; omega⟩
    rw [List.length_cons] at hl hm
    have gd : f (o + a.length) = Int32.ofNat d := hf a.length d at_mid
    have hd := hr d List.mem_cons_self
    have ej : ∀ j, Int32.ofNat j + (1 : Int32) = Int32.ofNat (j + 1) := fun j => n_add j 1
    have ea : a.length + 1 = (a ++ [d]).length := by simp
    have eq1 : a ++ [d] ++ r = a ++ d :: r := by simp
    -- a place written, or not
    have put : ∀ (v : Nat) (gs' ss' : Bool) (hss : ss' = true → 0 < ls), ∃ f', rA f' to (b ++ v :: lvG pw ls gs' ss' r) ∧ (∀ k, k < to ∨ to + n ≤ k → f' k = f k) ∧ ∀ kk, wq5 (B_X9_leaves_21 N (Int32.ofNat o) (Int32.ofNat n) (Int32.ofNat pw) (Int32.ofNat ls) (Int32.ofNat to) kk) m (upd f (to + b.length) (Int32.ofNat v)) (Int32.ofNat (b.length + 1)) (bI1 gs') (bI1 ss') (Int32.ofNat (a.length + 1)) = kk f' := fun v gs' ss' hss => by
      have r1 : rA (upd f (to + b.length) (Int32.ofNat v)) to (b ++ [v]) := fun k x hx => by
        rw [upd_e]
        by_cases c : k = b.length
        · subst c
          rw [at_mid (r := [])] at hx
          rw [if_pos rfl, Option.some.inj hx]
        · have hk := (List.getElem?_eq_some_iff.mp hx).1
          rw [List.length_append, List.length_singleton] at hk
          rw [List.getElem?_append_left (by omega)] at hx
          rw [if_neg (by omega)]; exact hb k x hx
      obtain ⟨f', h1, h2, h3⟩ := lv_loop hN hpw hls hto htN hn r (a ++ [d]) (b ++ [v]) gs' ss' (upd f (to + b.length) (Int32.ofNat v)) m (by rw [← ea]; omega) (by rw [← ea]; simp; omega) (by omega) (fun k x hx => by
        rw [eq1] at hx
        have hk := (List.getElem?_eq_some_iff.mp hx).1
        rw [List.length_append, List.length_cons] at hk
        rw [upd_e, if_neg (by omega)]; exact hf k x hx) r1 (fun x hx => hr x (List.mem_cons_of_mem _ hx)) hss
      refine ⟨f', by simpa using h1, fun k hk => ?_, fun kk => ?_⟩
      · rw [h2 k hk, upd_e, if_neg (by omega)]
      · have := h3 kk
        rw [← ea, show (b ++ [v]).length = b.length + 1 by simp] at this
        exact this
    have st : ∀ kk X, B_X9_leaves_21 N (Int32.ofNat o) (Int32.ofNat n) (Int32.ofNat pw) (Int32.ofNat ls) (Int32.ofNat to) kk f (Int32.ofNat b.length) (bI1 gs) (bI1 ss) (Int32.ofNat a.length) (wq5 (B_X9_leaves_21 N (Int32.ofNat o) (Int32.ofNat n) (Int32.ofNat pw) (Int32.ofNat ls) (Int32.ofNat to) kk) m) = X → wq5 (B_X9_leaves_21 N (Int32.ofNat o) (Int32.ofNat n) (Int32.ofNat pw) (Int32.ofNat ls) (Int32.ofNat to) kk) (m + 1) f (Int32.ofNat b.length) (bI1 gs) (bI1 ss) (Int32.ofNat a.length) = X := fun kk X hX => hX
    have cpw : (Int32.ofNat d = Int32.ofNat pw) ↔ d = pw := n_inj (by omega) (by omega)
    have cls : (Int32.ofNat d = Int32.ofNat ls) ↔ d = ls := n_inj (by omega) (by omega)
    have hB : ∀ kk, B_X9_leaves_21 N (Int32.ofNat o) (Int32.ofNat n) (Int32.ofNat pw) (Int32.ofNat ls) (Int32.ofNat to) kk f (Int32.ofNat b.length) (bI1 gs) (bI1 ss) (Int32.ofNat a.length) (wq5 (B_X9_leaves_21 N (Int32.ofNat o) (Int32.ofNat n) (Int32.ofNat pw) (Int32.ofNat ls) (Int32.ofNat to) kk) m) =
        if gs = true ∧ d = pw then wq5 (B_X9_leaves_21 N (Int32.ofNat o) (Int32.ofNat n) (Int32.ofNat pw) (Int32.ofNat ls) (Int32.ofNat to) kk) m f (Int32.ofNat b.length) (bI1 false) (bI1 ss) (Int32.ofNat (a.length + 1)) else
        if ss = true ∧ d = ls then wq5 (B_X9_leaves_21 N (Int32.ofNat o) (Int32.ofNat n) (Int32.ofNat pw) (Int32.ofNat ls) (Int32.ofNat to) kk) m (upd f (to + b.length) (Int32.ofNat d + (-1 : Int32))) (Int32.ofNat (b.length + 1)) (bI1 gs) (bI1 false) (Int32.ofNat (a.length + 1)) else
        wq5 (B_X9_leaves_21 N (Int32.ofNat o) (Int32.ofNat n) (Int32.ofNat pw) (Int32.ofNat ls) (Int32.ofNat to) kk) m (upd f (to + b.length) (Int32.ofNat d)) (Int32.ofNat (b.length + 1)) (bI1 gs) (bI1 ss) (Int32.ofNat (a.length + 1)) := fun kk => by
      generalize wq5 (B_X9_leaves_21 N (Int32.ofNat o) (Int32.ofNat n) (Int32.ofNat pw) (Int32.ofNat ls) (Int32.ofNat to) kk) m = W
      unfold B_X9_leaves_21 J_X9_leaves_52
      rw [if_neg (c_ge (by omega) (by omega) (by omega)), n_add, n_add, ej, ej, ck_n (by omega) (by omega), ck_n (by omega) (by omega), ck_n (by omega) (by omega), n_clamp (by omega), n_clamp (by omega), gd]
      have tl : (if bI1 ss = 0 then W (upd f (to + b.length) (Int32.ofNat d)) (Int32.ofNat (b.length + 1)) (bI1 gs) (bI1 ss) (Int32.ofNat (a.length + 1)) else if Int32.ofNat d = Int32.ofNat ls then W (upd f (to + b.length) (Int32.ofNat d + (-1 : Int32))) (Int32.ofNat (b.length + 1)) (bI1 gs) (0 : Int32) (Int32.ofNat (a.length + 1)) else W (upd f (to + b.length) (Int32.ofNat d)) (Int32.ofNat (b.length + 1)) (bI1 gs) (bI1 ss) (Int32.ofNat (a.length + 1))) = if ss = true ∧ d = ls then W (upd f (to + b.length) (Int32.ofNat d + (-1 : Int32))) (Int32.ofNat (b.length + 1)) (bI1 gs) (bI1 false) (Int32.ofNat (a.length + 1)) else W (upd f (to + b.length) (Int32.ofNat d)) (Int32.ofNat (b.length + 1)) (bI1 gs) (bI1 ss) (Int32.ofNat (a.length + 1)) := by
        cases ss with
        | false => rw [if_pos (by decide), if_neg (fun z => Bool.noConfusion z.1)]
        | true =>
          rw [if_neg (by decide)]
          by_cases e : d = ls
          · rw [if_pos (cls.mpr e), if_pos ⟨rfl, e⟩]; rfl
          · rw [if_neg (fun z => e (cls.mp z)), if_neg (fun z => e z.2)]
      rw [tl]
      cases gs with
      | false =>
        have e1 : ¬ (false = true ∧ d = pw) := fun z => Bool.noConfusion z.1
        rw [if_pos (by decide), if_neg e1]
      | true =>
        rw [if_neg (by decide)]
        by_cases e : d = pw
        · have e1 : true = true ∧ d = pw := ⟨rfl, e⟩
          rw [if_pos (cpw.mpr e), if_pos e1]; rfl
        · have e1 : ¬ (true = true ∧ d = pw) := fun z => e z.2
          rw [if_neg (fun z => e (cpw.mp z)), if_neg e1]
    have hlv : lvG pw ls gs ss (d :: r) = if gs = true ∧ d = pw then lvG pw ls false ss r else if ss = true ∧ d = ls then (d - 1) :: lvG pw ls gs false r else d :: lvG pw ls gs ss r := by
      conv => lhs; unfold lvG
    by_cases c : gs = true ∧ d = pw
    · rw [if_pos c] at hlv
      obtain ⟨f', h1, h2, h3⟩ := lv_loop hN hpw hls hto htN hn r (a ++ [d]) b false ss f m (by rw [← ea]; omega) (by rw [← ea]; omega) (by omega) (by rw [eq1]; exact hf) hb (fun x hx => hr x (List.mem_cons_of_mem _ hx)) hs
      refine ⟨f', by rw [hlv]; exact h1, h2, fun kk => st kk _ ?_⟩
      rw [hB kk, if_pos c, ea]; exact h3 kk
    · rw [if_neg c] at hlv
      by_cases e : ss = true ∧ d = ls
      · rw [if_pos e] at hlv
        obtain ⟨f', h1, h2, h3⟩ := put (d - 1) gs false (fun z => Bool.noConfusion z)
        have ed : Int32.ofNat d + (-1 : Int32) = Int32.ofNat (d - 1) := by
          have := hs e.1
          rw [← Int32.sub_eq_add_neg]; exact n_sub (b := 1) (by omega)
        refine ⟨f', by rw [hlv]; exact h1, h2, fun kk => st kk _ ?_⟩
        rw [hB kk, if_neg c, if_pos e, ed]; exact h3 kk
      · rw [if_neg e] at hlv
        obtain ⟨f', h1, h2, h3⟩ := put d gs ss hs
        refine ⟨f', by rw [hlv]; exact h1, h2, fun kk => st kk _ ?_⟩
        rw [hB kk, if_neg c, if_neg e]; exact h3 kk
theorem leaves9 {N : Nat} (hN : N < 100000) {f : Nat → Int32} {o to pw ls : Nat} {l : List Nat} (hf : rA f o l) (hpw : pw < 1000) (hls : ls < 1000) (hto : o + l.length ≤ to) (htN : to + l.length ≤ N) (hn : l.length < 100) (hx : ∀ x ∈ l, x < 1000) :
    ∃ f', F_X9_leaves N f (Int32.ofNat o) (Int32.ofNat l.length) (Int32.ofNat pw) (Int32.ofNat ls) (Int32.ofNat to) = some f' ∧ rA f' to (lvG pw ls true (decide (0 < ls)) l) ∧ ∀ k, k < to ∨ to + l.length ≤ k → f' k = f k := by
  obtain ⟨f', h1, h2, h3⟩ := lv_loop hN (o := o) hpw hls hto htN hn l [] [] true (decide (0 < ls)) f FU (by simp) (Nat.le_refl _) (by unfold FU; omega) hf (fun k v hv => absurd hv (by simp)) hx (fun z => of_decide_eq_true z)
  refine ⟨f', ?_, h1, h2⟩
  unfold F_X9_leaves
  by_cases c : ls = 0
  · subst c
    rw [if_pos (by decide)]
    have := h3 K_X9_leaves_21_88
    exact this
  · rw [if_neg (fun z => c ((le0_iff (by omega)).mp z)), b21]
    have e : decide (0 < ls) = true := decide_eq_true (by omega)
    rw [e] at h3
    have := h3 K_X9_leaves_21_88x1
    exact this
