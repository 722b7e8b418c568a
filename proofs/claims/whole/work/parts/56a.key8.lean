/-! The class: keys of MARKS and more powers; parts of fractions. -/
def gth (l : List Nat) : Int64 := Int64.ofNat ((l.map (fun p => if p ≤ 14 then 16 ^ p else 0)).sum)
theorem shl16 : ∀ p, p < 15 → lshl (1 : Int64) ((4 : Int32) * Int32.ofNat p) = Int64.ofNat (16 ^ p) := by decide +kernel
theorem add8 (l : List Nat) {p : Nat} (hp : p < 1000000) : F_X3_add (Int32.ofNat l.length) (Int32.ofNat l.sum) (gth l) (Int32.ofNat p) = some (Int32.ofNat (l ++ [p]).length, Int32.ofNat (l ++ [p]).sum, gth (l ++ [p])) := by
  have e1 : Int32.ofNat l.length + (1 : Int32) = Int32.ofNat (l ++ [p]).length := len1 l p
  have e2 : Int32.ofNat l.sum + Int32.ofNat p = Int32.ofNat (l ++ [p]).sum := by rw [n_add, List.sum_append_nat]; simp
  have eg : gth (l ++ [p]) = gth l + Int64.ofNat (if p ≤ 14 then 16 ^ p else 0) := by
    unfold gth
    rw [List.map_append, List.sum_append_nat, ← Int64.ofNat_add]; simp
  unfold F_X3_add
  rw [if_neg (n_neg (by omega)), e1, e2, eg]
  by_cases c : p ≤ 14
  · have c2 : ¬ (14 : Int32) < Int32.ofNat p := fun z => by have := (n_lt (a := 14) (by omega) (by omega)).mp z; omega
    rw [if_neg c2, shl16 p (by omega), if_pos c]
  · have c2 : (14 : Int32) < Int32.ofNat p := (n_lt (a := 14) (by omega) (by omega)).mpr (by omega)
    have z : gth l + Int64.ofNat 0 = gth l := by
      show gth l + 0 = gth l
      rw [Int64.add_zero]
    rw [if_pos c2, if_neg c, z]
theorem shl60 : ∀ g, g < 3 → lshl (Int32.ofNat g).toInt64 (60 : Int32) = Int64.ofNat (g * 1152921504606846976) := by decide +kernel
theorem keyFor8 {g : Nat} {l : List Nat} (hg : g < 3) (hl : l.length < 12) (hs : l.sum < 1000000) : F_X3_keyFor (Int32.ofNat l.length) (Int32.ofNat l.sum) (gth l) (Int32.ofNat g) = some (Int64.ofNat (kzL g l)) := by
  unfold F_X3_keyFor
  by_cases c : 2 * g + l.length ≤ 2
  · rw [if_pos ((gn_le g hg _ hl).mpr c), kzL_N (fun h => by have := h.2.2.1; omega)]; rfl
  · rw [if_neg (fun z => c ((gn_le g hg _ hl).mp z)), gn_eq g hg _ hl (by omega)]
    by_cases d : l.sum = 3 * g + l.length - 3
    · have hv : vR g l := ⟨hg, hl, by omega, by omega⟩
      have eg : gth l = Int64.ofNat ((l.map (fun p => 16 ^ p)).sum) := by
        unfold gth
        congr 2
        refine List.map_congr_left fun p hp => ?_
        rw [if_pos (vR_le hv p hp)]
      rw [if_pos (by rw [d]), shl60 g hg, eg, ← Int64.ofNat_add, kzL_Y hv]; rfl
    · rw [if_neg (fun z => d ((n_inj (by omega) (by omega)).mp z)), kzL_N (fun h => d (by have := h.2.2.2; omega))]; rfl
def pO (x : Option Nat) : Int32 := match x with
  | none => -1
  | some a => Int32.ofNat a
def lO (x : Option Nat) : List Nat := match x with
  | none => []
  | some a => [a + 1]
def oL (x : Option Nat) : Prop := ∀ a, x = some a → a < 1000
theorem lO_len (x : Option Nat) : (lO x).length ≤ 1 := by cases x <;> simp [lO]
theorem lO_sum {x : Option Nat} (h : oL x) : (lO x).sum ≤ 1000 := by
  cases x with
  | none => simp [lO]
  | some a => have := h a rfl; simp [lO]; omega
theorem pO_n {a : Nat} (h : a < 1000) : ¬ Int32.ofNat a = (-1 : Int32) := fun z => by
  have z1 := congrArg Int32.toInt z
  rw [n_toInt (by omega), show (-1 : Int32).toInt = -1 from rfl] at z1
  omega
theorem pO_1 (a : Nat) : Int32.ofNat a + (1 : Int32) = Int32.ofNat (a + 1) := n_add a 1
theorem sum_le12 : ∀ {l : List Nat}, (∀ x ∈ l, x ≤ 12) → l.sum ≤ 12 * l.length
  | [], _ => Nat.le_refl _
  | x :: l, h => by
    have h1 := h x List.mem_cons_self
    have h2 := sum_le12 (l := l) (fun y hy => h y (List.mem_cons_of_mem _ hy))
    rw [List.sum_cons, List.length_cons]; omega
theorem keyW8 {g s lim : Int32} {tr : Int64} {pw : Nat → Int32} {a : AD} (h : D8 g s lim tr pw a) (hv : VD a) {x y z : Option Nat} (hx : oL x) (hy : oL y) (hz : oL z) :
    ∃ sz sm ga, F_X8_keyWith g s pw (pO x) (pO y) (pO z) = some (Int64.ofNat (kzL a.1 (a.2.1 ++ lO x ++ lO y ++ lO z)), sz, sm, ga) := by
  obtain ⟨rfl, rfl, rfl, rfl, hp⟩ := h
  have n8 := hv.2.1
  have hs := sum_le12 hv.2.2.1
  have lx := lO_len x; have ly := lO_len y; have lz := lO_len z
  have sx := lO_sum hx; have sy := lO_sum hy; have sz := lO_sum hz
  have j89 : ∀ l : List Nat, l.length < 12 → l.sum < 1000000 → J_X8_keyWith_89 (Int32.ofNat a.1) (Int32.ofNat l.length) (Int32.ofNat l.sum) (gth l) = some (Int64.ofNat (kzL a.1 l), Int32.ofNat l.length, Int32.ofNat l.sum, gth l) := fun l h1 h2 => by
    unfold J_X8_keyWith_89
    rw [keyFor8 (by have := hv.1; omega) h1 h2, bd_s]
  have j74 : ∀ l : List Nat, l.length < 11 → l.sum < 900000 → J_X8_keyWith_74 (Int32.ofNat a.1) (pO z) (Int32.ofNat l.length) (Int32.ofNat l.sum) (gth l) = some (Int64.ofNat (kzL a.1 (l ++ lO z)), Int32.ofNat (l ++ lO z).length, Int32.ofNat (l ++ lO z).sum, gth (l ++ lO z)) := fun l h1 h2 => by
    unfold J_X8_keyWith_74
    cases z with
    | none =>
      have e : l ++ lO none = l := List.append_nil l
      rw [if_pos (show pO none = (-1 : Int32) from rfl), e, j89 l (by omega) (by omega)]
    | some c =>
      have hc := hz c rfl
      rw [if_neg (show ¬ pO (some c) = (-1 : Int32) from pO_n hc), show pO (some c) = Int32.ofNat c from rfl, pO_1, add8 l (by omega), bd_s]
      dsimp only
      rw [j89 (l ++ [c + 1]) (by simp; omega) (by rw [List.sum_append_nat]; simp; omega)]; rfl
  have j59 : ∀ l : List Nat, l.length < 10 → l.sum < 800000 → J_X8_keyWith_59 (Int32.ofNat a.1) (pO y) (pO z) (Int32.ofNat l.length) (Int32.ofNat l.sum) (gth l) = some (Int64.ofNat (kzL a.1 (l ++ lO y ++ lO z)), Int32.ofNat (l ++ lO y ++ lO z).length, Int32.ofNat (l ++ lO y ++ lO z).sum, gth (l ++ lO y ++ lO z)) := fun l h1 h2 => by
    unfold J_X8_keyWith_59
    cases y with
    | none =>
      have e : l ++ lO none = l := List.append_nil l
      rw [if_pos (show pO none = (-1 : Int32) from rfl), e, j74 l (by omega) (by omega)]
    | some c =>
      have hc := hy c rfl
      rw [if_neg (show ¬ pO (some c) = (-1 : Int32) from pO_n hc), show pO (some c) = Int32.ofNat c from rfl, pO_1, add8 l (by omega), bd_s]
      dsimp only
      rw [j74 (l ++ [c + 1]) (by simp; omega) (by rw [List.sum_append_nat]; simp; omega)]; rfl
  have k10 : ∀ l : List Nat, l.length < 9 → l.sum < 700000 → K_X8_keyWith_10_44 (Int32.ofNat a.1) (pO x) (pO y) (pO z) (Int32.ofNat l.length) (Int32.ofNat l.sum) (gth l) = some (Int64.ofNat (kzL a.1 (l ++ lO x ++ lO y ++ lO z)), Int32.ofNat (l ++ lO x ++ lO y ++ lO z).length, Int32.ofNat (l ++ lO x ++ lO y ++ lO z).sum, gth (l ++ lO x ++ lO y ++ lO z)) := fun l h1 h2 => by
    unfold K_X8_keyWith_10_44
    cases x with
    | none =>
      have e : l ++ lO none = l := List.append_nil l
      rw [if_pos (show pO none = (-1 : Int32) from rfl), e, j59 l (by omega) (by omega)]
    | some c =>
      have hc := hx c rfl
      rw [if_neg (show ¬ pO (some c) = (-1 : Int32) from pO_n hc), show pO (some c) = Int32.ofNat c from rfl, pO_1, add8 l (by omega), bd_s]
      dsimp only
      rw [j59 (l ++ [c + 1]) (by simp; omega) (by rw [List.sum_append_nat]; simp; omega)]; rfl
  refine ⟨Int32.ofNat (a.2.1 ++ lO x ++ lO y ++ lO z).length, Int32.ofNat (a.2.1 ++ lO x ++ lO y ++ lO z).sum, gth (a.2.1 ++ lO x ++ lO y ++ lO z), ?_⟩
  · unfold F_X8_keyWith F_X3_begin
    rw [bd_s]
    dsimp only
    refine wq4_it a.2.1.length (fun j => Int32.ofNat (a.2.1.take j).length) (fun j => Int32.ofNat (a.2.1.take j).sum) (fun j => gth (a.2.1.take j)) (fun j => Int32.ofNat j) (fun j hj ag => ?_) (fun ag => ?_) FU (by unfold FU; omega)
    · have hd := hv.2.2.1 _ (getD_mem hj)
      have ej : Int32.ofNat j + (1 : Int32) = Int32.ofNat (j + 1) := n_add j 1
      have et : a.2.1.take (j + 1) = a.2.1.take j ++ [a.2.1.getD j 0] := by rw [getD_el hj, List.take_succ_eq_append_getElem hj]
      unfold B_X8_keyWith_10
      rw [if_neg (c_ge (by omega) (by omega) hj), powerAt8 (by omega), bd_s, hp j hj, add8 (a.2.1.take j) (by omega), bd_s, ej, et]
    · unfold B_X8_keyWith_10
      rw [if_pos ((n_le (by omega) (by omega)).mpr (Nat.le_refl _)), List.take_length]
      exact k10 a.2.1 (by omega) (by omega)
theorem aboveW8 {g s lim : Int32} {tr : Int64} {pw : Nat → Int32} {a : AD} (h : D8 g s lim tr pw a) (hv : VD a) {x y z : Option Nat} (hx : oL x) (hy : oL y) (hz : oL z) {keys aboves : Nat → Int64} (hT : TI keys aboves) :
    ∃ keys' aboves' sz sm ga, F_X8_aboveWith g s pw keys aboves (pO x) (pO y) (pO z) = some (Int64.ofNat (VW a.1 (a.2.1 ++ lO x ++ lO y ++ lO z)), keys', aboves', sz, sm, ga) ∧ TI keys' aboves' := by
  obtain ⟨sz, sm, ga, e1⟩ := keyW8 h hv hx hy hz
  obtain ⟨keys', aboves', e2, hT'⟩ := above8 (kzL_O a.1 (a.2.1 ++ lO x ++ lO y ++ lO z)) hT
  refine ⟨keys', aboves', sz, sm, ga, ?_, hT'⟩
  unfold F_X8_aboveWith
  rw [e1, bd_s]
  dsimp only
  rw [e2, bd_s]; rfl
/-! Parts of fractions. -/
theorem mod64 {a b : Nat} (ha : a < 4611686018427387904) (hb : b < 4611686018427387904) : Int64.ofNat a - Int64.ofNat a / Int64.ofNat b * Int64.ofNat b = Int64.ofNat (a % b) := by
  have hm : a % b = a - a / b * b := by
    have := Nat.div_add_mod a b
    rw [Nat.mul_comm] at this; omega
  have hle : a / b * b ≤ a := Nat.div_mul_le_self a b
  rw [hm, Int64.ofNat_sub _ _ hle, Int64.ofNat_mul, Int64.ofNat_div (by omega) (by omega)]
theorem dvl_n {β : Type} {b : Nat} {k : Option β} (h : 0 < b) (hb : b < 4611686018427387904) : dvl (Int64.ofNat b) k = k := by
  unfold dvl
  rw [if_neg (fun z => by have := k64_inj (a := b) (b := 0) (by omega) (by omega) z; omega)]
theorem lg_0 {b : Nat} (hb : b < 4611686018427387904) : (lg_cmp (Int64.ofNat b) (0 : Int64) = 0) ↔ b = 0 := by
  rw [lg_cmp_eq]
  constructor
  · intro z; exact k64_inj (a := b) (b := 0) (by omega) (by omega) z
  · intro z; rw [z]; rfl
theorem mod_half {b c : Nat} (hc : 0 < c) (h : c < b) : 2 * (b % c) < b := by
  have h1 := Nat.mod_lt b hc
  have h2 := Nat.div_add_mod b c
  have h3 : 1 ≤ b / c := (Nat.one_le_div_iff hc).mpr (by omega)
  have h4 : c * 1 ≤ c * (b / c) := Nat.mul_le_mul_left c h3
  omega
theorem gcd8 : ∀ (k a b i n : Nat), a < 4611686018427387904 → b < 2 ^ k → k ≤ 40 → i + 2 * k ≤ 199 → 2 * k + 1 < n → wq3 (B_X8_greatestDivisor_9 K_X8_greatestDivisor_9_45) n (Int64.ofNat a) (Int64.ofNat b) (Int32.ofNat i) = some (Int64.ofNat (Nat.gcd a b)) := by
  have base : ∀ (a i n : Nat), i < 200 → 0 < n → wq3 (B_X8_greatestDivisor_9 K_X8_greatestDivisor_9_45) n (Int64.ofNat a) (Int64.ofNat 0) (Int32.ofNat i) = some (Int64.ofNat a) := fun a i n hi hn => by
    obtain ⟨n, rfl⟩ : ∃ m, n = m + 1 := ⟨n - 1, by omega⟩
    show B_X8_greatestDivisor_9 K_X8_greatestDivisor_9_45 (Int64.ofNat a) (Int64.ofNat 0) (Int32.ofNat i) _ = _
    unfold B_X8_greatestDivisor_9
    rw [if_neg (show ¬ (200 : Int32) ≤ Int32.ofNat i from c_ge (m := 200) (by omega) (by omega) hi), if_pos ((lg_0 (b := 0) (by omega)).mpr rfl)]; rfl
  have step : ∀ (a b i n : Nat), i < 200 → 0 < b → a < 4611686018427387904 → b < 4611686018427387904 → wq3 (B_X8_greatestDivisor_9 K_X8_greatestDivisor_9_45) (n + 1) (Int64.ofNat a) (Int64.ofNat b) (Int32.ofNat i) = wq3 (B_X8_greatestDivisor_9 K_X8_greatestDivisor_9_45) n (Int64.ofNat b) (Int64.ofNat (a % b)) (Int32.ofNat (i + 1)) := fun a b i n hi hb ha hb2 => by
    show B_X8_greatestDivisor_9 K_X8_greatestDivisor_9_45 (Int64.ofNat a) (Int64.ofNat b) (Int32.ofNat i) (wq3 (B_X8_greatestDivisor_9 K_X8_greatestDivisor_9_45) n) = _
    generalize wq3 (B_X8_greatestDivisor_9 K_X8_greatestDivisor_9_45) n = W
    unfold B_X8_greatestDivisor_9
    have ei : Int32.ofNat i + (1 : Int32) = Int32.ofNat (i + 1) := n_add i 1
    rw [if_neg (show ¬ (200 : Int32) ≤ Int32.ofNat i from c_ge (m := 200) (by omega) (by omega) hi), if_neg (fun z => by have := (lg_0 hb2).mp z; omega), dvl_n hb hb2, mod64 ha hb2, ei]
  intro k
  induction k with
  | zero =>
    intro a b i n ha hb hk hi hn
    have : b = 0 := by rw [Nat.pow_zero] at hb; omega
    subst this
    rw [base a i n (by omega) (by omega), Nat.gcd_zero_right]
  | succ k ih =>
    intro a b i n ha hb hk hi hn
    have hp : 2 ^ (k + 1) ≤ 2 ^ 41 := Nat.pow_le_pow_right (by omega) (by omega)
    have h41 : 2 ^ 41 = 2199023255552 := by decide
    by_cases b0 : b = 0
    · subst b0; rw [base a i n (by omega) (by omega), Nat.gcd_zero_right]
    · obtain ⟨n, rfl⟩ : ∃ m, n = m + 2 := ⟨n - 2, by omega⟩
      have hm := Nat.mod_lt a (show 0 < b by omega)
      rw [step a b i (n + 1) (by omega) (by omega) ha (by omega), Nat.gcd_comm a b, Nat.gcd_rec b a]
      by_cases c0 : a % b = 0
      · rw [c0, base b (i + 1) (n + 1) (by omega) (by omega), Nat.gcd_zero_left]
      · have hh := mod_half (b := b) (c := a % b) (by omega) hm
        rw [step b (a % b) (i + 1) n (by omega) (by omega) (by omega) (by omega), ih (a % b) (b % (a % b)) (i + 2) n (by omega) (by rw [Nat.pow_succ] at hb; omega) (by omega) (by omega) (by omega), Nat.gcd_comm (a % b) b, Nat.gcd_comm (a % b) (b % (a % b)), ← Nat.gcd_rec, Nat.gcd_comm]
theorem gcd9 : ∀ (k a b n : Nat), a < 4611686018427387904 → b < 2 ^ k → k ≤ 40 → 2 * k + 1 < n → wq2 (B_X9_common_28 K_X9_common_28_53) n (Int64.ofNat a) (Int64.ofNat b) = some (Int64.ofNat (Nat.gcd a b)) := by
  have base : ∀ (a n : Nat), 0 < n → wq2 (B_X9_common_28 K_X9_common_28_53) n (Int64.ofNat a) (Int64.ofNat 0) = some (Int64.ofNat a) := fun a n hn => by
    obtain ⟨n, rfl⟩ : ∃ m, n = m + 1 := ⟨n - 1, by omega⟩
    show B_X9_common_28 K_X9_common_28_53 (Int64.ofNat a) (Int64.ofNat 0) _ = _
    unfold B_X9_common_28
    rw [if_pos ((lg_0 (b := 0) (by omega)).mpr rfl)]; rfl
  have step : ∀ (a b n : Nat), 0 < b → a < 4611686018427387904 → b < 4611686018427387904 → wq2 (B_X9_common_28 K_X9_common_28_53) (n + 1) (Int64.ofNat a) (Int64.ofNat b) = wq2 (B_X9_common_28 K_X9_common_28_53) n (Int64.ofNat b) (Int64.ofNat (a % b)) := fun a b n hb ha hb2 => by
    show B_X9_common_28 K_X9_common_28_53 (Int64.ofNat a) (Int64.ofNat b) (wq2 (B_X9_common_28 K_X9_common_28_53) n) = _
    generalize wq2 (B_X9_common_28 K_X9_common_28_53) n = W
    unfold B_X9_common_28
    rw [if_neg (fun z => by have := (lg_0 hb2).mp z; omega), dvl_n hb hb2, mod64 ha hb2]
  intro k
  induction k with
  | zero =>
    intro a b n ha hb hk hn
    have : b = 0 := by rw [Nat.pow_zero] at hb; omega
    subst this
    rw [base a n (by omega), Nat.gcd_zero_right]
  | succ k ih =>
    intro a b n ha hb hk hn
    have hp : 2 ^ (k + 1) ≤ 2 ^ 41 := Nat.pow_le_pow_right (by omega) (by omega)
    have h41 : 2 ^ 41 = 2199023255552 := by decide
    by_cases b0 : b = 0
    · subst b0; rw [base a n (by omega), Nat.gcd_zero_right]
    · obtain ⟨n, rfl⟩ : ∃ m, n = m + 2 := ⟨n - 2, by omega⟩
      have hm := Nat.mod_lt a (show 0 < b by omega)
      rw [step a b (n + 1) (by omega) ha (by omega), Nat.gcd_comm a b, Nat.gcd_rec b a]
      by_cases c0 : a % b = 0
      · rw [c0, base b (n + 1) (by omega), Nat.gcd_zero_left]
      · have hh := mod_half (b := b) (c := a % b) (by omega) hm
        rw [step b (a % b) n (by omega) (by omega) (by omega), ih (a % b) (b % (a % b)) n (by omega) (by rw [Nat.pow_succ] at hb; omega) (by omega) (by omega), Nat.gcd_comm (a % b) b, Nat.gcd_comm (a % b) (b % (a % b)), ← Nat.gcd_rec, Nat.gcd_comm]
