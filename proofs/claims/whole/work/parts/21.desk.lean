/-! Desks copied, laid and taken. -/
theorem c_ge {m j : Nat} (hm : m < 2147483648) (hj : j < 2147483648) (h : j < m) : ¬ (Int32.ofNat m ≤ Int32.ofNat j) := fun z => by have := (n_le hm hj).mp z; omega
theorem copyFrom8 (g s l : Int32) (t : Int64) (ap pp : Nat → Int32) : F_X1_copyFrom g s l t ap pp = some ((fun k => if k < 8 then pp k else ap k), g, s, l, t) := by
  unfold F_X1_copyFrom
  have e0 : (fun k => if k < 0 then pp k else ap k) = ap := by funext k; simp
  have key := wq2_it (B := B_X1_copyFrom_18 pp (K_X1_copyFrom_18_42 g s l t)) 8 (fun j k => if k < j then pp k else ap k) (fun j => Int32.ofNat j) (r := some ((fun k => if k < 8 then pp k else ap k), g, s, l, t))
    (fun j hj ag => by
      unfold B_X1_copyFrom_18
      have c : ¬ ((8 : Int32) ≤ Int32.ofNat j) := c_ge (m := 8) (by omega) (by omega) hj
      rw [if_neg c, ck_n hj (by omega), ck_n hj (by omega), n_clamp (by omega), show (1 : Int32) = Int32.ofNat 1 from rfl, n_add]
      congr 1
      funext k
      rw [upd_e]
      by_cases e : k = j
      · subst e; rw [if_pos rfl, if_pos (by omega)]
      · rw [if_neg e]
        by_cases d : k < j
        · rw [if_pos d, if_pos (by omega)]
        · rw [if_neg d, if_neg (by omega)])
    (fun ag => by
      unfold B_X1_copyFrom_18
      rw [if_pos (by decide)]
      rfl) FU (by unfold FU; omega)
  have k2 : wq2 (B_X1_copyFrom_18 pp (K_X1_copyFrom_18_42 g s l t)) FU (fun k => if k < 0 then pp k else ap k) (Int32.ofNat 0) = some ((fun k => if k < 8 then pp k else ap k), g, s, l, t) := key
  rw [e0] at k2
  exact k2
/-- what the model lays of a desk, by place -/
def recA (g m l s : Int32) (p t : Nat → Int32) (n c : Nat) (j : Nat) : Int32 := if j = 0 then g else if j = 1 then m else if j = 2 then l else if j = 3 then s else if j < 12 then (if j - 4 < n then p (j - 4) else 0) else if j < 15 then (if j - 12 < c then t (j - 12) else 0) else 0
def layd (a0 : Nat → Int32) (o : Nat) (r : Nat → Int32) (e : Nat) : Nat → Int32 := fun k => if o ≤ k ∧ k < o + e then r (k - o) else a0 k
theorem layd_s (a0 : Nat → Int32) (o : Nat) (r : Nat → Int32) (e : Nat) : upd (layd a0 o r e) (o + e) (r e) = layd a0 o r (e + 1) := by
  funext k
  rw [upd_e]
  unfold layd
  by_cases q : k = o + e
  · subst q; rw [if_pos rfl, if_pos (by omega), show o + e - o = e by omega]
  · rw [if_neg q]
    by_cases d : o ≤ k ∧ k < o + e
    · rw [if_pos d, if_pos (by omega)]
    · rw [if_neg d, if_neg (by omega)]
theorem layd_0 (a0 : Nat → Int32) (o : Nat) (r : Nat → Int32) : layd a0 o r 0 = a0 := by
  funext k; unfold layd; rw [if_neg (by omega)]
theorem lays9 {g m l s : Int32} {n c N o : Nat} {a0 p t : Nat → Int32} (hm : m = Int32.ofNat n) (hs : s = Int32.ofNat c) (hn : n ≤ 8) (hc : c ≤ 3) (hN : o + 16 ≤ N) (hN2 : N < 1000) :
    F_X9_lays g m l s N a0 p t (Int32.ofNat o) = some (layd a0 o (recA g m l s p t n c) 16) := by
  unfold F_X9_lays
  have e1 : Int32.ofNat o + (1 : Int32) = Int32.ofNat (o + 1) := n_add o 1
  have e2 : Int32.ofNat o + (2 : Int32) = Int32.ofNat (o + 2) := n_add o 2
  have e3 : Int32.ofNat o + (3 : Int32) = Int32.ofNat (o + 3) := n_add o 3
  have e4 : Int32.ofNat o + (4 : Int32) = Int32.ofNat (o + 4) := n_add o 4
  have e12 : Int32.ofNat o + (12 : Int32) = Int32.ofNat (o + 12) := n_add o 12
  have e15 : Int32.ofNat o + (15 : Int32) = Int32.ofNat (o + 15) := n_add o 15
  rw [e1, e2, e3, ck_n (by omega) (by omega), ck_n (by omega) (by omega), ck_n (by omega) (by omega), ck_n (by omega) (by omega), n_clamp (by omega), n_clamp (by omega), n_clamp (by omega), n_clamp (by omega)]
  generalize hr : recA g m l s p t n c = r
  have r0 : r 0 = g := by rw [← hr]; rfl
  have r1 : r 1 = m := by rw [← hr]; rfl
  have r2 : r 2 = l := by rw [← hr]; rfl
  have r3 : r 3 = s := by rw [← hr]; rfl
  have r15 : r 15 = 0 := by rw [← hr]; rfl
  have rp : ∀ j, j < 8 → r (4 + j) = if j < n then p j else 0 := fun j hj => by
    rw [← hr]; unfold recA
    rw [if_neg (by omega), if_neg (by omega), if_neg (by omega), if_neg (by omega), if_pos (by omega), show 4 + j - 4 = j by omega]
  have rt : ∀ j, j < 3 → r (12 + j) = if j < c then t j else 0 := fun j hj => by
    rw [← hr]; unfold recA
    rw [if_neg (by omega), if_neg (by omega), if_neg (by omega), if_neg (by omega), if_neg (by omega), if_pos (by omega), show 12 + j - 12 = j by omega]
  have f4 : upd (upd (upd (upd a0 o g) (o + 1) m) (o + 2) l) (o + 3) s = layd a0 o r 4 := by
    rw [← r0, ← r1, ← r2, ← r3]
    conv => lhs; rw [← layd_0 a0 o r]
    have := layd_s a0 o r 0
    rw [Nat.add_zero] at this
    rw [this, layd_s, layd_s, layd_s]
  rw [f4]
  have kt : wq2 (B_X9_lays_75 s N t (Int32.ofNat o) (K_X9_lays_75_112 N (Int32.ofNat o))) FU (layd a0 o r 12) (Int32.ofNat 0) = some (layd a0 o r 16) := by
    refine wq2_it 3 (fun j => layd a0 o r (12 + j)) (fun j => Int32.ofNat j) (fun j hj ag => ?_) (fun ag => ?_) FU (by unfold FU; omega)
    · unfold B_X9_lays_75
      have q : ¬ ((3 : Int32) ≤ Int32.ofNat j) := c_ge (m := 3) (by omega) (by omega) hj
      rw [if_neg q, e12, n_add, show (1 : Int32) = Int32.ofNat 1 from rfl, n_add, ck_n (by omega) (by omega), ck_n (by omega) (by omega), ck_n (by omega) (by omega), n_clamp (by omega), n_clamp (by omega)]
      have w := layd_s a0 o r (12 + j)
      rw [rt j hj, show o + (12 + j) = o + 12 + j by omega] at w
      by_cases d : j < c
      · have d2 : ¬ (s ≤ Int32.ofNat j) := by rw [hs]; exact c_ge (by omega) (by omega) d
        rw [if_pos d] at w
        rw [if_neg d2, w]
        rfl
      · have d2 : s ≤ Int32.ofNat j := by rw [hs]; exact (n_le (by omega) (by omega)).mpr (by omega)
        rw [if_neg d] at w
        rw [if_pos d2, w]
        rfl
    · unfold B_X9_lays_75 K_X9_lays_75_112
      rw [if_pos (by decide), e15, ck_n (by omega) (by omega), n_clamp (by omega)]
      have w := layd_s a0 o r 15
      rw [r15] at w
      exact congrArg some w
  refine wq2_it 8 (fun j => layd a0 o r (4 + j)) (fun j => Int32.ofNat j) (fun j hj ag => ?_) (fun ag => ?_) FU (by unfold FU; omega)
  · unfold B_X9_lays_36
    have q : ¬ ((8 : Int32) ≤ Int32.ofNat j) := c_ge (m := 8) (by omega) (by omega) hj
    rw [if_neg q, e4, n_add, show (1 : Int32) = Int32.ofNat 1 from rfl, n_add, ck_n (by omega) (by omega), ck_n (by omega) (by omega), ck_n (by omega) (by omega), n_clamp (by omega), n_clamp (by omega)]
    have w := layd_s a0 o r (4 + j)
    rw [rp j hj, show o + (4 + j) = o + 4 + j by omega] at w
    by_cases d : j < n
    · have d2 : ¬ (m ≤ Int32.ofNat j) := by rw [hm]; exact c_ge (by omega) (by omega) d
      rw [if_pos d] at w
      rw [if_neg d2, w]
      rfl
    · have d2 : m ≤ Int32.ofNat j := by rw [hm]; exact (n_le (by omega) (by omega)).mpr (by omega)
      rw [if_neg d] at w
      rw [if_pos d2, w]
      rfl
  · unfold B_X9_lays_36 K_X9_lays_36_73
    rw [if_pos (by decide)]
    exact kt
