/-! My own rows: a contract in one form (k_pre, k_posts), a call that leaves the other cells at their places. -/
def FU : Nat := 6000
def bd {α β : Type} (x : Option α) (f : α → Option β) : Option β := match x with
  | some a => f a
  | none => none
theorem bd_e {α β : Type} {x : Option α} {f : α → Option β} {r : β} (h : bd x f = some r) : ∃ a, x = some a ∧ f a = some r := by
  cases x with
  | none => cases h
  | some a => exact ⟨a, rfl, h⟩
def ck {β : Type} (i : Int32) (n : Nat) (k : Option β) : Option β := if i < 0 ∨ n ≤ i.toNatClampNeg then none else k
theorem ck_e {β : Type} {i : Int32} {n : Nat} {k : Option β} {r : β} (h : ck i n k = some r) : vp_in i n ∧ k = some r := by
  unfold ck at h
  by_cases c : i < 0 ∨ n ≤ i.toNatClampNeg
  · rw [if_pos c] at h; cases h
  · rw [if_neg c] at h; exact ⟨c, h⟩
def dvi {β : Type} (y : Int32) (k : Option β) : Option β := if y = 0 then none else k
theorem dvi_e {β : Type} {y : Int32} {k : Option β} {r : β} (h : dvi y k = some r) : ¬ y = 0 ∧ k = some r := by
  unfold dvi at h
  by_cases c : y = 0
  · rw [if_pos c] at h; cases h
  · rw [if_neg c] at h; exact ⟨c, h⟩
def dvl {β : Type} (y : Int64) (k : Option β) : Option β := if y = 0 then none else k
theorem dvl_e {β : Type} {y : Int64} {k : Option β} {r : β} (h : dvl y k = some r) : ¬ y = 0 ∧ k = some r := by
  unfold dvl at h
  by_cases c : y = 0
  · rw [if_pos c] at h; cases h
  · rw [if_neg c] at h; exact ⟨c, h⟩
theorem it_p {α : Type} {c : Prop} {dc : Decidable c} {a b r : α} (h : (@ite α c dc a b) = r) (hc : c) : a = r := (if_pos hc).symm.trans h
theorem it_n {α : Type} {c : Prop} {dc : Decidable c} {a b r : α} (h : (@ite α c dc a b) = r) (hc : ¬ c) : b = r := (if_neg hc).symm.trans h
def iush (x y : Int32) : Int32 := (x.toUInt32 >>> (y.toUInt32 &&& Int32.toUInt32 31)).toInt32
def lshl (x : Int64) (y : Int32) : Int64 := x <<< (y.toInt64 &&& 63)
def lush (x : Int64) (y : Int32) : Int64 := (x.toUInt64 >>> (y.toInt64.toUInt64 &&& Int64.toUInt64 63)).toInt64
def wq0 {R : Type} (B : (Option R) → Option R) : Nat → Option R
  | 0 => none
  | n + 1 => B  (wq0 B n)
theorem wq0_0 {R : Type} {B : (Option R) → Option R}  {r : R} {P : Prop} (h : wq0 B 0  = some r) : P := by cases h
theorem wq0_s {R : Type} {B : (Option R) → Option R} {n : Nat}  {r : Option R} (h : wq0 B (n + 1)  = r) : B  (wq0 B n) = r := h
def wq1 {A0 R : Type} (B : A0 → (A0 → Option R) → Option R) : Nat → A0 → Option R
  | 0, _ => none
  | n + 1, a0 => B a0 (wq1 B n)
theorem wq1_0 {A0 R : Type} {B : A0 → (A0 → Option R) → Option R} {a0 : A0} {r : R} {P : Prop} (h : wq1 B 0 a0 = some r) : P := by cases h
theorem wq1_s {A0 R : Type} {B : A0 → (A0 → Option R) → Option R} {n : Nat} {a0 : A0} {r : Option R} (h : wq1 B (n + 1) a0 = r) : B a0 (wq1 B n) = r := h
def wq2 {A0 A1 R : Type} (B : A0 → A1 → (A0 → A1 → Option R) → Option R) : Nat → A0 → A1 → Option R
  | 0, _, _ => none
  | n + 1, a0, a1 => B a0 a1 (wq2 B n)
theorem wq2_0 {A0 A1 R : Type} {B : A0 → A1 → (A0 → A1 → Option R) → Option R} {a0 : A0} {a1 : A1} {r : R} {P : Prop} (h : wq2 B 0 a0 a1 = some r) : P := by cases h
theorem wq2_s {A0 A1 R : Type} {B : A0 → A1 → (A0 → A1 → Option R) → Option R} {n : Nat} {a0 : A0} {a1 : A1} {r : Option R} (h : wq2 B (n + 1) a0 a1 = r) : B a0 a1 (wq2 B n) = r := h
def wq3 {A0 A1 A2 R : Type} (B : A0 → A1 → A2 → (A0 → A1 → A2 → Option R) → Option R) : Nat → A0 → A1 → A2 → Option R
  | 0, _, _, _ => none
  | n + 1, a0, a1, a2 => B a0 a1 a2 (wq3 B n)
theorem wq3_0 {A0 A1 A2 R : Type} {B : A0 → A1 → A2 → (A0 → A1 → A2 → Option R) → Option R} {a0 : A0} {a1 : A1} {a2 : A2} {r : R} {P : Prop} (h : wq3 B 0 a0 a1 a2 = some r) : P := by cases h
theorem wq3_s {A0 A1 A2 R : Type} {B : A0 → A1 → A2 → (A0 → A1 → A2 → Option R) → Option R} {n : Nat} {a0 : A0} {a1 : A1} {a2 : A2} {r : Option R} (h : wq3 B (n + 1) a0 a1 a2 = r) : B a0 a1 a2 (wq3 B n) = r := h
def wq4 {A0 A1 A2 A3 R : Type} (B : A0 → A1 → A2 → A3 → (A0 → A1 → A2 → A3 → Option R) → Option R) : Nat → A0 → A1 → A2 → A3 → Option R
  | 0, _, _, _, _ => none
  | n + 1, a0, a1, a2, a3 => B a0 a1 a2 a3 (wq4 B n)
theorem wq4_0 {A0 A1 A2 A3 R : Type} {B : A0 → A1 → A2 → A3 → (A0 → A1 → A2 → A3 → Option R) → Option R} {a0 : A0} {a1 : A1} {a2 : A2} {a3 : A3} {r : R} {P : Prop} (h : wq4 B 0 a0 a1 a2 a3 = some r) : P := by cases h
theorem wq4_s {A0 A1 A2 A3 R : Type} {B : A0 → A1 → A2 → A3 → (A0 → A1 → A2 → A3 → Option R) → Option R} {n : Nat} {a0 : A0} {a1 : A1} {a2 : A2} {a3 : A3} {r : Option R} (h : wq4 B (n + 1) a0 a1 a2 a3 = r) : B a0 a1 a2 a3 (wq4 B n) = r := h
def wq5 {A0 A1 A2 A3 A4 R : Type} (B : A0 → A1 → A2 → A3 → A4 → (A0 → A1 → A2 → A3 → A4 → Option R) → Option R) : Nat → A0 → A1 → A2 → A3 → A4 → Option R
  | 0, _, _, _, _, _ => none
  | n + 1, a0, a1, a2, a3, a4 => B a0 a1 a2 a3 a4 (wq5 B n)
theorem wq5_0 {A0 A1 A2 A3 A4 R : Type} {B : A0 → A1 → A2 → A3 → A4 → (A0 → A1 → A2 → A3 → A4 → Option R) → Option R} {a0 : A0} {a1 : A1} {a2 : A2} {a3 : A3} {a4 : A4} {r : R} {P : Prop} (h : wq5 B 0 a0 a1 a2 a3 a4 = some r) : P := by cases h
theorem wq5_s {A0 A1 A2 A3 A4 R : Type} {B : A0 → A1 → A2 → A3 → A4 → (A0 → A1 → A2 → A3 → A4 → Option R) → Option R} {n : Nat} {a0 : A0} {a1 : A1} {a2 : A2} {a3 : A3} {a4 : A4} {r : Option R} (h : wq5 B (n + 1) a0 a1 a2 a3 a4 = r) : B a0 a1 a2 a3 a4 (wq5 B n) = r := h
def wq6 {A0 A1 A2 A3 A4 A5 R : Type} (B : A0 → A1 → A2 → A3 → A4 → A5 → (A0 → A1 → A2 → A3 → A4 → A5 → Option R) → Option R) : Nat → A0 → A1 → A2 → A3 → A4 → A5 → Option R
  | 0, _, _, _, _, _, _ => none
  | n + 1, a0, a1, a2, a3, a4, a5 => B a0 a1 a2 a3 a4 a5 (wq6 B n)
theorem wq6_0 {A0 A1 A2 A3 A4 A5 R : Type} {B : A0 → A1 → A2 → A3 → A4 → A5 → (A0 → A1 → A2 → A3 → A4 → A5 → Option R) → Option R} {a0 : A0} {a1 : A1} {a2 : A2} {a3 : A3} {a4 : A4} {a5 : A5} {r : R} {P : Prop} (h : wq6 B 0 a0 a1 a2 a3 a4 a5 = some r) : P := by cases h
theorem wq6_s {A0 A1 A2 A3 A4 A5 R : Type} {B : A0 → A1 → A2 → A3 → A4 → A5 → (A0 → A1 → A2 → A3 → A4 → A5 → Option R) → Option R} {n : Nat} {a0 : A0} {a1 : A1} {a2 : A2} {a3 : A3} {a4 : A4} {a5 : A5} {r : Option R} (h : wq6 B (n + 1) a0 a1 a2 a3 a4 a5 = r) : B a0 a1 a2 a3 a4 a5 (wq6 B n) = r := h
def wq7 {A0 A1 A2 A3 A4 A5 A6 R : Type} (B : A0 → A1 → A2 → A3 → A4 → A5 → A6 → (A0 → A1 → A2 → A3 → A4 → A5 → A6 → Option R) → Option R) : Nat → A0 → A1 → A2 → A3 → A4 → A5 → A6 → Option R
  | 0, _, _, _, _, _, _, _ => none
  | n + 1, a0, a1, a2, a3, a4, a5, a6 => B a0 a1 a2 a3 a4 a5 a6 (wq7 B n)
theorem wq7_0 {A0 A1 A2 A3 A4 A5 A6 R : Type} {B : A0 → A1 → A2 → A3 → A4 → A5 → A6 → (A0 → A1 → A2 → A3 → A4 → A5 → A6 → Option R) → Option R} {a0 : A0} {a1 : A1} {a2 : A2} {a3 : A3} {a4 : A4} {a5 : A5} {a6 : A6} {r : R} {P : Prop} (h : wq7 B 0 a0 a1 a2 a3 a4 a5 a6 = some r) : P := by cases h
theorem wq7_s {A0 A1 A2 A3 A4 A5 A6 R : Type} {B : A0 → A1 → A2 → A3 → A4 → A5 → A6 → (A0 → A1 → A2 → A3 → A4 → A5 → A6 → Option R) → Option R} {n : Nat} {a0 : A0} {a1 : A1} {a2 : A2} {a3 : A3} {a4 : A4} {a5 : A5} {a6 : A6} {r : Option R} (h : wq7 B (n + 1) a0 a1 a2 a3 a4 a5 a6 = r) : B a0 a1 a2 a3 a4 a5 a6 (wq7 B n) = r := h
def wq8 {A0 A1 A2 A3 A4 A5 A6 A7 R : Type} (B : A0 → A1 → A2 → A3 → A4 → A5 → A6 → A7 → (A0 → A1 → A2 → A3 → A4 → A5 → A6 → A7 → Option R) → Option R) : Nat → A0 → A1 → A2 → A3 → A4 → A5 → A6 → A7 → Option R
  | 0, _, _, _, _, _, _, _, _ => none
  | n + 1, a0, a1, a2, a3, a4, a5, a6, a7 => B a0 a1 a2 a3 a4 a5 a6 a7 (wq8 B n)
theorem wq8_0 {A0 A1 A2 A3 A4 A5 A6 A7 R : Type} {B : A0 → A1 → A2 → A3 → A4 → A5 → A6 → A7 → (A0 → A1 → A2 → A3 → A4 → A5 → A6 → A7 → Option R) → Option R} {a0 : A0} {a1 : A1} {a2 : A2} {a3 : A3} {a4 : A4} {a5 : A5} {a6 : A6} {a7 : A7} {r : R} {P : Prop} (h : wq8 B 0 a0 a1 a2 a3 a4 a5 a6 a7 = some r) : P := by cases h
theorem wq8_s {A0 A1 A2 A3 A4 A5 A6 A7 R : Type} {B : A0 → A1 → A2 → A3 → A4 → A5 → A6 → A7 → (A0 → A1 → A2 → A3 → A4 → A5 → A6 → A7 → Option R) → Option R} {n : Nat} {a0 : A0} {a1 : A1} {a2 : A2} {a3 : A3} {a4 : A4} {a5 : A5} {a6 : A6} {a7 : A7} {r : Option R} (h : wq8 B (n + 1) a0 a1 a2 a3 a4 a5 a6 a7 = r) : B a0 a1 a2 a3 a4 a5 a6 a7 (wq8 B n) = r := h
def wq9 {A0 A1 A2 A3 A4 A5 A6 A7 A8 R : Type} (B : A0 → A1 → A2 → A3 → A4 → A5 → A6 → A7 → A8 → (A0 → A1 → A2 → A3 → A4 → A5 → A6 → A7 → A8 → Option R) → Option R) : Nat → A0 → A1 → A2 → A3 → A4 → A5 → A6 → A7 → A8 → Option R
  | 0, _, _, _, _, _, _, _, _, _ => none
  | n + 1, a0, a1, a2, a3, a4, a5, a6, a7, a8 => B a0 a1 a2 a3 a4 a5 a6 a7 a8 (wq9 B n)
theorem wq9_0 {A0 A1 A2 A3 A4 A5 A6 A7 A8 R : Type} {B : A0 → A1 → A2 → A3 → A4 → A5 → A6 → A7 → A8 → (A0 → A1 → A2 → A3 → A4 → A5 → A6 → A7 → A8 → Option R) → Option R} {a0 : A0} {a1 : A1} {a2 : A2} {a3 : A3} {a4 : A4} {a5 : A5} {a6 : A6} {a7 : A7} {a8 : A8} {r : R} {P : Prop} (h : wq9 B 0 a0 a1 a2 a3 a4 a5 a6 a7 a8 = some r) : P := by cases h
theorem wq9_s {A0 A1 A2 A3 A4 A5 A6 A7 A8 R : Type} {B : A0 → A1 → A2 → A3 → A4 → A5 → A6 → A7 → A8 → (A0 → A1 → A2 → A3 → A4 → A5 → A6 → A7 → A8 → Option R) → Option R} {n : Nat} {a0 : A0} {a1 : A1} {a2 : A2} {a3 : A3} {a4 : A4} {a5 : A5} {a6 : A6} {a7 : A7} {a8 : A8} {r : Option R} (h : wq9 B (n + 1) a0 a1 a2 a3 a4 a5 a6 a7 a8 = r) : B a0 a1 a2 a3 a4 a5 a6 a7 a8 (wq9 B n) = r := h
def wq10 {A0 A1 A2 A3 A4 A5 A6 A7 A8 A9 R : Type} (B : A0 → A1 → A2 → A3 → A4 → A5 → A6 → A7 → A8 → A9 → (A0 → A1 → A2 → A3 → A4 → A5 → A6 → A7 → A8 → A9 → Option R) → Option R) : Nat → A0 → A1 → A2 → A3 → A4 → A5 → A6 → A7 → A8 → A9 → Option R
  | 0, _, _, _, _, _, _, _, _, _, _ => none
  | n + 1, a0, a1, a2, a3, a4, a5, a6, a7, a8, a9 => B a0 a1 a2 a3 a4 a5 a6 a7 a8 a9 (wq10 B n)
theorem wq10_0 {A0 A1 A2 A3 A4 A5 A6 A7 A8 A9 R : Type} {B : A0 → A1 → A2 → A3 → A4 → A5 → A6 → A7 → A8 → A9 → (A0 → A1 → A2 → A3 → A4 → A5 → A6 → A7 → A8 → A9 → Option R) → Option R} {a0 : A0} {a1 : A1} {a2 : A2} {a3 : A3} {a4 : A4} {a5 : A5} {a6 : A6} {a7 : A7} {a8 : A8} {a9 : A9} {r : R} {P : Prop} (h : wq10 B 0 a0 a1 a2 a3 a4 a5 a6 a7 a8 a9 = some r) : P := by cases h
theorem wq10_s {A0 A1 A2 A3 A4 A5 A6 A7 A8 A9 R : Type} {B : A0 → A1 → A2 → A3 → A4 → A5 → A6 → A7 → A8 → A9 → (A0 → A1 → A2 → A3 → A4 → A5 → A6 → A7 → A8 → A9 → Option R) → Option R} {n : Nat} {a0 : A0} {a1 : A1} {a2 : A2} {a3 : A3} {a4 : A4} {a5 : A5} {a6 : A6} {a7 : A7} {a8 : A8} {a9 : A9} {r : Option R} (h : wq10 B (n + 1) a0 a1 a2 a3 a4 a5 a6 a7 a8 a9 = r) : B a0 a1 a2 a3 a4 a5 a6 a7 a8 a9 (wq10 B n) = r := h
def wq11 {A0 A1 A2 A3 A4 A5 A6 A7 A8 A9 A10 R : Type} (B : A0 → A1 → A2 → A3 → A4 → A5 → A6 → A7 → A8 → A9 → A10 → (A0 → A1 → A2 → A3 → A4 → A5 → A6 → A7 → A8 → A9 → A10 → Option R) → Option R) : Nat → A0 → A1 → A2 → A3 → A4 → A5 → A6 → A7 → A8 → A9 → A10 → Option R
  | 0, _, _, _, _, _, _, _, _, _, _, _ => none
  | n + 1, a0, a1, a2, a3, a4, a5, a6, a7, a8, a9, a10 => B a0 a1 a2 a3 a4 a5 a6 a7 a8 a9 a10 (wq11 B n)
theorem wq11_0 {A0 A1 A2 A3 A4 A5 A6 A7 A8 A9 A10 R : Type} {B : A0 → A1 → A2 → A3 → A4 → A5 → A6 → A7 → A8 → A9 → A10 → (A0 → A1 → A2 → A3 → A4 → A5 → A6 → A7 → A8 → A9 → A10 → Option R) → Option R} {a0 : A0} {a1 : A1} {a2 : A2} {a3 : A3} {a4 : A4} {a5 : A5} {a6 : A6} {a7 : A7} {a8 : A8} {a9 : A9} {a10 : A10} {r : R} {P : Prop} (h : wq11 B 0 a0 a1 a2 a3 a4 a5 a6 a7 a8 a9 a10 = some r) : P := by cases h
theorem wq11_s {A0 A1 A2 A3 A4 A5 A6 A7 A8 A9 A10 R : Type} {B : A0 → A1 → A2 → A3 → A4 → A5 → A6 → A7 → A8 → A9 → A10 → (A0 → A1 → A2 → A3 → A4 → A5 → A6 → A7 → A8 → A9 → A10 → Option R) → Option R} {n : Nat} {a0 : A0} {a1 : A1} {a2 : A2} {a3 : A3} {a4 : A4} {a5 : A5} {a6 : A6} {a7 : A7} {a8 : A8} {a9 : A9} {a10 : A10} {r : Option R} (h : wq11 B (n + 1) a0 a1 a2 a3 a4 a5 a6 a7 a8 a9 a10 = r) : B a0 a1 a2 a3 a4 a5 a6 a7 a8 a9 a10 (wq11 B n) = r := h
def wq12 {A0 A1 A2 A3 A4 A5 A6 A7 A8 A9 A10 A11 R : Type} (B : A0 → A1 → A2 → A3 → A4 → A5 → A6 → A7 → A8 → A9 → A10 → A11 → (A0 → A1 → A2 → A3 → A4 → A5 → A6 → A7 → A8 → A9 → A10 → A11 → Option R) → Option R) : Nat → A0 → A1 → A2 → A3 → A4 → A5 → A6 → A7 → A8 → A9 → A10 → A11 → Option R
  | 0, _, _, _, _, _, _, _, _, _, _, _, _ => none
  | n + 1, a0, a1, a2, a3, a4, a5, a6, a7, a8, a9, a10, a11 => B a0 a1 a2 a3 a4 a5 a6 a7 a8 a9 a10 a11 (wq12 B n)
theorem wq12_0 {A0 A1 A2 A3 A4 A5 A6 A7 A8 A9 A10 A11 R : Type} {B : A0 → A1 → A2 → A3 → A4 → A5 → A6 → A7 → A8 → A9 → A10 → A11 → (A0 → A1 → A2 → A3 → A4 → A5 → A6 → A7 → A8 → A9 → A10 → A11 → Option R) → Option R} {a0 : A0} {a1 : A1} {a2 : A2} {a3 : A3} {a4 : A4} {a5 : A5} {a6 : A6} {a7 : A7} {a8 : A8} {a9 : A9} {a10 : A10} {a11 : A11} {r : R} {P : Prop} (h : wq12 B 0 a0 a1 a2 a3 a4 a5 a6 a7 a8 a9 a10 a11 = some r) : P := by cases h
theorem wq12_s {A0 A1 A2 A3 A4 A5 A6 A7 A8 A9 A10 A11 R : Type} {B : A0 → A1 → A2 → A3 → A4 → A5 → A6 → A7 → A8 → A9 → A10 → A11 → (A0 → A1 → A2 → A3 → A4 → A5 → A6 → A7 → A8 → A9 → A10 → A11 → Option R) → Option R} {n : Nat} {a0 : A0} {a1 : A1} {a2 : A2} {a3 : A3} {a4 : A4} {a5 : A5} {a6 : A6} {a7 : A7} {a8 : A8} {a9 : A9} {a10 : A10} {a11 : A11} {r : Option R} (h : wq12 B (n + 1) a0 a1 a2 a3 a4 a5 a6 a7 a8 a9 a10 a11 = r) : B a0 a1 a2 a3 a4 a5 a6 a7 a8 a9 a10 a11 (wq12 B n) = r := h
def wq13 {A0 A1 A2 A3 A4 A5 A6 A7 A8 A9 A10 A11 A12 R : Type} (B : A0 → A1 → A2 → A3 → A4 → A5 → A6 → A7 → A8 → A9 → A10 → A11 → A12 → (A0 → A1 → A2 → A3 → A4 → A5 → A6 → A7 → A8 → A9 → A10 → A11 → A12 → Option R) → Option R) : Nat → A0 → A1 → A2 → A3 → A4 → A5 → A6 → A7 → A8 → A9 → A10 → A11 → A12 → Option R
  | 0, _, _, _, _, _, _, _, _, _, _, _, _, _ => none
  | n + 1, a0, a1, a2, a3, a4, a5, a6, a7, a8, a9, a10, a11, a12 => B a0 a1 a2 a3 a4 a5 a6 a7 a8 a9 a10 a11 a12 (wq13 B n)
theorem wq13_0 {A0 A1 A2 A3 A4 A5 A6 A7 A8 A9 A10 A11 A12 R : Type} {B : A0 → A1 → A2 → A3 → A4 → A5 → A6 → A7 → A8 → A9 → A10 → A11 → A12 → (A0 → A1 → A2 → A3 → A4 → A5 → A6 → A7 → A8 → A9 → A10 → A11 → A12 → Option R) → Option R} {a0 : A0} {a1 : A1} {a2 : A2} {a3 : A3} {a4 : A4} {a5 : A5} {a6 : A6} {a7 : A7} {a8 : A8} {a9 : A9} {a10 : A10} {a11 : A11} {a12 : A12} {r : R} {P : Prop} (h : wq13 B 0 a0 a1 a2 a3 a4 a5 a6 a7 a8 a9 a10 a11 a12 = some r) : P := by cases h
theorem wq13_s {A0 A1 A2 A3 A4 A5 A6 A7 A8 A9 A10 A11 A12 R : Type} {B : A0 → A1 → A2 → A3 → A4 → A5 → A6 → A7 → A8 → A9 → A10 → A11 → A12 → (A0 → A1 → A2 → A3 → A4 → A5 → A6 → A7 → A8 → A9 → A10 → A11 → A12 → Option R) → Option R} {n : Nat} {a0 : A0} {a1 : A1} {a2 : A2} {a3 : A3} {a4 : A4} {a5 : A5} {a6 : A6} {a7 : A7} {a8 : A8} {a9 : A9} {a10 : A10} {a11 : A11} {a12 : A12} {r : Option R} (h : wq13 B (n + 1) a0 a1 a2 a3 a4 a5 a6 a7 a8 a9 a10 a11 a12 = r) : B a0 a1 a2 a3 a4 a5 a6 a7 a8 a9 a10 a11 a12 (wq13 B n) = r := h
def wq14 {A0 A1 A2 A3 A4 A5 A6 A7 A8 A9 A10 A11 A12 A13 R : Type} (B : A0 → A1 → A2 → A3 → A4 → A5 → A6 → A7 → A8 → A9 → A10 → A11 → A12 → A13 → (A0 → A1 → A2 → A3 → A4 → A5 → A6 → A7 → A8 → A9 → A10 → A11 → A12 → A13 → Option R) → Option R) : Nat → A0 → A1 → A2 → A3 → A4 → A5 → A6 → A7 → A8 → A9 → A10 → A11 → A12 → A13 → Option R
  | 0, _, _, _, _, _, _, _, _, _, _, _, _, _, _ => none
  | n + 1, a0, a1, a2, a3, a4, a5, a6, a7, a8, a9, a10, a11, a12, a13 => B a0 a1 a2 a3 a4 a5 a6 a7 a8 a9 a10 a11 a12 a13 (wq14 B n)
theorem wq14_0 {A0 A1 A2 A3 A4 A5 A6 A7 A8 A9 A10 A11 A12 A13 R : Type} {B : A0 → A1 → A2 → A3 → A4 → A5 → A6 → A7 → A8 → A9 → A10 → A11 → A12 → A13 → (A0 → A1 → A2 → A3 → A4 → A5 → A6 → A7 → A8 → A9 → A10 → A11 → A12 → A13 → Option R) → Option R} {a0 : A0} {a1 : A1} {a2 : A2} {a3 : A3} {a4 : A4} {a5 : A5} {a6 : A6} {a7 : A7} {a8 : A8} {a9 : A9} {a10 : A10} {a11 : A11} {a12 : A12} {a13 : A13} {r : R} {P : Prop} (h : wq14 B 0 a0 a1 a2 a3 a4 a5 a6 a7 a8 a9 a10 a11 a12 a13 = some r) : P := by cases h
theorem wq14_s {A0 A1 A2 A3 A4 A5 A6 A7 A8 A9 A10 A11 A12 A13 R : Type} {B : A0 → A1 → A2 → A3 → A4 → A5 → A6 → A7 → A8 → A9 → A10 → A11 → A12 → A13 → (A0 → A1 → A2 → A3 → A4 → A5 → A6 → A7 → A8 → A9 → A10 → A11 → A12 → A13 → Option R) → Option R} {n : Nat} {a0 : A0} {a1 : A1} {a2 : A2} {a3 : A3} {a4 : A4} {a5 : A5} {a6 : A6} {a7 : A7} {a8 : A8} {a9 : A9} {a10 : A10} {a11 : A11} {a12 : A12} {a13 : A13} {r : Option R} (h : wq14 B (n + 1) a0 a1 a2 a3 a4 a5 a6 a7 a8 a9 a10 a11 a12 a13 = r) : B a0 a1 a2 a3 a4 a5 a6 a7 a8 a9 a10 a11 a12 a13 (wq14 B n) = r := h
def wq15 {A0 A1 A2 A3 A4 A5 A6 A7 A8 A9 A10 A11 A12 A13 A14 R : Type} (B : A0 → A1 → A2 → A3 → A4 → A5 → A6 → A7 → A8 → A9 → A10 → A11 → A12 → A13 → A14 → (A0 → A1 → A2 → A3 → A4 → A5 → A6 → A7 → A8 → A9 → A10 → A11 → A12 → A13 → A14 → Option R) → Option R) : Nat → A0 → A1 → A2 → A3 → A4 → A5 → A6 → A7 → A8 → A9 → A10 → A11 → A12 → A13 → A14 → Option R
  | 0, _, _, _, _, _, _, _, _, _, _, _, _, _, _, _ => none
  | n + 1, a0, a1, a2, a3, a4, a5, a6, a7, a8, a9, a10, a11, a12, a13, a14 => B a0 a1 a2 a3 a4 a5 a6 a7 a8 a9 a10 a11 a12 a13 a14 (wq15 B n)
theorem wq15_0 {A0 A1 A2 A3 A4 A5 A6 A7 A8 A9 A10 A11 A12 A13 A14 R : Type} {B : A0 → A1 → A2 → A3 → A4 → A5 → A6 → A7 → A8 → A9 → A10 → A11 → A12 → A13 → A14 → (A0 → A1 → A2 → A3 → A4 → A5 → A6 → A7 → A8 → A9 → A10 → A11 → A12 → A13 → A14 → Option R) → Option R} {a0 : A0} {a1 : A1} {a2 : A2} {a3 : A3} {a4 : A4} {a5 : A5} {a6 : A6} {a7 : A7} {a8 : A8} {a9 : A9} {a10 : A10} {a11 : A11} {a12 : A12} {a13 : A13} {a14 : A14} {r : R} {P : Prop} (h : wq15 B 0 a0 a1 a2 a3 a4 a5 a6 a7 a8 a9 a10 a11 a12 a13 a14 = some r) : P := by cases h
theorem wq15_s {A0 A1 A2 A3 A4 A5 A6 A7 A8 A9 A10 A11 A12 A13 A14 R : Type} {B : A0 → A1 → A2 → A3 → A4 → A5 → A6 → A7 → A8 → A9 → A10 → A11 → A12 → A13 → A14 → (A0 → A1 → A2 → A3 → A4 → A5 → A6 → A7 → A8 → A9 → A10 → A11 → A12 → A13 → A14 → Option R) → Option R} {n : Nat} {a0 : A0} {a1 : A1} {a2 : A2} {a3 : A3} {a4 : A4} {a5 : A5} {a6 : A6} {a7 : A7} {a8 : A8} {a9 : A9} {a10 : A10} {a11 : A11} {a12 : A12} {a13 : A13} {a14 : A14} {r : Option R} (h : wq15 B (n + 1) a0 a1 a2 a3 a4 a5 a6 a7 a8 a9 a10 a11 a12 a13 a14 = r) : B a0 a1 a2 a3 a4 a5 a6 a7 a8 a9 a10 a11 a12 a13 a14 (wq15 B n) = r := h
def wq16 {A0 A1 A2 A3 A4 A5 A6 A7 A8 A9 A10 A11 A12 A13 A14 A15 R : Type} (B : A0 → A1 → A2 → A3 → A4 → A5 → A6 → A7 → A8 → A9 → A10 → A11 → A12 → A13 → A14 → A15 → (A0 → A1 → A2 → A3 → A4 → A5 → A6 → A7 → A8 → A9 → A10 → A11 → A12 → A13 → A14 → A15 → Option R) → Option R) : Nat → A0 → A1 → A2 → A3 → A4 → A5 → A6 → A7 → A8 → A9 → A10 → A11 → A12 → A13 → A14 → A15 → Option R
  | 0, _, _, _, _, _, _, _, _, _, _, _, _, _, _, _, _ => none
  | n + 1, a0, a1, a2, a3, a4, a5, a6, a7, a8, a9, a10, a11, a12, a13, a14, a15 => B a0 a1 a2 a3 a4 a5 a6 a7 a8 a9 a10 a11 a12 a13 a14 a15 (wq16 B n)
theorem wq16_0 {A0 A1 A2 A3 A4 A5 A6 A7 A8 A9 A10 A11 A12 A13 A14 A15 R : Type} {B : A0 → A1 → A2 → A3 → A4 → A5 → A6 → A7 → A8 → A9 → A10 → A11 → A12 → A13 → A14 → A15 → (A0 → A1 → A2 → A3 → A4 → A5 → A6 → A7 → A8 → A9 → A10 → A11 → A12 → A13 → A14 → A15 → Option R) → Option R} {a0 : A0} {a1 : A1} {a2 : A2} {a3 : A3} {a4 : A4} {a5 : A5} {a6 : A6} {a7 : A7} {a8 : A8} {a9 : A9} {a10 : A10} {a11 : A11} {a12 : A12} {a13 : A13} {a14 : A14} {a15 : A15} {r : R} {P : Prop} (h : wq16 B 0 a0 a1 a2 a3 a4 a5 a6 a7 a8 a9 a10 a11 a12 a13 a14 a15 = some r) : P := by cases h
theorem wq16_s {A0 A1 A2 A3 A4 A5 A6 A7 A8 A9 A10 A11 A12 A13 A14 A15 R : Type} {B : A0 → A1 → A2 → A3 → A4 → A5 → A6 → A7 → A8 → A9 → A10 → A11 → A12 → A13 → A14 → A15 → (A0 → A1 → A2 → A3 → A4 → A5 → A6 → A7 → A8 → A9 → A10 → A11 → A12 → A13 → A14 → A15 → Option R) → Option R} {n : Nat} {a0 : A0} {a1 : A1} {a2 : A2} {a3 : A3} {a4 : A4} {a5 : A5} {a6 : A6} {a7 : A7} {a8 : A8} {a9 : A9} {a10 : A10} {a11 : A11} {a12 : A12} {a13 : A13} {a14 : A14} {a15 : A15} {r : Option R} (h : wq16 B (n + 1) a0 a1 a2 a3 a4 a5 a6 a7 a8 a9 a10 a11 a12 a13 a14 a15 = r) : B a0 a1 a2 a3 a4 a5 a6 a7 a8 a9 a10 a11 a12 a13 a14 a15 (wq16 B n) = r := h
def wq17 {A0 A1 A2 A3 A4 A5 A6 A7 A8 A9 A10 A11 A12 A13 A14 A15 A16 R : Type} (B : A0 → A1 → A2 → A3 → A4 → A5 → A6 → A7 → A8 → A9 → A10 → A11 → A12 → A13 → A14 → A15 → A16 → (A0 → A1 → A2 → A3 → A4 → A5 → A6 → A7 → A8 → A9 → A10 → A11 → A12 → A13 → A14 → A15 → A16 → Option R) → Option R) : Nat → A0 → A1 → A2 → A3 → A4 → A5 → A6 → A7 → A8 → A9 → A10 → A11 → A12 → A13 → A14 → A15 → A16 → Option R
  | 0, _, _, _, _, _, _, _, _, _, _, _, _, _, _, _, _, _ => none
  | n + 1, a0, a1, a2, a3, a4, a5, a6, a7, a8, a9, a10, a11, a12, a13, a14, a15, a16 => B a0 a1 a2 a3 a4 a5 a6 a7 a8 a9 a10 a11 a12 a13 a14 a15 a16 (wq17 B n)
theorem wq17_0 {A0 A1 A2 A3 A4 A5 A6 A7 A8 A9 A10 A11 A12 A13 A14 A15 A16 R : Type} {B : A0 → A1 → A2 → A3 → A4 → A5 → A6 → A7 → A8 → A9 → A10 → A11 → A12 → A13 → A14 → A15 → A16 → (A0 → A1 → A2 → A3 → A4 → A5 → A6 → A7 → A8 → A9 → A10 → A11 → A12 → A13 → A14 → A15 → A16 → Option R) → Option R} {a0 : A0} {a1 : A1} {a2 : A2} {a3 : A3} {a4 : A4} {a5 : A5} {a6 : A6} {a7 : A7} {a8 : A8} {a9 : A9} {a10 : A10} {a11 : A11} {a12 : A12} {a13 : A13} {a14 : A14} {a15 : A15} {a16 : A16} {r : R} {P : Prop} (h : wq17 B 0 a0 a1 a2 a3 a4 a5 a6 a7 a8 a9 a10 a11 a12 a13 a14 a15 a16 = some r) : P := by cases h
theorem wq17_s {A0 A1 A2 A3 A4 A5 A6 A7 A8 A9 A10 A11 A12 A13 A14 A15 A16 R : Type} {B : A0 → A1 → A2 → A3 → A4 → A5 → A6 → A7 → A8 → A9 → A10 → A11 → A12 → A13 → A14 → A15 → A16 → (A0 → A1 → A2 → A3 → A4 → A5 → A6 → A7 → A8 → A9 → A10 → A11 → A12 → A13 → A14 → A15 → A16 → Option R) → Option R} {n : Nat} {a0 : A0} {a1 : A1} {a2 : A2} {a3 : A3} {a4 : A4} {a5 : A5} {a6 : A6} {a7 : A7} {a8 : A8} {a9 : A9} {a10 : A10} {a11 : A11} {a12 : A12} {a13 : A13} {a14 : A14} {a15 : A15} {a16 : A16} {r : Option R} (h : wq17 B (n + 1) a0 a1 a2 a3 a4 a5 a6 a7 a8 a9 a10 a11 a12 a13 a14 a15 a16 = r) : B a0 a1 a2 a3 a4 a5 a6 a7 a8 a9 a10 a11 a12 a13 a14 a15 a16 (wq17 B n) = r := h
def wq18 {A0 A1 A2 A3 A4 A5 A6 A7 A8 A9 A10 A11 A12 A13 A14 A15 A16 A17 R : Type} (B : A0 → A1 → A2 → A3 → A4 → A5 → A6 → A7 → A8 → A9 → A10 → A11 → A12 → A13 → A14 → A15 → A16 → A17 → (A0 → A1 → A2 → A3 → A4 → A5 → A6 → A7 → A8 → A9 → A10 → A11 → A12 → A13 → A14 → A15 → A16 → A17 → Option R) → Option R) : Nat → A0 → A1 → A2 → A3 → A4 → A5 → A6 → A7 → A8 → A9 → A10 → A11 → A12 → A13 → A14 → A15 → A16 → A17 → Option R
  | 0, _, _, _, _, _, _, _, _, _, _, _, _, _, _, _, _, _, _ => none
  | n + 1, a0, a1, a2, a3, a4, a5, a6, a7, a8, a9, a10, a11, a12, a13, a14, a15, a16, a17 => B a0 a1 a2 a3 a4 a5 a6 a7 a8 a9 a10 a11 a12 a13 a14 a15 a16 a17 (wq18 B n)
theorem wq18_0 {A0 A1 A2 A3 A4 A5 A6 A7 A8 A9 A10 A11 A12 A13 A14 A15 A16 A17 R : Type} {B : A0 → A1 → A2 → A3 → A4 → A5 → A6 → A7 → A8 → A9 → A10 → A11 → A12 → A13 → A14 → A15 → A16 → A17 → (A0 → A1 → A2 → A3 → A4 → A5 → A6 → A7 → A8 → A9 → A10 → A11 → A12 → A13 → A14 → A15 → A16 → A17 → Option R) → Option R} {a0 : A0} {a1 : A1} {a2 : A2} {a3 : A3} {a4 : A4} {a5 : A5} {a6 : A6} {a7 : A7} {a8 : A8} {a9 : A9} {a10 : A10} {a11 : A11} {a12 : A12} {a13 : A13} {a14 : A14} {a15 : A15} {a16 : A16} {a17 : A17} {r : R} {P : Prop} (h : wq18 B 0 a0 a1 a2 a3 a4 a5 a6 a7 a8 a9 a10 a11 a12 a13 a14 a15 a16 a17 = some r) : P := by cases h
theorem wq18_s {A0 A1 A2 A3 A4 A5 A6 A7 A8 A9 A10 A11 A12 A13 A14 A15 A16 A17 R : Type} {B : A0 → A1 → A2 → A3 → A4 → A5 → A6 → A7 → A8 → A9 → A10 → A11 → A12 → A13 → A14 → A15 → A16 → A17 → (A0 → A1 → A2 → A3 → A4 → A5 → A6 → A7 → A8 → A9 → A10 → A11 → A12 → A13 → A14 → A15 → A16 → A17 → Option R) → Option R} {n : Nat} {a0 : A0} {a1 : A1} {a2 : A2} {a3 : A3} {a4 : A4} {a5 : A5} {a6 : A6} {a7 : A7} {a8 : A8} {a9 : A9} {a10 : A10} {a11 : A11} {a12 : A12} {a13 : A13} {a14 : A14} {a15 : A15} {a16 : A16} {a17 : A17} {r : Option R} (h : wq18 B (n + 1) a0 a1 a2 a3 a4 a5 a6 a7 a8 a9 a10 a11 a12 a13 a14 a15 a16 a17 = r) : B a0 a1 a2 a3 a4 a5 a6 a7 a8 a9 a10 a11 a12 a13 a14 a15 a16 a17 (wq18 B n) = r := h
def wq19 {A0 A1 A2 A3 A4 A5 A6 A7 A8 A9 A10 A11 A12 A13 A14 A15 A16 A17 A18 R : Type} (B : A0 → A1 → A2 → A3 → A4 → A5 → A6 → A7 → A8 → A9 → A10 → A11 → A12 → A13 → A14 → A15 → A16 → A17 → A18 → (A0 → A1 → A2 → A3 → A4 → A5 → A6 → A7 → A8 → A9 → A10 → A11 → A12 → A13 → A14 → A15 → A16 → A17 → A18 → Option R) → Option R) : Nat → A0 → A1 → A2 → A3 → A4 → A5 → A6 → A7 → A8 → A9 → A10 → A11 → A12 → A13 → A14 → A15 → A16 → A17 → A18 → Option R
  | 0, _, _, _, _, _, _, _, _, _, _, _, _, _, _, _, _, _, _, _ => none
  | n + 1, a0, a1, a2, a3, a4, a5, a6, a7, a8, a9, a10, a11, a12, a13, a14, a15, a16, a17, a18 => B a0 a1 a2 a3 a4 a5 a6 a7 a8 a9 a10 a11 a12 a13 a14 a15 a16 a17 a18 (wq19 B n)
theorem wq19_0 {A0 A1 A2 A3 A4 A5 A6 A7 A8 A9 A10 A11 A12 A13 A14 A15 A16 A17 A18 R : Type} {B : A0 → A1 → A2 → A3 → A4 → A5 → A6 → A7 → A8 → A9 → A10 → A11 → A12 → A13 → A14 → A15 → A16 → A17 → A18 → (A0 → A1 → A2 → A3 → A4 → A5 → A6 → A7 → A8 → A9 → A10 → A11 → A12 → A13 → A14 → A15 → A16 → A17 → A18 → Option R) → Option R} {a0 : A0} {a1 : A1} {a2 : A2} {a3 : A3} {a4 : A4} {a5 : A5} {a6 : A6} {a7 : A7} {a8 : A8} {a9 : A9} {a10 : A10} {a11 : A11} {a12 : A12} {a13 : A13} {a14 : A14} {a15 : A15} {a16 : A16} {a17 : A17} {a18 : A18} {r : R} {P : Prop} (h : wq19 B 0 a0 a1 a2 a3 a4 a5 a6 a7 a8 a9 a10 a11 a12 a13 a14 a15 a16 a17 a18 = some r) : P := by cases h
theorem wq19_s {A0 A1 A2 A3 A4 A5 A6 A7 A8 A9 A10 A11 A12 A13 A14 A15 A16 A17 A18 R : Type} {B : A0 → A1 → A2 → A3 → A4 → A5 → A6 → A7 → A8 → A9 → A10 → A11 → A12 → A13 → A14 → A15 → A16 → A17 → A18 → (A0 → A1 → A2 → A3 → A4 → A5 → A6 → A7 → A8 → A9 → A10 → A11 → A12 → A13 → A14 → A15 → A16 → A17 → A18 → Option R) → Option R} {n : Nat} {a0 : A0} {a1 : A1} {a2 : A2} {a3 : A3} {a4 : A4} {a5 : A5} {a6 : A6} {a7 : A7} {a8 : A8} {a9 : A9} {a10 : A10} {a11 : A11} {a12 : A12} {a13 : A13} {a14 : A14} {a15 : A15} {a16 : A16} {a17 : A17} {a18 : A18} {r : Option R} (h : wq19 B (n + 1) a0 a1 a2 a3 a4 a5 a6 a7 a8 a9 a10 a11 a12 a13 a14 a15 a16 a17 a18 = r) : B a0 a1 a2 a3 a4 a5 a6 a7 a8 a9 a10 a11 a12 a13 a14 a15 a16 a17 a18 (wq19 B n) = r := h
def wq20 {A0 A1 A2 A3 A4 A5 A6 A7 A8 A9 A10 A11 A12 A13 A14 A15 A16 A17 A18 A19 R : Type} (B : A0 → A1 → A2 → A3 → A4 → A5 → A6 → A7 → A8 → A9 → A10 → A11 → A12 → A13 → A14 → A15 → A16 → A17 → A18 → A19 → (A0 → A1 → A2 → A3 → A4 → A5 → A6 → A7 → A8 → A9 → A10 → A11 → A12 → A13 → A14 → A15 → A16 → A17 → A18 → A19 → Option R) → Option R) : Nat → A0 → A1 → A2 → A3 → A4 → A5 → A6 → A7 → A8 → A9 → A10 → A11 → A12 → A13 → A14 → A15 → A16 → A17 → A18 → A19 → Option R
  | 0, _, _, _, _, _, _, _, _, _, _, _, _, _, _, _, _, _, _, _, _ => none
  | n + 1, a0, a1, a2, a3, a4, a5, a6, a7, a8, a9, a10, a11, a12, a13, a14, a15, a16, a17, a18, a19 => B a0 a1 a2 a3 a4 a5 a6 a7 a8 a9 a10 a11 a12 a13 a14 a15 a16 a17 a18 a19 (wq20 B n)
theorem wq20_0 {A0 A1 A2 A3 A4 A5 A6 A7 A8 A9 A10 A11 A12 A13 A14 A15 A16 A17 A18 A19 R : Type} {B : A0 → A1 → A2 → A3 → A4 → A5 → A6 → A7 → A8 → A9 → A10 → A11 → A12 → A13 → A14 → A15 → A16 → A17 → A18 → A19 → (A0 → A1 → A2 → A3 → A4 → A5 → A6 → A7 → A8 → A9 → A10 → A11 → A12 → A13 → A14 → A15 → A16 → A17 → A18 → A19 → Option R) → Option R} {a0 : A0} {a1 : A1} {a2 : A2} {a3 : A3} {a4 : A4} {a5 : A5} {a6 : A6} {a7 : A7} {a8 : A8} {a9 : A9} {a10 : A10} {a11 : A11} {a12 : A12} {a13 : A13} {a14 : A14} {a15 : A15} {a16 : A16} {a17 : A17} {a18 : A18} {a19 : A19} {r : R} {P : Prop} (h : wq20 B 0 a0 a1 a2 a3 a4 a5 a6 a7 a8 a9 a10 a11 a12 a13 a14 a15 a16 a17 a18 a19 = some r) : P := by cases h
theorem wq20_s {A0 A1 A2 A3 A4 A5 A6 A7 A8 A9 A10 A11 A12 A13 A14 A15 A16 A17 A18 A19 R : Type} {B : A0 → A1 → A2 → A3 → A4 → A5 → A6 → A7 → A8 → A9 → A10 → A11 → A12 → A13 → A14 → A15 → A16 → A17 → A18 → A19 → (A0 → A1 → A2 → A3 → A4 → A5 → A6 → A7 → A8 → A9 → A10 → A11 → A12 → A13 → A14 → A15 → A16 → A17 → A18 → A19 → Option R) → Option R} {n : Nat} {a0 : A0} {a1 : A1} {a2 : A2} {a3 : A3} {a4 : A4} {a5 : A5} {a6 : A6} {a7 : A7} {a8 : A8} {a9 : A9} {a10 : A10} {a11 : A11} {a12 : A12} {a13 : A13} {a14 : A14} {a15 : A15} {a16 : A16} {a17 : A17} {a18 : A18} {a19 : A19} {r : Option R} (h : wq20 B (n + 1) a0 a1 a2 a3 a4 a5 a6 a7 a8 a9 a10 a11 a12 a13 a14 a15 a16 a17 a18 a19 = r) : B a0 a1 a2 a3 a4 a5 a6 a7 a8 a9 a10 a11 a12 a13 a14 a15 a16 a17 a18 a19 (wq20 B n) = r := h
def rot9 {α : Type} (f : Nat → α) : Nat → α := fun i => if i < 8 then f (i + 1) else if i = 8 then f 0 else f i
theorem k_upf {f : Nat → Nat} {k v : Nat} : va_up (fun i => some (f i)) k (some v) = fun i => some (va_up f k v i) := by
  funext i
  unfold va_up
  by_cases h : i = k
  · rw [if_pos h, if_pos h]
  · rw [if_neg h, if_neg h]
theorem k_rot9 {d : Nat → Nat} : va_up (va_up (va_up (va_up (va_up (va_up (va_up (va_up (va_up d 0 (d 1)) 1 (d 2)) 2 (d 3)) 3 (d 4)) 4 (d 5)) 5 (d 6)) 6 (d 7)) 7 (d 8)) 8 (d 0) = rot9 d := by
  funext i
  match i with
  | 0 => rfl
  | 1 => rfl
  | 2 => rfl
  | 3 => rfl
  | 4 => rfl
  | 5 => rfl
  | 6 => rfl
  | 7 => rfl
  | 8 => rfl
  | i + 9 => simp [va_up, rot9]; intro h; omega
theorem k_lt9 {n : Nat} (h : n < 9) : n = 0 ∨ n = 1 ∨ n = 2 ∨ n = 3 ∨ n = 4 ∨ n = 5 ∨ n = 6 ∨ n = 7 ∨ n = 8 := by omega
theorem k_lt7 {n : Nat} (h : n < 7) : n = 0 ∨ n = 1 ∨ n = 2 ∨ n = 3 ∨ n = 4 ∨ n = 5 ∨ n = 6 := by omega
theorem k_in_lt {i : Int32} {n : Nat} (h : vp_in i n) : i.toNatClampNeg < n := Nat.not_le.mp fun q => h (Or.inr q)
theorem k_ne6 {i : Int32} (h : vp_in i 6) : ¬ i.toNatClampNeg = 6 := fun q => by have := k_in_lt h; omega
theorem k_tout7 {x : Int32} (h0 : ¬ x = (0 : Int32)) (h1 : ¬ x = (1 : Int32)) (h2 : ¬ x = (2 : Int32)) (h3 : ¬ x = (3 : Int32)) (h4 : ¬ x = (4 : Int32)) (h5 : ¬ x = (5 : Int32)) (h6 : ¬ x = (6 : Int32)) : x.toInt < 0 ∨ 6 < x.toInt := by
  rcases Classical.em (x.toInt < 0 ∨ 6 < x.toInt) with h | h
  · exact h
  · exfalso
    have e : x = Int32.ofInt x.toInt := (Int32.ofInt_toInt x).symm
    have : x.toInt = 0 ∨ x.toInt = 1 ∨ x.toInt = 2 ∨ x.toInt = 3 ∨ x.toInt = 4 ∨ x.toInt = 5 ∨ x.toInt = 6 := by omega
    rcases this with g | g | g | g | g | g | g <;> rw [g] at e
    · exact h0 e
    · exact h1 e
    · exact h2 e
    · exact h3 e
    · exact h4 e
    · exact h5 e
    · exact h6 e
theorem k_tout3 {x : Int32} (h1 : ¬ x = (1 : Int32)) (h2 : ¬ x = (2 : Int32)) (h3 : ¬ x = (3 : Int32)) : x.toInt < 1 ∨ 3 < x.toInt := by
  rcases Classical.em (x.toInt < 1 ∨ 3 < x.toInt) with h | h
  · exact h
  · exfalso
    have e : x = Int32.ofInt x.toInt := (Int32.ofInt_toInt x).symm
    have : x.toInt = 1 ∨ x.toInt = 2 ∨ x.toInt = 3 := by omega
    rcases this with g | g | g <;> rw [g] at e
    · exact h1 e
    · exact h2 e
    · exact h3 e
theorem k_lout2 {x : Int32} {d a b : Int} (h0 : ¬ x = (0 : Int32)) (h1 : ¬ x = (1 : Int32)) : Op.lookupswitch.offset [(0, a), (1, b)] d x.toInt = d := by
  have e : x = Int32.ofInt x.toInt := (Int32.ofInt_toInt x).symm
  have g0 : ¬ x.toInt = 0 := fun g => h0 (by rw [g] at e; exact e)
  have g1 : ¬ x.toInt = 1 := fun g => h1 (by rw [g] at e; exact e)
  rw [Op.lookupswitch.offset_cons, if_neg (fun q => g0 q.symm), Op.lookupswitch.offset_cons, if_neg (fun q => g1 q.symm), Op.lookupswitch.offset_nil]
