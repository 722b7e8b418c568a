/-! My own rows: a contract in one form (k_pre, k_posts), a call that leaves the other cells at their places. -/
def FU : Nat := 6000
def bd {α β : Type} (x : Option α) (f : α → Option β) : Option β := match x with
  | some a => f a
  | none => none
theorem bd_e {α β : Type} {x : Option α} {f : α → Option β} {r : β} (h : bd x f = some r) : ∃ a, x = some a ∧ f a = some r := by
  cases x with
  | none => cases h
  | some a => exact ⟨a, rfl, h⟩
def ck {β : Type} (i : Int32) (n : Nat) (k : Option β) : Option β := if i < 0 ∨ n ≤ i.toNatClampNeg then none else k
theorem ck_e {β : Type} {i : Int32} {n : Nat} {k : Option β} {r : β} (h : ck i n k = some r) : vp_in i n ∧ k = some r := by
  unfold ck at h
  by_cases c : i < 0 ∨ n ≤ i.toNatClampNeg
  · rw [if_pos c] at h; cases h
  · rw [if_neg c] at h; exact ⟨c, h⟩
def dvi {β : Type} (y : Int32) (k : Option β) : Option β := if y = 0 then none else k
theorem dvi_e {β : Type} {y : Int32} {k : Option β} {r : β} (h : dvi y k = some r) : ¬ y = 0 ∧ k = some r := by
  unfold dvi at h
  by_cases c : y = 0
  · rw [if_pos c] at h; cases h
  · rw [if_neg c] at h; exact ⟨c, h⟩
def dvl {β : Type} (y : Int64) (k : Option β) : Option β := if y = 0 then none else k
theorem dvl_e {β : Type} {y : Int64} {k : Option β} {r : β} (h : dvl y k = some r) : ¬ y = 0 ∧ k = some r := by
  unfold dvl at h
  by_cases c : y = 0
  · rw [if_pos c] at h; cases h
  · rw [if_neg c] at h; exact ⟨c, h⟩
theorem it_p {α : Type} {c : Prop} {dc : Decidable c} {a b r : α} (h : (@ite α c dc a b) = r) (hc : c) : a = r := (if_pos hc).symm.trans h
theorem it_n {α : Type} {c : Prop} {dc : Decidable c} {a b r : α} (h : (@ite α c dc a b) = r) (hc : ¬ c) : b = r := (if_neg hc).symm.trans h
def iush (x y : Int32) : Int32 := (x.toUInt32 >>> (y.toUInt32 &&& Int32.toUInt32 31)).toInt32
def lshl (x : Int64) (y : Int32) : Int64 := x <<< (y.toInt64 &&& 63)
def lush (x : Int64) (y : Int32) : Int64 := (x.toUInt64 >>> (y.toInt64.toUInt64 &&& Int64.toUInt64 63)).toInt64
def wq0 {R : Type} (B : (Option R) → Option R) : Nat → Option R
  | 0 => none
  | n + 1 => B  (wq0 B n)
theorem wq0_0 {R : Type} {B : (Option R) → Option R}  {r : R} {P : Prop} (h : wq0 B 0  = some r) : P := by cases h
theorem wq0_s {R : Type} {B : (Option R) → Option R} {n : Nat}  {r : Option R} (h : wq0 B (n + 1)  = r) : B  (wq0 B n) = r := h
def wq1 {A0 R : Type} (B : A0 → (A0 → Option R) → Option R) : Nat → A0 → Option R
  | 0, _ => none
  | n + 1, a0 => B a0 (wq1 B n)
theorem wq1_0 {A0 R : Type} {B : A0 → (A0 → Option R) → Option R} {a0 : A0} {r : R} {P : Prop} (h : wq1 B 0 a0 = some r) : P := by cases h
theorem wq1_s {A0 R : Type} {B : A0 → (A0 → Option R) → Option R} {n : Nat} {a0 : A0} {r : Option R} (h : wq1 B (n + 1) a0 = r) : B a0 (wq1 B n) = r := h
def wq2 {A0 A1 R : Type} (B : A0 → A1 → (A0 → A1 → Option R) → Option R) : Nat → A0 → A1 → Option R
  | 0, _, _ => none
  | n + 1, a0, a1 => B a0 a1 (wq2 B n)
theorem wq2_0 {A0 A1 R : Type} {B : A0 → A1 → (A0 → A1 → Option R) → Option R} {a0 : A0} {a1 : A1} {r : R} {P : Prop} (h : wq2 B 0 a0 a1 = some r) : P := by cases h
theorem wq2_s {A0 A1 R : Type} {B : A0 → A1 → (A0 → A1 → Option R) → Option R} {n : Nat} {a0 : A0} {a1 : A1} {r : Option R} (h : wq2 B (n + 1) a0 a1 = r) : B a0 a1 (wq2 B n) = r := h
def wq3 {A0 A1 A2 R : Type} (B : A0 → A1 → A2 → (A0 → A1 → A2 → Option R) → Option R) : Nat → A0 → A1 → A2 → Option R
  | 0, _, _, _ => none
  | n + 1, a0, a1, a2 => B a0 a1 a2 (wq3 B n)
theorem wq3_0 {A0 A1 A2 R : Type} {B : A0 → A1 → A2 → (A0 → A1 → A2 → Option R) → Option R} {a0 : A0} {a1 : A1} {a2 : A2} {r : R} {P : Prop} (h : wq3 B 0 a0 a1 a2 = some r) : P := by cases h
theorem wq3_s {A0 A1 A2 R : Type} {B : A0 → A1 → A2 → (A0 → A1 → A2 → Option R) → Option R} {n : Nat} {a0 : A0} {a1 : A1} {a2 : A2} {r : Option R} (h : wq3 B (n + 1) a0 a1 a2 = r) : B a0 a1 a2 (wq3 B n) = r := h
def wq4 {A0 A1 A2 A3 R : Type} (B : A0 → A1 → A2 → A3 → (A0 → A1 → A2 → A3 → Option R) → Option R) : Nat → A0 → A1 → A2 → A3 → Option R
  | 0, _, _, _, _ => none
  | n + 1, a0, a1, a2, a3 => B a0 a1 a2 a3 (wq4 B n)
theorem wq4_0 {A0 A1 A2 A3 R : Type} {B : A0 → A1 → A2 → A3 → (A0 → A1 → A2 → A3 → Option R) → Option R} {a0 : A0} {a1 : A1} {a2 : A2} {a3 : A3} {r : R} {P : Prop} (h : wq4 B 0 a0 a1 a2 a3 = some r) : P := by cases h
theorem wq4_s {A0 A1 A2 A3 R : Type} {B : A0 → A1 → A2 → A3 → (A0 → A1 → A2 → A3 → Option R) → Option R} {n : Nat} {a0 : A0} {a1 : A1} {a2 : A2} {a3 : A3} {r : Option R} (h : wq4 B (n + 1) a0 a1 a2 a3 = r) : B a0 a1 a2 a3 (wq4 B n) = r := h
def wq5 {A0 A1 A2 A3 A4 R : Type} (B : A0 → A1 → A2 → A3 → A4 → (A0 → A1 → A2 → A3 → A4 → Option R) → Option R) : Nat → A0 → A1 → A2 → A3 → A4 → Option R
  | 0, _, _, _, _, _ => none
  | n + 1, a0, a1, a2, a3, a4 => B a0 a1 a2 a3 a4 (wq5 B n)
theorem wq5_0 {A0 A1 A2 A3 A4 R : Type} {B : A0 → A1 → A2 → A3 → A4 → (A0 → A1 → A2 → A3 → A4 → Option R) → Option R} {a0 : A0} {a1 : A1} {a2 : A2} {a3 : A3} {a4 : A4} {r : R} {P : Prop} (h : wq5 B 0 a0 a1 a2 a3 a4 = some r) : P := by cases h
theorem wq5_s {A0 A1 A2 A3 A4 R : Type} {B : A0 → A1 → A2 → A3 → A4 → (A0 → A1 → A2 → A3 → A4 → Option R) → Option R} {n : Nat} {a0 : A0} {a1 : A1} {a2 : A2} {a3 : A3} {a4 : A4} {r : Option R} (h : wq5 B (n + 1) a0 a1 a2 a3 a4 = r) : B a0 a1 a2 a3 a4 (wq5 B n) = r := h
def wq6 {A0 A1 A2 A3 A4 A5 R : Type} (B : A0 → A1 → A2 → A3 → A4 → A5 → (A0 → A1 → A2 → A3 → A4 → A5 → Option R) → Option R) : Nat → A0 → A1 → A2 → A3 → A4 → A5 → Option R
  | 0, _, _, _, _, _, _ => none
  | n + 1, a0, a1, a2, a3, a4, a5 => B a0 a1 a2 a3 a4 a5 (wq6 B n)
theorem wq6_0 {A0 A1 A2 A3 A4 A5 R : Type} {B : A0 → A1 → A2 → A3 → A4 → A5 → (A0 → A1 → A2 → A3 → A4 → A5 → Option R) → Option R} {a0 : A0} {a1 : A1} {a2 : A2} {a3 : A3} {a4 : A4} {a5 : A5} {r : R} {P : Prop} (h : wq6 B 0 a0 a1 a2 a3 a4 a5 = some r) : P := by cases h
theorem wq6_s {A0 A1 A2 A3 A4 A5 R : Type} {B : A0 → A1 → A2 → A3 → A4 → A5 → (A0 → A1 → A2 → A3 → A4 → A5 → Option R) → Option R} {n : Nat} {a0 : A0} {a1 : A1} {a2 : A2} {a3 : A3} {a4 : A4} {a5 : A5} {r : Option R} (h : wq6 B (n + 1) a0 a1 a2 a3 a4 a5 = r) : B a0 a1 a2 a3 a4 a5 (wq6 B n) = r := h
def wq7 {A0 A1 A2 A3 A4 A5 A6 R : Type} (B : A0 → A1 → A2 → A3 → A4 → A5 → A6 → (A0 → A1 → A2 → A3 → A4 → A5 → A6 → Option R) → Option R) : Nat → A0 → A1 → A2 → A3 → A4 → A5 → A6 → Option R
  | 0, _, _, _, _, _, _, _ => none
  | n + 1, a0, a1, a2, a3, a4, a5, a6 => B a0 a1 a2 a3 a4 a5 a6 (wq7 B n)
theorem wq7_0 {A0 A1 A2 A3 A4 A5 A6 R : Type} {B : A0 → A1 → A2 → A3 → A4 → A5 → A6 → (A0 → A1 → A2 → A3 → A4 → A5 → A6 → Option R) → Option R} {a0 : A0} {a1 : A1} {a2 : A2} {a3 : A3} {a4 : A4} {a5 : A5} {a6 : A6} {r : R} {P : Prop} (h : wq7 B 0 a0 a1 a2 a3 a4 a5 a6 = some r) : P := by cases h
theorem wq7_s {A0 A1 A2 A3 A4 A5 A6 R : Type} {B : A0 → A1 → A2 → A3 → A4 → A5 → A6 → (A0 → A1 → A2 → A3 → A4 → A5 → A6 → Option R) → Option R} {n : Nat} {a0 : A0} {a1 : A1} {a2 : A2} {a3 : A3} {a4 : A4} {a5 : A5} {a6 : A6} {r : Option R} (h : wq7 B (n + 1) a0 a1 a2 a3 a4 a5 a6 = r) : B a0 a1 a2 a3 a4 a5 a6 (wq7 B n) = r := h
def wq8 {A0 A1 A2 A3 A4 A5 A6 A7 R : Type} (B : A0 → A1 → A2 → A3 → A4 → A5 → A6 → A7 → (A0 → A1 → A2 → A3 → A4 → A5 → A6 → A7 → Option R) → Option R) : Nat → A0 → A1 → A2 → A3 → A4 → A5 → A6 → A7 → Option R
  | 0, _, _, _, _, _, _, _, _ => none
  | n + 1, a0, a1, a2, a3, a4, a5, a6, a7 => B a0 a1 a2 a3 a4 a5 a6 a7 (wq8 B n)
theorem wq8_0 {A0 A1 A2 A3 A4 A5 A6 A7 R : Type} {B : A0 → A1 → A2 → A3 → A4 → A5 → A6 → A7 → (A0 → A1 → A2 → A3 → A4 → A5 → A6 → A7 → Option R) → Option R} {a0 : A0} {a1 : A1} {a2 : A2} {a3 : A3} {a4 : A4} {a5 : A5} {a6 : A6} {a7 : A7} {r : R} {P : Prop} (h : wq8 B 0 a0 a1 a2 a3 a4 a5 a6 a7 = some r) : P := by cases h
theorem wq8_s {A0 A1 A2 A3 A4 A5 A6 A7 R : Type} {B : A0 → A1 → A2 → A3 → A4 → A5 → A6 → A7 → (A0 → A1 → A2 → A3 → A4 → A5 → A6 → A7 → Option R) → Option R} {n : Nat} {a0 : A0} {a1 : A1} {a2 : A2} {a3 : A3} {a4 : A4} {a5 : A5} {a6 : A6} {a7 : A7} {r : Option R} (h : wq8 B (n + 1) a0 a1 a2 a3 a4 a5 a6 a7 = r) : B a0 a1 a2 a3 a4 a5 a6 a7 (wq8 B n) = r := h
def wq9 {A0 A1 A2 A3 A4 A5 A6 A7 A8 R : Type} (B : A0 → A1 → A2 → A3 → A4 → A5 → A6 → A7 → A8 → (A0 → A1 → A2 → A3 → A4 → A5 → A6 → A7 → A8 → Option R) → Option R) : Nat → A0 → A1 → A2 → A3 → A4 → A5 → A6 → A7 → A8 → Option R
  | 0, _, _, _, _, _, _, _, _, _ => none
  | n + 1, a0, a1, a2, a3, a4, a5, a6, a7, a8 => B a0 a1 a2 a3 a4 a5 a6 a7 a8 (wq9 B n)
theorem wq9_0 {A0 A1 A2 A3 A4 A5 A6 A7 A8 R : Type} {B : A0 → A1 → A2 → A3 → A4 → A5 → A6 → A7 → A8 → (A0 → A1 → A2 → A3 → A4 → A5 → A6 → A7 → A8 → Option R) → Option R} {a0 : A0} {a1 : A1} {a2 : A2} {a3 : A3} {a4 : A4} {a5 : A5} {a6 : A6} {a7 : A7} {a8 : A8} {r : R} {P : Prop} (h : wq9 B 0 a0 a1 a2 a3 a4 a5 a6 a7 a8 = some r) : P := by cases h
theorem wq9_s {A0 A1 A2 A3 A4 A5 A6 A7 A8 R : Type} {B : A0 → A1 → A2 → A3 → A4 → A5 → A6 → A7 → A8 → (A0 → A1 → A2 → A3 → A4 → A5 → A6 → A7 → A8 → Option R) → Option R} {n : Nat} {a0 : A0} {a1 : A1} {a2 : A2} {a3 : A3} {a4 : A4} {a5 : A5} {a6 : A6} {a7 : A7} {a8 : A8} {r : Option R} (h : wq9 B (n + 1) a0 a1 a2 a3 a4 a5 a6 a7 a8 = r) : B a0 a1 a2 a3 a4 a5 a6 a7 a8 (wq9 B n) = r := h
def wq10 {A0 A1 A2 A3 A4 A5 A6 A7 A8 A9 R : Type} (B : A0 → A1 → A2 → A3 → A4 → A5 → A6 → A7 → A8 → A9 → (A0 → A1 → A2 → A3 → A4 → A5 → A6 → A7 → A8 → A9 → Option R) → Option R) : Nat → A0 → A1 → A2 → A3 → A4 → A5 → A6 → A7 → A8 → A9 → Option R
  | 0, _, _, _, _, _, _, _, _, _, _ => none
  | n + 1, a0, a1, a2, a3, a4, a5, a6, a7, a8, a9 => B a0 a1 a2 a3 a4 a5 a6 a7 a8 a9 (wq10 B n)
theorem wq10_0 {A0 A1 A2 A3 A4 A5 A6 A7 A8 A9 R : Type} {B : A0 → A1 → A2 → A3 → A4 → A5 → A6 → A7 → A8 → A9 → (A0 → A1 → A2 → A3 → A4 → A5 → A6 → A7 → A8 → A9 → Option R) → Option R} {a0 : A0} {a1 : A1} {a2 : A2} {a3 : A3} {a4 : A4} {a5 : A5} {a6 : A6} {a7 : A7} {a8 : A8} {a9 : A9} {r : R} {P : Prop} (h : wq10 B 0 a0 a1 a2 a3 a4 a5 a6 a7 a8 a9 = some r) : P := by cases h
theorem wq10_s {A0 A1 A2 A3 A4 A5 A6 A7 A8 A9 R : Type} {B : A0 → A1 → A2 → A3 → A4 → A5 → A6 → A7 → A8 → A9 → (A0 → A1 → A2 → A3 → A4 → A5 → A6 → A7 → A8 → A9 → Option R) → Option R} {n : Nat} {a0 : A0} {a1 : A1} {a2 : A2} {a3 : A3} {a4 : A4} {a5 : A5} {a6 : A6} {a7 : A7} {a8 : A8} {a9 : A9} {r : Option R} (h : wq10 B (n + 1) a0 a1 a2 a3 a4 a5 a6 a7 a8 a9 = r) : B a0 a1 a2 a3 a4 a5 a6 a7 a8 a9 (wq10 B n) = r := h
def wq11 {A0 A1 A2 A3 A4 A5 A6 A7 A8 A9 A10 R : Type} (B : A0 → A1 → A2 → A3 → A4 → A5 → A6 → A7 → A8 → A9 → A10 → (A0 → A1 → A2 → A3 → A4 → A5 → A6 → A7 → A8 → A9 → A10 → Option R) → Option R) : Nat → A0 → A1 → A2 → A3 → A4 → A5 → A6 → A7 → A8 → A9 → A10 → Option R
  | 0, _, _, _, _, _, _, _, _, _, _, _ => none
  | n + 1, a0, a1, a2, a3, a4, a5, a6, a7, a8, a9, a10 => B a0 a1 a2 a3 a4 a5 a6 a7 a8 a9 a10 (wq11 B n)
theorem wq11_0 {A0 A1 A2 A3 A4 A5 A6 A7 A8 A9 A10 R : Type} {B : A0 → A1 → A2 → A3 → A4 → A5 → A6 → A7 → A8 → A9 → A10 → (A0 → A1 → A2 → A3 → A4 → A5 → A6 → A7 → A8 → A9 → A10 → Option R) → Option R} {a0 : A0} {a1 : A1} {a2 : A2} {a3 : A3} {a4 : A4} {a5 : A5} {a6 : A6} {a7 : A7} {a8 : A8} {a9 : A9} {a10 : A10} {r : R} {P : Prop} (h : wq11 B 0 a0 a1 a2 a3 a4 a5 a6 a7 a8 a9 a10 = some r) : P := by cases h
theorem wq11_s {A0 A1 A2 A3 A4 A5 A6 A7 A8 A9 A10 R : Type} {B : A0 → A1 → A2 → A3 → A4 → A5 → A6 → A7 → A8 → A9 → A10 → (A0 → A1 → A2 → A3 → A4 → A5 → A6 → A7 → A8 → A9 → A10 → Option R) → Option R} {n : Nat} {a0 : A0} {a1 : A1} {a2 : A2} {a3 : A3} {a4 : A4} {a5 : A5} {a6 : A6} {a7 : A7} {a8 : A8} {a9 : A9} {a10 : A10} {r : Option R} (h : wq11 B (n + 1) a0 a1 a2 a3 a4 a5 a6 a7 a8 a9 a10 = r) : B a0 a1 a2 a3 a4 a5 a6 a7 a8 a9 a10 (wq11 B n) = r := h
def wq12 {A0 A1 A2 A3 A4 A5 A6 A7 A8 A9 A10 A11 R : Type} (B : A0 → A1 → A2 → A3 → A4 → A5 → A6 → A7 → A8 → A9 → A10 → A11 → (A0 → A1 → A2 → A3 → A4 → A5 → A6 → A7 → A8 → A9 → A10 → A11 → Option R) → Option R) : Nat → A0 → A1 → A2 → A3 → A4 → A5 → A6 → A7 → A8 → A9 → A10 → A11 → Option R
  | 0, _, _, _, _, _, _, _, _, _, _, _, _ => none
  | n + 1, a0, a1, a2, a3, a4, a5, a6, a7, a8, a9, a10, a11 => B a0 a1 a2 a3 a4 a5 a6 a7 a8 a9 a10 a11 (wq12 B n)
theorem wq12_0 {A0 A1 A2 A3 A4 A5 A6 A7 A8 A9 A10 A11 R : Type} {B : A0 → A1 → A2 → A3 → A4 → A5 → A6 → A7 → A8 → A9 → A10 → A11 → (A0 → A1 → A2 → A3 → A4 → A5 → A6 → A7 → A8 → A9 → A10 → A11 → Option R) → Option R} {a0 : A0} {a1 : A1} {a2 : A2} {a3 : A3} {a4 : A4} {a5 : A5} {a6 : A6} {a7 : A7} {a8 : A8} {a9 : A9} {a10 : A10} {a11 : A11} {r : R} {P : Prop} (h : wq12 B 0 a0 a1 a2 a3 a4 a5 a6 a7 a8 a9 a10 a11 = some r) : P := by cases h
theorem wq12_s {A0 A1 A2 A3 A4 A5 A6 A7 A8 A9 A10 A11 R : Type} {B : A0 → A1 → A2 → A3 → A4 → A5 → A6 → A7 → A8 → A9 → A10 → A11 → (A0 → A1 → A2 → A3 → A4 → A5 → A6 → A7 → A8 → A9 → A10 → A11 → Option R) → Option R} {n : Nat} {a0 : A0} {a1 : A1} {a2 : A2} {a3 : A3} {a4 : A4} {a5 : A5} {a6 : A6} {a7 : A7} {a8 : A8} {a9 : A9} {a10 : A10} {a11 : A11} {r : Option R} (h : wq12 B (n + 1) a0 a1 a2 a3 a4 a5 a6 a7 a8 a9 a10 a11 = r) : B a0 a1 a2 a3 a4 a5 a6 a7 a8 a9 a10 a11 (wq12 B n) = r := h
def wq13 {A0 A1 A2 A3 A4 A5 A6 A7 A8 A9 A10 A11 A12 R : Type} (B : A0 → A1 → A2 → A3 → A4 → A5 → A6 → A7 → A8 → A9 → A10 → A11 → A12 → (A0 → A1 → A2 → A3 → A4 → A5 → A6 → A7 → A8 → A9 → A10 → A11 → A12 → Option R) → Option R) : Nat → A0 → A1 → A2 → A3 → A4 → A5 → A6 → A7 → A8 → A9 → A10 → A11 → A12 → Option R
  | 0, _, _, _, _, _, _, _, _, _, _, _, _, _ => none
  | n + 1, a0, a1, a2, a3, a4, a5, a6, a7, a8, a9, a10, a11, a12 => B a0 a1 a2 a3 a4 a5 a6 a7 a8 a9 a10 a11 a12 (wq13 B n)
theorem wq13_0 {A0 A1 A2 A3 A4 A5 A6 A7 A8 A9 A10 A11 A12 R : Type} {B : A0 → A1 → A2 → A3 → A4 → A5 → A6 → A7 → A8 → A9 → A10 → A11 → A12 → (A0 → A1 → A2 → A3 → A4 → A5 → A6 → A7 → A8 → A9 → A10 → A11 → A12 → Option R) → Option R} {a0 : A0} {a1 : A1} {a2 : A2} {a3 : A3} {a4 : A4} {a5 : A5} {a6 : A6} {a7 : A7} {a8 : A8} {a9 : A9} {a10 : A10} {a11 : A11} {a12 : A12} {r : R} {P : Prop} (h : wq13 B 0 a0 a1 a2 a3 a4 a5 a6 a7 a8 a9 a10 a11 a12 = some r) : P := by cases h
theorem wq13_s {A0 A1 A2 A3 A4 A5 A6 A7 A8 A9 A10 A11 A12 R : Type} {B : A0 → A1 → A2 → A3 → A4 → A5 → A6 → A7 → A8 → A9 → A10 → A11 → A12 → (A0 → A1 → A2 → A3 → A4 → A5 → A6 → A7 → A8 → A9 → A10 → A11 → A12 → Option R) → Option R} {n : Nat} {a0 : A0} {a1 : A1} {a2 : A2} {a3 : A3} {a4 : A4} {a5 : A5} {a6 : A6} {a7 : A7} {a8 : A8} {a9 : A9} {a10 : A10} {a11 : A11} {a12 : A12} {r : Option R} (h : wq13 B (n + 1) a0 a1 a2 a3 a4 a5 a6 a7 a8 a9 a10 a11 a12 = r) : B a0 a1 a2 a3 a4 a5 a6 a7 a8 a9 a10 a11 a12 (wq13 B n) = r := h
def wq14 {A0 A1 A2 A3 A4 A5 A6 A7 A8 A9 A10 A11 A12 A13 R : Type} (B : A0 → A1 → A2 → A3 → A4 → A5 → A6 → A7 → A8 → A9 → A10 → A11 → A12 → A13 → (A0 → A1 → A2 → A3 → A4 → A5 → A6 → A7 → A8 → A9 → A10 → A11 → A12 → A13 → Option R) → Option R) : Nat → A0 → A1 → A2 → A3 → A4 → A5 → A6 → A7 → A8 → A9 → A10 → A11 → A12 → A13 → Option R
  | 0, _, _, _, _, _, _, _, _, _, _, _, _, _, _ => none
  | n + 1, a0, a1, a2, a3, a4, a5, a6, a7, a8, a9, a10, a11, a12, a13 => B a0 a1 a2 a3 a4 a5 a6 a7 a8 a9 a10 a11 a12 a13 (wq14 B n)
theorem wq14_0 {A0 A1 A2 A3 A4 A5 A6 A7 A8 A9 A10 A11 A12 A13 R : Type} {B : A0 → A1 → A2 → A3 → A4 → A5 → A6 → A7 → A8 → A9 → A10 → A11 → A12 → A13 → (A0 → A1 → A2 → A3 → A4 → A5 → A6 → A7 → A8 → A9 → A10 → A11 → A12 → A13 → Option R) → Option R} {a0 : A0} {a1 : A1} {a2 : A2} {a3 : A3} {a4 : A4} {a5 : A5} {a6 : A6} {a7 : A7} {a8 : A8} {a9 : A9} {a10 : A10} {a11 : A11} {a12 : A12} {a13 : A13} {r : R} {P : Prop} (h : wq14 B 0 a0 a1 a2 a3 a4 a5 a6 a7 a8 a9 a10 a11 a12 a13 = some r) : P := by cases h
theorem wq14_s {A0 A1 A2 A3 A4 A5 A6 A7 A8 A9 A10 A11 A12 A13 R : Type} {B : A0 → A1 → A2 → A3 → A4 → A5 → A6 → A7 → A8 → A9 → A10 → A11 → A12 → A13 → (A0 → A1 → A2 → A3 → A4 → A5 → A6 → A7 → A8 → A9 → A10 → A11 → A12 → A13 → Option R) → Option R} {n : Nat} {a0 : A0} {a1 : A1} {a2 : A2} {a3 : A3} {a4 : A4} {a5 : A5} {a6 : A6} {a7 : A7} {a8 : A8} {a9 : A9} {a10 : A10} {a11 : A11} {a12 : A12} {a13 : A13} {r : Option R} (h : wq14 B (n + 1) a0 a1 a2 a3 a4 a5 a6 a7 a8 a9 a10 a11 a12 a13 = r) : B a0 a1 a2 a3 a4 a5 a6 a7 a8 a9 a10 a11 a12 a13 (wq14 B n) = r := h
def wq15 {A0 A1 A2 A3 A4 A5 A6 A7 A8 A9 A10 A11 A12 A13 A14 R : Type} (B : A0 → A1 → A2 → A3 → A4 → A5 → A6 → A7 → A8 → A9 → A10 → A11 → A12 → A13 → A14 → (A0 → A1 → A2 → A3 → A4 → A5 → A6 → A7 → A8 → A9 → A10 → A11 → A12 → A13 → A14 → Option R) → Option R) : Nat → A0 → A1 → A2 → A3 → A4 → A5 → A6 → A7 → A8 → A9 → A10 → A11 → A12 → A13 → A14 → Option R
  | 0, _, _, _, _, _, _, _, _, _, _, _, _, _, _, _ => none
  | n + 1, a0, a1, a2, a3, a4, a5, a6, a7, a8, a9, a10, a11, a12, a13, a14 => B a0 a1 a2 a3 a4 a5 a6 a7 a8 a9 a10 a11 a12 a13 a14 (wq15 B n)
theorem wq15_0 {A0 A1 A2 A3 A4 A5 A6 A7 A8 A9 A10 A11 A12 A13 A14 R : Type} {B : A0 → A1 → A2 → A3 → A4 → A5 → A6 → A7 → A8 → A9 → A10 → A11 → A12 → A13 → A14 → (A0 → A1 → A2 → A3 → A4 → A5 → A6 → A7 → A8 → A9 → A10 → A11 → A12 → A13 → A14 → Option R) → Option R} {a0 : A0} {a1 : A1} {a2 : A2} {a3 : A3} {a4 : A4} {a5 : A5} {a6 : A6} {a7 : A7} {a8 : A8} {a9 : A9} {a10 : A10} {a11 : A11} {a12 : A12} {a13 : A13} {a14 : A14} {r : R} {P : Prop} (h : wq15 B 0 a0 a1 a2 a3 a4 a5 a6 a7 a8 a9 a10 a11 a12 a13 a14 = some r) : P := by cases h
theorem wq15_s {A0 A1 A2 A3 A4 A5 A6 A7 A8 A9 A10 A11 A12 A13 A14 R : Type} {B : A0 → A1 → A2 → A3 → A4 → A5 → A6 → A7 → A8 → A9 → A10 → A11 → A12 → A13 → A14 → (A0 → A1 → A2 → A3 → A4 → A5 → A6 → A7 → A8 → A9 → A10 → A11 → A12 → A13 → A14 → Option R) → Option R} {n : Nat} {a0 : A0} {a1 : A1} {a2 : A2} {a3 : A3} {a4 : A4} {a5 : A5} {a6 : A6} {a7 : A7} {a8 : A8} {a9 : A9} {a10 : A10} {a11 : A11} {a12 : A12} {a13 : A13} {a14 : A14} {r : Option R} (h : wq15 B (n + 1) a0 a1 a2 a3 a4 a5 a6 a7 a8 a9 a10 a11 a12 a13 a14 = r) : B a0 a1 a2 a3 a4 a5 a6 a7 a8 a9 a10 a11 a12 a13 a14 (wq15 B n) = r := h
def wq16 {A0 A1 A2 A3 A4 A5 A6 A7 A8 A9 A10 A11 A12 A13 A14 A15 R : Type} (B : A0 → A1 → A2 → A3 → A4 → A5 → A6 → A7 → A8 → A9 → A10 → A11 → A12 → A13 → A14 → A15 → (A0 → A1 → A2 → A3 → A4 → A5 → A6 → A7 → A8 → A9 → A10 → A11 → A12 → A13 → A14 → A15 → Option R) → Option R) : Nat → A0 → A1 → A2 → A3 → A4 → A5 → A6 → A7 → A8 → A9 → A10 → A11 → A12 → A13 → A14 → A15 → Option R
  | 0, _, _, _, _, _, _, _, _, _, _, _, _, _, _, _, _ => none
  | n + 1, a0, a1, a2, a3, a4, a5, a6, a7, a8, a9, a10, a11, a12, a13, a14, a15 => B a0 a1 a2 a3 a4 a5 a6 a7 a8 a9 a10 a11 a12 a13 a14 a15 (wq16 B n)
theorem wq16_0 {A0 A1 A2 A3 A4 A5 A6 A7 A8 A9 A10 A11 A12 A13 A14 A15 R : Type} {B : A0 → A1 → A2 → A3 → A4 → A5 → A6 → A7 → A8 → A9 → A10 → A11 → A12 → A13 → A14 → A15 → (A0 → A1 → A2 → A3 → A4 → A5 → A6 → A7 → A8 → A9 → A10 → A11 → A12 → A13 → A14 → A15 → Option R) → Option R} {a0 : A0} {a1 : A1} {a2 : A2} {a3 : A3} {a4 : A4} {a5 : A5} {a6 : A6} {a7 : A7} {a8 : A8} {a9 : A9} {a10 : A10} {a11 : A11} {a12 : A12} {a13 : A13} {a14 : A14} {a15 : A15} {r : R} {P : Prop} (h : wq16 B 0 a0 a1 a2 a3 a4 a5 a6 a7 a8 a9 a10 a11 a12 a13 a14 a15 = some r) : P := by cases h
theorem wq16_s {A0 A1 A2 A3 A4 A5 A6 A7 A8 A9 A10 A11 A12 A13 A14 A15 R : Type} {B : A0 → A1 → A2 → A3 → A4 → A5 → A6 → A7 → A8 → A9 → A10 → A11 → A12 → A13 → A14 → A15 → (A0 → A1 → A2 → A3 → A4 → A5 → A6 → A7 → A8 → A9 → A10 → A11 → A12 → A13 → A14 → A15 → Option R) → Option R} {n : Nat} {a0 : A0} {a1 : A1} {a2 : A2} {a3 : A3} {a4 : A4} {a5 : A5} {a6 : A6} {a7 : A7} {a8 : A8} {a9 : A9} {a10 : A10} {a11 : A11} {a12 : A12} {a13 : A13} {a14 : A14} {a15 : A15} {r : Option R} (h : wq16 B (n + 1) a0 a1 a2 a3 a4 a5 a6 a7 a8 a9 a10 a11 a12 a13 a14 a15 = r) : B a0 a1 a2 a3 a4 a5 a6 a7 a8 a9 a10 a11 a12 a13 a14 a15 (wq16 B n) = r := h
def wq17 {A0 A1 A2 A3 A4 A5 A6 A7 A8 A9 A10 A11 A12 A13 A14 A15 A16 R : Type} (B : A0 → A1 → A2 → A3 → A4 → A5 → A6 → A7 → A8 → A9 → A10 → A11 → A12 → A13 → A14 → A15 → A16 → (A0 → A1 → A2 → A3 → A4 → A5 → A6 → A7 → A8 → A9 → A10 → A11 → A12 → A13 → A14 → A15 → A16 → Option R) → Option R) : Nat → A0 → A1 → A2 → A3 → A4 → A5 → A6 → A7 → A8 → A9 → A10 → A11 → A12 → A13 → A14 → A15 → A16 → Option R
  | 0, _, _, _, _, _, _, _, _, _, _, _, _, _, _, _, _, _ => none
  | n + 1, a0, a1, a2, a3, a4, a5, a6, a7, a8, a9, a10, a11, a12, a13, a14, a15, a16 => B a0 a1 a2 a3 a4 a5 a6 a7 a8 a9 a10 a11 a12 a13 a14 a15 a16 (wq17 B n)
theorem wq17_0 {A0 A1 A2 A3 A4 A5 A6 A7 A8 A9 A10 A11 A12 A13 A14 A15 A16 R : Type} {B : A0 → A1 → A2 → A3 → A4 → A5 → A6 → A7 → A8 → A9 → A10 → A11 → A12 → A13 → A14 → A15 → A16 → (A0 → A1 → A2 → A3 → A4 → A5 → A6 → A7 → A8 → A9 → A10 → A11 → A12 → A13 → A14 → A15 → A16 → Option R) → Option R} {a0 : A0} {a1 : A1} {a2 : A2} {a3 : A3} {a4 : A4} {a5 : A5} {a6 : A6} {a7 : A7} {a8 : A8} {a9 : A9} {a10 : A10} {a11 : A11} {a12 : A12} {a13 : A13} {a14 : A14} {a15 : A15} {a16 : A16} {r : R} {P : Prop} (h : wq17 B 0 a0 a1 a2 a3 a4 a5 a6 a7 a8 a9 a10 a11 a12 a13 a14 a15 a16 = some r) : P := by cases h
theorem wq17_s {A0 A1 A2 A3 A4 A5 A6 A7 A8 A9 A10 A11 A12 A13 A14 A15 A16 R : Type} {B : A0 → A1 → A2 → A3 → A4 → A5 → A6 → A7 → A8 → A9 → A10 → A11 → A12 → A13 → A14 → A15 → A16 → (A0 → A1 → A2 → A3 → A4 → A5 → A6 → A7 → A8 → A9 → A10 → A11 → A12 → A13 → A14 → A15 → A16 → Option R) → Option R} {n : Nat} {a0 : A0} {a1 : A1} {a2 : A2} {a3 : A3} {a4 : A4} {a5 : A5} {a6 : A6} {a7 : A7} {a8 : A8} {a9 : A9} {a10 : A10} {a11 : A11} {a12 : A12} {a13 : A13} {a14 : A14} {a15 : A15} {a16 : A16} {r : Option R} (h : wq17 B (n + 1) a0 a1 a2 a3 a4 a5 a6 a7 a8 a9 a10 a11 a12 a13 a14 a15 a16 = r) : B a0 a1 a2 a3 a4 a5 a6 a7 a8 a9 a10 a11 a12 a13 a14 a15 a16 (wq17 B n) = r := h
def wq18 {A0 A1 A2 A3 A4 A5 A6 A7 A8 A9 A10 A11 A12 A13 A14 A15 A16 A17 R : Type} (B : A0 → A1 → A2 → A3 → A4 → A5 → A6 → A7 → A8 → A9 → A10 → A11 → A12 → A13 → A14 → A15 → A16 → A17 → (A0 → A1 → A2 → A3 → A4 → A5 → A6 → A7 → A8 → A9 → A10 → A11 → A12 → A13 → A14 → A15 → A16 → A17 → Option R) → Option R) : Nat → A0 → A1 → A2 → A3 → A4 → A5 → A6 → A7 → A8 → A9 → A10 → A11 → A12 → A13 → A14 → A15 → A16 → A17 → Option R
  | 0, _, _, _, _, _, _, _, _, _, _, _, _, _, _, _, _, _, _ => none
  | n + 1, a0, a1, a2, a3, a4, a5, a6, a7, a8, a9, a10, a11, a12, a13, a14, a15, a16, a17 => B a0 a1 a2 a3 a4 a5 a6 a7 a8 a9 a10 a11 a12 a13 a14 a15 a16 a17 (wq18 B n)
theorem wq18_0 {A0 A1 A2 A3 A4 A5 A6 A7 A8 A9 A10 A11 A12 A13 A14 A15 A16 A17 R : Type} {B : A0 → A1 → A2 → A3 → A4 → A5 → A6 → A7 → A8 → A9 → A10 → A11 → A12 → A13 → A14 → A15 → A16 → A17 → (A0 → A1 → A2 → A3 → A4 → A5 → A6 → A7 → A8 → A9 → A10 → A11 → A12 → A13 → A14 → A15 → A16 → A17 → Option R) → Option R} {a0 : A0} {a1 : A1} {a2 : A2} {a3 : A3} {a4 : A4} {a5 : A5} {a6 : A6} {a7 : A7} {a8 : A8} {a9 : A9} {a10 : A10} {a11 : A11} {a12 : A12} {a13 : A13} {a14 : A14} {a15 : A15} {a16 : A16} {a17 : A17} {r : R} {P : Prop} (h : wq18 B 0 a0 a1 a2 a3 a4 a5 a6 a7 a8 a9 a10 a11 a12 a13 a14 a15 a16 a17 = some r) : P := by cases h
theorem wq18_s {A0 A1 A2 A3 A4 A5 A6 A7 A8 A9 A10 A11 A12 A13 A14 A15 A16 A17 R : Type} {B : A0 → A1 → A2 → A3 → A4 → A5 → A6 → A7 → A8 → A9 → A10 → A11 → A12 → A13 → A14 → A15 → A16 → A17 → (A0 → A1 → A2 → A3 → A4 → A5 → A6 → A7 → A8 → A9 → A10 → A11 → A12 → A13 → A14 → A15 → A16 → A17 → Option R) → Option R} {n : Nat} {a0 : A0} {a1 : A1} {a2 : A2} {a3 : A3} {a4 : A4} {a5 : A5} {a6 : A6} {a7 : A7} {a8 : A8} {a9 : A9} {a10 : A10} {a11 : A11} {a12 : A12} {a13 : A13} {a14 : A14} {a15 : A15} {a16 : A16} {a17 : A17} {r : Option R} (h : wq18 B (n + 1) a0 a1 a2 a3 a4 a5 a6 a7 a8 a9 a10 a11 a12 a13 a14 a15 a16 a17 = r) : B a0 a1 a2 a3 a4 a5 a6 a7 a8 a9 a10 a11 a12 a13 a14 a15 a16 a17 (wq18 B n) = r := h
def wq19 {A0 A1 A2 A3 A4 A5 A6 A7 A8 A9 A10 A11 A12 A13 A14 A15 A16 A17 A18 R : Type} (B : A0 → A1 → A2 → A3 → A4 → A5 → A6 → A7 → A8 → A9 → A10 → A11 → A12 → A13 → A14 → A15 → A16 → A17 → A18 → (A0 → A1 → A2 → A3 → A4 → A5 → A6 → A7 → A8 → A9 → A10 → A11 → A12 → A13 → A14 → A15 → A16 → A17 → A18 → Option R) → Option R) : Nat → A0 → A1 → A2 → A3 → A4 → A5 → A6 → A7 → A8 → A9 → A10 → A11 → A12 → A13 → A14 → A15 → A16 → A17 → A18 → Option R
  | 0, _, _, _, _, _, _, _, _, _, _, _, _, _, _, _, _, _, _, _ => none
  | n + 1, a0, a1, a2, a3, a4, a5, a6, a7, a8, a9, a10, a11, a12, a13, a14, a15, a16, a17, a18 => B a0 a1 a2 a3 a4 a5 a6 a7 a8 a9 a10 a11 a12 a13 a14 a15 a16 a17 a18 (wq19 B n)
theorem wq19_0 {A0 A1 A2 A3 A4 A5 A6 A7 A8 A9 A10 A11 A12 A13 A14 A15 A16 A17 A18 R : Type} {B : A0 → A1 → A2 → A3 → A4 → A5 → A6 → A7 → A8 → A9 → A10 → A11 → A12 → A13 → A14 → A15 → A16 → A17 → A18 → (A0 → A1 → A2 → A3 → A4 → A5 → A6 → A7 → A8 → A9 → A10 → A11 → A12 → A13 → A14 → A15 → A16 → A17 → A18 → Option R) → Option R} {a0 : A0} {a1 : A1} {a2 : A2} {a3 : A3} {a4 : A4} {a5 : A5} {a6 : A6} {a7 : A7} {a8 : A8} {a9 : A9} {a10 : A10} {a11 : A11} {a12 : A12} {a13 : A13} {a14 : A14} {a15 : A15} {a16 : A16} {a17 : A17} {a18 : A18} {r : R} {P : Prop} (h : wq19 B 0 a0 a1 a2 a3 a4 a5 a6 a7 a8 a9 a10 a11 a12 a13 a14 a15 a16 a17 a18 = some r) : P := by cases h
theorem wq19_s {A0 A1 A2 A3 A4 A5 A6 A7 A8 A9 A10 A11 A12 A13 A14 A15 A16 A17 A18 R : Type} {B : A0 → A1 → A2 → A3 → A4 → A5 → A6 → A7 → A8 → A9 → A10 → A11 → A12 → A13 → A14 → A15 → A16 → A17 → A18 → (A0 → A1 → A2 → A3 → A4 → A5 → A6 → A7 → A8 → A9 → A10 → A11 → A12 → A13 → A14 → A15 → A16 → A17 → A18 → Option R) → Option R} {n : Nat} {a0 : A0} {a1 : A1} {a2 : A2} {a3 : A3} {a4 : A4} {a5 : A5} {a6 : A6} {a7 : A7} {a8 : A8} {a9 : A9} {a10 : A10} {a11 : A11} {a12 : A12} {a13 : A13} {a14 : A14} {a15 : A15} {a16 : A16} {a17 : A17} {a18 : A18} {r : Option R} (h : wq19 B (n + 1) a0 a1 a2 a3 a4 a5 a6 a7 a8 a9 a10 a11 a12 a13 a14 a15 a16 a17 a18 = r) : B a0 a1 a2 a3 a4 a5 a6 a7 a8 a9 a10 a11 a12 a13 a14 a15 a16 a17 a18 (wq19 B n) = r := h
def wq20 {A0 A1 A2 A3 A4 A5 A6 A7 A8 A9 A10 A11 A12 A13 A14 A15 A16 A17 A18 A19 R : Type} (B : A0 → A1 → A2 → A3 → A4 → A5 → A6 → A7 → A8 → A9 → A10 → A11 → A12 → A13 → A14 → A15 → A16 → A17 → A18 → A19 → (A0 → A1 → A2 → A3 → A4 → A5 → A6 → A7 → A8 → A9 → A10 → A11 → A12 → A13 → A14 → A15 → A16 → A17 → A18 → A19 → Option R) → Option R) : Nat → A0 → A1 → A2 → A3 → A4 → A5 → A6 → A7 → A8 → A9 → A10 → A11 → A12 → A13 → A14 → A15 → A16 → A17 → A18 → A19 → Option R
  | 0, _, _, _, _, _, _, _, _, _, _, _, _, _, _, _, _, _, _, _, _ => none
  | n + 1, a0, a1, a2, a3, a4, a5, a6, a7, a8, a9, a10, a11, a12, a13, a14, a15, a16, a17, a18, a19 => B a0 a1 a2 a3 a4 a5 a6 a7 a8 a9 a10 a11 a12 a13 a14 a15 a16 a17 a18 a19 (wq20 B n)
theorem wq20_0 {A0 A1 A2 A3 A4 A5 A6 A7 A8 A9 A10 A11 A12 A13 A14 A15 A16 A17 A18 A19 R : Type} {B : A0 → A1 → A2 → A3 → A4 → A5 → A6 → A7 → A8 → A9 → A10 → A11 → A12 → A13 → A14 → A15 → A16 → A17 → A18 → A19 → (A0 → A1 → A2 → A3 → A4 → A5 → A6 → A7 → A8 → A9 → A10 → A11 → A12 → A13 → A14 → A15 → A16 → A17 → A18 → A19 → Option R) → Option R} {a0 : A0} {a1 : A1} {a2 : A2} {a3 : A3} {a4 : A4} {a5 : A5} {a6 : A6} {a7 : A7} {a8 : A8} {a9 : A9} {a10 : A10} {a11 : A11} {a12 : A12} {a13 : A13} {a14 : A14} {a15 : A15} {a16 : A16} {a17 : A17} {a18 : A18} {a19 : A19} {r : R} {P : Prop} (h : wq20 B 0 a0 a1 a2 a3 a4 a5 a6 a7 a8 a9 a10 a11 a12 a13 a14 a15 a16 a17 a18 a19 = some r) : P := by cases h
theorem wq20_s {A0 A1 A2 A3 A4 A5 A6 A7 A8 A9 A10 A11 A12 A13 A14 A15 A16 A17 A18 A19 R : Type} {B : A0 → A1 → A2 → A3 → A4 → A5 → A6 → A7 → A8 → A9 → A10 → A11 → A12 → A13 → A14 → A15 → A16 → A17 → A18 → A19 → (A0 → A1 → A2 → A3 → A4 → A5 → A6 → A7 → A8 → A9 → A10 → A11 → A12 → A13 → A14 → A15 → A16 → A17 → A18 → A19 → Option R) → Option R} {n : Nat} {a0 : A0} {a1 : A1} {a2 : A2} {a3 : A3} {a4 : A4} {a5 : A5} {a6 : A6} {a7 : A7} {a8 : A8} {a9 : A9} {a10 : A10} {a11 : A11} {a12 : A12} {a13 : A13} {a14 : A14} {a15 : A15} {a16 : A16} {a17 : A17} {a18 : A18} {a19 : A19} {r : Option R} (h : wq20 B (n + 1) a0 a1 a2 a3 a4 a5 a6 a7 a8 a9 a10 a11 a12 a13 a14 a15 a16 a17 a18 a19 = r) : B a0 a1 a2 a3 a4 a5 a6 a7 a8 a9 a10 a11 a12 a13 a14 a15 a16 a17 a18 a19 (wq20 B n) = r := h
def rot9 {α : Type} (f : Nat → α) : Nat → α := fun i => if i < 8 then f (i + 1) else if i = 8 then f 0 else f i
theorem k_upf {f : Nat → Nat} {k v : Nat} : va_up (fun i => some (f i)) k (some v) = fun i => some (va_up f k v i) := by
  funext i
  unfold va_up
  by_cases h : i = k
  · rw [if_pos h, if_pos h]
  · rw [if_neg h, if_neg h]
theorem k_rot9 {d : Nat → Nat} : va_up (va_up (va_up (va_up (va_up (va_up (va_up (va_up (va_up d 0 (d 1)) 1 (d 2)) 2 (d 3)) 3 (d 4)) 4 (d 5)) 5 (d 6)) 6 (d 7)) 7 (d 8)) 8 (d 0) = rot9 d := by
  funext i
  match i with
  | 0 => rfl
  | 1 => rfl
  | 2 => rfl
  | 3 => rfl
  | 4 => rfl
  | 5 => rfl
  | 6 => rfl
  | 7 => rfl
  | 8 => rfl
  | i + 9 => simp [va_up, rot9]; intro h; omega
theorem k_lt9 {n : Nat} (h : n < 9) : n = 0 ∨ n = 1 ∨ n = 2 ∨ n = 3 ∨ n = 4 ∨ n = 5 ∨ n = 6 ∨ n = 7 ∨ n = 8 := by omega
theorem k_lt7 {n : Nat} (h : n < 7) : n = 0 ∨ n = 1 ∨ n = 2 ∨ n = 3 ∨ n = 4 ∨ n = 5 ∨ n = 6 := by omega
theorem k_in_lt {i : Int32} {n : Nat} (h : vp_in i n) : i.toNatClampNeg < n := Nat.not_le.mp fun q => h (Or.inr q)
theorem k_ne6 {i : Int32} (h : vp_in i 6) : ¬ i.toNatClampNeg = 6 := fun q => by have := k_in_lt h; omega
theorem k_tout7 {x : Int32} (h0 : ¬ x = (0 : Int32)) (h1 : ¬ x = (1 : Int32)) (h2 : ¬ x = (2 : Int32)) (h3 : ¬ x = (3 : Int32)) (h4 : ¬ x = (4 : Int32)) (h5 : ¬ x = (5 : Int32)) (h6 : ¬ x = (6 : Int32)) : x.toInt < 0 ∨ 6 < x.toInt := by
  rcases Classical.em (x.toInt < 0 ∨ 6 < x.toInt) with h | h
  · exact h
  · exfalso
    have e : x = Int32.ofInt x.toInt := (Int32.ofInt_toInt x).symm
    have : x.toInt = 0 ∨ x.toInt = 1 ∨ x.toInt = 2 ∨ x.toInt = 3 ∨ x.toInt = 4 ∨ x.toInt = 5 ∨ x.toInt = 6 := by omega
    rcases this with g | g | g | g | g | g | g <;> rw [g] at e
    · exact h0 e
    · exact h1 e
    · exact h2 e
    · exact h3 e
    · exact h4 e
    · exact h5 e
    · exact h6 e
theorem k_tout3 {x : Int32} (h1 : ¬ x = (1 : Int32)) (h2 : ¬ x = (2 : Int32)) (h3 : ¬ x = (3 : Int32)) : x.toInt < 1 ∨ 3 < x.toInt := by
  rcases Classical.em (x.toInt < 1 ∨ 3 < x.toInt) with h | h
  · exact h
  · exfalso
    have e : x = Int32.ofInt x.toInt := (Int32.ofInt_toInt x).symm
    have : x.toInt = 1 ∨ x.toInt = 2 ∨ x.toInt = 3 := by omega
    rcases this with g | g | g <;> rw [g] at e
    · exact h1 e
    · exact h2 e
    · exact h3 e
theorem k_lout2 {x : Int32} {d a b : Int} (h0 : ¬ x = (0 : Int32)) (h1 : ¬ x = (1 : Int32)) : Op.lookupswitch.offset [(0, a), (1, b)] d x.toInt = d := by
  have e : x = Int32.ofInt x.toInt := (Int32.ofInt_toInt x).symm
  have g0 : ¬ x.toInt = 0 := fun g => h0 (by rw [g] at e; exact e)
  have g1 : ¬ x.toInt = 1 := fun g => h1 (by rw [g] at e; exact e)
  rw [Op.lookupswitch.offset_cons, if_neg (fun q => g0 q.symm), Op.lookupswitch.offset_cons, if_neg (fun q => g1 q.symm), Op.lookupswitch.offset_nil]
def k_T (cI cJ cD cH : ClassId) : List (ClassId × FieldType) := [(cI, .int), (cJ, .long), (cD, .object RX1), (cH, .object RX2)]
def k_pre (G : va_G) (T : List (ClassId × FieldType)) (X : va_W) (sz : Nat) (av : List Value) : Array Value → State → Prop :=
  va_Pc av (fun U => U.heap.size = sz ∧ va_P G vwCl X U.heap ∧ va_K G vwCl T U ∧ va_D (fun _ => True) X)
theorem k_pre_blind {G : va_G} {T : List (ClassId × FieldType)} {X : va_W} {sz : Nat} {av : List Value} : FrameBlind (k_pre G T X sz av) := fun a U g mk q => by
  obtain ⟨q0, q1, qP, qK, qD⟩ := q
  exact ⟨q0, q1, qP, va_K.moved (u := U) (U := U.calling g mk a) (Vm.Alike.refl U.vm) qK, qD⟩
def k_rep : va_W → List Nat → va_W → va_W
  | X, i :: is, q :: qs => k_rep (X.set i q) is qs
  | X, [], _ => X
  | X, _ :: _, [] => X
theorem k_rep_at : ∀ (is : List Nat) (qs X : va_W), is.length = qs.length → ∀ (k : Nat) (q : Nat × va_E), (k_rep X is qs)[k]? = some q → q ∈ qs ∨ (X[k]? = some q ∧ k ∉ is)
  | [], [], X, _, k, q, h => Or.inr ⟨h, List.not_mem_nil⟩
  | i :: is, p :: qs, X, hl, k, q, h => by
    rcases k_rep_at is qs (X.set i p) (by simpa using hl) k q h with h1 | ⟨h1, h2⟩
    · exact Or.inl (List.mem_cons_of_mem _ h1)
    · by_cases e : k = i
      · subst e
        have hk : k < X.length := by
          have := (List.getElem?_eq_some_iff.mp h1).1
          simpa using this
        rw [List.getElem?_set_self hk] at h1
        cases h1
        exact Or.inl List.mem_cons_self
      · rw [List.getElem?_set_ne (Ne.symm e)] at h1
        exact Or.inr ⟨h1, fun z => (List.mem_cons.mp z).elim e h2⟩
theorem k_rep_P {A0 : Nat → Prop} {G : va_G} {cl : List vw_C} {X wc w1 : va_W} {H H1 : Heap} (hP : va_P G cl X H) (hD : va_D A0 X) (isC : List Nat) (hC : isC.map (fun i => X[i]?) = wc.map some) (hk : ∀ q : Nat, q < H.size → ¬ va_A wc H.size q → H1[q]? = H[q]?) (hP1 : va_P G cl w1 H1) (hl : isC.length = w1.length) : va_P G cl (k_rep X isC w1) H1 := by
  intro k q hq
  rcases k_rep_at isC w1 X hl k q hq with h | ⟨h, hn⟩
  · obtain ⟨j, hj⟩ := List.getElem?_of_mem h
    exact hP1 j q hj
  · have hlt := (hP k q h).lt
    refine (hP k q h).kept (hk q.1 hlt fun z => ?_)
    rcases z with ⟨k2, e, h2⟩ | h2
    · have h3 : (isC.map (fun i => X[i]?))[k2]? = some (some (q.1, e)) := by rw [hC, List.getElem?_map, h2]; rfl
      rw [List.getElem?_map] at h3
      cases hi : isC[k2]? with
      | none => rw [hi] at h3; cases h3
      | some i =>
        rw [hi] at h3
        have h4 : X[i]? = some (q.1, e) := Option.some.inj h3
        have := hD.1 k i q (q.1, e) h h4 rfl
        subst this
        exact hn (List.mem_of_getElem? hi)
    · omega
theorem k_D_of {A : Nat → Prop} {X X1 : va_W} (h : va_D A X) (he : X1.map Prod.fst = X.map Prod.fst) : va_D A X1 := by
  have key : ∀ (k : Nat) (q : Nat × va_E), X1[k]? = some q → ∃ q0, X[k]? = some q0 ∧ q0.1 = q.1 := by
    intro k q hk
    have h1 : (X1.map Prod.fst)[k]? = some q.1 := by rw [List.getElem?_map, hk]; rfl
    rw [he, List.getElem?_map] at h1
    cases hx : X[k]? with
    | none => rw [hx] at h1; cases h1
    | some q0 => rw [hx] at h1; exact ⟨q0, rfl, Option.some.inj h1⟩
  refine ⟨fun i j x y hi hj hxy => ?_, fun k q hk => ?_⟩
  · obtain ⟨x0, a1, a2⟩ := key i x hi
    obtain ⟨y0, b1, b2⟩ := key j y hj
    exact h.1 i j x0 y0 a1 b1 (a2.trans (hxy.trans b2.symm))
  · obtain ⟨q0, a1, a2⟩ := key k q hk
    rw [← a2]
    exact h.2 k q0 a1
theorem k_rep_at2 : ∀ (is : List Nat) (qs X : va_W), is.length = qs.length → ∀ (k : Nat) (q : Nat × va_E), (k_rep X is qs)[k]? = some q → (∃ j : Nat, is[j]? = some k ∧ qs[j]? = some q) ∨ (X[k]? = some q ∧ k ∉ is)
  | [], [], X, _, k, q, h => Or.inr ⟨h, List.not_mem_nil⟩
  | i :: is, p :: qs, X, hl, k, q, h => by
    rcases k_rep_at2 is qs (X.set i p) (by simpa using hl) k q h with ⟨j, h1, h2⟩ | ⟨h1, h2⟩
    · exact Or.inl ⟨j + 1, by simpa using h1, by simpa using h2⟩
    · by_cases e : k = i
      · subst e
        have hk : k < X.length := by
          have := (List.getElem?_eq_some_iff.mp h1).1
          simpa using this
        rw [List.getElem?_set_self hk] at h1
        cases h1
        exact Or.inl ⟨0, rfl, rfl⟩
      · rw [List.getElem?_set_ne (Ne.symm e)] at h1
        exact Or.inr ⟨h1, fun z => (List.mem_cons.mp z).elim e h2⟩
theorem k_rep_D {A0 : Nat → Prop} {G : va_G} {cl : List vw_C} {X wc w1 : va_W} {H : Heap} (hP : va_P G cl X H) (hD : va_D A0 X) (isC : List Nat) (hC : isC.map (fun i => X[i]?) = wc.map some) (hF : ∀ q, va_A wc H.size q → A0 q) (hD1 : va_D (va_A wc H.size) w1) (hl : isC.length = w1.length) : va_D A0 (k_rep X isC w1) := by
  have out : ∀ (k : Nat) (q : Nat × va_E), X[k]? = some q → k ∉ isC → ¬ va_A wc H.size q.1 := by
    intro k q h hn z
    have hlt := (hP k q h).lt
    rcases z with ⟨k2, e, h2⟩ | h2
    · have h3 : (isC.map (fun i => X[i]?))[k2]? = some (some (q.1, e)) := by rw [hC, List.getElem?_map, h2]; rfl
      rw [List.getElem?_map] at h3
      cases hi : isC[k2]? with
      | none => rw [hi] at h3; cases h3
      | some i =>
        rw [hi] at h3
        have h4 : X[i]? = some (q.1, e) := Option.some.inj h3
        have := hD.1 k i q (q.1, e) h h4 rfl
        subst this
        exact hn (List.mem_of_getElem? hi)
    · omega
  refine ⟨fun i j x y hi hj hxy => ?_, fun k q hk => ?_⟩
  · rcases k_rep_at2 isC w1 X hl i x hi with ⟨a, a1, a2⟩ | ⟨a1, a2⟩ <;> rcases k_rep_at2 isC w1 X hl j y hj with ⟨b, b1, b2⟩ | ⟨b1, b2⟩
    · have := hD1.1 a b x y a2 b2 hxy
      subst this
      rw [a1] at b1
      exact Option.some.inj b1
    · exact absurd (by rw [← hxy]; exact hD1.2 a x a2) (out j y b1 b2)
    · exact absurd (by rw [hxy]; exact hD1.2 b y b2) (out i x a1 a2)
    · exact hD.1 i j x y a1 b1 hxy
  · rcases k_rep_at2 isC w1 X hl k q hk with ⟨a, a1, a2⟩ | ⟨a1, a2⟩
    · exact hF _ (hD1.2 a q a2)
    · exact hD.2 k q a1
theorem k_mix {A0 : Nat → Prop} {G : va_G} {cl : List vw_C} {X X1 wc w1 : va_W} {H H1 : Heap} {n : Nat} (hP : va_P G cl X H) (hD : va_D A0 X) (isC isR : List Nat) (hC : isC.map (fun i => X[i]?) = wc.map some) (hC1 : isC.map (fun i => X1[i]?) = w1.map some) (hR : isR.map (fun i => X1[i]?) = isR.map (fun i => X[i]?)) (hlen : X1.length = n) (hcov : ∀ k, k < n → k ∈ isC ∨ (k ∈ isR ∧ k ∉ isC)) (hk : ∀ q : Nat, q < H.size → ¬ va_A wc H.size q → H1[q]? = H[q]?) (hP1 : va_P G cl w1 H1) : va_P G cl X1 H1 := by
  intro k q hq
  have hkn : k < n := by rw [← hlen]; exact (List.getElem?_eq_some_iff.mp hq).1
  rcases hcov k hkn with h | ⟨h, hn⟩
  · obtain ⟨j, hj⟩ := List.getElem?_of_mem h
    have h1 : (isC.map (fun i => X1[i]?))[j]? = some (some q) := by rw [List.getElem?_map, hj, Option.map_some, hq]
    rw [hC1, List.getElem?_map] at h1
    cases hw : w1[j]? with
    | none => rw [hw] at h1; cases h1
    | some x => rw [hw] at h1; cases h1; exact hP1 j q hw
  · obtain ⟨j, hj⟩ := List.getElem?_of_mem h
    have h1 : (isR.map (fun i => X1[i]?))[j]? = some (some q) := by rw [List.getElem?_map, hj, Option.map_some, hq]
    rw [hR, List.getElem?_map, hj] at h1
    have hX : X[k]? = some q := Option.some.inj h1
    have hlt := (hP k q hX).lt
    refine (hP k q hX).kept (hk q.1 hlt fun z => ?_)
    rcases z with ⟨k2, e, h2⟩ | h2
    · have h3 : (isC.map (fun i => X[i]?))[k2]? = some (some (q.1, e)) := by rw [hC, List.getElem?_map, h2]; rfl
      rw [List.getElem?_map] at h3
      cases hi : isC[k2]? with
      | none => rw [hi] at h3; cases h3
      | some i =>
        rw [hi] at h3
        have h4 : X[i]? = some (q.1, e) := Option.some.inj h3
        have := hD.1 k i q (q.1, e) hX h4 rfl
        subst this
        exact hn (List.mem_of_getElem? hi)
    · omega
theorem k_mixD {A0 : Nat → Prop} {G : va_G} {cl : List vw_C} {X X1 wc w1 : va_W} {H : Heap} {n : Nat} (hP : va_P G cl X H) (hD : va_D A0 X) (isC isR : List Nat) (hC : isC.map (fun i => X[i]?) = wc.map some) (hC1 : isC.map (fun i => X1[i]?) = w1.map some) (hR : isR.map (fun i => X1[i]?) = isR.map (fun i => X[i]?)) (hlen : X1.length = n) (hcov : ∀ k, k < n → k ∈ isC ∨ (k ∈ isR ∧ k ∉ isC)) (hF : ∀ q, va_A wc H.size q → A0 q) (hD1 : va_D (va_A wc H.size) w1) : va_D A0 X1 := by
  have out : ∀ (k : Nat) (q : Nat × va_E), X[k]? = some q → k ∉ isC → ¬ va_A wc H.size q.1 := by
    intro k q h hn z
    have hlt := (hP k q h).lt
    rcases z with ⟨k2, e, h2⟩ | h2
    · have h3 : (isC.map (fun i => X[i]?))[k2]? = some (some (q.1, e)) := by rw [hC, List.getElem?_map, h2]; rfl
      rw [List.getElem?_map] at h3
      cases hi : isC[k2]? with
      | none => rw [hi] at h3; cases h3
      | some i =>
        rw [hi] at h3
        have h4 : X[i]? = some (q.1, e) := Option.some.inj h3
        have := hD.1 k i q (q.1, e) h h4 rfl
        subst this
        exact hn (List.mem_of_getElem? hi)
    · omega
  have key : ∀ (k : Nat) (q : Nat × va_E), X1[k]? = some q → (∃ j : Nat, isC[j]? = some k ∧ w1[j]? = some q) ∨ (X[k]? = some q ∧ k ∉ isC) := by
    intro k q hq
    have hkn : k < n := by rw [← hlen]; exact (List.getElem?_eq_some_iff.mp hq).1
    rcases hcov k hkn with h | ⟨h, hn⟩
    · obtain ⟨j, hj⟩ := List.getElem?_of_mem h
      have h1 : (isC.map (fun i => X1[i]?))[j]? = some (some q) := by rw [List.getElem?_map, hj, Option.map_some, hq]
      rw [hC1, List.getElem?_map] at h1
      cases hw : w1[j]? with
      | none => rw [hw] at h1; cases h1
      | some x => rw [hw] at h1; cases h1; exact Or.inl ⟨j, hj, hw⟩
    · obtain ⟨j, hj⟩ := List.getElem?_of_mem h
      have h1 : (isR.map (fun i => X1[i]?))[j]? = some (some q) := by rw [List.getElem?_map, hj, Option.map_some, hq]
      rw [hR, List.getElem?_map, hj] at h1
      exact Or.inr ⟨Option.some.inj h1, hn⟩
  refine ⟨fun i j x y hi hj hxy => ?_, fun k q hk => ?_⟩
  · rcases key i x hi with ⟨a, a1, a2⟩ | ⟨a1, a2⟩ <;> rcases key j y hj with ⟨b, b1, b2⟩ | ⟨b1, b2⟩
    · have := hD1.1 a b x y a2 b2 hxy
      subst this
      rw [a1] at b1
      exact Option.some.inj b1
    · exact absurd (by rw [← hxy]; exact hD1.2 a x a2) (out j y b1 b2)
    · exact absurd (by rw [hxy]; exact hD1.2 b y b2) (out i x a1 a2)
    · exact hD.1 i j x y a1 b1 hxy
  · rcases key k q hk with ⟨a, a1, a2⟩ | ⟨a1, a2⟩
    · exact hF _ (hD1.2 a q a2)
    · exact hD.2 k q a1
theorem k_same {A0 : Nat → Prop} {G : va_G} {cl : List vw_C} {X wc : va_W} {H H1 : Heap} (hP : va_P G cl X H) (hD : va_D A0 X) (isC : List Nat) (hC : isC.map (fun i => X[i]?) = wc.map some) (hk : ∀ q : Nat, q < H.size → ¬ va_A wc H.size q → H1[q]? = H[q]?) (hP1 : va_P G cl wc H1) : va_P G cl X H1 := by
  intro k q hq
  have hlt := (hP k q hq).lt
  rcases Classical.em (va_A wc H.size q.1) with z | z
  · rcases z with ⟨k2, e, h2⟩ | h2
    · have h3 : (isC.map (fun i => X[i]?))[k2]? = some (some (q.1, e)) := by rw [hC, List.getElem?_map, h2]; rfl
      rw [List.getElem?_map] at h3
      cases hi : isC[k2]? with
      | none => rw [hi] at h3; cases h3
      | some i =>
        rw [hi] at h3
        have h4 : X[i]? = some (q.1, e) := Option.some.inj h3
        have := hD.1 k i q (q.1, e) hq h4 rfl
        subst this
        rw [hq] at h4
        have h5 : q = (q.1, e) := Option.some.inj h4
        exact hP1 k2 q (by rw [h2, ← h5])
    · omega
  · exact (hP k q hq).kept (hk q.1 hlt z)
section KR
variable {p : Program} {l : Launch} {e : Env} {R : Room} {s : State} {m : MethodId} {args : Array Value} {below : List Frame} {meth : Method} {c : Code} {H : Heap} {locs : List Loc} {cells slots : Nat} {Q : State → Prop}
variable {pc : Nat} {ls : Array Slot} {G : va_G} {T : List (ClassId × FieldType)} {X wc w1 : va_W} {A : Nat → Prop}
variable {y : MethodName} {bytes cc : ByteArray} {maxL nL n index : Nat} {ret : Option FieldType} {ws ws' Ts : List Cond} {rm : Room} {own C : String} {b : Addr} {As rest st : List Value} {ci : Nat} {fs : List Value} {q : vw_C}
theorem k_join {X1 : va_W} {H1 : Heap} (hP : va_P G vwCl X H) (hD : va_D A X) (isC : List Nat) (hC : isC.map (fun i => X[i]?) = wc.map some) (hl : isC.length = w1.length) (hX1 : k_rep X isC w1 = X1) (hadr : X1.map Prod.fst = X.map Prod.fst) (hk1 : ∀ q : Nat, q < H.size → ¬ va_A wc H.size q → H1[q]? = H[q]?) (hP1 : va_P G vwCl w1 H1) : va_P G vwCl X1 H1 ∧ va_D A X1 := by
  subst hX1
  exact ⟨k_rep_P hP hD isC hC hk1 hP1 hl, k_D_of hD hadr⟩
theorem k_at {t : State} (ht : t.heap = H) (hP : va_P G vwCl X H) : va_P G vwCl X t.heap := by rw [ht]; exact hP
theorem k_cut (hP : va_P G vwCl X H) (isC : List Nat) (hC : isC.map (fun i => X[i]?) = wc.map some) : va_P G vwCl wc H := by
  intro k q hq
  have h1 : (isC.map (fun i => X[i]?))[k]? = some (some q) := by rw [hC, List.getElem?_map, hq]; rfl
  rw [List.getElem?_map] at h1
  cases hi : isC[k]? with
  | none => rw [hi] at h1; cases h1
  | some i => rw [hi] at h1; exact hP i q (Option.some.inj h1)
theorem k_preU {av : List Value} (hP : va_P G vwCl X H) (hK : va_K G vwCl T s) (hD : va_D A X) (isC : List Nat) (hn : va_nd isC = true) (hC : isC.map (fun i => X[i]?) = wc.map some) : ∀ U : State, U.heap = H → s.WarmedH U.vm → k_pre G T wc H.size av av.toArray U :=
  fun U hU hW => ⟨rfl, by rw [hU], by rw [hU]; exact k_cut hP isC hC, va_K.moved hW.alike hK, (hD.sub isC hn hC).weaken (fun _ _ _ _ => trivial)⟩
theorem k_Vi {r0 : Int32} {pp : Prop} (hx : p.tables.exec = Jvm.exec) (hb : c.code = cc) (hml : c.maxLocals = nL) (hown : s.vm.findClass own = some m.cls) (hts : ∀ w ∈ Ts, w.before args s = true)
    (hM : Met l y ws rm (k_pre G T wc H.size (.ref b :: As)) (va_Qi (fun r (_ : Unit) => r = r0 ∧ pp) (fun _ t => va_P G vwCl w1 t.heap) (va_A wc H.size)) 0 0 (va_A wc H.size))
    (hT : GoodIn Ts (wsV own index C y ws)) (hw : ws = Cond.code y bytes maxL ret :: ws') (hrc : rm.cells = 0) (hrs : rm.slots = 0) (hd : y.cls = C ∧ y.cls ≠ "java/lang/invoke/MethodHandle" ∧ y.cls ≠ "java/lang/invoke/VarHandle" ∧ (parseMethodDescriptor y.desc).map (fun d => d.parameters.length) = some n) (hR : rm.frames + 1 ≤ R.frames ∧ 8 + (maxL + 11) + rm.locals ≤ R.locals)
    (hK : va_K G vwCl T s) (hP : va_P G vwCl X H) (hD : va_D A X) (hS : va_S A s.heap H locs) (hA : ∀ q : Nat, s.heap.size ≤ q → A q)
    (isC : List Nat) (hn : va_nd isC = true) (hC : isC.map (fun i => X[i]?) = wc.map some) (hl : isC.length = w1.length) (hr0 : wc[0]? = some (b, .inr (ci, fs))) (hcl : vwCl[ci]? = some q) (hq : q.1 = C) 
    (hnA : As.length = n) (hst : st = As.reverse ++ .ref b :: rest) (hls : ls.size = nL) (hcat : (rest.map fun v => v.category).sum ≤ 8) (hdg : decode cc pc = .ok (.invokevirtual index, 3)) (hcs : cells ≤ R.cells ∧ slots ≤ R.slots)
    (X1 : va_W) (isR : List Nat) (n1 : Nat) (hC1 : isC.map (fun i => X1[i]?) = w1.map some) (hRR : isR.map (fun i => X1[i]?) = isR.map (fun i => X[i]?)) (hlen : X1.length = n1) (hcov : ∀ k, k < n1 → k ∈ isC ∨ (k ∈ isR ∧ k ∉ isC)) (hadr : X1.map Prod.fst = X.map Prod.fst)
    (kk : pp → ∀ (H1 : Heap) (locs1 : List Loc), va_P G vwCl X1 H1 → va_D A X1 → va_S A s.heap H1 locs1 → W p l e R s m args below meth c H1 locs1 cells slots Q (F0 m (pc + 3) ls (.int r0 :: rest))) : W p l e R s m args below meth c H locs cells slots Q (F0 m pc ls st) := by
  subst hq
  subst hst
  refine va_calli (va_runV (As := As) (rest := rest) ⟨hx, hb, hml, hown, hts⟩ hM (cwV n hts hT hw hrc hrs hd hR) ⟨k_pre_blind, va_recv hK (k_cut hP isC hC) hcl hr0, k_preU hP hK hD isC hn hC⟩ rfl hnA hls rfl (lv_room hcat) hdg hcs) hS (fun q _ h => va_free hD hS hA isC hC q h) (va_free hD hS hA isC hC) (fun r u t H1 locs1 ht hvm hw2 hB hz1 hk1 hS1 => ?_)
  rw [ht] at hB
  have hP1 := k_mix hP hD isC isR hC hC1 hRR hlen hcov hk1 hB
  have hD1 := k_D_of hD hadr
  obtain ⟨rfl, hpp⟩ := hw2
  exact kk hpp H1 locs1 hP1 hD1 hS1
theorem k_Si {r0 : Int32} {pp : Prop} (hx : p.tables.exec = Jvm.exec) (hb : c.code = cc) (hml : c.maxLocals = nL) (hown : s.vm.findClass own = some m.cls) (hts : ∀ w ∈ Ts, w.before args s = true)
    (hM : Met l y ws rm (k_pre G T wc H.size As) (va_Qi (fun r (_ : Unit) => r = r0 ∧ pp) (fun _ t => va_P G vwCl w1 t.heap) (va_A wc H.size)) 0 0 (va_A wc H.size))
    (hT : GoodIn Ts (va_wsS own index y ws)) (hw : ws = Cond.code y bytes maxL ret :: ws') (hrc : rm.cells = 0) (hrs : rm.slots = 0) (hd : y.cls ≠ "java/lang/invoke/MethodHandle" ∧ y.cls ≠ "java/lang/invoke/VarHandle" ∧ (parseMethodDescriptor y.desc).map (fun d => d.parameters.length) = some n) (hR : rm.frames + 1 ≤ R.frames ∧ 8 + (maxL + 11) + rm.locals ≤ R.locals)
    (hK : va_K G vwCl T s) (hP : va_P G vwCl X H) (hD : va_D A X) (hS : va_S A s.heap H locs) (hA : ∀ q : Nat, s.heap.size ≤ q → A q)
    (isC : List Nat) (hn : va_nd isC = true) (hC : isC.map (fun i => X[i]?) = wc.map some) (hl : isC.length = w1.length) 
    (hnA : As.length = n) (hst : st = As.reverse ++ rest) (hls : ls.size = nL) (hcat : (rest.map fun v => v.category).sum ≤ 8) (hdg : decode cc pc = .ok (.invokestatic index, 3)) (hcs : cells ≤ R.cells ∧ slots ≤ R.slots)
    (X1 : va_W) (isR : List Nat) (n1 : Nat) (hC1 : isC.map (fun i => X1[i]?) = w1.map some) (hRR : isR.map (fun i => X1[i]?) = isR.map (fun i => X[i]?)) (hlen : X1.length = n1) (hcov : ∀ k, k < n1 → k ∈ isC ∨ (k ∈ isR ∧ k ∉ isC)) (hadr : X1.map Prod.fst = X.map Prod.fst)
    (kk : pp → ∀ (H1 : Heap) (locs1 : List Loc), va_P G vwCl X1 H1 → va_D A X1 → va_S A s.heap H1 locs1 → W p l e R s m args below meth c H1 locs1 cells slots Q (F0 m (pc + 3) ls (.int r0 :: rest))) : W p l e R s m args below meth c H locs cells slots Q (F0 m pc ls st) := by
  subst hst
  refine va_calli (va_runS (As := As) (rest := rest) ⟨hx, hb, hml, hown, hts⟩ hM (va_cwS n hts hT hw hrc hrs hd hR) ⟨k_pre_blind, k_preU hP hK hD isC hn hC⟩ rfl hnA hls rfl (lv_room hcat) hdg hcs) hS (fun q _ h => va_free hD hS hA isC hC q h) (va_free hD hS hA isC hC) (fun r u t H1 locs1 ht hvm hw2 hB hz1 hk1 hS1 => ?_)
  rw [ht] at hB
  have hP1 := k_mix hP hD isC isR hC hC1 hRR hlen hcov hk1 hB
  have hD1 := k_D_of hD hadr
  obtain ⟨rfl, hpp⟩ := hw2
  exact kk hpp H1 locs1 hP1 hD1 hS1
theorem k_Vl {r0 : Int64} {pp : Prop} (hx : p.tables.exec = Jvm.exec) (hb : c.code = cc) (hml : c.maxLocals = nL) (hown : s.vm.findClass own = some m.cls) (hts : ∀ w ∈ Ts, w.before args s = true)
    (hM : Met l y ws rm (k_pre G T wc H.size (.ref b :: As)) (va_Ql (fun r (_ : Unit) => r = r0 ∧ pp) (fun _ t => va_P G vwCl w1 t.heap) (va_A wc H.size)) 0 0 (va_A wc H.size))
    (hT : GoodIn Ts (wsV own index C y ws)) (hw : ws = Cond.code y bytes maxL ret :: ws') (hrc : rm.cells = 0) (hrs : rm.slots = 0) (hd : y.cls = C ∧ y.cls ≠ "java/lang/invoke/MethodHandle" ∧ y.cls ≠ "java/lang/invoke/VarHandle" ∧ (parseMethodDescriptor y.desc).map (fun d => d.parameters.length) = some n) (hR : rm.frames + 1 ≤ R.frames ∧ 8 + (maxL + 11) + rm.locals ≤ R.locals)
    (hK : va_K G vwCl T s) (hP : va_P G vwCl X H) (hD : va_D A X) (hS : va_S A s.heap H locs) (hA : ∀ q : Nat, s.heap.size ≤ q → A q)
    (isC : List Nat) (hn : va_nd isC = true) (hC : isC.map (fun i => X[i]?) = wc.map some) (hl : isC.length = w1.length) (hr0 : wc[0]? = some (b, .inr (ci, fs))) (hcl : vwCl[ci]? = some q) (hq : q.1 = C) 
    (hnA : As.length = n) (hst : st = As.reverse ++ .ref b :: rest) (hls : ls.size = nL) (hcat : (rest.map fun v => v.category).sum ≤ 8) (hdg : decode cc pc = .ok (.invokevirtual index, 3)) (hcs : cells ≤ R.cells ∧ slots ≤ R.slots)
    (X1 : va_W) (isR : List Nat) (n1 : Nat) (hC1 : isC.map (fun i => X1[i]?) = w1.map some) (hRR : isR.map (fun i => X1[i]?) = isR.map (fun i => X[i]?)) (hlen : X1.length = n1) (hcov : ∀ k, k < n1 → k ∈ isC ∨ (k ∈ isR ∧ k ∉ isC)) (hadr : X1.map Prod.fst = X.map Prod.fst)
    (kk : pp → ∀ (H1 : Heap) (locs1 : List Loc), va_P G vwCl X1 H1 → va_D A X1 → va_S A s.heap H1 locs1 → W p l e R s m args below meth c H1 locs1 cells slots Q (F0 m (pc + 3) ls (.long r0 :: rest))) : W p l e R s m args below meth c H locs cells slots Q (F0 m pc ls st) := by
  subst hq
  subst hst
  refine va_calll (va_runV (As := As) (rest := rest) ⟨hx, hb, hml, hown, hts⟩ hM (cwV n hts hT hw hrc hrs hd hR) ⟨k_pre_blind, va_recv hK (k_cut hP isC hC) hcl hr0, k_preU hP hK hD isC hn hC⟩ rfl hnA hls rfl (lv_room hcat) hdg hcs) hS (fun q _ h => va_free hD hS hA isC hC q h) (va_free hD hS hA isC hC) (fun r u t H1 locs1 ht hvm hw2 hB hz1 hk1 hS1 => ?_)
  rw [ht] at hB
  have hP1 := k_mix hP hD isC isR hC hC1 hRR hlen hcov hk1 hB
  have hD1 := k_D_of hD hadr
  obtain ⟨rfl, hpp⟩ := hw2
  exact kk hpp H1 locs1 hP1 hD1 hS1
theorem k_Sl {r0 : Int64} {pp : Prop} (hx : p.tables.exec = Jvm.exec) (hb : c.code = cc) (hml : c.maxLocals = nL) (hown : s.vm.findClass own = some m.cls) (hts : ∀ w ∈ Ts, w.before args s = true)
    (hM : Met l y ws rm (k_pre G T wc H.size As) (va_Ql (fun r (_ : Unit) => r = r0 ∧ pp) (fun _ t => va_P G vwCl w1 t.heap) (va_A wc H.size)) 0 0 (va_A wc H.size))
    (hT : GoodIn Ts (va_wsS own index y ws)) (hw : ws = Cond.code y bytes maxL ret :: ws') (hrc : rm.cells = 0) (hrs : rm.slots = 0) (hd : y.cls ≠ "java/lang/invoke/MethodHandle" ∧ y.cls ≠ "java/lang/invoke/VarHandle" ∧ (parseMethodDescriptor y.desc).map (fun d => d.parameters.length) = some n) (hR : rm.frames + 1 ≤ R.frames ∧ 8 + (maxL + 11) + rm.locals ≤ R.locals)
    (hK : va_K G vwCl T s) (hP : va_P G vwCl X H) (hD : va_D A X) (hS : va_S A s.heap H locs) (hA : ∀ q : Nat, s.heap.size ≤ q → A q)
    (isC : List Nat) (hn : va_nd isC = true) (hC : isC.map (fun i => X[i]?) = wc.map some) (hl : isC.length = w1.length) 
    (hnA : As.length = n) (hst : st = As.reverse ++ rest) (hls : ls.size = nL) (hcat : (rest.map fun v => v.category).sum ≤ 8) (hdg : decode cc pc = .ok (.invokestatic index, 3)) (hcs : cells ≤ R.cells ∧ slots ≤ R.slots)
    (X1 : va_W) (isR : List Nat) (n1 : Nat) (hC1 : isC.map (fun i => X1[i]?) = w1.map some) (hRR : isR.map (fun i => X1[i]?) = isR.map (fun i => X[i]?)) (hlen : X1.length = n1) (hcov : ∀ k, k < n1 → k ∈ isC ∨ (k ∈ isR ∧ k ∉ isC)) (hadr : X1.map Prod.fst = X.map Prod.fst)
    (kk : pp → ∀ (H1 : Heap) (locs1 : List Loc), va_P G vwCl X1 H1 → va_D A X1 → va_S A s.heap H1 locs1 → W p l e R s m args below meth c H1 locs1 cells slots Q (F0 m (pc + 3) ls (.long r0 :: rest))) : W p l e R s m args below meth c H locs cells slots Q (F0 m pc ls st) := by
  subst hst
  refine va_calll (va_runS (As := As) (rest := rest) ⟨hx, hb, hml, hown, hts⟩ hM (va_cwS n hts hT hw hrc hrs hd hR) ⟨k_pre_blind, k_preU hP hK hD isC hn hC⟩ rfl hnA hls rfl (lv_room hcat) hdg hcs) hS (fun q _ h => va_free hD hS hA isC hC q h) (va_free hD hS hA isC hC) (fun r u t H1 locs1 ht hvm hw2 hB hz1 hk1 hS1 => ?_)
  rw [ht] at hB
  have hP1 := k_mix hP hD isC isR hC hC1 hRR hlen hcov hk1 hB
  have hD1 := k_D_of hD hadr
  obtain ⟨rfl, hpp⟩ := hw2
  exact kk hpp H1 locs1 hP1 hD1 hS1
theorem k_Vv {pp : Prop} (hx : p.tables.exec = Jvm.exec) (hb : c.code = cc) (hml : c.maxLocals = nL) (hown : s.vm.findClass own = some m.cls) (hts : ∀ w ∈ Ts, w.before args s = true)
    (hM : Met l y ws rm (k_pre G T wc H.size (.ref b :: As)) (va_Qv (fun (_ : Unit) => pp) (fun _ t => va_P G vwCl w1 t.heap) (va_A wc H.size)) 0 0 (va_A wc H.size))
    (hT : GoodIn Ts (wsV own index C y ws)) (hw : ws = Cond.code y bytes maxL ret :: ws') (hrc : rm.cells = 0) (hrs : rm.slots = 0) (hd : y.cls = C ∧ y.cls ≠ "java/lang/invoke/MethodHandle" ∧ y.cls ≠ "java/lang/invoke/VarHandle" ∧ (parseMethodDescriptor y.desc).map (fun d => d.parameters.length) = some n) (hR : rm.frames + 1 ≤ R.frames ∧ 8 + (maxL + 11) + rm.locals ≤ R.locals)
    (hK : va_K G vwCl T s) (hP : va_P G vwCl X H) (hD : va_D A X) (hS : va_S A s.heap H locs) (hA : ∀ q : Nat, s.heap.size ≤ q → A q)
    (isC : List Nat) (hn : va_nd isC = true) (hC : isC.map (fun i => X[i]?) = wc.map some) (hl : isC.length = w1.length) (hr0 : wc[0]? = some (b, .inr (ci, fs))) (hcl : vwCl[ci]? = some q) (hq : q.1 = C) 
    (hnA : As.length = n) (hst : st = As.reverse ++ .ref b :: rest) (hls : ls.size = nL) (hcat : (rest.map fun v => v.category).sum ≤ 8) (hdg : decode cc pc = .ok (.invokevirtual index, 3)) (hcs : cells ≤ R.cells ∧ slots ≤ R.slots)
    (X1 : va_W) (isR : List Nat) (n1 : Nat) (hC1 : isC.map (fun i => X1[i]?) = w1.map some) (hRR : isR.map (fun i => X1[i]?) = isR.map (fun i => X[i]?)) (hlen : X1.length = n1) (hcov : ∀ k, k < n1 → k ∈ isC ∨ (k ∈ isR ∧ k ∉ isC)) (hadr : X1.map Prod.fst = X.map Prod.fst)
    (kk : pp → ∀ (H1 : Heap) (locs1 : List Loc), va_P G vwCl X1 H1 → va_D A X1 → va_S A s.heap H1 locs1 → W p l e R s m args below meth c H1 locs1 cells slots Q (F0 m (pc + 3) ls (rest))) : W p l e R s m args below meth c H locs cells slots Q (F0 m pc ls st) := by
  subst hq
  subst hst
  refine va_callv (va_runV (As := As) (rest := rest) ⟨hx, hb, hml, hown, hts⟩ hM (cwV n hts hT hw hrc hrs hd hR) ⟨k_pre_blind, va_recv hK (k_cut hP isC hC) hcl hr0, k_preU hP hK hD isC hn hC⟩ rfl hnA hls rfl (lv_room hcat) hdg hcs) hS (fun q _ h => va_free hD hS hA isC hC q h) (va_free hD hS hA isC hC) (fun u t H1 locs1 ht hvm hw2 hB hz1 hk1 hS1 => ?_)
  rw [ht] at hB
  have hP1 := k_mix hP hD isC isR hC hC1 hRR hlen hcov hk1 hB
  have hD1 := k_D_of hD hadr
  exact kk hw2 H1 locs1 hP1 hD1 hS1
theorem k_Sv {pp : Prop} (hx : p.tables.exec = Jvm.exec) (hb : c.code = cc) (hml : c.maxLocals = nL) (hown : s.vm.findClass own = some m.cls) (hts : ∀ w ∈ Ts, w.before args s = true)
    (hM : Met l y ws rm (k_pre G T wc H.size As) (va_Qv (fun (_ : Unit) => pp) (fun _ t => va_P G vwCl w1 t.heap) (va_A wc H.size)) 0 0 (va_A wc H.size))
    (hT : GoodIn Ts (va_wsS own index y ws)) (hw : ws = Cond.code y bytes maxL ret :: ws') (hrc : rm.cells = 0) (hrs : rm.slots = 0) (hd : y.cls ≠ "java/lang/invoke/MethodHandle" ∧ y.cls ≠ "java/lang/invoke/VarHandle" ∧ (parseMethodDescriptor y.desc).map (fun d => d.parameters.length) = some n) (hR : rm.frames + 1 ≤ R.frames ∧ 8 + (maxL + 11) + rm.locals ≤ R.locals)
    (hK : va_K G vwCl T s) (hP : va_P G vwCl X H) (hD : va_D A X) (hS : va_S A s.heap H locs) (hA : ∀ q : Nat, s.heap.size ≤ q → A q)
    (isC : List Nat) (hn : va_nd isC = true) (hC : isC.map (fun i => X[i]?) = wc.map some) (hl : isC.length = w1.length) 
    (hnA : As.length = n) (hst : st = As.reverse ++ rest) (hls : ls.size = nL) (hcat : (rest.map fun v => v.category).sum ≤ 8) (hdg : decode cc pc = .ok (.invokestatic index, 3)) (hcs : cells ≤ R.cells ∧ slots ≤ R.slots)
    (X1 : va_W) (isR : List Nat) (n1 : Nat) (hC1 : isC.map (fun i => X1[i]?) = w1.map some) (hRR : isR.map (fun i => X1[i]?) = isR.map (fun i => X[i]?)) (hlen : X1.length = n1) (hcov : ∀ k, k < n1 → k ∈ isC ∨ (k ∈ isR ∧ k ∉ isC)) (hadr : X1.map Prod.fst = X.map Prod.fst)
    (kk : pp → ∀ (H1 : Heap) (locs1 : List Loc), va_P G vwCl X1 H1 → va_D A X1 → va_S A s.heap H1 locs1 → W p l e R s m args below meth c H1 locs1 cells slots Q (F0 m (pc + 3) ls (rest))) : W p l e R s m args below meth c H locs cells slots Q (F0 m pc ls st) := by
  subst hst
  refine va_callv (va_runS (As := As) (rest := rest) ⟨hx, hb, hml, hown, hts⟩ hM (va_cwS n hts hT hw hrc hrs hd hR) ⟨k_pre_blind, k_preU hP hK hD isC hn hC⟩ rfl hnA hls rfl (lv_room hcat) hdg hcs) hS (fun q _ h => va_free hD hS hA isC hC q h) (va_free hD hS hA isC hC) (fun u t H1 locs1 ht hvm hw2 hB hz1 hk1 hS1 => ?_)
  rw [ht] at hB
  have hP1 := k_mix hP hD isC isR hC hC1 hRR hlen hcov hk1 hB
  have hD1 := k_D_of hD hadr
  exact kk hw2 H1 locs1 hP1 hD1 hS1
theorem k_iret {v r0 : Int32} (hx : p.tables.exec = Jvm.exec) (hb : c.code = cc) (hr : meth.sig.returnType = some .int) (hlocks : meth.locks = false) (hP : va_P G vwCl X H) (hS : va_S A s.heap H locs) (hv : v = r0) (hdg : decode cc pc = .ok (.ireturn, 1)) : W p l e R s m args below meth c H locs cells slots (MQ below (va_Qi (fun r (_ : Unit) => r = r0 ∧ True) (fun _ t => va_P G vwCl X t.heap) A) args s cells slots A) (F0 m pc ls [.int v]) :=
  W.iret hx hb hr (fun t ht _ => ⟨⟨_, (), rfl, ⟨hv, trivial⟩, k_at ht hP⟩, hS.F ht⟩) hS.2.2 hdg
theorem k_zret {v r0 : Int32} (hx : p.tables.exec = Jvm.exec) (hb : c.code = cc) (hr : meth.sig.returnType = some .boolean) (hlocks : meth.locks = false) (hP : va_P G vwCl X H) (hS : va_S A s.heap H locs) (hv : v = r0) (hnar : narrow .boolean (.int v) = .int v) (hdg : decode cc pc = .ok (.ireturn, 1)) : W p l e R s m args below meth c H locs cells slots (MQ below (va_Qi (fun r (_ : Unit) => r = r0 ∧ narrow .boolean (.int r0) = .int r0) (fun _ t => va_P G vwCl X t.heap) A) args s cells slots A) (F0 m pc ls [.int v]) :=
  W.zret hx hb hr hnar (fun t ht _ => ⟨⟨_, (), rfl, ⟨hv, by rw [← hv]; exact hnar⟩, k_at ht hP⟩, hS.F ht⟩) hS.2.2 hdg
theorem k_lret {v r0 : Int64} (hx : p.tables.exec = Jvm.exec) (hb : c.code = cc) (hr : meth.sig.returnType = some .long) (hlocks : meth.locks = false) (hP : va_P G vwCl X H) (hS : va_S A s.heap H locs) (hv : v = r0) (hdg : decode cc pc = .ok (.lreturn, 1)) : W p l e R s m args below meth c H locs cells slots (MQ below (va_Ql (fun r (_ : Unit) => r = r0 ∧ True) (fun _ t => va_P G vwCl X t.heap) A) args s cells slots A) (F0 m pc ls [.long v]) :=
  W.lret hx hb hr (fun t ht _ => ⟨⟨_, (), rfl, ⟨hv, trivial⟩, k_at ht hP⟩, hS.F ht⟩) hS.2.2 hdg
theorem k_vret (hx : p.tables.exec = Jvm.exec) (hb : c.code = cc) (hr : meth.sig.returnType = none) (hlocks : meth.locks = false) (hP : va_P G vwCl X H) (hS : va_S A s.heap H locs) (hdg : decode cc pc = .ok (.return_, 1)) : W p l e R s m args below meth c H locs cells slots (MQ below (va_Qv (fun (_ : Unit) => True) (fun _ t => va_P G vwCl X t.heap) A) args s cells slots A) (F0 m pc ls []) :=
  W.vret hx hb hr (fun t ht _ => ⟨⟨(), rfl, trivial, k_at ht hP⟩, hS.F ht⟩) hS.2.2 hdg
theorem k_ViP {r0 : Int32} {pp : Prop} (hx : p.tables.exec = Jvm.exec) (hb : c.code = cc) (hml : c.maxLocals = nL) (hown : s.vm.findClass own = some m.cls) (hts : ∀ w ∈ Ts, w.before args s = true)
    (hM : Met l y ws rm (k_pre G T wc H.size (.ref b :: As)) (va_Qi (fun r (_ : Unit) => r = r0 ∧ pp) (fun _ t => va_P G vwCl w1 t.heap ∧ va_D (va_A wc H.size) w1) (va_A wc H.size)) 0 0 (va_A wc H.size))
    (hT : GoodIn Ts (wsV own index C y ws)) (hw : ws = Cond.code y bytes maxL ret :: ws') (hrc : rm.cells = 0) (hrs : rm.slots = 0) (hd : y.cls = C ∧ y.cls ≠ "java/lang/invoke/MethodHandle" ∧ y.cls ≠ "java/lang/invoke/VarHandle" ∧ (parseMethodDescriptor y.desc).map (fun d => d.parameters.length) = some n) (hR : rm.frames + 1 ≤ R.frames ∧ 8 + (maxL + 11) + rm.locals ≤ R.locals)
    (hK : va_K G vwCl T s) (hP : va_P G vwCl X H) (hD : va_D A X) (hS : va_S A s.heap H locs) (hA : ∀ q : Nat, s.heap.size ≤ q → A q)
    (isC : List Nat) (hn : va_nd isC = true) (hC : isC.map (fun i => X[i]?) = wc.map some) (hl : isC.length = w1.length) (hr0 : wc[0]? = some (b, .inr (ci, fs))) (hcl : vwCl[ci]? = some q) (hq : q.1 = C) 
    (hnA : As.length = n) (hst : st = As.reverse ++ .ref b :: rest) (hls : ls.size = nL) (hcat : (rest.map fun v => v.category).sum ≤ 8) (hdg : decode cc pc = .ok (.invokevirtual index, 3)) (hcs : cells ≤ R.cells ∧ slots ≤ R.slots)
    (X1 : va_W) (isR : List Nat) (n1 : Nat) (hC1 : isC.map (fun i => X1[i]?) = w1.map some) (hRR : isR.map (fun i => X1[i]?) = isR.map (fun i => X[i]?)) (hlen : X1.length = n1) (hcov : ∀ k, k < n1 → k ∈ isC ∨ (k ∈ isR ∧ k ∉ isC))
    (kk : pp → ∀ (H1 : Heap) (locs1 : List Loc), va_P G vwCl X1 H1 → va_D A X1 → va_S A s.heap H1 locs1 → W p l e R s m args below meth c H1 locs1 cells slots Q (F0 m (pc + 3) ls (.int r0 :: rest))) : W p l e R s m args below meth c H locs cells slots Q (F0 m pc ls st) := by
  subst hq
  subst hst
  refine va_calli (va_runV (As := As) (rest := rest) ⟨hx, hb, hml, hown, hts⟩ hM (cwV n hts hT hw hrc hrs hd hR) ⟨k_pre_blind, va_recv hK (k_cut hP isC hC) hcl hr0, k_preU hP hK hD isC hn hC⟩ rfl hnA hls rfl (lv_room hcat) hdg hcs) hS (fun q _ h => va_free hD hS hA isC hC q h) (va_free hD hS hA isC hC) (fun r u t H1 locs1 ht hvm hw2 hB hz1 hk1 hS1 => ?_)
  rw [ht] at hB
  obtain ⟨hB, hBD⟩ := hB
  have hP1 := k_mix hP hD isC isR hC hC1 hRR hlen hcov hk1 hB
  have hD1 := k_mixD hP hD isC isR hC hC1 hRR hlen hcov (va_free hD hS hA isC hC) hBD
  obtain ⟨rfl, hpp⟩ := hw2
  exact kk hpp H1 locs1 hP1 hD1 hS1
theorem k_VvP {pp : Prop} (hx : p.tables.exec = Jvm.exec) (hb : c.code = cc) (hml : c.maxLocals = nL) (hown : s.vm.findClass own = some m.cls) (hts : ∀ w ∈ Ts, w.before args s = true)
    (hM : Met l y ws rm (k_pre G T wc H.size (.ref b :: As)) (va_Qv (fun (_ : Unit) => pp) (fun _ t => va_P G vwCl w1 t.heap ∧ va_D (va_A wc H.size) w1) (va_A wc H.size)) 0 0 (va_A wc H.size))
    (hT : GoodIn Ts (wsV own index C y ws)) (hw : ws = Cond.code y bytes maxL ret :: ws') (hrc : rm.cells = 0) (hrs : rm.slots = 0) (hd : y.cls = C ∧ y.cls ≠ "java/lang/invoke/MethodHandle" ∧ y.cls ≠ "java/lang/invoke/VarHandle" ∧ (parseMethodDescriptor y.desc).map (fun d => d.parameters.length) = some n) (hR : rm.frames + 1 ≤ R.frames ∧ 8 + (maxL + 11) + rm.locals ≤ R.locals)
    (hK : va_K G vwCl T s) (hP : va_P G vwCl X H) (hD : va_D A X) (hS : va_S A s.heap H locs) (hA : ∀ q : Nat, s.heap.size ≤ q → A q)
    (isC : List Nat) (hn : va_nd isC = true) (hC : isC.map (fun i => X[i]?) = wc.map some) (hl : isC.length = w1.length) (hr0 : wc[0]? = some (b, .inr (ci, fs))) (hcl : vwCl[ci]? = some q) (hq : q.1 = C) 
    (hnA : As.length = n) (hst : st = As.reverse ++ .ref b :: rest) (hls : ls.size = nL) (hcat : (rest.map fun v => v.category).sum ≤ 8) (hdg : decode cc pc = .ok (.invokevirtual index, 3)) (hcs : cells ≤ R.cells ∧ slots ≤ R.slots)
    (X1 : va_W) (isR : List Nat) (n1 : Nat) (hC1 : isC.map (fun i => X1[i]?) = w1.map some) (hRR : isR.map (fun i => X1[i]?) = isR.map (fun i => X[i]?)) (hlen : X1.length = n1) (hcov : ∀ k, k < n1 → k ∈ isC ∨ (k ∈ isR ∧ k ∉ isC))
    (kk : pp → ∀ (H1 : Heap) (locs1 : List Loc), va_P G vwCl X1 H1 → va_D A X1 → va_S A s.heap H1 locs1 → W p l e R s m args below meth c H1 locs1 cells slots Q (F0 m (pc + 3) ls (rest))) : W p l e R s m args below meth c H locs cells slots Q (F0 m pc ls st) := by
  subst hq
  subst hst
  refine va_callv (va_runV (As := As) (rest := rest) ⟨hx, hb, hml, hown, hts⟩ hM (cwV n hts hT hw hrc hrs hd hR) ⟨k_pre_blind, va_recv hK (k_cut hP isC hC) hcl hr0, k_preU hP hK hD isC hn hC⟩ rfl hnA hls rfl (lv_room hcat) hdg hcs) hS (fun q _ h => va_free hD hS hA isC hC q h) (va_free hD hS hA isC hC) (fun u t H1 locs1 ht hvm hw2 hB hz1 hk1 hS1 => ?_)
  rw [ht] at hB
  obtain ⟨hB, hBD⟩ := hB
  have hP1 := k_mix hP hD isC isR hC hC1 hRR hlen hcov hk1 hB
  have hD1 := k_mixD hP hD isC isR hC hC1 hRR hlen hcov (va_free hD hS hA isC hC) hBD
  exact kk hw2 H1 locs1 hP1 hD1 hS1
theorem k_VlP {r0 : Int64} {pp : Prop} (hx : p.tables.exec = Jvm.exec) (hb : c.code = cc) (hml : c.maxLocals = nL) (hown : s.vm.findClass own = some m.cls) (hts : ∀ w ∈ Ts, w.before args s = true)
    (hM : Met l y ws rm (k_pre G T wc H.size (.ref b :: As)) (va_Ql (fun r (_ : Unit) => r = r0 ∧ pp) (fun _ t => va_P G vwCl w1 t.heap ∧ va_D (va_A wc H.size) w1) (va_A wc H.size)) 0 0 (va_A wc H.size))
    (hT : GoodIn Ts (wsV own index C y ws)) (hw : ws = Cond.code y bytes maxL ret :: ws') (hrc : rm.cells = 0) (hrs : rm.slots = 0) (hd : y.cls = C ∧ y.cls ≠ "java/lang/invoke/MethodHandle" ∧ y.cls ≠ "java/lang/invoke/VarHandle" ∧ (parseMethodDescriptor y.desc).map (fun d => d.parameters.length) = some n) (hR : rm.frames + 1 ≤ R.frames ∧ 8 + (maxL + 11) + rm.locals ≤ R.locals)
    (hK : va_K G vwCl T s) (hP : va_P G vwCl X H) (hD : va_D A X) (hS : va_S A s.heap H locs) (hA : ∀ q : Nat, s.heap.size ≤ q → A q)
    (isC : List Nat) (hn : va_nd isC = true) (hC : isC.map (fun i => X[i]?) = wc.map some) (hl : isC.length = w1.length) (hr0 : wc[0]? = some (b, .inr (ci, fs))) (hcl : vwCl[ci]? = some q) (hq : q.1 = C) 
    (hnA : As.length = n) (hst : st = As.reverse ++ .ref b :: rest) (hls : ls.size = nL) (hcat : (rest.map fun v => v.category).sum ≤ 8) (hdg : decode cc pc = .ok (.invokevirtual index, 3)) (hcs : cells ≤ R.cells ∧ slots ≤ R.slots)
    (X1 : va_W) (isR : List Nat) (n1 : Nat) (hC1 : isC.map (fun i => X1[i]?) = w1.map some) (hRR : isR.map (fun i => X1[i]?) = isR.map (fun i => X[i]?)) (hlen : X1.length = n1) (hcov : ∀ k, k < n1 → k ∈ isC ∨ (k ∈ isR ∧ k ∉ isC))
    (kk : pp → ∀ (H1 : Heap) (locs1 : List Loc), va_P G vwCl X1 H1 → va_D A X1 → va_S A s.heap H1 locs1 → W p l e R s m args below meth c H1 locs1 cells slots Q (F0 m (pc + 3) ls (.long r0 :: rest))) : W p l e R s m args below meth c H locs cells slots Q (F0 m pc ls st) := by
  subst hq
  subst hst
  refine va_calll (va_runV (As := As) (rest := rest) ⟨hx, hb, hml, hown, hts⟩ hM (cwV n hts hT hw hrc hrs hd hR) ⟨k_pre_blind, va_recv hK (k_cut hP isC hC) hcl hr0, k_preU hP hK hD isC hn hC⟩ rfl hnA hls rfl (lv_room hcat) hdg hcs) hS (fun q _ h => va_free hD hS hA isC hC q h) (va_free hD hS hA isC hC) (fun r u t H1 locs1 ht hvm hw2 hB hz1 hk1 hS1 => ?_)
  rw [ht] at hB
  obtain ⟨hB, hBD⟩ := hB
  have hP1 := k_mix hP hD isC isR hC hC1 hRR hlen hcov hk1 hB
  have hD1 := k_mixD hP hD isC isR hC hC1 hRR hlen hcov (va_free hD hS hA isC hC) hBD
  obtain ⟨rfl, hpp⟩ := hw2
  exact kk hpp H1 locs1 hP1 hD1 hS1
theorem k_Vq {ro : Option Nat} (hx : p.tables.exec = Jvm.exec) (hb : c.code = cc) (hml : c.maxLocals = nL) (hown : s.vm.findClass own = some m.cls) (hts : ∀ w ∈ Ts, w.before args s = true)
    (hM : Met l y ws rm (k_pre G T wc H.size (.ref b :: As)) (va_Qq (fun r (_ : Unit) => r = ro) (fun _ t => va_P G vwCl w1 t.heap) (va_A wc H.size)) 0 0 (va_A wc H.size))
    (hT : GoodIn Ts (wsV own index C y ws)) (hw : ws = Cond.code y bytes maxL ret :: ws') (hrc : rm.cells = 0) (hrs : rm.slots = 0) (hd : y.cls = C ∧ y.cls ≠ "java/lang/invoke/MethodHandle" ∧ y.cls ≠ "java/lang/invoke/VarHandle" ∧ (parseMethodDescriptor y.desc).map (fun d => d.parameters.length) = some n) (hR : rm.frames + 1 ≤ R.frames ∧ 8 + (maxL + 11) + rm.locals ≤ R.locals)
    (hK : va_K G vwCl T s) (hP : va_P G vwCl X H) (hD : va_D A X) (hS : va_S A s.heap H locs) (hA : ∀ q : Nat, s.heap.size ≤ q → A q)
    (isC : List Nat) (hn : va_nd isC = true) (hC : isC.map (fun i => X[i]?) = wc.map some) (hl : isC.length = w1.length) (hr0 : wc[0]? = some (b, .inr (ci, fs))) (hcl : vwCl[ci]? = some q) (hq : q.1 = C) 
    (hnA : As.length = n) (hst : st = As.reverse ++ .ref b :: rest) (hls : ls.size = nL) (hcat : (rest.map fun v => v.category).sum ≤ 8) (hdg : decode cc pc = .ok (.invokevirtual index, 3)) (hcs : cells ≤ R.cells ∧ slots ≤ R.slots)
    (X1 : va_W) (isR : List Nat) (n1 : Nat) (hC1 : isC.map (fun i => X1[i]?) = w1.map some) (hRR : isR.map (fun i => X1[i]?) = isR.map (fun i => X[i]?)) (hlen : X1.length = n1) (hcov : ∀ k, k < n1 → k ∈ isC ∨ (k ∈ isR ∧ k ∉ isC)) (hadr : X1.map Prod.fst = X.map Prod.fst)
    (kk : True → ∀ (H1 : Heap) (locs1 : List Loc), va_P G vwCl X1 H1 → va_D A X1 → va_S A s.heap H1 locs1 → W p l e R s m args below meth c H1 locs1 cells slots Q (F0 m (pc + 3) ls (va_rf ro :: rest))) : W p l e R s m args below meth c H locs cells slots Q (F0 m pc ls st) := by
  subst hq
  subst hst
  refine va_callq (va_runV (As := As) (rest := rest) ⟨hx, hb, hml, hown, hts⟩ hM (cwV n hts hT hw hrc hrs hd hR) ⟨k_pre_blind, va_recv hK (k_cut hP isC hC) hcl hr0, k_preU hP hK hD isC hn hC⟩ rfl hnA hls rfl (lv_room hcat) hdg hcs) hS (fun q _ h => va_free hD hS hA isC hC q h) (va_free hD hS hA isC hC) (fun r u t H1 locs1 ht hvm hw2 hB hz1 hk1 hS1 => ?_)
  rw [ht] at hB
  have hP1 := k_mix hP hD isC isR hC hC1 hRR hlen hcov hk1 hB
  have hD1 := k_D_of hD hadr
  subst hw2
  exact kk trivial H1 locs1 hP1 hD1 hS1
theorem k_iretP {v r0 : Int32} (hx : p.tables.exec = Jvm.exec) (hb : c.code = cc) (hr : meth.sig.returnType = some .int) (hlocks : meth.locks = false) (hD : va_D A X) (hP : va_P G vwCl X H) (hS : va_S A s.heap H locs) (hv : v = r0) (hdg : decode cc pc = .ok (.ireturn, 1)) : W p l e R s m args below meth c H locs cells slots (MQ below (va_Qi (fun r (_ : Unit) => r = r0 ∧ True) (fun _ t => va_P G vwCl X t.heap ∧ va_D A X) A) args s cells slots A) (F0 m pc ls [.int v]) :=
  W.iret hx hb hr (fun t ht _ => ⟨⟨_, (), rfl, ⟨hv, trivial⟩, ⟨k_at ht hP, hD⟩⟩, hS.F ht⟩) hS.2.2 hdg
theorem k_vretP (hx : p.tables.exec = Jvm.exec) (hb : c.code = cc) (hr : meth.sig.returnType = none) (hlocks : meth.locks = false) (hD : va_D A X) (hP : va_P G vwCl X H) (hS : va_S A s.heap H locs) (hdg : decode cc pc = .ok (.return_, 1)) : W p l e R s m args below meth c H locs cells slots (MQ below (va_Qv (fun (_ : Unit) => True) (fun _ t => va_P G vwCl X t.heap ∧ va_D A X) A) args s cells slots A) (F0 m pc ls []) :=
  W.vret hx hb hr (fun t ht _ => ⟨⟨(), rfl, trivial, ⟨k_at ht hP, hD⟩⟩, hS.F ht⟩) hS.2.2 hdg
theorem k_lretP {v r0 : Int64} (hx : p.tables.exec = Jvm.exec) (hb : c.code = cc) (hr : meth.sig.returnType = some .long) (hlocks : meth.locks = false) (hD : va_D A X) (hP : va_P G vwCl X H) (hS : va_S A s.heap H locs) (hv : v = r0) (hdg : decode cc pc = .ok (.lreturn, 1)) : W p l e R s m args below meth c H locs cells slots (MQ below (va_Ql (fun r (_ : Unit) => r = r0 ∧ True) (fun _ t => va_P G vwCl X t.heap ∧ va_D A X) A) args s cells slots A) (F0 m pc ls [.long v]) :=
  W.lret hx hb hr (fun t ht _ => ⟨⟨_, (), rfl, ⟨hv, trivial⟩, ⟨k_at ht hP, hD⟩⟩, hS.F ht⟩) hS.2.2 hdg
theorem k_zretP {v r0 : Int32} (hx : p.tables.exec = Jvm.exec) (hb : c.code = cc) (hr : meth.sig.returnType = some .boolean) (hlocks : meth.locks = false) (hD : va_D A X) (hP : va_P G vwCl X H) (hS : va_S A s.heap H locs) (hv : v = r0) (hnar : narrow .boolean (.int v) = .int v) (hdg : decode cc pc = .ok (.ireturn, 1)) : W p l e R s m args below meth c H locs cells slots (MQ below (va_Qi (fun r (_ : Unit) => r = r0 ∧ narrow .boolean (.int r0) = .int r0) (fun _ t => va_P G vwCl X t.heap ∧ va_D A X) A) args s cells slots A) (F0 m pc ls [.int v]) :=
  W.zret hx hb hr hnar (fun t ht _ => ⟨⟨_, (), rfl, ⟨hv, by rw [← hv]; exact hnar⟩, ⟨k_at ht hP, hD⟩⟩, hS.F ht⟩) hS.2.2 hdg
theorem k_aret {ro r9 : Option Nat} {rt : FieldType} (hx : p.tables.exec = Jvm.exec) (hb : c.code = cc) (hr : meth.sig.returnType = some rt) (hrt : (∃ n, rt = .object n) ∨ ∃ t, rt = .array t) (hlocks : meth.locks = false) (hP : va_P G vwCl X H) (hS : va_S A s.heap H locs) (hv : ro = r9) (hdg : decode cc pc = .ok (.areturn, 1)) : W p l e R s m args below meth c H locs cells slots (MQ below (va_Qq (fun r (_ : Unit) => r = r9) (fun _ t => va_P G vwCl X t.heap) A) args s cells slots A) (F0 m pc ls [va_rf ro]) :=
  W.aret hx hb hr hrt (by cases ro with | none => exact Or.inl rfl | some a => exact Or.inr ⟨a, rfl⟩) (fun t ht _ => ⟨⟨_, (), rfl, hv, k_at ht hP⟩, hS.F ht⟩) hS.2.2 hdg
theorem k_ViU {r0 : Int32} {pp : Prop} (hx : p.tables.exec = Jvm.exec) (hb : c.code = cc) (hml : c.maxLocals = nL) (hown : s.vm.findClass own = some m.cls) (hts : ∀ w ∈ Ts, w.before args s = true)
    (hM : Met l y ws rm (k_pre G T wc H.size (.ref b :: As)) (va_Qi (fun r (_ : Unit) => r = r0 ∧ pp) (fun _ t => va_P G vwCl wc t.heap) (va_A wc H.size)) 0 0 (va_A wc H.size))
    (hT : GoodIn Ts (wsV own index C y ws)) (hw : ws = Cond.code y bytes maxL ret :: ws') (hrc : rm.cells = 0) (hrs : rm.slots = 0) (hd : y.cls = C ∧ y.cls ≠ "java/lang/invoke/MethodHandle" ∧ y.cls ≠ "java/lang/invoke/VarHandle" ∧ (parseMethodDescriptor y.desc).map (fun d => d.parameters.length) = some n) (hR : rm.frames + 1 ≤ R.frames ∧ 8 + (maxL + 11) + rm.locals ≤ R.locals)
    (hK : va_K G vwCl T s) (hP : va_P G vwCl X H) (hD : va_D A X) (hS : va_S A s.heap H locs) (hA : ∀ q : Nat, s.heap.size ≤ q → A q)
    (isC : List Nat) (hn : va_nd isC = true) (hC : isC.map (fun i => X[i]?) = wc.map some) (hr0 : wc[0]? = some (b, .inr (ci, fs))) (hcl : vwCl[ci]? = some q) (hq : q.1 = C) 
    (hnA : As.length = n) (hst : st = As.reverse ++ .ref b :: rest) (hls : ls.size = nL) (hcat : (rest.map fun v => v.category).sum ≤ 8) (hdg : decode cc pc = .ok (.invokevirtual index, 3)) (hcs : cells ≤ R.cells ∧ slots ≤ R.slots)
    
    (kk : pp → ∀ (H1 : Heap) (locs1 : List Loc), va_P G vwCl X H1 → va_S A s.heap H1 locs1 → W p l e R s m args below meth c H1 locs1 cells slots Q (F0 m (pc + 3) ls (.int r0 :: rest))) : W p l e R s m args below meth c H locs cells slots Q (F0 m pc ls st) := by
  subst hq
  subst hst
  refine va_calli (va_runV (As := As) (rest := rest) ⟨hx, hb, hml, hown, hts⟩ hM (cwV n hts hT hw hrc hrs hd hR) ⟨k_pre_blind, va_recv hK (k_cut hP isC hC) hcl hr0, k_preU hP hK hD isC hn hC⟩ rfl hnA hls rfl (lv_room hcat) hdg hcs) hS (fun q _ h => va_free hD hS hA isC hC q h) (va_free hD hS hA isC hC) (fun r u t H1 locs1 ht hvm hw2 hB hz1 hk1 hS1 => ?_)
  rw [ht] at hB
  have hP1 := k_same hP hD isC hC hk1 hB
  obtain ⟨rfl, hpp⟩ := hw2
  exact kk hpp H1 locs1 hP1 hS1
theorem k_VlU {r0 : Int64} {pp : Prop} (hx : p.tables.exec = Jvm.exec) (hb : c.code = cc) (hml : c.maxLocals = nL) (hown : s.vm.findClass own = some m.cls) (hts : ∀ w ∈ Ts, w.before args s = true)
    (hM : Met l y ws rm (k_pre G T wc H.size (.ref b :: As)) (va_Ql (fun r (_ : Unit) => r = r0 ∧ pp) (fun _ t => va_P G vwCl wc t.heap) (va_A wc H.size)) 0 0 (va_A wc H.size))
    (hT : GoodIn Ts (wsV own index C y ws)) (hw : ws = Cond.code y bytes maxL ret :: ws') (hrc : rm.cells = 0) (hrs : rm.slots = 0) (hd : y.cls = C ∧ y.cls ≠ "java/lang/invoke/MethodHandle" ∧ y.cls ≠ "java/lang/invoke/VarHandle" ∧ (parseMethodDescriptor y.desc).map (fun d => d.parameters.length) = some n) (hR : rm.frames + 1 ≤ R.frames ∧ 8 + (maxL + 11) + rm.locals ≤ R.locals)
    (hK : va_K G vwCl T s) (hP : va_P G vwCl X H) (hD : va_D A X) (hS : va_S A s.heap H locs) (hA : ∀ q : Nat, s.heap.size ≤ q → A q)
    (isC : List Nat) (hn : va_nd isC = true) (hC : isC.map (fun i => X[i]?) = wc.map some) (hr0 : wc[0]? = some (b, .inr (ci, fs))) (hcl : vwCl[ci]? = some q) (hq : q.1 = C) 
    (hnA : As.length = n) (hst : st = As.reverse ++ .ref b :: rest) (hls : ls.size = nL) (hcat : (rest.map fun v => v.category).sum ≤ 8) (hdg : decode cc pc = .ok (.invokevirtual index, 3)) (hcs : cells ≤ R.cells ∧ slots ≤ R.slots)
    
    (kk : pp → ∀ (H1 : Heap) (locs1 : List Loc), va_P G vwCl X H1 → va_S A s.heap H1 locs1 → W p l e R s m args below meth c H1 locs1 cells slots Q (F0 m (pc + 3) ls (.long r0 :: rest))) : W p l e R s m args below meth c H locs cells slots Q (F0 m pc ls st) := by
  subst hq
  subst hst
  refine va_calll (va_runV (As := As) (rest := rest) ⟨hx, hb, hml, hown, hts⟩ hM (cwV n hts hT hw hrc hrs hd hR) ⟨k_pre_blind, va_recv hK (k_cut hP isC hC) hcl hr0, k_preU hP hK hD isC hn hC⟩ rfl hnA hls rfl (lv_room hcat) hdg hcs) hS (fun q _ h => va_free hD hS hA isC hC q h) (va_free hD hS hA isC hC) (fun r u t H1 locs1 ht hvm hw2 hB hz1 hk1 hS1 => ?_)
  rw [ht] at hB
  have hP1 := k_same hP hD isC hC hk1 hB
  obtain ⟨rfl, hpp⟩ := hw2
  exact kk hpp H1 locs1 hP1 hS1
theorem k_VvU {pp : Prop} (hx : p.tables.exec = Jvm.exec) (hb : c.code = cc) (hml : c.maxLocals = nL) (hown : s.vm.findClass own = some m.cls) (hts : ∀ w ∈ Ts, w.before args s = true)
    (hM : Met l y ws rm (k_pre G T wc H.size (.ref b :: As)) (va_Qv (fun (_ : Unit) => pp) (fun _ t => va_P G vwCl wc t.heap) (va_A wc H.size)) 0 0 (va_A wc H.size))
    (hT : GoodIn Ts (wsV own index C y ws)) (hw : ws = Cond.code y bytes maxL ret :: ws') (hrc : rm.cells = 0) (hrs : rm.slots = 0) (hd : y.cls = C ∧ y.cls ≠ "java/lang/invoke/MethodHandle" ∧ y.cls ≠ "java/lang/invoke/VarHandle" ∧ (parseMethodDescriptor y.desc).map (fun d => d.parameters.length) = some n) (hR : rm.frames + 1 ≤ R.frames ∧ 8 + (maxL + 11) + rm.locals ≤ R.locals)
    (hK : va_K G vwCl T s) (hP : va_P G vwCl X H) (hD : va_D A X) (hS : va_S A s.heap H locs) (hA : ∀ q : Nat, s.heap.size ≤ q → A q)
    (isC : List Nat) (hn : va_nd isC = true) (hC : isC.map (fun i => X[i]?) = wc.map some) (hr0 : wc[0]? = some (b, .inr (ci, fs))) (hcl : vwCl[ci]? = some q) (hq : q.1 = C) 
    (hnA : As.length = n) (hst : st = As.reverse ++ .ref b :: rest) (hls : ls.size = nL) (hcat : (rest.map fun v => v.category).sum ≤ 8) (hdg : decode cc pc = .ok (.invokevirtual index, 3)) (hcs : cells ≤ R.cells ∧ slots ≤ R.slots)
    
    (kk : pp → ∀ (H1 : Heap) (locs1 : List Loc), va_P G vwCl X H1 → va_S A s.heap H1 locs1 → W p l e R s m args below meth c H1 locs1 cells slots Q (F0 m (pc + 3) ls (rest))) : W p l e R s m args below meth c H locs cells slots Q (F0 m pc ls st) := by
  subst hq
  subst hst
  refine va_callv (va_runV (As := As) (rest := rest) ⟨hx, hb, hml, hown, hts⟩ hM (cwV n hts hT hw hrc hrs hd hR) ⟨k_pre_blind, va_recv hK (k_cut hP isC hC) hcl hr0, k_preU hP hK hD isC hn hC⟩ rfl hnA hls rfl (lv_room hcat) hdg hcs) hS (fun q _ h => va_free hD hS hA isC hC q h) (va_free hD hS hA isC hC) (fun u t H1 locs1 ht hvm hw2 hB hz1 hk1 hS1 => ?_)
  rw [ht] at hB
  have hP1 := k_same hP hD isC hC hk1 hB
  exact kk hw2 H1 locs1 hP1 hS1
theorem k_SiU {r0 : Int32} {pp : Prop} (hx : p.tables.exec = Jvm.exec) (hb : c.code = cc) (hml : c.maxLocals = nL) (hown : s.vm.findClass own = some m.cls) (hts : ∀ w ∈ Ts, w.before args s = true)
    (hM : Met l y ws rm (k_pre G T wc H.size As) (va_Qi (fun r (_ : Unit) => r = r0 ∧ pp) (fun _ t => va_P G vwCl wc t.heap) (va_A wc H.size)) 0 0 (va_A wc H.size))
    (hT : GoodIn Ts (va_wsS own index y ws)) (hw : ws = Cond.code y bytes maxL ret :: ws') (hrc : rm.cells = 0) (hrs : rm.slots = 0) (hd : y.cls ≠ "java/lang/invoke/MethodHandle" ∧ y.cls ≠ "java/lang/invoke/VarHandle" ∧ (parseMethodDescriptor y.desc).map (fun d => d.parameters.length) = some n) (hR : rm.frames + 1 ≤ R.frames ∧ 8 + (maxL + 11) + rm.locals ≤ R.locals)
    (hK : va_K G vwCl T s) (hP : va_P G vwCl X H) (hD : va_D A X) (hS : va_S A s.heap H locs) (hA : ∀ q : Nat, s.heap.size ≤ q → A q)
    (isC : List Nat) (hn : va_nd isC = true) (hC : isC.map (fun i => X[i]?) = wc.map some) 
    (hnA : As.length = n) (hst : st = As.reverse ++ rest) (hls : ls.size = nL) (hcat : (rest.map fun v => v.category).sum ≤ 8) (hdg : decode cc pc = .ok (.invokestatic index, 3)) (hcs : cells ≤ R.cells ∧ slots ≤ R.slots)
    
    (kk : pp → ∀ (H1 : Heap) (locs1 : List Loc), va_P G vwCl X H1 → va_S A s.heap H1 locs1 → W p l e R s m args below meth c H1 locs1 cells slots Q (F0 m (pc + 3) ls (.int r0 :: rest))) : W p l e R s m args below meth c H locs cells slots Q (F0 m pc ls st) := by
  subst hst
  refine va_calli (va_runS (As := As) (rest := rest) ⟨hx, hb, hml, hown, hts⟩ hM (va_cwS n hts hT hw hrc hrs hd hR) ⟨k_pre_blind, k_preU hP hK hD isC hn hC⟩ rfl hnA hls rfl (lv_room hcat) hdg hcs) hS (fun q _ h => va_free hD hS hA isC hC q h) (va_free hD hS hA isC hC) (fun r u t H1 locs1 ht hvm hw2 hB hz1 hk1 hS1 => ?_)
  rw [ht] at hB
  have hP1 := k_same hP hD isC hC hk1 hB
  obtain ⟨rfl, hpp⟩ := hw2
  exact kk hpp H1 locs1 hP1 hS1
theorem k_SlU {r0 : Int64} {pp : Prop} (hx : p.tables.exec = Jvm.exec) (hb : c.code = cc) (hml : c.maxLocals = nL) (hown : s.vm.findClass own = some m.cls) (hts : ∀ w ∈ Ts, w.before args s = true)
    (hM : Met l y ws rm (k_pre G T wc H.size As) (va_Ql (fun r (_ : Unit) => r = r0 ∧ pp) (fun _ t => va_P G vwCl wc t.heap) (va_A wc H.size)) 0 0 (va_A wc H.size))
    (hT : GoodIn Ts (va_wsS own index y ws)) (hw : ws = Cond.code y bytes maxL ret :: ws') (hrc : rm.cells = 0) (hrs : rm.slots = 0) (hd : y.cls ≠ "java/lang/invoke/MethodHandle" ∧ y.cls ≠ "java/lang/invoke/VarHandle" ∧ (parseMethodDescriptor y.desc).map (fun d => d.parameters.length) = some n) (hR : rm.frames + 1 ≤ R.frames ∧ 8 + (maxL + 11) + rm.locals ≤ R.locals)
    (hK : va_K G vwCl T s) (hP : va_P G vwCl X H) (hD : va_D A X) (hS : va_S A s.heap H locs) (hA : ∀ q : Nat, s.heap.size ≤ q → A q)
    (isC : List Nat) (hn : va_nd isC = true) (hC : isC.map (fun i => X[i]?) = wc.map some) 
    (hnA : As.length = n) (hst : st = As.reverse ++ rest) (hls : ls.size = nL) (hcat : (rest.map fun v => v.category).sum ≤ 8) (hdg : decode cc pc = .ok (.invokestatic index, 3)) (hcs : cells ≤ R.cells ∧ slots ≤ R.slots)
    
    (kk : pp → ∀ (H1 : Heap) (locs1 : List Loc), va_P G vwCl X H1 → va_S A s.heap H1 locs1 → W p l e R s m args below meth c H1 locs1 cells slots Q (F0 m (pc + 3) ls (.long r0 :: rest))) : W p l e R s m args below meth c H locs cells slots Q (F0 m pc ls st) := by
  subst hst
  refine va_calll (va_runS (As := As) (rest := rest) ⟨hx, hb, hml, hown, hts⟩ hM (va_cwS n hts hT hw hrc hrs hd hR) ⟨k_pre_blind, k_preU hP hK hD isC hn hC⟩ rfl hnA hls rfl (lv_room hcat) hdg hcs) hS (fun q _ h => va_free hD hS hA isC hC q h) (va_free hD hS hA isC hC) (fun r u t H1 locs1 ht hvm hw2 hB hz1 hk1 hS1 => ?_)
  rw [ht] at hB
  have hP1 := k_same hP hD isC hC hk1 hB
  obtain ⟨rfl, hpp⟩ := hw2
  exact kk hpp H1 locs1 hP1 hS1
theorem k_SvU {pp : Prop} (hx : p.tables.exec = Jvm.exec) (hb : c.code = cc) (hml : c.maxLocals = nL) (hown : s.vm.findClass own = some m.cls) (hts : ∀ w ∈ Ts, w.before args s = true)
    (hM : Met l y ws rm (k_pre G T wc H.size As) (va_Qv (fun (_ : Unit) => pp) (fun _ t => va_P G vwCl wc t.heap) (va_A wc H.size)) 0 0 (va_A wc H.size))
    (hT : GoodIn Ts (va_wsS own index y ws)) (hw : ws = Cond.code y bytes maxL ret :: ws') (hrc : rm.cells = 0) (hrs : rm.slots = 0) (hd : y.cls ≠ "java/lang/invoke/MethodHandle" ∧ y.cls ≠ "java/lang/invoke/VarHandle" ∧ (parseMethodDescriptor y.desc).map (fun d => d.parameters.length) = some n) (hR : rm.frames + 1 ≤ R.frames ∧ 8 + (maxL + 11) + rm.locals ≤ R.locals)
    (hK : va_K G vwCl T s) (hP : va_P G vwCl X H) (hD : va_D A X) (hS : va_S A s.heap H locs) (hA : ∀ q : Nat, s.heap.size ≤ q → A q)
    (isC : List Nat) (hn : va_nd isC = true) (hC : isC.map (fun i => X[i]?) = wc.map some) 
    (hnA : As.length = n) (hst : st = As.reverse ++ rest) (hls : ls.size = nL) (hcat : (rest.map fun v => v.category).sum ≤ 8) (hdg : decode cc pc = .ok (.invokestatic index, 3)) (hcs : cells ≤ R.cells ∧ slots ≤ R.slots)
    
    (kk : pp → ∀ (H1 : Heap) (locs1 : List Loc), va_P G vwCl X H1 → va_S A s.heap H1 locs1 → W p l e R s m args below meth c H1 locs1 cells slots Q (F0 m (pc + 3) ls (rest))) : W p l e R s m args below meth c H locs cells slots Q (F0 m pc ls st) := by
  subst hst
  refine va_callv (va_runS (As := As) (rest := rest) ⟨hx, hb, hml, hown, hts⟩ hM (va_cwS n hts hT hw hrc hrs hd hR) ⟨k_pre_blind, k_preU hP hK hD isC hn hC⟩ rfl hnA hls rfl (lv_room hcat) hdg hcs) hS (fun q _ h => va_free hD hS hA isC hC q h) (va_free hD hS hA isC hC) (fun u t H1 locs1 ht hvm hw2 hB hz1 hk1 hS1 => ?_)
  rw [ht] at hB
  have hP1 := k_same hP hD isC hC hk1 hB
  exact kk hw2 H1 locs1 hP1 hS1
theorem k_VqU {ro : Option Nat} (hx : p.tables.exec = Jvm.exec) (hb : c.code = cc) (hml : c.maxLocals = nL) (hown : s.vm.findClass own = some m.cls) (hts : ∀ w ∈ Ts, w.before args s = true)
    (hM : Met l y ws rm (k_pre G T wc H.size (.ref b :: As)) (va_Qq (fun r (_ : Unit) => r = ro) (fun _ t => va_P G vwCl wc t.heap) (va_A wc H.size)) 0 0 (va_A wc H.size))
    (hT : GoodIn Ts (wsV own index C y ws)) (hw : ws = Cond.code y bytes maxL ret :: ws') (hrc : rm.cells = 0) (hrs : rm.slots = 0) (hd : y.cls = C ∧ y.cls ≠ "java/lang/invoke/MethodHandle" ∧ y.cls ≠ "java/lang/invoke/VarHandle" ∧ (parseMethodDescriptor y.desc).map (fun d => d.parameters.length) = some n) (hR : rm.frames + 1 ≤ R.frames ∧ 8 + (maxL + 11) + rm.locals ≤ R.locals)
    (hK : va_K G vwCl T s) (hP : va_P G vwCl X H) (hD : va_D A X) (hS : va_S A s.heap H locs) (hA : ∀ q : Nat, s.heap.size ≤ q → A q)
    (isC : List Nat) (hn : va_nd isC = true) (hC : isC.map (fun i => X[i]?) = wc.map some) (hr0 : wc[0]? = some (b, .inr (ci, fs))) (hcl : vwCl[ci]? = some q) (hq : q.1 = C) 
    (hnA : As.length = n) (hst : st = As.reverse ++ .ref b :: rest) (hls : ls.size = nL) (hcat : (rest.map fun v => v.category).sum ≤ 8) (hdg : decode cc pc = .ok (.invokevirtual index, 3)) (hcs : cells ≤ R.cells ∧ slots ≤ R.slots)
    
    (kk : True → ∀ (H1 : Heap) (locs1 : List Loc), va_P G vwCl X H1 → va_S A s.heap H1 locs1 → W p l e R s m args below meth c H1 locs1 cells slots Q (F0 m (pc + 3) ls (va_rf ro :: rest))) : W p l e R s m args below meth c H locs cells slots Q (F0 m pc ls st) := by
  subst hq
  subst hst
  refine va_callq (va_runV (As := As) (rest := rest) ⟨hx, hb, hml, hown, hts⟩ hM (cwV n hts hT hw hrc hrs hd hR) ⟨k_pre_blind, va_recv hK (k_cut hP isC hC) hcl hr0, k_preU hP hK hD isC hn hC⟩ rfl hnA hls rfl (lv_room hcat) hdg hcs) hS (fun q _ h => va_free hD hS hA isC hC q h) (va_free hD hS hA isC hC) (fun r u t H1 locs1 ht hvm hw2 hB hz1 hk1 hS1 => ?_)
  rw [ht] at hB
  have hP1 := k_same hP hD isC hC hk1 hB
  subst hw2
  exact kk trivial H1 locs1 hP1 hS1
end KR
