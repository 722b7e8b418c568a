/-! Ints in general, the model's 'in', the plainest queries. -/
theorem n_cases (p : Int32) : p < 0 ∨ ∃ n : Nat, n < 2147483648 ∧ p = Int32.ofNat n := by
  by_cases h : p < 0
  · exact Or.inl h
  · refine Or.inr ⟨p.toInt.toNat, ?_, ?_⟩
    · have := p.toInt_lt
      omega
    · rw [Int32.lt_iff_toInt_lt] at h
      have h0 : (0 : Int32).toInt = 0 := rfl
      have e : p = Int32.ofInt p.toInt := (Int32.ofInt_toInt p).symm
      have e2 : p.toInt = ((p.toInt.toNat : Nat) : Int) := by omega
      rw [e2] at e
      exact e
theorem in9 (x a b : Int64) : F_X9_in x a b = some (if a ≤ x ∧ x ≤ b then 1 else 0) := by
  unfold F_X9_in
  have h1 : (lg_cmp x a < 0) ↔ ¬ a ≤ x := by rw [← lg_cmp_ge, Int32.not_le]
  have h2 : (0 < lg_cmp x b) ↔ ¬ x ≤ b := by rw [← lg_cmp_le, Int32.not_le]
  by_cases c1 : a ≤ x <;> by_cases c2 : x ≤ b <;> simp [h1, h2, c1, c2]
theorem in9i (p : Int32) (a b : Int64) : F_X9_in p.toInt64 a b = some (if a.toInt ≤ p.toInt ∧ p.toInt ≤ b.toInt then 1 else 0) := by
  rw [in9]
  simp only [Int64.le_iff_toInt_le, Int32.toInt_toInt64]
theorem i_neg {p : Int32} (h : p < 0) : p.toInt < 0 := by
  rw [Int32.lt_iff_toInt_lt] at h
  exact h
/-- a number from 0 to b -/
theorem in9n {n : Nat} (hn : n < 2147483648) {b : Int64} : F_X9_in (Int32.ofNat n).toInt64 (0 : Int64) b = some (if (n : Int) ≤ b.toInt then 1 else 0) := by
  rw [in9i, n_toInt hn]
  have : (0 : Int64).toInt = 0 := rfl
  rw [this]
  by_cases c : (n : Int) ≤ b.toInt <;> simp [c]
theorem in9neg {p : Int32} (h : p < 0) {b : Int64} : F_X9_in p.toInt64 (0 : Int64) b = some 0 := by
  rw [in9i]
  have h1 := i_neg h
  have : (0 : Int64).toInt = 0 := rfl
  rw [this, if_neg (by omega)]
/-- less one, as a bound -/
theorem n_pred64 {n : Nat} (hn : n < 2147483648) : (Int32.ofNat n - (1 : Int32)).toInt64.toInt = (n : Int) - 1 := by
  rw [Int32.toInt_toInt64, Int32.toInt_sub, n_toInt hn]
  have : (1 : Int32).toInt = 1 := rfl
  rw [this, Int.bmod_eq_of_le (by omega) (by omega)]
theorem isMark9 {n : Nat} (hn : n < 2147483648) (p : Int32) : F_X9_isMark (Int32.ofNat n) p = some (if 0 ≤ p.toInt ∧ p.toInt < n then 1 else 0) := by
  unfold F_X9_isMark
  rw [in9i, n_pred64 hn, bd_s]
  have : (0 : Int64).toInt = 0 := rfl
  rw [this]
  congr 1
  by_cases c : 0 ≤ p.toInt ∧ p.toInt < n
  · rw [if_pos c, if_pos (by omega)]
  · rw [if_neg c, if_neg (by omega)]
theorem hasMark8 {n : Nat} (hn : n < 2147483648) (p : Int32) : F_X1_hasMark (Int32.ofNat n) p = some (if 0 ≤ p.toInt ∧ p.toInt < n then 1 else 0) := by
  unfold F_X1_hasMark
  have h1 : (p < 0) ↔ p.toInt < 0 := Int32.lt_iff_toInt_lt
  have h2 : (Int32.ofNat n ≤ p) ↔ (n : Int) ≤ p.toInt := by rw [Int32.le_iff_toInt_le, n_toInt hn]
  by_cases c1 : p.toInt < 0
  · rw [if_pos (h1.mpr c1), if_neg (by omega)]
  · rw [if_neg (fun q => c1 (h1.mp q))]
    by_cases c2 : (n : Int) ≤ p.toInt
    · rw [if_pos (h2.mpr c2), if_neg (by omega)]
    · rw [if_neg (fun q => c2 (h2.mp q)), if_pos (by omega)]
theorem powerAt8 {pw : Nat → Int32} {k : Nat} (hk : k < 8) : F_X1_powerAt pw (Int32.ofNat k) = some (pw k) := by
  unfold F_X1_powerAt
  rw [if_neg (n_neg (by omega)), if_neg (fun q => by have := (n_le (a := 8) (b := k) (by omega) (by omega)).mp q; omega), ck_n hk (by omega), n_clamp (by omega)]
theorem i_nat {p : Int32} (h : 0 ≤ p.toInt) : p = Int32.ofNat p.toInt.toNat ∧ p.toInt.toNat < 2147483648 := by
  rcases n_cases p with q | ⟨n, hn, rfl⟩
  · have := i_neg q; omega
  · rw [n_toInt hn, Int.toNat_natCast]; exact ⟨rfl, hn⟩
