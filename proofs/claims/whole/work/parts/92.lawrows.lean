/-! Rows for the law. -/
theorem gwVA {cy : Cond} {own C : String} {i : Nat} {y : MethodName} (h1 : (.methodLink own i y : Cond) ∈ wA) (h2 : (.instanceMethod y : Cond) ∈ wA) (h3 : (.selects C y y : Cond) ∈ wA) (h4 : (.initialized C : Cond) ∈ wA) (h5 : cy ∈ wA) :
    GoodIn wA (wsV own i C y (cy :: wA)) := by
  intro w hw
  have h0 : w ∈ wA := by
    rcases List.mem_cons.mp hw with rfl | hw
    · exact h1
    rcases List.mem_cons.mp hw with rfl | hw
    · exact h2
    rcases List.mem_cons.mp hw with rfl | hw
    · exact h3
    rcases List.mem_cons.mp hw with rfl | hw
    · exact h4
    rcases List.mem_cons.mp hw with rfl | hw
    · exact h5
    · exact hw
  exact ⟨h0, wA_good h0⟩
theorem gwIA {cy : Cond} (h5 : cy ∈ wA) : GoodIn wA (cy :: wA) := by
  intro w hw
  have h0 : w ∈ wA := by
    rcases List.mem_cons.mp hw with rfl | hw
    · exact h5
    · exact hw
  exact ⟨h0, wA_good h0⟩
theorem lg_cmp_self9 (x : Int64) : lg_cmp x x = 0 := by
  unfold lg_cmp
  rw [if_neg (by simp), if_pos rfl]
theorem k_arrOf {s : State} {args : Array Value} {ty : FieldType} (h : (Cond.arrayClass ty).before args s = true) : ∃ cA, ArrOfT s cA ty ∧ s.vm.findClass ("[" ++ ty.toString) = some cA := by
  obtain ⟨cA, kA, comp, h1, h2, h3⟩ := Cond.arrayClass_spec h
  exact ⟨cA, fun n z => ⟨fun k h => (by cases h), kA, h2, comp, h3⟩, h1⟩
theorem k_arrOver {s : State} {args : Array Value} {C : String} (h : (Cond.arrayOver (.object C)).before args s = true) : ∃ cA, ArrOfT s cA (.object C) ∧ va_RA s cA (.object C) := by
  obtain ⟨comp, cA, kA, h1, h2, h3, h4, h5⟩ := Cond.arrayOver_spec h
  exact ⟨cA, fun n z => ⟨fun k h => (by cases h), kA, h3, comp, h4⟩, kA, comp, h3, h4, h1, h5⟩
theorem k_ofNat_add (i j : Nat) : Int32.ofNat i + Int32.ofNat j = Int32.ofNat (i + j) := by
  rw [Int32.ofNat_add]
theorem k_toInt_ofNat {i : Nat} (h : i < 2147483648) : (Int32.ofNat i).toInt = i := Int32.toInt_ofNat_of_lt h
theorem k_vpin {i L : Nat} (j : Nat) (h : i + j < L) (hL : L ≤ 2560) : vp_in (Int32.ofNat i + Int32.ofNat j) L := by
  rw [k_ofNat_add]
  intro q
  have e := k_toInt_ofNat (i := i + j) (by omega)
  rcases q with q | q
  · rw [Int32.lt_iff_toInt_lt, e] at q
    have : (0 : Int32).toInt = 0 := rfl
    omega
  · have : (Int32.ofNat (i + j)).toNatClampNeg = i + j := by
      unfold Int32.toNatClampNeg
      rw [e, Int.toNat_natCast]
    omega
theorem k_vpin0 {i L : Nat} (h : i < L) (hL : L ≤ 2560) : vp_in (Int32.ofNat i) L := by
  have := k_vpin 0 (i := i) (by omega) hL
  rwa [k_ofNat_add] at this
theorem k_lawgt {i L : Nat} (hi : i ≤ 2560) (hL : L ≤ 2560) : (Int32.ofNat L - 5 < Int32.ofNat i) ↔ L < i + 5 := by
  have e1 := k_toInt_ofNat (i := i) (by omega)
  have e2 := k_toInt_ofNat (i := L) (by omega)
  have e5 : (5 : Int32).toInt = 5 := rfl
  rw [Int32.lt_iff_toInt_lt, Int32.toInt_sub, e1, e2, e5]
  rw [Int.bmod_eq_of_le (by omega) (by omega)]
  omega
theorem k_tout38 {x : Int32} (h : ∀ k : Nat, k < 38 → ¬ x = Int32.ofNat k) : x.toInt < 0 ∨ 37 < x.toInt := by
  rcases Classical.em (x.toInt < 0 ∨ 37 < x.toInt) with q | q
  · exact q
  · exfalso
    have e : x = Int32.ofInt x.toInt := (Int32.ofInt_toInt x).symm
    have e2 : x.toInt = ((x.toInt.toNat : Nat) : Int) := by omega
    refine h x.toInt.toNat (by omega) ?_
    rw [e2] at e
    exact e
