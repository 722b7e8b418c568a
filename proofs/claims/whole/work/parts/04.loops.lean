/-! Loops: a known course (it), an invariant (inv). -/
theorem wq1_it {A0 R : Type} {B : A0 → (A0 → Option R) → Option R} (N : Nat) (s0 : Nat → A0) {r : Option R} (step : ∀ j, j < N → ∀ ag, B (s0 j) ag = ag (s0 (j + 1))) (exit : ∀ ag, B (s0 N) ag = r) : ∀ n, N < n → wq1 B n (s0 0) = r := by
  have key : ∀ d j, j + d = N → ∀ n, d < n → wq1 B n (s0 j) = r := by
    intro d
    induction d with
    | zero => intro j hj n hn; obtain ⟨n, rfl⟩ : ∃ m, n = m + 1 := ⟨n - 1, by omega⟩; have e : j = N := by omega
              subst e; exact exit _
    | succ d ih => intro j hj n hn; obtain ⟨n, rfl⟩ : ∃ m, n = m + 1 := ⟨n - 1, by omega⟩
                   exact (step j (by omega) _).trans (ih (j + 1) (by omega) n (by omega))
  exact fun n hn => key N 0 (by omega) n hn
theorem wq1_inv {A0 R : Type} {B : A0 → (A0 → Option R) → Option R} (N : Nat) (I : Nat → A0 → Prop) (P : Option R → Prop) (step : ∀ j, j < N → ∀ a0, I j a0 → (∃ b0, I (j + 1) b0 ∧ ∀ ag, B a0 ag = ag b0) ∨ (∃ r, P r ∧ ∀ ag, B a0 ag = r)) (exit : ∀ a0, I N a0 → ∃ r, P r ∧ ∀ ag, B a0 ag = r) : ∀ n, N < n → ∀ a0, I 0 a0 → P (wq1 B n a0) := by
  have key : ∀ d j, j + d = N → ∀ n, d < n → ∀ a0, I j a0 → P (wq1 B n a0) := by
    intro d
    induction d with
    | zero => intro j hj n hn a0 hI; obtain ⟨n, rfl⟩ : ∃ m, n = m + 1 := ⟨n - 1, by omega⟩; have e : j = N := by omega
              subst e; obtain ⟨r, h1, h2⟩ := exit a0 hI
              exact Eq.mpr (congrArg P (h2 (wq1 B n))) h1
    | succ d ih => intro j hj n hn a0 hI; obtain ⟨n, rfl⟩ : ∃ m, n = m + 1 := ⟨n - 1, by omega⟩
                   rcases step j (by omega) a0 hI with ⟨b0, h1, h2⟩ | ⟨r, h1, h2⟩
                   · have := ih (j + 1) (by omega) n (by omega) b0 h1
                     exact Eq.mpr (congrArg P (h2 (wq1 B n))) this
                   · exact Eq.mpr (congrArg P (h2 (wq1 B n))) h1
  exact fun n hn => key N 0 (by omega) n hn
theorem wq2_it {A0 A1 R : Type} {B : A0 → A1 → (A0 → A1 → Option R) → Option R} (N : Nat) (s0 : Nat → A0) (s1 : Nat → A1) {r : Option R} (step : ∀ j, j < N → ∀ ag, B (s0 j) (s1 j) ag = ag (s0 (j + 1)) (s1 (j + 1))) (exit : ∀ ag, B (s0 N) (s1 N) ag = r) : ∀ n, N < n → wq2 B n (s0 0) (s1 0) = r := by
  have key : ∀ d j, j + d = N → ∀ n, d < n → wq2 B n (s0 j) (s1 j) = r := by
    intro d
    induction d with
    | zero => intro j hj n hn; obtain ⟨n, rfl⟩ : ∃ m, n = m + 1 := ⟨n - 1, by omega⟩; have e : j = N := by omega
              subst e; exact exit _
    | succ d ih => intro j hj n hn; obtain ⟨n, rfl⟩ : ∃ m, n = m + 1 := ⟨n - 1, by omega⟩
                   exact (step j (by omega) _).trans (ih (j + 1) (by omega) n (by omega))
  exact fun n hn => key N 0 (by omega) n hn
theorem wq2_inv {A0 A1 R : Type} {B : A0 → A1 → (A0 → A1 → Option R) → Option R} (N : Nat) (I : Nat → A0 → A1 → Prop) (P : Option R → Prop) (step : ∀ j, j < N → ∀ a0 a1, I j a0 a1 → (∃ b0 b1, I (j + 1) b0 b1 ∧ ∀ ag, B a0 a1 ag = ag b0 b1) ∨ (∃ r, P r ∧ ∀ ag, B a0 a1 ag = r)) (exit : ∀ a0 a1, I N a0 a1 → ∃ r, P r ∧ ∀ ag, B a0 a1 ag = r) : ∀ n, N < n → ∀ a0 a1, I 0 a0 a1 → P (wq2 B n a0 a1) := by
  have key : ∀ d j, j + d = N → ∀ n, d < n → ∀ a0 a1, I j a0 a1 → P (wq2 B n a0 a1) := by
    intro d
    induction d with
    | zero => intro j hj n hn a0 a1 hI; obtain ⟨n, rfl⟩ : ∃ m, n = m + 1 := ⟨n - 1, by omega⟩; have e : j = N := by omega
              subst e; obtain ⟨r, h1, h2⟩ := exit a0 a1 hI
              exact Eq.mpr (congrArg P (h2 (wq2 B n))) h1
    | succ d ih => intro j hj n hn a0 a1 hI; obtain ⟨n, rfl⟩ : ∃ m, n = m + 1 := ⟨n - 1, by omega⟩
                   rcases step j (by omega) a0 a1 hI with ⟨b0, b1, h1, h2⟩ | ⟨r, h1, h2⟩
                   · have := ih (j + 1) (by omega) n (by omega) b0 b1 h1
                     exact Eq.mpr (congrArg P (h2 (wq2 B n))) this
                   · exact Eq.mpr (congrArg P (h2 (wq2 B n))) h1
  exact fun n hn => key N 0 (by omega) n hn
theorem wq3_it {A0 A1 A2 R : Type} {B : A0 → A1 → A2 → (A0 → A1 → A2 → Option R) → Option R} (N : Nat) (s0 : Nat → A0) (s1 : Nat → A1) (s2 : Nat → A2) {r : Option R} (step : ∀ j, j < N → ∀ ag, B (s0 j) (s1 j) (s2 j) ag = ag (s0 (j + 1)) (s1 (j + 1)) (s2 (j + 1))) (exit : ∀ ag, B (s0 N) (s1 N) (s2 N) ag = r) : ∀ n, N < n → wq3 B n (s0 0) (s1 0) (s2 0) = r := by
  have key : ∀ d j, j + d = N → ∀ n, d < n → wq3 B n (s0 j) (s1 j) (s2 j) = r := by
    intro d
    induction d with
    | zero => intro j hj n hn; obtain ⟨n, rfl⟩ : ∃ m, n = m + 1 := ⟨n - 1, by omega⟩; have e : j = N := by omega
              subst e; exact exit _
    | succ d ih => intro j hj n hn; obtain ⟨n, rfl⟩ : ∃ m, n = m + 1 := ⟨n - 1, by omega⟩
                   exact (step j (by omega) _).trans (ih (j + 1) (by omega) n (by omega))
  exact fun n hn => key N 0 (by omega) n hn
theorem wq3_inv {A0 A1 A2 R : Type} {B : A0 → A1 → A2 → (A0 → A1 → A2 → Option R) → Option R} (N : Nat) (I : Nat → A0 → A1 → A2 → Prop) (P : Option R → Prop) (step : ∀ j, j < N → ∀ a0 a1 a2, I j a0 a1 a2 → (∃ b0 b1 b2, I (j + 1) b0 b1 b2 ∧ ∀ ag, B a0 a1 a2 ag = ag b0 b1 b2) ∨ (∃ r, P r ∧ ∀ ag, B a0 a1 a2 ag = r)) (exit : ∀ a0 a1 a2, I N a0 a1 a2 → ∃ r, P r ∧ ∀ ag, B a0 a1 a2 ag = r) : ∀ n, N < n → ∀ a0 a1 a2, I 0 a0 a1 a2 → P (wq3 B n a0 a1 a2) := by
  have key : ∀ d j, j + d = N → ∀ n, d < n → ∀ a0 a1 a2, I j a0 a1 a2 → P (wq3 B n a0 a1 a2) := by
    intro d
    induction d with
    | zero => intro j hj n hn a0 a1 a2 hI; obtain ⟨n, rfl⟩ : ∃ m, n = m + 1 := ⟨n - 1, by omega⟩; have e : j = N := by omega
              subst e; obtain ⟨r, h1, h2⟩ := exit a0 a1 a2 hI
              exact Eq.mpr (congrArg P (h2 (wq3 B n))) h1
    | succ d ih => intro j hj n hn a0 a1 a2 hI; obtain ⟨n, rfl⟩ : ∃ m, n = m + 1 := ⟨n - 1, by omega⟩
                   rcases step j (by omega) a0 a1 a2 hI with ⟨b0, b1, b2, h1, h2⟩ | ⟨r, h1, h2⟩
                   · have := ih (j + 1) (by omega) n (by omega) b0 b1 b2 h1
                     exact Eq.mpr (congrArg P (h2 (wq3 B n))) this
                   · exact Eq.mpr (congrArg P (h2 (wq3 B n))) h1
  exact fun n hn => key N 0 (by omega) n hn
theorem wq4_it {A0 A1 A2 A3 R : Type} {B : A0 → A1 → A2 → A3 → (A0 → A1 → A2 → A3 → Option R) → Option R} (N : Nat) (s0 : Nat → A0) (s1 : Nat → A1) (s2 : Nat → A2) (s3 : Nat → A3) {r : Option R} (step : ∀ j, j < N → ∀ ag, B (s0 j) (s1 j) (s2 j) (s3 j) ag = ag (s0 (j + 1)) (s1 (j + 1)) (s2 (j + 1)) (s3 (j + 1))) (exit : ∀ ag, B (s0 N) (s1 N) (s2 N) (s3 N) ag = r) : ∀ n, N < n → wq4 B n (s0 0) (s1 0) (s2 0) (s3 0) = r := by
  have key : ∀ d j, j + d = N → ∀ n, d < n → wq4 B n (s0 j) (s1 j) (s2 j) (s3 j) = r := by
    intro d
    induction d with
    | zero => intro j hj n hn; obtain ⟨n, rfl⟩ : ∃ m, n = m + 1 := ⟨n - 1, by omega⟩; have e : j = N := by omega
              subst e; exact exit _
    | succ d ih => intro j hj n hn; obtain ⟨n, rfl⟩ : ∃ m, n = m + 1 := ⟨n - 1, by omega⟩
                   exact (step j (by omega) _).trans (ih (j + 1) (by omega) n (by omega))
  exact fun n hn => key N 0 (by omega) n hn
theorem wq4_inv {A0 A1 A2 A3 R : Type} {B : A0 → A1 → A2 → A3 → (A0 → A1 → A2 → A3 → Option R) → Option R} (N : Nat) (I : Nat → A0 → A1 → A2 → A3 → Prop) (P : Option R → Prop) (step : ∀ j, j < N → ∀ a0 a1 a2 a3, I j a0 a1 a2 a3 → (∃ b0 b1 b2 b3, I (j + 1) b0 b1 b2 b3 ∧ ∀ ag, B a0 a1 a2 a3 ag = ag b0 b1 b2 b3) ∨ (∃ r, P r ∧ ∀ ag, B a0 a1 a2 a3 ag = r)) (exit : ∀ a0 a1 a2 a3, I N a0 a1 a2 a3 → ∃ r, P r ∧ ∀ ag, B a0 a1 a2 a3 ag = r) : ∀ n, N < n → ∀ a0 a1 a2 a3, I 0 a0 a1 a2 a3 → P (wq4 B n a0 a1 a2 a3) := by
  have key : ∀ d j, j + d = N → ∀ n, d < n → ∀ a0 a1 a2 a3, I j a0 a1 a2 a3 → P (wq4 B n a0 a1 a2 a3) := by
    intro d
    induction d with
    | zero => intro j hj n hn a0 a1 a2 a3 hI; obtain ⟨n, rfl⟩ : ∃ m, n = m + 1 := ⟨n - 1, by omega⟩; have e : j = N := by omega
              subst e; obtain ⟨r, h1, h2⟩ := exit a0 a1 a2 a3 hI
              exact Eq.mpr (congrArg P (h2 (wq4 B n))) h1
    | succ d ih => intro j hj n hn a0 a1 a2 a3 hI; obtain ⟨n, rfl⟩ : ∃ m, n = m + 1 := ⟨n - 1, by omega⟩
                   rcases step j (by omega) a0 a1 a2 a3 hI with ⟨b0, b1, b2, b3, h1, h2⟩ | ⟨r, h1, h2⟩
                   · have := ih (j + 1) (by omega) n (by omega) b0 b1 b2 b3 h1
                     exact Eq.mpr (congrArg P (h2 (wq4 B n))) this
                   · exact Eq.mpr (congrArg P (h2 (wq4 B n))) h1
  exact fun n hn => key N 0 (by omega) n hn
theorem wq5_it {A0 A1 A2 A3 A4 R : Type} {B : A0 → A1 → A2 → A3 → A4 → (A0 → A1 → A2 → A3 → A4 → Option R) → Option R} (N : Nat) (s0 : Nat → A0) (s1 : Nat → A1) (s2 : Nat → A2) (s3 : Nat → A3) (s4 : Nat → A4) {r : Option R} (step : ∀ j, j < N → ∀ ag, B (s0 j) (s1 j) (s2 j) (s3 j) (s4 j) ag = ag (s0 (j + 1)) (s1 (j + 1)) (s2 (j + 1)) (s3 (j + 1)) (s4 (j + 1))) (exit : ∀ ag, B (s0 N) (s1 N) (s2 N) (s3 N) (s4 N) ag = r) : ∀ n, N < n → wq5 B n (s0 0) (s1 0) (s2 0) (s3 0) (s4 0) = r := by
  have key : ∀ d j, j + d = N → ∀ n, d < n → wq5 B n (s0 j) (s1 j) (s2 j) (s3 j) (s4 j) = r := by
    intro d
    induction d with
    | zero => intro j hj n hn; obtain ⟨n, rfl⟩ : ∃ m, n = m + 1 := ⟨n - 1, by omega⟩; have e : j = N := by omega
              subst e; exact exit _
    | succ d ih => intro j hj n hn; obtain ⟨n, rfl⟩ : ∃ m, n = m + 1 := ⟨n - 1, by omega⟩
                   exact (step j (by omega) _).trans (ih (j + 1) (by omega) n (by omega))
  exact fun n hn => key N 0 (by omega) n hn
theorem wq5_inv {A0 A1 A2 A3 A4 R : Type} {B : A0 → A1 → A2 → A3 → A4 → (A0 → A1 → A2 → A3 → A4 → Option R) → Option R} (N : Nat) (I : Nat → A0 → A1 → A2 → A3 → A4 → Prop) (P : Option R → Prop) (step : ∀ j, j < N → ∀ a0 a1 a2 a3 a4, I j a0 a1 a2 a3 a4 → (∃ b0 b1 b2 b3 b4, I (j + 1) b0 b1 b2 b3 b4 ∧ ∀ ag, B a0 a1 a2 a3 a4 ag = ag b0 b1 b2 b3 b4) ∨ (∃ r, P r ∧ ∀ ag, B a0 a1 a2 a3 a4 ag = r)) (exit : ∀ a0 a1 a2 a3 a4, I N a0 a1 a2 a3 a4 → ∃ r, P r ∧ ∀ ag, B a0 a1 a2 a3 a4 ag = r) : ∀ n, N < n → ∀ a0 a1 a2 a3 a4, I 0 a0 a1 a2 a3 a4 → P (wq5 B n a0 a1 a2 a3 a4) := by
  have key : ∀ d j, j + d = N → ∀ n, d < n → ∀ a0 a1 a2 a3 a4, I j a0 a1 a2 a3 a4 → P (wq5 B n a0 a1 a2 a3 a4) := by
    intro d
    induction d with
    | zero => intro j hj n hn a0 a1 a2 a3 a4 hI; obtain ⟨n, rfl⟩ : ∃ m, n = m + 1 := ⟨n - 1, by omega⟩; have e : j = N := by omega
              subst e; obtain ⟨r, h1, h2⟩ := exit a0 a1 a2 a3 a4 hI
              exact Eq.mpr (congrArg P (h2 (wq5 B n))) h1
    | succ d ih => intro j hj n hn a0 a1 a2 a3 a4 hI; obtain ⟨n, rfl⟩ : ∃ m, n = m + 1 := ⟨n - 1, by omega⟩
                   rcases step j (by omega) a0 a1 a2 a3 a4 hI with ⟨b0, b1, b2, b3, b4, h1, h2⟩ | ⟨r, h1, h2⟩
                   · have := ih (j + 1) (by omega) n (by omega) b0 b1 b2 b3 b4 h1
                     exact Eq.mpr (congrArg P (h2 (wq5 B n))) this
                   · exact Eq.mpr (congrArg P (h2 (wq5 B n))) h1
  exact fun n hn => key N 0 (by omega) n hn
theorem wq6_it {A0 A1 A2 A3 A4 A5 R : Type} {B : A0 → A1 → A2 → A3 → A4 → A5 → (A0 → A1 → A2 → A3 → A4 → A5 → Option R) → Option R} (N : Nat) (s0 : Nat → A0) (s1 : Nat → A1) (s2 : Nat → A2) (s3 : Nat → A3) (s4 : Nat → A4) (s5 : Nat → A5) {r : Option R} (step : ∀ j, j < N → ∀ ag, B (s0 j) (s1 j) (s2 j) (s3 j) (s4 j) (s5 j) ag = ag (s0 (j + 1)) (s1 (j + 1)) (s2 (j + 1)) (s3 (j + 1)) (s4 (j + 1)) (s5 (j + 1))) (exit : ∀ ag, B (s0 N) (s1 N) (s2 N) (s3 N) (s4 N) (s5 N) ag = r) : ∀ n, N < n → wq6 B n (s0 0) (s1 0) (s2 0) (s3 0) (s4 0) (s5 0) = r := by
  have key : ∀ d j, j + d = N → ∀ n, d < n → wq6 B n (s0 j) (s1 j) (s2 j) (s3 j) (s4 j) (s5 j) = r := by
    intro d
    induction d with
    | zero => intro j hj n hn; obtain ⟨n, rfl⟩ : ∃ m, n = m + 1 := ⟨n - 1, by omega⟩; have e : j = N := by omega
              subst e; exact exit _
    | succ d ih => intro j hj n hn; obtain ⟨n, rfl⟩ : ∃ m, n = m + 1 := ⟨n - 1, by omega⟩
                   exact (step j (by omega) _).trans (ih (j + 1) (by omega) n (by omega))
  exact fun n hn => key N 0 (by omega) n hn
theorem wq6_inv {A0 A1 A2 A3 A4 A5 R : Type} {B : A0 → A1 → A2 → A3 → A4 → A5 → (A0 → A1 → A2 → A3 → A4 → A5 → Option R) → Option R} (N : Nat) (I : Nat → A0 → A1 → A2 → A3 → A4 → A5 → Prop) (P : Option R → Prop) (step : ∀ j, j < N → ∀ a0 a1 a2 a3 a4 a5, I j a0 a1 a2 a3 a4 a5 → (∃ b0 b1 b2 b3 b4 b5, I (j + 1) b0 b1 b2 b3 b4 b5 ∧ ∀ ag, B a0 a1 a2 a3 a4 a5 ag = ag b0 b1 b2 b3 b4 b5) ∨ (∃ r, P r ∧ ∀ ag, B a0 a1 a2 a3 a4 a5 ag = r)) (exit : ∀ a0 a1 a2 a3 a4 a5, I N a0 a1 a2 a3 a4 a5 → ∃ r, P r ∧ ∀ ag, B a0 a1 a2 a3 a4 a5 ag = r) : ∀ n, N < n → ∀ a0 a1 a2 a3 a4 a5, I 0 a0 a1 a2 a3 a4 a5 → P (wq6 B n a0 a1 a2 a3 a4 a5) := by
  have key : ∀ d j, j + d = N → ∀ n, d < n → ∀ a0 a1 a2 a3 a4 a5, I j a0 a1 a2 a3 a4 a5 → P (wq6 B n a0 a1 a2 a3 a4 a5) := by
    intro d
    induction d with
    | zero => intro j hj n hn a0 a1 a2 a3 a4 a5 hI; obtain ⟨n, rfl⟩ : ∃ m, n = m + 1 := ⟨n - 1, by omega⟩; have e : j = N := by omega
              subst e; obtain ⟨r, h1, h2⟩ := exit a0 a1 a2 a3 a4 a5 hI
              exact Eq.mpr (congrArg P (h2 (wq6 B n))) h1
    | succ d ih => intro j hj n hn a0 a1 a2 a3 a4 a5 hI; obtain ⟨n, rfl⟩ : ∃ m, n = m + 1 := ⟨n - 1, by omega⟩
                   rcases step j (by omega) a0 a1 a2 a3 a4 a5 hI with ⟨b0, b1, b2, b3, b4, b5, h1, h2⟩ | ⟨r, h1, h2⟩
                   · have := ih (j + 1) (by omega) n (by omega) b0 b1 b2 b3 b4 b5 h1
                     exact Eq.mpr (congrArg P (h2 (wq6 B n))) this
                   · exact Eq.mpr (congrArg P (h2 (wq6 B n))) h1
  exact fun n hn => key N 0 (by omega) n hn
theorem wq7_it {A0 A1 A2 A3 A4 A5 A6 R : Type} {B : A0 → A1 → A2 → A3 → A4 → A5 → A6 → (A0 → A1 → A2 → A3 → A4 → A5 → A6 → Option R) → Option R} (N : Nat) (s0 : Nat → A0) (s1 : Nat → A1) (s2 : Nat → A2) (s3 : Nat → A3) (s4 : Nat → A4) (s5 : Nat → A5) (s6 : Nat → A6) {r : Option R} (step : ∀ j, j < N → ∀ ag, B (s0 j) (s1 j) (s2 j) (s3 j) (s4 j) (s5 j) (s6 j) ag = ag (s0 (j + 1)) (s1 (j + 1)) (s2 (j + 1)) (s3 (j + 1)) (s4 (j + 1)) (s5 (j + 1)) (s6 (j + 1))) (exit : ∀ ag, B (s0 N) (s1 N) (s2 N) (s3 N) (s4 N) (s5 N) (s6 N) ag = r) : ∀ n, N < n → wq7 B n (s0 0) (s1 0) (s2 0) (s3 0) (s4 0) (s5 0) (s6 0) = r := by
  have key : ∀ d j, j + d = N → ∀ n, d < n → wq7 B n (s0 j) (s1 j) (s2 j) (s3 j) (s4 j) (s5 j) (s6 j) = r := by
    intro d
    induction d with
    | zero => intro j hj n hn; obtain ⟨n, rfl⟩ : ∃ m, n = m + 1 := ⟨n - 1, by omega⟩; have e : j = N := by omega
              subst e; exact exit _
    | succ d ih => intro j hj n hn; obtain ⟨n, rfl⟩ : ∃ m, n = m + 1 := ⟨n - 1, by omega⟩
                   exact (step j (by omega) _).trans (ih (j + 1) (by omega) n (by omega))
  exact fun n hn => key N 0 (by omega) n hn
theorem wq7_inv {A0 A1 A2 A3 A4 A5 A6 R : Type} {B : A0 → A1 → A2 → A3 → A4 → A5 → A6 → (A0 → A1 → A2 → A3 → A4 → A5 → A6 → Option R) → Option R} (N : Nat) (I : Nat → A0 → A1 → A2 → A3 → A4 → A5 → A6 → Prop) (P : Option R → Prop) (step : ∀ j, j < N → ∀ a0 a1 a2 a3 a4 a5 a6, I j a0 a1 a2 a3 a4 a5 a6 → (∃ b0 b1 b2 b3 b4 b5 b6, I (j + 1) b0 b1 b2 b3 b4 b5 b6 ∧ ∀ ag, B a0 a1 a2 a3 a4 a5 a6 ag = ag b0 b1 b2 b3 b4 b5 b6) ∨ (∃ r, P r ∧ ∀ ag, B a0 a1 a2 a3 a4 a5 a6 ag = r)) (exit : ∀ a0 a1 a2 a3 a4 a5 a6, I N a0 a1 a2 a3 a4 a5 a6 → ∃ r, P r ∧ ∀ ag, B a0 a1 a2 a3 a4 a5 a6 ag = r) : ∀ n, N < n → ∀ a0 a1 a2 a3 a4 a5 a6, I 0 a0 a1 a2 a3 a4 a5 a6 → P (wq7 B n a0 a1 a2 a3 a4 a5 a6) := by
  have key : ∀ d j, j + d = N → ∀ n, d < n → ∀ a0 a1 a2 a3 a4 a5 a6, I j a0 a1 a2 a3 a4 a5 a6 → P (wq7 B n a0 a1 a2 a3 a4 a5 a6) := by
    intro d
    induction d with
    | zero => intro j hj n hn a0 a1 a2 a3 a4 a5 a6 hI; obtain ⟨n, rfl⟩ : ∃ m, n = m + 1 := ⟨n - 1, by omega⟩; have e : j = N := by omega
              subst e; obtain ⟨r, h1, h2⟩ := exit a0 a1 a2 a3 a4 a5 a6 hI
              exact Eq.mpr (congrArg P (h2 (wq7 B n))) h1
    | succ d ih => intro j hj n hn a0 a1 a2 a3 a4 a5 a6 hI; obtain ⟨n, rfl⟩ : ∃ m, n = m + 1 := ⟨n - 1, by omega⟩
                   rcases step j (by omega) a0 a1 a2 a3 a4 a5 a6 hI with ⟨b0, b1, b2, b3, b4, b5, b6, h1, h2⟩ | ⟨r, h1, h2⟩
                   · have := ih (j + 1) (by omega) n (by omega) b0 b1 b2 b3 b4 b5 b6 h1
                     exact Eq.mpr (congrArg P (h2 (wq7 B n))) this
                   · exact Eq.mpr (congrArg P (h2 (wq7 B n))) h1
  exact fun n hn => key N 0 (by omega) n hn
