/-! Bytes of the tape, as both read them. -/
def bI (bs : List Nat) (p : Nat) : Int32 := match bs[p]? with
  | some b => Int32.ofNat b
  | none => -1
def isF (bs : List Nat) (p : Nat) : Bool := match bs[p]? with
  | some b => decide (48 ≤ b ∧ b ≤ 57)
  | none => false
def fi (bs : List Nat) (p : Nat) : Nat := bs.getD p 0 - 48
def isC (bs : List Nat) (p c : Nat) : Bool := match bs[p]? with
  | some b => b == c
  | none => false
/-- a tape -/
def TQ (bs : List Nat) (f : Nat → Int32) : Prop := rp f bs ∧ bs.length ≤ 60 ∧ ∀ b ∈ bs, b < 256
theorem isF_c {bs : List Nat} {p : Nat} (h : isF bs p = true) : p < bs.length ∧ bI bs p = Int32.ofNat (48 + fi bs p) ∧ fi bs p ≤ 9 := by
  unfold isF at h
  unfold bI fi
  rw [List.getD_eq_getElem?_getD]
  cases e : bs[p]? with
  | none => rw [e] at h; exact Bool.noConfusion h
  | some b =>
    rw [e] at h
    have h2 : 48 ≤ b ∧ b ≤ 57 := of_decide_eq_true h
    refine ⟨(List.getElem?_eq_some_iff.mp e).1, ?_, ?_⟩
    · show Int32.ofNat b = Int32.ofNat (48 + (b - 48))
      congr 1; omega
    · show b - 48 ≤ 9
      omega
theorem isC_c {bs : List Nat} {p c : Nat} (h : isC bs p c = true) : p < bs.length ∧ bs[p]? = some c := by
  unfold isC at h
  cases e : bs[p]? with
  | none => rw [e] at h; exact Bool.noConfusion h
  | some b =>
    rw [e] at h
    have h2 : b = c := beq_iff_eq.mp h
    subst h2
    exact ⟨(List.getElem?_eq_some_iff.mp e).1, rfl⟩
theorem bI_c {bs : List Nat} (hb : ∀ b ∈ bs, b < 256) {p c : Nat} (hc : c < 256) : (bI bs p = Int32.ofNat c) ↔ isC bs p c = true := by
  unfold bI isC
  cases e : bs[p]? with
  | none =>
    constructor
    · intro z
      have z1 := congrArg Int32.toInt z
      rw [n_toInt (by omega)] at z1
      have : (-1 : Int32).toInt = -1 := rfl
      have z2 : (-1 : Int32).toInt = (c : Int) := z1
      omega
    · intro z; exact Bool.noConfusion z
  | some b =>
    have hb1 := hb b (List.mem_of_getElem? e)
    show (Int32.ofNat b = Int32.ofNat c) ↔ (b == c) = true
    rw [n_inj (by omega) (by omega), beq_iff_eq]
theorem byte8 {bs : List Nat} {f : Nat → Int32} (h : TQ bs f) {p : Nat} (hp : p < 2147483648) : F_X7_byteAt (Int32.ofNat bs.length) f (Int32.ofNat p) = some (bI bs p) := by
  obtain ⟨h1, h2, h3⟩ := h
  unfold F_X7_byteAt bI
  rw [if_neg (n_neg hp)]
  cases e : bs[p]? with
  | none =>
    rw [if_pos ((n_le (by omega) hp).mpr (List.getElem?_eq_none_iff.mp e))]
  | some b =>
    have hl := (List.getElem?_eq_some_iff.mp e).1
    rw [if_neg (c_ge (by omega) hp hl), if_neg (show ¬ (60 : Int32) ≤ Int32.ofNat p from c_ge (m := 60) (by omega) hp (by omega)), ck_n (by omega) (by omega), n_clamp hp, h1 _ _ e]
theorem here9 {bs : List Nat} {f : Nat → Int32} (h : TQ bs f) {p : Nat} (hp : p < 2147483648) : F_X9_here (Int32.ofNat bs.length) (Int32.ofNat p) f = some (bI bs p) := by
  obtain ⟨h1, h2, h3⟩ := h
  unfold F_X9_here bI
  cases e : bs[p]? with
  | none =>
    rw [if_pos ((n_le (by omega) hp).mpr (List.getElem?_eq_none_iff.mp e))]
  | some b =>
    have hl := (List.getElem?_eq_some_iff.mp e).1
    rw [if_neg (c_ge (by omega) hp hl), ck_n (by omega) (by omega), n_clamp hp, h1 _ _ e]
theorem isFig8 {bs : List Nat} {f : Nat → Int32} (h : TQ bs f) {p : Nat} (hp : p < 2147483648) : F_X7_isFigure (Int32.ofNat bs.length) f (Int32.ofNat p) = some (if isF bs p = true then 1 else 0) := by
  unfold F_X7_isFigure
  rw [byte8 h hp, bd_s]
  unfold isF bI
  cases e : bs[p]? with
  | none => rfl
  | some b =>
    have hb := h.2.2 b (List.mem_of_getElem? e)
    have c1 : (Int32.ofNat b < (48 : Int32)) ↔ b < 48 := n_lt (b := 48) (by omega) (by omega)
    have c2 : ((57 : Int32) < Int32.ofNat b) ↔ 57 < b := n_lt (a := 57) (by omega) (by omega)
    show (if Int32.ofNat b < (48 : Int32) then some (0 : Int32) else if (57 : Int32) < Int32.ofNat b then some (0 : Int32) else some (1 : Int32)) = some (if decide (48 ≤ b ∧ b ≤ 57) = true then 1 else 0)
    by_cases d1 : b < 48
    · rw [if_pos (c1.mpr d1), if_neg (by simp; omega)]
    · by_cases d2 : 57 < b
      · rw [if_neg (fun z => d1 (c1.mp z)), if_pos (c2.mpr d2), if_neg (by simp; omega)]
      · rw [if_neg (fun z => d1 (c1.mp z)), if_neg (fun z => d2 (c2.mp z)), if_pos (by simp; omega)]
theorem isFig9 {bs : List Nat} {f : Nat → Int32} (h : TQ bs f) {p : Nat} (hp : p < 2147483648) : F_X9_isFigure (Int32.ofNat bs.length) (Int32.ofNat p) f = some (if isF bs p = true then 1 else 0) := by
  unfold F_X9_isFigure
  have e48 : (48 : Int64).toInt = 48 := rfl
  have e57 : (57 : Int64).toInt = 57 := rfl
  rw [here9 h hp, bd_s, in9i, e48, e57, bd_s]
  unfold isF bI
  cases e : bs[p]? with
  | none => rfl
  | some b =>
    have hb := h.2.2 b (List.mem_of_getElem? e)
    show some (if 48 ≤ (Int32.ofNat b).toInt ∧ (Int32.ofNat b).toInt ≤ 57 then (1 : Int32) else 0) = some (if decide (48 ≤ b ∧ b ≤ 57) = true then 1 else 0)
    rw [n_toInt (by omega)]
    by_cases d : 48 ≤ b ∧ b ≤ 57
    · rw [if_pos (by omega), if_pos (by simp; omega)]
    · rw [if_neg (by omega), if_neg (by simp; omega)]
theorem n_sub48 (a : Nat) : Int32.ofNat (48 + a) - (48 : Int32) = Int32.ofNat a := by
  have := n_sub (a := 48 + a) (b := 48) (by omega)
  rw [show 48 + a - 48 = a by omega] at this; exact this
theorem fig8 {bs : List Nat} {f : Nat → Int32} (h : TQ bs f) {p : Nat} (hf : isF bs p = true) : F_X7_figureAt (Int32.ofNat bs.length) f (Int32.ofNat p) = some (Int32.ofNat (fi bs p)) := by
  obtain ⟨h1, h2, h3⟩ := isF_c hf
  have := h.2.1
  unfold F_X7_figureAt
  rw [byte8 h (by omega), bd_s, h2, n_sub48]
theorem figY9 {bs : List Nat} {f : Nat → Int32} (h : TQ bs f) {p : Nat} (hf : isF bs p = true) : F_X9_figure (Int32.ofNat bs.length) (Int32.ofNat p) (0 : Int32) f = some (Int32.ofNat (fi bs p), Int32.ofNat (p + 1), (0 : Int32)) := by
  obtain ⟨h1, h2, h3⟩ := isF_c hf
  have h60 := h.2.1
  have ep : Int32.ofNat p + (1 : Int32) = Int32.ofNat (p + 1) := n_add p 1
  have em : Int32.ofNat (p + 1) - (1 : Int32) = Int32.ofNat p := n_sub (b := 1) (by omega)
  have eb : f p = bI bs p := by
    unfold bI
    rw [List.getElem?_eq_getElem h1]
    exact h.1 p _ (List.getElem?_eq_getElem h1)
  unfold F_X9_figure
  rw [if_pos i00, isFig9 h (by omega), bd_s, if_pos hf, if_neg i10, ep, em, ck_n (by omega) (by omega), n_clamp (by omega), eb, h2, n_sub48]
theorem figN9 {bs : List Nat} {f : Nat → Int32} (h : TQ bs f) {p : Nat} (hp : p < 2147483648) (hf : ¬ isF bs p = true) : F_X9_figure (Int32.ofNat bs.length) (Int32.ofNat p) (0 : Int32) f = some ((0 : Int32), Int32.ofNat p, (1 : Int32)) := by
  unfold F_X9_figure
  rw [if_pos i00, isFig9 h hp, bd_s, if_neg hf, if_pos i00]
theorem figW9 (n p : Int32) (f : Nat → Int32) : F_X9_figure n p (1 : Int32) f = some ((0 : Int32), p, (1 : Int32)) := by
  unfold F_X9_figure
  rw [if_neg i10]
theorem sign8 {bs : List Nat} {f : Nat → Int32} (h : TQ bs f) {p c : Nat} (hp : p < 2147483648) (hc : c < 256) : F_X4_readSign (Int32.ofNat p) (Int32.ofNat bs.length) f (Int32.ofNat c) = some (if isC bs p c = true then ((1 : Int32), Int32.ofNat (p + 1)) else ((0 : Int32), Int32.ofNat p)) := by
  have ep : Int32.ofNat p + (1 : Int32) = Int32.ofNat (p + 1) := n_add p 1
  unfold F_X4_readSign
  rw [byte8 h hp, bd_s, ep]
  by_cases d : isC bs p c = true
  · rw [if_pos d, if_pos ((bI_c h.2.2 hc).mpr d)]
  · rw [if_neg d, if_neg (fun z => d ((bI_c h.2.2 hc).mp z))]
def cI (cb : Option Nat) : Int32 := match cb with
  | some p => Int32.ofNat p
  | none => -1
def nt (cb : Option Nat) (p : Nat) : Option Nat := match cb with
  | some q => some q
  | none => some p
theorem cI_none {cb : Option Nat} (h : ∀ q, cb = some q → q < 1000) : (cI cb = (-1 : Int32)) ↔ cb = none := by
  unfold cI
  cases cb with
  | none => simp
  | some q =>
    have := h q rfl
    constructor
    · intro z
      have z1 : (Int32.ofNat q).toInt = (-1 : Int32).toInt := congrArg Int32.toInt z
      rw [n_toInt (by omega), show (-1 : Int32).toInt = -1 from rfl] at z1
      omega
    · intro z; exact absurd z (by simp)
theorem note8 {cb : Option Nat} (h : ∀ q, cb = some q → q < 1000) (p : Nat) : F_X4_noteCannotBe (cI cb) (Int32.ofNat p) = some (cI (nt cb p)) := by
  unfold F_X4_noteCannotBe
  cases cb with
  | none => rfl
  | some q =>
    have : ¬ cI (some q) = (-1 : Int32) := fun z => by have := (cI_none h).mp z; simp at this
    rw [if_neg this]; rfl
theorem nt_lt {cb : Option Nat} {B p : Nat} (h : ∀ q, cb = some q → q < B) (hp : p < B) : ∀ q, nt cb p = some q → q < B := fun q hq => by
  cases cb with
  | none => simp [nt] at hq; omega
  | some r => exact h q hq
/-! Why a text was refused. -/
def tms (bs : List Nat) (c w : Nat) : Nat := ((List.range w).filter (fun k => isC bs k c)).length
theorem tms_s (bs : List Nat) (c w : Nat) : tms bs c (w + 1) = tms bs c w + if isC bs w c = true then 1 else 0 := by
  unfold tms
  rw [List.range_succ, List.filter_append, List.length_append]
  congr 1
  by_cases h : isC bs w c = true
  · rw [if_pos h, List.filter_cons_of_pos (p := fun k => isC bs k c) h]; rfl
  · rw [if_neg h, List.filter_cons_of_neg (p := fun k => isC bs k c) h]; rfl
theorem times8 {bs : List Nat} {f : Nat → Int32} (h : TQ bs f) {c w : Nat} (hc : c < 256) (hw : w ≤ bs.length) : F_X7_timesAhead (Int32.ofNat bs.length) f (Int32.ofNat c) (Int32.ofNat w) = some (Int32.ofNat (tms bs c w)) := by
  have h60 := h.2.1
  unfold F_X7_timesAhead
  refine wq2_it w (fun j => Int32.ofNat (tms bs c j)) (fun j => Int32.ofNat j) (fun j hj ag => ?_) (fun ag => ?_) FU (by unfold FU; omega)
  · have ej : ∀ j, Int32.ofNat j + (1 : Int32) = Int32.ofNat (j + 1) := fun j => n_add j 1
    unfold B_X7_timesAhead_5
    rw [if_neg (c_ge (by omega) (by omega) hj), byte8 h (by omega), bd_s, tms_s, ej, ej]
    by_cases d : isC bs j c = true
    · rw [if_pos ((bI_c h.2.2 hc).mpr d), if_pos d]
    · rw [if_neg (fun z => d ((bI_c h.2.2 hc).mp z)), if_neg d]; rfl
  · unfold B_X7_timesAhead_5
    rw [if_pos ((n_le (by omega) (by omega)).mpr (Nat.le_refl _))]; rfl
theorem rd_c {bs : List Nat} {f : Nat → Int32} (h : TQ bs f) {p c : Nat} (hp : p < bs.length) (hc : c < 256) : (f p = Int32.ofNat c) ↔ isC bs p c = true := by
  rw [← bI_c h.2.2 hc]
  have e : f p = bI bs p := by
    unfold bI
    rw [List.getElem?_eq_getElem hp]
    exact h.1 p _ (List.getElem?_eq_getElem hp)
  rw [e]
/-- the first / at or behind no earlier place -/
theorem slash_at (bs : List Nat) : ∃ m, m ≤ bs.length ∧ (∀ j, j < m → ¬ isC bs j 47 = true) ∧ (m = bs.length ∨ isC bs m 47 = true) := by
  obtain ⟨m, m1, m2, m3⟩ := stop3 (fun j => j < bs.length ∧ ¬ isC bs j 47 = true) bs.length (fun z => absurd z.1 (by omega))
  refine ⟨m, m1, fun j hj => (m2 j hj).2, ?_⟩
  by_cases c : m = bs.length
  · exact Or.inl c
  · exact Or.inr (Classical.byContradiction fun z => m3 ⟨by omega, z⟩)
theorem fstOf8 {bs : List Nat} {f : Nat → Int32} (h : TQ bs f) {m w : Nat} (hm : m ≤ bs.length) (h1 : ∀ j, j < m → ¬ isC bs j 47 = true) (h2 : m = bs.length ∨ isC bs m 47 = true) (hw : w ≤ bs.length) : F_X7_firstOf (Int32.ofNat bs.length) f (47 : Int32) (Int32.ofNat w) = some (if m < w then Int32.ofNat m else -1) := by
  have h60 := h.2.1
  have c47 : ∀ j, (bI bs j = (47 : Int32)) ↔ isC bs j 47 = true := fun j => bI_c (c := 47) h.2.2 (by omega)
  unfold F_X7_firstOf
  refine wq1_it (if m < w then m else w) (fun j => Int32.ofNat j) (fun j hj ag => ?_) (fun ag => ?_) FU (by unfold FU; by_cases d : m < w <;> simp [d] <;> omega)
  · have hj2 : j < m ∧ j < w := by
      by_cases d : m < w
      · rw [if_pos d] at hj; omega
      · rw [if_neg d] at hj; omega
    have ej : Int32.ofNat j + (1 : Int32) = Int32.ofNat (j + 1) := n_add j 1
    unfold B_X7_firstOf_2
    rw [if_neg (c_ge (by omega) (by omega) hj2.2), byte8 h (by omega), bd_s, if_neg (fun z => h1 j hj2.1 ((c47 j).mp z)), ej]
  · unfold B_X7_firstOf_2
    by_cases d : m < w
    · have hc : isC bs m 47 = true := by
        rcases h2 with h2 | h2
        · omega
        · exact h2
      rw [if_pos d, if_neg (c_ge (by omega) (by omega) d), byte8 h (by omega), bd_s, if_pos ((c47 m).mpr hc), if_pos d]
    · rw [if_neg d, if_pos ((n_le (by omega) (by omega)).mpr (Nat.le_refl _)), if_neg d]; rfl
/-- what WHY says of a place: its sort, its number -/
def whyS (m w : Nat) : Nat := if w = 0 then 2 else if m < w then (if w = m + 1 then 4 else 5) else 3
def whyN (bs : List Nat) (s w : Nat) : Nat := if s = 3 then tms bs 44 w else if s = 5 then tms bs 59 w else 0
def whyF (n s k how w : Nat) (j : Nat) : Int32 := if j = 0 then 1 else if j = 1 then Int32.ofNat n else if j = 2 then Int32.ofNat s else if j = 3 then Int32.ofNat k else if j = 4 then Int32.ofNat how else Int32.ofNat w
theorem upd6 (f : Nat → Int32) (a b c d e g : Int32) (j : Nat) (hj : j < 6) : upd (upd (upd (upd (upd (upd f 0 a) 1 b) 2 c) 3 d) 4 e) 5 g j = if j = 0 then a else if j = 1 then b else if j = 2 then c else if j = 3 then d else if j = 4 then e else g := by
  simp only [upd_e]
  rcases (show j = 0 ∨ j = 1 ∨ j = 2 ∨ j = 3 ∨ j = 4 ∨ j = 5 by omega) with rfl | rfl | rfl | rfl | rfl | rfl <;> rfl
theorem ck6 {β : Type} {k : Option β} {i : Int32} (h : i = 0 ∨ i = 1 ∨ i = 2 ∨ i = 3 ∨ i = 4 ∨ i = 5) : ck i 6 k = k := by
  rcases h with rfl | rfl | rfl | rfl | rfl | rfl
  · exact ck_n (i := 0) (by omega) (by omega)
  · exact ck_n (i := 1) (by omega) (by omega)
  · exact ck_n (i := 2) (by omega) (by omega)
  · exact ck_n (i := 3) (by omega) (by omega)
  · exact ck_n (i := 4) (by omega) (by omega)
  · exact ck_n (i := 5) (by omega) (by omega)
theorem keep8 {bs : List Nat} {f : Nat → Int32} (h : TQ bs f) {m w how : Nat} (hm : m ≤ bs.length) (h1 : ∀ j, j < m → ¬ isC bs j 47 = true) (h2 : m = bs.length ∨ isC bs m 47 = true) (hw : w ≤ bs.length) (cs : Nat → Int32) :
    ∃ cs', F_X4_keepWhy cs (Int32.ofNat bs.length) f (Int32.ofNat how) (Int32.ofNat w) = some (cs', (1 : Int32)) ∧ ∀ j, j < 6 → cs' j = whyF bs.length (whyS m w) (whyN bs (whyS m w) w) how w j := by
  have h60 := h.2.1
  have es : F_X4_sortOf (Int32.ofNat bs.length) f (Int32.ofNat w) = some (Int32.ofNat (whyS m w)) := by
    unfold F_X4_sortOf whyS
    by_cases c : w = 0
    · subst c; rfl
    · have w0 : ¬ Int32.ofNat w = 0 := fun z => c ((n_inj (b := 0) (by omega) (by omega)).mp z)
      rw [if_neg w0, fstOf8 h hm h1 h2 hw, bd_s, if_neg c]
      by_cases d : m < w
      · have nm : ¬ Int32.ofNat m = (-1 : Int32) := fun z => by
          have z1 := congrArg Int32.toInt z
          rw [n_toInt (by omega), show (-1 : Int32).toInt = -1 from rfl] at z1
          omega
        have em : Int32.ofNat m + (1 : Int32) = Int32.ofNat (m + 1) := n_add m 1
        rw [if_pos d, if_pos d, if_neg nm, em]
        by_cases e : w = m + 1
        · rw [if_pos e, if_pos (by rw [e])]; rfl
        · rw [if_neg e, if_neg (fun z => e ((n_inj (by omega) (by omega)).mp z))]; rfl
      · rw [if_neg d, if_neg d, if_pos rfl]; rfl
  have en : F_X4_signsAhead (Int32.ofNat bs.length) f (Int32.ofNat (whyS m w)) (Int32.ofNat w) = some (Int32.ofNat (whyN bs (whyS m w) w)) := by
    unfold F_X4_signsAhead whyN
    have hs : whyS m w < 6 := by unfold whyS; split <;> (try split) <;> (try split) <;> omega
    have t3 : (Int32.ofNat (whyS m w) = (3 : Int32)) ↔ whyS m w = 3 := n_inj (b := 3) (by omega) (by omega)
    have t5 : (Int32.ofNat (whyS m w) = (5 : Int32)) ↔ whyS m w = 5 := n_inj (b := 5) (by omega) (by omega)
    have e44 := times8 h (c := 44) (by omega) hw
    have e59 := times8 h (c := 59) (by omega) hw
    by_cases c : whyS m w = 3
    · rw [if_pos (t3.mpr c), if_pos c]
      exact (congrArg (fun q => bd q (fun x4 => some x4)) e44)
    · rw [if_neg (fun z => c (t3.mp z)), if_neg c]
      by_cases d : whyS m w = 5
      · rw [if_pos (t5.mpr d), if_pos d]
        exact (congrArg (fun q => bd q (fun x4 => some x4)) e59)
      · rw [if_neg (fun z => d (t5.mp z)), if_neg d]; rfl
  refine ⟨_, ?_, fun j hj => upd6 cs (1 : Int32) (Int32.ofNat bs.length) (Int32.ofNat (whyS m w)) (Int32.ofNat (whyN bs (whyS m w) w)) (Int32.ofNat how) (Int32.ofNat w) j hj⟩
  unfold F_X4_keepWhy
  rw [ck6 (Or.inl rfl), ck6 (Or.inr (Or.inl rfl)), es, bd_s, ck6 (Or.inr (Or.inr (Or.inl rfl))), ck6 (Or.inr (Or.inr (Or.inl rfl)))]
  have eu : (upd (upd (upd cs (0 : Int32).toNatClampNeg (1 : Int32)) (1 : Int32).toNatClampNeg (Int32.ofNat bs.length)) (2 : Int32).toNatClampNeg (Int32.ofNat (whyS m w))) (2 : Int32).toNatClampNeg = Int32.ofNat (whyS m w) := by rw [upd_e, if_pos rfl]
  rw [eu, en, bd_s, ck6 (Or.inr (Or.inr (Or.inr (Or.inl rfl)))), ck6 (Or.inr (Or.inr (Or.inr (Or.inr (Or.inl rfl))))), ck6 (Or.inr (Or.inr (Or.inr (Or.inr (Or.inr rfl)))))]
  rfl
theorem bec_fin {cs : Nat → Int32} {n s k how w : Nat} {X : Option ((Nat → Int32) × Int32)} (hX : X = ck (0 : Int32) 6 (ck (1 : Int32) 6 (ck (2 : Int32) 6 (ck (3 : Int32) 6 (ck (4 : Int32) 6 (ck (5 : Int32) 6 (some ((upd (upd (upd (upd (upd (upd cs (0 : Int32).toNatClampNeg (1 : Int32)) (1 : Int32).toNatClampNeg (Int32.ofNat n)) (2 : Int32).toNatClampNeg (Int32.ofNat s)) (3 : Int32).toNatClampNeg (Int32.ofNat k)) (4 : Int32).toNatClampNeg (Int32.ofNat how)) (5 : Int32).toNatClampNeg (Int32.ofNat w)), (1 : Int32))))))))) :
    ∃ cs', X = some (cs', (1 : Int32)) ∧ ∀ j, j < 6 → cs' j = whyF n s k how w j := by
  refine ⟨_, ?_, fun j hj => upd6 cs (1 : Int32) (Int32.ofNat n) (Int32.ofNat s) (Int32.ofNat k) (Int32.ofNat how) (Int32.ofNat w) j hj⟩
  rw [hX, ck6 (Or.inl rfl), ck6 (Or.inr (Or.inl rfl)), ck6 (Or.inr (Or.inr (Or.inl rfl))), ck6 (Or.inr (Or.inr (Or.inr (Or.inl rfl)))), ck6 (Or.inr (Or.inr (Or.inr (Or.inr (Or.inl rfl))))), ck6 (Or.inr (Or.inr (Or.inr (Or.inr (Or.inr rfl)))))]
  rfl
theorem because9 {bs : List Nat} {f : Nat → Int32} (h : TQ bs f) {m w how : Nat} (hm : m ≤ bs.length) (h1 : ∀ j, j < m → ¬ isC bs j 47 = true) (h2 : m = bs.length ∨ isC bs m 47 = true) (hw : w ≤ bs.length) (cs : Nat → Int32) :
    ∃ cs', F_X9_because (Int32.ofNat bs.length) f cs (Int32.ofNat how) (Int32.ofNat w) = some (cs', (1 : Int32)) ∧ ∀ j, j < 6 → cs' j = whyF bs.length (whyS m w) (whyN bs (whyS m w) w) how w j := by
  have h60 := h.2.1
  have ej : ∀ j, Int32.ofNat j + (1 : Int32) = Int32.ofNat (j + 1) := fun j => n_add j 1
  have ej0 : ∀ j, Int32.ofNat j + (0 : Int32) = Int32.ofNat j := fun j => n_add j 0
  have step1 : F_X9_because (Int32.ofNat bs.length) f cs (Int32.ofNat how) (Int32.ofNat w) = K_X9_because_2_27 (Int32.ofNat bs.length) f cs (Int32.ofNat how) (Int32.ofNat w) (Int32.ofNat m) := by
    unfold F_X9_because
    refine wq1_it m (fun j => Int32.ofNat j) (fun j hj ag => ?_) (fun ag => ?_) FU (by unfold FU; omega)
    · unfold B_X9_because_2
      have g2 : ¬ f j = (47 : Int32) := fun z => h1 j hj ((rd_c h (c := 47) (by omega) (by omega)).mp z)
      rw [if_neg (c_ge (by omega) (by omega) (by omega)), ck_n (by omega) (by omega), n_clamp (by omega), if_neg g2, ej]
    · unfold B_X9_because_2
      rcases h2 with h2 | h2
      · rw [if_pos ((n_le (by omega) (by omega)).mpr (by omega))]
      · have hl := (isC_c h2).1
        have g2 : f m = (47 : Int32) := (rd_c h (c := 47) hl (by omega)).mpr h2
        rw [if_neg (c_ge (by omega) (by omega) hl), ck_n (by omega) (by omega), n_clamp (by omega), if_pos g2]
  rw [step1]
  unfold K_X9_because_2_27 whyS
  by_cases c : w = 0
  · subst c
    rw [if_pos (show Int32.ofNat 0 = (0 : Int32) from rfl), if_pos rfl]
    exact bec_fin rfl
  have w0 : ¬ Int32.ofNat w = 0 := fun z => c ((n_inj (b := 0) (by omega) (by omega)).mp z)
  rw [if_neg w0, if_neg c]
  by_cases d : m < w
  · rw [if_pos ((n_lt (by omega) (by omega)).mpr d), if_pos d, ej]
    by_cases e : w = m + 1
    · rw [if_pos (by rw [e]), if_pos e]
      refine bec_fin (cs := cs) (k := whyN bs 4 w) ?_
      refine wq2_it w (fun j => (0 : Int32)) (fun j => Int32.ofNat j) (fun j hj ag => ?_) (fun ag => ?_) FU (by unfold FU; omega)
      · unfold B_X9_because_64x1
        rw [if_neg (c_ge (by omega) (by omega) hj), ej]; rfl
      · unfold B_X9_because_64x1
        rw [if_pos ((n_le (by omega) (by omega)).mpr (Nat.le_refl _))]; rfl
    · rw [if_neg (fun z => e ((n_inj (by omega) (by omega)).mp z)), if_neg e]
      refine bec_fin (cs := cs) (k := whyN bs 5 w) ?_
      refine wq2_it w (fun j => Int32.ofNat (tms bs 59 j)) (fun j => Int32.ofNat j) (fun j hj ag => ?_) (fun ag => ?_) FU (by unfold FU; omega)
      · unfold B_X9_because_64
        rw [if_neg (c_ge (by omega) (by omega) hj), ck_n (by omega) (by omega), n_clamp (by omega), tms_s, ej, ej, ej0]
        by_cases g : isC bs j 59 = true
        · have g2 : f j = (59 : Int32) := (rd_c h (c := 59) (by omega) (by omega)).mpr g
          rw [if_pos g2, if_pos g]
        · have g2 : ¬ f j = (59 : Int32) := fun z => g ((rd_c h (c := 59) (by omega) (by omega)).mp z)
          rw [if_neg g2, if_neg g]; rfl
      · unfold B_X9_because_64
        rw [if_pos ((n_le (by omega) (by omega)).mpr (Nat.le_refl _))]; rfl
  · rw [if_neg (fun z => d ((n_lt (by omega) (by omega)).mp z)), if_neg d]
    refine bec_fin (cs := cs) (k := whyN bs 3 w) ?_
    refine wq2_it w (fun j => Int32.ofNat (tms bs 44 j)) (fun j => Int32.ofNat j) (fun j hj ag => ?_) (fun ag => ?_) FU (by unfold FU; omega)
    · unfold B_X9_because_64x2
      rw [if_neg (c_ge (by omega) (by omega) hj), ck_n (by omega) (by omega), n_clamp (by omega), tms_s, ej, ej, ej0]
      by_cases g : isC bs j 44 = true
      · have g2 : f j = (44 : Int32) := (rd_c h (c := 44) (by omega) (by omega)).mpr g
        rw [if_pos g2, if_pos g]
      · have g2 : ¬ f j = (44 : Int32) := fun z => g ((rd_c h (c := 44) (by omega) (by omega)).mp z)
        rw [if_neg g2, if_neg g]; rfl
    · unfold B_X9_because_64x2
      rw [if_pos ((n_le (by omega) (by omega)).mpr (Nat.le_refl _))]; rfl
