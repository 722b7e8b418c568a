/-! SPLITS of a text, as both read them. -/
def rr (bs : List Nat) : Nat → Nat → Nat → List Nat
  | 0, _, _ => []
  | r + 1, lo, p => if isF bs p = true ∧ lo ≤ fi bs p then fi bs p :: rr bs r (fi bs p + 1) (p + 1) else []
def setA (s : Nat) (ds : List Nat) : Nat := ds.foldl (fun a d => a ||| 2 ^ d) s
theorem rr_Y {bs : List Nat} {r lo p : Nat} (h : isF bs p = true) (hl : lo ≤ fi bs p) : rr bs (r + 1) lo p = fi bs p :: rr bs r (fi bs p + 1) (p + 1) := if_pos ⟨h, hl⟩
theorem rr_N {bs : List Nat} {r lo p : Nat} (h : ¬ (isF bs p = true ∧ lo ≤ fi bs p)) : rr bs (r + 1) lo p = [] := if_neg h
theorem rr_le {bs : List Nat} : ∀ (r lo p : Nat), p ≤ bs.length → (rr bs r lo p).length ≤ r ∧ p + (rr bs r lo p).length ≤ bs.length ∧ ∀ d ∈ rr bs r lo p, d ≤ 9
  | 0, lo, p, h => ⟨Nat.le_refl _, h, by simp [rr]⟩
  | r + 1, lo, p, h => by
    by_cases c : isF bs p = true ∧ lo ≤ fi bs p
    · obtain ⟨a, b, e⟩ := isF_c c.1
      obtain ⟨i1, i2, i3⟩ := rr_le (bs := bs) r (fi bs p + 1) (p + 1) (by omega)
      rw [rr_Y c.1 c.2, List.length_cons]
      refine ⟨by omega, by omega, fun d hd => ?_⟩
      rcases List.mem_cons.mp hd with rfl | hd
      · exact e
      · exact i3 d hd
    · rw [rr_N c]; exact ⟨Nat.zero_le _, h, by simp⟩
theorem n_or (a b : Nat) : Int32.ofNat a ||| Int32.ofNat b = Int32.ofNat (a ||| b) := by
  apply Int32.toBitVec_inj.mp
  rw [Int32.toBitVec_or]
  show BitVec.ofNat 32 a ||| BitVec.ofNat 32 b = BitVec.ofNat 32 (a ||| b)
  rw [← BitVec.ofNat_or]
theorem pow9 : ∀ d, d < 10 → (1 : Int32) <<< (Int32.ofNat d &&& 31) = Int32.ofNat (2 ^ d) := by decide
theorem lo_lt {lo d : Nat} (hl : lo < 1000) (hd : d < 1000) : (Int32.ofNat lo - (1 : Int32) < Int32.ofNat d) ↔ lo ≤ d := by
  have e1 : (1 : Int32).toInt = 1 := rfl
  rw [Int32.lt_iff_toInt_lt, Int32.toInt_sub, n_toInt (by omega), n_toInt (by omega), e1, Int.bmod_eq_of_le (by omega) (by omega)]
  omega
theorem lo_s (d : Nat) : Int32.ofNat d = Int32.ofNat (d + 1) - (1 : Int32) := by
  have := n_sub (a := d + 1) (b := 1) (by omega)
  exact this.symm
theorem run8 {bs : List Nat} {f : Nat → Int32} (h : TQ bs f) (kk : Int32 → Int32 → Option (Int32 × Int32 × Int32 × Int64)) : ∀ (r lo p s n m : Nat), m + r = 4 → r < n → p ≤ bs.length → lo < 100 →
    wq4 (B_X4_readSplit_12 (Int32.ofNat bs.length) f kk) n (Int32.ofNat p) (Int32.ofNat lo - (1 : Int32)) (Int32.ofNat s) (Int32.ofNat m) = kk (Int32.ofNat (p + (rr bs r lo p).length)) (Int32.ofNat (setA s (rr bs r lo p))) := by
  have h60 := h.2.1
  intro r
  induction r with
  | zero =>
    intro lo p s n m hm hn hp hlo
    obtain ⟨n, rfl⟩ : ∃ k, n = k + 1 := ⟨n - 1, by omega⟩
    show B_X4_readSplit_12 (Int32.ofNat bs.length) f kk (Int32.ofNat p) (Int32.ofNat lo - (1 : Int32)) (Int32.ofNat s) (Int32.ofNat m) (wq4 (B_X4_readSplit_12 (Int32.ofNat bs.length) f kk) n) = _
    unfold B_X4_readSplit_12
    have c4 : (4 : Int32) ≤ Int32.ofNat m := (n_le (a := 4) (by omega) (by omega)).mpr (by omega)
    rw [if_pos c4]; rfl
  | succ r ih =>
    intro lo p s n m hm hn hp hlo
    obtain ⟨n, rfl⟩ : ∃ k, n = k + 1 := ⟨n - 1, by omega⟩
    have ih2 := fun lo p s => ih lo p s n (m + 1) (by omega) (by omega)
    show B_X4_readSplit_12 (Int32.ofNat bs.length) f kk (Int32.ofNat p) (Int32.ofNat lo - (1 : Int32)) (Int32.ofNat s) (Int32.ofNat m) (wq4 (B_X4_readSplit_12 (Int32.ofNat bs.length) f kk) n) = _
    generalize hW : wq4 (B_X4_readSplit_12 (Int32.ofNat bs.length) f kk) n = W at ih2 ⊢
    unfold B_X4_readSplit_12
    have c4 : ¬ (4 : Int32) ≤ Int32.ofNat m := c_ge (m := 4) (by omega) (by omega) (by omega)
    rw [if_neg c4, isFig8 h (by omega), bd_s]
    by_cases c : isF bs p = true
    · obtain ⟨a, b, e⟩ := isF_c c
      rw [if_pos c, if_neg i10, fig8 h c, bd_s]
      have ep : Int32.ofNat p + (1 : Int32) = Int32.ofNat (p + 1) := n_add p 1
      have em : Int32.ofNat m + (1 : Int32) = Int32.ofNat (m + 1) := n_add m 1
      by_cases d : lo ≤ fi bs p
      · rw [if_pos ((lo_lt (by omega) (by omega)).mpr d), bd_s, pow9 _ (by omega), n_or, lo_s (fi bs p), ep, em, ih2 _ _ _ (by omega) (by omega), rr_Y c d, List.length_cons, show p + 1 + (rr bs r (fi bs p + 1) (p + 1)).length = p + ((rr bs r (fi bs p + 1) (p + 1)).length + 1) by omega]; rfl
      · rw [if_neg (fun z => d ((lo_lt (by omega) (by omega)).mp z)), rr_N (fun z => d z.2)]; rfl
    · rw [if_neg c, if_pos i00, rr_N (fun z => c z.1)]; rfl
def okS (L : Nat) (acc : List Nat) (s : Nat) : Prop := 3 ≤ L ∧ L ≤ 6 ∧ isSp L s = true ∧ fit acc s = true
theorem isSp_ge {L s : Nat} (h6 : L ≤ 6) (h : 64 ≤ s) : ¬ isSp L s = true := fun z => by have := isSp_lt h6 z; omega
theorem isS8 {L s : Nat} (hL : L ≤ 9) (hs : s < 2147483648) : F_X6_isSplit (Int32.ofNat s) (Int32.ofNat L) = some (if 3 ≤ L ∧ L ≤ 6 ∧ isSp L s = true then 1 else 0) := by
  by_cases c : 3 ≤ L ∧ L ≤ 6
  · rcases split89 c.1 c.2 (Int32.ofNat s) with ⟨a, b⟩ | ⟨t, ht, hsp, e, a, b⟩
    · rw [a, if_neg]
      intro z
      have h2 := (is_n (by omega) c.2 (isSp_lt c.2 z.2.2)).1
      rw [a, if_pos z.2.2] at h2
      exact absurd h2 (by decide)
    · have e2 := (n_inj hs (by omega)).mp e
      rw [a, if_pos ⟨c.1, c.2, by rw [e2]; exact hsp⟩]
  · have e : F_X6_isLeafCount (Int32.ofNat L) = some 0 := by
      have : ∀ L, L < 10 → ¬ (3 ≤ L ∧ L ≤ 6) → F_X6_isLeafCount (Int32.ofNat L) = some 0 := by decide
      exact this L (by omega) c
    unfold F_X6_isSplit
    rw [e, bd_s, if_pos i00, if_neg (fun z => c ⟨z.1, z.2.1⟩)]
theorem isS9 {L s : Nat} (h3 : 3 ≤ L) (h6 : L ≤ 6) (hs : s < 2147483648) : F_X9_isSplit (Int32.ofNat s) (Int32.ofNat L) = some (if isSp L s = true then 1 else 0) := by
  rcases split89 h3 h6 (Int32.ofNat s) with ⟨a, b⟩ | ⟨t, ht, hsp, e, a, b⟩
  · rw [b, if_neg]
    intro z
    have h2 := (is_n (by omega) h6 (isSp_lt h6 z)).2
    rw [b, if_pos z] at h2
    exact absurd h2 (by decide)
  · have e2 := (n_inj hs (by omega)).mp e
    rw [b, if_pos (by rw [e2]; exact hsp)]
noncomputable def stS (L : Nat) (st : List Nat × Option Nat) (x : Nat × Nat) : List Nat × Option Nat := by
  classical exact if okS L st.1 x.1 then (ins x.1 st.1, st.2) else (st.1, nt st.2 x.2)
theorem stS_Y {L : Nat} {st : List Nat × Option Nat} {x : Nat × Nat} (h : okS L st.1 x.1) : stS L st x = (ins x.1 st.1, st.2) := by
  unfold stS; rw [if_pos h]
theorem stS_N {L : Nat} {st : List Nat × Option Nat} {x : Nat × Nat} (h : ¬ okS L st.1 x.1) : stS L st x = (st.1, nt st.2 x.2) := by
  unfold stS; rw [if_neg h]
/-- a tree so far and what was noted -/
def stV (L : Nat) (st : List Nat × Option Nat) : Prop := ((3 ≤ L ∧ L ≤ 6 ∧ vt L st.1 = true) ∨ (¬ (3 ≤ L ∧ L ≤ 6) ∧ st.1 = [])) ∧ ∀ q, st.2 = some q → q < 1000
theorem stS_V {L : Nat} {st : List Nat × Option Nat} {x : Nat × Nat} (h : stV L st) (hx : x.2 < 1000) : stV L (stS L st x) := by
  by_cases c : okS L st.1 x.1
  · rw [stS_Y c]
    refine ⟨Or.inl ⟨c.1, c.2.1, ?_⟩, h.2⟩
    rcases h.1 with ⟨a, b, v⟩ | ⟨a, -⟩
    · exact vt_ins c.2.2.1 v c.2.2.2
    · exact absurd ⟨c.1, c.2.1⟩ a
  · rw [stS_N c]; exact ⟨h.1, nt_lt h.2 hx⟩
theorem setA_lt : ∀ (ds : List Nat) (s : Nat), s < 2 ^ 10 → (∀ d ∈ ds, d ≤ 9) → setA s ds < 2 ^ 10
  | [], s, hs, _ => hs
  | d :: ds, s, hs, h => by
    have hd := h d List.mem_cons_self
    have h1 : 2 ^ d < 2 ^ 10 := Nat.pow_lt_pow_right (by omega) (by omega)
    exact setA_lt ds (s ||| 2 ^ d) (Nat.or_lt_two_pow hs h1) (fun e he => h e (List.mem_cons_of_mem _ he))
theorem readSplit8 {bs : List Nat} {f : Nat → Int32} (h : TQ bs f) {p L : Nat} (hp : p ≤ bs.length) (hL : L ≤ 9) {st : List Nat × Option Nat} (hst : stV L st) :
    F_X4_readSplit (Int32.ofNat p) (cI st.2) (Int32.ofNat bs.length) f (Int32.ofNat L) (tr64 st.1) = some (if (rr bs 4 0 p).length < 2 then ((0 : Int32), Int32.ofNat (p + (rr bs 4 0 p).length), cI st.2, tr64 st.1) else ((1 : Int32), Int32.ofNat (p + (rr bs 4 0 p).length), cI (stS L st (setA 0 (rr bs 4 0 p), p)).2, tr64 (stS L st (setA 0 (rr bs 4 0 p), p)).1)) := by
  have h60 := h.2.1
  obtain ⟨l1, l2, l3⟩ := rr_le (bs := bs) 4 0 p hp
  have hs := setA_lt (rr bs 4 0 p) 0 (by omega) l3
  unfold F_X4_readSplit
  have e0 : (-1 : Int32) = Int32.ofNat 0 - (1 : Int32) := by decide
  have key := run8 h (K_X4_readSplit_12_84 (Int32.ofNat p) (cI st.2) (Int32.ofNat L) (tr64 st.1)) 4 0 p 0 FU 0 (by omega) (by unfold FU; omega) hp (by omega)
  rw [e0]
  refine key.trans ?_
  generalize hds : rr bs 4 0 p = ds at l1 l2 l3 hs ⊢
  unfold K_X4_readSplit_12_84 J_X4_readSplit_145
  have c2 : ((2 : Int32) ≤ Int32.ofNat ds.length) ↔ 2 ≤ ds.length := n_le (a := 2) (by omega) (by omega)
  rw [n_sub (show p ≤ p + ds.length by omega), show p + ds.length - p = ds.length by omega]
  by_cases c : ds.length < 2
  · rw [if_neg (fun z => by have := c2.mp z; omega), if_pos c]
  · rw [if_pos (c2.mpr (by omega)), if_neg c, isS8 hL (by omega), bd_s]
    by_cases d : 3 ≤ L ∧ L ≤ 6 ∧ isSp L (setA 0 ds) = true
    · have hv : vt L st.1 = true := by
        rcases hst.1 with ⟨a, b, v⟩ | ⟨a, -⟩
        · exact v
        · exact absurd ⟨d.1, d.2.1⟩ a
      have hs64 := isSp_lt d.2.1 d.2.2
      rw [if_pos d, if_neg i10, fits8 d.1 d.2.1 hv hs64, bd_s]
      by_cases e : fit st.1 (setA 0 ds) = true
      · rw [if_pos e, if_neg i10, with8 (vt_asc hv) hs64 (fit_not e), bd_s, stS_Y (x := (setA 0 ds, p)) ⟨d.1, d.2.1, d.2.2, e⟩]
      · rw [if_neg e, if_pos i00, note8 hst.2, bd_s, stS_N (x := (setA 0 ds, p)) (fun z => e z.2.2.2)]
    · rw [if_neg d, if_pos i00, note8 hst.2, bd_s, stS_N (x := (setA 0 ds, p)) (fun z => d ⟨z.1, z.2.1, z.2.2.1⟩)]
/-- SPLITS from a place on -/
def pk (bs : List Nat) : Nat → Nat → List (Nat × Nat) × Nat × Bool
  | 0, p => ([], p, false)
  | r + 1, p => if isC bs p 59 = true then (if (rr bs 4 0 (p + 1)).length < 2 then ([], p + 1 + (rr bs 4 0 (p + 1)).length, true) else ((setA 0 (rr bs 4 0 (p + 1)), p + 1) :: (pk bs r (p + 1 + (rr bs 4 0 (p + 1)).length)).1, (pk bs r (p + 1 + (rr bs 4 0 (p + 1)).length)).2.1, (pk bs r (p + 1 + (rr bs 4 0 (p + 1)).length)).2.2)) else ([], p, false)
theorem pk_N {bs : List Nat} {r p : Nat} (h : ¬ isC bs p 59 = true) : pk bs r p = ([], p, false) := by
  cases r with
  | zero => rfl
  | succ r => exact if_neg h
theorem pk_W {bs : List Nat} {r p : Nat} (h : isC bs p 59 = true) (hd : (rr bs 4 0 (p + 1)).length < 2) : pk bs (r + 1) p = ([], p + 1 + (rr bs 4 0 (p + 1)).length, true) := by
  show (if isC bs p 59 = true then _ else _) = _
  rw [if_pos h, if_pos hd]
theorem pk_Y {bs : List Nat} {r p : Nat} (h : isC bs p 59 = true) (hd : ¬ (rr bs 4 0 (p + 1)).length < 2) : pk bs (r + 1) p = ((setA 0 (rr bs 4 0 (p + 1)), p + 1) :: (pk bs r (p + 1 + (rr bs 4 0 (p + 1)).length)).1, (pk bs r (p + 1 + (rr bs 4 0 (p + 1)).length)).2.1, (pk bs r (p + 1 + (rr bs 4 0 (p + 1)).length)).2.2) := by
  show (if isC bs p 59 = true then _ else _) = _
  rw [if_pos h, if_neg hd]
theorem pkk_le {bs : List Nat} : ∀ (r p : Nat), p ≤ bs.length → (pk bs r p).2.1 ≤ bs.length ∧ (pk bs r p).1.length ≤ r ∧ ∀ x ∈ (pk bs r p).1, x.1 < 1024 ∧ x.2 ≤ bs.length
  | 0, p, h => ⟨h, Nat.le_refl _, by simp [pk]⟩
  | r + 1, p, h => by
    by_cases c : isC bs p 59 = true
    · have hl := (isC_c c).1
      obtain ⟨l1, l2, l3⟩ := rr_le (bs := bs) 4 0 (p + 1) (by omega)
      by_cases d : (rr bs 4 0 (p + 1)).length < 2
      · rw [pk_W c d]; exact ⟨l2, Nat.zero_le _, by simp⟩
      · rw [pk_Y c d]
        obtain ⟨i1, i2, i3⟩ := pkk_le (bs := bs) r (p + 1 + (rr bs 4 0 (p + 1)).length) l2
        refine ⟨i1, by rw [List.length_cons]; omega, fun x hx => ?_⟩
        rcases List.mem_cons.mp hx with rfl | hx
        · exact ⟨setA_lt _ 0 (by omega) l3, by show p + 1 ≤ bs.length; omega⟩
        · exact i3 x hx
    · rw [pk_N c]; exact ⟨h, Nat.zero_le _, by simp⟩
theorem splits8 {bs : List Nat} {f : Nat → Int32} (h : TQ bs f) {L : Nat} (hL : L ≤ 9) : ∀ (r k p n : Nat) (st : List Nat × Option Nat), k + r = 3 → r < n → p ≤ bs.length → stV L st →
    ∃ (cb : Int32) (tr : Int64), wq4 (B_X4_readSplits_2 (Int32.ofNat bs.length) f (Int32.ofNat L) K_X4_readSplits_2_31) n (Int32.ofNat p) (cI st.2) (tr64 st.1) (Int32.ofNat k) = some (b01 (pk bs r p).2.2, Int32.ofNat (pk bs r p).2.1, cb, tr) ∧
      ((pk bs r p).2.2 = false → cb = cI ((pk bs r p).1.foldl (stS L) st).2 ∧ tr = tr64 ((pk bs r p).1.foldl (stS L) st).1) := by
  have h60 := h.2.1
  intro r
  induction r with
  | zero =>
    intro k p n st hk hn hp hst
    obtain ⟨n, rfl⟩ : ∃ k, n = k + 1 := ⟨n - 1, by omega⟩
    refine ⟨cI st.2, tr64 st.1, ?_, fun _ => ⟨rfl, rfl⟩⟩
    show B_X4_readSplits_2 (Int32.ofNat bs.length) f (Int32.ofNat L) K_X4_readSplits_2_31 (Int32.ofNat p) (cI st.2) (tr64 st.1) (Int32.ofNat k) (wq4 (B_X4_readSplits_2 (Int32.ofNat bs.length) f (Int32.ofNat L) K_X4_readSplits_2_31) n) = _
    unfold B_X4_readSplits_2
    have c3 : (3 : Int32) ≤ Int32.ofNat k := (n_le (a := 3) (by omega) (by omega)).mpr (by omega)
    rw [if_pos c3]; rfl
  | succ r ih =>
    intro k p n st hk hn hp hst
    obtain ⟨n, rfl⟩ : ∃ k, n = k + 1 := ⟨n - 1, by omega⟩
    have c3 : ¬ (3 : Int32) ≤ Int32.ofNat k := c_ge (m := 3) (by omega) (by omega) (by omega)
    have ek : Int32.ofNat k + (1 : Int32) = Int32.ofNat (k + 1) := n_add k 1
    have s8 := sign8 h (p := p) (c := 59) (by omega) (by omega)
    have st8 : ∀ X, B_X4_readSplits_2 (Int32.ofNat bs.length) f (Int32.ofNat L) K_X4_readSplits_2_31 (Int32.ofNat p) (cI st.2) (tr64 st.1) (Int32.ofNat k) (wq4 (B_X4_readSplits_2 (Int32.ofNat bs.length) f (Int32.ofNat L) K_X4_readSplits_2_31) n) = X → wq4 (B_X4_readSplits_2 (Int32.ofNat bs.length) f (Int32.ofNat L) K_X4_readSplits_2_31) (n + 1) (Int32.ofNat p) (cI st.2) (tr64 st.1) (Int32.ofNat k) = X := fun X hX => hX
    by_cases c : isC bs p 59 = true
    · have hl := (isC_c c).1
      obtain ⟨l1, l2, l3⟩ := rr_le (bs := bs) 4 0 (p + 1) (by omega)
      have s8' : F_X4_readSign (Int32.ofNat p) (Int32.ofNat bs.length) f (59 : Int32) = some ((1 : Int32), Int32.ofNat (p + 1)) := by rw [if_pos c] at s8; exact s8
      have rs := readSplit8 h (p := p + 1) (by omega) hL hst
      by_cases d : (rr bs 4 0 (p + 1)).length < 2
      · rw [if_pos d] at rs
        rw [pk_W c d]
        refine ⟨cI st.2, tr64 st.1, st8 _ ?_, fun z => by cases z⟩
        unfold B_X4_readSplits_2
        rw [if_neg c3, s8', bd_s]
        dsimp only
        rw [if_neg i10, rs, bd_s]
        dsimp only
        rw [if_pos i00]; rfl
      · rw [if_neg d] at rs
        rw [pk_Y c d]
        obtain ⟨cb, tr, e, hh⟩ := ih (k + 1) (p + 1 + (rr bs 4 0 (p + 1)).length) n (stS L st (setA 0 (rr bs 4 0 (p + 1)), p + 1)) (by omega) (by omega) l2 (stS_V hst (show p + 1 < 1000 by omega))
        refine ⟨cb, tr, st8 _ ?_, fun z => ?_⟩
        · generalize hW : wq4 (B_X4_readSplits_2 (Int32.ofNat bs.length) f (Int32.ofNat L) K_X4_readSplits_2_31) n = W at e ⊢
          unfold B_X4_readSplits_2
          rw [if_neg c3, s8', bd_s]
          dsimp only
          rw [if_neg i10, rs, bd_s]
          dsimp only
          rw [if_neg i10, ek]
          exact e
        · exact hh z
    · have s8' : F_X4_readSign (Int32.ofNat p) (Int32.ofNat bs.length) f (59 : Int32) = some ((0 : Int32), Int32.ofNat p) := by rw [if_neg c] at s8; exact s8
      rw [pk_N c]
      refine ⟨cI st.2, tr64 st.1, st8 _ ?_, fun _ => ⟨rfl, rfl⟩⟩
      unfold B_X4_readSplits_2
      rw [if_neg c3, s8', bd_s]
      dsimp only
      rw [if_pos i00]; rfl
/-- where the model ends a SPLIT: wrong or not -/
def wS (bs : List Nat) (j p : Nat) (ds : List Nat) : Bool := decide (j + ds.length < 2) || (decide (j + ds.length < 4) && isF bs (p + ds.length))
theorem run9 {bs : List Nat} {f : Nat → Int32} (h : TQ bs f) (kk : Int32 → Int32 → Int32 → Option ((Nat → Int32) × (Nat → Int32) × Int32 × Int32 × Int32)) : ∀ (r lo p s n j : Nat), j + r = 4 → r + 1 < n → p ≤ bs.length → lo < 100 →
    ∃ s' : Int32, wq5 (B_X9_splitHere_19 (Int32.ofNat bs.length) f kk) n (Int32.ofNat p) (0 : Int32) (Int32.ofNat s) (Int32.ofNat lo - (1 : Int32)) (Int32.ofNat j) = kk (Int32.ofNat (p + (rr bs r lo p).length)) (if wS bs j p (rr bs r lo p) = true then 1 else 0) s' ∧ (wS bs j p (rr bs r lo p) = false → s' = Int32.ofNat (setA s (rr bs r lo p))) := by
  have h60 := h.2.1
  have hex : ∀ (n : Nat) (p s l j : Int32), wq5 (B_X9_splitHere_19 (Int32.ofNat bs.length) f kk) (n + 1) p (1 : Int32) s l j = kk p (1 : Int32) s := fun n p s l j => by
    show B_X9_splitHere_19 (Int32.ofNat bs.length) f kk p (1 : Int32) s l j (wq5 (B_X9_splitHere_19 (Int32.ofNat bs.length) f kk) n) = _
    unfold B_X9_splitHere_19
    by_cases c : (4 : Int32) ≤ j
    · rw [if_pos c]
    · rw [if_neg c, if_neg i10]
  intro r
  induction r with
  | zero =>
    intro lo p s n j hj hn hp hlo
    obtain ⟨n, rfl⟩ : ∃ k, n = k + 1 := ⟨n - 1, by omega⟩
    have hw : wS bs j p (rr bs 0 lo p) = false := by
      unfold wS
      rw [decide_eq_false (by show ¬ j + 0 < 2; omega), decide_eq_false (by show ¬ j + 0 < 4; omega)]; rfl
    refine ⟨Int32.ofNat s, ?_, fun _ => rfl⟩
    rw [hw]
    show B_X9_splitHere_19 (Int32.ofNat bs.length) f kk (Int32.ofNat p) (0 : Int32) (Int32.ofNat s) (Int32.ofNat lo - (1 : Int32)) (Int32.ofNat j) (wq5 (B_X9_splitHere_19 (Int32.ofNat bs.length) f kk) n) = _
    unfold B_X9_splitHere_19
    have c4 : (4 : Int32) ≤ Int32.ofNat j := (n_le (a := 4) (by omega) (by omega)).mpr (by omega)
    rw [if_pos c4]; rfl
  | succ r ih =>
    intro lo p s n j hj hn hp hlo
    obtain ⟨n, rfl⟩ : ∃ k, n = k + 2 := ⟨n - 2, by omega⟩
    have c4 : ¬ (4 : Int32) ≤ Int32.ofNat j := c_ge (m := 4) (by omega) (by omega) (by omega)
    have cj1 : (Int32.ofNat j ≤ (1 : Int32)) ↔ j ≤ 1 := n_le (b := 1) (by omega) (by omega)
    have ejs : Int32.ofNat j + (1 : Int32) = Int32.ofNat (j + 1) := n_add j 1
    have st9 : ∀ X, B_X9_splitHere_19 (Int32.ofNat bs.length) f kk (Int32.ofNat p) (0 : Int32) (Int32.ofNat s) (Int32.ofNat lo - (1 : Int32)) (Int32.ofNat j) (wq5 (B_X9_splitHere_19 (Int32.ofNat bs.length) f kk) (n + 1)) = X → wq5 (B_X9_splitHere_19 (Int32.ofNat bs.length) f kk) (n + 2) (Int32.ofNat p) (0 : Int32) (Int32.ofNat s) (Int32.ofNat lo - (1 : Int32)) (Int32.ofNat j) = X := fun X hX => hX
    by_cases c : isF bs p = true
    · obtain ⟨a, b, e⟩ := isF_c c
      have toJ : ∀ ag, B_X9_splitHere_19 (Int32.ofNat bs.length) f kk (Int32.ofNat p) (0 : Int32) (Int32.ofNat s) (Int32.ofNat lo - (1 : Int32)) (Int32.ofNat j) ag = J_X9_splitHere_46 (Int32.ofNat bs.length) f (Int32.ofNat p) (0 : Int32) (Int32.ofNat s) (Int32.ofNat lo - (1 : Int32)) (Int32.ofNat j) ag := fun ag => by
        unfold B_X9_splitHere_19
        rw [if_neg c4, if_pos i00]
        by_cases d : Int32.ofNat j ≤ (1 : Int32)
        · rw [if_pos d]
        · rw [if_neg d, isFig9 h (by omega), bd_s, if_pos c, if_neg i10]
      by_cases d : lo ≤ fi bs p
      · obtain ⟨s', e1, e2⟩ := ih (fi bs p + 1) (p + 1) (s ||| 2 ^ fi bs p) (n + 1) (j + 1) (by omega) (by omega) (by omega) (by omega)
        have hw : wS bs (j + 1) (p + 1) (rr bs r (fi bs p + 1) (p + 1)) = wS bs j p (rr bs (r + 1) lo p) := by
          rw [rr_Y c d]
          unfold wS
          rw [List.length_cons, show j + 1 + (rr bs r (fi bs p + 1) (p + 1)).length = j + ((rr bs r (fi bs p + 1) (p + 1)).length + 1) by omega, show p + 1 + (rr bs r (fi bs p + 1) (p + 1)).length = p + ((rr bs r (fi bs p + 1) (p + 1)).length + 1) by omega]
        rw [hw] at e1 e2
        refine ⟨s', st9 _ ?_, fun z => ?_⟩
        · rw [toJ]
          unfold J_X9_splitHere_46 J_X9_splitHere_69
          have eh : bI bs p - (48 : Int32) = Int32.ofNat (fi bs p) := by rw [b]; exact n_sub48 _
          rw [isFig9 h (by omega), bd_s, if_pos c, if_neg i10, here9 h (by omega), bd_s, eh, if_pos ((lo_lt (by omega) (by omega)).mpr d), figY9 h c, bd_s]
          dsimp only
          rw [pow9 _ (by omega), n_or, lo_s (fi bs p), ejs, e1, rr_Y c d, List.length_cons, show p + 1 + (rr bs r (fi bs p + 1) (p + 1)).length = p + ((rr bs r (fi bs p + 1) (p + 1)).length + 1) by omega]
        · rw [e2 z, rr_Y c d]; rfl
      · have hr : rr bs (r + 1) lo p = [] := rr_N (fun z => d z.2)
        have hw : wS bs j p (rr bs (r + 1) lo p) = true := by
          rw [hr]
          unfold wS
          rw [show ([] : List Nat).length = 0 from rfl, Nat.add_zero, Nat.add_zero, c, decide_eq_true (show j < 4 by omega)]; simp
        refine ⟨Int32.ofNat s ||| ((1 : Int32) <<< ((0 : Int32) &&& 31)), st9 _ ?_, fun z => Bool.noConfusion (hw.symm.trans z)⟩
        rw [hw, hr, toJ]
        unfold J_X9_splitHere_46 J_X9_splitHere_69
        have eh : bI bs p - (48 : Int32) = Int32.ofNat (fi bs p) := by rw [b]; exact n_sub48 _
        rw [isFig9 h (by omega), bd_s, if_pos c, if_neg i10, here9 h (by omega), bd_s, eh, if_neg (fun z => d ((lo_lt (by omega) (by omega)).mp z)), figW9, bd_s]
        dsimp only
        rw [hex, if_pos rfl]; rfl
    · have hr : rr bs (r + 1) lo p = [] := rr_N (fun z => c z.1)
      rw [hr]
      by_cases d : j ≤ 1
      · have hw : wS bs j p [] = true := by
          unfold wS
          rw [show ([] : List Nat).length = 0 from rfl, Nat.add_zero, decide_eq_true (show j < 2 by omega)]; rfl
        refine ⟨Int32.ofNat s ||| ((1 : Int32) <<< ((0 : Int32) &&& 31)), st9 _ ?_, fun z => Bool.noConfusion (hw.symm.trans z)⟩
        rw [hw]
        unfold B_X9_splitHere_19 J_X9_splitHere_46 J_X9_splitHere_69
        rw [if_neg c4, if_pos i00, if_pos (cj1.mpr d), isFig9 h (by omega), bd_s, if_neg c, if_pos i00, figN9 h (by omega) c, bd_s]
        dsimp only
        have := hex n (Int32.ofNat p) (Int32.ofNat s ||| ((1 : Int32) <<< ((0 : Int32) &&& 31))) (0 : Int32) (Int32.ofNat j + (1 : Int32))
        unfold B_X9_splitHere_19 J_X9_splitHere_46 J_X9_splitHere_69 at this
        rw [this, if_pos rfl]; rfl
      · have hw : wS bs j p [] = false := by
          unfold wS
          rw [show ([] : List Nat).length = 0 from rfl, Nat.add_zero, Nat.add_zero, decide_eq_false (show ¬ j < 2 by omega), Bool.eq_false_iff.mpr c]; simp
        refine ⟨Int32.ofNat s, st9 _ ?_, fun _ => rfl⟩
        rw [hw]
        unfold B_X9_splitHere_19
        rw [if_neg c4, if_pos i00, if_neg (fun z => d (cj1.mp z)), isFig9 h (by omega), bd_s, if_neg c, if_pos i00]; rfl
