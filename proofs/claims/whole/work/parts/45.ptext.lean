/-! A whole text, as both read it. -/
theorem isF_not59 {bs : List Nat} {p : Nat} (h : isF bs p = true) : ¬ isC bs p 59 = true := fun z => by
  have e := (isC_c z).2
  unfold isF at h
  rw [e] at h
  exact absurd h (by decide)
theorem splitHere9 {bs : List Nat} {f : Nat → Int32} (h : TQ bs f) {p k : Nat} (hp : p ≤ bs.length) (hk : k < 3) (spl tt : Nat → Int32) :
    ∃ s' : Int32, F_X9_splitHere (Int32.ofNat bs.length) (Int32.ofNat p) (0 : Int32) (Int32.ofNat k) spl f tt = some (upd spl k (Int32.ofNat p), upd tt k s', Int32.ofNat (p + (rr bs 4 0 p).length), (if wS bs 0 p (rr bs 4 0 p) = true then 1 else 0), Int32.ofNat (k + 1)) ∧ (wS bs 0 p (rr bs 4 0 p) = false → s' = Int32.ofNat (setA 0 (rr bs 4 0 p))) := by
  have ek : Int32.ofNat k + (1 : Int32) = Int32.ofNat (k + 1) := n_add k 1
  have e0 : (-1 : Int32) = Int32.ofNat 0 - (1 : Int32) := by decide
  obtain ⟨s', e1, e2⟩ := run9 h (K_X9_splitHere_19_86 (Int32.ofNat p) (Int32.ofNat k) spl tt) 4 0 p 0 FU 0 (by omega) (by unfold FU; omega) hp (by omega)
  refine ⟨s', ?_, e2⟩
  unfold F_X9_splitHere
  rw [ck_n hk (by omega), e0]
  refine e1.trans ?_
  unfold K_X9_splitHere_19_86
  rw [ck_n hk (by omega), n_clamp (by omega), ek]
theorem spl9 {bs : List Nat} {f : Nat → Int32} (h : TQ bs f) (kk : (Nat → Int32) → (Nat → Int32) → Int32 → Int32 → Int32 → Option ((Nat → Int32) × (Nat → Int32) × (Nat → Int32) × (Nat → Int32) × Int32 × Int32 × Int32 × Int32 × Int32 × Int32 × Int32 × Int32)) :
    ∀ (r k p : Nat) (spl tt : Nat → Int32) (acc accp : List Nat) (n : Nat), k + r = 3 → r + 1 < n → p ≤ bs.length → acc.length = k → accp.length = k → rp tt acc → rp spl accp →
    ∃ (spl' tt' : Nat → Int32) (w' : Bool) (k' : Int32), wq5 (B_X9_form_146 (Int32.ofNat bs.length) f kk) n spl tt (Int32.ofNat p) (0 : Int32) (Int32.ofNat k) = kk spl' tt' (Int32.ofNat (pk bs r p).2.1) (if w' = true then 1 else 0) k' ∧
      (w' = true → (pk bs r p).2.2 = true ∨ (pk bs r p).2.1 < bs.length) ∧ (w' = false → (pk bs r p).2.2 = false ∧ k' = Int32.ofNat (k + (pk bs r p).1.length) ∧ rp tt' (acc ++ (pk bs r p).1.map (fun x => x.1)) ∧ rp spl' (accp ++ (pk bs r p).1.map (fun x => x.2))) := by
  have h60 := h.2.1
  intro r
  induction r with
  | zero =>
    intro k p spl tt acc accp n hk hn hp ha hap ht hs
    obtain ⟨n, rfl⟩ : ∃ m, n = m + 1 := ⟨n - 1, by omega⟩
    refine ⟨spl, tt, false, Int32.ofNat k, ?_, fun z => Bool.noConfusion z, fun _ => ⟨rfl, rfl, by simpa [pk] using ht, by simpa [pk] using hs⟩⟩
    show B_X9_form_146 (Int32.ofNat bs.length) f kk spl tt (Int32.ofNat p) (0 : Int32) (Int32.ofNat k) (wq5 (B_X9_form_146 (Int32.ofNat bs.length) f kk) n) = _
    unfold B_X9_form_146
    have c3 : (3 : Int32) ≤ Int32.ofNat k := (n_le (a := 3) (by omega) (by omega)).mpr (by omega)
    rw [if_pos i00, here9 h (by omega), bd_s, if_pos c3]
    by_cases d : bI bs p = (59 : Int32)
    · rw [if_pos d]; rfl
    · rw [if_neg d]; rfl
  | succ r ih =>
    intro k p spl tt acc accp n hk hn hp ha hap ht hs
    obtain ⟨n, rfl⟩ : ∃ m, n = m + 2 := ⟨n - 2, by omega⟩
    have c3 : ¬ (3 : Int32) ≤ Int32.ofNat k := c_ge (m := 3) (by omega) (by omega) (by omega)
    have st9 : ∀ X, B_X9_form_146 (Int32.ofNat bs.length) f kk spl tt (Int32.ofNat p) (0 : Int32) (Int32.ofNat k) (wq5 (B_X9_form_146 (Int32.ofNat bs.length) f kk) (n + 1)) = X → wq5 (B_X9_form_146 (Int32.ofNat bs.length) f kk) (n + 2) spl tt (Int32.ofNat p) (0 : Int32) (Int32.ofNat k) = X := fun X hX => hX
    have c59 : (bI bs p = (59 : Int32)) ↔ isC bs p 59 = true := bI_c (c := 59) h.2.2 (by omega)
    by_cases c : isC bs p 59 = true
    · have hl := (isC_c c).1
      obtain ⟨l1, l2, l3⟩ := rr_le (bs := bs) 4 0 (p + 1) (by omega)
      have ep : Int32.ofNat p + (1 : Int32) = Int32.ofNat (p + 1) := n_add p 1
      obtain ⟨s', e1, e2⟩ := splitHere9 h (p := p + 1) (k := k) (by omega) (by omega) spl tt
      by_cases w : wS bs 0 (p + 1) (rr bs 4 0 (p + 1)) = true
      · rw [if_pos w] at e1
        have hend : ∀ (a b : Nat → Int32) (q m : Int32), wq5 (B_X9_form_146 (Int32.ofNat bs.length) f kk) (n + 1) a b q (1 : Int32) m = kk a b q (1 : Int32) m := fun a b q m => by
          show B_X9_form_146 (Int32.ofNat bs.length) f kk a b q (1 : Int32) m (wq5 (B_X9_form_146 (Int32.ofNat bs.length) f kk) n) = _
          unfold B_X9_form_146
          rw [if_neg i10]
        have hq : (pk bs (r + 1) p).2.1 = p + 1 + (rr bs 4 0 (p + 1)).length ∧ ((pk bs (r + 1) p).2.2 = true ∨ (pk bs (r + 1) p).2.1 < bs.length) := by
          by_cases d : (rr bs 4 0 (p + 1)).length < 2
          · rw [pk_W c d]; exact ⟨rfl, Or.inl rfl⟩
          · have w2 := w
            unfold wS at w2
            rw [Nat.zero_add, decide_eq_false d, Bool.false_or, Bool.and_eq_true] at w2
            have hF := w2.2
            rw [pk_Y c d, pk_N (isF_not59 hF)]
            exact ⟨rfl, Or.inr (isF_c hF).1⟩
        refine ⟨upd spl k (Int32.ofNat (p + 1)), upd tt k s', true, Int32.ofNat (k + 1), st9 _ ?_, fun _ => hq.2, fun z => Bool.noConfusion z⟩
        generalize hW : wq5 (B_X9_form_146 (Int32.ofNat bs.length) f kk) (n + 1) = W at hend ⊢
        unfold B_X9_form_146
        rw [if_pos i00, here9 h (by omega), bd_s, if_pos (c59.mpr c), if_neg c3, ep, e1, bd_s]
        dsimp only
        rw [hend, hq.1]; rfl
      · rw [if_neg w] at e1
        have wf : wS bs 0 (p + 1) (rr bs 4 0 (p + 1)) = false := Bool.eq_false_iff.mpr w
        have e3 := e2 wf
        have d : ¬ (rr bs 4 0 (p + 1)).length < 2 := fun z => by
          apply w
          unfold wS
          rw [Nat.zero_add, decide_eq_true z]; rfl
        rw [pk_Y c d]
        obtain ⟨spl', tt', w', k', f1, f2, f3⟩ := ih (k + 1) (p + 1 + (rr bs 4 0 (p + 1)).length) (upd spl k (Int32.ofNat (p + 1))) (upd tt k s') (acc ++ [setA 0 (rr bs 4 0 (p + 1))]) (accp ++ [p + 1]) (n + 1) (by omega) (by omega) l2 (by simp [ha]) (by simp [hap]) (by rw [e3, ← ha]; exact rp_push ht _) (by rw [← hap]; exact rp_push hs _)
        refine ⟨spl', tt', w', k', st9 _ ?_, f2, fun z => ?_⟩
        · generalize hW : wq5 (B_X9_form_146 (Int32.ofNat bs.length) f kk) (n + 1) = W at f1 ⊢
          unfold B_X9_form_146
          rw [if_pos i00, here9 h (by omega), bd_s, if_pos (c59.mpr c), if_neg c3, ep, e1, bd_s]
          exact f1
        · obtain ⟨g1, g2, g3, g4⟩ := f3 z
          refine ⟨g1, ?_, by simpa using g3, by simpa using g4⟩
          rw [g2, List.length_cons]; congr 1; omega
    · rw [pk_N c]
      refine ⟨spl, tt, false, Int32.ofNat k, st9 _ ?_, fun z => Bool.noConfusion z, fun _ => ⟨rfl, rfl, by simpa using ht, by simpa using hs⟩⟩
      unfold B_X9_form_146
      rw [if_pos i00, here9 h (by omega), bd_s, if_neg (fun z => c (c59.mp z))]; rfl
def pMk (bs : List Nat) : List (Nat × Nat) × Nat × Bool := if isF bs 2 = true then pm bs 8 2 else ([], 2, false)
def pT (bs : List Nat) : Bool := isC bs (pMk bs).2.1 47
def pL (bs : List Nat) : Nat := fi bs ((pMk bs).2.1 + 1)
def pSl (bs : List Nat) : List (Nat × Nat) × Nat × Bool := pk bs 3 ((pMk bs).2.1 + 2)
def pBad (bs : List Nat) : Option Nat := if ¬ isF bs 0 = true then some 0 else if ¬ isC bs 1 58 = true then some 1 else if (pMk bs).2.2 = true then some (pMk bs).2.1 else if ¬ pT bs = true then (if (pMk bs).2.1 = bs.length then none else some (pMk bs).2.1) else if ¬ isF bs ((pMk bs).2.1 + 1) = true then some ((pMk bs).2.1 + 1) else if (pSl bs).2.2 = true ∨ ¬ (pSl bs).2.1 = bs.length then some (pSl bs).2.1 else none
def pC0 (bs : List Nat) : Option Nat := if fi bs 0 ≤ 2 then none else some 0
def pCM (bs : List Nat) : Option Nat := (pMk bs).1.foldl ntp (pC0 bs)
def pCL (bs : List Nat) : Option Nat := if 3 ≤ pL bs ∧ pL bs ≤ 6 then pCM bs else nt (pCM bs) ((pMk bs).2.1 + 1)
noncomputable def pSt (bs : List Nat) : List Nat × Option Nat := (pSl bs).1.foldl (stS (pL bs)) ([], pCL bs)
noncomputable def pCb (bs : List Nat) : Option Nat := if pT bs = true then (pSt bs).2 else pCM bs
theorem pMk_le {bs : List Nat} (h2 : 2 ≤ bs.length) : (pMk bs).2.1 ≤ bs.length ∧ (pMk bs).1.length ≤ 8 ∧ ∀ x ∈ (pMk bs).1, x.1 ≤ 99 ∧ x.2 < bs.length := by
  unfold pMk
  by_cases c : isF bs 2 = true
  · rw [if_pos c]; exact pm_le 8 2 h2
  · rw [if_neg c]; exact ⟨h2, Nat.zero_le _, by simp⟩
theorem pBad_le {bs : List Nat} {w : Nat} (h : pBad bs = some w) : w ≤ bs.length := by
  unfold pBad at h
  by_cases c0 : isF bs 0 = true
  · have l0 := (isF_c c0).1
    rw [if_neg (fun z => z c0)] at h
    by_cases c1 : isC bs 1 58 = true
    · have l1 := (isC_c c1).1
      obtain ⟨m1, m2, m3⟩ := pMk_le (bs := bs) (by omega)
      rw [if_neg (fun z => z c1)] at h
      by_cases c2 : (pMk bs).2.2 = true
      · rw [if_pos c2] at h; rw [← Option.some.inj h]; exact m1
      · rw [if_neg c2] at h
        by_cases c3 : pT bs = true
        · have l3 := (isC_c c3).1
          rw [if_neg (fun z => z c3)] at h
          by_cases c4 : isF bs ((pMk bs).2.1 + 1) = true
          · have l4 := (isF_c c4).1
            rw [if_neg (fun z => z c4)] at h
            by_cases c5 : (pSl bs).2.2 = true ∨ ¬ (pSl bs).2.1 = bs.length
            · rw [if_pos c5] at h; rw [← Option.some.inj h]
              exact (pkk_le 3 _ (by omega)).1
            · rw [if_neg c5] at h; exact absurd h (by simp)
          · rw [if_pos c4] at h; rw [← Option.some.inj h]; omega
        · rw [if_pos c3] at h
          by_cases c6 : (pMk bs).2.1 = bs.length
          · rw [if_pos c6] at h; exact absurd h (by simp)
          · rw [if_neg c6] at h; rw [← Option.some.inj h]; exact m1
    · rw [if_pos c1] at h; rw [← Option.some.inj h]; omega
  · rw [if_pos c0] at h; rw [← Option.some.inj h]; omega
theorem pC0_lt (bs : List Nat) : ∀ q, pC0 bs = some q → q < 1000 := fun q hq => by
  unfold pC0 at hq
  by_cases c : fi bs 0 ≤ 2
  · rw [if_pos c] at hq; exact absurd hq (by simp)
  · rw [if_neg c] at hq; rw [← Option.some.inj hq]; omega
theorem foldN_lt {B : Nat} : ∀ (l : List (Nat × Nat)) (cb : Option Nat), (∀ x ∈ l, x.2 < B) → (∀ q, cb = some q → q < B) → ∀ q, l.foldl ntp cb = some q → q < B
  | [], cb, _, hc => hc
  | x :: l, cb, hl, hc => foldN_lt l (ntp cb x) (fun y hy => hl y (List.mem_cons_of_mem _ hy)) (ntp_lt hc (hl x List.mem_cons_self))
theorem pCM_lt {bs : List Nat} (h2 : 2 ≤ bs.length) (h60 : bs.length ≤ 60) : ∀ q, pCM bs = some q → q < 1000 :=
  foldN_lt _ _ (fun x hx => by have := ((pMk_le h2).2.2 x hx).2; omega) (pC0_lt bs)
theorem genus8 {bs : List Nat} {f : Nat → Int32} (h : TQ bs f) (g0 : Int32) : F_X4_readGenus (0 : Int32) (-1 : Int32) (Int32.ofNat bs.length) f g0 = some (if isF bs 0 = true then ((1 : Int32), Int32.ofNat 1, cI (pC0 bs), Int32.ofNat (fi bs 0)) else ((0 : Int32), (0 : Int32), (-1 : Int32), g0)) := by
  have z0 : (0 : Int32) = Int32.ofNat 0 := rfl
  have e8 := isFig8 h (p := 0) (by omega)
  have e8' : F_X7_isFigure (Int32.ofNat bs.length) f (0 : Int32) = some (if isF bs 0 = true then 1 else 0) := e8
  unfold F_X4_readGenus
  rw [e8', bd_s]
  by_cases c : isF bs 0 = true
  · have e9 : F_X7_figureAt (Int32.ofNat bs.length) f (0 : Int32) = some (Int32.ofNat (fi bs 0)) := fig8 h c
    have l9 := (isF_c c).2.2
    have c2 : (Int32.ofNat (fi bs 0) ≤ (2 : Int32)) ↔ fi bs 0 ≤ 2 := n_le (b := 2) (by omega) (by omega)
    rw [if_pos c, if_neg i10, e9, bd_s, if_pos c]
    unfold pC0
    by_cases d : fi bs 0 ≤ 2
    · rw [if_pos (c2.mpr d), if_pos d]; rfl
    · rw [if_neg (fun z => d (c2.mp z)), if_neg d]; rfl
  · rw [if_neg c, if_pos i00, if_neg c]
theorem leaf8 {bs : List Nat} {f : Nat → Int32} (h : TQ bs f) {p : Nat} (hp : p ≤ bs.length) {cb : Option Nat} (hc : ∀ q, cb = some q → q < 1000) (l0 : Int32) (t0 : Int64) :
    F_X4_readLeafCount (Int32.ofNat p) (cI cb) (Int32.ofNat bs.length) f l0 t0 = some (if isF bs p = true then ((1 : Int32), Int32.ofNat (p + 1), cI (if 3 ≤ fi bs p ∧ fi bs p ≤ 6 then cb else nt cb p), Int32.ofNat (fi bs p), (0 : Int64)) else ((0 : Int32), Int32.ofNat p, cI cb, l0, t0)) := by
  have h60 := h.2.1
  have ep : Int32.ofNat p + (1 : Int32) = Int32.ofNat (p + 1) := n_add p 1
  unfold F_X4_readLeafCount
  rw [isFig8 h (by omega), bd_s]
  by_cases c : isF bs p = true
  · have l9 := (isF_c c).2.2
    have eL : F_X6_isLeafCount (Int32.ofNat (fi bs p)) = some (if 3 ≤ fi bs p ∧ fi bs p ≤ 6 then 1 else 0) := by
      have : ∀ L, L < 10 → F_X6_isLeafCount (Int32.ofNat L) = some (if 3 ≤ L ∧ L ≤ 6 then 1 else 0) := by decide
      exact this _ (by omega)
    rw [if_pos c, if_neg i10, fig8 h c, bd_s, eL, bd_s, if_pos c, ep]
    by_cases d : 3 ≤ fi bs p ∧ fi bs p ≤ 6
    · rw [if_pos d, if_neg i10, if_pos d]
    · rw [if_neg d, if_pos i00, note8 hc, bd_s, if_neg d]
  · rw [if_neg c, if_pos i00, if_neg c]
theorem pCL_lt {bs : List Nat} (h2 : 2 ≤ bs.length) (h60 : bs.length ≤ 60) : ∀ q, pCL bs = some q → q < 1000 := by
  unfold pCL
  by_cases c : 3 ≤ pL bs ∧ pL bs ≤ 6
  · rw [if_pos c]; exact pCM_lt h2 h60
  · rw [if_neg c]; exact nt_lt (pCM_lt h2 h60) (by have := (pMk_le h2).1; omega)
theorem st0_V {bs : List Nat} (h2 : 2 ≤ bs.length) (h60 : bs.length ≤ 60) : stV (pL bs) ([], pCL bs) := by
  refine ⟨?_, pCL_lt h2 h60⟩
  by_cases c : 3 ≤ pL bs ∧ pL bs ≤ 6
  · exact Or.inl ⟨c.1, c.2, rfl⟩
  · exact Or.inr ⟨c, rfl⟩
/-- what the class reads of a text -/
def TXT8 (bs : List Nat) (l0 : Int32) (t0 : Int64) (r : Option (Int32 × (Nat → Int32) × Int32 × Int32 × Int32 × Int32 × Int32 × Int64)) : Prop :=
  ∃ (ok : Int32) (pws : Nat → Int32) (pl cb tg tn tl : Int32) (tt : Int64), r = some (ok, pws, pl, cb, tg, tn, tl, tt) ∧ (∀ w, pBad bs = some w → ok = 0 ∧ pl = Int32.ofNat w) ∧
    (pBad bs = none → ok = 1 ∧ tg = Int32.ofNat (fi bs 0) ∧ rp pws ((pMk bs).1.map (fun x => x.1)) ∧ tn = Int32.ofNat (pMk bs).1.length ∧ cb = cI (pCb bs) ∧ (pT bs = true → tl = Int32.ofNat (pL bs) ∧ tt = tr64 (pSt bs).1) ∧ (¬ pT bs = true → tl = l0 ∧ tt = t0))
theorem tx_bad {bs : List Nat} {l0 : Int32} {t0 : Int64} {w : Nat} (hb : pBad bs = some w) {pws : Nat → Int32} {cb tg tn tl : Int32} {tt : Int64} {r : Option (Int32 × (Nat → Int32) × Int32 × Int32 × Int32 × Int32 × Int32 × Int64)} (h : r = some ((0 : Int32), pws, Int32.ofNat w, cb, tg, tn, tl, tt)) : TXT8 bs l0 t0 r :=
  ⟨_, _, _, _, _, _, _, _, h, fun v hv => ⟨rfl, by rw [hb] at hv; rw [Option.some.inj hv]⟩, fun z => by rw [hb] at z; exact absurd z (by simp)⟩
theorem marksT8 {bs : List Nat} {f : Nat → Int32} (h : TQ bs f) (h2 : 2 ≤ bs.length) (pws : Nat → Int32) : ∃ pws', rp pws' ((pMk bs).1.map (fun x => x.1)) ∧ F_X4_readMarks (Int32.ofNat 2) (cI (pC0 bs)) (Int32.ofNat bs.length) f pws = some (b01 (pMk bs).2.2, pws', Int32.ofNat (pMk bs).2.1, cI (pCM bs), Int32.ofNat (pMk bs).1.length) := by
  unfold F_X4_readMarks
  rw [isFig8 h (by omega), bd_s]
  by_cases c : isF bs 2 = true
  · obtain ⟨pws', r, e⟩ := marks8 h 8 0 2 pws (pC0 bs) [] FU (by omega) (by unfold FU; omega) h2 rfl (rp_nil _) (pC0_lt bs)
    have em : pMk bs = pm bs 8 2 := by unfold pMk; rw [if_pos c]
    have ec : pCM bs = (pm bs 8 2).1.foldl ntp (pC0 bs) := by unfold pCM; rw [em]
    rw [em, ec, if_pos c]
    refine ⟨pws', by simpa using r, ?_⟩
    rw [Nat.zero_add] at e
    exact e
  · have em : pMk bs = ([], 2, false) := by unfold pMk; rw [if_neg c]
    have ec : pCM bs = pC0 bs := by unfold pCM; rw [em]; rfl
    rw [em, ec, if_neg c]
    refine ⟨pws, rp_nil _, ?_⟩
    exact rm_exit (by unfold FU; omega)
theorem text8 {bs : List Nat} {f : Nat → Int32} (h : TQ bs f) (g0 n0 l0 : Int32) (t0 : Int64) (pws0 : Nat → Int32) : TXT8 bs l0 t0 (F_X4_readText (0 : Int32) (-1 : Int32) (Int32.ofNat bs.length) f g0 n0 l0 t0 pws0) := by
  have h60 := h.2.1
  unfold F_X4_readText
  rw [genus8 h, bd_s]
  by_cases c0 : isF bs 0 = true
  · have l0' := (isF_c c0).1
    rw [if_pos c0]
    dsimp only
    rw [if_neg i10]
    have s1 := sign8 h (p := 1) (c := 58) (by omega) (by omega)
    by_cases c1 : isC bs 1 58 = true
    · have l1 := (isC_c c1).1
      have s1' : F_X4_readSign (Int32.ofNat 1) (Int32.ofNat bs.length) f (58 : Int32) = some ((1 : Int32), Int32.ofNat 2) := by rw [if_pos c1] at s1; exact s1
      obtain ⟨pws', rm, em⟩ := marksT8 h (by omega) pws0
      obtain ⟨m1, m2, m3⟩ := pMk_le (bs := bs) (by omega)
      rw [s1', bd_s]
      dsimp only
      rw [if_neg i10, em, bd_s]
      dsimp only
      by_cases c2 : (pMk bs).2.2 = true
      · have e2 : b01 (pMk bs).2.2 = 0 := by unfold b01; rw [if_pos c2]
        rw [if_pos e2]
        refine tx_bad ?_ rfl
        unfold pBad
        rw [if_neg (fun z => z c0), if_neg (fun z => z c1), if_pos c2]
      · have e2 : b01 (pMk bs).2.2 = 1 := by unfold b01; rw [if_neg c2]
        rw [e2, if_neg i10]
        have s2 := sign8 h (p := (pMk bs).2.1) (c := 47) (by omega) (by omega)
        by_cases c3 : pT bs = true
        · have l3 := (isC_c c3).1
          have s2' : F_X4_readSign (Int32.ofNat (pMk bs).2.1) (Int32.ofNat bs.length) f (47 : Int32) = some ((1 : Int32), Int32.ofNat ((pMk bs).2.1 + 1)) := by
            have : isC bs (pMk bs).2.1 47 = true := c3
            rw [if_pos this] at s2; exact s2
          rw [s2', bd_s]
          dsimp only
          rw [if_neg i10, leaf8 h (by omega) (pCM_lt (by omega) h60), bd_s]
          by_cases c4 : isF bs ((pMk bs).2.1 + 1) = true
          · have l4 := (isF_c c4).1
            have l9 := (isF_c c4).2.2
            rw [if_pos c4]
            dsimp only
            rw [if_neg i10]
            obtain ⟨cb, tr, es, hh⟩ := splits8 h (L := pL bs) l9 3 0 ((pMk bs).2.1 + 2) FU ([], pCL bs) (by omega) (by unfold FU; omega) (by omega) (st0_V (by omega) h60)
            have es' : F_X4_readSplits (Int32.ofNat ((pMk bs).2.1 + 1 + 1)) (cI (if 3 ≤ fi bs ((pMk bs).2.1 + 1) ∧ fi bs ((pMk bs).2.1 + 1) ≤ 6 then pCM bs else nt (pCM bs) ((pMk bs).2.1 + 1))) (Int32.ofNat bs.length) f (Int32.ofNat (fi bs ((pMk bs).2.1 + 1))) (0 : Int64) = some (b01 (pSl bs).2.2, Int32.ofNat (pSl bs).2.1, cb, tr) := es
            rw [es', bd_s]
            dsimp only
            by_cases c5 : (pSl bs).2.2 = true
            · have e5 : b01 (pSl bs).2.2 = 0 := by unfold b01; rw [if_pos c5]
              rw [if_pos e5]
              refine tx_bad ?_ rfl
              unfold pBad
              rw [if_neg (fun z => z c0), if_neg (fun z => z c1), if_neg c2, if_neg (fun z => z c3), if_neg (fun z => z c4), if_pos (Or.inl c5)]
            · have e5 : b01 (pSl bs).2.2 = 1 := by unfold b01; rw [if_neg c5]
              obtain ⟨y1, y2⟩ := hh (Bool.eq_false_iff.mpr c5)
              have lq := (pkk_le (bs := bs) 3 ((pMk bs).2.1 + 2) (by omega)).1
              rw [e5, if_neg i10]
              unfold J_X4_readText_50
              dsimp only
              by_cases c6 : (pSl bs).2.1 = bs.length
              · have hb : pBad bs = none := by
                  unfold pBad
                  rw [if_neg (fun z => z c0), if_neg (fun z => z c1), if_neg c2, if_neg (fun z => z c3), if_neg (fun z => z c4), if_neg (fun z => z.elim c5 (fun y => y c6))]
                rw [if_pos (by rw [c6])]
                refine ⟨_, _, _, _, _, _, _, _, rfl, fun w hw => by rw [hb] at hw; exact absurd hw (by simp), fun _ => ⟨rfl, rfl, rm, rfl, ?_, fun _ => ⟨rfl, y2⟩, fun z => absurd c3 z⟩⟩
                rw [y1]; unfold pCb; rw [if_pos c3]; rfl
              · have c6' : ¬ Int32.ofNat (pSl bs).2.1 = Int32.ofNat bs.length := fun z => c6 ((n_inj (by have : (pSl bs).2.1 ≤ bs.length := lq; omega) (by omega)).mp z)
                rw [if_neg c6']
                refine tx_bad ?_ rfl
                unfold pBad
                rw [if_neg (fun z => z c0), if_neg (fun z => z c1), if_neg c2, if_neg (fun z => z c3), if_neg (fun z => z c4), if_pos (Or.inr c6)]
          · rw [if_neg c4]
            dsimp only
            rw [if_pos i00]
            refine tx_bad ?_ rfl
            unfold pBad
            rw [if_neg (fun z => z c0), if_neg (fun z => z c1), if_neg c2, if_neg (fun z => z c3), if_pos c4]
        · have s2' : F_X4_readSign (Int32.ofNat (pMk bs).2.1) (Int32.ofNat bs.length) f (47 : Int32) = some ((0 : Int32), Int32.ofNat (pMk bs).2.1) := by
            have : ¬ isC bs (pMk bs).2.1 47 = true := c3
            rw [if_neg this] at s2; exact s2
          rw [s2', bd_s]
          dsimp only
          rw [if_pos i00]
          unfold J_X4_readText_50
          dsimp only
          by_cases c6 : (pMk bs).2.1 = bs.length
          · have hb : pBad bs = none := by
              unfold pBad
              rw [if_neg (fun z => z c0), if_neg (fun z => z c1), if_neg c2, if_pos c3, if_pos c6]
            rw [if_pos (by rw [c6])]
            refine ⟨_, _, _, _, _, _, _, _, rfl, fun w hw => by rw [hb] at hw; exact absurd hw (by simp), fun _ => ⟨rfl, rfl, rm, rfl, ?_, fun z => absurd z c3, fun _ => ⟨rfl, rfl⟩⟩⟩
            unfold pCb; rw [if_neg c3]
          · rw [if_neg (fun z => c6 ((n_inj (by omega) (by omega)).mp z))]
            refine tx_bad ?_ rfl
            unfold pBad
            rw [if_neg (fun z => z c0), if_neg (fun z => z c1), if_neg c2, if_pos c3, if_neg c6]
    · have s1' : F_X4_readSign (Int32.ofNat 1) (Int32.ofNat bs.length) f (58 : Int32) = some ((0 : Int32), Int32.ofNat 1) := by rw [if_neg c1] at s1; exact s1
      rw [s1', bd_s]
      dsimp only
      rw [if_pos i00]
      refine tx_bad ?_ rfl
      unfold pBad
      rw [if_neg (fun z => z c0), if_pos c1]
  · rw [if_neg c0]
    dsimp only
    rw [if_pos i00]
    refine tx_bad (w := 0) ?_ rfl
    unfold pBad
    rw [if_pos c0]
