/-! A whole text, as the model reads it. -/
theorem b146 : B_X9_form_146x1 = B_X9_form_146 := rfl
/-- what the model reads of a text -/
def TXT9 (bs : List Nat) (r : Option ((Nat → Int32) × (Nat → Int32) × (Nat → Int32) × (Nat → Int32) × Int32 × Int32 × Int32 × Int32 × Int32 × Int32 × Int32 × Int32)) : Prop :=
  ∃ (pp tp spl tt : Nat → Int32) (pl w g n isT L lp k : Int32), r = some (pp, tp, spl, tt, pl, w, g, n, isT, L, lp, k) ∧ (∀ v, pBad bs = some v → w = 1 ∧ pl = Int32.ofNat v) ∧
    (pBad bs = none → w = 0 ∧ g = Int32.ofNat (fi bs 0) ∧ rp tp ((pMk bs).1.map (fun x => x.1)) ∧ rp pp ((pMk bs).1.map (fun x => x.2)) ∧ n = Int32.ofNat (pMk bs).1.length ∧
      (pT bs = true → isT = 1 ∧ L = Int32.ofNat (pL bs) ∧ lp = Int32.ofNat ((pMk bs).2.1 + 1) ∧ rp tt ((pSl bs).1.map (fun x => x.1)) ∧ rp spl ((pSl bs).1.map (fun x => x.2)) ∧ k = Int32.ofNat (pSl bs).1.length) ∧ (¬ pT bs = true → isT = 0))
theorem fx_bad {bs : List Nat} {v : Nat} (hb : pBad bs = some v) {pp tp spl tt : Nat → Int32} {g n isT L lp k : Int32} {r : Option ((Nat → Int32) × (Nat → Int32) × (Nat → Int32) × (Nat → Int32) × Int32 × Int32 × Int32 × Int32 × Int32 × Int32 × Int32 × Int32)} (h : r = some (pp, tp, spl, tt, Int32.ofNat v, (1 : Int32), g, n, isT, L, lp, k)) : TXT9 bs r :=
  ⟨_, _, _, _, _, _, _, _, _, _, _, _, h, fun u hu => ⟨rfl, by rw [hb] at hu; rw [Option.some.inj hu]⟩, fun z => by rw [hb] at z; exact absurd z (by simp)⟩
/-- behind MARKS -/
theorem tail9 {bs : List Nat} {f : Nat → Int32} (h : TQ bs f) (c0 : isF bs 0 = true) (c1 : isC bs 1 58 = true) (tl0 lp0 : Int32) (spl0 tt0 pp tp : Nat → Int32) (x1 : Int32 × Int32 × Int32) (hx1 : x1.1 = Int32.ofNat (fi bs 0)) (m' : Int32)
    (hm : (pMk bs).2.2 = false → m' = Int32.ofNat (pMk bs).1.length ∧ rp tp ((pMk bs).1.map (fun x => x.1)) ∧ rp pp ((pMk bs).1.map (fun x => x.2))) :
    TXT9 bs (K_X9_form_57_99 (Int32.ofNat bs.length) tl0 lp0 f spl0 tt0 x1 pp tp (Int32.ofNat (pMk bs).2.1) (if (pMk bs).2.2 = true then 1 else 0) m') := by
  have h60 := h.2.1
  have l1 := (isC_c c1).1
  obtain ⟨m1, m2, m3⟩ := pMk_le (bs := bs) (by omega)
  unfold K_X9_form_57_99
  by_cases c2 : (pMk bs).2.2 = true
  · rw [if_pos c2, if_neg i10]
    unfold J_X9_form_187x1
    rw [if_neg i10]
    refine fx_bad (v := (pMk bs).2.1) ?_ rfl
    unfold pBad
    rw [if_neg (fun z => z c0), if_neg (fun z => z c1), if_pos c2]
  · obtain ⟨rfl, rt, rpp⟩ := hm (Bool.eq_false_iff.mpr c2)
    have c47 : (bI bs (pMk bs).2.1 = (47 : Int32)) ↔ isC bs (pMk bs).2.1 47 = true := bI_c (c := 47) h.2.2 (by omega)
    rw [if_neg c2, if_pos i00, here9 h (by omega), bd_s]
    by_cases c3 : pT bs = true
    · have l3 := (isC_c c3).1
      have ep : Int32.ofNat (pMk bs).2.1 + (1 : Int32) = Int32.ofNat ((pMk bs).2.1 + 1) := n_add _ 1
      rw [if_pos (c47.mpr c3), ep]
      by_cases c4 : isF bs ((pMk bs).2.1 + 1) = true
      · have l4 := (isF_c c4).1
        rw [figY9 h c4, bd_s]
        dsimp only
        obtain ⟨spl', tt', w', k', e1, e2, e3⟩ := spl9 h (K_X9_form_146_187x1 (Int32.ofNat bs.length) x1 pp tp (Int32.ofNat (pMk bs).2.1) (Int32.ofNat (pMk bs).1.length) (Int32.ofNat (fi bs ((pMk bs).2.1 + 1)), Int32.ofNat ((pMk bs).2.1 + 1 + 1), (0 : Int32))) 3 0 ((pMk bs).2.1 + 2) spl0 tt0 [] [] FU (by omega) (by unfold FU; omega) (by omega) rfl rfl (rp_nil _) (rp_nil _)
        have lq := (pkk_le (bs := bs) 3 ((pMk bs).2.1 + 2) (by omega)).1
        have e1' : wq5 (B_X9_form_146x1 (Int32.ofNat bs.length) f (K_X9_form_146_187x1 (Int32.ofNat bs.length) x1 pp tp (Int32.ofNat (pMk bs).2.1) (Int32.ofNat (pMk bs).1.length) (Int32.ofNat (fi bs ((pMk bs).2.1 + 1)), Int32.ofNat ((pMk bs).2.1 + 1 + 1), (0 : Int32)))) FU spl0 tt0 (Int32.ofNat ((pMk bs).2.1 + 1 + 1)) (0 : Int32) (0 : Int32) = _ := e1
        rw [e1']
        unfold K_X9_form_146_187x1
        have hL : (Int32.ofNat bs.length ≤ Int32.ofNat (pk bs 3 ((pMk bs).2.1 + 2)).2.1) ↔ bs.length ≤ (pk bs 3 ((pMk bs).2.1 + 2)).2.1 := n_le (by omega) (by omega)
        have hbad : (pSl bs).2.2 = true ∨ ¬ (pSl bs).2.1 = bs.length → pBad bs = some (pSl bs).2.1 := fun z => by
          unfold pBad
          rw [if_neg (fun z => z c0), if_neg (fun z => z c1), if_neg c2, if_neg (fun z => z c3), if_neg (fun z => z c4), if_pos z]
        cases w' with
        | true =>
          rw [if_pos rfl, if_neg i10]
          refine fx_bad (hbad ?_) rfl
          rcases e2 rfl with z | z
          · exact Or.inl z
          · exact Or.inr (fun y => by have : (pk bs 3 ((pMk bs).2.1 + 2)).2.1 = bs.length := y; omega)
        | false =>
          obtain ⟨g1, g2, g3, g4⟩ := e3 rfl
          have z0 : (if (false : Bool) = true then (1 : Int32) else 0) = 0 := rfl
          rw [if_pos z0]
          by_cases c6 : (pSl bs).2.1 = bs.length
          · have hb : pBad bs = none := by
              unfold pBad
              rw [if_neg (fun z => z c0), if_neg (fun z => z c1), if_neg c2, if_neg (fun z => z c3), if_neg (fun z => z c4), if_neg (fun z => z.elim (fun y => by have y2 : (pk bs 3 ((pMk bs).2.1 + 2)).2.2 = true := y; rw [g1] at y2; exact Bool.noConfusion y2) (fun y => y c6))]
            rw [if_pos (hL.mpr (by have : (pk bs 3 ((pMk bs).2.1 + 2)).2.1 = bs.length := c6; omega))]
            refine ⟨_, _, _, _, _, _, _, _, _, _, _, _, rfl, fun v hv => by rw [hb] at hv; exact absurd hv (by simp), fun _ => ⟨rfl, hx1, rt, rpp, rfl, fun _ => ⟨rfl, rfl, ep, g3, g4, ?_⟩, fun z => absurd c3 z⟩⟩
            rw [g2, Nat.zero_add]; rfl
          · rw [if_neg (fun z => c6 (by have z1 := hL.mp z; show (pk bs 3 ((pMk bs).2.1 + 2)).2.1 = bs.length; omega))]
            exact fx_bad (hbad (Or.inr c6)) rfl
      · rw [figN9 h (by omega) c4, bd_s]
        dsimp only
        have e1 : ∀ kk, wq5 (B_X9_form_146x1 (Int32.ofNat bs.length) f kk) FU spl0 tt0 (Int32.ofNat ((pMk bs).2.1 + 1)) (1 : Int32) (0 : Int32) = kk spl0 tt0 (Int32.ofNat ((pMk bs).2.1 + 1)) (1 : Int32) (0 : Int32) := fun kk => by
          show B_X9_form_146x1 (Int32.ofNat bs.length) f kk spl0 tt0 (Int32.ofNat ((pMk bs).2.1 + 1)) (1 : Int32) (0 : Int32) _ = _
          unfold B_X9_form_146x1
          rw [if_neg i10]
        rw [e1]
        unfold K_X9_form_146_187x1
        rw [if_neg i10]
        refine fx_bad ?_ rfl
        unfold pBad
        rw [if_neg (fun z => z c0), if_neg (fun z => z c1), if_neg c2, if_neg (fun z => z c3), if_pos c4]
    · rw [if_neg (fun z => c3 (c47.mp z))]
      unfold J_X9_form_187x1
      rw [if_pos i00]
      have hL : (Int32.ofNat bs.length ≤ Int32.ofNat (pMk bs).2.1) ↔ bs.length ≤ (pMk bs).2.1 := n_le (by omega) (by omega)
      by_cases c6 : (pMk bs).2.1 = bs.length
      · have hb : pBad bs = none := by
          unfold pBad
          rw [if_neg (fun z => z c0), if_neg (fun z => z c1), if_neg c2, if_pos c3, if_pos c6]
        rw [if_pos (hL.mpr (by omega))]
        exact ⟨_, _, _, _, _, _, _, _, _, _, _, _, rfl, fun v hv => by rw [hb] at hv; exact absurd hv (by simp), fun _ => ⟨rfl, hx1, rt, rpp, rfl, fun z => absurd z c3, fun _ => rfl⟩⟩
      · rw [if_neg (fun z => c6 (by have := hL.mp z; omega))]
        refine fx_bad ?_ rfl
        unfold pBad
        rw [if_neg (fun z => z c0), if_neg (fun z => z c1), if_neg c2, if_pos c3, if_neg c6]
theorem j99 (n tl0 lp0 : Int32) (f pp tp spl0 tt0 : Nat → Int32) (x1 : Int32 × Int32 × Int32) (x2 : Int32 × Int32) : J_X9_form_99 n tl0 lp0 f pp tp spl0 tt0 x1 x2 = K_X9_form_57_99 n tl0 lp0 f spl0 tt0 x1 pp tp x2.1 x2.2 (0 : Int32) := rfl
theorem form9 {bs : List Nat} {f : Nat → Int32} (h : TQ bs f) (tl0 lp0 : Int32) (pp0 tp0 spl0 tt0 : Nat → Int32) : TXT9 bs (F_X9_form (Int32.ofNat bs.length) tl0 lp0 f pp0 tp0 spl0 tt0) := by
  have h60 := h.2.1
  unfold F_X9_form
  by_cases c0 : isF bs 0 = true
  · have l0 := (isF_c c0).1
    have e0 : F_X9_figure (Int32.ofNat bs.length) (0 : Int32) (0 : Int32) f = some (Int32.ofNat (fi bs 0), Int32.ofNat 1, (0 : Int32)) := figY9 h c0
    rw [e0, bd_s]
    dsimp only
    have c58 : (bI bs 1 = (58 : Int32)) ↔ isC bs 1 58 = true := bI_c (c := 58) h.2.2 (by omega)
    unfold F_X9_must
    rw [if_pos i00, here9 h (by omega), bd_s]
    by_cases c1 : isC bs 1 58 = true
    · have l1 := (isC_c c1).1
      have e2 : Int32.ofNat 1 + (1 : Int32) = Int32.ofNat 2 := n_add 1 1
      rw [if_pos (c58.mpr c1), bd_s, e2]
      dsimp only
      rw [if_pos i00, isFig9 h (by omega), bd_s]
      by_cases c : isF bs 2 = true
      · have em : pMk bs = pm bs 8 2 := by unfold pMk; rw [if_pos c]
        obtain ⟨pp', tp', m', e, hh⟩ := marks9 h (R := Nat) (K_X9_form_57_99 (Int32.ofNat bs.length) tl0 lp0 f spl0 tt0 (Int32.ofNat (fi bs 0), Int32.ofNat 1, (0 : Int32))) 7 0 2 pp0 tp0 [] [] FU (by omega) (by unfold FU; omega) (by omega) rfl rfl (rp_nil _) (rp_nil _)
        rw [if_pos c, if_neg i10]
        have e' : bd (F_X9_markHere (Int32.ofNat bs.length) (Int32.ofNat 2) (0 : Int32) (0 : Int32) pp0 f tp0) (fun x => wq5 (B_X9_form_57 (Int32.ofNat bs.length) f (K_X9_form_57_99 (Int32.ofNat bs.length) tl0 lp0 f spl0 tt0 (Int32.ofNat (fi bs 0), Int32.ofNat 1, (0 : Int32)))) FU (x.1) (x.2.1) (x.2.2.1) (x.2.2.2.1) (x.2.2.2.2)) = _ := e
        rw [e', ← em]
        rw [← em] at hh
        exact tail9 h c0 c1 tl0 lp0 spl0 tt0 pp' tp' (Int32.ofNat (fi bs 0), Int32.ofNat 1, (0 : Int32)) rfl m' (fun z => by
          obtain ⟨a, b, c⟩ := hh z
          rw [Nat.zero_add] at a
          exact ⟨a, by simpa using b, by simpa using c⟩)
      · have em : pMk bs = ([], 2, false) := by unfold pMk; rw [if_neg c]
        rw [if_neg c, if_pos i00, j99]
        have := tail9 h c0 c1 tl0 lp0 spl0 tt0 pp0 tp0 (Int32.ofNat (fi bs 0), Int32.ofNat 1, (0 : Int32)) rfl (0 : Int32) (fun _ => by rw [em]; exact ⟨rfl, rp_nil _, rp_nil _⟩)
        rw [em] at this
        exact this
    · unfold J_X9_must_16
      have e0 : Int32.ofNat 1 + (0 : Int32) = Int32.ofNat 1 := n_add 1 0
      rw [if_neg (fun z => c1 (c58.mp z)), bd_s]
      dsimp only
      rw [if_neg i10, j99]
      unfold K_X9_form_57_99 J_X9_form_187x1
      dsimp only
      rw [if_neg i10, if_neg i10, e0]
      refine fx_bad ?_ rfl
      unfold pBad
      rw [if_neg (fun z => z c0), if_pos c1]
  · have e0 : F_X9_figure (Int32.ofNat bs.length) (0 : Int32) (0 : Int32) f = some ((0 : Int32), Int32.ofNat 0, (1 : Int32)) := figN9 h (p := 0) (by omega) c0
    rw [e0, bd_s]
    dsimp only
    unfold F_X9_must J_X9_must_16
    have e1 : Int32.ofNat 0 + (0 : Int32) = Int32.ofNat 0 := n_add 0 0
    rw [if_neg i10, bd_s]
    dsimp only
    rw [if_neg i10, j99]
    unfold K_X9_form_57_99 J_X9_form_187x1
    dsimp only
    rw [if_neg i10, if_neg i10, e1]
    refine fx_bad ?_ rfl
    unfold pBad
    rw [if_pos c0]
/-! Figures that tell what cannot be. -/
theorem foldN_some : ∀ (l : List (Nat × Nat)) (q : Nat), l.foldl ntp (some q) = some q
  | [], q => rfl
  | x :: l, q => by
    have : ntp (some q) x = some q := by unfold ntp; by_cases c : x.1 ≤ 12 <;> simp [c, nt]
    rw [List.foldl_cons, this]; exact foldN_some l q
theorem foldS_some {L : Nat} : ∀ (l : List (Nat × Nat)) (acc : List Nat) (q : Nat), (l.foldl (stS L) (acc, some q)).2 = some q
  | [], _, q => rfl
  | x :: l, acc, q => by
    rw [List.foldl_cons]
    by_cases c : okS L acc x.1
    · rw [stS_Y (st := (acc, some q)) c]; exact foldS_some l _ q
    · rw [stS_N (st := (acc, some q)) c]; exact foldS_some l _ q
theorem map_at {α : Type} (f : α → Nat) (a r : List α) (x : α) : ((a ++ x :: r).map f)[a.length]? = some (f x) := by simp
theorem wfM {l : List (Nat × Nat)} (hl : l.length ≤ 8) (h99 : ∀ x ∈ l, x.1 ≤ 99) {tp pp : Nat → Int32} (ht : rp tp (l.map (fun x => x.1))) (hp : rp pp (l.map (fun x => x.2))) (kk : Option Int32) : ∀ (r a : List (Nat × Nat)) (n : Nat), l = a ++ r → r.length < n →
    wq1 (B_X9_wrongFigures_12 (Int32.ofNat l.length) tp pp kk) n (Int32.ofNat a.length) = match r.foldl ntp none with | none => kk | some w => some (Int32.ofNat w)
  | [], a, n, e, hn => by
    obtain ⟨n, rfl⟩ : ∃ m, n = m + 1 := ⟨n - 1, by simp at hn; omega⟩
    have e2 : l = a := by simpa using e
    show B_X9_wrongFigures_12 (Int32.ofNat l.length) tp pp kk (Int32.ofNat a.length) (wq1 (B_X9_wrongFigures_12 (Int32.ofNat l.length) tp pp kk) n) = kk
    unfold B_X9_wrongFigures_12
    rw [e2, if_pos ((n_le (by rw [← e2]; omega) (by rw [← e2]; omega)).mpr (Nat.le_refl _))]
  | x :: r, a, n, e, hn => by
    obtain ⟨n, rfl⟩ : ∃ m, n = m + 1 := ⟨n - 1, by simp at hn; omega⟩
    have hla : a.length < l.length := by rw [e]; simp
    have gx : tp a.length = Int32.ofNat x.1 := ht _ _ (by rw [e]; exact map_at _ a r x)
    have gp : pp a.length = Int32.ofNat x.2 := hp _ _ (by rw [e]; exact map_at _ a r x)
    have hx := h99 x (by rw [e]; simp)
    have c12 : (Int32.ofNat x.1 ≤ (12 : Int32)) ↔ x.1 ≤ 12 := n_le (b := 12) (by omega) (by omega)
    have ea : Int32.ofNat a.length + (1 : Int32) = Int32.ofNat (a ++ [x]).length := by rw [List.length_append, List.length_singleton]; exact n_add _ 1
    have ih := wfM hl h99 ht hp kk r (a ++ [x]) n (by rw [e]; simp) (by simp at hn; omega)
    show B_X9_wrongFigures_12 (Int32.ofNat l.length) tp pp kk (Int32.ofNat a.length) (wq1 (B_X9_wrongFigures_12 (Int32.ofNat l.length) tp pp kk) n) = _
    generalize hW : wq1 (B_X9_wrongFigures_12 (Int32.ofNat l.length) tp pp kk) n = W at ih ⊢
    unfold B_X9_wrongFigures_12
    rw [if_neg (c_ge (by omega) (by omega) hla), ck_n (by omega) (by omega), n_clamp (by omega), gx, List.foldl_cons]
    by_cases c : x.1 ≤ 12
    · have : ntp none x = none := by unfold ntp; rw [if_pos c]
      rw [if_pos (c12.mpr c), ea, ih, this]
    · have : ntp none x = some x.2 := by unfold ntp; rw [if_neg c]; rfl
      rw [if_neg (fun z => c (c12.mp z)), ck_n (by omega) (by omega), gp, this, foldN_some]
theorem wfS {L : Nat} (h3 : 3 ≤ L) (h6 : L ≤ 6) {l : List (Nat × Nat)} (hl : l.length ≤ 3) (h1024 : ∀ x ∈ l, x.1 < 1024) {tt spl : Nat → Int32} (ht : rp tt (l.map (fun x => x.1))) (hp : rp spl (l.map (fun x => x.2))) : ∀ (r a : List (Nat × Nat)) (acc : List Nat) (n : Nat), l = a ++ r → r.length < n → (∀ t, t ∈ acc ↔ t ∈ a.map (fun x => x.1)) →
    wq1 (B_X9_wrongFigures_78 (Int32.ofNat L) (Int32.ofNat l.length) tt spl K_X9_wrongFigures_78_168) n (Int32.ofNat a.length) = match (r.foldl (stS L) (acc, none)).2 with | none => some (-2 : Int32) | some w => some (Int32.ofNat w)
  | [], a, acc, n, e, hn, hacc => by
    obtain ⟨n, rfl⟩ : ∃ m, n = m + 1 := ⟨n - 1, by simp at hn; omega⟩
    have e2 : l = a := by simpa using e
    show B_X9_wrongFigures_78 (Int32.ofNat L) (Int32.ofNat l.length) tt spl K_X9_wrongFigures_78_168 (Int32.ofNat a.length) (wq1 (B_X9_wrongFigures_78 (Int32.ofNat L) (Int32.ofNat l.length) tt spl K_X9_wrongFigures_78_168) n) = some (-2 : Int32)
    unfold B_X9_wrongFigures_78
    rw [e2, if_pos ((n_le (by rw [← e2]; omega) (by rw [← e2]; omega)).mpr (Nat.le_refl _))]; rfl
  | x :: r, a, acc, n, e, hn, hacc => by
    obtain ⟨n, rfl⟩ : ∃ m, n = m + 1 := ⟨n - 1, by simp at hn; omega⟩
    have hla : a.length < l.length := by rw [e]; simp
    have gx : tt a.length = Int32.ofNat x.1 := ht _ _ (by rw [e]; exact map_at _ a r x)
    have gp : spl a.length = Int32.ofNat x.2 := hp _ _ (by rw [e]; exact map_at _ a r x)
    have hx := h1024 x (by rw [e]; simp)
    have ea : Int32.ofNat a.length + (1 : Int32) = Int32.ofNat (a ++ [x]).length := by rw [List.length_append, List.length_singleton]; exact n_add _ 1
    have ih := fun acc hacc => wfS h3 h6 hl h1024 ht hp r (a ++ [x]) acc n (by rw [e]; simp) (by simp at hn; omega) hacc
    show B_X9_wrongFigures_78 (Int32.ofNat L) (Int32.ofNat l.length) tt spl K_X9_wrongFigures_78_168 (Int32.ofNat a.length) (wq1 (B_X9_wrongFigures_78 (Int32.ofNat L) (Int32.ofNat l.length) tt spl K_X9_wrongFigures_78_168) n) = _
    generalize hW : wq1 (B_X9_wrongFigures_78 (Int32.ofNat L) (Int32.ofNat l.length) tt spl K_X9_wrongFigures_78_168) n = W at ih ⊢
    unfold B_X9_wrongFigures_78
    rw [if_neg (c_ge (by omega) (by omega) hla), ck_n (by omega) (by omega), n_clamp (by omega), gx, isS9 h3 h6 (by omega), bd_s, List.foldl_cons]
    by_cases c : isSp L x.1 = true
    · rw [if_pos c, if_neg i10]
      have gt : ∀ j, j < a.length → tt j = Int32.ofNat ((a.map (fun x => x.1)).getD j 0) ∧ (a.map (fun x => x.1)).getD j 0 ∈ a.map (fun x => x.1) ∧ (a.map (fun x => x.1)).getD j 0 < 1024 := fun j hj => by
        have hj2 : j < (a.map (fun x => x.1)).length := by rw [List.length_map]; exact hj
        have hm : (a.map (fun x => x.1)).getD j 0 ∈ a.map (fun x => x.1) := getD_mem hj2
        refine ⟨ht _ _ ?_, hm, ?_⟩
        · rw [e, List.map_append, List.getElem?_append_left hj2, List.getD_eq_getElem?_getD, List.getElem?_eq_getElem hj2]; rfl
        · obtain ⟨y, hy, hy2⟩ := List.mem_map.mp hm
          rw [← hy2]; exact h1024 y (by rw [e]; exact List.mem_append_left _ hy)
      obtain ⟨m, m1, m2, m3⟩ := stop3 (fun j => j < a.length ∧ ¬ (a.map (fun x => x.1)).getD j 0 = x.1 ∧ goT ((a.map (fun x => x.1)).getD j 0) x.1 = true) a.length (fun z => absurd z.1 (by omega))
      have hfit : fit acc x.1 = true ↔ m = a.length := by
        rw [fit_m]
        constructor
        · intro hf
          by_cases q : m = a.length
          · exact q
          · exact absurd ⟨by omega, hf _ ((hacc _).mpr (gt m (by omega)).2.1)⟩ m3
        · intro hm t ht2
          obtain ⟨j, hj, hj2⟩ := List.getElem_of_mem ((hacc t).mp ht2)
          rw [List.length_map] at hj
          have := (m2 j (by omega)).2
          rw [getD_el (by rw [List.length_map]; exact hj), hj2] at this
          exact this
      have loop : wq1 (B_X9_wrongFigures_111 tt spl (Int32.ofNat a.length) (K_X9_wrongFigures_111_162 (Int32.ofNat a.length) W)) FU (0 : Int32) = if m = a.length then W (Int32.ofNat (a ++ [x]).length) else some (Int32.ofNat x.2) := by
        refine wq1_it m (fun j => Int32.ofNat j) (fun j hj ag => ?_) (fun ag => ?_) FU (by unfold FU; omega)
        · obtain ⟨b1, b2, b3⟩ := m2 j hj
          obtain ⟨g1, g2, g3⟩ := gt j b1
          unfold B_X9_wrongFigures_111
          have ej : Int32.ofNat j + (1 : Int32) = Int32.ofNat (j + 1) := n_add j 1
          rw [if_neg (c_ge (by omega) (by omega) b1), ck_n (by omega) (by omega), ck_n (by omega) (by omega), n_clamp (by omega), n_clamp (by omega), g1, gx, if_neg (fun z => b2 ((n_inj (by omega) (by omega)).mp z)), ck_n (by omega) (by omega), ck_n (by omega) (by omega), goT9 (by omega) (by omega), if_pos b3, bd_s, if_neg i10, ej]
        · unfold B_X9_wrongFigures_111
          by_cases q : m = a.length
          · rw [if_pos ((n_le (by omega) (by omega)).mpr (by omega)), if_pos q]
            unfold K_X9_wrongFigures_111_162
            rw [ea]
          · obtain ⟨g1, g2, g3⟩ := gt m (by omega)
            rw [if_neg (c_ge (by omega) (by omega) (by omega)), ck_n (by omega) (by omega), ck_n (by omega) (by omega), n_clamp (by omega), n_clamp (by omega), g1, gx, ck_n (by omega) (by omega), ck_n (by omega) (by omega), ck_n (by omega) (by omega), gp, goT9 (by omega) (by omega), if_neg q]
            by_cases y : (a.map (fun x => x.1)).getD m 0 = x.1
            · rw [if_pos (by rw [y])]
            · have y2 : ¬ goT ((a.map (fun x => x.1)).getD m 0) x.1 = true := fun z => m3 ⟨by omega, y, z⟩
              rw [if_neg (fun z => y ((n_inj (by omega) (by omega)).mp z)), if_neg y2, bd_s, if_pos i00]
      rw [loop]
      by_cases q : m = a.length
      · have hok : okS L ((acc, none) : List Nat × Option Nat).1 x.1 := ⟨h3, h6, c, hfit.mpr q⟩
        rw [if_pos q, stS_Y hok, ih (ins x.1 acc) (fun t => by
          rw [mem_ins, hacc, List.map_append, List.mem_append]
          show t = x.1 ∨ _ ↔ _ ∨ t ∈ [x.1]
          rw [List.mem_singleton]; exact or_comm)]
      · have hok : ¬ okS L ((acc, none) : List Nat × Option Nat).1 x.1 := fun z => q (hfit.mp z.2.2.2)
        rw [if_neg q, stS_N hok]
        show _ = match (r.foldl (stS L) (acc, some x.2)).2 with | none => some (-2 : Int32) | some w => some (Int32.ofNat w)
        rw [foldS_some]
    · have hok : ¬ okS L ((acc, none) : List Nat × Option Nat).1 x.1 := fun z => c z.2.2.1
      rw [if_neg c, if_pos i00, ck_n (by omega) (by omega), gp, stS_N hok]
      show _ = match (r.foldl (stS L) (acc, some x.2)).2 with | none => some (-2 : Int32) | some w => some (Int32.ofNat w)
      rw [foldS_some]
theorem wrong9 {bs : List Nat} (h2 : 2 ≤ bs.length) (c0 : isF bs 0 = true) (hT : pT bs = true → isF bs ((pMk bs).2.1 + 1) = true) {g n isT L lp k : Int32} {tp pp tt spl : Nat → Int32} (hg : g = Int32.ofNat (fi bs 0)) (ht : rp tp ((pMk bs).1.map (fun x => x.1))) (hp : rp pp ((pMk bs).1.map (fun x => x.2))) (hn : n = Int32.ofNat (pMk bs).1.length)
    (h1 : pT bs = true → isT = 1 ∧ L = Int32.ofNat (pL bs) ∧ lp = Int32.ofNat ((pMk bs).2.1 + 1) ∧ rp tt ((pSl bs).1.map (fun x => x.1)) ∧ rp spl ((pSl bs).1.map (fun x => x.2)) ∧ k = Int32.ofNat (pSl bs).1.length) (h0 : ¬ pT bs = true → isT = 0) :
    F_X9_wrongFigures g n isT L lp k tp pp tt spl = match pCb bs with | none => some (-2 : Int32) | some w => some (Int32.ofNat w) := by
  obtain ⟨m1, m2, m3⟩ := pMk_le h2
  have l9 := (isF_c c0).2.2
  unfold F_X9_wrongFigures
  have c2 : (Int32.ofNat (fi bs 0) ≤ (2 : Int32)) ↔ fi bs 0 ≤ 2 := n_le (b := 2) (by omega) (by omega)
  have hcM : ∀ q, pCM bs = some q → pCb bs = some q := fun q hq => by
    unfold pCb
    by_cases c3 : pT bs = true
    · rw [if_pos c3]
      have : pCL bs = some q := by
        unfold pCL
        by_cases d : 3 ≤ pL bs ∧ pL bs ≤ 6
        · rw [if_pos d]; exact hq
        · rw [if_neg d, hq]; rfl
      unfold pSt
      rw [this]; exact foldS_some _ _ q
    · rw [if_neg c3]; exact hq
  rw [hg]
  by_cases d : fi bs 0 ≤ 2
  · have e0 : pC0 bs = none := by unfold pC0; rw [if_pos d]
    rw [if_pos (c2.mpr d), hn]
    have key := wfM m2 (fun x hx => (m3 x hx).1) ht hp (K_X9_wrongFigures_12_44 isT L lp k tt spl) (pMk bs).1 [] FU rfl (by unfold FU; omega)
    have ecm : (pMk bs).1.foldl ntp none = pCM bs := by unfold pCM; rw [e0]
    rw [ecm] at key
    refine key.trans ?_
    cases hc : pCM bs with
    | some q => rw [hcM q hc]
    | none =>
      show K_X9_wrongFigures_12_44 isT L lp k tt spl = _
      unfold K_X9_wrongFigures_12_44
      by_cases c3 : pT bs = true
      · obtain ⟨rfl, rfl, rfl, rt, rs, rfl⟩ := h1 c3
        have lL := (isF_c (hT c3)).2.2
        have lL2 : pL bs ≤ 9 := lL
        rw [if_neg i10, in9i, n_toInt (by omega), show (3 : Int64).toInt = 3 from rfl, show (6 : Int64).toInt = 6 from rfl, bd_s]
        obtain ⟨k1, k2, k3⟩ := pkk_le (bs := bs) 3 ((pMk bs).2.1 + 2) (by have := (isF_c (hT c3)).1; omega)
        by_cases e : 3 ≤ pL bs ∧ pL bs ≤ 6
        · have eL : pCL bs = none := by unfold pCL; rw [if_pos e]; exact hc
          have eC : pCb bs = ((pSl bs).1.foldl (stS (pL bs)) ([], none)).2 := by
            unfold pCb; rw [if_pos c3]; unfold pSt; rw [eL]
          rw [if_pos (show (3 : Int) ≤ (pL bs : Int) ∧ (pL bs : Int) ≤ 6 by omega), if_neg i10, eC]
          exact wfS e.1 e.2 k2 (fun x hx => (k3 x hx).1) rt rs (pSl bs).1 [] [] FU rfl (by have : (pSl bs).1.length ≤ 3 := k2; unfold FU; omega) (fun t => by simp)
        · have eL : pCL bs = some ((pMk bs).2.1 + 1) := by unfold pCL; rw [if_neg e, hc]; rfl
          have eC : pCb bs = some ((pMk bs).2.1 + 1) := by
            unfold pCb; rw [if_pos c3]; unfold pSt; rw [eL]; exact foldS_some _ _ _
          rw [if_neg (show ¬ ((3 : Int) ≤ (pL bs : Int) ∧ (pL bs : Int) ≤ 6) by omega), if_pos i00, eC]
      · have eC : pCb bs = none := by unfold pCb; rw [if_neg c3]; exact hc
        rw [if_pos (h0 c3), eC]
  · have e0 : pC0 bs = some 0 := by unfold pC0; rw [if_neg d]
    have eM : pCM bs = some 0 := by unfold pCM; rw [e0]; exact foldN_some _ _
    rw [if_neg (fun z => d (c2.mp z)), hcM 0 eM]; rfl
