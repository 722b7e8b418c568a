/-! Numbers that are met: the class. -/
def Rch (k0 k : Nat) : Prop := ∀ P : Nat → Prop, P k0 → (∀ key p, P key → 1 ≤ p → p ≤ 14 → ¬ nxK key p = 0 → P (nxK key p)) → P k
theorem Rch_r (k : Nat) : Rch k k := fun P h _ => h
theorem Rch_s {k0 k p : Nat} (h : Rch k0 k) (h1 : 1 ≤ p) (h2 : p ≤ 14) (h0 : ¬ nxK k p = 0) : Rch k0 (nxK k p) := fun P a b => b k p (h P a b) h1 h2 h0
theorem Rch_t {a b c : Nat} (h1 : Rch a b) (h2 : Rch b c) : Rch a c := h2 (fun k => Rch a k) h1 (fun _ _ h x y z => Rch_s h x y z)
theorem Rch_l {k0 k : Nat} (h : Rch k0 k) (hl : lgt k0) : lgt k ∧ nOf k ≤ nOf k0 ∧ gOf k = gOf k0 := h (fun k => lgt k ∧ nOf k ≤ nOf k0 ∧ gOf k = gOf k0) ⟨hl, Nat.le_refl _, rfl⟩ (fun key p hh h1 h2 h0 => by
  obtain ⟨a, b, c⟩ := nx_l hh.1 h1 h2 h0
  exact ⟨a, by have := hh.2.1; omega, b.trans hh.2.2⟩)
def mkd (keys : Nat → Int64) (rd : Int32) (rounds : Nat → Int32) (k : Nat) : Prop := ∃ s, s < 1024 ∧ keys s = Int64.ofNat k ∧ rounds s = rd
def CL (keys : Nat → Int64) (rd : Int32) (m : Nat) (rounds : Nat → Int32) : Prop := ∀ k, lgt k → nOf k < m → mkd keys rd rounds k → ∀ p, 1 ≤ p → p ≤ 14 → ¬ nxK k p = 0 → mkd keys rd rounds (nxK k p)
def cntR (rd : Int32) (rounds : Nat → Int32) : Nat := ((List.range 1024).filter (fun s => decide (rounds s = rd))).length
theorem flt_one {p q : Nat → Bool} {s : Nat} (h1 : p s = false) (h2 : q s = true) (h3 : ∀ x, ¬ x = s → q x = p x) : ∀ l : List Nat, l.Nodup → s ∈ l → (l.filter q).length = (l.filter p).length + 1
  | x :: l, hn, hs => by
    rw [List.nodup_cons] at hn
    by_cases c : x = s
    · subst c
      have e : l.filter q = l.filter p := List.filter_congr fun y hy => h3 y (fun z => hn.1 (by rw [← z]; exact hy))
      rw [List.filter_cons_of_pos h2, List.filter_cons_of_neg (by rw [h1]; decide), e]; rfl
    · have hs2 : s ∈ l := by
        rcases List.mem_cons.mp hs with z | z
        · exact absurd z.symm c
        · exact z
      have ih := flt_one h1 h2 h3 l hn.2 hs2
      by_cases d : p x = true
      · rw [List.filter_cons_of_pos (by rw [h3 x c]; exact d), List.filter_cons_of_pos d, List.length_cons, List.length_cons, ih]
      · rw [List.filter_cons_of_neg (by rw [h3 x c]; exact d), List.filter_cons_of_neg d, ih]
theorem cntR_up {rd : Int32} {rounds : Nat → Int32} {s : Nat} (hs : s < 1024) (h : ¬ rounds s = rd) : cntR rd (upd rounds s rd) = cntR rd rounds + 1 := by
  unfold cntR
  refine flt_one (s := s) (decide_eq_false h) (decide_eq_true (by rw [upd_e, if_pos rfl])) (fun x hx => ?_) _ List.nodup_range (List.mem_range.mpr hs)
  rw [upd_e, if_neg hx]
def MR (keys : Nat → Int64) (rd : Int32) (key n : Nat) (rounds : Nat → Int32) (r : Option (Int32 × (Nat → Int32))) : Prop := ∃ (c : Nat) (rounds' : Nat → Int32), r = some (Int32.ofNat c, rounds') ∧ mkd keys rd rounds' key ∧ (∀ s, s < 1024 → rounds s = rd → rounds' s = rd) ∧ (∀ k, lgt k → mkd keys rd rounds' k → mkd keys rd rounds k ∨ Rch key k) ∧ CL keys rd (n + 1) rounds' ∧ cntR rd rounds' = cntR rd rounds + c ∧ (∀ s, s < 1024 → rounds' s = rd → rounds s = rd ∨ ¬ keys s = 0) ∧ ∀ s, rounds' s = rounds s ∨ rounds' s = rd
theorem mkd_mono {keys : Nat → Int64} {rd : Int32} {r r' : Nat → Int32} (h : ∀ s, s < 1024 → r s = rd → r' s = rd) {k : Nat} (hk : mkd keys rd r k) : mkd keys rd r' k := by
  obtain ⟨s, a, b, c⟩ := hk
  exact ⟨s, a, b, h s a c⟩
theorem meet8 {keys aboves : Nat → Int64} (hT : TI keys aboves) (rd : Int32) : ∀ (n key : Nat) (rounds : Nat → Int32) (d p1 : Nat), nOf key = n → lgt key → n < d → p1 + n ≤ 16 → sto keys key → CL keys rd (n + 1) rounds → MR keys rd key n rounds (F_X3_meet d rd keys rounds (Int64.ofNat key) (Int32.ofNat p1)) := by
  intro n
  induction n using Nat.strongRecOn with
  | _ n ih =>
  intro key rounds d p1 hn hk hd hp hst hCL
  obtain ⟨d, rfl⟩ : ∃ q, d = q + 1 := ⟨d - 1, by omega⟩
  obtain ⟨f1, f2, f3, f4, f5, f6, f7, f8, f9, f10⟩ := KF_l hk
  have k0 := k64_0 hk
  obtain ⟨s, hs, es⟩ := hst
  obtain ⟨ku, l1, l2, l3, l4, l5⟩ := (hT s hs).resolve_left (fun z => k0 (es.symm.trans z))
  have e : ku = key := l64_inj l1 hk (l2.symm.trans es)
  subst e
  have nm : ¬ Int32.ofNat s = (-1 : Int32) := fun z => by
    have z1 := congrArg Int32.toInt z
    rw [n_toInt (by omega), show (-1 : Int32).toInt = -1 from rfl] at z1
    omega
  have c16 : Int32.ofNat p1 ≤ (16 : Int32) := (n_le (b := 16) (by omega) (by omega)).mpr (by omega)
  have own : ∀ u, u < 1024 → keys u = Int64.ofNat ku → u = s := fun u hu e2 => by
    obtain ⟨k2, m1, m2, m3, m4, m5⟩ := (hT u hu).resolve_left (fun z => k0 (e2.symm.trans z))
    have e3 : k2 = ku := l64_inj m1 hk (m2.symm.trans e2)
    subst e3
    exact SL_inj m4 l4
  show MR keys rd ku n rounds (G_X3_meet (F_X3_meet d) rd keys rounds (Int64.ofNat ku) (Int32.ofNat p1))
  unfold G_X3_meet
  rw [if_neg (fun z => k0 ((lg_cmp_eq _ _).mp z)), if_pos c16, slot_SL l4, bd_s, if_neg nm, ck_n hs (by omega), ck_n hs (by omega), ck_n hs (by omega), n_clamp (by omega), if_pos ((lg_cmp_eq _ _).mpr es)]
  by_cases c : rounds s = rd
  · rw [if_pos c]
    exact ⟨0, rounds, rfl, ⟨s, hs, es, c⟩, fun u _ h => h, fun k _ h => Or.inl h, hCL, (Nat.add_zero _).symm, fun u _ h => Or.inl h, fun u => Or.inl rfl⟩
  · rw [if_neg c, f5, bd_s]
    have ep1 : Int32.ofNat p1 + (1 : Int32) = Int32.ofNat (p1 + 1) := n_add p1 1
    have mono1 : ∀ u, u < 1024 → rounds u = rd → upd rounds s rd u = rd := fun u _ h => by
      rw [upd_e]
      by_cases z : u = s
      · rw [if_pos z]
      · rw [if_neg z]; exact h
    have new1 : ∀ k, lgt k → mkd keys rd (upd rounds s rd) k → mkd keys rd rounds k ∨ k = ku := fun k hl ⟨u, hu, eu, ru⟩ => by
      by_cases z : u = s
      · subst z
        exact Or.inr (l64_inj hl hk (eu.symm.trans es))
      · rw [upd_e, if_neg z] at ru
        exact Or.inl ⟨u, hu, eu, ru⟩
    have mk1 : mkd keys rd (upd rounds s rd) ku := ⟨s, hs, es, by rw [upd_e, if_pos rfl]⟩
    have CL1 : CL keys rd n (upd rounds s rd) := fun k hl hlt hm p h1 h2 h0 => by
      rcases new1 k hl hm with z | z
      · exact mkd_mono mono1 (hCL k hl (by omega) z p h1 h2 h0)
      · subst z; omega
    refine wq3_inv (B := B_X3_meet_78 (F_X3_meet d) rd keys (Int64.ofNat ku) (Int32.ofNat p1) (Int32.ofNat (rlK ku)) K_X3_meet_78_111) 14
      (fun j rn ct p => p = Int32.ofNat (j + 1) ∧ ∃ c : Nat, ct = Int32.ofNat (c + 1) ∧ (∀ u, u < 1024 → upd rounds s rd u = rd → rn u = rd) ∧ (∀ k, lgt k → mkd keys rd rn k → mkd keys rd rounds k ∨ k = ku ∨ (Rch ku k ∧ nOf k < n)) ∧ CL keys rd n rn ∧ cntR rd rn = cntR rd (upd rounds s rd) + c ∧ (∀ u, u < 1024 → rn u = rd → rounds u = rd ∨ ¬ keys u = 0) ∧ (∀ u, rn u = rounds u ∨ rn u = rd) ∧ ∀ q, 1 ≤ q → q ≤ j → ¬ nxK ku q = 0 → mkd keys rd rn (nxK ku q))
      (MR keys rd ku n rounds) (fun j hj rn ct p hI => ?_) (fun rn ct p hI => ?_) FU (by unfold FU; omega) _ _ _ ⟨rfl, 0, rfl, fun u _ h => h, fun k hl hm => by
        rcases new1 k hl hm with z | z
        · exact Or.inl z
        · exact Or.inr (Or.inl z), CL1, (Nat.add_zero _).symm, fun u hu h => by
          rw [upd_e] at h
          by_cases z : u = s
          · subst z; exact Or.inr (fun y => k0 (es.symm.trans y))
          · rw [if_neg z] at h; exact Or.inl h, fun u => by
          rw [upd_e]
          by_cases z : u = s
          · rw [if_pos z]; exact Or.inr rfl
          · rw [if_neg z]; exact Or.inl rfl, fun q h1 h2 => by omega⟩
    · obtain ⟨rfl, ct', rfl, i1, i2, i3, i4, i5, i6, i7⟩ := hI
      have c14 : ¬ (14 : Int32) < Int32.ofNat (j + 1) := fun z => by have := (n_lt (a := 14) (by omega) (by omega)).mp z; omega
      have ej : Int32.ofNat (j + 1) + (1 : Int32) = Int32.ofNat (j + 2) := n_add (j + 1) 1
      by_cases z : nxK ku (j + 1) = 0
      · refine Or.inl ⟨rn, Int32.ofNat (ct' + 1), Int32.ofNat (j + 2), ⟨rfl, ct', rfl, i1, i2, i3, i4, i5, i6, fun q h1 h2 h0 => ?_⟩, fun ag => ?_⟩
        · by_cases y : q = j + 1
          · subst y; exact absurd z h0
          · exact i7 q h1 (by omega) h0
        · have d1 : 1 ≤ d := by
            have h1 : 1 ≤ nOf ku := by
              by_cases y : 1 ≤ nOf ku
              · exact y
              · exfalso
                have y0 : nOf ku = 0 := by omega
                have := hk.2.2.2
                rw [y0] at this
                have hg := hk.1
                have h2 := hk.2.2.1
                rw [y0] at h2
                have g2 : gOf ku = 2 := by omega
                have e20 : lkG 2 0 = [] := by decide +kernel
                rw [g2, e20] at this
                exact absurd this List.not_mem_nil
            omega
          obtain ⟨d', rfl⟩ : ∃ q, d = q + 1 := ⟨d - 1, by omega⟩
          have e0 : F_X3_meet (d' + 1) rd keys rn (Int64.ofNat 0) (Int32.ofNat (p1 + 1)) = some ((0 : Int32), rn) := by
            show G_X3_meet (F_X3_meet d') rd keys rn (Int64.ofNat 0) (Int32.ofNat (p1 + 1)) = _
            unfold G_X3_meet
            have z64 : lg_cmp (Int64.ofNat 0) (0 : Int64) = 0 := (lg_cmp_eq _ _).mpr rfl
            rw [if_pos z64]
          unfold B_X3_meet_78
          have ea : Int32.ofNat (ct' + 1) + (0 : Int32) = Int32.ofNat (ct' + 1) := n_add _ 0
          rw [if_neg c14, f7 (j + 1) (by omega) (by omega), bd_s, z, ep1, e0, bd_s, ej]
          dsimp only
          rw [ea]
      · obtain ⟨n1, n2, n3⟩ := nx_l hk (by omega) (by omega) z
        have hst2 := l5 (j + 1) (by omega) (by omega) z
        obtain ⟨c2, rn2, r1, r2, r3, r4, r5, r6, r7, r8⟩ := ih (nOf (nxK ku (j + 1))) (by omega) (nxK ku (j + 1)) rn d (p1 + 1) rfl n1 (by omega) (by omega) hst2 (fun k hl hlt hm p h1 h2 h0 => i3 k hl (by omega) hm p h1 h2 h0)
        have rs : Rch ku (nxK ku (j + 1)) := Rch_s (Rch_r ku) (by omega) (by omega) z
        refine Or.inl ⟨rn2, Int32.ofNat (ct' + c2 + 1), Int32.ofNat (j + 2), ⟨rfl, ct' + c2, rfl, fun u hu h => r3 u hu (i1 u hu h), fun k hl hm => ?_, fun k hl hlt hm p h1 h2 h0 => r5 k hl (by omega) hm p h1 h2 h0, by rw [r6, i4]; omega, fun u hu h => ?_, fun u => ?_, fun q h1 h2 h0 => ?_⟩, fun ag => ?_⟩
        · rcases r4 k hl hm with y | y
          · exact i2 k hl y
          · have := (Rch_l y n1).2.1
            exact Or.inr (Or.inr ⟨Rch_t rs y, by omega⟩)
        · rcases r7 u hu h with y | y
          · exact i5 u hu y
          · exact Or.inr y
        · rcases r8 u with y | y
          · rw [y]; exact i6 u
          · exact Or.inr y
        · by_cases y : q = j + 1
          · subst y; exact r2
          · exact mkd_mono r3 (i7 q h1 (by omega) h0)
        · unfold B_X3_meet_78
          rw [if_neg c14, f7 (j + 1) (by omega) (by omega), bd_s, ep1, r1, bd_s, ej]
          dsimp only
          rw [n_add, show ct' + 1 + c2 = ct' + c2 + 1 by omega]
    · obtain ⟨rfl, ct', rfl, i1, i2, i3, i4, i5, i6, i7⟩ := hI
      refine ⟨_, ⟨ct' + 1, rn, rfl, mkd_mono i1 mk1, fun u hu h => i1 u hu (mono1 u hu h), fun k hl hm => ?_, fun k hl hlt hm p h1 h2 h0 => ?_, by rw [i4, cntR_up hs c]; omega, i5, i6⟩, fun ag => ?_⟩
      · rcases i2 k hl hm with y | y | y
        · exact Or.inl y
        · subst y; exact Or.inr (Rch_r k)
        · exact Or.inr y.1
      · rcases i2 k hl hm with y | y | y
        · exact mkd_mono i1 (mkd_mono mono1 (hCL k hl hlt y p h1 h2 h0))
        · subst y; exact i7 p h1 h2 h0
        · exact i3 k hl y.2 hm p h1 h2 h0
      · unfold B_X3_meet_78
        rw [if_pos (by decide)]; rfl
theorem key64 {k : Nat} (h : lgt k) : (Int64.ofNat k).toInt.toNat = k := by
  obtain ⟨-, -, a, -⟩ := KF_l h
  rw [Int64.toInt_ofNat_of_lt (by omega), Int.toNat_natCast]
theorem count8 {keys aboves : Nat → Int64} (hT : TI keys aboves) {round : Int32} {rounds : Nat → Int32} (h0 : 0 ≤ round.toInt) (h1 : round.toInt < 100000) (hr : ∀ s, s < 1024 → (rounds s).toInt ≤ round.toInt) {kz : Nat} (hk : kzO kz) :
    ∃ (c : Nat) (keys' aboves' : Nat → Int64) (rounds' : Nat → Int32), F_X3_countMet round keys aboves rounds (Int64.ofNat kz) = some (Int32.ofNat c, keys', aboves', rounds', round + (1 : Int32)) ∧ TI keys' aboves' ∧ (∀ s, s < 1024 → (rounds' s).toInt ≤ (round + (1 : Int32)).toInt) ∧ (round + (1 : Int32)).toInt = round.toInt + 1 ∧ ((kz = 0 ∧ c = 0) ∨ (lgt kz ∧ ∃ RL : List Nat, RL.Nodup ∧ RL.length = c ∧ ∀ k, k ∈ RL ↔ Rch kz k)) := by
  have hrd : (round + (1 : Int32)).toInt = round.toInt + 1 := by
    have e1 : (1 : Int32).toInt = 1 := rfl
    rw [Int32.toInt_add, e1, Int.bmod_eq_of_le (by omega) (by omega)]
  have nr : ∀ s, s < 1024 → ¬ rounds s = round + (1 : Int32) := fun s hs z => by
    have := hr s hs
    rw [z, hrd] at this; omega
  unfold F_X3_countMet
  rcases hk with rfl | hk
  · have e1 : F_X3_workOut 20 keys aboves (Int64.ofNat 0) (0 : Int32) = some ((0 : Int64), keys, aboves) := by
      show G_X3_workOut (F_X3_workOut 19) keys aboves (Int64.ofNat 0) (0 : Int32) = _
      unfold G_X3_workOut
      have z64 : lg_cmp (Int64.ofNat 0) (0 : Int64) = 0 := (lg_cmp_eq _ _).mpr rfl
      rw [if_pos z64]
    have e2 : F_X3_meet 20 (round + (1 : Int32)) keys rounds (Int64.ofNat 0) (0 : Int32) = some ((0 : Int32), rounds) := by
      show G_X3_meet (F_X3_meet 19) (round + (1 : Int32)) keys rounds (Int64.ofNat 0) (0 : Int32) = _
      unfold G_X3_meet
      have z64 : lg_cmp (Int64.ofNat 0) (0 : Int64) = 0 := (lg_cmp_eq _ _).mpr rfl
      rw [if_pos z64]
    rw [e1, bd_s]
    dsimp only
    rw [e2, bd_s]
    exact ⟨0, keys, aboves, rounds, rfl, hT, fun s hs => by have := hr s hs; omega, hrd, Or.inl ⟨rfl, rfl⟩⟩
  · obtain ⟨keys', aboves', e1, t1, t2, t3⟩ := work8 (nOf kz) kz keys aboves 20 0 rfl hk (by have := hk.2.1; omega) (by have := hk.2.1; omega) hT
    have e1' : F_X3_workOut 20 keys aboves (Int64.ofNat kz) (0 : Int32) = some (Int64.ofNat (VN kz), keys', aboves') := e1
    have nomk : ∀ k, ¬ mkd keys' (round + (1 : Int32)) rounds k := fun k ⟨s, hs, _, z⟩ => nr s hs z
    obtain ⟨c, rounds', r1, r2, r3, r4, r5, r6, r7, r8⟩ := meet8 t1 (round + (1 : Int32)) (nOf kz) kz rounds 20 0 rfl hk (by have := hk.2.1; omega) (by have := hk.2.1; omega) t2 (fun k _ _ hm => absurd hm (nomk k))
    have r1' : F_X3_meet 20 (round + (1 : Int32)) keys' rounds (Int64.ofNat kz) (0 : Int32) = some (Int32.ofNat c, rounds') := r1
    rw [e1', bd_s]
    dsimp only
    rw [r1', bd_s]
    refine ⟨c, keys', aboves', rounds', rfl, t1, fun s hs => ?_, hrd, Or.inr ⟨hk, ((List.range 1024).filter (fun s => decide (rounds' s = round + (1 : Int32)))).map (fun s => (keys' s).toInt.toNat), ?_, ?_, fun k => ?_⟩⟩
    · rcases r8 s with y | y
      · rw [y]; have := hr s hs; omega
      · rw [y]; exact Int.le_refl _
    · unfold List.Nodup
      rw [List.pairwise_map]
      refine List.Pairwise.imp_of_mem (R := fun a b => a ≠ b) (fun {a b} ha hb hab e => hab ?_) (List.Pairwise.filter _ List.nodup_range)
      obtain ⟨a1, a2⟩ := List.mem_filter.mp ha
      obtain ⟨b1, b2⟩ := List.mem_filter.mp hb
      rw [List.mem_range] at a1 b1
      have za := (r7 a a1 (of_decide_eq_true a2)).resolve_left (nr a a1)
      have zb := (r7 b b1 (of_decide_eq_true b2)).resolve_left (nr b b1)
      obtain ⟨ka, l1, l2, l3, l4, -⟩ := (t1 a a1).resolve_left za
      obtain ⟨kb, m1, m2, m3, m4, -⟩ := (t1 b b1).resolve_left zb
      rw [l2, m2, key64 l1, key64 m1] at e
      subst e
      exact SL_inj l4 m4
    · rw [List.length_map]
      have z0 : cntR (round + (1 : Int32)) rounds = 0 := by
        unfold cntR
        rw [List.length_eq_zero_iff, List.filter_eq_nil_iff]
        intro s hs
        rw [List.mem_range] at hs
        simpa using nr s hs
      rw [z0, Nat.zero_add] at r6
      exact r6
    · constructor
      · intro h
        obtain ⟨s, hs, rfl⟩ := List.mem_map.mp h
        obtain ⟨a1, a2⟩ := List.mem_filter.mp hs
        rw [List.mem_range] at a1
        have za := (r7 s a1 (of_decide_eq_true a2)).resolve_left (nr s a1)
        obtain ⟨ka, l1, l2, -⟩ := (t1 s a1).resolve_left za
        rw [l2, key64 l1]
        exact (r4 ka l1 ⟨s, a1, l2, of_decide_eq_true a2⟩).resolve_left (nomk ka)
      · intro h
        have hm : mkd keys' (round + (1 : Int32)) rounds' k := by
          have := h (fun k => Rch kz k ∧ mkd keys' (round + (1 : Int32)) rounds' k) ⟨Rch_r kz, r2⟩ (fun key p hh h1 h2 h0 => by
            obtain ⟨a, b, -⟩ := Rch_l hh.1 hk
            exact ⟨Rch_s hh.1 h1 h2 h0, r5 key a (by omega) hh.2 p h1 h2 h0⟩)
          exact this.2
        obtain ⟨s, a, b, e⟩ := hm
        refine List.mem_map.mpr ⟨s, List.mem_filter.mpr ⟨List.mem_range.mpr a, decide_eq_true e⟩, ?_⟩
        rw [b, key64 (Rch_l h hk).1]
