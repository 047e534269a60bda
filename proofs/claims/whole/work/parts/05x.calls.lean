/-! PURE SIDE: drift, cross, trial, rest of both -/
theorem drift_both {law places broad horses blinds tideN : Int32} {pull str back moods tides t : Nat → Int32} {N : Nat} {b0 : Int} (hB : BT law places broad horses blinds tideN pull str back moods tides t) (hN : N ≤ 99) (hb0 : 0 ≤ b0 ∧ b0 < 1000000000)
    (K1 : (Nat → Int32) → (Nat → Int32) → Int32 → Int32 → Int32 → Int32 → (Nat → Int32) → (Nat → Int32) → Int32 → Int32 → Option (Int32 × (Nat → Int32) × (Nat → Int32) × Int32 × Int32 × Int32 × Int32 × (Nat → Int32) × (Nat → Int32) × Int32 × Int32)) (K2 : Int32 → (Nat → Int32) → (Nat → Int32) → (Nat → Int32) → (Nat → Int32) → Option (Int32 × Int32 × Int32 × (Nat → Int32) × (Nat → Int32) × (Nat → Int32) × (Nat → Int32))) :
    ∀ (d k f1 f2 : Nat) (who cp : Nat → Int32) (hour oats missed seed : Int32) (strength stands : Nat → Int32) (pk gk e0 : Int32) (s w a pl : Nat → Int32), k + d = N → d < f1 → d < f2 → RNb (b0 + 4 * k) hour oats missed seed strength stands s t →
      ∃ (W P : Nat → Int32) (hour' oats' missed' seed' : Int32) (strength' stands' : Nat → Int32) (pk' gk' e' : Int32) (s' w' a' pl' : Nat → Int32),
        lq11 (B_X8_drift_1 (nI N) K1 law places broad horses blinds tideN pull str back moods tides) f1 (nI k) who cp hour oats missed seed strength stands pk gk = K1 W P hour' oats' missed' seed' strength' stands' pk' gk' ∧
        lq6 (B_X9_drift_1 (nI N) K2 t (-1)) f2 (nI k) e0 s w a pl = K2 e' s' w' a' pl' ∧ RNb (b0 + 4 * N) hour' oats' missed' seed' strength' stands' s' t ∧ (∀ k : Nat, 3 ≤ k → W k = who k ∧ P k = cp k) ∧ ((pk' = 0 ∧ gk' = 0) ∨ (d = 0 ∧ pk' = pk ∧ gk' = gk)) := by
  intro d
  induction d with
  | zero =>
    intro k f1 f2 who cp hour oats missed seed strength stands pk gk e0 s w a pl hk h1 h2 hR
    obtain rfl : k = N := by omega
    obtain ⟨f1, rfl⟩ : ∃ f, f1 = f + 1 := ⟨f1 - 1, by omega⟩
    obtain ⟨f2, rfl⟩ : ∃ f, f2 = f + 1 := ⟨f2 - 1, by omega⟩
    refine ⟨who, cp, hour, oats, missed, seed, strength, stands, pk, gk, e0, s, w, a, pl, ?_, ?_, hR, fun k _ => ⟨rfl, rfl⟩, Or.inr ⟨rfl, rfl, rfl⟩⟩
    · rw [lq11_1]
      unfold B_X8_drift_1
      rw [if_pos (Int32.le_refl _)]
    · rw [lq6_1]
      unfold B_X9_drift_1
      rw [if_pos (Int32.le_refl _)]
  | succ d ih =>
    intro k f1 f2 who cp hour oats missed seed strength stands pk gk e0 s w a pl hk h1 h2 hR
    obtain ⟨f1, rfl⟩ : ∃ f, f1 = f + 1 := ⟨f1 - 1, by omega⟩
    obtain ⟨f2, rfl⟩ : ∃ f, f2 = f + 1 := ⟨f2 - 1, by omega⟩
    obtain ⟨W, P, hour', oats', missed', seed', strength', stands', hc, hWP, hm⟩ := m_day (pk := pk) (gk := gk) (e0 := e0) (who := who) (cp := cp) (w := w) (a := a) (pl := pl) hB hR (by omega) (by omega)
    have hlt : ¬ nI N ≤ nI k := nI_ge (by omega) (by omega)
    obtain ⟨e', s', w', a', pl', hm1, hR1⟩ := hm (nI N) K2 (lq6 (B_X9_drift_1 (nI N) K2 t (-1)) f2) (nI k) hlt
    have hR2 : RNb (b0 + 4 * ((k + 1 : Nat) : Int)) hour' oats' missed' seed' strength' stands' s' t := by
      have : b0 + 4 * (k : Int) + 4 = b0 + 4 * ((k + 1 : Nat) : Int) := by omega
      rw [← this]; exact hR1
    obtain ⟨W2, P2, hour2, oats2, missed2, seed2, strength2, stands2, pk2, gk2, e2, s2, w2, a2, pl2, g1, g2, g3, g4, g5⟩ := ih (k + 1) f1 f2 W P hour' oats' missed' seed' strength' stands' 0 0 e' s' w' a' pl' (by omega) (by omega) (by omega) hR2
    refine ⟨W2, P2, hour2, oats2, missed2, seed2, strength2, stands2, pk2, gk2, e2, s2, w2, a2, pl2, ?_, ?_, g3, fun k hk => ⟨(g4 k hk).1.trans (hWP k hk).1, (g4 k hk).2.trans (hWP k hk).2⟩, Or.inl ?_⟩
    · rw [← g1, lq11_1]
      generalize lq11 (B_X8_drift_1 (nI N) K1 law places broad horses blinds tideN pull str back moods tides) f1 = R
      unfold B_X8_drift_1
      rw [if_neg hlt, hc, bn10_some, nI_1]
    · rw [← g2, lq6_1, hm1, nI_1]
    · rcases g5 with g | g
      · exact g
      · exact ⟨g.2.1, g.2.2⟩
theorem RNb_le {b b' : Int} {hour oats missed seed : Int32} {strength stands s t : Nat → Int32} (h : RNb b hour oats missed seed strength stands s t) (hb : b ≤ b') : RNb b' hour oats missed seed strength stands s t := by
  obtain ⟨⟨x1, x2, x3⟩, xr⟩ := h
  exact ⟨⟨x1, x2, by omega⟩, xr⟩
theorem e_isNoLoad (x : Int32) : f_X8_isNoLoad x = some (if 0 ≤ x ∧ x ≤ 240 then 0 else 1) := by
  unfold f_X8_isNoLoad
  grind
theorem m_drift {law places broad horses blinds tideN hour oats missed seed pk gk e0 th n1 : Int32} {pull str back moods tides t strength stands s who cp w a pl : Nat → Int32} {b : Int}
    (hB : BT law places broad horses blinds tideN pull str back moods tides t) (hN : RNb b hour oats missed seed strength stands s t) (hb : 0 ≤ b ∧ b < 1000000000) :
    ∃ (rr : Int32) (W P : Nat → Int32) (hour' oats' missed' seed' : Int32) (strength' stands' : Nat → Int32) (pk' gk' e' : Int32) (s' w' a' pl' : Nat → Int32),
      f_X8_drift n1 law places broad horses blinds tideN pull str back moods tides who cp hour oats missed seed strength stands pk gk = some (rr, W, P, hour', oats', missed', seed', strength', stands', pk', gk') ∧
      f_X9_drift n1 th e0 (-1) t s w a pl = some (rr, 0, e', s', w', a', pl') ∧ RNb (b + 400) hour' oats' missed' seed' strength' stands' s' t ∧ (∀ k : Nat, 3 ≤ k → W k = who k ∧ P k = cp k) ∧ ((pk' = 0 ∧ gk' = 0) ∨ (pk' = pk ∧ gk' = gk ∧ hour' = hour ∧ strength' = strength)) := by
  have hB0 := hB
  obtain ⟨ht, hs, hSB, hPB, hCT, hlaw, ht1, ht2, hbr, ht0, hpl⟩ := hB
  unfold f_X8_drift f_X9_drift
  by_cases c1 : 1 ≤ n1 ∧ n1 ≤ 99
  · rw [if_neg (show ¬ n1 < 1 by grind), if_pos c1.2, in_t c1.1 c1.2, bn1_some, if_neg (show ¬ (1 : Int32) = 0 by decide)]
    have q0 : t (Int32.toNatClampNeg 0) = places := ht0
    have q3 : t (Int32.toNatClampNeg 3) = horses := hPB.1.symm
    by_cases c2 : places = 0
    · rw [if_pos c2, if_pos (show t (Int32.toNatClampNeg 0) = 0 from q0.trans c2)]
      exact ⟨_, _, _, _, _, _, _, _, _, _, _, _, _, _, _, _, rfl, rfl, RNb_le hN (by omega), fun k _ => ⟨rfl, rfl⟩, Or.inr ⟨rfl, rfl, rfl, rfl⟩⟩
    · rw [if_neg c2, if_neg (show ¬ t (Int32.toNatClampNeg 0) = 0 from fun z => c2 (q0.symm.trans z))]
      by_cases c3 : horses = 0
      · rw [if_pos c3, if_pos (show t (Int32.toNatClampNeg 3) = 0 from q3.trans c3)]
        exact ⟨_, _, _, _, _, _, _, _, _, _, _, _, _, _, _, _, rfl, rfl, RNb_le hN (by omega), fun k _ => ⟨rfl, rfl⟩, Or.inr ⟨rfl, rfl, rfl, rfl⟩⟩
      · rw [if_neg c3, if_neg (show ¬ t (Int32.toNatClampNeg 3) = 0 from fun z => c3 (q3.symm.trans z)), jn10_e, jn5_e]
        obtain ⟨N, hN99, eN⟩ := nI_of2 (M := 99) (n := 99) rfl (x := n1) (by grind) c1.2
        have hN1 : N ≠ 0 := fun z => by subst z; rw [eN] at c1; exact absurd c1.1 (by decide)
        have hR0 : RNb (b + 4 * ((0 : Nat) : Int)) hour oats missed seed strength stands s t := RNb_le hN (by omega)
        obtain ⟨W, P, hour', oats', missed', seed', strength', stands', pk', gk', e', s', w', a', pl', g1, g2, g3, g4, g5⟩ := drift_both hB0 hN99 hb (fun W P h o m sd st sn pk gk => some (m, W, P, h, o, m, sd, st, sn, pk, gk)) (fun e s w a pl => some (s 11, 0, e, s, w, a, pl)) N 0 fu fu who cp hour oats missed seed strength stands pk gk e0 s w a pl (by omega) (by unfold fu; omega) (by unfold fu; omega) hR0
        subst eN
        refine ⟨missed', W, P, hour', oats', missed', seed', strength', stands', pk', gk', e', s', w', a', pl', ?_, ?_, RNb_le g3 (by omega), g4, Or.inl (g5.resolve_right (fun z => hN1 z.1))⟩
        · exact g1
        · refine Eq.trans g2 ?_
          rw [g3.2.2.1]
  · by_cases c2 : n1 < 1
    · rw [if_pos c2, in_f c1, bn1_some, if_pos rfl]
      exact ⟨_, _, _, _, _, _, _, _, _, _, _, _, _, _, _, _, rfl, rfl, RNb_le hN (by omega), fun k _ => ⟨rfl, rfl⟩, Or.inr ⟨rfl, rfl, rfl, rfl⟩⟩
    · rw [if_neg c2, if_neg (show ¬ n1 ≤ 99 by grind), in_f c1, bn1_some, if_pos rfl]
      exact ⟨_, _, _, _, _, _, _, _, _, _, _, _, _, _, _, _, rfl, rfl, RNb_le hN (by omega), fun k _ => ⟨rfl, rfl⟩, Or.inr ⟨rfl, rfl, rfl, rfl⟩⟩
theorem m_rest {law places broad horses blinds tideN hour oats missed seed pk gk th n1 : Int32} {pull str back moods tides t strength stands s w a : Nat → Int32} {b : Int}
    (hB : BT law places broad horses blinds tideN pull str back moods tides t) (hN : RNb b hour oats missed seed strength stands s t) (hb : 0 ≤ b ∧ b < 1000000000) :
    ∃ (rr : Int32) (hour' : Int32) (strength' : Nat → Int32) (pk' gk' : Int32) (s' w' a' : Nat → Int32),
      f_X8_rest n1 horses str back hour strength pk gk = some (rr, hour', strength', pk', gk') ∧ f_X9_rest n1 th t s w a = some (rr, 0, s', w', a') ∧ RNb (b + 400) hour' oats missed seed strength' stands s' t ∧ ((pk' = 0 ∧ gk' = 0) ∨ (pk' = pk ∧ gk' = gk ∧ hour' = hour ∧ strength' = strength)) := by
  unfold f_X8_rest f_X9_rest
  by_cases c1 : 1 ≤ n1 ∧ n1 ≤ 99
  · rw [if_neg (show ¬ n1 < 1 by grind), if_pos c1.2, in_t c1.1 c1.2, bn1_some, if_neg (by decide)]
    obtain ⟨N, hN99, eN⟩ := nI_of2 (M := 99) (n := 99) rfl (x := n1) (by grind) c1.2
    subst eN
    obtain ⟨str', s', w', a', h1, h2, h3, h4⟩ := m_restAll (pk := pk) (gk := gk) (w := w) (a := a) (n := N) hB hN (by omega) (by omega)
    rw [h1, bn4_some, h2, bn3_some]
    refine ⟨hour + nI N, hour + nI N, str', 0, 0, s', w', a', rfl, ?_, RNb_le h4 (by omega), Or.inl ⟨rfl, rfl⟩⟩
    rw [← h3]; rfl
  · by_cases c2 : n1 < 1
    · rw [if_pos c2, in_f c1, bn1_some, if_pos rfl]
      exact ⟨_, _, _, _, _, _, _, _, rfl, rfl, RNb_le hN (by omega), Or.inr ⟨rfl, rfl, rfl, rfl⟩⟩
    · rw [if_neg c2, if_neg (show ¬ n1 ≤ 99 by grind), in_f c1, bn1_some, if_pos rfl]
      exact ⟨_, _, _, _, _, _, _, _, rfl, rfl, RNb_le hN (by omega), Or.inr ⟨rfl, rfl, rfl, rfl⟩⟩
theorem m_cross {law places broad horses blinds tideN hour oats missed seed pk gk e0 th n1 : Int32} {pull str back moods tides t strength stands s who cp w a pl : Nat → Int32} {b : Int}
    (hB : BT law places broad horses blinds tideN pull str back moods tides t) (hN : RNb b hour oats missed seed strength stands s t) (hb : 0 ≤ b ∧ b < 1000000000) :
    ∃ (rr : Int32) (W P : Nat → Int32) (hour' oats' missed' : Int32) (strength' : Nat → Int32) (pk' gk' e' : Int32) (s' w' a' pl' : Nat → Int32),
      f_X8_cross n1 law broad horses blinds tideN pull str back moods tides who cp hour oats missed strength stands pk gk = some (rr, W, P, hour', oats', missed', strength', pk', gk') ∧
      f_X9_cross n1 th e0 (-1) t s w a pl = some (rr, 0, e', s', w', a', pl') ∧ RNb (b + 400) hour' oats' missed' seed strength' stands s' t ∧ (∀ k : Nat, 3 ≤ k → W k = who k ∧ P k = cp k) ∧ ((pk' = 0 ∧ gk' = 0) ∨ (pk' = pk ∧ gk' = gk ∧ hour' = hour ∧ strength' = strength)) := by
  have hN0 := hN
  obtain ⟨⟨s9, hh0, hhb⟩, ⟨s10, ho0, ho1⟩, s11, ⟨s12, hseed⟩, ⟨s6, s7, s8⟩, hst, hstr⟩ := hN
  unfold f_X8_cross f_X9_cross
  rw [e_isNoLoad, bn1_some]
  by_cases c1 : 0 ≤ n1 ∧ n1 ≤ 240
  · rw [if_pos c1, if_pos rfl, in_t c1.1 c1.2, bn1_some, if_neg (by decide), e_isEmpty, bn1_some, e_isNobody, bn1_some, s6, s7, s8]
    by_cases c2 : stands 0 = -1 ∧ stands 1 = -1 ∧ stands 2 = -1
    · rw [if_pos c2, if_neg (by decide), if_neg (by decide)]
      exact ⟨_, _, _, _, _, _, _, _, _, _, _, _, _, _, rfl, rfl, RNb_le hN0 (by omega), fun k _ => ⟨rfl, rfl⟩, Or.inr ⟨rfl, rfl, rfl, rfl⟩⟩
    · obtain ⟨l, hl, el⟩ := load_n c1.1 c1.2
      subst el
      obtain ⟨rr, W, P, oats', missed', str', e', s', w', a', pl', h1, h2, h3, h4⟩ := m_crossOver (pk := pk) (gk := gk) (e0 := e0) (w := w) (a := a) (pl := pl) (who := who) (cp := cp) hB hN0 (by omega) hl c2
      rw [if_neg c2, if_pos rfl, if_pos rfl, h1, bn9_some, h2, bn6_some]
      exact ⟨_, _, _, _, _, _, _, _, _, _, _, _, _, _, rfl, rfl, RNb_le h3 (by omega), h4, Or.inl ⟨rfl, rfl⟩⟩
  · rw [if_neg c1, if_neg (by decide), in_f c1, bn1_some, if_pos rfl]
    exact ⟨_, _, _, _, _, _, _, _, _, _, _, _, _, _, rfl, rfl, RNb_le hN0 (by omega), fun k _ => ⟨rfl, rfl⟩, Or.inr ⟨rfl, rfl, rfl, rfl⟩⟩
