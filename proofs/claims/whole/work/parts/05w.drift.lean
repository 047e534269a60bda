/-! PURE SIDE: a day of both; drift() -/
theorem mday_fill (K : (Nat → Int32) → Option (Int32 × Int32 × Int32 × (Nat → Int32) × (Nat → Int32) × (Nat → Int32) × (Nat → Int32))) (s : Nat → Int32) : lq2 (B_X9_drift_3 K) fu 0 s = K (fA 6 3 (fun _ _ => -1) s) := by
  refine fillL 6 3 (fun _ _ => -1) (by omega) (fun rec k w hk => ?_) (fun rec w => ?_) s
  · have e6 : (6 : Int32) + nI k = nI (6 + k) := nI_add 6 k
    unfold B_X9_drift_3
    rw [if_neg (show ¬ (3 : Int32) ≤ nI k from nI_ge (b := 3) hk (by decide)), e6, if_neg (idx_ok rfl (by omega) (by decide)), nI_1, nI_clamp (by omega)]
  · unfold B_X9_drift_3
    rw [if_pos (by decide)]
theorem mday_key {t s st0 : Nat → Int32} {x0 : Int32} {H pl : Nat} (hH : H ≤ 6) (hp : pl ≤ 3) (e3 : t 3 = nI H) (e0 : t 0 = nI pl) (hst0 : ∀ p, p < 3 → st0 p = -1) (hx0 : s 12 = x0)
    (Z : Option (Int32 × Int32 × Int32 × (Nat → Int32) × (Nat → Int32) × (Nat → Int32) × (Nat → Int32)) → Prop) (K5 : (Nat → Int32) → Option (Int32 × Int32 × Int32 × (Nat → Int32) × (Nat → Int32) × (Nat → Int32) × (Nat → Int32)))
    (h : ∀ s2, SR H x0 st0 s pl s2 → Z (K5 s2)) : Z (jn1 (fun z => jn1 K5 (fun K => lq2 (B_X9_drift_2 t K) fu 0 z)) (fun K => lq2 (B_X9_drift_3 K) fu 0 s)) := by
  rw [jn1_d, mday_fill, jn1_d]
  have hs0 : SR H x0 st0 s 0 (fA 6 3 (fun _ _ => -1) s) := by
    refine ⟨by rw [fA_out (by omega)]; exact hx0, ⟨?_, ?_, ?_⟩, fun j h1 h2 => fA_out (by omega)⟩
    · rw [fA_in (by omega)]; exact (hst0 0 (by decide)).symm
    · rw [fA_in (by omega)]; exact (hst0 1 (by decide)).symm
    · rw [fA_in (by omega)]; exact (hst0 2 (by decide)).symm
  obtain ⟨s2, h1, h2⟩ := mday_loop hH hp e3 e0 K5 x0 st0 s _ hst0 hs0
  rw [h1]
  exact h s2 h2
theorem dsd_pos {x0 : Int32} (h : 0 ≤ x0) : ∀ k, 0 ≤ dsd x0 k
  | 0 => h
  | k + 1 => by
    rw [dsd_s]
    obtain ⟨j, hj, e⟩ := drS_n (dsd x0 k)
    rw [e]; exact nI_pos' (by omega)
theorem m_day {law places broad horses blinds tideN hour oats missed seed pk gk e0 : Int32} {pull str back moods tides t strength stands s who cp w a pl : Nat → Int32} {b : Int}
    (hB : BT law places broad horses blinds tideN pull str back moods tides t) (hN : RNb b hour oats missed seed strength stands s t) (hb : b < 1900000000) (hb0 : 0 ≤ b) :
    ∃ (W P : Nat → Int32) (hour' oats' missed' seed' : Int32) (strength' stands' : Nat → Int32), f_X8_driftDay law places broad horses blinds tideN pull str back moods tides who cp hour oats missed seed strength stands pk gk = some (W, P, hour', oats', missed', seed', strength', stands', 0, 0) ∧ (∀ k : Nat, 3 ≤ k → W k = who k ∧ P k = cp k) ∧
      ∀ (n1 : Int32) (K : Int32 → (Nat → Int32) → (Nat → Int32) → (Nat → Int32) → (Nat → Int32) → Option (Int32 × Int32 × Int32 × (Nat → Int32) × (Nat → Int32) × (Nat → Int32) × (Nat → Int32))) (rec : Int32 → Int32 → (Nat → Int32) → (Nat → Int32) → (Nat → Int32) → (Nat → Int32) → Option (Int32 × Int32 × Int32 × (Nat → Int32) × (Nat → Int32) × (Nat → Int32) × (Nat → Int32))) (y : Int32), ¬ n1 ≤ y →
        ∃ (e' : Int32) (s' w' a' pl' : Nat → Int32), B_X9_drift_1 n1 K t (-1) rec y e0 s w a pl = rec (y + 1) e' s' w' a' pl' ∧ RNb (b + 4) hour' oats' missed' seed' strength' stands' s' t := by
  have hB0 := hB
  obtain ⟨ht, hs, hSB, hPB, hCT, hlaw, ht1, ht2, hbr, ht0, hpl⟩ := hB
  obtain ⟨H, h6, e3, eH⟩ := hor_n ht
  obtain ⟨p, hp, ep⟩ : ∃ p : Nat, p ≤ 3 ∧ places = nI p := by
    obtain ⟨j, hj, e⟩ := nI_of2 (M := 3) (n := 3) rfl (x := places) (by have := hpl.1; rw [i_le] at this; rw [i_lt]; omega) hpl.2
    exact ⟨j, hj, e⟩
  have eh : horses = nI H := hPB.1.trans e3
  have hst0 : ∀ p, p < 3 → fA 0 3 (fun _ _ => (-1 : Int32)) stands p = -1 := fun p hp => fA_0 hp
  have hd := dst_stnd (x0 := seed) h6 hst0 p hp
  have hN0 := hN
  obtain ⟨⟨s9, hh0, hhb⟩, ⟨s10, ho0, ho1⟩, s11, ⟨s12, hseed⟩, ⟨s6, s7, s8⟩, hst, hstr⟩ := hN
  have hsd0 := dsd_pos hseed p
  -- the row behind the draws
  have hmid : ∀ s2, SR H seed (fA 0 3 (fun _ _ => (-1 : Int32)) stands) s p s2 → RNb b hour oats missed (dsd seed p) strength (dst H seed (fA 0 3 (fun _ _ => (-1 : Int32)) stands) p) s2 t := fun s2 hS => by
    obtain ⟨g1, g2, g3⟩ := hS
    refine ⟨⟨by rw [g3 9 (by decide) (by omega)]; exact s9, hh0, hhb⟩, ⟨by rw [g3 10 (by decide) (by omega)]; exact s10, ho0, ho1⟩, by rw [g3 11 (by decide) (by omega)]; exact s11, ⟨g1, hsd0⟩, g2, ?_, fun h hh => ?_⟩
    · rw [ht0, ep, e3]; exact hd.2
    · rw [g3 h (by omega) (by omega)]; exact hstr h hh
  have hcl := fun K => cday_loop h6 hp K seed (fA 0 3 (fun _ _ => (-1 : Int32)) stands)
  have hst2 := hd.2
  rw [← ep, ← e3, ← ht0] at hst2
  generalize dst H seed (fA 0 3 (fun _ _ => (-1 : Int32)) stands) p = st2 at hmid hcl hst2
  generalize dsd seed p = sd2 at hmid hcl
  have hr30 := drR_lt (N := 30) (by decide) sd2
  have hr4 := drR_lt (N := 4) (by decide) (drS sd2)
  have d30 := e_cdraw (N := 30) (by decide) (by decide) sd2
  have d4 := e_cdraw (N := 4) (by decide) (by decide) (drS sd2)
  have m30 : ∀ z : Nat → Int32, z 12 = sd2 → f_X9_draw 30 z = some (nI (drR 30 sd2), upd z 12 (drS sd2)) := fun z hz => by
    have := e_mdraw (N := 30) (by decide) (by decide) z
    rw [hz] at this; exact this
  have m4 : ∀ z : Nat → Int32, z 12 = drS sd2 → f_X9_draw 4 z = some (nI (drR 4 (drS sd2)), upd z 12 (drS (drS sd2))) := fun z hz => by
    have := e_mdraw (N := 4) (by decide) (by decide) z
    rw [hz] at this; exact this
  have hmid2 : ∀ s2, SR H seed (fA 0 3 (fun _ _ => (-1 : Int32)) stands) s p s2 → RNb b hour oats missed (drS sd2) strength st2 (upd s2 12 (drS sd2)) t := fun s2 hS => by
    have h1 := RNb_draw ht (hmid s2 hS)
    rw [(hmid s2 hS).2.2.2.1.1] at h1; exact h1
  have dr2 : ∀ {b : Int} {hour oats missed : Int32} {strength stands z : Nat → Int32}, RNb b hour oats missed (drS sd2) strength stands z t → z 12 = drS sd2 ∧ RNb b hour oats missed (drS (drS sd2)) strength stands (upd z 12 (drS (drS sd2))) t := fun {b hour oats missed strength stands z} h => by
    have h1 := RNb_draw ht h
    rw [h.2.2.2.1.1] at h1
    exact ⟨h.2.2.2.1.1, h1⟩
  generalize drS (drS sd2) = sd4 at m4 d4 dr2
  generalize drR 4 (drS sd2) = r4 at m4 d4 hr4
  generalize drS sd2 = sd3 at m4 d4 m30 d30 hmid2 dr2
  generalize drR 30 sd2 = r30 at m30 d30 hr30
  have eemp : f_X5_isEmpty st2 = some (if st2 0 = -1 ∧ st2 1 = -1 ∧ st2 2 = -1 then 1 else 0) := e_isEmpty st2
  have enob : ∀ s2, SR H seed (fA 0 3 (fun _ _ => (-1 : Int32)) stands) s p s2 → f_X9_isNobody (upd s2 12 sd3) = some (if st2 0 = -1 ∧ st2 1 = -1 ∧ st2 2 = -1 then 1 else 0) := fun s2 hS => by
    obtain ⟨-, -, -, -, ⟨z6, z7, z8⟩, -⟩ := hmid2 s2 hS
    rw [e_isNobody, z6, z7, z8]
  have hfill : f_J7_fill_53178 3 (-1) stands = some (fA 0 3 (fun _ _ => (-1 : Int32)) stands) := e_fill (by decide)
  have ejl : nI r30 = jI (r30 : Int) := jI_nat r30
  by_cases c : st2 0 = -1 ∧ st2 1 = -1 ∧ st2 2 = -1
  · rw [if_pos c] at eemp
    -- nobody stands
    obtain ⟨s20, hs20⟩ : ∃ s2, SR H seed (fA 0 3 (fun _ _ => (-1 : Int32)) stands) s p s2 := by
      obtain ⟨s2, -, h2⟩ := mday_loop h6 hp e3 (ht0.trans ep) (fun _ => none) seed (fA 0 3 (fun _ _ => (-1 : Int32)) stands) s (fA 6 3 (fun _ _ => (-1 : Int32)) s) hst0 (by
        refine ⟨by rw [fA_out (by omega)]; exact s12, ⟨?_, ?_, ?_⟩, fun j h1 h2 => fA_out (by omega)⟩
        · rw [fA_in (by omega)]; exact (hst0 0 (by decide)).symm
        · rw [fA_in (by omega)]; exact (hst0 1 (by decide)).symm
        · rw [fA_in (by omega)]; exact (hst0 2 (by decide)).symm)
      exact ⟨s2, h2⟩
    obtain ⟨str', -, -, -, hcl2, -⟩ := m_restAll (pk := pk) (gk := gk) (w := w) (a := a) (n := r4) hB0 (dr2 (hmid2 s20 hs20)).2 (by omega) (by omega)
    refine ⟨who, cp, hour + nI r4, oats, missed, sd4, str', st2, ?_, fun k hk => ⟨rfl, rfl⟩, ?_⟩
    · unfold f_X8_driftDay
      rw [hfill, bn1_some, jn2_d]
      rw [ep, eh]
      refine (hcl _).trans ?_
      rw [show (30 : Int32) = nI 30 from rfl, d30, bn2_some, eemp, bn1_some, jn8_e, if_neg (by decide)]
      dsimp only
      rw [show (4 : Int32) = nI 4 from rfl, d4, bn2_some, ← eh, hcl2, bn4_some]
    · intro n1 K rec y hy
      unfold B_X9_drift_1
      rw [if_neg hy]
      refine mday_key h6 hp e3 (ht0.trans ep) hst0 s12 (fun o => ∃ (e' : Int32) (s' w' a' pl' : Nat → Int32), o = rec (y + 1) e' s' w' a' pl' ∧ RNb (b + 4) (hour + nI r4) oats missed sd4 str' st2 s' t) _ ?_
      intro s2 hS
      have hen := enob s2 hS
      rw [if_pos c] at hen
      obtain ⟨q1, q2⟩ := dr2 (hmid2 s2 hS)
      obtain ⟨str2, s', w', a', hc1, hm1, -, hR⟩ := m_restAll (pk := pk) (gk := gk) (w := w) (a := a) (n := r4) hB0 q2 (by omega) (by omega)
      rw [hcl2] at hc1
      injection hc1 with hc1
      injection hc1 with _ hc1
      injection hc1 with hc1 _
      subst hc1
      refine ⟨e0, s', w', a', pl, ?_, ?_⟩
      · rw [m30 s2 (hmid s2 hS).2.2.2.1.1, bn2_some, hen, bn1_some, jn5_e, if_neg (by decide)]
        dsimp only
        rw [m4 _ q1, bn2_some, hm1, bn3_some]
      · obtain ⟨⟨x1, x2, x3⟩, xr⟩ := hR
        exact ⟨⟨x1, x2, by omega⟩, xr⟩
  · rw [if_neg c] at eemp
    obtain ⟨s20, hs20⟩ : ∃ s2, SR H seed (fA 0 3 (fun _ _ => (-1 : Int32)) stands) s p s2 := by
      obtain ⟨s2, -, h2⟩ := mday_loop h6 hp e3 (ht0.trans ep) (fun _ => none) seed (fA 0 3 (fun _ _ => (-1 : Int32)) stands) s (fA 6 3 (fun _ _ => (-1 : Int32)) s) hst0 (by
        refine ⟨by rw [fA_out (by omega)]; exact s12, ⟨?_, ?_, ?_⟩, fun j h1 h2 => fA_out (by omega)⟩
        · rw [fA_in (by omega)]; exact (hst0 0 (by decide)).symm
        · rw [fA_in (by omega)]; exact (hst0 1 (by decide)).symm
        · rw [fA_in (by omega)]; exact (hst0 2 (by decide)).symm)
      exact ⟨s2, h2⟩
    obtain ⟨rr, W, P, oats', missed', str', -, s9', -, -, -, hco, -, hR1, hWP⟩ := m_crossOver (pk := pk) (gk := gk) (e0 := e0) (w := w) (a := a) (pl := pl) (who := who) (cp := cp) (load := (r30 : Int)) hB0 (hmid2 s20 hs20) (by omega) (by omega) c
    rw [← ejl] at hco
    obtain ⟨str3, -, -, -, hcl2, -⟩ := m_restAll (pk := 0) (gk := 0) (w := w) (a := a) (n := r4) hB0 (dr2 hR1).2 (by omega) (by omega)
    refine ⟨W, P, hour + 1 + nI r4, oats', missed', sd4, str3, st2, ?_, hWP, ?_⟩
    · unfold f_X8_driftDay
      rw [hfill, bn1_some, jn2_d]
      rw [ep, eh]
      refine (hcl _).trans ?_
      rw [show (30 : Int32) = nI 30 from rfl, d30, bn2_some, eemp, bn1_some, jn8_e, if_pos rfl, ← eh, hco, bn9_some]
      dsimp only
      rw [show (4 : Int32) = nI 4 from rfl, d4, bn2_some, hcl2, bn4_some]
    · intro n1 K rec y hy
      unfold B_X9_drift_1
      rw [if_neg hy]
      refine mday_key h6 hp e3 (ht0.trans ep) hst0 s12 (fun o => ∃ (e' : Int32) (s' w' a' pl' : Nat → Int32), o = rec (y + 1) e' s' w' a' pl' ∧ RNb (b + 4) (hour + 1 + nI r4) oats' missed' sd4 str3 st2 s' t) _ ?_
      intro s2 hS
      have hen := enob s2 hS
      rw [if_neg c] at hen
      obtain ⟨rr2, W2, P2, oats2, missed2, str2, ea2, sx, wx, ax, px, hco2, hmo2, hR2, -⟩ := m_crossOver (pk := pk) (gk := gk) (e0 := e0) (w := w) (a := a) (pl := pl) (who := who) (cp := cp) (load := (r30 : Int)) hB0 (hmid2 s2 hS) (by omega) (by omega) c
      rw [← ejl] at hco2 hmo2
      rw [hco] at hco2
      simp only [Option.some.injEq, Prod.mk.injEq] at hco2
      obtain ⟨rfl, rfl, rfl, -, rfl, rfl, rfl, -, -⟩ := hco2
      obtain ⟨q1, q2⟩ := dr2 hR2
      obtain ⟨str4, s', w', a', hc1, hm1, -, hR⟩ := m_restAll (pk := 0) (gk := 0) (w := wx) (a := ax) (n := r4) hB0 q2 (by omega) (by omega)
      rw [hcl2] at hc1
      simp only [Option.some.injEq, Prod.mk.injEq] at hc1
      obtain ⟨-, rfl, -, -⟩ := hc1
      refine ⟨ea2, s', w', a', px, ?_, ?_⟩
      · rw [m30 s2 (hmid s2 hS).2.2.2.1.1, bn2_some, hen, bn1_some, jn5_e, if_pos rfl, hmo2, bn6_some]
        dsimp only
        rw [m4 _ q1, bn2_some, hm1, bn3_some]
      · obtain ⟨⟨x1, x2, x3⟩, xr⟩ := hR
        exact ⟨⟨x1, x2, by omega⟩, xr⟩
