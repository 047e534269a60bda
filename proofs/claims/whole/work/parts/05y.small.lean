/-! PURE SIDE: trial, at, put, told, horse, beside, cart, seed, keep, goBack -/
theorem m_trial {law places broad horses blinds tideN hour oats missed seed e0 th n1 n2 : Int32} {pull str back moods tides t strength stands s who cp w a pl : Nat → Int32} {b : Int}
    (hB : BT law places broad horses blinds tideN pull str back moods tides t) (hN : RNb b hour oats missed seed strength stands s t) :
    ∃ (rr : Int32) (W P : Nat → Int32) (e' : Int32) (w' a' pl' : Nat → Int32),
      f_X8_trial n1 n2 law broad horses blinds tideN pull moods tides who cp hour strength stands = some (rr, W, P) ∧
      f_X9_trial n1 n2 th e0 (-1) t s w a pl = some (rr, 0, e', w', a', pl') ∧ ∀ k : Nat, 3 ≤ k → W k = who k ∧ P k = cp k := by
  obtain ⟨ht, hs, hSB, hPB, hCT, hlaw, ht1, ht2, hbr, ht0, hpl⟩ := hB
  obtain ⟨⟨s9, hh0, hhb⟩, ⟨s10, ho0, ho1⟩, s11, ⟨s12, hseed⟩, ⟨s6, s7, s8⟩, hst, hstr⟩ := hN
  unfold f_X8_trial f_X9_trial
  rw [e_isNoLoad, bn1_some]
  by_cases c1 : 0 ≤ n1 ∧ n1 ≤ 240
  · rw [if_pos c1, if_pos rfl, in_t c1.1 c1.2, bn1_some, if_neg (show ¬ (1 : Int32) = 0 by decide)]
    by_cases c2 : 0 ≤ n2 ∧ n2 ≤ 1
    · rw [if_neg (show ¬ n2 < 0 by grind), if_pos c2.2, in_t c2.1 c2.2, bn1_some, if_neg (show ¬ (1 : Int32) = 0 by decide), e_isEmpty, bn1_some, e_isNobody, bn1_some, s6, s7, s8]
      by_cases c3 : stands 0 = -1 ∧ stands 1 = -1 ∧ stands 2 = -1
      · rw [if_pos c3, if_neg (show ¬ (1 : Int32) = 0 by decide), if_neg (show ¬ (1 : Int32) = 0 by decide)]
        exact ⟨_, _, _, _, _, _, _, rfl, rfl, fun k _ => ⟨rfl, rfl⟩⟩
      · rw [if_neg c3, if_pos rfl, if_pos rfl]
        obtain ⟨load, hl, el⟩ := load_n c1.1 c1.2
        subst el
        obtain ⟨k, hk, ek, ekI⟩ := hour_n hh0
        let at' : Nat → Int32 := fA 0 3 (fun k _ => s (6 + k)) a
        let w1 : Nat → Int32 := fA 0 6 (fun k _ => s k) w
        have ea : ∀ p, p < 3 → stands p = at' p := fun p hp => by
          show _ = fA 0 3 _ a p
          rw [fA_0 hp]
          match p, hp with
          | 0, _ => exact s6.symm
          | 1, _ => exact s7.symm
          | 2, _ => exact s8.symm
        have hst' : STND (t 0) (t 3) at' := STND_ext (fun p hp => (ea p hp).symm) hst
        have hcr : CREW t at' := STND_CREW ht hst'
        have hdi : DIST at' := STND_DIST hst'
        obtain ⟨H, h6, e3, eH⟩ := hor_n ht
        have hw1 : ∀ h, h < (t 3).toNatClampNeg → w1 h = strength h := fun h hh => by
          show fA 0 6 _ w h = _
          rw [fA_0 (by omega)]; exact (hstr h hh).1
        have hWB : WB t strength := fun h hh => by
          have := hstr h hh
          rw [i_le, i_le] at this
          exact this.2
        have hWB1 : WB t w1 := fun h hh => by rw [hw1 h hh]; exact hWB h hh
        have hWEQ : WEQ t strength w1 := fun h hh => (hw1 h hh).symm
        have hwok := WB_ok hs hWB1 hcr
        have hwokc := WB_ok hs hWB hcr
        have hpl0 : t 0 ≠ 0 := by
          by_cases c0 : stands 0 = -1
          · by_cases c1 : stands 1 = -1
            · exact STND_places hst (p := 2) (by decide) (fun z => c3 ⟨c0, c1, z⟩)
            · exact STND_places hst (p := 1) (by decide) c1
          · exact STND_places hst (p := 0) (by decide) c0
        rw [ht0] at hpl0
        rw [if_neg hpl0] at ht1
        have hbr1 : 1 ≤ broad.toInt ∧ broad.toInt ≤ 999 := by
          have h2 := ht.2.1.2
          rw [ht2] at h2
          exact ⟨(i_le _ _).mp (hbr.resolve_left hpl0), (i_le _ _).mp h2⟩
        have htd := tideS_b ht k
        have hq : ∀ p, p < 3 → 0 ≤ pullP t at' (-1) p ∧ pullP t at' (-1) p ≤ 40 := fun p hp => pullP_b ht hcr hp
        obtain ⟨pl', hx⟩ := e_crosses (half := -1) ht hcr hdi hwok hk hl e0 pl
        obtain ⟨W, P, hseat, hrow, hrest⟩ := e_seatStanding (who := who) (cp := cp) ht hcr hPB ea
        have hmin := e_minutes (t := t) (u := strength) (law := law) (broad := broad) (within := 120) (push := tideS t k - load) hrow hcr hq hlaw hbr1 (by omega) (by omega)
        rw [cMin_ext hcr hWEQ] at hmin
        rw [ht1, ht2] at hx
        generalize hM : cMin law broad.toInt at' (pullP t at' (-1)) w1 (tideS t k - load) = M at hx hmin
        have hMb : M ≤ 120 := by rw [← hM]; exact cMin_b
        obtain ⟨g1, g2, g3⟩ := mAns_120 hMb
        have hwl := wlk_b hMb
        have hoats := e_oats (t := t) (u := strength) hrow hcr hwokc hwl
        rw [cEat_ext hcr hWEQ] at hoats
        generalize hE : cEat at' (pullP t at' (-1)) w1 (wlk M) = E at hx hoats
        have em : (nI M = 0) ↔ M = 0 := by rw [show (0 : Int32) = nI 0 from rfl, nI_eq (by omega) (by omega)]
        have hp1 : f_X8_push (jI load) tideN tides hour = some (jI (tideS t k - load)) := by
          unfold f_X8_push
          rw [ek, e_ctide ht hCT hk, bn1_some, jI_sub]
        have hx' : f_X9_crosses (s (Int32.toNatClampNeg 9)) (jI load) e0 (-1) t w1 at' pl = some (nI M, jI E, wAft w1 at' (wlk M), pl') := by
          have : s (Int32.toNatClampNeg 9) = nI k := s9.trans ek
          rw [this]; exact hx
        have hmin' : f_X2_minutes 0 (jI (tideS t k - load)) 120 W P law broad strength = some (jI (mAns M 120)) := hmin
        have hoats' : f_X2_oats 0 (nI (wlk M)) W P strength = some (jI E) := hoats
        rw [hseat, bn2_some, hp1, bn1_some, hmin', bn1_some, e_asNow, bn2_some]
        change ∃ rr W P e' w' a' pl', _ ∧ bn4 (f_X9_crosses (s (Int32.toNatClampNeg 9)) (jI load) e0 (-1) t w1 at' pl) _ = _ ∧ _
        rw [hx', bn4_some]
        by_cases c4 : n2 = 0
        · subst c4
          refine ⟨jI (mAns M 120), W, P, jI E, wAft w1 at' (wlk M), at', pl', ?_, ?_, hrest⟩
          · rw [if_pos rfl]
          · rw [if_neg (by decide)]
            by_cases c5 : M = 0
            · rw [if_pos (em.mpr c5), g2.mpr c5]
            · rw [if_neg (fun z => c5 (em.mp z)), g3 c5]
        · refine ⟨jI E, W, P, jI E, wAft w1 at' (wlk M), at', pl', ?_, ?_, hrest⟩
          · rw [if_neg c4, jn1_if, g1, hoats', bn1_some]
          · rw [if_pos (show n2 = 1 by grind)]
    · by_cases c3 : n2 < 0
      · rw [if_pos c3, in_f c2, bn1_some, if_pos rfl]
        exact ⟨_, _, _, _, _, _, _, rfl, rfl, fun k _ => ⟨rfl, rfl⟩⟩
      · rw [if_neg c3, if_neg (show ¬ n2 ≤ 1 by grind), in_f c2, bn1_some, if_pos rfl]
        exact ⟨_, _, _, _, _, _, _, rfl, rfl, fun k _ => ⟨rfl, rfl⟩⟩
  · rw [if_neg c1, if_neg (by decide), in_f c1, bn1_some, if_pos rfl]
    exact ⟨_, _, _, _, _, _, _, rfl, rfl, fun k _ => ⟨rfl, rfl⟩⟩
/-- a horse, a place: or none -/
theorem hor_c {t : Nat → Int32} (ht : TW t) (h : Int32) : ((0 ≤ h ∧ h < t 3 ∧ h < 6) ↔ (0 ≤ h ∧ h < t 3)) ∧ ((0 ≤ h ∧ h < t 3) → ∃ k : Nat, k < 6 ∧ k < (t 3).toNatClampNeg ∧ h = nI k) := by
  obtain ⟨H, h6, e3, eH⟩ := hor_n ht
  have h36 := ht.1.2
  refine ⟨by grind, fun z => ?_⟩
  obtain ⟨k, hk, ek⟩ := nI_of (x := h) (by grind)
  subst ek
  have := z.2
  rw [e3, nI_ltI hk (by omega)] at this
  exact ⟨k, by omega, by omega, rfl⟩
theorem pla_c {P : Int32} (hp : 0 ≤ P ∧ P ≤ 3) (h : Int32) : ((0 ≤ h ∧ h < P ∧ h < 3) ↔ (0 ≤ h ∧ h < P)) ∧ ((0 ≤ h ∧ h < P) → ∃ k : Nat, k < 3 ∧ h = nI k) := by
  refine ⟨by grind, fun z => ?_⟩
  obtain ⟨k, hk, ek⟩ := nI_of2 (M := 2) (n := 2) rfl (x := h) (by grind) (by grind)
  exact ⟨k, by omega, ek⟩
theorem s6k {s st : Nat → Int32} (h : s 6 = st 0 ∧ s 7 = st 1 ∧ s 8 = st 2) {k : Nat} (hk : k < 3) : s (6 + k) = st k := by
  match k, hk with
  | 0, _ => exact h.1
  | 1, _ => exact h.2.1
  | 2, _ => exact h.2.2
theorem m_at {places th n1 : Int32} {t s stands : Nat → Int32} (hp : t 0 = places ∧ 0 ≤ places ∧ places ≤ 3) (h6 : s 6 = stands 0 ∧ s 7 = stands 1 ∧ s 8 = stands 2) :
    ∃ rr : Int32, f_X8_at n1 places stands = some rr ∧ f_X9_at n1 th t s = some (rr, 0) := by
  unfold f_X8_at f_X9_at
  rw [e_hasPlace, bn1_some, e_isPlace _ _ (by rw [hp.1]; exact hp.2.1), bn1_some, hp.1]
  by_cases c : 0 ≤ n1 ∧ n1 < places
  · obtain ⟨k, hk, ek⟩ := (pla_c hp.2 n1).2 c
    have e6 : (6 : Int32) + nI k = nI (6 + k) := nI_add 6 k
    rw [if_pos ((pla_c hp.2 n1).1.mpr c), if_pos c, if_neg (show ¬ (1 : Int32) = 0 by decide), if_neg (show ¬ (1 : Int32) = 0 by decide), ek, e6, if_neg (idx_ok rfl hk (by decide)), if_neg (idx_ok rfl (by omega) (by decide)), nI_clamp (by omega), nI_clamp (by omega), s6k h6 hk]
    exact ⟨_, rfl, rfl⟩
  · rw [if_neg (fun z => c ((pla_c hp.2 n1).1.mp z)), if_neg c, if_pos rfl, if_pos rfl]
    exact ⟨_, rfl, rfl⟩
theorem m_beside {horses th n1 n2 : Int32} {t moods : Nat → Int32} (ht : TW t) (h3 : horses = t 3) (hM : MOODS t moods) :
    ∃ rr : Int32, f_X8_beside n1 n2 horses moods = some rr ∧ f_X9_beside_ n1 n2 th t = some (rr, 0) := by
  unfold f_X8_beside f_X9_beside_
  rw [h3]
  rw [e_hasHorse, bn1_some, e_isHorse _ _ ht.1.1, bn1_some, e_hasHorse, bn1_some, e_isHorse _ _ ht.1.1, bn1_some]
  by_cases c : 0 ≤ n1 ∧ n1 < t 3
  · obtain ⟨k, hk, -, ek⟩ := (hor_c ht n1).2 c
    rw [if_pos ((hor_c ht n1).1.mpr c), if_pos c, if_neg (show ¬ (1 : Int32) = 0 by decide), if_neg (show ¬ (1 : Int32) = 0 by decide)]
    by_cases c2 : 0 ≤ n2 ∧ n2 < t 3
    · obtain ⟨j, hj, -, ej⟩ := (hor_c ht n2).2 c2
      rw [if_pos ((hor_c ht n2).1.mpr c2), if_pos c2, if_neg (show ¬ (1 : Int32) = 0 by decide), if_neg (show ¬ (1 : Int32) = 0 by decide)]
      by_cases c3 : n1 = n2
      · rw [if_pos c3, if_pos c3]; exact ⟨_, rfl, rfl⟩
      · rw [if_neg c3, if_neg c3, ek, ej, e_cmood_in hk hj, bn1_some]
        have ei : (((32 : Int32) + ((6 : Int32) * nI k)) + nI j) = nI (32 + 6 * k + j) := by
          rw [lit_n 32, lit_n 6, pk_mul, nI_add, nI_add]
        rw [ei, if_neg (idx_ok rfl (by omega) (by decide)), nI_clamp (by omega), hM k j hk hj]
        exact ⟨_, rfl, rfl⟩
    · rw [if_neg (fun z => c2 ((hor_c ht n2).1.mp z)), if_neg c2, if_pos rfl, if_pos rfl]
      exact ⟨_, rfl, rfl⟩
  · rw [if_neg (fun z => c ((hor_c ht n1).1.mp z)), if_neg c, if_pos rfl, if_pos rfl]
    exact ⟨_, rfl, rfl⟩
theorem m_cart {cartN th n1 : Int32} {t carts : Nat → Int32} (h4 : t 4 = cartN ∧ 0 ≤ cartN ∧ cartN ≤ 4) (hC : ∀ c : Nat, c < cartN.toNatClampNeg → t (80 + c) = carts c) :
    ∃ rr : Int32, f_X8_cart n1 cartN carts = some rr ∧ f_X9_cart n1 th t = some (rr, 0) := by
  unfold f_X8_cart f_X9_cart
  have q4 : t (Int32.toNatClampNeg 4) = cartN := h4.1
  rw [q4]
  by_cases c : 0 ≤ n1 ∧ n1 < cartN
  · obtain ⟨k, hk, ek⟩ := nI_of2 (M := 3) (n := 3) rfl (x := n1) (by grind) (by grind)
    have e8 : (80 : Int32) + nI k = nI (80 + k) := nI_add 80 k
    have hkc : k < cartN.toNatClampNeg := by
      have := c.2
      rw [ek, i_lt, nI_toInt (by omega)] at this
      rw [i_cl]; omega
    rw [if_neg (by grind), if_neg (by grind), if_pos (by grind), in_t c.1 (by grind), bn1_some, if_neg (show ¬ (1 : Int32) = 0 by decide), ek, e8, if_neg (idx_ok rfl (by omega) (by decide)), if_neg (idx_ok rfl (by omega) (by decide)), nI_clamp (by omega), nI_clamp (by omega), hC k hkc]
    exact ⟨_, rfl, rfl⟩
  · rw [in_f (by grind), bn1_some, if_pos rfl]
    by_cases c1 : n1 < 0
    · rw [if_pos c1]; exact ⟨_, rfl, rfl⟩
    · rw [if_neg c1, if_pos (by grind)]; exact ⟨_, rfl, rfl⟩
