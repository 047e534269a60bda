/-! PURE SIDE: what the relation of the two ferries gives; a crossing of both -/
/-- all that a crossing looks at -/
def BT (law places broad horses blinds tideN : Int32) (pull str back moods tides t : Nat → Int32) : Prop :=
  TW t ∧ TS t ∧ SB str back t ∧ PB horses blinds pull moods t ∧ CT tideN tides t ∧ (law = 0 ∨ law = 1) ∧ (t 1 = if places = 0 then -1 else law) ∧ t 2 = broad ∧ (places = 0 ∨ 1 ≤ broad) ∧ t 0 = places ∧ (0 ≤ places ∧ places ≤ 3)
theorem RB_BT {law places broad horses blinds tideN cartN due : Int32} {pull str back moods tides carts t : Nat → Int32} (h : RB law places broad horses blinds tideN cartN due pull str back moods tides carts t) : BT law places broad horses blinds tideN pull str back moods tides t := by
  obtain ⟨⟨a1, a2, a3⟩, b1, b2, ⟨c1, c2, c3, c4⟩, ⟨d1, d2, d3⟩, -, -, ⟨e1, e2, e3⟩, hh, hm, htd, -⟩ := h
  have f1 : ∀ x : Int32, (1 : Int32) ≤ x → 1 ≤ x.toInt := fun x h => (i_le _ _).mp h
  have f2 : ∀ x : Int32, (0 : Int32) ≤ x → 0 ≤ x.toInt := fun x h => (i_le _ _).mp h
  have f3 : ∀ x : Int32, x ≤ (200 : Int32) → x.toInt ≤ 200 := fun x h => (i_le _ _).mp h
  have f4 : ∀ x : Int32, x ≤ (60 : Int32) → x.toInt ≤ 60 := fun x h => (i_le _ _).mp h
  refine ⟨⟨⟨by rw [d1]; exact d2, by rw [d1]; exact d3⟩, ⟨by rw [c1]; exact c2, by rw [c1]; exact c3⟩, ⟨by rw [e1]; exact e2, by rw [e1]; exact e3⟩, ?_, ?_, ?_⟩, ?_, ?_, ⟨d1.symm, ?_, ?_⟩, ⟨e1, ?_⟩, b2, b1, c1, c4, a1, a2, a3⟩
  · intro h hh2
    rw [d1] at hh2
    obtain ⟨⟨x1, x2, x3⟩, -⟩ := hh h hh2
    rw [x1]; exact ⟨x2, x3⟩
  · intro a b ha hb
    obtain ⟨x1, x2, x3⟩ := hm a b ha hb
    grind
  · intro i hi
    rw [e1] at hi
    obtain ⟨x1, x2, x3⟩ := htd i hi
    rw [x1]; exact ⟨x2, x3⟩
  · intro h hh2
    rw [d1] at hh2
    obtain ⟨-, ⟨x1, x2, x3⟩, ⟨y1, y2, y3⟩, -⟩ := hh h hh2
    rw [x1, y1]
    exact ⟨⟨f1 _ x2, f3 _ x3⟩, ⟨f2 _ y2, f4 _ y3⟩⟩
  · intro h hh2
    rw [d1] at hh2
    obtain ⟨-, ⟨x1, x2, x3⟩, ⟨y1, y2, y3⟩, -⟩ := hh h hh2
    exact ⟨x1, y1⟩
  · intro a b ha hb
    exact (hm a b ha hb).1
  · intro h hh2
    rw [d1] at hh2
    obtain ⟨⟨x1, -, -⟩, -, -, y⟩ := hh h hh2
    exact ⟨x1, y⟩
  · intro i hi
    exact (htd i hi).1
theorem STND_CREW {t a : Nat → Int32} (ht : TW t) (h : STND (t 0) (t 3) a) : CREW t a := by
  obtain ⟨H, h6, e3, eH⟩ := hor_n ht
  intro p hp
  rcases h.1 p hp with e | ⟨h1, h2, -⟩
  · exact Or.inl e
  · refine Or.inr ⟨(a p).toNatClampNeg, ?_, ?_, ?_⟩ <;> rw [i_le] at h1 <;> rw [i_lt] at h2 <;> have h0 : ((0 : Int32)).toInt = 0 := rfl
    · rw [i_cl, i_cl]; omega
    · rw [i_cl]; rw [i_cl] at eH; omega
    · rw [i_eq, nI_toInt (by rw [i_cl]; rw [i_cl] at eH; omega), i_cl]; omega
theorem STND_DIST {p h : Int32} {a : Nat → Int32} (h : STND p h a) : DIST a := h.2
theorem STND_places {t a : Nat → Int32} (h : STND (t 0) (t 3) a) {p : Nat} (hp : p < 3) (hn : a p ≠ -1) : t 0 ≠ 0 := by
  rcases h.1 p hp with e | ⟨-, -, h3⟩
  · exact absurd e hn
  · intro e
    rw [e] at h3
    exact nI_pos (by omega) h3
theorem STND_ext {p h : Int32} {a b : Nat → Int32} (e : ∀ k, k < 3 → b k = a k) (hs : STND p h a) : STND p h b := by
  unfold STND at *
  rw [e 0 (by decide), e 1 (by decide), e 2 (by decide)]
  exact ⟨fun k hk => by rw [e k hk]; exact hs.1 k hk, hs.2⟩
theorem e_isEmpty (a : Nat → Int32) : f_X5_isEmpty a = some (if a 0 = -1 ∧ a 1 = -1 ∧ a 2 = -1 then 1 else 0) := by
  unfold f_X5_isEmpty
  show (if a 0 = -1 then if a 1 = -1 then if a 2 = -1 then _ else _ else _ else _) = _
  grind
theorem e_isNobody (s : Nat → Int32) : f_X9_isNobody s = some (if s 6 = -1 ∧ s 7 = -1 ∧ s 8 = -1 then 1 else 0) := by
  unfold f_X9_isNobody
  show (if s 6 = -1 then if s 7 = -1 then if s 8 = -1 then _ else _ else _ else _) = _
  grind
theorem e_seatStanding {t a pull moods who cp stands : Nat → Int32} {horses blinds : Int32} (ht : TW t) (ha : CREW t a) (hB : PB horses blinds pull moods t) (e : ∀ p, p < 3 → stands p = a p) :
    ∃ W P : Nat → Int32, f_X8_seatStanding horses blinds pull moods who cp stands = some (W, P) ∧ ROW W P 0 a (pullP t a (-1)) ∧ ∀ k : Nat, 3 ≤ k → W k = who k ∧ P k = cp k := by
  obtain ⟨W, P, h1, h2, h3⟩ := e_seat (who := who) (cp := cp) (c := 0) ht ha hB (by omega)
  refine ⟨W, P, ?_, h2, fun k hk => h3 k (by omega)⟩
  unfold f_X8_seatStanding
  change bn2 (f_X2_seat 0 (stands 0) (stands 1) (stands 2) who cp horses blinds pull moods) _ = _
  rw [e 0 (by decide), e 1 (by decide), e 2 (by decide), show (0 : Int32) = nI 0 from rfl, h1, bn2_some]
/-- hours are numbers -/
theorem hour_n {x : Int32} (h : 0 ≤ x) : ∃ k : Nat, k < 2147483648 ∧ x = nI k ∧ x.toInt = k := by
  obtain ⟨k, h1, h2⟩ := nI_of (x := x) (by rw [i_le] at h; rw [i_lt]; omega)
  exact ⟨k, by omega, h2, by rw [h2, nI_toInt (by omega)]⟩
theorem load_n {x : Int32} (h : 0 ≤ x) (h2 : x ≤ 240) : ∃ l : Int, (0 ≤ l ∧ l ≤ 240) ∧ x = jI l := ⟨x.toInt, by rw [i_le] at h h2; exact ⟨h, h2⟩, (jI_self x).symm⟩
theorem mAns_120 {M : Nat} (h : M ≤ 120) : (if jI (mAns M 120) = -1 then (120 : Int32) else jI (mAns M 120)) = nI (wlk M) ∧ (jI (mAns M 120) = -1 ↔ M = 0) ∧ (M ≠ 0 → jI (mAns M 120) = nI M) := by
  unfold wlk
  by_cases c : M = 0
  · have e : mAns M 120 = -1 := if_neg (fun z => z.1 c)
    rw [e, if_pos c]; exact ⟨rfl, ⟨fun _ => c, fun _ => rfl⟩, fun z => absurd c z⟩
  · have e : mAns M 120 = M := if_pos ⟨c, h⟩
    rw [e, ← jI_nat, if_neg (nI_ne (by omega)), if_neg c]; exact ⟨rfl, ⟨fun z => absurd z (nI_ne (by omega)), fun z => absurd z c⟩, fun _ => rfl⟩
theorem m_crossOver {law places broad horses blinds tideN hour oats missed seed pk gk e0 : Int32} {pull str back moods tides t strength stands s who cp w a pl : Nat → Int32} {b load : Int}
    (hB : BT law places broad horses blinds tideN pull str back moods tides t) (hN : RNb b hour oats missed seed strength stands s t) (hb : b < 2000000000) (hl : 0 ≤ load ∧ load ≤ 240) (hne : ¬ (stands 0 = -1 ∧ stands 1 = -1 ∧ stands 2 = -1)) :
    ∃ (rr : Int32) (W P : Nat → Int32) (oats' missed' : Int32) (strength' : Nat → Int32) (eaten' : Int32) (s' w' at' pl' : Nat → Int32),
      f_X8_crossOver (jI load) law broad horses blinds tideN pull str back moods tides who cp hour oats missed strength stands pk gk = some (rr, W, P, hour + 1, oats', missed', strength', 0, 0) ∧
      f_X9_crossed (jI load) e0 (-1) t s w a pl = some (rr, eaten', s', w', at', pl') ∧ RNb (b + 1) (hour + 1) oats' missed' seed strength' stands s' t ∧ ∀ k : Nat, 3 ≤ k → W k = who k ∧ P k = cp k := by
  obtain ⟨ht, hs, hSB, hPB, hCT, hlaw, ht1, ht2, hbr, ht0, hpl⟩ := hB
  obtain ⟨⟨s9, hh0, hhb⟩, ⟨s10, ho0, ho1⟩, s11, ⟨s12, hseed⟩, ⟨s6, s7, s8⟩, hst, hstr⟩ := hN
  obtain ⟨k, hk, ek, ekI⟩ := hour_n hh0
  let at' : Nat → Int32 := fA 0 3 (fun k _ => s (6 + k)) a
  let w1 : Nat → Int32 := fA 0 6 (fun k _ => s k) w
  have ea : ∀ p, p < 3 → stands p = at' p := fun p hp => by
    show _ = fA 0 3 _ a p
    rw [fA_0 hp]
    match p, hp with
    | 0, _ => exact s6.symm
    | 1, _ => exact s7.symm
    | 2, _ => exact s8.symm
  have hst' : STND (t 0) (t 3) at' := STND_ext (fun p hp => (ea p hp).symm) hst
  have hcr : CREW t at' := STND_CREW ht hst'
  have hdi : DIST at' := STND_DIST hst'
  obtain ⟨H, h6, e3, eH⟩ := hor_n ht
  have hw1 : ∀ h, h < (t 3).toNatClampNeg → w1 h = strength h := fun h hh => by
    show fA 0 6 _ w h = _
    rw [fA_0 (by omega)]; exact (hstr h hh).1
  have hWB : WB t strength := fun h hh => by
    have := hstr h hh
    rw [i_le, i_le] at this
    exact this.2
  have hWB1 : WB t w1 := fun h hh => by rw [hw1 h hh]; exact hWB h hh
  have hWEQ : WEQ t strength w1 := fun h hh => (hw1 h hh).symm
  have hwok := WB_ok hs hWB1 hcr
  have hwokc := WB_ok hs hWB hcr
  have hpl0 : t 0 ≠ 0 := by
    by_cases c0 : stands 0 = -1
    · by_cases c1 : stands 1 = -1
      · exact STND_places hst (p := 2) (by decide) (fun z => hne ⟨c0, c1, z⟩)
      · exact STND_places hst (p := 1) (by decide) c1
    · exact STND_places hst (p := 0) (by decide) c0
  rw [ht0] at hpl0
  rw [if_neg hpl0] at ht1
  have hbr1 : 1 ≤ broad.toInt ∧ broad.toInt ≤ 999 := by
    have h2 := ht.2.1.2
    rw [ht2] at h2
    exact ⟨(i_le _ _).mp (hbr.resolve_left hpl0), (i_le _ _).mp h2⟩
  have htd := tideS_b ht k
  have hq : ∀ p, p < 3 → 0 ≤ pullP t at' (-1) p ∧ pullP t at' (-1) p ≤ 40 := fun p hp => pullP_b ht hcr hp
  -- the reference
  obtain ⟨pl', hx⟩ := e_crosses (half := -1) ht hcr hdi hwok hk hl e0 pl
  -- the class
  obtain ⟨W, P, hseat, hrow, hrest⟩ := e_seatStanding (who := who) (cp := cp) ht hcr hPB ea
  have hmin := e_minutes (t := t) (u := strength) (law := law) (broad := broad) (within := 120) (push := tideS t k - load) hrow hcr hq hlaw hbr1 (by omega) (by omega)
  rw [cMin_ext hcr hWEQ] at hmin
  rw [ht1, ht2] at hx
  generalize hM : cMin law broad.toInt at' (pullP t at' (-1)) w1 (tideS t k - load) = M at hx hmin
  have hMb : M ≤ 120 := by rw [← hM]; exact cMin_b
  obtain ⟨g1, g2, g3⟩ := mAns_120 hMb
  have hwl := wlk_b hMb
  have hoats := e_oats (t := t) (u := strength) hrow hcr hwokc hwl
  rw [cEat_ext hcr hWEQ] at hoats
  have heb := cEat_b hq hwok hwl
  generalize hE : cEat at' (pullP t at' (-1)) w1 (wlk M) = E at hx hoats heb
  obtain ⟨v, hv, hv2⟩ := e_tireA (u := strength) ht hs hWB hSB hrow hwl
  obtain ⟨v9, hv9, hv92⟩ := e_rests (w := wAft w1 at' (wlk M)) (a := at') (n := 1) (x2 := 0) ht hs (wAft_WB hs hWB1) (by omega)
  have hv93 := aft_tir ht hcr hv92
  have hvv : ∀ h, h < (t 3).toNatClampNeg → v9 h = v h := fun h hh => by rw [hv93 h hh, hv2 h hh, tirS_ext hWEQ hh]
  have hvb := tir_WB hs hWB hv2
  have eH3 : horses = t 3 := hPB.1
  let oats' : Int32 := if oats + jI E < 999999999 then oats + jI E else 999999999
  let missed' : Int32 := if M = 0 then missed + 1 else missed
  let s4 : Nat → Int32 := fA 0 6 (fun k _ => v9 k) s
  let s' : Nat → Int32 := upd (upd (upd s4 9 (s4 9 + 1)) 10 oats') 11 ((upd (upd s4 9 (s4 9 + 1)) 10 oats') 11 + if M = 0 then 1 else 0)
  have s4o : ∀ j, 6 ≤ j → s4 j = s j := fun j hj => fA_0n hj
  have hoI : 0 ≤ oats.toInt ∧ oats.toInt ≤ 999999999 := by rw [i_le] at ho0 ho1; exact ⟨ho0, ho1⟩
  have eo : oats + jI E = jI (oats.toInt + E) := by rw [← jI_add, jI_self]
  have ob : oats' = jI (mnI (oats.toInt + E) 999999999) ∧ (if oats + jI E ≤ 999999999 then oats + jI E else 999999999) = oats' := by
    show (if oats + jI E < 999999999 then oats + jI E else 999999999) = _ ∧ _ = (if oats + jI E < 999999999 then oats + jI E else 999999999)
    rw [eo]
    have q1 : jI (oats.toInt + E) < 999999999 ↔ oats.toInt + E < 999999999 := by rw [show (999999999 : Int32) = jI 999999999 from rfl, jI_lt (by omega) (by omega) (by omega) (by omega)]
    have q2 : jI (oats.toInt + E) ≤ 999999999 ↔ oats.toInt + E ≤ 999999999 := by rw [show (999999999 : Int32) = jI 999999999 from rfl, jI_le (by omega) (by omega) (by omega) (by omega)]
    unfold mnI
    by_cases c1 : oats.toInt + E < 999999999
    · rw [if_pos (q1.mpr c1), if_pos (q2.mpr (by omega)), if_pos (by omega)]; exact ⟨rfl, rfl⟩
    · rw [if_neg (fun z => c1 (q1.mp z))]
      by_cases c2 : oats.toInt + E ≤ 999999999
      · rw [if_pos c2, if_pos (q2.mpr c2), show oats.toInt + E = 999999999 by omega]; exact ⟨rfl, rfl⟩
      · rw [if_neg c2, if_neg (fun z => c2 (q2.mp z))]; exact ⟨rfl, rfl⟩
  refine ⟨jI (mAns M 120), W, P, oats', missed', v, jI E, s', v9, at', pl', ?_, ?_, ?_, hrest⟩
  · unfold f_X8_crossOver f_X8_push f_X8_forgetTried
    rw [hseat, bn2_some, ek, e_ctide ht hCT hk, bn1_some, bn1_some, jI_sub, show (0 : Int32) = nI 0 from rfl, show (120 : Int32) = nI 120 from rfl, hmin, bn1_some, jn1_if, show nI 120 = (120 : Int32) from rfl, g1, hoats, bn1_some, jn1_if, eH3, hv, bn1_some, bn2_some]
    have : (if jI (mAns M 120) = -1 then missed + 1 else missed) = missed' := by
      show _ = if M = 0 then missed + 1 else missed
      by_cases c : M = 0
      · rw [if_pos (g2.mpr c), if_pos c]
      · rw [if_neg (fun z => c (g2.mp z)), if_neg c]
    rw [this]
  · unfold f_X9_crossed
    rw [e_asNow, bn2_some]
    change bn4 (f_X9_crosses (s 9) (jI load) e0 (-1) t w1 at' pl) _ = _
    rw [s9, ek, hx, bn4_some]
    rw [show (1 : Int32) = nI 1 from rfl, hv9, bn1_some, e_becomesSo, bn1_some]
    change jn1 _ (fun J => if upd s4 9 (s4 9 + 1) 10 + jI E ≤ 999999999 then J (upd s4 9 (s4 9 + 1) 10 + jI E) else J 999999999) = _
    rw [jn1_if, upd_n (by decide), s4o 10 (by decide), s10, ob.2]
    change jn1 _ (fun J => if nI M = 0 then J 1 else J 0) = _
    rw [jn1_if]
    have em : (nI M = 0) ↔ M = 0 := by rw [show (0 : Int32) = nI 0 from rfl, nI_eq (by omega) (by omega)]
    by_cases c : M = 0
    · rw [if_pos (em.mpr c), if_pos (em.mpr c)]
      have : s' = upd (upd (upd s4 9 (s4 9 + 1)) 10 oats') 11 ((upd (upd s4 9 (s4 9 + 1)) 10 oats') 11 + 1) := by
        show upd (upd (upd s4 9 (s4 9 + 1)) 10 oats') 11 ((upd (upd s4 9 (s4 9 + 1)) 10 oats') 11 + if M = 0 then 1 else 0) = _
        rw [if_pos c]
      rw [this, g2.mpr c]
      rfl
    · rw [if_neg (fun z => c (em.mp z)), if_neg (fun z => c (em.mp z))]
      have : s' = upd (upd (upd s4 9 (s4 9 + 1)) 10 oats') 11 ((upd (upd s4 9 (s4 9 + 1)) 10 oats') 11 + 0) := by
        show upd (upd (upd s4 9 (s4 9 + 1)) 10 oats') 11 ((upd (upd s4 9 (s4 9 + 1)) 10 oats') 11 + if M = 0 then 1 else 0) = _
        rw [if_neg c]
      rw [this, g3 c]
      rfl
  · have hs'o : ∀ j, j ≠ 9 → j ≠ 10 → j ≠ 11 → s' j = s4 j := fun j h1 h2 h3 => by
      show upd (upd (upd s4 9 (s4 9 + 1)) 10 oats') 11 _ j = _
      rw [upd_n h3, upd_n h2, upd_n h1]
    have hmb : 0 ≤ mnI (oats.toInt + E) 999999999 ∧ mnI (oats.toInt + E) 999999999 ≤ 999999999 := by
      unfold mnI
      by_cases c : oats.toInt + E ≤ 999999999
      · rw [if_pos c]; omega
      · rw [if_neg c]; omega
    refine ⟨⟨?_, ?_, ?_⟩, ⟨?_, ?_, ?_⟩, ?_, ⟨?_, hseed⟩, ⟨?_, ?_, ?_⟩, hst, ?_⟩
    · show upd (upd (upd s4 9 (s4 9 + 1)) 10 oats') 11 _ 9 = _
      rw [upd_n (by decide), upd_n (by decide), upd_s, s4o 9 (by decide), s9]
    · rw [ek, nI_1]; exact nI_pos' (by omega)
    · rw [ek, nI_1, nI_toInt (by omega)]; omega
    · show upd (upd (upd s4 9 (s4 9 + 1)) 10 oats') 11 _ 10 = _
      rw [upd_n (by decide), upd_s]
    · rw [ob.1, show (0 : Int32) = jI 0 from rfl, jI_le (by omega) (by omega) (by omega) (by omega)]; omega
    · rw [ob.1, show (999999999 : Int32) = jI 999999999 from rfl, jI_le (by omega) (by omega) (by omega) (by omega)]; omega
    · show upd (upd (upd s4 9 (s4 9 + 1)) 10 oats') 11 _ 11 = if M = 0 then missed + 1 else missed
      rw [upd_s, upd_n (by decide), upd_n (by decide), s4o 11 (by decide), s11]
      by_cases c : M = 0
      · rw [if_pos c, if_pos c]
      · rw [if_neg c, if_neg c, Int32.add_zero]
    · rw [hs'o 12 (by decide) (by decide) (by decide), s4o 12 (by decide), s12]
    · rw [hs'o 6 (by decide) (by decide) (by decide), s4o 6 (by decide), s6]
    · rw [hs'o 7 (by decide) (by decide) (by decide), s4o 7 (by decide), s7]
    · rw [hs'o 8 (by decide) (by decide) (by decide), s4o 8 (by decide), s8]
    · intro h hh
      have : s' h = v9 h := by
        rw [hs'o h (by omega) (by omega) (by omega)]
        show fA 0 6 _ s h = _
        rw [fA_0 (by omega)]
      rw [this, hvv h hh]
      have hb2 := hvb h hh
      refine ⟨rfl, (i_le _ _).mpr hb2.1, (i_le _ _).mpr hb2.2⟩
