/-! PURE SIDE: what is tried, row by row: SOONEST, CHEAPEST; the class's side -/
/-- minutes of row r (0: MISSED), what it eats -/
def rMin (t w : Nat → Int32) (push : Int) (r : Nat) : Nat := cMin (t 1) (t 2).toInt (rowA r) (pullP t (rowA r) (-1)) w push
def rEat (t w : Nat → Int32) (push : Int) (r : Nat) : Int := cEat (rowA r) (pullP t (rowA r) (-1)) w (rMin t w push r)
abbrev rHas (r : Nat) (x : Int32) : Prop := x ≠ -1 ∧ (rowA r 0 = x ∨ rowA r 1 = x ∨ rowA r 2 = x)
abbrev okS (P H : Nat) (x : Int32) (W : Nat) (m : Nat → Nat) (r : Nat) : Prop := okN P H r ∧ ¬ rHas r x ∧ m r ≠ 0 ∧ m r ≤ W
abbrev bet (ch : Int32) (m m0 : Nat) (e e0 : Int) : Prop := (ch = 0 ∧ (m < m0 ∨ (m = m0 ∧ e < e0))) ∨ (ch ≠ 0 ∧ (e < e0 ∨ (e = e0 ∧ m < m0)))
/-- the best of the rows below r: row, minutes (0: none), oats -/
def bst (P H : Nat) (x : Int32) (W : Nat) (ch : Int32) (m : Nat → Nat) (e : Nat → Int) : Nat → Nat × Nat × Int
  | 0 => (0, 0, 0)
  | r + 1 => if okS P H x W m r ∧ ((bst P H x W ch m e r).2.1 = 0 ∨ bet ch (m r) (bst P H x W ch m e r).2.1 (e r) (bst P H x W ch m e r).2.2) then (r, m r, e r) else bst P H x W ch m e r
theorem bst_s (P H : Nat) (x : Int32) (W : Nat) (ch : Int32) (m : Nat → Nat) (e : Nat → Int) (r : Nat) : bst P H x W ch m e (r + 1) = if okS P H x W m r ∧ ((bst P H x W ch m e r).2.1 = 0 ∨ bet ch (m r) (bst P H x W ch m e r).2.1 (e r) (bst P H x W ch m e r).2.2) then (r, m r, e r) else bst P H x W ch m e r := rfl
theorem bst_skip {P H : Nat} {x : Int32} {W : Nat} {ch : Int32} {m : Nat → Nat} {e : Nat → Int} {r : Nat} : ∀ d, (∀ j, r ≤ j → j < r + d → ¬ okN P H j) → bst P H x W ch m e (r + d) = bst P H x W ch m e r
  | 0, _ => rfl
  | d + 1, h => by
    show bst P H x W ch m e (r + d + 1) = _
    rw [bst_s, if_neg (fun z => h (r + d) (by omega) (by omega) z.1.1), bst_skip d (fun j h1 h2 => h j h1 (by omega))]
theorem bst_is {P H : Nat} {x : Int32} {W : Nat} {ch : Int32} {m : Nat → Nat} {e : Nat → Int} : ∀ r, (bst P H x W ch m e r).2.1 = 0 ∨ ∃ q, q < r ∧ okS P H x W m q ∧ bst P H x W ch m e r = (q, m q, e q)
  | 0 => Or.inl rfl
  | r + 1 => by
    rw [bst_s]
    by_cases c : okS P H x W m r ∧ ((bst P H x W ch m e r).2.1 = 0 ∨ bet ch (m r) (bst P H x W ch m e r).2.1 (e r) (bst P H x W ch m e r).2.2)
    · rw [if_pos c]; exact Or.inr ⟨r, by omega, c.1, rfl⟩
    · rw [if_neg c]
      rcases bst_is (P := P) (H := H) (x := x) (W := W) (ch := ch) (m := m) (e := e) r with h | ⟨q, h1, h2, h3⟩
      · exact Or.inl h
      · exact Or.inr ⟨q, by omega, h2, h3⟩
/-- a row that may be tried -/
theorem row_f {t w : Nat → Int32} {P H r : Nat} {push : Int} (ht : TW t) (hs : TS t) (hw : WB t w) (e0 : t 0 = nI P) (e3 : t 3 = nI H) (hP : P ≤ 3) (hH : H ≤ 6) (hr : r < 343) (ho : okN P H r) :
    CREW t (rowA r) ∧ DIST (rowA r) ∧ WOK w (rowA r) ∧ (∀ p, p < 3 → 0 ≤ pullP t (rowA r) (-1) p ∧ pullP t (rowA r) (-1) p ≤ 40) ∧ rMin t w push r ≤ 120 ∧ 0 ≤ rEat t w push r ∧ rEat t w push r ≤ 14400 := by
  have hc := row_crew ht e0 e3 hP hH hr ho
  have hq : ∀ p, p < 3 → 0 ≤ pullP t (rowA r) (-1) p ∧ pullP t (rowA r) (-1) p ≤ 40 := fun p hp => pullP_b ht hc hp
  have hk := WB_ok hs hw hc
  have hm : rMin t w push r ≤ 120 := cMin_b
  exact ⟨hc, row_dist hP hH hr ho, hk, hq, hm, cEat_b hq hk hm⟩
theorem rMin_ext {t u w : Nat → Int32} {push : Int} {r : Nat} (hc : CREW t (rowA r)) (h : WEQ t u w) : rMin t u push r = rMin t w push r := cMin_ext hc h
theorem BT_row {law places broad horses blinds tideN : Int32} {pull str back moods tides t : Nat → Int32} {P H r : Nat} (hB : BT law places broad horses blinds tideN pull str back moods tides t) (e0 : t 0 = nI P) (hP : P ≤ 3) (ho : okN P H r) : t 1 = law ∧ t 2 = broad ∧ 1 ≤ broad.toInt ∧ broad.toInt ≤ 999 := by
  obtain ⟨ht, hs, hSB, hPB, hCT, hlaw, ht1, ht2, hbr, ht0, hpl⟩ := hB
  have hP0 : P ≠ 0 := fun z => by
    subst z
    obtain ⟨h0, a0, a1, a2, d0, d1, d2⟩ := ho
    omega
  have hpl0 : places ≠ 0 := fun z => by
    rw [← ht0, e0] at z
    exact hP0 ((nI_eq (b := 0) (by omega) (by omega)).mp z)
  rw [if_neg hpl0] at ht1
  have h2 := ht.2.1.2
  rw [ht2] at h2
  exact ⟨ht1, ht2, (i_le _ _).mp (hbr.resolve_left hpl0), (i_le _ _).mp h2⟩
/-- what the class found so far -/
def StC (P H : Nat) (b : Nat × Nat × Int) (crew minutes oats : Int32) : Prop := (b.2.1 = 0 ∧ crew = -1) ∨ (b.2.1 ≠ 0 ∧ crew = nI (cntN P H b.1 + 1) ∧ minutes = nI b.2.1 ∧ oats = jI b.2.2)
theorem mAns_no {M W : Nat} (h : ¬ (M ≠ 0 ∧ M ≤ W)) : jI (mAns M W) = -1 := by
  unfold mAns; rw [if_neg h]; rfl
theorem mAns_yes {M W : Nat} (h : M ≠ 0 ∧ M ≤ W) : jI (mAns M W) = nI M := by
  unfold mAns; rw [if_pos h, jI_nat]
theorem cs_step {law places broad horses blinds tideN last x : Int32} {pull str back moods tides t who cp u w : Nat → Int32} {P H r : Nat} {push : Int} {K : Int32 → Int32 → Int32 → Option (Int32 × Int32 × Int32 × Int32)} {rec : Int32 → Int32 → Int32 → Int32 → Option (Int32 × Int32 × Int32 × Int32)}
    (hB : BT law places broad horses blinds tideN pull str back moods tides t) (e0 : t 0 = nI P) (e3 : t 3 = nI H) (hP : P ≤ 3) (hH : H ≤ 6) (hF : FST t P H 343 last who cp) (hw : WB t w) (hE : WEQ t u w) (hpu : -300 ≤ push ∧ push ≤ 300) (hr : r < 343) (ho : okN P H r)
    (crew minutes oats : Int32) (hSt : StC P H (bst P H x 120 0 (rMin t w push) (rEat t w push) r) crew minutes oats) :
    ∃ crew' minutes' oats', StC P H (bst P H x 120 0 (rMin t w push) (rEat t w push) (r + 1)) crew' minutes' oats' ∧ B_X7_findSoonest_1 last K x who cp u (jI push) law broad rec (nI (cntN P H r + 1)) crew minutes oats = rec (nI (cntN P H r + 1 + 1)) crew' minutes' oats' := by
  obtain ⟨ht, hs, hSB, hPB, hCT, hlaw, -, -, -, -, -⟩ := id hB
  obtain ⟨hl1, hl2, hbr⟩ := BT_row hB e0 hP ho
  have hwu : WB t u := fun h hh => by rw [hE h hh]; exact hw h hh
  obtain ⟨hc, hd, hok, hq, hm120, hea⟩ := row_f (push := push) ht hs hw e0 e3 hP hH hr ho
  have hoku := WB_ok hs hwu hc
  have hrow := hF.2 r hr ho
  have hlt := cnt_lt hr ho
  have h228 := cnt_228 hP hH
  have hbb : (bst P H x 120 0 (rMin t w push) (rEat t w push) r).2.1 = 0 ∨ ((bst P H x 120 0 (rMin t w push) (rEat t w push) r).2.1 ≤ 120 ∧ 0 ≤ (bst P H x 120 0 (rMin t w push) (rEat t w push) r).2.2 ∧ (bst P H x 120 0 (rMin t w push) (rEat t w push) r).2.2 ≤ 14400 ∧ cntN P H (bst P H x 120 0 (rMin t w push) (rEat t w push) r).1 < 228) := by
    rcases bst_is (P := P) (H := H) (x := x) (W := 120) (ch := 0) (m := rMin t w push) (e := rEat t w push) r with h | ⟨q, h1, h2, h3⟩
    · exact Or.inl h
    · rw [h3]
      have g := row_f (push := push) ht hs hw e0 e3 hP hH (show q < 343 by omega) h2.1
      have := cnt_lt (show q < 343 by omega) h2.1
      exact Or.inr ⟨h2.2.2.2, g.2.2.2.2.2.1, g.2.2.2.2.2.2, by show cntN P H q < 228; omega⟩
  rw [bst_s]
  generalize bst P H x 120 0 (rMin t w push) (rEat t w push) r = b at hSt hbb
  obtain ⟨br, bm, be⟩ := b
  have hM : cMin law broad.toInt (rowA r) (pullP t (rowA r) (-1)) u push = rMin t w push r := by
    rw [← hl1, ← hl2]; exact rMin_ext hc hE
  have hEa : cEat (rowA r) (pullP t (rowA r) (-1)) u (rMin t w push r) = rEat t w push r := cEat_ext hc hE
  obtain ⟨Wn, hWn, eW, hW0, hW1⟩ : ∃ Wn : Nat, Wn ≤ 120 ∧ (if crew = -1 then (120 : Int32) else minutes) = nI Wn ∧ (bm = 0 → Wn = 120 ∧ crew = -1) ∧ (bm ≠ 0 → Wn = bm ∧ crew ≠ -1 ∧ minutes = nI bm ∧ oats = jI be) := by
    rcases hSt with ⟨h1, h2⟩ | ⟨h1, h2, h3, h4⟩
    · exact ⟨120, Nat.le_refl _, by rw [if_pos h2]; rfl, fun _ => ⟨rfl, h2⟩, fun z => absurd h1 z⟩
    · have hn : crew ≠ -1 := by
        rw [h2]; refine nI_ne ?_
        have := (hbb.resolve_left h1).2.2.2
        omega
      exact ⟨bm, (hbb.resolve_left h1).1, by rw [if_neg hn]; exact h3, fun z => absurd z h1, fun _ => ⟨rfl, hn, h3, h4⟩⟩
  unfold B_X7_findSoonest_1
  rw [hF.1, if_neg (show ¬ nI (cntN P H 343) < nI (cntN P H r + 1) from nI_nlt (by omega) (by omega)), jn1_if, eW, e_takes hrow, bn1_some]
  dsimp only [jn1, jn3]
  by_cases ch : rHas r x
  · rw [if_pos ch, if_neg (show ¬ (1 : Int32) = 0 by decide), if_pos rfl, nI_1, if_neg (fun z => z.1.2.1 ch)]
    exact ⟨crew, minutes, oats, hSt, rfl⟩
  · rw [if_neg ch, if_pos rfl, e_minutes hrow hc hq hlaw hbr hpu hWn, bn1_some, hM]
    by_cases cm : rMin t w push r ≠ 0 ∧ rMin t w push r ≤ Wn
    · have hok1 : okS P H x 120 (rMin t w push) r := ⟨ho, ch, cm.1, hm120⟩
      rw [mAns_yes cm, if_neg (nI_ne (by omega)), e_oats hrow hc hoku hm120, bn1_some, hEa, nI_1]
      unfold f_X7_take
      rw [bn3_some]
      by_cases c0 : bm = 0
      · rw [if_pos (hW0 c0).2, if_pos ⟨hok1, Or.inl c0⟩]
        exact ⟨_, _, _, Or.inr ⟨cm.1, rfl, rfl, rfl⟩, rfl⟩
      · obtain ⟨g1, g2, g3, g4⟩ := hW1 c0
        obtain ⟨b1, b2, b3, b4⟩ := hbb.resolve_left c0
        dsimp only at b1 b2 b3 b4
        rw [if_neg g2, g3, g4]
        by_cases c1 : rMin t w push r < bm
        · rw [if_pos (nI_lt c1 (by omega)), if_pos ⟨hok1, Or.inr (Or.inl ⟨rfl, Or.inl c1⟩)⟩]
          exact ⟨_, _, _, Or.inr ⟨cm.1, rfl, rfl, rfl⟩, rfl⟩
        · rw [if_neg (nI_nlt (by omega) (by omega))]
          by_cases c2 : be ≤ rEat t w push r
          · rw [if_pos ((jI_le (by omega) (by omega) (by omega) (by omega)).mpr c2), if_neg]
            · exact ⟨_, _, _, Or.inr ⟨c0, (hSt.resolve_left (fun z => c0 z.1)).2.1, rfl, rfl⟩, rfl⟩
            · rintro ⟨-, z | ⟨-, z | z⟩ | z⟩
              · exact c0 z
              · exact c1 z
              · have z2 := z.2; omega
              · exact z.1 rfl
          · rw [if_neg (fun z => c2 ((jI_le (by omega) (by omega) (by omega) (by omega)).mp z)), if_pos]
            · exact ⟨_, _, _, Or.inr ⟨cm.1, rfl, rfl, rfl⟩, rfl⟩
            · refine ⟨hok1, Or.inr (Or.inl ⟨rfl, Or.inr ⟨?_, ?_⟩⟩)⟩
              · show rMin t w push r = bm; omega
              · show rEat t w push r < be; omega
    · rw [mAns_no cm, if_pos rfl, nI_1, if_neg]
      · exact ⟨crew, minutes, oats, hSt, rfl⟩
      · rintro ⟨z1, z2⟩
        by_cases c0 : bm = 0
        · rw [(hW0 c0).1] at cm; exact cm ⟨z1.2.2.1, hm120⟩
        · have g1 := (hW1 c0).1
          rcases z2 with z | ⟨-, z | z⟩ | z
          · exact c0 z
          · exact cm ⟨z1.2.2.1, by rw [g1]; exact Nat.le_of_lt z⟩
          · exact cm ⟨z1.2.2.1, by rw [g1]; exact Nat.le_of_eq z.1⟩
          · exact z.1 rfl
theorem soon_eq (n2 n3 crew minutes oats last law broad : Int32) (who cp u : Nat → Int32) : f_X7_findSoonest n2 n3 crew minutes oats last who cp law broad u = lq4 (B_X7_findSoonest_1 last (fun c m o => if c = -1 then some (0, c, m, o) else some (1, c, m, o)) n3 who cp u n2 law broad) fu 1 (-1) minutes oats := by
  unfold f_X7_findSoonest
  rw [jn3_d]
  rfl
theorem soonB_eq (n2 n3 crew minutes oats last law broad : Int32) (who cp u : Nat → Int32) : f_X7_findSoonestBtrested n2 n3 crew minutes oats u last who cp law broad = f_X7_findSoonest n2 n3 crew minutes oats last who cp law broad u := rfl
/-- findSoonest -/
theorem c_soon {law places broad horses blinds tideN last x : Int32} {pull str back moods tides t who cp u w : Nat → Int32} {P H : Nat} {push : Int}
    (hB : BT law places broad horses blinds tideN pull str back moods tides t) (e0 : t 0 = nI P) (e3 : t 3 = nI H) (hP : P ≤ 3) (hH : H ≤ 6) (hF : FST t P H 343 last who cp) (hw : WB t w) (hE : WEQ t u w) (hpu : -300 ≤ push ∧ push ≤ 300) (crew minutes oats : Int32) :
    ∃ crew' minutes' oats', f_X7_findSoonest (jI push) x crew minutes oats last who cp law broad u = some (if (bst P H x 120 0 (rMin t w push) (rEat t w push) 343).2.1 = 0 then 0 else 1, crew', minutes', oats') ∧ StC P H (bst P H x 120 0 (rMin t w push) (rEat t w push) 343) crew' minutes' oats' := by
  have h228 := cnt_228 hP hH
  rw [soon_eq]
  refine lq4_inv (fun k y c m o => y = nI (k + 1) ∧ ∃ r, r ≤ 343 ∧ cntN P H r = k ∧ StC P H (bst P H x 120 0 (rMin t w push) (rEat t w push) r) c m o) (fun z => ∃ crew' minutes' oats', z = some (if (bst P H x 120 0 (rMin t w push) (rEat t w push) 343).2.1 = 0 then (0 : Int32) else 1, crew', minutes', oats') ∧ StC P H (bst P H x 120 0 (rMin t w push) (rEat t w push) 343) crew' minutes' oats') (cntN P H 343) ?_ ?_ fu 0 1 (-1) minutes oats (by omega) (by unfold fu; omega) ⟨rfl, 0, by omega, rfl, Or.inl ⟨rfl, rfl⟩⟩
  · rintro rec k y c m o hk ⟨rfl, r, hr, hck, hst⟩
    obtain ⟨r', g1, g2, g3, g4, g5⟩ := nextV (P := P) (H := H) (k := k) (343 - r) r (by omega) hck hk
    have hb := bst_skip (P := P) (H := H) (x := x) (W := 120) (ch := 0) (m := rMin t w push) (e := rEat t w push) (r := r) (r' - r) (fun j h1 h2 => g5 j h1 (by omega))
    rw [show r + (r' - r) = r' by omega] at hb
    rw [← hb] at hst
    obtain ⟨c', m', o', q1, q2⟩ := cs_step (K := fun c m o => if c = -1 then some (0, c, m, o) else some (1, c, m, o)) (rec := rec) hB e0 e3 hP hH hF hw hE hpu g2 g3 c m o hst
    rw [g4] at q2
    exact Or.inl ⟨_, c', m', o', ⟨rfl, r' + 1, by omega, by rw [cntN_s, if_pos g3, g4], q1⟩, q2⟩
  · rintro rec y c m o ⟨rfl, r, hr, hck, hst⟩
    have hno : ∀ j, r ≤ j → j < r + (343 - r) → ¬ okN P H j := fun j h1 h2 ho => by
      have a1 := cnt_lt (show j < 343 by omega) ho
      have a2 := cnt_mono (P := P) (H := H) (r := r) (j - r)
      rw [show r + (j - r) = j by omega] at a2
      omega
    have hb := bst_skip (P := P) (H := H) (x := x) (W := 120) (ch := 0) (m := rMin t w push) (e := rEat t w push) (r := r) (343 - r) hno
    rw [show r + (343 - r) = 343 by omega] at hb
    rw [← hb] at hst
    unfold B_X7_findSoonest_1
    rw [hF.1, if_pos (nI_lt (by omega) (by omega))]
    refine ⟨c, m, o, ?_, hst⟩
    show (if c = -1 then some ((0 : Int32), c, m, o) else some (1, c, m, o)) = _
    rcases hst with ⟨h1, h2⟩ | ⟨h1, h2, h3, h4⟩
    · rw [if_pos h2, if_pos h1]
    · rw [if_neg h1, if_neg]
      rw [h2]
      rcases bst_is (P := P) (H := H) (x := x) (W := 120) (ch := 0) (m := rMin t w push) (e := rEat t w push) 343 with h | ⟨q, g1, g2, g3⟩
      · exact absurd h h1
      · rw [g3]
        have := cnt_lt g1 g2.1
        exact nI_ne (by show cntN P H q + 1 < _; omega)
