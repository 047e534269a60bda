/-! PURE SIDE: CHEAPEST, the class's side -/
theorem e_due {due : Int32} {W : Nat} (h : (if due = 0 then (60 : Int32) else due) = nI W) : f_X0_dueMinutes due = some (nI W) := by
  unfold f_X0_dueMinutes
  by_cases c : due = 0
  · rw [if_pos c]; rw [if_pos c] at h; rw [h]
  · rw [if_neg c]; rw [if_neg c] at h; rw [h]
theorem cc_step {law places broad horses blinds tideN last due : Int32} {pull str back moods tides t who cp u w : Nat → Int32} {P H W r : Nat} {push : Int} {K : Int32 → Int32 → Int32 → Option (Int32 × Int32 × Int32 × Int32)} {rec : Int32 → Int32 → Int32 → Int32 → Option (Int32 × Int32 × Int32 × Int32)}
    (hB : BT law places broad horses blinds tideN pull str back moods tides t) (e0 : t 0 = nI P) (e3 : t 3 = nI H) (hP : P ≤ 3) (hH : H ≤ 6) (hF : FST t P H 343 last who cp) (hw : WB t w) (hE : WEQ t u w) (hpu : -300 ≤ push ∧ push ≤ 300) (hdue : (if due = 0 then (60 : Int32) else due) = nI W) (hW : W ≤ 120) (hr : r < 343) (ho : okN P H r)
    (crew minutes oats : Int32) (hSt : StC P H (bst P H (-1) W 1 (rMin t w push) (rEat t w push) r) crew minutes oats) :
    ∃ crew' minutes' oats', StC P H (bst P H (-1) W 1 (rMin t w push) (rEat t w push) (r + 1)) crew' minutes' oats' ∧ B_X7_findCheapest_1 last K due (jI push) who cp law broad u rec (nI (cntN P H r + 1)) crew minutes oats = rec (nI (cntN P H r + 1 + 1)) crew' minutes' oats' := by
  obtain ⟨ht, hs, hSB, hPB, hCT, hlaw, -, -, -, -, -⟩ := id hB
  obtain ⟨hl1, hl2, hbr⟩ := BT_row hB e0 hP ho
  have hwu : WB t u := fun h hh => by rw [hE h hh]; exact hw h hh
  obtain ⟨hc, hd, hok, hq, hm120, hea⟩ := row_f (push := push) ht hs hw e0 e3 hP hH hr ho
  have hoku := WB_ok hs hwu hc
  have hrow := hF.2 r hr ho
  have hlt := cnt_lt hr ho
  have h228 := cnt_228 hP hH
  have hbb : (bst P H (-1) W 1 (rMin t w push) (rEat t w push) r).2.1 = 0 ∨ ((bst P H (-1) W 1 (rMin t w push) (rEat t w push) r).2.1 ≤ 120 ∧ 0 ≤ (bst P H (-1) W 1 (rMin t w push) (rEat t w push) r).2.2 ∧ (bst P H (-1) W 1 (rMin t w push) (rEat t w push) r).2.2 ≤ 14400 ∧ cntN P H (bst P H (-1) W 1 (rMin t w push) (rEat t w push) r).1 < 228) := by
    rcases bst_is (P := P) (H := H) (x := -1) (W := W) (ch := 1) (m := rMin t w push) (e := rEat t w push) r with h | ⟨q, h1, h2, h3⟩
    · exact Or.inl h
    · rw [h3]
      have g := row_f (push := push) ht hs hw e0 e3 hP hH (show q < 343 by omega) h2.1
      have := cnt_lt (show q < 343 by omega) h2.1
      exact Or.inr ⟨g.2.2.2.2.1, g.2.2.2.2.2.1, g.2.2.2.2.2.2, by show cntN P H q < 228; omega⟩
  rw [bst_s]
  generalize bst P H (-1) W 1 (rMin t w push) (rEat t w push) r = b at hSt hbb
  obtain ⟨br, bm, be⟩ := b
  have hM : cMin law broad.toInt (rowA r) (pullP t (rowA r) (-1)) u push = rMin t w push r := by
    rw [← hl1, ← hl2]; exact rMin_ext hc hE
  have hEa : cEat (rowA r) (pullP t (rowA r) (-1)) u (rMin t w push r) = rEat t w push r := cEat_ext hc hE
  have ch : ¬ rHas r (-1) := fun z => z.1 rfl
  unfold B_X7_findCheapest_1
  rw [hF.1, if_neg (show ¬ nI (cntN P H 343) < nI (cntN P H r + 1) from nI_nlt (by omega) (by omega)), e_due hdue, bn1_some, e_minutes hrow hc hq hlaw hbr hpu hW, bn1_some, hM]
  dsimp only [jn1, jn3]
  by_cases cm : rMin t w push r ≠ 0 ∧ rMin t w push r ≤ W
  · have hok1 : okS P H (-1) W (rMin t w push) r := ⟨ho, ch, cm.1, cm.2⟩
    rw [mAns_yes cm, if_neg (nI_ne (by omega)), e_oats hrow hc hoku hm120, bn1_some, hEa, nI_1]
    unfold f_X7_take
    rw [bn3_some]
    rcases hSt with ⟨h1, h2⟩ | ⟨h1, h2, h3, h4⟩
    · dsimp only at h1
      rw [if_pos h2, if_pos ⟨hok1, Or.inl h1⟩]
      exact ⟨_, _, _, Or.inr ⟨cm.1, rfl, rfl, rfl⟩, rfl⟩
    · dsimp only at h1 h2 h3 h4
      obtain ⟨b1, b2, b3, b4⟩ := hbb.resolve_left h1
      dsimp only at b1 b2 b3 b4
      have hcr : ¬ crew = -1 := by rw [h2]; exact nI_ne (by omega)
      rw [if_neg hcr, h3, h4]
      by_cases c1 : rEat t w push r < be
      · rw [if_pos ((jI_lt (by omega) (by omega) (by omega) (by omega)).mpr c1), if_pos ⟨hok1, Or.inr (Or.inr ⟨by decide, Or.inl c1⟩)⟩]
        exact ⟨_, _, _, Or.inr ⟨cm.1, rfl, rfl, rfl⟩, rfl⟩
      · rw [if_neg (fun z => c1 ((jI_lt (by omega) (by omega) (by omega) (by omega)).mp z))]
        by_cases c2 : rEat t w push r = be
        · rw [if_pos ((jI_eq (by omega) (by omega) (by omega) (by omega)).mpr c2)]
          by_cases c3 : bm ≤ rMin t w push r
          · rw [if_pos (nI_le c3 (by omega)), if_neg]
            · exact ⟨_, _, _, Or.inr ⟨h1, h2, rfl, rfl⟩, rfl⟩
            · rintro ⟨-, z | z | ⟨-, z | z⟩⟩
              · exact h1 z
              · exact absurd z.1 (by decide)
              · exact c1 z
              · have z2 := z.2; omega
          · rw [if_neg (nI_ge (by omega) (by omega)), if_pos]
            · exact ⟨_, _, _, Or.inr ⟨cm.1, rfl, rfl, rfl⟩, rfl⟩
            · refine ⟨hok1, Or.inr (Or.inr ⟨by decide, Or.inr ⟨c2, ?_⟩⟩)⟩
              show rMin t w push r < bm; omega
        · rw [if_neg (fun z => c2 ((jI_eq (by omega) (by omega) (by omega) (by omega)).mp z)), if_neg]
          · exact ⟨_, _, _, Or.inr ⟨h1, h2, rfl, rfl⟩, rfl⟩
          · rintro ⟨-, z | z | ⟨-, z | z⟩⟩
            · exact h1 z
            · exact absurd z.1 (by decide)
            · exact c1 z
            · exact c2 z.1
  · rw [mAns_no cm, if_pos rfl, nI_1, if_neg (fun z => cm ⟨z.1.2.2.1, z.1.2.2.2⟩)]
    exact ⟨crew, minutes, oats, hSt, rfl⟩
theorem cheap_eq (n2 crew minutes oats last law broad due : Int32) (who cp u : Nat → Int32) : f_X7_findCheapest n2 crew minutes oats last who cp law broad due u = lq4 (B_X7_findCheapest_1 last (fun c m o => if c = -1 then some (0, c, m, o) else some (1, c, m, o)) due n2 who cp law broad u) fu 1 (-1) minutes oats := by
  unfold f_X7_findCheapest
  rw [jn3_d]
  rfl
/-- findCheapest -/
theorem c_cheap {law places broad horses blinds tideN last due : Int32} {pull str back moods tides t who cp u w : Nat → Int32} {P H W : Nat} {push : Int}
    (hB : BT law places broad horses blinds tideN pull str back moods tides t) (e0 : t 0 = nI P) (e3 : t 3 = nI H) (hP : P ≤ 3) (hH : H ≤ 6) (hF : FST t P H 343 last who cp) (hw : WB t w) (hE : WEQ t u w) (hpu : -300 ≤ push ∧ push ≤ 300) (hdue : (if due = 0 then (60 : Int32) else due) = nI W) (hW : W ≤ 120) (crew minutes oats : Int32) :
    ∃ crew' minutes' oats', f_X7_findCheapest (jI push) crew minutes oats last who cp law broad due u = some (if (bst P H (-1) W 1 (rMin t w push) (rEat t w push) 343).2.1 = 0 then 0 else 1, crew', minutes', oats') ∧ StC P H (bst P H (-1) W 1 (rMin t w push) (rEat t w push) 343) crew' minutes' oats' := by
  have h228 := cnt_228 hP hH
  rw [cheap_eq]
  refine lq4_inv (fun k y c m o => y = nI (k + 1) ∧ ∃ r, r ≤ 343 ∧ cntN P H r = k ∧ StC P H (bst P H (-1) W 1 (rMin t w push) (rEat t w push) r) c m o) (fun z => ∃ crew' minutes' oats', z = some (if (bst P H (-1) W 1 (rMin t w push) (rEat t w push) 343).2.1 = 0 then (0 : Int32) else 1, crew', minutes', oats') ∧ StC P H (bst P H (-1) W 1 (rMin t w push) (rEat t w push) 343) crew' minutes' oats') (cntN P H 343) ?_ ?_ fu 0 1 (-1) minutes oats (by omega) (by unfold fu; omega) ⟨rfl, 0, by omega, rfl, Or.inl ⟨rfl, rfl⟩⟩
  · rintro rec k y c m o hk ⟨rfl, r, hr, hck, hst⟩
    obtain ⟨r', g1, g2, g3, g4, g5⟩ := nextV (P := P) (H := H) (k := k) (343 - r) r (by omega) hck hk
    have hb := bst_skip (P := P) (H := H) (x := -1) (W := W) (ch := 1) (m := rMin t w push) (e := rEat t w push) (r := r) (r' - r) (fun j h1 h2 => g5 j h1 (by omega))
    rw [show r + (r' - r) = r' by omega] at hb
    rw [← hb] at hst
    obtain ⟨c', m', o', q1, q2⟩ := cc_step (K := fun c m o => if c = -1 then some (0, c, m, o) else some (1, c, m, o)) (rec := rec) hB e0 e3 hP hH hF hw hE hpu hdue hW g2 g3 c m o hst
    rw [g4] at q2
    exact Or.inl ⟨_, c', m', o', ⟨rfl, r' + 1, by omega, by rw [cntN_s, if_pos g3, g4], q1⟩, q2⟩
  · rintro rec y c m o ⟨rfl, r, hr, hck, hst⟩
    have hno : ∀ j, r ≤ j → j < r + (343 - r) → ¬ okN P H j := fun j h1 h2 ho => by
      have a1 := cnt_lt (show j < 343 by omega) ho
      have a2 := cnt_mono (P := P) (H := H) (r := r) (j - r)
      rw [show r + (j - r) = j by omega] at a2
      omega
    have hb := bst_skip (P := P) (H := H) (x := -1) (W := W) (ch := 1) (m := rMin t w push) (e := rEat t w push) (r := r) (343 - r) hno
    rw [show r + (343 - r) = 343 by omega] at hb
    rw [← hb] at hst
    unfold B_X7_findCheapest_1
    rw [hF.1, if_pos (nI_lt (by omega) (by omega))]
    refine ⟨c, m, o, ?_, hst⟩
    show (if c = -1 then some ((0 : Int32), c, m, o) else some (1, c, m, o)) = _
    rcases hst with ⟨h1, h2⟩ | ⟨h1, h2, h3, h4⟩
    · rw [if_pos h2, if_pos h1]
    · rw [if_neg h1, if_neg]
      rw [h2]
      rcases bst_is (P := P) (H := H) (x := -1) (W := W) (ch := 1) (m := rMin t w push) (e := rEat t w push) 343 with h | ⟨q, g1, g2, g3⟩
      · exact absurd h h1
      · rw [g3]
        have := cnt_lt g1 g2.1
        exact nI_ne (by show cntN P H q + 1 < _; omega)
