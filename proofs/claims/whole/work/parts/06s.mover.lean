/-! PURE SIDE: CARTS: isOver, fewest; carts of both -/
theorem over_fr {w : Nat → Int32} {J : Int32 → (Nat → Int32) → (Nat → Int32) → (Nat → Int32) → (Nat → Int32) → Option (Int32 × Int32 × Int32 × Int32 × (Nat → Int32) × (Nat → Int32) × (Nat → Int32) × (Nat → Int32) × (Nat → Int32))} {e : Int32} {a6 b6 p9 : Nat → Int32} (fr : Nat → Int32) : lq2 (B_X9_isOver_2 J e w a6 b6 p9) fu 0 fr = J e w (upd (upd (upd a6 ((0 : Int32)).toNatClampNeg (b6 ((0 : Int32)).toNatClampNeg)) ((1 : Int32)).toNatClampNeg (b6 ((1 : Int32)).toNatClampNeg)) ((2 : Int32)).toNatClampNeg (b6 ((2 : Int32)).toNatClampNeg)) p9 (fA 0 6 (fun k _ => w k) fr) := by
  refine fillL (K := fun f => J e w _ p9 f) 0 6 (fun k _ => w k) (by omega) (fun rec k v hk => ?_) (fun rec v => ?_) fr
  · have h6 : ¬ (6 : Int32) ≤ nI k := nI_ge (b := 6) hk (by decide)
    have hc : (nI k).toNatClampNeg = k := nI_clamp (by omega)
    have h0 : ¬ nI k < 0 := nI_pos (by omega)
    unfold B_X9_isOver_2
    simp only [h6, hc, h0, if_false, false_or, show ¬ 6 ≤ k by omega, nI_1, Nat.zero_add]
  · rfl
theorem over_eq (n1 e half bm bo : Int32) (t s w a pl best tr fr : Nat → Int32) : f_X9_isOver n1 e half bm bo t s w a pl best tr fr = lq10 (B_X9_isOver_1 n1 (fun y e bm bo w a pl best fr => if y = 0 ∨ y = 1 then some (y, e, bm, bo, w, a, pl, best, fr) else none) tr t s half) fu 1 0 e bm bo w a pl best (fA 0 6 (fun k _ => s k) fr) := by
  unfold f_X9_isOver
  rw [e_fromNow, bn1_some, jn9_e]
  rfl
theorem at_best {a6 b6 : Nat → Int32} {q : Nat} (h : ∀ p, p < 3 → b6 p = rowA q p) : upd (upd (upd a6 ((0 : Int32)).toNatClampNeg (b6 ((0 : Int32)).toNatClampNeg)) ((1 : Int32)).toNatClampNeg (b6 ((1 : Int32)).toNatClampNeg)) ((2 : Int32)).toNatClampNeg (b6 ((2 : Int32)).toNatClampNeg) = at3 a6 (rowA q 0) (rowA q 1) (rowA q 2) := by
  have h0 : b6 ((0 : Int32)).toNatClampNeg = rowA q 0 := h 0 (by decide)
  have h1 : b6 ((1 : Int32)).toNatClampNeg = rowA q 1 := h 1 (by decide)
  have h2 : b6 ((2 : Int32)).toNatClampNeg = rowA q 2 := h 2 (by decide)
  rw [h0, h1, h2]
  rfl
theorem m_over {hour oats missed seed : Int32} {t strength stands s tr : Nat → Int32} {b : Int} {P H C k n : Nat} {l : List Nat}
    (ht : TW t) (hs : TS t) (hN : RNb b hour oats missed seed strength stands s t) (e0 : t 0 = nI P) (e3 : t 3 = nI H) (hP : P ≤ 3) (hH : H ≤ 6) (e4 : t 4 = nI C) (hC : C ≤ 4) (hcb : ∀ c, c < C → 0 ≤ (t (80 + c)).toInt ∧ (t (80 + c)).toInt ≤ 60) (hk : k < 1000000000) (ek : hour = nI k)
    (h4 : n ≤ 4) (hl : l.length = n) (bl : ∀ j, j < n → l.getD j 0 < 16) (htr : ∀ j, j < n → tr j = nI (l.getD j 0)) (e bm bo : Int32) (w a pl best fr : Nat → Int32) :
    ∃ (e' bm' bo' : Int32) (w' a' pl' best' fr' : Nat → Int32), f_X9_isOver (nI n) e (-1) bm bo t s w a pl best tr fr = some (if cOv P H C t l strength k = true then 1 else 0, e', bm', bo', w', a', pl', best', fr') := by
  obtain ⟨⟨s9, hh0, hhb⟩, -⟩ := id hN
  obtain ⟨hWB, hWE⟩ := asnow_f (fr := fr) ht hN
  rw [over_eq]
  have q9 : s (Int32.toNatClampNeg 9) = nI k := s9.trans ek
  refine lq10_inv (fun j y2 y3 e bm bo w a pl best fr => y3 = nI j ∧ ((y2 = 1 ∧ ∃ wj, WB t wj ∧ WEQ t fr wj ∧ cOv P H C t (l.drop j) wj (k + j) = cOv P H C t l strength k) ∨ (y2 = 0 ∧ cOv P H C t l strength k = false))) (fun z => ∃ (e' bm' bo' : Int32) (w' a' pl' best' fr' : Nat → Int32), z = some (if cOv P H C t l strength k = true then (1 : Int32) else 0, e', bm', bo', w', a', pl', best', fr')) n ?_ ?_ fu 0 1 0 e bm bo w a pl best (fA 0 6 (fun k _ => s k) fr) (by omega) (by unfold fu; omega) ⟨rfl, Or.inl ⟨rfl, strength, hWB, hWE, by rw [List.drop_zero, Nat.add_zero]⟩⟩
  · rintro rec j y2 y3 e bm bo w a pl best fr hj ⟨rfl, hS⟩
    unfold B_X9_isOver_1
    rw [if_neg (nI_ge hj (by omega))]
    rcases hS with ⟨rfl, wj, hWj, hEj, hov⟩ | ⟨rfl, hov⟩
    · left
      have hsb := bl j hj
      have hcw := cwt_b (t := t) (s := l.getD j 0) hcb C (Nat.le_refl _)
      have hld : 0 ≤ cwt t (l.getD j 0) C ∧ cwt t (l.getD j 0) C ≤ 240 := by omega
      rw [if_neg (show ¬ (1 : Int32) = 0 by decide), if_neg (idx_ok (k := j) rfl (show j < 4 by omega) (by decide)), nI_clamp (by omega), htr j hj, e_loadOf hsb hC e4, bn1_some, q9, nI_add, nI_1]
      obtain ⟨e', bm', bo', w', a', pl', best', f1, f2⟩ := m_finds (x := -1) (kh := k + j) ht hs hWj hEj e0 e3 hP hH (by omega) hld (Or.inl ⟨rfl, rfl⟩) e bm bo w a pl best
      have hfe : bst P H (-1) 120 0 (rMin t wj (tideS t (k + j) - cwt t (l.getD j 0) C)) (rEat t wj (tideS t (k + j) - cwt t (l.getD j 0) C)) 343 = cB P H C t wj (k + j) (l.getD j 0) := rfl
      rw [hfe] at f1 f2
      rw [drop_c (by omega)] at hov
      have hov' : (!decide ((cB P H C t wj (k + j) (l.getD j 0)).2.1 = 0) && cOv P H C t (l.drop (j + 1)) (tirS t (rowA (cB P H C t wj (k + j) (l.getD j 0)).1) wj (cB P H C t wj (k + j) (l.getD j 0)).2.1) (k + j + 1)) = cOv P H C t l strength k := hov
      rw [f1, bn8_some, jn5_e]
      by_cases cb : (cB P H C t wj (k + j) (l.getD j 0)).2.1 = 0
      · rw [if_pos cb, if_pos rfl]
        rw [cb] at hov'
        exact ⟨_, _, _, _, _, _, _, _, _, _, ⟨rfl, Or.inr ⟨rfl, hov'.symm⟩⟩, rfl⟩
      · rw [if_neg cb, if_neg (show ¬ (1 : Int32) = 0 by decide)]
        rw [decide_eq_false cb] at hov'
        obtain ⟨q, q1, q2, q3⟩ := (bst_is (P := P) (H := H) (x := -1) (W := 120) (ch := 0) (m := rMin t wj (tideS t (k + j) - cwt t (l.getD j 0) C)) (e := rEat t wj (tideS t (k + j) - cwt t (l.getD j 0) C)) 343).resolve_left cb
        have q3' : cB P H C t wj (k + j) (l.getD j 0) = (q, rMin t wj (tideS t (k + j) - cwt t (l.getD j 0) C) q, rEat t wj (tideS t (k + j) - cwt t (l.getD j 0) C) q) := q3
        have hbst := (f2.2 cb).2
        rw [q3'] at hbst hov'
        rw [at_best hbst, e_strong, bn1_some]
        have hw1 : WEQ t (fA 0 6 (fun k _ => fr k) w') wj := fun h hh => by
          have h6 : h < 6 := by rw [e3, nI_clamp (by omega)] at hh; omega
          rw [fA_0 h6]; exact hEj h hh
        have hWB1 : WB t (fA 0 6 (fun k _ => fr k) w') := fun h hh => by rw [hw1 h hh]; exact hWj h hh
        obtain ⟨pl2, hx⟩ := m_row (a0 := a') (pl := pl') (e := e') ht hs hWj hw1 e0 e3 hP hH (show k + j < 2147483648 by omega) hld q1 q2.1
        have hwk : wlk (rMin t wj (tideS t (k + j) - cwt t (l.getD j 0) C) q) = rMin t wj (tideS t (k + j) - cwt t (l.getD j 0) C) q := if_neg q2.2.2.1
        rw [hwk] at hx
        rw [hx, bn4_some]
        obtain ⟨hc, hd, hok, hqq, hm120, hea⟩ := row_f (push := tideS t (k + j) - cwt t (l.getD j 0) C) ht hs hWj e0 e3 hP hH q1 q2.1
        have ha : ∀ p, p < 3 → at3 a' (rowA q 0) (rowA q 1) (rowA q 2) p = rowA q p := fun p hp => at3_row hp a'
        obtain ⟨v, v1, v2⟩ := e_rests (w := wAft (fA 0 6 (fun k _ => fr k) w') (at3 a' (rowA q 0) (rowA q 1) (rowA q 2)) (rMin t wj (tideS t (k + j) - cwt t (l.getD j 0) C) q)) (a := at3 a' (rowA q 0) (rowA q 1) (rowA q 2)) (n := 1) (x2 := 0) ht hs (wAft_WB hs hWB1) (by omega)
        have v3 := aft_tir ht (CREW_ext ha hc) v2
        have v4 : WEQ t (fA 0 6 (fun k _ => v k) fr) (tirS t (rowA q) wj (rMin t wj (tideS t (k + j) - cwt t (l.getD j 0) C) q)) := fun h hh => by
          have h6 : h < 6 := by rw [e3, nI_clamp (by omega)] at hh; omega
          rw [fA_0 h6, v3 h hh, tirS_a ha, tirS_ext hw1 hh]
        have hWt : WB t (tirS t (rowA q) wj (rMin t wj (tideS t (k + j) - cwt t (l.getD j 0) C) q)) := tir_WB hs hWj (a := rowA q) (m := rMin t wj (tideS t (k + j) - cwt t (l.getD j 0) C) q) (fun _ _ => rfl)
        have v1' : f_X9_rests 1 0 t (wAft (fA 0 6 (fun k _ => fr k) w') (at3 a' (rowA q 0) (rowA q 1) (rowA q 2)) (rMin t wj (tideS t (k + j) - cwt t (l.getD j 0) C) q)) (at3 a' (rowA q 0) (rowA q 1) (rowA q 2)) = some v := v1
        rw [v1', bn1_some]
        have kb : ∀ (Z : Option (Int32 × Int32 × Int32 × Int32 × (Nat → Int32) × (Nat → Int32) × (Nat → Int32) × (Nat → Int32) × (Nat → Int32)) → Prop) (J : Int32 → (Nat → Int32) → (Nat → Int32) → (Nat → Int32) → (Nat → Int32) → Option (Int32 × Int32 × Int32 × Int32 × (Nat → Int32) × (Nat → Int32) × (Nat → Int32) × (Nat → Int32) × (Nat → Int32))) (e9 : Int32) (a9 p9 : Nat → Int32), Z (J e9 v a9 p9 (fA 0 6 (fun k _ => v k) fr)) → Z (lq2 (fun (rec12 : Int32 → (Nat → Int32) → Option (Int32 × Int32 × Int32 × Int32 × (Nat → Int32) × (Nat → Int32) × (Nat → Int32) × (Nat → Int32) × (Nat → Int32))) (y5 : Int32) (f12 : Nat → Int32) => if (6 : Int32) ≤ y5 then J e9 v a9 p9 f12 else if y5 < 0 ∨ 6 ≤ y5.toNatClampNeg then none else rec12 (y5 + 1) (upd f12 y5.toNatClampNeg (v y5.toNatClampNeg))) fu 0 fr) := fun Z J e9 a9 p9 hZ => by
          rw [fillL (K := fun f => J e9 v a9 p9 f) 0 6 (fun k _ => v k) (by omega) (fun rec k u hk => by
            have h6 : ¬ (6 : Int32) ≤ nI k := nI_ge (b := 6) hk (by decide)
            have hc : (nI k).toNatClampNeg = k := nI_clamp (by omega)
            have h0 : ¬ nI k < 0 := nI_pos (by omega)
            simp only [h6, hc, h0, if_false, false_or, show ¬ 6 ≤ k by omega, nI_1, Nat.zero_add]) (fun rec u => rfl) fr]
          exact hZ
        refine kb (fun o => ∃ b1 b2 b3 b4 b5 b6 b7 b8 b9 b10, (b2 = nI (j + 1) ∧ ((b1 = 1 ∧ ∃ wj, WB t wj ∧ WEQ t b10 wj ∧ cOv P H C t (l.drop (j + 1)) wj (k + (j + 1)) = cOv P H C t l strength k) ∨ (b1 = 0 ∧ cOv P H C t l strength k = false))) ∧ o = rec b1 b2 b3 b4 b5 b6 b7 b8 b9 b10) (fun e w a p f => rec 1 (nI (j + 1)) e bm' bo' w a p best' f) _ _ _ ?_
        exact ⟨_, _, _, _, _, _, _, _, _, _, ⟨rfl, Or.inl ⟨rfl, _, hWt, v4, hov'⟩⟩, rfl⟩
    · right
      rw [if_pos rfl]
      dsimp only
      rw [if_pos (Or.inl rfl), hov]
      exact ⟨_, _, _, _, _, _, _, _, rfl⟩
  · rintro rec y2 y3 e bm bo w a pl best fr ⟨rfl, hS⟩
    unfold B_X9_isOver_1
    rw [if_pos (Int32.le_refl _)]
    dsimp only
    rcases hS with ⟨rfl, wj, hWj, hEj, hov⟩ | ⟨rfl, hov⟩
    · rw [List.drop_eq_nil_of_le (by omega)] at hov
      have hov' : true = cOv P H C t l strength k := hov
      rw [if_pos (Or.inr rfl), ← hov']
      exact ⟨_, _, _, _, _, _, _, _, rfl⟩
    · rw [if_pos (Or.inl rfl), hov]
      exact ⟨_, _, _, _, _, _, _, _, rfl⟩
