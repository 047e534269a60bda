/-! PURE SIDE: soonest, cheapest, worth of both -/
theorem e_isAsked {p l : Int32} {t : Nat → Int32} (h0 : 0 ≤ t 0) : f_X9_isAsked p l t = some (if (p < 0 ∧ l ≤ p) ∨ (0 ≤ p ∧ p < t 0) then 1 else 0) := by
  unfold f_X9_isAsked
  rw [e_isPlace p t h0]
  dsimp only [jn1, bn1]
  by_cases c1 : 0 ≤ p
  · rw [if_pos c1]
    have c2 : ¬ p < 0 := by grind
    by_cases c3 : p < t 0
    · have h1 : 0 ≤ p ∧ p < t 0 := ⟨c1, c3⟩
      rw [if_pos h1, if_neg (show ¬ (1 : Int32) = 0 by decide), if_pos (Or.inr h1)]
    · have h1 : ¬ (0 ≤ p ∧ p < t 0) := fun z => c3 z.2
      rw [if_neg h1, if_pos rfl, if_neg]
      rintro (z | z)
      · exact c2 z.1
      · exact c3 z.2
  · rw [if_neg c1]
    have c2 : p < 0 := by grind
    have h1 : ¬ (0 ≤ p ∧ p < t 0) := fun z => c1 z.1
    by_cases c3 : l ≤ p
    · rw [if_pos c3, if_pos (Or.inl ⟨c2, c3⟩)]
    · rw [if_neg c3, if_neg h1, if_pos rfl, if_neg]
      rintro (z | z)
      · exact c3 z.2
      · exact c1 z.1
theorem ask3 {B : Type} (n2 places : Int32) (hp : 0 ≤ places ∧ places ≤ 3) (X U : Option B) : jn1 (fun (_ : Unit) => X) (fun J => if n2 = -1 then J () else if n2 = -2 then J () else bn1 (f_X0_hasPlace n2 places) (fun (r : Int32) => if r = 0 then U else J ())) = if (n2 < 0 ∧ -2 ≤ n2) ∨ (0 ≤ n2 ∧ n2 < places) then X else U := by
  rw [e_hasPlace]
  dsimp only [jn1, bn1]
  have e12 : n2 < 0 ∧ -2 ≤ n2 ↔ n2 = -1 ∨ n2 = -2 := by
    rw [i_lt, i_le, i_eq, i_eq, show (0 : Int32).toInt = 0 from rfl, show (-2 : Int32).toInt = -2 from rfl, show (-1 : Int32).toInt = -1 from rfl]; omega
  by_cases c1 : n2 = -1
  · rw [if_pos c1, if_pos (Or.inl (e12.mpr (Or.inl c1)))]
  · rw [if_neg c1]
    by_cases c2 : n2 = -2
    · rw [if_pos c2, if_pos (Or.inl (e12.mpr (Or.inr c2)))]
    · rw [if_neg c2]
      by_cases c3 : 0 ≤ n2 ∧ n2 < places
      · rw [if_pos ((pla_c hp n2).1.mpr c3), if_neg (show ¬ (1 : Int32) = 0 by decide), if_pos (Or.inr c3)]
      · rw [if_neg (fun z => c3 ((pla_c hp n2).1.mp z)), if_pos rfl, if_neg]
        rintro (z | z)
        · rcases e12.mp z with q | q
          · exact c1 q
          · exact c2 q
        · exact c3 z
theorem e_push {hour tideN n1 : Int32} {tides t : Nat → Int32} {k : Nat} {l : Int} (ht : TW t) (hC : CT tideN tides t) (hk : k < 2147483648) (eh : hour = nI k) (el : n1 = jI l) : f_X8_push n1 tideN tides hour = some (jI (tideS t k - l)) := by
  unfold f_X8_push
  rw [eh, el, e_ctide ht hC hk, bn1_some, jI_sub]
theorem push_b {t : Nat → Int32} (ht : TW t) {l : Int} (hl : 0 ≤ l ∧ l ≤ 240) (k : Nat) : -300 ≤ tideS t k - l ∧ tideS t k - l ≤ 300 := by
  have := tideS_b ht k
  omega
/-- what the class's crew is -/
theorem st_at {t who cp : Nat → Int32} {P H W k : Nat} {x ch last crew mi oa : Int32} {m : Nat → Nat} {e : Nat → Int} (hF : FST t P H 343 last who cp) (hb : (bst P H x W ch m e 343).2.1 ≠ 0) (hSt : StC P H (bst P H x W ch m e 343) crew mi oa) (hk : k < 3) :
    f_X2_horseAt crew (nI k) who = some (rowA (bst P H x W ch m e 343).1 k) ∧ mi = nI (bst P H x W ch m e 343).2.1 ∧ oa = jI (bst P H x W ch m e 343).2.2 := by
  obtain ⟨-, h2, h3, h4⟩ := hSt.resolve_left (fun z => hb z.1)
  rcases bst_is (P := P) (H := H) (x := x) (W := W) (ch := ch) (m := m) (e := e) 343 with h | ⟨q, g1, g2, g3⟩
  · exact absurd h hb
  · refine ⟨?_, h3, h4⟩
    rw [h2, g3]
    exact e_horseAt (hF.2 q g1 g2.1) hk
theorem asnow_f {t s strength stands fr : Nat → Int32} {b : Int} {hour oats missed seed : Int32} (ht : TW t) (hN : RNb b hour oats missed seed strength stands s t) : WB t strength ∧ WEQ t (fA 0 6 (fun k _ => s k) fr) strength := by
  obtain ⟨H, h6, e3, eH⟩ := hor_n ht
  have hstr := hN.2.2.2.2.2.2
  refine ⟨fun h hh => ?_, fun h hh => ?_⟩
  · have := hstr h hh
    rw [i_le, i_le] at this
    exact this.2
  · rw [fA_0 (by omega)]; exact (hstr h hh).1
theorem m_soonest {law places broad horses blinds tideN hour oats missed seed last n1 n2 th e bm bo : Int32} {pull str back moods tides t strength stands s who cp w a pl best fr : Nat → Int32} {b : Int} {P H : Nat}
    (hB : BT law places broad horses blinds tideN pull str back moods tides t) (hN : RNb b hour oats missed seed strength stands s t) (e0 : t 0 = nI P) (e3 : t 3 = nI H) (hP : P ≤ 3) (hH : H ≤ 6) (hF : FST t P H 343 last who cp) (crew mi oa : Int32) :
    ∃ (rr crew' mi' oa' e' bm' bo' : Int32) (w' a' pl' best' fr' : Nat → Int32), f_X8_soonest n1 n2 law places broad tideN tides last who cp hour strength crew mi oa = some (rr, crew', mi', oa') ∧ f_X9_soonest n1 n2 th e (-1) bm bo t s w a pl best fr = some (rr, 0, e', bm', bo', w', a', pl', best', fr') := by
  obtain ⟨ht, hs, hSB, hPB, hCT, hlaw, ht1, ht2, hbr, ht0, hpl⟩ := id hB
  obtain ⟨⟨s9, hh0, hhb⟩, -⟩ := id hN
  obtain ⟨hWB, hWE⟩ := asnow_f (fr := fr) ht hN
  obtain ⟨k, hk, ek, ekI⟩ := hour_n hh0
  unfold f_X8_soonest f_X9_soonest
  rw [ask3 _ _ hpl, e_isAsked (by rw [ht0]; exact hpl.1), bn1_some, ht0]
  by_cases c : (n2 < 0 ∧ -2 ≤ n2) ∨ (0 ≤ n2 ∧ n2 < places)
  · rw [if_pos c, if_pos c, if_neg (show ¬ (1 : Int32) = 0 by decide), e_isNoLoad, bn1_some, e_in, bn1_some]
    by_cases cl : 0 ≤ n1 ∧ n1 ≤ 240
    · obtain ⟨l, hl, el⟩ := load_n cl.1 cl.2
      rw [if_pos cl, if_pos cl, if_pos rfl, if_neg (show ¬ (1 : Int32) = 0 by decide), e_push ht hCT hk ek el, bn1_some, e_fromNow, bn1_some, show s (Int32.toNatClampNeg 9) = nI k from s9.trans ek, el]
      obtain ⟨crew', mi', oa', g1, g2⟩ := c_soon (x := -1) hB e0 e3 hP hH hF hWB (fun h _ => rfl : WEQ t strength strength) (push_b ht hl k) crew mi oa
      obtain ⟨e', bm', bo', w', a', pl', best', f1, f2⟩ := m_finds (x := -1) ht hs hWB hWE e0 e3 hP hH hk hl (Or.inl ⟨rfl, rfl⟩) e bm bo w a pl best
      rw [g1, bn4_some, f1, bn8_some]
      by_cases cb : (bst P H (-1) 120 0 (rMin t strength (tideS t k - l)) (rEat t strength (tideS t k - l)) 343).2.1 = 0
      · rw [if_pos cb, if_pos rfl, if_pos rfl]
        exact ⟨_, _, _, _, _, _, _, _, _, _, _, _, rfl, rfl⟩
      · rw [if_neg cb, if_neg (show ¬ (1 : Int32) = 0 by decide), if_neg (show ¬ (1 : Int32) = 0 by decide)]
        obtain ⟨-, q2, q3⟩ := st_at hF cb g2 (k := 0) (by decide)
        obtain ⟨z1, z2⟩ := f2
        obtain ⟨z3, z4⟩ := z2 cb
        by_cases c1 : n2 = -1
        · rw [if_pos c1, if_pos c1, q2, z1]
          exact ⟨_, _, _, _, _, _, _, _, _, _, _, _, rfl, rfl⟩
        · rw [if_neg c1, if_neg c1]
          by_cases c2 : 0 ≤ n2
          · have c3 : ¬ n2 = -2 := fun z => by rw [z] at c2; exact absurd c2 (by decide)
            obtain ⟨kp, hkp, ekp⟩ := (pla_c hpl n2).2 (c.resolve_left (fun z => by have := z.1; grind))
            rw [if_neg c3, if_pos c2, if_neg (idx_ok ekp (by omega) (by decide)), ekp, (st_at hF cb g2 hkp).1, bn1_some, nI_clamp (by omega), z4 kp hkp]
            exact ⟨_, _, _, _, _, _, _, _, _, _, _, _, rfl, rfl⟩
          · have c3 : n2 = -2 := by
              have h1 := (c.resolve_right (fun z => c2 z.1))
              rw [i_eq]
              rw [i_lt, i_le] at h1
              have h2 : n2.toInt ≠ -1 := fun z => c1 ((i_eq _ _).mpr z)
              have h3 : (-2 : Int32).toInt = -2 := rfl
              have h4 : (0 : Int32).toInt = 0 := rfl
              omega
            rw [if_pos c3, if_neg c2, q3, z3]
            exact ⟨_, _, _, _, _, _, _, _, _, _, _, _, rfl, rfl⟩
    · rw [if_neg cl, if_neg cl, if_neg (show ¬ (1 : Int32) = 0 by decide), if_pos rfl]
      exact ⟨_, _, _, _, _, _, _, _, _, _, _, _, rfl, rfl⟩
  · rw [if_neg c, if_neg c, if_pos rfl]
    exact ⟨_, _, _, _, _, _, _, _, _, _, _, _, rfl, rfl⟩
theorem m_cheapest {law places broad horses blinds tideN hour oats missed seed last due n1 n2 th e bm bo : Int32} {pull str back moods tides t strength stands s who cp w a pl best fr : Nat → Int32} {b : Int} {P H W : Nat}
    (hB : BT law places broad horses blinds tideN pull str back moods tides t) (hN : RNb b hour oats missed seed strength stands s t) (e0 : t 0 = nI P) (e3 : t 3 = nI H) (hP : P ≤ 3) (hH : H ≤ 6) (hF : FST t P H 343 last who cp) (hdue : (if due = 0 then (60 : Int32) else due) = nI W) (e5 : t 5 = nI W) (hW : W ≤ 120) (crew mi oa : Int32) :
    ∃ (rr crew' mi' oa' e' bm' bo' : Int32) (w' a' pl' best' fr' : Nat → Int32), f_X8_cheapest n1 n2 law places broad tideN due tides last who cp hour strength crew mi oa = some (rr, crew', mi', oa') ∧ f_X9_cheapest n1 n2 th e (-1) bm bo t s w a pl best fr = some (rr, 0, e', bm', bo', w', a', pl', best', fr') := by
  obtain ⟨ht, hs, hSB, hPB, hCT, hlaw, ht1, ht2, hbr, ht0, hpl⟩ := id hB
  obtain ⟨⟨s9, hh0, hhb⟩, -⟩ := id hN
  obtain ⟨hWB, hWE⟩ := asnow_f (fr := fr) ht hN
  obtain ⟨k, hk, ek, ekI⟩ := hour_n hh0
  unfold f_X8_cheapest f_X9_cheapest
  rw [ask3 _ _ hpl, e_isAsked (by rw [ht0]; exact hpl.1), bn1_some, ht0]
  by_cases c : (n2 < 0 ∧ -2 ≤ n2) ∨ (0 ≤ n2 ∧ n2 < places)
  · rw [if_pos c, if_pos c, if_neg (show ¬ (1 : Int32) = 0 by decide), e_isNoLoad, bn1_some, e_in, bn1_some]
    by_cases cl : 0 ≤ n1 ∧ n1 ≤ 240
    · obtain ⟨l, hl, el⟩ := load_n cl.1 cl.2
      rw [if_pos cl, if_pos cl, if_pos rfl, if_neg (show ¬ (1 : Int32) = 0 by decide), e_push ht hCT hk ek el, bn1_some, e_fromNow, bn1_some, show s (Int32.toNatClampNeg 9) = nI k from s9.trans ek, el]
      obtain ⟨crew', mi', oa', g1, g2⟩ := c_cheap hB e0 e3 hP hH hF hWB (fun h _ => rfl : WEQ t strength strength) (push_b ht hl k) hdue hW crew mi oa
      obtain ⟨e', bm', bo', w', a', pl', best', f1, f2⟩ := m_finds (x := -1) ht hs hWB hWE e0 e3 hP hH hk hl (Or.inr ⟨rfl, e5, hW⟩) e bm bo w a pl best
      rw [g1, bn4_some, f1, bn8_some]
      by_cases cb : (bst P H (-1) W 1 (rMin t strength (tideS t k - l)) (rEat t strength (tideS t k - l)) 343).2.1 = 0
      · rw [if_pos cb, if_pos rfl, if_pos rfl]
        exact ⟨_, _, _, _, _, _, _, _, _, _, _, _, rfl, rfl⟩
      · rw [if_neg cb, if_neg (show ¬ (1 : Int32) = 0 by decide), if_neg (show ¬ (1 : Int32) = 0 by decide)]
        obtain ⟨-, q2, q3⟩ := st_at hF cb g2 (k := 0) (by decide)
        obtain ⟨z1, z2⟩ := f2
        obtain ⟨z3, z4⟩ := z2 cb
        by_cases c1 : n2 = -1
        · rw [if_pos c1, if_pos c1, q3, z3]
          exact ⟨_, _, _, _, _, _, _, _, _, _, _, _, rfl, rfl⟩
        · rw [if_neg c1, if_neg c1]
          by_cases c2 : 0 ≤ n2
          · have c3 : ¬ n2 = -2 := fun z => by rw [z] at c2; exact absurd c2 (by decide)
            obtain ⟨kp, hkp, ekp⟩ := (pla_c hpl n2).2 (c.resolve_left (fun z => by have := z.1; grind))
            rw [if_neg c3, if_pos c2, if_neg (idx_ok ekp (by omega) (by decide)), ekp, (st_at hF cb g2 hkp).1, bn1_some, nI_clamp (by omega), z4 kp hkp]
            exact ⟨_, _, _, _, _, _, _, _, _, _, _, _, rfl, rfl⟩
          · have c3 : n2 = -2 := by
              have h1 := (c.resolve_right (fun z => c2 z.1))
              rw [i_eq]
              rw [i_lt, i_le] at h1
              have h2 : n2.toInt ≠ -1 := fun z => c1 ((i_eq _ _).mpr z)
              have h3 : (-2 : Int32).toInt = -2 := rfl
              have h4 : (0 : Int32).toInt = 0 := rfl
              omega
            rw [if_pos c3, if_neg c2, q2, z1]
            exact ⟨_, _, _, _, _, _, _, _, _, _, _, _, rfl, rfl⟩
    · rw [if_neg cl, if_neg cl, if_neg (show ¬ (1 : Int32) = 0 by decide), if_pos rfl]
      exact ⟨_, _, _, _, _, _, _, _, _, _, _, _, rfl, rfl⟩
  · rw [if_neg c, if_neg c, if_pos rfl]
    exact ⟨_, _, _, _, _, _, _, _, _, _, _, _, rfl, rfl⟩
theorem e_without {law places broad horses blinds tideN hour last x n1 : Int32} {pull str back moods tides t strength who cp : Nat → Int32} {P H k : Nat} {l : Int}
    (hB : BT law places broad horses blinds tideN pull str back moods tides t) (e0 : t 0 = nI P) (e3 : t 3 = nI H) (hP : P ≤ 3) (hH : H ≤ 6) (hF : FST t P H 343 last who cp) (hWB : WB t strength) (hk : k < 2147483648) (ek : hour = nI k) (hl : 0 ≤ l ∧ l ≤ 240) (el : n1 = jI l) (crew mi oa : Int32) :
    ∃ crew' mi' oa', f_X8_soonestWithout x n1 law broad tideN tides last who cp hour strength crew mi oa = some (if (bst P H x 120 0 (rMin t strength (tideS t k - l)) (rEat t strength (tideS t k - l)) 343).2.1 = 0 then 121 else nI (bst P H x 120 0 (rMin t strength (tideS t k - l)) (rEat t strength (tideS t k - l)) 343).2.1, crew', mi', oa') := by
  obtain ⟨ht, hs, hSB, hPB, hCT, -⟩ := id hB
  unfold f_X8_soonestWithout
  obtain ⟨crew', mi', oa', g1, g2⟩ := c_soon (x := x) hB e0 e3 hP hH hF hWB (fun h _ => rfl : WEQ t strength strength) (push_b ht hl k) crew mi oa
  rw [e_push ht hCT hk ek el, bn1_some, g1, bn4_some]
  by_cases cb : (bst P H x 120 0 (rMin t strength (tideS t k - l)) (rEat t strength (tideS t k - l)) 343).2.1 = 0
  · rw [if_pos cb, if_pos rfl, if_pos cb]; exact ⟨_, _, _, rfl⟩
  · rw [if_neg cb, if_neg (show ¬ (1 : Int32) = 0 by decide), if_neg cb, (st_at hF cb g2 (k := 0) (by decide)).2.1]; exact ⟨_, _, _, rfl⟩
theorem m_worth {law places broad horses blinds tideN hour oats missed seed last n1 n2 th e bm bo : Int32} {pull str back moods tides t strength stands s who cp w a pl best fr : Nat → Int32} {b : Int} {P H : Nat}
    (hB : BT law places broad horses blinds tideN pull str back moods tides t) (hN : RNb b hour oats missed seed strength stands s t) (e0 : t 0 = nI P) (e3 : t 3 = nI H) (hP : P ≤ 3) (hH : H ≤ 6) (hF : FST t P H 343 last who cp) (crew mi oa : Int32) :
    ∃ (rr crew' mi' oa' e' bm' bo' : Int32) (w' a' pl' best' fr' : Nat → Int32), f_X8_worth n1 n2 law broad horses tideN tides last who cp hour strength crew mi oa = some (rr, crew', mi', oa') ∧ f_X9_worth n1 n2 th e (-1) bm bo t s w a pl best fr = some (rr, 0, e', bm', bo', w', a', pl', best', fr') := by
  obtain ⟨ht, hs, hSB, hPB, hCT, hlaw, ht1, ht2, hbr, ht0, hpl⟩ := id hB
  obtain ⟨⟨s9, hh0, hhb⟩, -⟩ := id hN
  obtain ⟨hWB, hWE⟩ := asnow_f (fr := fr) ht hN
  obtain ⟨k, hk, ek, ekI⟩ := hour_n hh0
  unfold f_X8_worth f_X9_worth
  rw [e_hasHorse, bn1_some, e_isHorse _ _ ht.1.1, bn1_some, hPB.1]
  have hh := hor_c ht n2
  by_cases c : 0 ≤ n2 ∧ n2 < t 3
  · rw [if_pos (hh.1.mpr c), if_pos c, if_neg (show ¬ (1 : Int32) = 0 by decide), if_neg (show ¬ (1 : Int32) = 0 by decide), e_isNoLoad, bn1_some, e_in, bn1_some]
    by_cases cl : 0 ≤ n1 ∧ n1 ≤ 240
    · obtain ⟨l, hl, el⟩ := load_n cl.1 cl.2
      obtain ⟨crew', mi', oa', g1⟩ := e_without (x := n2) hB e0 e3 hP hH hF hWB hk ek hl el crew mi oa
      obtain ⟨crew2, mi2, oa2, g2⟩ := e_without (x := -1) hB e0 e3 hP hH hF hWB hk ek hl el crew' mi' oa'
      rw [if_pos cl, if_pos cl, if_pos rfl, if_neg (show ¬ (1 : Int32) = 0 by decide), g1, bn4_some, g2, bn4_some, e_fromNow, bn1_some, show s (Int32.toNatClampNeg 9) = nI k from s9.trans ek, el]
      obtain ⟨e', bm', bo', w', a', pl', best', f1, f2⟩ := m_finds (x := -1) ht hs hWB hWE e0 e3 hP hH hk hl (Or.inl ⟨rfl, rfl⟩) e bm bo w a pl best
      obtain ⟨e2, bm2, bo2, w2, a2, pl2, best2, k1, k2⟩ := m_finds (x := n2) ht hs hWB hWE e0 e3 hP hH hk hl (Or.inl ⟨rfl, rfl⟩) e' bm' bo' w' a' pl' best'
      rw [f1, bn8_some, jn1_if, k1, bn8_some, jn1_if]
      have hA : ∀ (B : Nat × Nat × Int) (m o : Int32) (q : Nat → Int32), StM B m o q → (if (if B.2.1 = 0 then (0 : Int32) else 1) = 0 then (121 : Int32) else m) = if B.2.1 = 0 then 121 else nI B.2.1 := fun B m o q hq => by
        by_cases cb : B.2.1 = 0
        · rw [if_pos cb, if_pos rfl, if_pos cb]
        · rw [if_neg cb, if_neg (show ¬ (1 : Int32) = 0 by decide), if_neg cb, hq.1]
      rw [hA _ _ _ _ f2, hA _ _ _ _ k2]
      exact ⟨_, _, _, _, _, _, _, _, _, _, _, _, rfl, rfl⟩
    · rw [if_neg cl, if_neg cl, if_neg (show ¬ (1 : Int32) = 0 by decide), if_pos rfl]
      exact ⟨_, _, _, _, _, _, _, _, _, _, _, _, rfl, rfl⟩
  · rw [if_neg (fun z => c (hh.1.mp z)), if_neg c, if_pos rfl, if_pos rfl]
    exact ⟨_, _, _, _, _, _, _, _, _, _, _, _, rfl, rfl⟩
