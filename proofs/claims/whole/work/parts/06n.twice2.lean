/-! PURE SIDE: twice of both -/
theorem ask2 {B : Type} (n2 places : Int32) (hp : 0 ≤ places ∧ places ≤ 3) (X U : Option B) : jn1 (fun (_ : Unit) => X) (fun J => if n2 = -1 then J () else bn1 (f_X0_hasPlace n2 places) (fun (r : Int32) => if r = 0 then U else J ())) = if (n2 < 0 ∧ -1 ≤ n2) ∨ (0 ≤ n2 ∧ n2 < places) then X else U := by
  rw [e_hasPlace]
  dsimp only [jn1, bn1]
  have e12 : n2 < 0 ∧ -1 ≤ n2 ↔ n2 = -1 := by
    rw [i_lt, i_le, i_eq, show (0 : Int32).toInt = 0 from rfl, show (-1 : Int32).toInt = -1 from rfl]; omega
  by_cases c1 : n2 = -1
  · rw [if_pos c1, if_pos (Or.inl (e12.mpr c1))]
  · rw [if_neg c1]
    by_cases c3 : 0 ≤ n2 ∧ n2 < places
    · rw [if_pos ((pla_c hp n2).1.mpr c3), if_neg (show ¬ (1 : Int32) = 0 by decide), if_pos (Or.inr c3)]
    · rw [if_neg (fun z => c3 ((pla_c hp n2).1.mp z)), if_pos rfl, if_neg]
      rintro (z | z)
      · exact c1 (e12.mp z)
      · exact c3 z
/-- what the class keeps of TWICE is so -/
def PKN (P H W : Nat) (t w : Nat → Int32) (k : Nat) (known load first second oats : Int32) : Prop := known = 0 ∨ ∃ l : Int, (0 ≤ l ∧ l ≤ 240) ∧ load = jI l ∧ StP P H (twS P H W t w k l 343) first second oats
theorem c_find {law places broad horses blinds tideN last due pk pl pf ps po : Int32} {pull str back moods tides t who cp u tired : Nat → Int32} {P H W k : Nat} {l : Int}
    (hB : BT law places broad horses blinds tideN pull str back moods tides t) (e0 : t 0 = nI P) (e3 : t 3 = nI H) (hP : P ≤ 3) (hH : H ≤ 6) (hF : FST t P H 343 last who cp) (hw : WB t u) (hk : k < 2000000000) (hl : 0 ≤ l ∧ l ≤ 240) (hdue : (if due = 0 then (60 : Int32) else due) = nI W) (hW : W ≤ 120) (hK : PKN P H W t u k pk pl pf ps po) :
    ∃ (pk' pl' pf' ps' po' : Int32) (tired' : Nat → Int32), f_X3_find (nI k) (jI l) pk pl pf ps po tired last who cp law broad horses tideN due str back tides u = some (if (twS P H W t u k l 343).1 = 0 then 0 else 1, pk', pl', pf', ps', po', tired') ∧ StP P H (twS P H W t u k l 343) pf' ps' po' ∧ PKN P H W t u k pk' pl' pf' ps' po' := by
  obtain ⟨ht, hs, -⟩ := id hB
  have htok := twS_ok (W := W) (k := k) (l := l) ht hs hw e0 e3 hP hH (Nat.le_refl 343)
  obtain ⟨f', s', o', tr', g1, g2⟩ := c_search (first := pf) (second := ps) (oats := po) (tired := tired) hB e0 e3 hP hH hF hw hk hl hdue hW
  have fin : ∀ (pk' pl' pf' ps' po' : Int32) (tr : Nat → Int32), StP P H (twS P H W t u k l 343) pf' ps' po' → (if pf' = -1 then some ((0 : Int32), pk', pl', pf', ps', po', tr) else some (1, pk', pl', pf', ps', po', tr)) = some (if (twS P H W t u k l 343).1 = 0 then 0 else 1, pk', pl', pf', ps', po', tr) := fun pk' pl' pf' ps' po' tr h => by
    rcases StP_f hP hH htok h with ⟨h1, h2⟩ | ⟨h1, h2, -⟩
    · rw [if_pos h2, if_pos h1]
    · rw [if_neg h2, if_neg h1]
  unfold f_X3_find
  rw [g1]
  dsimp only [jn1, jn6, bn4]
  by_cases c1 : pk = 0
  · rw [if_pos c1]
    exact ⟨_, _, _, _, _, _, fin _ _ _ _ _ _ g2, g2, Or.inr ⟨l, hl, rfl, g2⟩⟩
  · rw [if_neg c1]
    by_cases c2 : pl = jI l
    · rw [if_pos c2]
      obtain ⟨l', hl', e', hst⟩ := hK.resolve_left c1
      rw [e', jI_eq (by omega) (by omega) (by omega) (by omega)] at c2
      subst c2
      exact ⟨_, _, _, _, _, _, fin _ _ _ _ _ _ hst, hst, hK⟩
    · rw [if_neg c2]
      exact ⟨_, _, _, _, _, _, fin _ _ _ _ _ _ g2, g2, Or.inr ⟨l, hl, rfl, g2⟩⟩
theorem m_twice {law places broad horses blinds tideN hour oats missed seed last due n1 n2 n3 th e pk pl pf ps po : Int32} {pull str back moods tides t strength stands s who cp w a p best fr thn ta tired : Nat → Int32} {b : Int} {P H W : Nat}
    (hB : BT law places broad horses blinds tideN pull str back moods tides t) (hN : RNb b hour oats missed seed strength stands s t) (hb : b < 1000000000) (e0 : t 0 = nI P) (e3 : t 3 = nI H) (hP : P ≤ 3) (hH : H ≤ 6) (hF : FST t P H 343 last who cp) (hdue : (if due = 0 then (60 : Int32) else due) = nI W) (e5 : t 5 = nI W) (hW : W ≤ 120)
    (hK : PKN P H W t strength hour.toNatClampNeg pk pl pf ps po) :
    ∃ (rr pk' pl' pf' ps' po' : Int32) (tired' : Nat → Int32) (e' : Int32) (w' a' p' best' fr' thn' ta' : Nat → Int32), f_X8_twice n1 n2 n3 law places broad horses tideN due str back tides last who cp hour strength pk pl pf ps po tired = some (rr, pk', pl', pf', ps', po', tired') ∧ f_X9_twice n1 n2 n3 th e (-1) t s w a p best fr thn ta = some (rr, 0, e', w', a', p', best', fr', thn', ta') ∧ PKN P H W t strength hour.toNatClampNeg pk' pl' pf' ps' po' := by
  obtain ⟨ht, hs, hSB, hPB, hCT, hlaw, ht1, ht2, hbr, ht0, hpl⟩ := id hB
  obtain ⟨⟨s9, hh0, hhb⟩, -⟩ := id hN
  obtain ⟨hWB, hWE⟩ := asnow_f (fr := fr) ht hN
  obtain ⟨k, hk, ek, ekI⟩ := hour_n hh0
  have ekc : hour.toNatClampNeg = k := by rw [ek, nI_clamp (by omega)]
  rw [ekc] at hK ⊢
  unfold f_X8_twice f_X9_twice
  rw [ask2 _ _ hpl, e_isAsked (by rw [ht0]; exact hpl.1), bn1_some, ht0]
  by_cases c : (n3 < 0 ∧ -1 ≤ n3) ∨ (0 ≤ n3 ∧ n3 < places)
  · rw [if_pos c, if_pos c, if_neg (show ¬ (1 : Int32) = 0 by decide), e_isNoLoad, bn1_some, e_in, bn1_some, e_in, bn1_some]
    by_cases cl : 0 ≤ n1 ∧ n1 ≤ 240
    · obtain ⟨l, hl, el⟩ := load_n cl.1 cl.2
      rw [if_pos cl, if_pos cl, if_pos rfl, if_neg (show ¬ (1 : Int32) = 0 by decide)]
      by_cases c2 : 0 ≤ n2 ∧ n2 ≤ 1
      · obtain ⟨kk, hkk, ekk⟩ := nI_of2 (M := 1) (n := 1) rfl (x := n2) (by have := c2.1; grind) c2.2
        rw [if_neg (show ¬ n2 < 0 by have := c2.1; grind), if_pos c2.2, if_pos c2, if_neg (show ¬ (1 : Int32) = 0 by decide), ek, el]
        obtain ⟨pk', pl', pf', ps', po', tr', g1, g2, g3⟩ := c_find (tired := tired) hB e0 e3 hP hH hF hWB (k := k) (by omega) hl hdue hW hK
        obtain ⟨least, e', w', a', p', best', fr', th', ta', f1, f2⟩ := m_both (e := e) (w := w) (a := a) (pl := p) (best := best) (fr := fr) (th := thn) (ta := ta) ht hs hN e0 e3 hP hH (k := k) (by omega) ek hl e5 hW
        have htok := twS_ok (W := W) (k := k) (l := l) ht hs hWB e0 e3 hP hH (Nat.le_refl 343)
        rw [g1, bn7_some, f1, bn9_some]
        rcases f2 with ⟨q1, q2⟩ | ⟨q1, q2, q3⟩
        · rw [if_pos q1, if_pos rfl, if_pos q2, q2]
          exact ⟨_, _, _, _, _, _, _, _, _, _, _, _, _, _, _, rfl, rfl, g3⟩
        · obtain ⟨o1, o2, o3, o4, o5, o6⟩ := htok.resolve_left q1
          obtain ⟨-, i2, i3, i4⟩ := g2.resolve_left (fun z => q1 z.1)
          have hn : ¬ least = -1 := by rw [q2, show (-1 : Int32) = jI (-1) from rfl, jI_eq (by omega) (by omega) (by omega) (by omega)]; omega
          rw [if_neg q1, if_neg (show ¬ (1 : Int32) = 0 by decide), if_neg hn]
          by_cases c3 : n3 = -1
          · rw [if_pos c3, if_pos c3, i4, q2]
            exact ⟨_, _, _, _, _, _, _, _, _, _, _, _, _, _, _, rfl, rfl, by rw [← i4]; exact g3⟩
          · have c4 : 0 ≤ n3 ∧ n3 < places := c.resolve_left (fun z => c3 (by
              have h1 := z
              rw [i_lt, i_le] at h1
              rw [i_eq]
              have h3 : (-1 : Int32).toInt = -1 := rfl
              have h4 : (0 : Int32).toInt = 0 := rfl
              omega))
            obtain ⟨kp, hkp, ekp⟩ := (pla_c hpl n3).2 c4
            have e3n : (3 : Int32) * n2 + n3 = nI (3 * kk + kp) := by rw [ekk, ekp, lit_n 3, pk_mul, nI_add]
            rw [if_neg c3, if_neg c3, e3n, if_neg (idx_ok (k := 3 * kk + kp) rfl (by omega) (by decide)), nI_clamp (by omega), jn1_if, ekp]
            by_cases ck : n2 = 0
            · have hk0 : kk = 0 := by
                rw [ekk] at ck
                exact (nI_eq (b := 0) (by omega) (by omega)).mp ck
              subst hk0
              rw [if_pos ck, i2, e_horseAt (hF.2 _ o1 o2) hkp, bn1_some, show 3 * 0 + kp = kp by omega, (q3 kp hkp).1]
              exact ⟨_, _, _, _, _, _, _, _, _, _, _, _, _, _, _, rfl, rfl, by rw [← i2]; exact g3⟩
            · have hk1 : kk = 1 := by
                have : kk ≠ 0 := fun z => ck (by rw [ekk, z]; rfl)
                omega
              subst hk1
              rw [if_neg ck, i3, e_horseAt (hF.2 _ o3 o4) hkp, bn1_some, show 3 * 1 + kp = 3 + kp by omega, (q3 kp hkp).2]
              exact ⟨_, _, _, _, _, _, _, _, _, _, _, _, _, _, _, rfl, rfl, by rw [← i3]; exact g3⟩
      · rw [if_neg c2, if_pos rfl]
        by_cases c3 : n2 < 0
        · rw [if_pos c3]; exact ⟨_, _, _, _, _, _, _, _, _, _, _, _, _, _, _, rfl, rfl, hK⟩
        · rw [if_neg c3, if_neg (show ¬ n2 ≤ 1 by grind)]; exact ⟨_, _, _, _, _, _, _, _, _, _, _, _, _, _, _, rfl, rfl, hK⟩
    · rw [if_neg cl, if_neg cl, if_neg (show ¬ (1 : Int32) = 0 by decide), if_pos rfl]
      exact ⟨_, _, _, _, _, _, _, _, _, _, _, _, _, _, _, rfl, rfl, hK⟩
  · rw [if_neg c, if_neg c, if_pos rfl]
    exact ⟨_, _, _, _, _, _, _, _, _, _, _, _, _, _, _, rfl, rfl, hK⟩
