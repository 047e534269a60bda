/-! PURE SIDE: the class's oats, and what its horses pull -/
theorem oats_step {t who pull u a : Nat → Int32} {q : Nat → Int} {K : Int32 → Option Int32} {rec3 : Int32 → Int32 → Option Int32} {c m p : Nat} (hr : ROW who pull c a q) (ha : CREW t a) (hw : WOK u a) (hp : p < 3) (hm : m ≤ 120) {k : Nat} (hk : k = 3 * c + p) (E : Int) :
    B_X2_oats_1 (nI c) K who pull (nI m) u rec3 (jI E) (nI k) = rec3 (jI (E + cE1 a q u m p)) (nI (k + 1)) := by
  subst hk
  have hc := hr.1
  obtain ⟨e1, e2⟩ := hr.2 p hp
  have e3c : nI c * (3 : Int32) = nI (3 * c) := by rw [show (3 : Int32) = nI 3 from rfl, pk_mul, Nat.mul_comm]
  unfold B_X2_oats_1
  rw [e3c, if_neg (show ¬ nI (3 * c) + 3 ≤ nI (3 * c + p) from by rw [show nI (3 * c) + 3 = nI (3 * c + 3) from nI_add _ 3]; exact nI_ge (by omega) (by omega)), if_neg (idx_ok rfl (by omega) (by decide)), nI_clamp (by omega), e1, e2, nI_1, jn1_d]
  unfold cE1
  rcases ha p hp with e | ⟨h, -, hh, e⟩
  · rw [if_pos (by rw [e]; decide), if_neg (fun z => z e), Int.add_zero]
  · have hne : a p ≠ -1 := by rw [e]; exact nI_ne (by omega)
    obtain ⟨h1, h2, h3⟩ := hor_ok (t := t) (a := a) hh e
    have hb : 0 ≤ (u (a p).toNatClampNeg).toInt ∧ (u (a p).toNatClampNeg).toInt ≤ 200 := hw p hp hne
    rw [if_neg h1, if_neg h2, if_neg h3, if_pos hne]
    have em : (if nI m < u (a p).toNatClampNeg then nI m else u (a p).toNatClampNeg) = jI (min (u (a p).toNatClampNeg).toInt (m : Int)) := by
      by_cases c0 : (m : Int) < (u (a p).toNatClampNeg).toInt
      · have hc0 : nI m < u (a p).toNatClampNeg := by rw [i_lt, nI_toInt (by omega)]; exact c0
        rw [if_pos hc0, show min (u (a p).toNatClampNeg).toInt (m : Int) = m by omega, jI_nat]
      · have hc0 : ¬ nI m < u (a p).toNatClampNeg := by rw [i_lt, nI_toInt (by omega)]; exact c0
        rw [if_neg hc0, show min (u (a p).toNatClampNeg).toInt (m : Int) = (u (a p).toNatClampNeg).toInt by omega, jI_self]
    rw [em, jI_mul, jI_add]
theorem oats_eq (n1 n3 : Int32) (who pull u : Nat → Int32) : f_X2_oats n1 n3 who pull u = bn1 (f_X2_isCrew n1) (fun r => if r = 0 then some 0 else lq2 (B_X2_oats_1 n1 (fun y => some y) who pull n3 u) fu 0 (n1 * 3)) := by
  unfold f_X2_oats
  refine congrArg (bn1 (f_X2_isCrew n1)) ?_
  funext r
  by_cases c : r = 0
  · rw [if_pos c, if_pos c]
  · rw [if_neg c, if_neg c, jn1_d]
    refine congrArg (fun F => lq2 F fu 0 (n1 * 3)) ?_
    funext rec3 y5 y6
    unfold B_X2_oats_1
    rfl
theorem e_oats {t who pull u a : Nat → Int32} {q : Nat → Int} {c m : Nat} (hr : ROW who pull c a q) (ha : CREW t a) (hw : WOK u a) (hm : m ≤ 120) : f_X2_oats (nI c) (nI m) who pull u = some (jI (cEat a q u m)) := by
  obtain ⟨n9, e⟩ := fu_4
  have e3c : nI c * (3 : Int32) = nI (3 * c) := by rw [show (3 : Int32) = nI 3 from rfl, pk_mul, Nat.mul_comm]
  have s0 := fun r => oats_step (K := fun y => some y) (rec3 := r) (p := 0) hr ha hw (by decide) hm (k := 3 * c) rfl 0
  have s1 := fun r => oats_step (K := fun y => some y) (rec3 := r) (p := 1) hr ha hw (by decide) hm (k := 3 * c + 1) rfl (0 + cE1 a q u m 0)
  have s2 := fun r => oats_step (K := fun y => some y) (rec3 := r) (p := 2) hr ha hw (by decide) hm (k := 3 * c + 1 + 1) rfl (0 + cE1 a q u m 0 + cE1 a q u m 1)
  rw [oats_eq, e_isCrew hr.1, bn1_some, if_neg (by decide), e3c, e, show (0 : Int32) = jI 0 from rfl, lq2_1, s0, lq2_1, s1, lq2_1, s2, lq2_1]
  unfold B_X2_oats_1
  rw [e3c, if_pos (show nI (3 * c) + 3 ≤ nI (3 * c + 1 + 1 + 1) from by rw [show nI (3 * c) + 3 = nI (3 * c + 3) from nI_add _ 3]; exact nI_le (by omega) (by have := hr.1; omega))]
  unfold cEat
  show some (jI (0 + cE1 a q u m 0 + cE1 a q u m 1 + cE1 a q u m 2)) = _
  rw [Int.zero_add]
/-- the moods and the blind ones as the two sides have them -/
def MOODS (t moods : Nat → Int32) : Prop := ∀ a b : Nat, a < 6 → b < 6 → t (32 + 6 * a + b) - 5 = moods (a * 6 + b)
theorem e_cmood_in {moods : Nat → Int32} {h g : Nat} (hh : h < 6) (hg : g < 6) : f_X0_mood (nI h) (nI g) moods = some (moods (h * 6 + g)) := by
  have ei : nI h * (6 : Int32) + nI g = nI (h * 6 + g) := by rw [show (6 : Int32) = nI 6 from rfl, pk_mul, nI_add]
  unfold f_X0_mood
  rw [jn1_d, jn1_d, if_neg (nI_pos (by omega)), if_neg (show ¬ (6 : Int32) ≤ nI h from nI_ge (a := h) (b := 6) hh (by decide)), if_neg (nI_pos (by omega)), if_neg (show ¬ (6 : Int32) ≤ nI g from nI_ge (a := g) (b := 6) hg (by decide))]
  show (if (1 : Int32) = 0 then _ else _) = _
  rw [if_neg (by decide), ei, if_neg (idx_ok rfl (by omega) (by decide)), nI_clamp (by omega)]
theorem e_cmood_no {moods : Nat → Int32} {h : Nat} (hh : h < 6) : f_X0_mood (nI h) (-1) moods = some 0 := by
  unfold f_X0_mood
  rw [jn1_d, jn1_d, if_neg (nI_pos (by omega)), if_neg (show ¬ (6 : Int32) ≤ nI h from nI_ge (a := h) (b := 6) hh (by decide)), if_pos (by decide)]
  rfl
/-- the class's mood of horse h beside place p of the crew -/
theorem e_cmood {t a moods : Nat → Int32} (hM : MOODS t moods) (ha : CREW t a) {h p : Nat} (hh : h < 6) (hp : p < 3) : f_X0_mood (nI h) (a p) moods = some (jI (moodP t a h p)) := by
  unfold moodP
  rcases ha p hp with e | ⟨g, -, hg, e⟩
  · rw [e, e_cmood_no hh, if_neg (by simp)]; rfl
  · have hne : a p ≠ -1 := by rw [e]; exact nI_ne (by omega)
    rw [if_pos ⟨hp, hne⟩, e, e_cmood_in hh hg, nI_clamp (by omega), ← hM h g hh hg]
    congr 1
    rw [← jI_self (t (32 + 6 * h + g)), show (5 : Int32) = jI 5 from rfl, jI_sub, jI_self]
