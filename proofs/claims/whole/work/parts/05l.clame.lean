/-! PURE SIDE: the class's next lame one -/
/-- the class's next lame one -/
def nL1 (l : Int) (a u : Nat → Int32) (m p : Nat) : Int := if a p ≠ -1 ∧ (m : Int) < (u (a p).toNatClampNeg).toInt ∧ (u (a p).toNatClampNeg).toInt < l then (u (a p).toNatClampNeg).toInt else l
def nLame (a u : Nat → Int32) (m : Nat) : Int := nL1 (nL1 (nL1 120 a u m 0) a u m 1) a u m 2
theorem nL1_b {l : Int} {a u : Nat → Int32} {m p : Nat} (hl : (m : Int) ≤ l ∧ l ≤ 120) : (m : Int) ≤ nL1 l a u m p ∧ nL1 l a u m p ≤ 120 := by
  unfold nL1
  by_cases c : a p ≠ -1 ∧ (m : Int) < (u (a p).toNatClampNeg).toInt ∧ (u (a p).toNatClampNeg).toInt < l
  · rw [if_pos c]; omega
  · rw [if_neg c]; exact hl
theorem nl_step {t who pull u a : Nat → Int32} {q : Nat → Int} {K : Int32 → Option Int32} {rec2 : Int32 → Int32 → Option Int32} {c m p : Nat} (hr : ROW who pull c a q) (ha : CREW t a) (hp : p < 3) (hm : m ≤ 120) {k : Nat} (hk : k = 3 * c + p) (l : Int) (hl : 0 ≤ l ∧ l ≤ 120) :
    B_X2_nextLame_1 (nI (3 * c)) K who u (nI m) rec2 (jI l) (nI k) = rec2 (jI (nL1 l a u m p)) (nI (k + 1)) := by
  subst hk
  have hc := hr.1
  obtain ⟨e1, -⟩ := hr.2 p hp
  unfold B_X2_nextLame_1
  rw [if_neg (show ¬ nI (3 * c) + 3 ≤ nI (3 * c + p) from by rw [show nI (3 * c) + 3 = nI (3 * c + 3) from nI_add _ 3]; exact nI_ge (by omega) (by omega)), if_neg (idx_ok rfl (by omega) (by decide)), nI_clamp (by omega), e1, nI_1, jn1_d]
  unfold nL1
  rcases ha p hp with e | ⟨h, -, hh, e⟩
  · rw [if_pos (by rw [e]; decide), if_neg (fun z => z.1 e)]
  · have hne : a p ≠ -1 := by rw [e]; exact nI_ne (by omega)
    obtain ⟨h1, h2, h3⟩ := hor_ok (t := t) (a := a) hh e
    rw [if_neg h1, if_neg h2, if_neg h3]
    by_cases c0 : (m : Int) < (u (a p).toNatClampNeg).toInt
    · have hc0 : ¬ u (a p).toNatClampNeg ≤ nI m := by rw [i_le, nI_toInt (by omega)]; omega
      rw [if_neg hc0]
      by_cases c1 : (u (a p).toNatClampNeg).toInt < l
      · have hc1 : u (a p).toNatClampNeg < jI l := by rw [i_lt, jI_toInt (by omega) (by omega)]; exact c1
        rw [if_pos hc1, if_pos ⟨hne, c0, c1⟩, jI_self]
      · have hc1 : ¬ u (a p).toNatClampNeg < jI l := by rw [i_lt, jI_toInt (by omega) (by omega)]; exact c1
        rw [if_neg hc1, if_neg (fun z => c1 z.2.2)]
    · have hc0 : u (a p).toNatClampNeg ≤ nI m := by rw [i_le, nI_toInt (by omega)]; omega
      rw [if_pos hc0, if_neg (fun z => c0 z.2.1)]
theorem lame_eq (n1 n3 : Int32) (who u : Nat → Int32) : f_X2_nextLame n1 n3 who u = lq2 (B_X2_nextLame_1 n1 (fun y => some y) who u n3) fu 120 n1 := by
  unfold f_X2_nextLame
  rw [jn1_d]
  refine congrArg (fun F => lq2 F fu 120 n1) ?_
  funext rec2 y4 y5
  unfold B_X2_nextLame_1
  rfl
theorem e_nextLame {t who pull u a : Nat → Int32} {q : Nat → Int} {c m : Nat} (hr : ROW who pull c a q) (ha : CREW t a) (hm : m ≤ 120) :
    f_X2_nextLame (nI (3 * c)) (nI m) who u = some (jI (nLame a u m)) := by
  obtain ⟨n9, e⟩ := fu_4
  have k0 := nL1_b (l := 120) (a := a) (u := u) (m := m) (p := 0) (by omega)
  have k1 := nL1_b (a := a) (u := u) (m := m) (p := 1) k0
  rw [lame_eq, e, show (120 : Int32) = jI 120 from rfl]
  have s0 := fun r => nl_step (K := fun y => some y) (rec2 := r) (u := u) (p := 0) hr ha (by decide) hm (k := 3 * c) rfl 120 (by omega)
  have s1 := fun r => nl_step (K := fun y => some y) (rec2 := r) (u := u) (p := 1) hr ha (by decide) hm (k := 3 * c + 1) rfl (nL1 120 a u m 0) (by omega)
  have s2 := fun r => nl_step (K := fun y => some y) (rec2 := r) (u := u) (p := 2) hr ha (by decide) hm (k := 3 * c + 1 + 1) rfl (nL1 (nL1 120 a u m 0) a u m 1) (by omega)
  rw [lq2_1, s0, lq2_1, s1, lq2_1, s2]
  rw [lq2_1]
  unfold B_X2_nextLame_1
  rw [if_pos (show nI (3 * c) + 3 ≤ nI (3 * c + 1 + 1 + 1) from by rw [show nI (3 * c) + 3 = nI (3 * c + 3) from nI_add _ 3]; exact nI_le (by omega) (by have := hr.1; omega))]
  rfl
