/-! PURE SIDE: the class's minutes are the first minute at which she is over -/
theorem cFind_not {br : Int} {g : Nat → Int} {k n : Nat} (h : ∀ i, 0 < i → i ≤ n → ¬ br ≤ g i) : cFind br g k 0 = 0 ∨ n < cFind br g k 0 := by
  rcases cFind_spec br g k 0 with ⟨j, h1, h2, h3, h4, h5⟩ | ⟨h1, h2⟩
  · right
    rw [h5]
    rcases Nat.lt_or_ge n j with z | z
    · exact z
    · exact absurd h3 (h j h1 z)
  · exact Or.inl h2
theorem cFind_is {br : Int} {g : Nat → Int} {k n : Nat} (hn : 0 < n) (hk : n ≤ k) (h : ∀ i, 0 < i → i < n → ¬ br ≤ g i) (h2 : br ≤ g n) : cFind br g k 0 = n := by
  rcases cFind_spec br g k 0 with ⟨j, h1, _, h3, h4, h5⟩ | ⟨h1, _⟩
  · rw [h5]
    rcases Nat.lt_trichotomy j n with z | z | z
    · exact absurd h3 (h j h1 z)
    · exact z
    · exact absurd h2 (h4 n hn z)
  · exact absurd h2 (h1 n hn (by omega))
/-- what minutes() answers -/
def mAns (M within : Nat) : Int := if M ≠ 0 ∧ M ≤ within then (M : Int) else -1
theorem ceil_facts {X P : Int} (hX : 1 ≤ X) (hP : 1 ≤ P) : 1 ≤ (X + P - 1) / P ∧ X ≤ P * ((X + P - 1) / P) ∧ P * ((X + P - 1) / P - 1) < X ∧ (X + P - 1) / P ≤ X := by
  have h1 := Int.mul_ediv_add_emod (X + P - 1) P
  have h2 := Int.emod_nonneg (X + P - 1) (show P ≠ 0 by omega)
  have h3 := Int.emod_lt_of_pos (X + P - 1) (show 0 < P by omega)
  have h4 : P * ((X + P - 1) / P - 1) = P * ((X + P - 1) / P) - P := by rw [Int.mul_sub, Int.mul_one]
  generalize (X + P - 1) / P = d at *
  generalize (X + P - 1) % P = r at *
  have hd : 1 ≤ d := by
    rcases Int.lt_or_le 0 d with z | z
    · omega
    · have : P * d ≤ P * 0 := Int.mul_le_mul_of_nonneg_left z (by omega)
      omega
  refine ⟨hd, by omega, by omega, ?_⟩
  have h5 : 1 * (d - 1) ≤ P * (d - 1) := Int.mul_le_mul_of_nonneg_right hP (by omega)
  omega
theorem min_step {t who pull u a : Nat → Int32} {q : Nat → Int} {law broad : Int32} {K : Unit → Option Int32} {c within : Nat} {push : Int} (hr : ROW who pull c a q) (ha : CREW t a) (hq : ∀ p, p < 3 → 0 ≤ q p ∧ q p ≤ 40) (hlaw : law = 0 ∨ law = 1) (hbr : 1 ≤ broad.toInt ∧ broad.toInt ≤ 999) (hpu : -300 ≤ push ∧ push ≤ 300) (hwi : within ≤ 120) :
    ∀ (al lame m n : Nat), alive a u m ≤ al → al + lame ≤ 3 → al < n → m ≤ 120 → (∀ i, 0 < i → i ≤ m → ¬ broad.toInt ≤ cCome law a q u push i) → cCome law a q u push m < broad.toInt →
      lq3 (B_X2_minutes_1 K (nI c) who pull law u (jI push) broad (nI within)) n (nI m) (jI (cCome law a q u push m)) (nI lame) = some (jI (mAns (cMin law broad.toInt a q u push) within)) := by
  have hc228 := hr.1
  intro al
  induction al using Nat.strongRecOn with
  | ind al ih =>
  intro lame m n hal hlm hn hm hbe hCb
  obtain ⟨n, rfl⟩ : ∃ n', n = n' + 1 := ⟨n - 1, by omega⟩
  have hC := cCome_b (law := law) (a := a) (w := u) (push := push) hq hpu m
  have hpa := cPace_b (law := law) (a := a) (x := cx a q u m) (fun p hp => cx_b (hq p hp))
  have hmo : ∀ j, m ≤ j → cPace law a (cx a q u j) ≤ cPace law a (cx a q u m) := fun j hj => cPace_mono (fun p hp => cx_mono (hq p hp).1 hj)
  rw [lq3_1]
  generalize hR : lq3 (B_X2_minutes_1 K (nI c) who pull law u (jI push) broad (nI within)) n = R
  unfold B_X2_minutes_1
  have e3c : nI c * (3 : Int32) = nI (3 * c) := by rw [show (3 : Int32) = nI 3 from rfl, pk_mul, Nat.mul_comm]
  rw [if_neg (show ¬ (3 : Int32) < nI lame from nI_nlt (a := 3) (b := lame) (by omega) (by decide)), e3c, e_pace hr ha hm hq hlaw, bn1_some, jI_add]
  generalize hP : cPace law a (cx a q u m) + push = P at *
  have e0 : (0 : Int32) < jI P ↔ 0 < P := by rw [show (0 : Int32) = jI 0 from rfl, jI_lt (by omega) (by omega) (by omega) (by omega)]
  by_cases c0 : 0 < P
  · have en : ¬ jI P = 0 := by rw [show (0 : Int32) = jI 0 from rfl, jI_eq (by omega) (by omega) (by omega) (by omega)]; omega
    obtain ⟨f1, f2, f3, f4⟩ := ceil_facts (X := broad.toInt - cCome law a q u push m) (P := P) (by omega) (by omega)
    have ed : (broad - jI (cCome law a q u push m) + jI P - 1) / jI P = jI ((broad.toInt - cCome law a q u push m + P - 1) / P) := by
      have eb : broad = jI broad.toInt := (jI_self broad).symm
      rw [show broad - jI (cCome law a q u push m) = jI (broad.toInt - cCome law a q u push m) from by rw [← jI_sub, jI_self], jI_add, show (1 : Int32) = jI 1 from rfl, jI_sub, jI_div (by omega) (by omega) (by omega) (by omega), Int.tdiv_eq_ediv_of_nonneg (by omega)]
    rw [if_pos (e0.mpr c0), if_neg en, ed, jI_nat m, jI_add]
    generalize hd : (broad.toInt - cCome law a q u push m + P - 1) / P = d at *
    have ew : jI ((m : Int) + d) ≤ nI within ↔ (m : Int) + d ≤ within := by rw [jI_nat within, jI_le (by omega) (by omega) (by omega) (by omega)]
    -- nothing is reached ahead of m + d
    have hle : ∀ i : Nat, 0 < i → (i : Int) < m + d → ¬ broad.toInt ≤ cCome law a q u push i := by
      intro i h1 h2 h3
      rcases Nat.lt_or_ge m i with z | z
      · obtain ⟨k, rfl⟩ : ∃ k, i = m + k := ⟨i - m, by omega⟩
        have := come_le (law := law) (a := a) (w := u) (q := q) (push := push) (Pp := P) (m := m) (by omega) hC.1 (fun j hj => by have := hmo j hj; omega) k
        have h4 : P * (k : Int) ≤ P * (d - 1) := Int.mul_le_mul_of_nonneg_left (by omega) (by omega)
        omega
      · exact hbe i h1 z h3
    by_cases c1 : (m : Int) + d ≤ within
    · rw [if_pos (ew.mpr c1), ← jI_nat m, e_nextLame hr ha hm, bn1_some, jI_nat m]
      obtain ⟨g1, g2, g3⟩ := nLame_spec a u m
      have hnb : (m : Int) ≤ nLame a u m := by
        have k0 := nL1_b (l := 120) (a := a) (u := u) (m := m) (p := 0) (by omega)
        have k1 := nL1_b (a := a) (u := u) (m := m) (p := 1) k0
        exact (nL1_b (a := a) (u := u) (m := m) (p := 2) k1).1
      have hconst : ∀ k : Nat, (m : Int) + k ≤ nLame a u m → cCome law a q u push (m + k) = cCome law a q u push m + P * (k : Int) := fun k hk =>
        come_const (by omega) hC.1 k (fun j h1 h2 => by rw [← hP, cPace_ext (fun p hp => cx_same hp h1 (by omega))])
      have eu : jI (nLame a u m) < jI ((m : Int) + d) ↔ nLame a u m < m + d := jI_lt (by omega) (by omega) (by omega) (by omega)
      by_cases c2 : nLame a u m < m + d
      · rw [if_pos (eu.mpr c2)]
        obtain ⟨k, hk⟩ : ∃ k : Nat, nLame a u m = ((m + k : Nat) : Int) := ⟨(nLame a u m - m).toNat, by omega⟩
        rcases g3 with z | ⟨p, hp, hav, z⟩
        · omega
        · have hk1 : 0 < k := by have := hav.2; omega
          have hcm := hconst k (by omega)
          have h4 : P * (k : Int) ≤ P * (d - 1) := Int.mul_le_mul_of_nonneg_left (by omega) (by omega)
          have hlt : alive a u (m + k) < alive a u m := alive_lt hp (by omega) hav (by omega)
          have hih := ih (alive a u (m + k)) (by omega) (lame + 1) (m + k) n (Nat.le_refl _) (by omega) (by omega) (by omega) (fun i h1 h2 => hle i h1 (by omega)) (by omega)
          rw [hcm, jI_nat (m + k), ← hk] at hih
          rw [jI_sub, jI_mul, jI_add, nI_1, show nLame a u m - (m : Int) = (k : Int) from by omega]
          rw [← hR]
          exact hih
      · rw [if_neg (fun z => c2 (eu.mp z))]
        obtain ⟨k, hk⟩ : ∃ k : Nat, d = (k : Int) := ⟨d.toNat, by omega⟩
        have hcm := hconst k (by omega)
        have hM : cMin law broad.toInt a q u push = m + k := cFind_is (by omega) (by omega) (fun i h1 h2 => hle i h1 (by omega)) (by rw [hcm, ← hk]; omega)
        rw [hM]
        unfold mAns
        rw [if_pos ⟨by omega, by omega⟩, hk]
        rfl
    · rw [if_neg (fun z => c1 (ew.mp z))]
      have hM := cFind_not (br := broad.toInt) (g := cCome law a q u push) (k := 120) (n := within) (fun i h1 h2 => hle i h1 (by omega))
      unfold mAns cMin
      rw [if_neg (by rintro ⟨z1, z2⟩; rcases hM with z | z <;> omega)]
      rfl
  · rw [if_neg (fun z => c0 (e0.mp z))]
    have hM := cFind_not (br := broad.toInt) (g := cCome law a q u push) (k := 120) (n := 120) (fun i h1 h2 h3 => by
      rcases Nat.lt_or_ge m i with z | z
      · obtain ⟨k, rfl⟩ : ∃ k, i = m + k := ⟨i - m, by omega⟩
        have := come_le (law := law) (a := a) (w := u) (q := q) (push := push) (Pp := 0) (m := m) (by omega) hC.1 (fun j hj => by have := hmo j hj; omega) k
        omega
      · exact hbe i h1 z h3)
    unfold mAns cMin
    rw [if_neg (by rintro ⟨z1, z2⟩; rcases hM with z | z <;> omega)]
    rfl

theorem minutes_eq (n1 n3 n4 law broad : Int32) (who pull u : Nat → Int32) : f_X2_minutes n1 n3 n4 who pull law broad u = bn1 (f_X2_isCrew n1) (fun r => if r = 0 then some (-1) else lq3 (B_X2_minutes_1 (fun _ => some (-1)) n1 who pull law u n3 broad n4) fu 0 0 0) := by
  unfold f_X2_minutes
  refine congrArg (bn1 (f_X2_isCrew n1)) ?_
  funext r
  by_cases c : r = 0
  · rw [if_pos c, if_pos c]
  · rw [if_neg c, if_neg c, jn1_d]
    refine congrArg (fun F => lq3 F fu 0 0 0) ?_
    funext rec3 y6 y7 y8
    unfold B_X2_minutes_1
    rfl
theorem e_isCrew {c : Nat} (h : c ≤ 228) : f_X2_isCrew (nI c) = some 1 := by
  unfold f_X2_isCrew
  rw [if_neg (nI_pos (by omega)), if_neg (show ¬ (229 : Int32) ≤ nI c from nI_ge (a := c) (b := 229) (by omega) (by decide))]
theorem fu_9 : 9 < fu := by decide
/-- minutes(crew, strength, push, within) -/
theorem e_minutes {t who pull u a : Nat → Int32} {q : Nat → Int} {law broad : Int32} {c within : Nat} {push : Int} (hr : ROW who pull c a q) (ha : CREW t a) (hq : ∀ p, p < 3 → 0 ≤ q p ∧ q p ≤ 40) (hlaw : law = 0 ∨ law = 1) (hbr : 1 ≤ broad.toInt ∧ broad.toInt ≤ 999) (hpu : -300 ≤ push ∧ push ≤ 300) (hwi : within ≤ 120) :
    f_X2_minutes (nI c) (jI push) (nI within) who pull law broad u = some (jI (mAns (cMin law broad.toInt a q u push) within)) := by
  rw [minutes_eq, e_isCrew hr.1, bn1_some, if_neg (by decide)]
  have h := min_step (K := fun _ => some (-1)) (u := u) hr ha hq hlaw hbr hpu hwi (alive a u 0) 0 0 fu (Nat.le_refl _) (by have := alive_3 a u 0; omega) (by have := alive_3 a u 0; have := fu_9; omega) (by omega) (fun i h1 h2 => absurd h1 (by omega)) (by show (0 : Int) < _; omega)
  exact h
