/-! PURE SIDE: tell -/
theorem e_canStand {places horses n p : Int32} : f_X8_canStand n p places horses = some (if n = -1 ∨ ((0 ≤ p ∧ p < places ∧ p < 3) ∧ (0 ≤ n ∧ n < horses ∧ n < 6)) then 1 else 0) := by
  unfold f_X8_canStand
  rw [e_hasPlace, bn1_some, e_hasHorse, bn1_some]
  by_cases c1 : n = -1
  · rw [if_pos c1, if_pos (Or.inl c1)]
  · rw [if_neg c1]
    by_cases c2 : 0 ≤ p ∧ p < places ∧ p < 3
    · rw [if_pos c2, if_neg (by decide)]
      by_cases c3 : 0 ≤ n ∧ n < horses ∧ n < 6
      · rw [if_pos c3, if_neg (by decide), if_pos (Or.inr ⟨c2, c3⟩)]
      · rw [if_neg c3, if_pos rfl, if_neg (by rintro (z | z); exact c1 z; exact c3 z.2)]
    · rw [if_neg c2, if_pos rfl, if_neg (by rintro (z | z); exact c1 z; exact c2 z.1)]
theorem e_isOneTwice (a b c : Int32) : f_X2_isOneTwice a b c = some (if (a ≠ -1 ∧ (a = b ∨ a = c)) ∨ (b ≠ -1 ∧ b = c) then 1 else 0) := by
  unfold f_X2_isOneTwice
  rw [jn1_d]
  grind
def at3 (z : Nat → Int32) (x y w : Int32) : Nat → Int32 := upd (upd (upd z 0 x) 1 y) 2 w
theorem at3_0 (z : Nat → Int32) (x y w : Int32) : at3 z x y w 0 = x := by unfold at3; rw [upd_n (by decide), upd_n (by decide), upd_s]
theorem at3_1 (z : Nat → Int32) (x y w : Int32) : at3 z x y w 1 = y := by unfold at3; rw [upd_n (by decide), upd_s]
theorem at3_2 (z : Nat → Int32) (x y w : Int32) : at3 z x y w 2 = w := by unfold at3; rw [upd_s]
theorem m3_n {p : Nat} (hp : p < 3) : (nI p + 1) - (nI p + 1) / 3 * 3 = nI ((p + 1) % 3) := by
  rw [nI_1, show (3 : Int32) = nI 3 from rfl, pk_rem (by omega) (by decide) (by decide)]
theorem tell_step {t z : Nat → Int32} {n1 n2 n3 : Int32} {K : Int32 → Option (Int32 × Int32 × Int32 × (Nat → Int32) × (Nat → Int32))} {rec : Int32 → Int32 → Option (Int32 × Int32 × Int32 × (Nat → Int32) × (Nat → Int32))} {p : Nat} (h0 : 0 ≤ t 0) (h3 : 0 ≤ t 3) (hp : p < 3) (y : Int32) :
    B_X9_tell_1 K z n1 n2 n3 t rec y (nI p) = rec (if y ≠ 0 ∧ (at3 z n1 n2 n3 p = -1 ∨ ((0 ≤ nI p ∧ nI p < t 0) ∧ (0 ≤ at3 z n1 n2 n3 p ∧ at3 z n1 n2 n3 p < t 3) ∧ at3 z n1 n2 n3 p ≠ at3 z n1 n2 n3 ((p + 1) % 3))) then 1 else 0) (nI (p + 1)) := by
  have hA : upd (upd (upd z (Int32.toNatClampNeg 0) n1) (Int32.toNatClampNeg 1) n2) (Int32.toNatClampNeg 2) n3 = at3 z n1 n2 n3 := rfl
  unfold B_X9_tell_1
  simp only [jn1_d]
  rw [if_neg (show ¬ (3 : Int32) ≤ nI p from nI_ge (b := 3) hp (by decide)), hA, m3_n hp, if_neg (idx_ok (k := p) rfl hp (by decide)), if_neg (idx_ok (k := (p + 1) % 3) rfl (by omega) (by decide)), nI_clamp (by omega), nI_clamp (by omega), e_isPlace _ _ h0, bn1_some, e_isHorse _ _ h3, bn1_some, nI_1]
  by_cases c1 : y = 0
  · rw [if_pos c1, if_neg (fun q => q.1 c1)]
  · rw [if_neg c1]
    by_cases c2 : at3 z n1 n2 n3 p = -1
    · rw [if_pos c2, if_pos ⟨c1, Or.inl c2⟩]
    · rw [if_neg c2]
      by_cases c3 : 0 ≤ nI p ∧ nI p < t 0
      · rw [if_pos c3, if_neg (by decide)]
        by_cases c4 : 0 ≤ at3 z n1 n2 n3 p ∧ at3 z n1 n2 n3 p < t 3
        · rw [if_pos c4, if_neg (by decide)]
          by_cases c5 : at3 z n1 n2 n3 p = at3 z n1 n2 n3 ((p + 1) % 3)
          · rw [if_pos c5, if_neg (by rintro ⟨-, q | q⟩; exact c2 q; exact q.2.2 c5)]
          · rw [if_neg c5, if_pos ⟨c1, Or.inr ⟨c3, c4, c5⟩⟩]
        · rw [if_neg c4, if_pos rfl, if_neg (by rintro ⟨-, q | q⟩; exact c2 q; exact c4 q.2.1)]
      · rw [if_neg c3, if_pos rfl, if_neg (by rintro ⟨-, q | q⟩; exact c2 q; exact c3 q.1)]
/-- may be told -/
def tellOk (places horses n1 n2 n3 : Int32) : Prop := (n1 = -1 ∨ (0 < places ∧ (0 ≤ n1 ∧ n1 < horses))) ∧ (n2 = -1 ∨ (1 < places ∧ (0 ≤ n2 ∧ n2 < horses))) ∧ (n3 = -1 ∨ (2 < places ∧ (0 ≤ n3 ∧ n3 < horses))) ∧ (n1 = -1 ∨ n1 ≠ n2) ∧ (n2 = -1 ∨ n2 ≠ n3) ∧ (n3 = -1 ∨ n3 ≠ n1)
theorem tell_loop {t z : Nat → Int32} {n1 n2 n3 : Int32} (K : Int32 → Option (Int32 × Int32 × Int32 × (Nat → Int32) × (Nat → Int32))) (h0 : 0 ≤ t 0) (h3 : 0 ≤ t 3) :
    ∃ y : Int32, lq2 (B_X9_tell_1 K z n1 n2 n3 t) fu 1 0 = K y ∧ (y = 0 ∨ y = 1) ∧ (y = 1 ↔ tellOk (t 0) (t 3) n1 n2 n3) := by
  obtain ⟨n9, e⟩ := fu_4
  rw [e, show (0 : Int32) = nI 0 from rfl, lq2_1, tell_step h0 h3 (p := 0) (by decide), lq2_1, tell_step h0 h3 (p := 0 + 1) (by decide), lq2_1, tell_step h0 h3 (p := 0 + 1 + 1) (by decide), lq2_1]
  unfold B_X9_tell_1
  rw [if_pos (by decide)]
  refine ⟨_, rfl, ?_, ?_⟩
  · by_cases c : (if (if (1 : Int32) ≠ 0 ∧ (at3 z n1 n2 n3 0 = -1 ∨ (0 ≤ nI 0 ∧ nI 0 < t 0) ∧ (0 ≤ at3 z n1 n2 n3 0 ∧ at3 z n1 n2 n3 0 < t 3) ∧ at3 z n1 n2 n3 0 ≠ at3 z n1 n2 n3 ((0 + 1) % 3)) then (1 : Int32) else nI 0) ≠ nI 0 ∧ (at3 z n1 n2 n3 (0 + 1) = -1 ∨ (nI 0 ≤ nI (0 + 1) ∧ nI (0 + 1) < t 0) ∧ (nI 0 ≤ at3 z n1 n2 n3 (0 + 1) ∧ at3 z n1 n2 n3 (0 + 1) < t 3) ∧ at3 z n1 n2 n3 (0 + 1) ≠ at3 z n1 n2 n3 ((0 + 1 + 1) % 3)) then (1 : Int32) else nI 0) ≠ nI 0 ∧ (at3 z n1 n2 n3 (0 + 1 + 1) = -1 ∨ (nI 0 ≤ nI (0 + 1 + 1) ∧ nI (0 + 1 + 1) < t 0) ∧ (nI 0 ≤ at3 z n1 n2 n3 (0 + 1 + 1) ∧ at3 z n1 n2 n3 (0 + 1 + 1) < t 3) ∧ at3 z n1 n2 n3 (0 + 1 + 1) ≠ at3 z n1 n2 n3 ((0 + 1 + 1 + 1) % 3))
    · exact Or.inr (if_pos c)
    · exact Or.inl (if_neg c)
  · show (if _ then (1 : Int32) else 0) = 1 ↔ _
    have g0 : at3 z n1 n2 n3 0 = n1 := at3_0 _ _ _ _
    have g1 : at3 z n1 n2 n3 (0 + 1) = n2 := at3_1 _ _ _ _
    have g2 : at3 z n1 n2 n3 (0 + 1 + 1) = n3 := at3_2 _ _ _ _
    have g3 : at3 z n1 n2 n3 ((0 + 1) % 3) = n2 := at3_1 _ _ _ _
    have g4 : at3 z n1 n2 n3 ((0 + 1 + 1) % 3) = n3 := at3_2 _ _ _ _
    have g5 : at3 z n1 n2 n3 ((0 + 1 + 1 + 1) % 3) = n1 := at3_0 _ _ _ _
    rw [g0, g1, g2]
    have i0 : nI 0 = 0 := rfl
    have i1 : nI (0 + 1) = 1 := rfl
    have i2 : nI (0 + 1 + 1) = 2 := rfl
    rw [i0, i1, i2]
    unfold tellOk
    grind
def tellK (n1 n2 n3 n4 n5 count : Int32) (times z : Nat → Int32) (y6 : Int32) : Option (Int32 × Int32 × Int32 × (Nat → Int32) × (Nat → Int32)) :=
  if y6 = 0 then some ((-1000000001 : Int32), (0 : Int32), count, times, (at3 z n1 n2 n3))
    else bn1 (f_X9_in n4 (0 : Int32) (99 : Int32)) (fun (r_2 : Int32) => if r_2 = 0 then some ((-1000000002 : Int32), (0 : Int32), count, times, (at3 z n1 n2 n3)) else
      bn1 (f_X9_in n5 (0 : Int32) (120 : Int32)) (fun (r_3 : Int32) => if r_3 = 0 then some ((-1000000002 : Int32), (0 : Int32), count, times, (at3 z n1 n2 n3)) else
        jn1 (fun (_ : Unit) => if count = (10 : Int32) then some ((-1000000004 : Int32), (0 : Int32), count, times, (at3 z n1 n2 n3)) else
          if ((5 : Int32) * count) < 0 ∨ 50 ≤ (((5 : Int32) * count)).toNatClampNeg then none else
          if (((5 : Int32) * count) + (1 : Int32)) < 0 ∨ 50 ≤ ((((5 : Int32) * count) + (1 : Int32))).toNatClampNeg then none else
          if (((5 : Int32) * count) + (2 : Int32)) < 0 ∨ 50 ≤ ((((5 : Int32) * count) + (2 : Int32))).toNatClampNeg then none else
          if (((5 : Int32) * count) + (3 : Int32)) < 0 ∨ 50 ≤ ((((5 : Int32) * count) + (3 : Int32))).toNatClampNeg then none else
          if (((5 : Int32) * count) + (4 : Int32)) < 0 ∨ 50 ≤ ((((5 : Int32) * count) + (4 : Int32))).toNatClampNeg then none else
          some ((count + (1 : Int32)), (0 : Int32), (count + (1 : Int32)), (upd (upd (upd (upd (upd times (((5 : Int32) * count)).toNatClampNeg n1) ((((5 : Int32) * count) + (1 : Int32))).toNatClampNeg n2) ((((5 : Int32) * count) + (2 : Int32))).toNatClampNeg n3) ((((5 : Int32) * count) + (3 : Int32))).toNatClampNeg n4) ((((5 : Int32) * count) + (4 : Int32))).toNatClampNeg n5), (at3 z n1 n2 n3)))
        (fun J162_4 => if n1 = (-1 : Int32) then if n2 = (-1 : Int32) then if n3 = (-1 : Int32) then some ((-1000000003 : Int32), (0 : Int32), count, times, (at3 z n1 n2 n3)) else J162_4 () else J162_4 () else J162_4 ())))
theorem tell_eq (n1 n2 n3 n4 n5 th count : Int32) (times z t : Nat → Int32) : f_X9_tell n1 n2 n3 n4 n5 th count t times z = lq2 (B_X9_tell_1 (tellK n1 n2 n3 n4 n5 count times z) z n1 n2 n3 t) fu 1 0 := by
  unfold f_X9_tell
  rw [jn1_d]
  rfl
theorem m_tell {places horses count many th n1 n2 n3 n4 n5 : Int32} {who hours minutes times t z : Nat → Int32} (ht : TW t) (h3 : horses = t 3) (hp : t 0 = places ∧ 0 ≤ places ∧ places ≤ 3) (hM : RM count who hours minutes many times t) :
    ∃ (rr count' : Int32) (who' hours' minutes' : Nat → Int32) (many' : Int32) (times' z' : Nat → Int32), f_X8_tell n1 n2 n3 n4 n5 places horses count who hours minutes = some (rr, count', who', hours', minutes') ∧ f_X9_tell n1 n2 n3 n4 n5 th many t times z = some (rr, 0, many', times', z') ∧ RM count' who' hours' minutes' many' times' t := by
  have hM0 := hM
  obtain ⟨⟨hmc, hc0, hc10⟩, hR⟩ := hM
  subst hmc
  unfold f_X8_tell
  rw [tell_eq]
  obtain ⟨y, hy, hy01, hyi⟩ := tell_loop (z := z) (n1 := n1) (n2 := n2) (n3 := n3) (tellK n1 n2 n3 n4 n5 many times z) (by rw [hp.1]; exact hp.2.1) ht.1.1
  rw [hy]
  unfold tellK
  rw [e_canStand, bn1_some, e_canStand, bn1_some, e_canStand, bn1_some, e_isOneTwice, bn1_some, jn1_d, jn1_d]
  by_cases c : tellOk (t 0) (t 3) n1 n2 n3
  · have hy1 : y = 1 := hyi.mpr c
    rw [hy1, if_neg (show ¬ (1 : Int32) = 0 by decide)]
    have hst : STND (t 0) (t 3) (at3 z n1 n2 n3) := by
      rw [STND_3, at3_0, at3_1, at3_2]
      unfold tellOk at c
      grind
    unfold tellOk at c
    have hp1 := hp.1
    have hh6 := ht.1.2
    rw [if_pos (show n1 = -1 ∨ ((0 : Int32) ≤ 0 ∧ 0 < places ∧ (0 : Int32) < 3) ∧ 0 ≤ n1 ∧ n1 < horses ∧ n1 < 6 by grind), if_pos (show n2 = -1 ∨ ((0 : Int32) ≤ 1 ∧ 1 < places ∧ (1 : Int32) < 3) ∧ 0 ≤ n2 ∧ n2 < horses ∧ n2 < 6 by grind), if_pos (show n3 = -1 ∨ ((0 : Int32) ≤ 2 ∧ 2 < places ∧ (2 : Int32) < 3) ∧ 0 ≤ n3 ∧ n3 < horses ∧ n3 < 6 by grind), if_neg (show ¬ ((n1 ≠ -1 ∧ (n1 = n2 ∨ n1 = n3)) ∨ (n2 ≠ -1 ∧ n2 = n3)) by grind)]
    rw [if_neg (show ¬ (1 : Int32) = 0 by decide), if_neg (show ¬ (1 : Int32) = 0 by decide), if_neg (show ¬ (1 : Int32) = 0 by decide), if_pos rfl]
    by_cases c4 : 0 ≤ n4 ∧ n4 ≤ 99
    · rw [if_neg (show ¬ n4 < 0 by grind), if_neg (show ¬ 99 < n4 by grind), in_t c4.1 c4.2, bn1_some, if_neg (show ¬ (1 : Int32) = 0 by decide)]
      by_cases c5 : 0 ≤ n5 ∧ n5 ≤ 120
      · rw [if_neg (show ¬ n5 < 0 by grind), if_pos c5.2, in_t c5.1 c5.2, bn1_some, if_neg (show ¬ (1 : Int32) = 0 by decide)]
        by_cases c6 : n1 = -1 ∧ n2 = -1 ∧ n3 = -1
        · rw [if_pos c6.1, if_pos c6.2.1, if_pos c6.2.2, if_pos c6.1, if_pos c6.2.1, if_pos c6.2.2]
          exact ⟨_, _, _, _, _, _, _, _, rfl, rfl, hM0⟩
        · have hsk : ∀ {B : Type} (X Y : Option B), (if n1 = -1 then if n2 = -1 then if n3 = -1 then X else Y else Y else Y) = Y := fun X Y => by
            by_cases d1 : n1 = -1
            · rw [if_pos d1]
              by_cases d2 : n2 = -1
              · rw [if_pos d2, if_neg (fun d3 => c6 ⟨d1, d2, d3⟩)]
              · rw [if_neg d2]
            · rw [if_neg d1]
          rw [hsk, hsk]
          obtain ⟨m, hm, em⟩ := nI_of2 (M := 10) (n := 10) rfl (x := many) (by grind) hc10
          subst em
          by_cases c7 : m = 10
          · subst c7
            rw [if_neg (show ¬ nI 10 < 10 by decide), if_pos (show nI 10 = 10 from rfl)]
            exact ⟨_, _, _, _, _, _, _, _, rfl, rfl, hM0⟩
          · have e3 : nI m * 3 = nI (3 * m) := by rw [show (3 : Int32) = nI 3 from rfl, pk_mul, Nat.mul_comm]
            have e5 : (5 : Int32) * nI m = nI (5 * m) := by rw [show (5 : Int32) = nI 5 from rfl, pk_mul]
            have a1 : ∀ x : Nat, nI x + 2 = nI (x + 2) := fun x => nI_add x 2
            have a3 : ∀ x : Nat, nI x + 3 = nI (x + 3) := fun x => nI_add x 3
            have a4 : ∀ x : Nat, nI x + 4 = nI (x + 4) := fun x => nI_add x 4
            unfold f_X6_note
            rw [if_pos (show nI m < 10 from nI_lt (b := 10) (by omega) (by decide)), if_neg (show ¬ nI m = 10 from fun z => c7 ((nI_eq (b := 10) (by omega) (by decide)).mp z)), if_neg (nI_pos (by omega)), if_pos (show nI m < 10 from nI_lt (b := 10) (by omega) (by decide)), e3, e5, a1, a1, a3, a4, nI_1 (3 * m), nI_1 (5 * m), nI_1 m]
            rw [if_neg (idx_ok (k := 3 * m) rfl (by omega) (by decide)), if_neg (idx_ok (k := 3 * m + 1) rfl (by omega) (by decide)), if_neg (idx_ok (k := 3 * m + 2) rfl (by omega) (by decide)), if_neg (idx_ok (k := m) rfl (by omega) (by decide)), bn4_some, if_neg (idx_ok (k := 5 * m) rfl (by omega) (by decide)), if_neg (idx_ok (k := 5 * m + 1) rfl (by omega) (by decide)), if_neg (idx_ok (k := 5 * m + 2) rfl (by omega) (by decide)), if_neg (idx_ok (k := 5 * m + 3) rfl (by omega) (by decide)), if_neg (idx_ok (k := 5 * m + 4) rfl (by omega) (by decide))]
            rw [nI_clamp (n := 3 * m) (by omega), nI_clamp (n := 3 * m + 1) (by omega), nI_clamp (n := 3 * m + 2) (by omega), nI_clamp (n := m) (by omega), nI_clamp (n := 5 * m) (by omega), nI_clamp (n := 5 * m + 1) (by omega), nI_clamp (n := 5 * m + 2) (by omega), nI_clamp (n := 5 * m + 3) (by omega), nI_clamp (n := 5 * m + 4) (by omega)]
            refine ⟨_, _, _, _, _, _, _, _, rfl, rfl, ⟨rfl, nI_pos' (by omega), nI_le (b := 10) (by omega) (by decide)⟩, ?_⟩
            intro k hk
            rw [nI_clamp (by omega)] at hk
            rw [nI_clamp (by omega)] at hR
            by_cases ek : k = m
            · subst ek
              have w0 : upd (upd (upd who (3 * k) n1) (3 * k + 1) n2) (3 * k + 2) n3 (3 * k) = n1 := by rw [upd_n (by omega), upd_n (by omega), upd_s]
              have w1 : upd (upd (upd who (3 * k) n1) (3 * k + 1) n2) (3 * k + 2) n3 (3 * k + 1) = n2 := by rw [upd_n (by omega), upd_s]
              have w2 : upd (upd (upd who (3 * k) n1) (3 * k + 1) n2) (3 * k + 2) n3 (3 * k + 2) = n3 := by rw [upd_s]
              refine ⟨fun p hp => ?_, STND_ext (a := at3 z n1 n2 n3) (fun p hp => ?_) hst, ?_, ⟨?_, by rw [upd_s]; exact c4⟩, ⟨?_, by rw [upd_s]; exact c5⟩⟩
              · match p, hp with
                | 0, _ => exact Eq.trans (by rw [upd_n (by omega), upd_n (by omega), upd_n (by omega), upd_n (by omega)]; exact upd_s : upd (upd (upd (upd (upd times (5 * k) n1) (5 * k + 1) n2) (5 * k + 2) n3) (5 * k + 3) n4) (5 * k + 4) n5 (5 * k + 0) = n1) w0.symm
                | 1, _ => rw [w1, upd_n (by omega), upd_n (by omega), upd_n (by omega), upd_s]
                | 2, _ => rw [w2, upd_n (by omega), upd_n (by omega), upd_s]
              · match p, hp with
                | 0, _ => exact w0.trans (at3_0 _ _ _ _).symm
                | 1, _ => exact w1.trans (at3_1 _ _ _ _).symm
                | 2, _ => exact w2.trans (at3_2 _ _ _ _).symm
              · rw [w0, w1, w2]; exact c6
              · rw [upd_n (by omega), upd_s, upd_s]
              · rw [upd_s, upd_s]
            · obtain ⟨r1, r2, r3, r4, r5⟩ := hR k (by omega)
              have hw : ∀ p, p < 3 → upd (upd (upd who (3 * m) n1) (3 * m + 1) n2) (3 * m + 2) n3 (3 * k + p) = who (3 * k + p) := fun p hp => by rw [upd_n (by omega), upd_n (by omega), upd_n (by omega)]
              have hw0 : upd (upd (upd who (3 * m) n1) (3 * m + 1) n2) (3 * m + 2) n3 (3 * k) = who (3 * k) := hw 0 (by decide)
              have htm : ∀ p, p < 5 → upd (upd (upd (upd (upd times (5 * m) n1) (5 * m + 1) n2) (5 * m + 2) n3) (5 * m + 3) n4) (5 * m + 4) n5 (5 * k + p) = times (5 * k + p) := fun p hp => by rw [upd_n (by omega), upd_n (by omega), upd_n (by omega), upd_n (by omega), upd_n (by omega)]
              refine ⟨fun p hp => by rw [htm p (by omega), hw p hp]; exact r1 p hp, STND_ext (fun p hp => hw p hp) r2, by rw [hw0, hw 1 (by decide), hw 2 (by decide)]; exact r3, ?_, ?_⟩
              · rw [htm 3 (by decide), upd_n ek]; exact r4
              · rw [htm 4 (by decide), upd_n ek]; exact r5
      · rw [in_f c5, bn1_some, if_pos rfl]
        by_cases c6 : n5 < 0
        · rw [if_pos c6]; exact ⟨_, _, _, _, _, _, _, _, rfl, rfl, hM0⟩
        · rw [if_neg c6, if_neg (show ¬ n5 ≤ 120 by grind)]; exact ⟨_, _, _, _, _, _, _, _, rfl, rfl, hM0⟩
    · rw [in_f c4, bn1_some, if_pos rfl]
      by_cases c6 : n4 < 0
      · rw [if_pos c6]; exact ⟨_, _, _, _, _, _, _, _, rfl, rfl, hM0⟩
      · rw [if_neg c6, if_pos (show 99 < n4 by grind)]; exact ⟨_, _, _, _, _, _, _, _, rfl, rfl, hM0⟩
  · have hy0 : y = 0 := hy01.resolve_right (fun z => c (hyi.mp z))
    rw [hy0, if_pos rfl]
    have hp1 := hp.1
    have hh6 := ht.1.2
    by_cases d1 : n1 = -1 ∨ ((0 : Int32) ≤ 0 ∧ 0 < places ∧ (0 : Int32) < 3) ∧ 0 ≤ n1 ∧ n1 < horses ∧ n1 < 6
    · rw [if_pos d1, if_neg (show ¬ (1 : Int32) = 0 by decide)]
      by_cases d2 : n2 = -1 ∨ ((0 : Int32) ≤ 1 ∧ 1 < places ∧ (1 : Int32) < 3) ∧ 0 ≤ n2 ∧ n2 < horses ∧ n2 < 6
      · rw [if_pos d2, if_neg (show ¬ (1 : Int32) = 0 by decide)]
        by_cases d3 : n3 = -1 ∨ ((0 : Int32) ≤ 2 ∧ 2 < places ∧ (2 : Int32) < 3) ∧ 0 ≤ n3 ∧ n3 < horses ∧ n3 < 6
        · rw [if_pos d3, if_neg (show ¬ (1 : Int32) = 0 by decide)]
          by_cases d4 : (n1 ≠ -1 ∧ (n1 = n2 ∨ n1 = n3)) ∨ (n2 ≠ -1 ∧ n2 = n3)
          · rw [if_pos d4, if_neg (show ¬ (1 : Int32) = 0 by decide)]
            exact ⟨_, _, _, _, _, _, _, _, rfl, rfl, hM0⟩
          · exfalso
            apply c
            unfold tellOk
            grind
        · rw [if_neg d3, if_pos rfl]
          exact ⟨_, _, _, _, _, _, _, _, rfl, rfl, hM0⟩
      · rw [if_neg d2, if_pos rfl]
        exact ⟨_, _, _, _, _, _, _, _, rfl, rfl, hM0⟩
    · rw [if_neg d1, if_pos rfl]
      exact ⟨_, _, _, _, _, _, _, _, rfl, rfl, hM0⟩
