theorem bn1_some {A1 B : Type} (a : A1) (k : A1 → Option B) : bn1 (some a) k = k a := rfl
theorem bn2_some {A1 A2 B : Type} (a : A1) (b : A2) (k : A1 → A2 → Option B) : bn2 (some (a, b)) k = k a b := rfl
theorem bn3_some {A1 A2 A3 B : Type} (a : A1) (b : A2) (c : A3) (k : A1 → A2 → A3 → Option B) : bn3 (some (a, b, c)) k = k a b c := rfl
theorem bn4_some {A1 A2 A3 A4 B : Type} (a : A1) (b : A2) (c : A3) (d : A4) (k : A1 → A2 → A3 → A4 → Option B) : bn4 (some (a, b, c, d)) k = k a b c d := rfl
theorem bn5_some {A1 A2 A3 A4 A5 B : Type} (a : A1) (b : A2) (c : A3) (d : A4) (e : A5) (k : A1 → A2 → A3 → A4 → A5 → Option B) : bn5 (some (a, b, c, d, e)) k = k a b c d e := rfl
theorem lq1_1 {A1 B : Type} (f : (A1 → Option B) → A1 → Option B) (n : Nat) (a : A1) : lq1 f (n + 1) a = f (lq1 f n) a := rfl
theorem lq2_1 {A1 A2 B : Type} (f : (A1 → A2 → Option B) → A1 → A2 → Option B) (n : Nat) (a : A1) (b : A2) : lq2 f (n + 1) a b = f (lq2 f n) a b := rfl
theorem lq3_1 {A1 A2 A3 B : Type} (f : (A1 → A2 → A3 → Option B) → A1 → A2 → A3 → Option B) (n : Nat) (a : A1) (b : A2) (c : A3) : lq3 f (n + 1) a b c = f (lq3 f n) a b c := rfl
theorem lq4_1 {A1 A2 A3 A4 B : Type} (f : (A1 → A2 → A3 → A4 → Option B) → A1 → A2 → A3 → A4 → Option B) (n : Nat) (a : A1) (b : A2) (c : A3) (d : A4) : lq4 f (n + 1) a b c d = f (lq4 f n) a b c d := rfl
theorem lq5_1 {A1 A2 A3 A4 A5 B : Type} (f : (A1 → A2 → A3 → A4 → A5 → Option B) → A1 → A2 → A3 → A4 → A5 → Option B) (n : Nat) (a : A1) (b : A2) (c : A3) (d : A4) (e : A5) : lq5 f (n + 1) a b c d e = f (lq5 f n) a b c d e := rfl
theorem jn1_if {A1 B : Type} (F : A1 → Option B) (c : Prop) [Decidable c] (a b : A1) : jn1 F (fun J => if c then J a else J b) = F (if c then a else b) := by
  by_cases h : c <;> simp [jn1, h]
theorem jn2_if {A1 A2 B : Type} (F : A1 → A2 → Option B) (c : Prop) [Decidable c] (a b : A1) (a2 b2 : A2) : jn2 F (fun J => if c then J a a2 else J b b2) = F (if c then a else b) (if c then a2 else b2) := by
  by_cases h : c <;> simp [jn2, h]
theorem fu_4 : ∃ n, fu = n + 1 + 1 + 1 + 1 := ⟨996, rfl⟩
theorem fu_7 : ∃ n, fu = n + 1 + 1 + 1 + 1 + 1 + 1 + 1 := ⟨993, rfl⟩
theorem e_hasPlace (p places : Int32) : f_X0_hasPlace p places = some (if 0 ≤ p ∧ p < places ∧ p < 3 then 1 else 0) := by
  unfold f_X0_hasPlace; grind
theorem e_hasHorse (p horses : Int32) : f_X0_hasHorse p horses = some (if 0 ≤ p ∧ p < horses ∧ p < 6 then 1 else 0) := by
  unfold f_X0_hasHorse; grind
theorem e_in (v a b : Int32) : f_X9_in v a b = some (if a ≤ v ∧ v ≤ b then 1 else 0) := by
  unfold f_X9_in; grind
theorem e_isHorse (h : Int32) (t : Nat → Int32) (h0 : 0 ≤ t 3) : f_X9_isHorse h t = some (if 0 ≤ h ∧ h < t 3 then 1 else 0) := by
  unfold f_X9_isHorse
  rw [e_in, bn1_some]
  have e : t ((3 : Int32)).toNatClampNeg = t 3 := rfl
  rw [e]
  grind
theorem e_isPlace (h : Int32) (t : Nat → Int32) (h0 : 0 ≤ t 0) : f_X9_isPlace h t = some (if 0 ≤ h ∧ h < t 0 then 1 else 0) := by
  unfold f_X9_isPlace
  rw [e_in, bn1_some]
  have e : t ((0 : Int32)).toNatClampNeg = t 0 := rfl
  rw [e]
  grind
theorem cl_ok {i : Int32} {n : Nat} (h0 : 0 ≤ i) (h1 : i.toNatClampNeg < n) : ¬ (i < 0 ∨ n ≤ i.toNatClampNeg) := by
  rintro (h | h)
  · grind
  · omega
theorem e_placeOf (h : Int32) (st : Nat → Int32) : f_X5_placeOf h st = some (if st 0 = h then 0 else if st 1 = h then 1 else if st 2 = h then 2 else -1) := by
  obtain ⟨n9, e⟩ := fu_4
  unfold f_X5_placeOf
  rw [e]
  rw [show ∀ (J : Unit → Option Int32) (k : (Unit → Option Int32) → Option Int32), jn1 J k = k J from fun _ _ => rfl]
  rw [lq1_1, if_neg (by decide), if_neg (by decide)]
  show (if st 0 = h then some 0 else _) = _
  by_cases h0 : st 0 = h
  · rw [if_pos h0, if_pos h0]
  · rw [if_neg h0, if_neg h0]
    rw [lq1_1, if_neg (by decide), if_neg (by decide)]
    show (if st 1 = h then some 1 else _) = _
    by_cases h1 : st 1 = h
    · rw [if_pos h1, if_pos h1]
    · rw [if_neg h1, if_neg h1]
      rw [lq1_1, if_neg (by decide), if_neg (by decide)]
      show (if st 2 = h then some 2 else _) = _
      by_cases h2 : st 2 = h
      · rw [if_pos h2, if_pos h2]
      · rw [if_neg h2, if_neg h2]
        rw [lq1_1, if_pos (by decide)]
theorem e_whereIs (h : Int32) (s : Nat → Int32) : f_X9_whereIs h s = some (if s 8 = h then 2 else if s 7 = h then 1 else if s 6 = h then 0 else -1) := by
  obtain ⟨n9, e⟩ := fu_4
  unfold f_X9_whereIs
  rw [e]
  simp only [jn1_if]
  rw [show ∀ (J : Int32 → Option Int32) (k : (Int32 → Option Int32) → Option Int32), jn1 J k = k J from fun _ _ => rfl]
  rw [lq2_1, if_neg (by decide), if_neg (by decide), lq2_1, if_neg (by decide), if_neg (by decide), lq2_1, if_neg (by decide), if_neg (by decide), lq2_1, if_pos (by decide)]
  rfl
