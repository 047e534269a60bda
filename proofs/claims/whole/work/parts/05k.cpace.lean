/-! PURE SIDE: the class's pace, the next lame one, oats: of crew c, whose horses are a and whose pulls are q -/
def ROW (who pull : Nat → Int32) (c : Nat) (a : Nat → Int32) (q : Nat → Int) : Prop := c ≤ 228 ∧ ∀ p : Nat, p < 3 → who (3 * c + p) = a p ∧ pull (3 * c + p) = jI (q p)
theorem jn3_d {A1 A2 A3 B : Type} (J : A1 → A2 → A3 → Option B) (k : (A1 → A2 → A3 → Option B) → Option B) : jn3 J k = k J := rfl
theorem jn2_d {A1 A2 B : Type} (J : A1 → A2 → Option B) (k : (A1 → A2 → Option B) → Option B) : jn2 J k = k J := rfl
theorem jn1_d {A1 B : Type} (J : A1 → Option B) (k : (A1 → Option B) → Option B) : jn1 J k = k J := rfl
/-- the class's least so far: s how many stood, l the least of them -/
def kL (s l : Int) (b : Prop) [Decidable b] (x : Int) : Int := if b then (if s = 0 then x else if x < l then x else l) else l
theorem hor_ok {t a : Nat → Int32} {h : Nat} (hh : h < 6) {z : Int32} (e : z = nI h) : ¬ z < 0 ∧ ¬ (6 : Int32) ≤ z ∧ ¬ (z < 0 ∨ 6 ≤ z.toNatClampNeg) := by
  refine ⟨?_, ?_, idx_ok e hh (by decide)⟩
  · rw [e]; exact nI_pos (by omega)
  · rw [e]; exact nI_ge (a := h) (b := 6) hh (by decide)
theorem cx_u {a u : Nat → Int32} {q : Nat → Int} {m p h : Nat} (e : a p = nI h) (hh : h < 6) (hm : m < 2147483648) (pv : Int32) (hp : pv = jI (q p)) : (if u (a p).toNatClampNeg ≤ nI m then (0 : Int32) else pv) = jI (cx a q u m p) := by
  have hne : a p ≠ -1 := by rw [e]; exact nI_ne (by omega)
  unfold cx
  by_cases c : (m : Int) < (u (a p).toNatClampNeg).toInt
  · have hc : ¬ u (a p).toNatClampNeg ≤ nI m := by rw [i_le, nI_toInt hm]; omega
    rw [if_neg hc, if_pos ⟨hne, c⟩, hp]
  · have hc : u (a p).toNatClampNeg ≤ nI m := by rw [i_le, nI_toInt hm]; omega
    rw [if_pos hc, if_neg (fun z => c z.2)]; rfl
theorem pace_step {t who pull u a : Nat → Int32} {q : Nat → Int} {K : Int32 → Int32 → Int32 → Option Int32} {rec2 : Int32 → Int32 → Int32 → Int32 → Option Int32} {c m p : Nat} (hr : ROW who pull c a q) (ha : CREW t a) (hp : p < 3) (hm : m ≤ 120) (hq : ∀ p, p < 3 → 0 ≤ q p ∧ q p ≤ 40) {k : Nat} (hk : k = 3 * c + p) (s g l : Int) (hs : 0 ≤ s ∧ s ≤ 3) (hl : 0 ≤ l ∧ l ≤ 1000) :
    B_X2_pace_1 (nI (3 * c)) K who u (nI m) pull rec2 (jI s) (jI g) (jI l) (nI k) = rec2 (jI (s + if a p ≠ -1 then 1 else 0)) (jI (g + cx a q u m p)) (jI (kL s l (a p ≠ -1) (cx a q u m p))) (nI (k + 1)) := by
  subst hk
  have hc := hr.1
  obtain ⟨e1, e2⟩ := hr.2 p hp
  unfold B_X2_pace_1
  rw [if_neg (show ¬ nI (3 * c) + 3 ≤ nI (3 * c + p) from by rw [show nI (3 * c) + 3 = nI (3 * c + 3) from nI_add _ 3]; exact nI_ge (by omega) (by omega)), if_neg (idx_ok rfl (by omega) (by decide)), nI_clamp (by omega), e1, e2, nI_1, jn3_d]
  rcases ha p hp with e | ⟨h, -, hh, e⟩
  · rw [if_pos (by rw [e]; decide), if_neg (fun z => z e)]
    unfold kL cx
    rw [if_neg (fun z => z.1 e), if_neg (fun z => z e), Int.add_zero, Int.add_zero]
  · have hne : a p ≠ -1 := by rw [e]; exact nI_ne (by omega)
    have hx := cx_b (a := a) (w := u) (m := m) (hq p hp)
    obtain ⟨h1, h2, h3⟩ := hor_ok (t := t) (a := a) hh e
    rw [if_neg h1, if_neg h2, if_neg h3, jn1_if, cx_u e hh (by omega) _ rfl, jn1_if, if_pos hne]
    have e0 : (jI s = 0) ↔ s = 0 := by rw [show (0 : Int32) = jI 0 from rfl, jI_eq (by omega) (by omega) (by omega) (by omega)]
    have el : (jI (cx a q u m p) < jI l) ↔ cx a q u m p < l := jI_lt (by omega) (by omega) (by omega) (by omega)
    have ek : (if jI s = 0 then jI (cx a q u m p) else if jI (cx a q u m p) < jI l then jI (cx a q u m p) else jI l) = jI (kL s l (a p ≠ -1) (cx a q u m p)) := by
      unfold kL
      rw [if_pos hne]
      by_cases c0 : s = 0
      · rw [if_pos (e0.mpr c0), if_pos c0]
      · rw [if_neg (fun z => c0 (e0.mp z)), if_neg c0]
        by_cases c1 : cx a q u m p < l
        · rw [if_pos (el.mpr c1), if_pos c1]
        · rw [if_neg (fun z => c1 (el.mp z)), if_neg c1]
    rw [ek, show (1 : Int32) = jI 1 from rfl, jI_add, jI_add]
theorem kL_b {s l x : Int} {b : Prop} [Decidable b] (hl : 0 ≤ l ∧ l ≤ 1000) (hx : 0 ≤ x ∧ x ≤ 40) : 0 ≤ kL s l b x ∧ kL s l b x ≤ 1000 := by
  unfold kL
  by_cases c : b
  · rw [if_pos c]
    by_cases c1 : s = 0
    · rw [if_pos c1]; omega
    · rw [if_neg c1]
      by_cases c2 : x < l
      · rw [if_pos c2]; omega
      · rw [if_neg c2]; exact hl
  · rw [if_neg c]; exact hl
theorem kL_least {b0 b1 b2 : Prop} [Decidable b0] [Decidable b1] [Decidable b2] {x0 x1 x2 : Int} (h0 : 0 ≤ x0 ∧ x0 ≤ 40) (h1 : 0 ≤ x1 ∧ x1 ≤ 40) (h2 : 0 ≤ x2 ∧ x2 ≤ 40) :
    kL (0 + (if b0 then 1 else 0) + (if b1 then 1 else 0)) (kL (0 + if b0 then 1 else 0) (kL 0 0 b0 x0) b1 x1) b2 x2 * (0 + (if b0 then 1 else 0) + (if b1 then 1 else 0) + (if b2 then 1 else 0)) = cL1 (cL1 (cL1 1000 b0 x0) b1 x1) b2 x2 * ((if b0 then 1 else 0) + (if b1 then 1 else 0) + (if b2 then 1 else 0)) := by
  unfold kL cL1
  by_cases c0 : b0 <;> by_cases c1 : b1 <;> by_cases c2 : b2 <;> simp [c0, c1, c2] <;> grind

def paceK (law y4 y5 y6 : Int32) : Option Int32 := if law = 1 then some (y6 * y4) else some y5
theorem pace_eq (n1 n3 law : Int32) (who pull u : Nat → Int32) : f_X2_pace n1 n3 who pull law u = lq4 (B_X2_pace_1 n1 (paceK law) who u n3 pull) fu 0 0 0 n1 := by
  unfold f_X2_pace
  rw [jn3_d]
  refine congrArg (fun F => lq4 F fu 0 0 0 n1) ?_
  funext rec2 y4 y5 y6 y7
  unfold B_X2_pace_1 paceK
  rfl
theorem e_pace {t who pull u a : Nat → Int32} {q : Nat → Int} {law : Int32} {c m : Nat} (hr : ROW who pull c a q) (ha : CREW t a) (hm : m ≤ 120) (hq : ∀ p, p < 3 → 0 ≤ q p ∧ q p ≤ 40) (hlaw : law = 0 ∨ law = 1) :
    f_X2_pace (nI (3 * c)) (nI m) who pull law u = some (jI (cPace law a (cx a q u m))) := by
  obtain ⟨n9, e⟩ := fu_4
  have h0 := cx_b (a := a) (w := u) (m := m) (hq 0 (by decide))
  have h1 := cx_b (a := a) (w := u) (m := m) (hq 1 (by decide))
  have h2 := cx_b (a := a) (w := u) (m := m) (hq 2 (by decide))
  have b0 := one_b (a 0 ≠ -1)
  have b1 := one_b (a 1 ≠ -1)
  have b2 := one_b (a 2 ≠ -1)
  have k0 := kL_b (s := 0) (l := 0) (b := a 0 ≠ -1) (by omega) h0
  have k1 := kL_b (s := 0 + if a 0 ≠ -1 then 1 else 0) (b := a 1 ≠ -1) k0 h1
  rw [pace_eq, e, show (0 : Int32) = jI 0 from rfl]
  generalize hK : paceK law = K
  have s0 := fun r => pace_step (K := K) (rec2 := r) (u := u) (p := 0) hr ha (by decide) hm hq (k := 3 * c) rfl 0 0 0 (by omega) (by omega)
  have s1 := fun r => pace_step (K := K) (rec2 := r) (u := u) (p := 1) hr ha (by decide) hm hq (k := 3 * c + 1) rfl (0 + if a 0 ≠ -1 then 1 else 0) (0 + cx a q u m 0) (kL 0 0 (a 0 ≠ -1) (cx a q u m 0)) (by omega) k0
  have s2 := fun r => pace_step (K := K) (rec2 := r) (u := u) (p := 2) hr ha (by decide) hm hq (k := 3 * c + 1 + 1) rfl (0 + (if a 0 ≠ -1 then 1 else 0) + if a 1 ≠ -1 then 1 else 0) (0 + cx a q u m 0 + cx a q u m 1) (kL (0 + if a 0 ≠ -1 then 1 else 0) (kL 0 0 (a 0 ≠ -1) (cx a q u m 0)) (a 1 ≠ -1) (cx a q u m 1)) (by omega) k1
  rw [lq4_1, s0, lq4_1, s1, lq4_1, s2]
  subst hK
  rw [lq4_1]
  unfold B_X2_pace_1
  rw [if_pos (show nI (3 * c) + 3 ≤ nI (3 * c + 1 + 1 + 1) from by rw [show nI (3 * c) + 3 = nI (3 * c + 3) from nI_add _ 3]; exact nI_le (by omega) (by have := hr.1; omega))]
  unfold cPace cLeast cCnt paceK
  rcases hlaw with rfl | rfl
  · show (if (0 : Int32) = 1 then _ else _) = some (jI (if (0 : Int32) = 0 then _ else _))
    rw [if_neg (show ¬ (0 : Int32) = 1 by decide), if_pos (show (0 : Int32) = 0 from rfl)]
    congr 2
    omega
  · show (if (1 : Int32) = 1 then _ else _) = some (jI (if (1 : Int32) = 0 then _ else _))
    rw [if_pos (show (1 : Int32) = 1 from rfl), if_neg (show ¬ (1 : Int32) = 0 by decide), jI_mul, kL_least h0 h1 h2]
