/-! PURE SIDE: the reference's pace, its crossing -/
theorem jnA {B : Type} (F : Int32 → Option B) (c d : Prop) [Decidable c] [Decidable d] (y z : Int32) : jn1 F (fun J73 => jn1 (fun (_ : Unit) => J73 y) (fun J72 => if c then J72 () else if d then J72 () else J73 z)) = F (if c then y else if d then y else z) := by
  by_cases h : c <;> by_cases h2 : d <;> simp [jn1, h, h2]
/-- what place p pulls now -/
def xn (t a w : Nat → Int32) (half : Int32) (p : Nat) : Int := if a p ≠ -1 ∧ w (a p).toNatClampNeg ≠ 0 then pullP t a half p else 0
theorem xn_b {t a w : Nat → Int32} {half : Int32} (ht : TW t) (ha : CREW t a) {p : Nat} (hp : p < 3) : 0 ≤ xn t a w half p ∧ xn t a w half p ≤ 40 := by
  unfold xn
  by_cases c : a p ≠ -1 ∧ w (a p).toNatClampNeg ≠ 0
  · rw [if_pos c]; exact pullP_b ht ha hp
  · rw [if_neg c]; omega
def pl3 (pl : Nat → Int32) (x : Nat → Int) : Nat → Int32 := upd (upd (upd pl 0 (jI (x 0))) 1 (jI (x 1))) 2 (jI (x 2))
theorem pl3_at (pl : Nat → Int32) (x : Nat → Int) {p : Nat} (hp : p < 3) : pl3 pl x p = jI (x p) := by
  unfold pl3
  match p, hp with
  | 0, _ => rw [upd_n (by decide), upd_n (by decide), upd_s]
  | 1, _ => rw [upd_n (by decide), upd_s]
  | 2, _ => rw [upd_s]
theorem cL1_j {l x : Int} {b : Prop} [Decidable b] {z : Int32} (hl : 0 ≤ l ∧ l ≤ 1000) (hx : 0 ≤ x ∧ x ≤ 40) (hb : b ↔ ¬ z = -1) : (if z = -1 then jI l else if jI l ≤ jI x then jI l else jI x) = jI (cL1 l b x) ∧ 0 ≤ cL1 l b x ∧ cL1 l b x ≤ 1000 := by
  unfold cL1
  by_cases c : z = -1
  · rw [if_pos c, if_neg (fun h => (hb.mp h.1) c)]; exact ⟨rfl, hl.1, hl.2⟩
  · rw [if_neg c]
    by_cases c2 : x < l
    · rw [if_neg (by rw [jI_le (by omega) (by omega) (by omega) (by omega)]; omega), if_pos ⟨hb.mpr c, c2⟩]; exact ⟨rfl, by omega, by omega⟩
    · rw [if_pos (by rw [jI_le (by omega) (by omega) (by omega) (by omega)]; omega), if_neg (fun h => c2 h.2)]; exact ⟨rfl, hl.1, hl.2⟩
theorem cnt_j {z : Int32} : (if z = -1 then (0 : Int32) else 1) = jI (if z ≠ -1 then 1 else 0) := by
  by_cases c : z = -1
  · rw [if_pos c, if_neg (fun h => h c)]; rfl
  · rw [if_neg c, if_pos c]; rfl
set_option maxHeartbeats 2000000 in
theorem e_paceNow {t a w pl : Nat → Int32} {half : Int32} (ha : CREW t a) (ht : TW t) : f_X9_paceNow half t w a pl = some (jI (cPace (t 1) a (xn t a w half)), pl3 pl (xn t a w half)) := by
  obtain ⟨n9, e⟩ := fu_4
  have h0 := xn_b (w := w) (half := half) ht ha (p := 0) (by decide)
  have h1 := xn_b (w := w) (half := half) ht ha (p := 1) (by decide)
  have h2 := xn_b (w := w) (half := half) ht ha (p := 2) (by decide)
  unfold f_X9_paceNow
  rw [e]
  rw [show ∀ (J : Int32 → Int32 → Int32 → (Nat → Int32) → Option (Int32 × (Nat → Int32))) (k : (Int32 → Int32 → Int32 → (Nat → Int32) → Option (Int32 × (Nat → Int32))) → Option (Int32 × (Nat → Int32))), jn4 J k = k J from fun _ _ => rfl]
  rw [lq5_1, if_neg (by decide), show f_X9_pullAt (0 : Int32) half t w a = _ from e_pullAt (p := 0) (by decide) ha ht, bn1_some, if_neg (by decide), jnA]
  try dsimp only
  rw [jn1_if]
  simp only [show ((0 : Int32)).toNatClampNeg = 0 from rfl, upd_s]
  rw [lq5_1, if_neg (by decide), show f_X9_pullAt (0 + 1 : Int32) half t w a = _ from e_pullAt (p := 1) (by decide) ha ht, bn1_some, if_neg (by decide), jnA]
  try dsimp only
  rw [jn1_if]
  simp only [show ((0 + 1 : Int32)).toNatClampNeg = 1 from rfl, upd_s]
  rw [lq5_1, if_neg (by decide), show f_X9_pullAt (0 + 1 + 1 : Int32) half t w a = _ from e_pullAt (p := 2) (by decide) ha ht, bn1_some, if_neg (by decide), jnA]
  try dsimp only
  rw [jn1_if]
  simp only [show ((0 + 1 + 1 : Int32)).toNatClampNeg = 2 from rfl, upd_s]
  rw [lq5_1, if_pos (by decide)]
  try dsimp only
  change (if t 1 = 0 then _ else _) = _
  have f0 : (if a 0 ≠ -1 ∧ w (a 0).toNatClampNeg ≠ 0 then pullP t a half 0 else 0) = xn t a w half 0 := rfl
  have f1 : (if a 1 ≠ -1 ∧ w (a 1).toNatClampNeg ≠ 0 then pullP t a half 1 else 0) = xn t a w half 1 := rfl
  have f2 : (if a 2 ≠ -1 ∧ w (a 2).toNatClampNeg ≠ 0 then pullP t a half 2 else 0) = xn t a w half 2 := rfl
  rw [f0, f1, f2]
  generalize hx0 : xn t a w half 0 = x0 at *
  generalize hx1 : xn t a w half 1 = x1 at *
  generalize hx2 : xn t a w half 2 = x2 at *
  have g0 := cL1_j (l := 1000) (x := x0) (b := a 0 ≠ -1) (z := a 0) (by omega) h0 Iff.rfl
  have g1 := cL1_j (l := cL1 1000 (a 0 ≠ -1) x0) (x := x1) (b := a 1 ≠ -1) (z := a 1) g0.2 h1 Iff.rfl
  have g2 := cL1_j (l := cL1 (cL1 1000 (a 0 ≠ -1) x0) (a 1 ≠ -1) x1) (x := x2) (b := a 2 ≠ -1) (z := a 2) g1.2 h2 Iff.rfl
  rw [show (1000 : Int32) = jI 1000 from rfl, g0.1, g1.1, g2.1, cnt_j, cnt_j, cnt_j, show (0 : Int32) = jI 0 from rfl]
  simp only [jI_add, jI_mul]
  unfold cPace cLeast cCnt pl3
  rw [hx0, hx1, hx2]
  by_cases c : t 1 = jI 0
  · rw [if_pos c, if_pos (show t 1 = 0 from c)]; simp only [Int.zero_add]
  · rw [if_neg c, if_neg (show ¬ t 1 = 0 from c)]; simp only [Int.zero_add]
