/-! PURE SIDE: the reference's finds() -/
theorem puts_at {r : Nat} (hr : r < 343) (z : Nat → Int32) : upd (upd (upd z ((0 : Int32)).toNatClampNeg ((nI r / (49 : Int32)) - (1 : Int32))) ((1 : Int32)).toNatClampNeg (((nI r / (7 : Int32)) - (nI r / (7 : Int32)) / (7 : Int32) * (7 : Int32)) - (1 : Int32))) ((2 : Int32)).toNatClampNeg ((nI r - nI r / (7 : Int32) * (7 : Int32)) - (1 : Int32)) = at3 z (rowA r 0) (rowA r 1) (rowA r 2) := by
  have h1 : nI r / (49 : Int32) = nI (r / 49) := pk_div (d := 49) (by omega) (by decide) (by decide)
  have h2 : nI r / (7 : Int32) = nI (r / 7) := pk_div (d := 7) (by omega) (by decide) (by decide)
  have h3 : nI (r / 7) - nI (r / 7) / (7 : Int32) * (7 : Int32) = nI (r / 7 % 7) := pk_rem (d := 7) (by omega) (by decide) (by decide)
  have h4 : nI r - nI r / (7 : Int32) * (7 : Int32) = nI (r % 7) := pk_rem (d := 7) (by omega) (by decide) (by decide)
  rw [h1, h4, h2, h3]
  rfl
theorem at3_row {r p : Nat} (hp : p < 3) (z : Nat → Int32) : at3 z (rowA r 0) (rowA r 1) (rowA r 2) p = rowA r p := by
  match p, hp with
  | 0, _ => exact at3_0 _ _ _ _
  | 1, _ => exact at3_1 _ _ _ _
  | 2, _ => exact at3_2 _ _ _ _
abbrev putC1 (t : Nat → Int32) (x : Int32) (r p : Nat) : Prop := ¬ t 3 ≤ rowA r p ∧ (rowA r p = -1 ∨ (¬ t 0 ≤ nI p ∧ rowA r p ≠ x)) ∧ (rowA r p = -1 ∨ rowA r p ≠ rowA r ((p + 1) % 3))
theorem puts_step {t z : Nat → Int32} {x y : Int32} {r p : Nat} {K : Int32 → Option (Int32 × (Nat → Int32))} {rec : Int32 → Int32 → Option (Int32 × (Nat → Int32))} (hr : r < 343) (hp : p < 3) :
    B_X9_puts_1 K z (nI r) t x rec y (nI p) = rec (if y ≠ 0 ∧ putC1 t x r p then 1 else 0) (nI (p + 1)) := by
  unfold B_X9_puts_1
  rw [puts_at hr z, if_neg (show ¬ (3 : Int32) ≤ nI p from nI_ge (b := 3) hp (by decide)), m3_n hp, nI_1]
  have i1 : ¬ (nI p < 0 ∨ 3 ≤ (nI p).toNatClampNeg) := idx_ok (k := p) rfl hp (by decide)
  have i2 : ¬ (nI ((p + 1) % 3) < 0 ∨ 3 ≤ (nI ((p + 1) % 3)).toNatClampNeg) := idx_ok (k := (p + 1) % 3) rfl (by omega) (by decide)
  rw [nI_clamp (n := p) (by omega)] at i1 ⊢
  rw [nI_clamp (n := (p + 1) % 3) (by omega)] at i2 ⊢
  rw [at3_row hp, at3_row (show (p + 1) % 3 < 3 by omega)]
  have q0 : t (Int32.toNatClampNeg 0) = t 0 := rfl
  have q3 : t (Int32.toNatClampNeg 3) = t 3 := rfl
  rw [q0, q3]
  have key : ∀ (c1 c2 c3 c4 c5 c6 : Prop) [Decidable c1] [Decidable c2] [Decidable c3] [Decidable c4] [Decidable c5] [Decidable c6] (R : Int32 → Option (Int32 × (Nat → Int32))),
      (jn1 (fun (z4 : Int32) => jn1 (fun (z5 : Int32) => R z5) (fun J140 => jn1 (fun (_ : Unit) => J140 0) (fun J139 => if z4 = 0 then J139 () else jn1 (fun (_ : Unit) => J140 1) (fun J135 => if c3 then J135 () else if c6 then J139 () else J135 ())))) (fun J105 => jn1 (fun (_ : Unit) => J105 0) (fun J104 => if c1 then J104 () else if c2 then J104 () else jn1 (fun (_ : Unit) => J105 1) (fun J100 => if c3 then J100 () else if c4 then J104 () else if c5 then J104 () else J100 ())))) = R (if ¬ c1 ∧ (¬ c2 ∧ (c3 ∨ (¬ c4 ∧ ¬ c5)) ∧ (c3 ∨ ¬ c6)) then 1 else 0) := by
    intro c1 c2 c3 c4 c5 c6 _ _ _ _ _ _ R
    simp only [jn1_d]
    by_cases h1 : c1 <;> by_cases h2 : c2 <;> by_cases h3 : c3 <;> by_cases h4 : c4 <;> by_cases h5 : c5 <;> by_cases h6 : c6 <;> simp [h1, h2, h3, h4, h5, h6]
  simp only [i1, i2, if_false]
  exact key (y = 0) (t 3 ≤ rowA r p) (rowA r p = -1) (t 0 ≤ nI p) (rowA r p = x) (rowA r p = rowA r ((p + 1) % 3)) (fun z => rec z (nI (p + 1)))
theorem putC1_iff {t : Nat → Int32} {x : Int32} {P H r p : Nat} (e0 : t 0 = nI P) (e3 : t 3 = nI H) (hP : P ≤ 3) (hH : H ≤ 6) (hr : r < 343) (hp : p < 3) :
    putC1 t x r p ↔ (dgt r p = 0 ∨ (dgt r p ≤ H ∧ p < P ∧ rowA r p ≠ x)) ∧ (dgt r p = 0 ∨ dgt r p ≠ dgt r ((p + 1) % 3)) := by
  have hb := dgt_b hr p
  unfold putC1
  rw [rowA_n hr, Ne, Ne, Ne, rowA_eq hr, e0, e3, nI_leI (by omega) (by omega)]
  by_cases c : dgt r p = 0
  · have h1 : ¬ nI H ≤ rowA r p := by
      rw [rowA_0 c]
      intro z
      have := Int32.le_trans (nI_pos' (n := H) (by omega)) z
      exact absurd this (by decide)
    simp only [c, h1, true_or, not_false_eq_true, and_self]
  · have h1 : nI H ≤ rowA r p ↔ ¬ dgt r p ≤ H := by
      rw [rowA_1 c, nI_leI (by omega) (by omega)]; omega
    rw [h1, Nat.not_le (a := P), Classical.not_not]
    simp only [c, false_or]
    constructor
    · rintro ⟨a, ⟨b1, b2⟩, d⟩; exact ⟨⟨a, b1, b2⟩, d⟩
    · rintro ⟨⟨a, b1, b2⟩, d⟩; exact ⟨a, ⟨b1, b2⟩, d⟩
theorem puts_ok {t : Nat → Int32} {x : Int32} {P H r : Nat} (e0 : t 0 = nI P) (e3 : t 3 = nI H) (hP : P ≤ 3) (hH : H ≤ 6) (hr : r < 343) :
    (0 < r ∧ putC1 t x r 0 ∧ putC1 t x r 1 ∧ putC1 t x r 2) ↔ okN P H r ∧ ¬ rHas r x := by
  rw [putC1_iff e0 e3 hP hH hr (by decide), putC1_iff e0 e3 hP hH hr (by decide), putC1_iff e0 e3 hP hH hr (by decide)]
  have d0 : dgt r 0 = r / 49 := rfl
  have d1 : dgt r 1 = r / 7 % 7 := rfl
  have d2 : dgt r 2 = r % 7 := rfl
  have m0 : dgt r ((0 + 1) % 3) = r / 7 % 7 := rfl
  have m1 : dgt r ((1 + 1) % 3) = r % 7 := rfl
  have m2 : dgt r ((2 + 1) % 3) = r / 49 := rfl
  have n0 := rowA_n (r := r) (p := 0) hr
  have n1 := rowA_n (r := r) (p := 1) hr
  have n2 := rowA_n (r := r) (p := 2) hr
  rw [m0, m1, m2]
  rw [d0] at n0
  rw [d1] at n1
  rw [d2] at n2
  unfold okN rHas
  generalize rowA r 0 = A at *
  generalize rowA r 1 = B at *
  generalize rowA r 2 = C at *
  generalize r / 49 = a at *
  generalize r / 7 % 7 = b at *
  generalize r % 7 = c at *
  grind
theorem nest4 (c0 C0 C1 C2 : Prop) [Decidable c0] [Decidable C0] [Decidable C1] [Decidable C2] : (if (if (if (if c0 then (0 : Int32) else 1) ≠ 0 ∧ C0 then (1 : Int32) else 0) ≠ 0 ∧ C1 then (1 : Int32) else 0) ≠ 0 ∧ C2 then (1 : Int32) else 0) = if (¬ c0 ∧ C0 ∧ C1 ∧ C2) then 1 else 0 := by
  by_cases h0 : c0 <;> by_cases h1 : C0 <;> by_cases h2 : C1 <;> by_cases h3 : C2 <;> simp [h0, h1, h2, h3]
theorem if_iff {A : Type} {c d : Prop} [Decidable c] [Decidable d] (h : c ↔ d) (a b : A) : (if c then a else b) = if d then a else b := by
  by_cases q : c
  · rw [if_pos q, if_pos (h.mp q)]
  · rw [if_neg q, if_neg (fun z => q (h.mpr z))]
theorem e_puts {t z : Nat → Int32} {x : Int32} {P H r : Nat} (e0 : t 0 = nI P) (e3 : t 3 = nI H) (hP : P ≤ 3) (hH : H ≤ 6) (hr : r < 343) :
    f_X9_puts (nI r) x t z = some (if okN P H r ∧ ¬ rHas r x then 1 else 0, at3 z (rowA r 0) (rowA r 1) (rowA r 2)) := by
  obtain ⟨n9, e⟩ := fu_4
  have hf : f_X9_puts (nI r) x t z = lq2 (B_X9_puts_1 (fun y4 => if y4 = 0 ∨ y4 = 1 then some (y4, at3 z (rowA r 0) (rowA r 1) (rowA r 2)) else none) z (nI r) t x) fu (if nI r ≤ 0 then 0 else 1) 0 := by
    rw [← puts_at hr z]
    unfold f_X9_puts
    rw [jn1_if, jn1_d]
    rfl
  have hK : ∀ (c : Prop) [Decidable c] (A : Nat → Int32), (if (if c then (1 : Int32) else 0) = 0 ∨ (if c then (1 : Int32) else 0) = 1 then some ((if c then (1 : Int32) else 0), A) else none) = some ((if c then (1 : Int32) else 0), A) := fun c _ A => by
    by_cases q : c
    · rw [if_pos q, if_pos (Or.inr rfl)]
    · rw [if_neg q, if_pos (Or.inl rfl)]
  rw [hf, e]
  change lq2 (B_X9_puts_1 _ z (nI r) t x) (n9 + 1 + 1 + 1 + 1) _ (nI 0) = _
  rw [lq2_1, puts_step hr (p := 0) (by decide), lq2_1, puts_step hr (p := 0 + 1) (by decide), lq2_1, puts_step hr (p := 0 + 1 + 1) (by decide), lq2_1]
  unfold B_X9_puts_1
  rw [if_pos (by decide), nest4]
  dsimp only
  rw [hK]
  have hpos : ¬ nI r ≤ 0 ↔ 0 < r := by
    rw [show (0 : Int32) = nI 0 from rfl, nI_leI (by omega) (by omega)]; omega
  rw [if_iff ((and_congr_left' hpos).trans (puts_ok (x := x) e0 e3 hP hH hr))]
theorem e_keepsBest {m e bm bo : Int32} {a best : Nat → Int32} : f_X9_keepsBest m 0 e bm bo a best = some (m, e, fA 0 3 (fun p _ => a p) best) := by
  unfold f_X9_keepsBest
  rw [jn1_d]
  refine (fillL (K := fun w => some (m, e, w)) 0 3 (fun k _ => a k) (by omega) (fun rec k w hk => ?_) (fun rec w => ?_) best)
  · have h6 : ¬ (3 : Int32) ≤ nI k := nI_ge (b := 3) hk (by decide)
    have hc : (nI k).toNatClampNeg = k := nI_clamp (by omega)
    have h0 : ¬ nI k < 0 := nI_pos (by omega)
    have hz : (0 : Int32) + nI k = nI k := by rw [show (0 : Int32) = nI 0 from rfl, nI_add, Nat.zero_add]
    simp only [h6, hc, hz, h0, if_false, false_or, show ¬ 3 ≤ k by omega, show ¬ 6 ≤ k by omega, nI_1, Nat.zero_add]
  · rfl
/-- what the reference found so far -/
def StM (b : Nat × Nat × Int) (bm bo : Int32) (best : Nat → Int32) : Prop := bm = nI b.2.1 ∧ (b.2.1 ≠ 0 → bo = jI b.2.2 ∧ ∀ p, p < 3 → best p = rowA b.1 p)
theorem fd_tail {B : Type} (ch r6 t5 e6 bm bo : Int32) (Jno Jyes : Option B) : (jn1 (fun (z7 : Int32) => jn1 (fun (z8 : Int32) => jn1 (fun (z9 : Int32) => if z7 = 0 then Jno else jn1 (fun (_ : Unit) => Jyes) (fun J => if bm = 0 then J () else if z8 < 0 then J () else if z8 = 0 then if 0 ≤ z9 then Jno else J () else Jno)) (fun J116 => if ch = 0 then J116 (e6 - bo) else J116 (r6 - bm))) (fun J90 => if ch = 0 then J90 (r6 - bm) else J90 (e6 - bo))) (fun J64 => jn1 (fun (_ : Unit) => J64 0) (fun J63 => if r6 ≤ 0 then J63 () else jn1 (fun (_ : Unit) => J64 1) (fun J59 => if ch = 0 then J59 () else if t5 < r6 then J63 () else J59 ())))) = if (¬ r6 ≤ 0 ∧ (ch = 0 ∨ ¬ t5 < r6)) ∧ (bm = 0 ∨ (ch = 0 ∧ (r6 - bm < 0 ∨ (r6 - bm = 0 ∧ ¬ 0 ≤ e6 - bo))) ∨ (ch ≠ 0 ∧ (e6 - bo < 0 ∨ (e6 - bo = 0 ∧ ¬ 0 ≤ r6 - bm)))) then Jyes else Jno := by
  simp only [jn1_d]
  generalize hx : r6 - bm = X
  generalize hy : e6 - bo = Y
  by_cases c1 : ch = 0
  · by_cases c2 : r6 ≤ 0
    · simp [c1, c2]
    · by_cases c3 : bm = 0
      · simp [c1, c2, c3]
      · by_cases c4 : X < 0
        · simp [c1, c2, c3, c4]
        · by_cases c5 : X = 0
          · by_cases c6 : 0 ≤ Y
            · simp [c1, c2, c3, c5, c6]
            · simp [c1, c2, c3, c5, c6]
          · simp [c1, c2, c3, c4, c5]
  · by_cases c2 : r6 ≤ 0
    · simp [c1, c2]
    · by_cases c7 : t5 < r6
      · simp [c1, c2, c7]
      · by_cases c3 : bm = 0
        · simp [c1, c2, c3, c7]
        · by_cases c4 : Y < 0
          · simp [c1, c2, c3, c4, c7]
          · by_cases c5 : Y = 0
            · by_cases c6 : 0 ≤ X
              · simp [c1, c2, c3, c5, c6, c7]
              · simp [c1, c2, c3, c5, c6, c7]
            · simp [c1, c2, c3, c4, c5, c7]
theorem mf_step {t fr w w0 a0 pl best : Nat → Int32} {x ch e bm bo : Int32} {P H W r kh : Nat} {load : Int} {K : Int32 → Int32 → Int32 → (Nat → Int32) → (Nat → Int32) → (Nat → Int32) → (Nat → Int32) → Option (Int32 × Int32 × Int32 × Int32 × (Nat → Int32) × (Nat → Int32) × (Nat → Int32) × (Nat → Int32))} {rec : Int32 → Int32 → Int32 → Int32 → (Nat → Int32) → (Nat → Int32) → (Nat → Int32) → (Nat → Int32) → Option (Int32 × Int32 × Int32 × Int32 × (Nat → Int32) × (Nat → Int32) × (Nat → Int32) × (Nat → Int32))}
    (ht : TW t) (hs : TS t) (hw : WB t w) (hE : WEQ t fr w) (e0 : t 0 = nI P) (e3 : t 3 = nI H) (hP : P ≤ 3) (hH : H ≤ 6) (hk : kh < 2147483648) (hload : 0 ≤ load ∧ load ≤ 240) (hW : (ch = 0 ∧ W = 120) ∨ (ch = 1 ∧ t 5 = nI W ∧ W ≤ 120)) (hr : r < 343)
    (hS : StM (bst P H x W ch (rMin t w (tideS t kh - load)) (rEat t w (tideS t kh - load)) r) bm bo best) :
    ∃ (e' bm' bo' : Int32) (w' a' pl' best' : Nat → Int32), StM (bst P H x W ch (rMin t w (tideS t kh - load)) (rEat t w (tideS t kh - load)) (r + 1)) bm' bo' best' ∧ B_X9_finds_1 K x t fr (nI kh) (jI load) (-1) ch rec (nI r) e bm bo w0 a0 pl best = rec (nI (r + 1)) e' bm' bo' w' a' pl' best' := by
  have hW120 : W ≤ 120 := by rcases hW with h | h; omega; exact h.2.2
  rw [bst_s]
  have hbb : (bst P H x W ch (rMin t w (tideS t kh - load)) (rEat t w (tideS t kh - load)) r).2.1 = 0 ∨ ((bst P H x W ch (rMin t w (tideS t kh - load)) (rEat t w (tideS t kh - load)) r).2.1 ≤ 120 ∧ 0 ≤ (bst P H x W ch (rMin t w (tideS t kh - load)) (rEat t w (tideS t kh - load)) r).2.2 ∧ (bst P H x W ch (rMin t w (tideS t kh - load)) (rEat t w (tideS t kh - load)) r).2.2 ≤ 14400) := by
    rcases bst_is (P := P) (H := H) (x := x) (W := W) (ch := ch) (m := rMin t w (tideS t kh - load)) (e := rEat t w (tideS t kh - load)) r with h | ⟨q, h1, h2, h3⟩
    · exact Or.inl h
    · rw [h3]
      have g := row_f (push := tideS t kh - load) ht hs hw e0 e3 hP hH (show q < 343 by omega) h2.1
      exact Or.inr ⟨g.2.2.2.2.1, g.2.2.2.2.2.1, g.2.2.2.2.2.2⟩
  generalize bst P H x W ch (rMin t w (tideS t kh - load)) (rEat t w (tideS t kh - load)) r = b at hS hbb
  obtain ⟨br, bmn, be⟩ := b
  obtain ⟨rfl, hS2⟩ := hS
  dsimp only at hS2 hbb ⊢
  unfold B_X9_finds_1
  rw [if_neg (show ¬ (343 : Int32) ≤ nI r from nI_ge (b := 343) hr (by decide)), e_puts e0 e3 hP hH hr, bn2_some, jn6_e, nI_1]
  by_cases hv : okN P H r ∧ ¬ rHas r x
  · rw [if_pos hv, if_neg (show ¬ (1 : Int32) = 0 by decide), e_strong, bn1_some]
    obtain ⟨hc, hd, hok, hq, hm120, hea⟩ := row_f (push := tideS t kh - load) ht hs hw e0 e3 hP hH hr hv.1
    have ha : ∀ p, p < 3 → at3 a0 (rowA r 0) (rowA r 1) (rowA r 2) p = rowA r p := fun p hp => at3_row hp a0
    have hw1 : WEQ t (fA 0 6 (fun k _ => fr k) w0) w := fun h hh => by
      rw [e3, nI_clamp (by omega)] at hh
      rw [fA_0 (by omega)]
      exact hE h (by rw [e3, nI_clamp (by omega)]; exact hh)
    have hWB1 : WB t (fA 0 6 (fun k _ => fr k) w0) := fun h hh => by rw [hw1 h hh]; exact hw h hh
    have hc1 := CREW_ext ha hc
    obtain ⟨pl', hx⟩ := e_crosses (half := -1) (load := load) ht hc1 (DIST_ext ha hd) (WB_ok hs hWB1 hc1) hk hload e pl
    have hM : cMin (t 1) (t 2).toInt (at3 a0 (rowA r 0) (rowA r 1) (rowA r 2)) (pullP t (at3 a0 (rowA r 0) (rowA r 1) (rowA r 2)) (-1)) (fA 0 6 (fun k _ => fr k) w0) (tideS t kh - load) = rMin t w (tideS t kh - load) r := by
      rw [cMin_a ha (fun p hp => pullP_ext ha hp)]
      exact rMin_ext hc hw1
    have hE1 : ∀ m, cEat (at3 a0 (rowA r 0) (rowA r 1) (rowA r 2)) (pullP t (at3 a0 (rowA r 0) (rowA r 1) (rowA r 2)) (-1)) (fA 0 6 (fun k _ => fr k) w0) m = cEat (rowA r) (pullP t (rowA r) (-1)) w m := fun m => by
      rw [cEat_a ha (fun p hp => pullP_ext ha hp)]
      exact cEat_ext hc hw1
    rw [hM, hE1] at hx
    have hE2 : rMin t w (tideS t kh - load) r ≠ 0 → cEat (rowA r) (pullP t (rowA r) (-1)) w (wlk (rMin t w (tideS t kh - load) r)) = rEat t w (tideS t kh - load) r := fun h => by
      unfold wlk rEat
      rw [if_neg h]
    rw [hx, bn4_some, e_keepsBest, bn3_some, fd_tail]
    have q5 : t (Int32.toNatClampNeg 5) = t 5 := rfl
    have hM0 : nI (rMin t w (tideS t kh - load) r) ≤ 0 ↔ (rMin t w (tideS t kh - load) r) = 0 := by rw [show (0 : Int32) = nI 0 from rfl, nI_leI (by omega) (by omega)]; omega
    have hmay : (¬ nI (rMin t w (tideS t kh - load) r) ≤ 0 ∧ (ch = 0 ∨ ¬ t (Int32.toNatClampNeg 5) < nI (rMin t w (tideS t kh - load) r))) ↔ ((rMin t w (tideS t kh - load) r) ≠ 0 ∧ (rMin t w (tideS t kh - load) r) ≤ W) := by
      rw [hM0, q5]
      rcases hW with ⟨h1, h2⟩ | ⟨h1, h2, h3⟩
      · constructor
        · rintro ⟨z, -⟩; exact ⟨z, by omega⟩
        · rintro ⟨z, -⟩; exact ⟨z, Or.inl h1⟩
      · rw [h2, nI_ltI (by omega) (by omega)]
        constructor
        · rintro ⟨z, z2 | z2⟩
          · rw [h1] at z2; exact absurd z2 (by decide)
          · exact ⟨z, by omega⟩
        · rintro ⟨z, z2⟩; exact ⟨z, Or.inr (by omega)⟩
    have hbm0 : nI bmn = 0 ↔ bmn = 0 := by
      by_cases c : bmn = 0
      · subst c; exact ⟨fun _ => rfl, fun _ => rfl⟩
      · have := (hbb.resolve_left c).1
        exact ⟨fun z => absurd z (nI_ne0 (by omega) (by omega)), fun z => absurd z c⟩
    by_cases cm : (rMin t w (tideS t kh - load) r) ≠ 0 ∧ (rMin t w (tideS t kh - load) r) ≤ W
    · have hEE := hE2 cm.1
      have hcond : (bmn = 0 ∨ bet ch (rMin t w (tideS t kh - load) r) bmn (rEat t w (tideS t kh - load) r) be) ↔ (nI bmn = 0 ∨ (ch = 0 ∧ (nI (rMin t w (tideS t kh - load) r) - nI bmn < 0 ∨ (nI (rMin t w (tideS t kh - load) r) - nI bmn = 0 ∧ ¬ 0 ≤ jI (cEat (rowA r) (pullP t (rowA r) (-1)) w (wlk (rMin t w (tideS t kh - load) r))) - bo))) ∨ (ch ≠ 0 ∧ (jI (cEat (rowA r) (pullP t (rowA r) (-1)) w (wlk (rMin t w (tideS t kh - load) r))) - bo < 0 ∨ (jI (cEat (rowA r) (pullP t (rowA r) (-1)) w (wlk (rMin t w (tideS t kh - load) r))) - bo = 0 ∧ ¬ 0 ≤ nI (rMin t w (tideS t kh - load) r) - nI bmn)))) := by
        rw [hbm0]
        by_cases c : bmn = 0
        · exact ⟨fun _ => Or.inl c, fun _ => Or.inl c⟩
        · obtain ⟨b1, b2, b3⟩ := hbb.resolve_left c
          rw [hEE, (hS2 c).1, jI_nat, jI_nat, jI_sub, jI_sub, show (0 : Int32) = jI 0 from rfl, jI_lt (by omega) (by omega) (by omega) (by omega), jI_lt (by omega) (by omega) (by omega) (by omega), jI_eq (by omega) (by omega) (by omega) (by omega), jI_eq (by omega) (by omega) (by omega) (by omega), jI_le (by omega) (by omega) (by omega) (by omega), jI_le (by omega) (by omega) (by omega) (by omega)]
          unfold bet
          constructor
          · rintro (z | ⟨z1, z2⟩ | ⟨z1, z2⟩)
            · exact Or.inl z
            · exact Or.inr (Or.inl ⟨z1, by omega⟩)
            · exact Or.inr (Or.inr ⟨z1, by omega⟩)
          · rintro (z | ⟨z1, z2⟩ | ⟨z1, z2⟩)
            · exact Or.inl z
            · exact Or.inr (Or.inl ⟨z1, by omega⟩)
            · exact Or.inr (Or.inr ⟨z1, by omega⟩)
      by_cases cb : bmn = 0 ∨ bet ch (rMin t w (tideS t kh - load) r) bmn (rEat t w (tideS t kh - load) r) be
      · rw [if_pos ⟨⟨hv.1, hv.2, cm.1, cm.2⟩, cb⟩, if_pos ⟨hmay.mpr cm, hcond.mp cb⟩]
        refine ⟨_, _, _, _, _, _, _, ⟨rfl, fun _ => ⟨by rw [hEE], fun p hp => ?_⟩⟩, rfl⟩
        rw [fA_0 hp]; exact ha p hp
      · rw [if_neg (fun z => cb z.2), if_neg (fun z => cb (hcond.mpr z.2))]
        exact ⟨_, _, _, _, _, _, _, ⟨rfl, hS2⟩, rfl⟩
    · rw [if_neg (fun z => cm ⟨z.1.2.2.1, z.1.2.2.2⟩), if_neg (fun z => cm (hmay.mp z.1))]
      exact ⟨_, _, _, _, _, _, _, ⟨rfl, hS2⟩, rfl⟩
  · rw [if_neg (fun z => hv ⟨z.1.1, z.1.2.1⟩), if_neg hv, if_pos rfl]
    exact ⟨_, _, _, _, _, _, _, ⟨rfl, hS2⟩, rfl⟩
theorem finds_eq (n1 n2 n3 n4 e half bm bo : Int32) (t w a pl best fr : Nat → Int32) : f_X9_finds n1 n2 n3 n4 e half bm bo t w a pl best fr = lq8 (B_X9_finds_1 (fun e bm bo w a pl best => if bm ≤ 0 then some (0, e, bm, bo, w, a, pl, best) else some (1, e, bm, bo, w, a, pl, best)) n3 t fr n1 n2 half n4) fu 1 e 0 bo w a pl best := by
  unfold f_X9_finds
  rw [jn7_e]
  rfl
/-- finds -/
theorem m_finds {t fr w : Nat → Int32} {x ch : Int32} {P H W kh : Nat} {load : Int}
    (ht : TW t) (hs : TS t) (hw : WB t w) (hE : WEQ t fr w) (e0 : t 0 = nI P) (e3 : t 3 = nI H) (hP : P ≤ 3) (hH : H ≤ 6) (hk : kh < 2147483648) (hload : 0 ≤ load ∧ load ≤ 240) (hW : (ch = 0 ∧ W = 120) ∨ (ch = 1 ∧ t 5 = nI W ∧ W ≤ 120)) (e bm bo : Int32) (w0 a0 pl best : Nat → Int32) :
    ∃ (e' bm' bo' : Int32) (w' a' pl' best' : Nat → Int32), f_X9_finds (nI kh) (jI load) x ch e (-1) bm bo t w0 a0 pl best fr = some (if (bst P H x W ch (rMin t w (tideS t kh - load)) (rEat t w (tideS t kh - load)) 343).2.1 = 0 then 0 else 1, e', bm', bo', w', a', pl', best') ∧ StM (bst P H x W ch (rMin t w (tideS t kh - load)) (rEat t w (tideS t kh - load)) 343) bm' bo' best' := by
  rw [finds_eq]
  have hW120 : W ≤ 120 := by rcases hW with h | h; omega; exact h.2.2
  have h1 : bst P H x W ch (rMin t w (tideS t kh - load)) (rEat t w (tideS t kh - load)) (0 + 1) = (0, 0, 0) := by
    rw [bst_s, if_neg (fun z => absurd z.1.1.1 (by omega))]; rfl
  refine lq8_inv (fun k y e bm bo w' a pl best => y = nI (k + 1) ∧ StM (bst P H x W ch (rMin t w (tideS t kh - load)) (rEat t w (tideS t kh - load)) (k + 1)) bm bo best) (fun z => ∃ (e' bm' bo' : Int32) (w' a' pl' best' : Nat → Int32), z = some (if (bst P H x W ch (rMin t w (tideS t kh - load)) (rEat t w (tideS t kh - load)) 343).2.1 = 0 then (0 : Int32) else 1, e', bm', bo', w', a', pl', best') ∧ StM (bst P H x W ch (rMin t w (tideS t kh - load)) (rEat t w (tideS t kh - load)) 343) bm' bo' best') 342 ?_ ?_ fu 0 1 e 0 bo w0 a0 pl best (by omega) (by unfold fu; omega) ⟨rfl, by rw [h1]; exact ⟨rfl, fun z => absurd rfl z⟩⟩
  · rintro rec k y e bm bo w' a pl best hk2 ⟨rfl, hS⟩
    obtain ⟨e', bm', bo', w1, a1, pl1, best1, g1, g2⟩ := mf_step (K := fun e bm bo w a pl best => if bm ≤ 0 then some (0, e, bm, bo, w, a, pl, best) else some (1, e, bm, bo, w, a, pl, best)) (rec := rec) (e := e) (w0 := w') (a0 := a) (pl := pl) ht hs hw hE e0 e3 hP hH hk hload hW (show k + 1 < 343 by omega) hS
    exact Or.inl ⟨_, e', bm', bo', w1, a1, pl1, best1, ⟨rfl, g1⟩, g2⟩
  · rintro rec y e bm bo w' a pl best ⟨rfl, hS⟩
    unfold B_X9_finds_1
    rw [if_pos (show (343 : Int32) ≤ nI (342 + 1) by decide)]
    refine ⟨e, bm, bo, w', a, pl, best, ?_, hS⟩
    show (if bm ≤ 0 then some ((0 : Int32), e, bm, bo, w', a, pl, best) else some (1, e, bm, bo, w', a, pl, best)) = _
    rw [hS.1]
    rcases bst_is (P := P) (H := H) (x := x) (W := W) (ch := ch) (m := rMin t w (tideS t kh - load)) (e := rEat t w (tideS t kh - load)) 343 with h | ⟨q, h1, h2, h3⟩
    · rw [if_pos h, show (342 + 1 : Nat) = 343 from rfl, h, if_pos (by decide)]
    · rw [show (342 + 1 : Nat) = 343 from rfl, h3]
      have h4 := h2.2.2
      show (if nI (rMin t w (tideS t kh - load) q) ≤ 0 then _ else _) = some (if rMin t w (tideS t kh - load) q = 0 then _ else _, _)
      rw [if_neg h4.1, if_neg (nI_nle (by omega) (by omega))]
