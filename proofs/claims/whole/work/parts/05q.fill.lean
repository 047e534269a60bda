/-! PURE SIDE: loops that fill an array; tired, rested -/
def fA (off N : Nat) (val : Nat → Int32 → Int32) (w : Nat → Int32) : Nat → Int32 := fun j => if off ≤ j ∧ j < off + N then val (j - off) (w j) else w j
theorem fillL {B : Type} {F : (Int32 → (Nat → Int32) → Option B) → Int32 → (Nat → Int32) → Option B} {K : (Nat → Int32) → Option B} (off N : Nat) (val : Nat → Int32 → Int32) (hN : N < 900)
    (hs : ∀ (rec : Int32 → (Nat → Int32) → Option B) (k : Nat) (w : Nat → Int32), k < N → F rec (nI k) w = rec (nI (k + 1)) (upd w (off + k) (val k (w (off + k)))))
    (he : ∀ (rec : Int32 → (Nat → Int32) → Option B) (w : Nat → Int32), F rec (nI N) w = K w) (w : Nat → Int32) : lq2 F fu 0 w = K (fA off N val w) := by
  refine lq2_inv (fun k i v => i = nI k ∧ v = fA off k val w) (fun o => o = K (fA off N val w)) N ?_ ?_ fu 0 0 w (by omega) (by unfold fu; omega) ⟨rfl, ?_⟩
  · rintro rec k i v hk ⟨rfl, rfl⟩
    refine Or.inl ⟨nI (k+1), fA off (k+1) val w, ⟨rfl, rfl⟩, ?_⟩
    rw [hs rec k _ hk]
    congr 1
    funext j
    rw [upd_at]
    unfold fA
    by_cases e : j = off + k
    · subst e
      rw [if_pos rfl, if_neg (by omega), if_pos (by omega), show off + k - off = k by omega]
    · rw [if_neg e]
      by_cases e2 : off ≤ j ∧ j < off + k
      · rw [if_pos e2, if_pos (by omega)]
      · rw [if_neg e2, if_neg (by omega)]
  · rintro rec i v ⟨rfl, rfl⟩; exact he rec _
  · funext j; unfold fA; rw [if_neg (by omega)]
theorem fA_in {off N : Nat} {val : Nat → Int32 → Int32} {w : Nat → Int32} {j : Nat} (h : off ≤ j ∧ j < off + N) : fA off N val w j = val (j - off) (w j) := if_pos h
theorem fA_out {off N : Nat} {val : Nat → Int32 → Int32} {w : Nat → Int32} {j : Nat} (h : ¬ (off ≤ j ∧ j < off + N)) : fA off N val w j = w j := if_neg h
theorem fA_0 {N : Nat} {val : Nat → Int32 → Int32} {w : Nat → Int32} {j : Nat} (h : j < N) : fA 0 N val w j = val j (w j) := fA_in ⟨Nat.zero_le _, by omega⟩
theorem fA_0n {N : Nat} {val : Nat → Int32 → Int32} {w : Nat → Int32} {j : Nat} (h : N ≤ j) : fA 0 N val w j = w j := fA_out (by omega)
theorem upd_self (f : Nat → Int32) (k : Nat) : upd f k (f k) = f := by
  funext j
  rw [upd_at]
  by_cases c : j = k
  · rw [if_pos c, c]
  · rw [if_neg c]
theorem e_fromNow (s w : Nat → Int32) : f_X9_fromNow s w = some (fA 0 6 (fun k _ => s k) w) := by
  unfold f_X9_fromNow
  rw [jn1_d]
  refine (fillL (K := fun w => some w) 0 6 (fun k _ => s k) (by omega) (fun rec k w hk => ?_) (fun rec w => ?_) w)
  · have h6 : ¬ (6 : Int32) ≤ nI k := nI_ge (b := 6) hk (by decide)
    have hc : (nI k).toNatClampNeg = k := nI_clamp (by omega)
    have h0 : ¬ nI k < 0 := nI_pos (by omega)
    simp only [h6, hc, h0, if_false, false_or, show ¬ 13 ≤ k by omega, show ¬ 6 ≤ k by omega, nI_1, Nat.zero_add]
  · rfl
theorem e_strong (s w : Nat → Int32) : f_X9_strong w s = some (fA 0 6 (fun k _ => s k) w) := by
  unfold f_X9_strong
  rw [jn1_d]
  refine (fillL (K := fun w => some w) 0 6 (fun k _ => s k) (by omega) (fun rec k w hk => ?_) (fun rec w => ?_) w)
  · have h6 : ¬ (6 : Int32) ≤ nI k := nI_ge (b := 6) hk (by decide)
    have hc : (nI k).toNatClampNeg = k := nI_clamp (by omega)
    have h0 : ¬ nI k < 0 := nI_pos (by omega)
    simp only [h6, hc, h0, if_false, false_or, show ¬ 6 ≤ k by omega, nI_1, Nat.zero_add]
  · rfl
theorem e_becomesSo (s w : Nat → Int32) : f_X9_becomesSo s w = some (fA 0 6 (fun k _ => w k) s) := by
  unfold f_X9_becomesSo
  rw [jn1_d]
  refine (fillL (K := fun w => some w) 0 6 (fun k _ => w k) (by omega) (fun rec k w hk => ?_) (fun rec w => ?_) s)
  · have h6 : ¬ (6 : Int32) ≤ nI k := nI_ge (b := 6) hk (by decide)
    have hc : (nI k).toNatClampNeg = k := nI_clamp (by omega)
    have h0 : ¬ nI k < 0 := nI_pos (by omega)
    simp only [h6, hc, h0, if_false, false_or, show ¬ 13 ≤ k by omega, show ¬ 6 ≤ k by omega, nI_1, Nat.zero_add]
  · rfl
theorem e_asNow (s w a : Nat → Int32) : f_X9_asNow s w a = some (fA 0 6 (fun k _ => s k) w, fA 0 3 (fun k _ => s (6 + k)) a) := by
  unfold f_X9_asNow
  rw [jn1_d]
  refine (fillL (K := fun w => some (w, fA 0 3 (fun k _ => s (6 + k)) a)) 0 6 (fun k _ => s k) (by omega) (fun rec k w hk => ?_) (fun rec w => ?_) w)
  · have h6 : ¬ (6 : Int32) ≤ nI k := nI_ge (b := 6) hk (by decide)
    have hc : (nI k).toNatClampNeg = k := nI_clamp (by omega)
    have h0 : ¬ nI k < 0 := nI_pos (by omega)
    simp only [h6, hc, h0, if_false, false_or, show ¬ 13 ≤ k by omega, show ¬ 6 ≤ k by omega, nI_1, Nat.zero_add]
  · rw [if_pos (by decide)]
    dsimp only
    rw [jn1_d]
    refine (fillL (K := fun v => some (w, v)) 0 3 (fun k _ => s (6 + k)) (by omega) (fun rec k w hk => ?_) (fun rec w => ?_) a)
    · have h6 : ¬ (3 : Int32) ≤ nI k := nI_ge (b := 3) hk (by decide)
      have hc : (nI k).toNatClampNeg = k := nI_clamp (by omega)
      have e6 : (6 : Int32) + nI k = nI (6 + k) := nI_add 6 k
      have hc6 : (nI (6 + k)).toNatClampNeg = 6 + k := nI_clamp (by omega)
      have h0 : ¬ nI k < 0 := nI_pos (by omega)
      have h06 : ¬ nI (6 + k) < 0 := nI_pos (by omega)
      simp only [h6, e6, hc6, h06, hc, h0, if_false, false_or, show ¬ 13 ≤ 6 + k by omega, show ¬ 3 ≤ k by omega, nI_1, Nat.zero_add]
    · rfl
/-- the strengths and what an hour gives back -/
def TS (t : Nat → Int32) : Prop := ∀ h : Nat, h < (t 3).toNatClampNeg → (1 ≤ (t (8 + 4 * h + 1)).toInt ∧ (t (8 + 4 * h + 1)).toInt ≤ 200) ∧ (0 ≤ (t (8 + 4 * h + 2)).toInt ∧ (t (8 + 4 * h + 2)).toInt ≤ 60)
def SB (strength back t : Nat → Int32) : Prop := ∀ h : Nat, h < (t 3).toNatClampNeg → t (8 + 4 * h + 1) = strength h ∧ t (8 + 4 * h + 2) = back h
/-- strengths in their bounds -/
def WB (t w : Nat → Int32) : Prop := ∀ h : Nat, h < (t 3).toNatClampNeg → 0 ≤ (w h).toInt ∧ (w h).toInt ≤ (t (8 + 4 * h + 1)).toInt
def WEQ (t u w : Nat → Int32) : Prop := ∀ h : Nat, h < (t 3).toNatClampNeg → u h = w h
theorem WB_ok {t w a : Nat → Int32} (hs : TS t) (hw : WB t w) (ha : CREW t a) : WOK w a := by
  intro p hp hn
  rcases ha p hp with e | ⟨h, h2, hh, e⟩
  · exact absurd e hn
  · unfold ix
    rw [e, nI_clamp (by omega)]
    have := hw h h2
    have := hs h h2
    omega
/-- one that stands is tired by the minutes, another has an hour of rest -/
abbrev stn (a : Nat → Int32) (h : Nat) : Prop := a 0 = nI h ∨ a 1 = nI h ∨ a 2 = nI h
def mnI (x y : Int) : Int := if x ≤ y then x else y
def rstS (t w : Nat → Int32) (n : Nat) (h : Nat) : Int32 := jI (mnI ((w h).toInt + (n : Int) * (t (8 + 4 * h + 2)).toInt) (t (8 + 4 * h + 1)).toInt)
def tirS (t a w : Nat → Int32) (m h : Nat) : Int32 := if stn a h then jI (wI (w h).toInt m) else rstS t w 1 h
theorem rstS_b {t w : Nat → Int32} {n h : Nat} (hs : TS t) (hw : WB t w) (hn : n ≤ 100) (hh : h < (t 3).toNatClampNeg) : 0 ≤ mnI ((w h).toInt + (n : Int) * (t (8 + 4 * h + 2)).toInt) (t (8 + 4 * h + 1)).toInt ∧ mnI ((w h).toInt + (n : Int) * (t (8 + 4 * h + 2)).toInt) (t (8 + 4 * h + 1)).toInt ≤ (t (8 + 4 * h + 1)).toInt ∧ 0 ≤ (n : Int) * (t (8 + 4 * h + 2)).toInt ∧ (n : Int) * (t (8 + 4 * h + 2)).toInt ≤ 6000 := by
  have h1 := hs h hh
  have h2 := hw h hh
  have h3 : 0 ≤ (n : Int) * (t (8 + 4 * h + 2)).toInt := Int.mul_nonneg (by omega) h1.2.1
  have h4 : (n : Int) * (t (8 + 4 * h + 2)).toInt ≤ 100 * 60 := Int.mul_le_mul (by omega) h1.2.2 h1.2.1 (by omega)
  unfold mnI
  by_cases c : (w h).toInt + (n : Int) * (t (8 + 4 * h + 2)).toInt ≤ (t (8 + 4 * h + 1)).toInt
  · rw [if_pos c]; omega
  · rw [if_neg c]; omega
theorem rst_WB {t w v : Nat → Int32} {n : Nat} (hs : TS t) (hw : WB t w) (hn : n ≤ 100) (hv : ∀ h, h < (t 3).toNatClampNeg → v h = rstS t w n h) : WB t v := by
  intro h hh
  have hb := rstS_b hs hw hn hh
  have h1 := hs h hh
  rw [hv h hh]
  unfold rstS
  rw [jI_toInt (by omega) (by omega)]
  omega
theorem tir_WB {t a w v : Nat → Int32} {m : Nat} (hs : TS t) (hw : WB t w) (hv : ∀ h, h < (t 3).toNatClampNeg → v h = tirS t a w m h) : WB t v := by
  intro h hh
  rw [hv h hh]
  unfold tirS
  have h1 := hs h hh
  have h2 := hw h hh
  by_cases c : stn a h
  · rw [if_pos c]
    have hb := wI_b (e := (w h).toInt) (m := m) (by omega)
    rw [jI_toInt (by omega) (by omega)]
    unfold wI at hb ⊢
    by_cases c2 : (w h).toInt ≤ m
    · rw [if_pos c2]; omega
    · rw [if_neg c2]; omega
  · rw [if_neg c]
    exact rst_WB hs hw (n := 1) (by omega) (v := rstS t w 1) (fun _ _ => rfl) h hh
