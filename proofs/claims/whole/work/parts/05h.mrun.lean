/-! PURE SIDE: the reference's crossing, minute by minute -/
def ix (a : Nat → Int32) (p : Nat) : Nat := (a p).toNatClampNeg
/-- who stands: no horse at two places -/
def DIST (a : Nat → Int32) : Prop := (a 0 = -1 ∨ a 0 ≠ a 1) ∧ (a 1 = -1 ∨ a 1 ≠ a 2) ∧ (a 2 = -1 ∨ a 2 ≠ a 0)
def onB (a : Nat → Int32) (h : Nat) : Prop := (a 0 ≠ -1 ∧ ix a 0 = h) ∨ (a 1 ≠ -1 ∧ ix a 1 = h) ∨ (a 2 ≠ -1 ∧ ix a 2 = h)
/-- strengths behind m minutes -/
def wI (e : Int) (m : Nat) : Int := if e ≤ m then 0 else e - m
def wAft (w a : Nat → Int32) (m : Nat) : Nat → Int32 := fun h => if (a 0 ≠ -1 ∧ ix a 0 = h) ∨ (a 1 ≠ -1 ∧ ix a 1 = h) ∨ (a 2 ≠ -1 ∧ ix a 2 = h) then jI (wI (w h).toInt m) else w h
/-- strengths of those who stand are in bounds -/
def WOK (w a : Nat → Int32) : Prop := ∀ p : Nat, p < 3 → a p ≠ -1 → 0 ≤ (w (ix a p)).toInt ∧ (w (ix a p)).toInt ≤ 200
theorem onB_p {a : Nat → Int32} {p : Nat} (hp : p < 3) (h : a p ≠ -1) : (a 0 ≠ -1 ∧ ix a 0 = ix a p) ∨ (a 1 ≠ -1 ∧ ix a 1 = ix a p) ∨ (a 2 ≠ -1 ∧ ix a 2 = ix a p) := by
  match p, hp with
  | 0, _ => exact Or.inl ⟨h, rfl⟩
  | 1, _ => exact Or.inr (Or.inl ⟨h, rfl⟩)
  | 2, _ => exact Or.inr (Or.inr ⟨h, rfl⟩)
theorem wAft_p {w a : Nat → Int32} {m p : Nat} (hp : p < 3) (h : a p ≠ -1) : wAft w a m (ix a p) = jI (wI (w (ix a p)).toInt m) := if_pos (onB_p hp h)
theorem ix_ne {t a : Nat → Int32} (ha : CREW t a) {p q : Nat} (hp : p < 3) (hq : q < 3) (h : a p ≠ -1) (h2 : a q ≠ -1) (hn : a p ≠ a q) : ix a p ≠ ix a q := by
  rcases ha p hp with e | ⟨g, -, hg, e⟩
  · exact absurd e h
  · rcases ha q hq with e2 | ⟨g2, -, hg2, e2⟩
    · exact absurd e2 h2
    · intro e3
      unfold ix at e3
      rw [e, e2, nI_clamp (by omega), nI_clamp (by omega)] at e3
      exact hn (by rw [e, e2, e3])
theorem cr2_step {t a pl W : Nat → Int32} {K : Int32 → (Nat → Int32) → Option (Int32 × Int32 × (Nat → Int32) × (Nat → Int32))} {rec7 : Int32 → Int32 → (Nat → Int32) → Option (Int32 × Int32 × (Nat → Int32) × (Nat → Int32))} {p : Nat} (hp : p < 3) (ha : CREW t a) (E : Int32) :
    B_X9_crosses_2 K a pl rec7 (nI p) E W = rec7 (nI (p + 1)) (if a p ≠ -1 ∧ 0 < W (ix a p) then E + pl p else E) (if a p ≠ -1 ∧ 0 < W (ix a p) then upd W (ix a p) (W (ix a p) - 1) else W) := by
  unfold B_X9_crosses_2
  rw [if_neg (show ¬ (3 : Int32) ≤ nI p from nI_ge hp (by decide)), if_neg (idx_ok rfl hp (by decide)), nI_clamp (by omega), nI_1]
  rw [show ∀ (J : Int32 → (Nat → Int32) → Option (Int32 × Int32 × (Nat → Int32) × (Nat → Int32))) (k : (Int32 → (Nat → Int32) → Option (Int32 × Int32 × (Nat → Int32) × (Nat → Int32))) → Option (Int32 × Int32 × (Nat → Int32) × (Nat → Int32))), jn2 J k = k J from fun _ _ => rfl]
  rcases ha p hp with e | ⟨h, -, hh, e⟩
  · rw [if_pos e, if_neg (fun q => q.1 e), if_neg (fun q => q.1 e)]
  · have hne : ¬ a p = -1 := by rw [e]; exact nI_ne (by omega)
    rw [if_neg hne, if_neg (idx_ok e hh (by decide))]
    by_cases c : W (a p).toNatClampNeg ≤ 0
    · have c2 : ¬ (a p ≠ -1 ∧ 0 < W (ix a p)) := fun q => by
        have h1 := (i_lt _ _).mp q.2
        have h2 := (i_le _ _).mp c
        exact absurd h1 (Int.not_lt.mpr h2)
      rw [if_pos c, if_neg c2, if_neg c2]
    · have c2 : a p ≠ -1 ∧ 0 < W (ix a p) := ⟨hne, by
        rw [i_lt]; rw [i_le] at c; exact Int.not_le.mp c⟩
      rw [if_neg c, if_pos c2, if_pos c2]
      rfl
/-- one minute's tiring, place by place -/
def dW (a : Nat → Int32) (p : Nat) (W : Nat → Int32) : Nat → Int32 := if a p ≠ -1 ∧ 0 < W (ix a p) then upd W (ix a p) (W (ix a p) - 1) else W
def dE (a pl : Nat → Int32) (p : Nat) (W : Nat → Int32) (E : Int32) : Int32 := if a p ≠ -1 ∧ 0 < W (ix a p) then E + pl p else E
theorem cr2_all {t a pl W : Nat → Int32} {K : Int32 → (Nat → Int32) → Option (Int32 × Int32 × (Nat → Int32) × (Nat → Int32))} (ha : CREW t a) (E : Int32) :
    lq3 (B_X9_crosses_2 K a pl) fu 0 E W = K (dE a pl 2 (dW a 1 (dW a 0 W)) (dE a pl 1 (dW a 0 W) (dE a pl 0 W E))) (dW a 2 (dW a 1 (dW a 0 W))) := by
  obtain ⟨n9, e⟩ := fu_4
  rw [e, show (0 : Int32) = nI 0 from rfl, lq3_1, cr2_step (p := 0) (by decide) ha, lq3_1, cr2_step (p := 1) (by decide) ha, lq3_1, cr2_step (p := 2) (by decide) ha, lq3_1]
  unfold B_X9_crosses_2
  rw [if_pos (by decide)]
  rfl
theorem wI_b {e : Int} {m : Nat} (h : 0 ≤ e ∧ e ≤ 200) : 0 ≤ wI e m ∧ wI e m ≤ 200 := by
  unfold wI
  by_cases c : e ≤ m
  · rw [if_pos c]; omega
  · rw [if_neg c]; omega
theorem wI_pos {e : Int} {m : Nat} (h : 0 ≤ e ∧ e ≤ 200) : (0 : Int32) < jI (wI e m) ↔ (m : Int) < e := by
  have hb := wI_b (m := m) h
  rw [show (0 : Int32) = jI 0 from rfl, jI_lt (by omega) (by omega) (by omega) (by omega)]
  unfold wI
  by_cases c : e ≤ m
  · rw [if_pos c]; omega
  · rw [if_neg c]; omega
theorem wI_ne {e : Int} {m : Nat} (h : 0 ≤ e ∧ e ≤ 200) : jI (wI e m) ≠ 0 ↔ (m : Int) < e := by
  have hb := wI_b (m := m) h
  rw [show (0 : Int32) = jI 0 from rfl, Ne, jI_eq (by omega) (by omega) (by omega) (by omega)]
  unfold wI
  by_cases c : e ≤ m
  · rw [if_pos c]; omega
  · rw [if_neg c]; omega
theorem wI_dec {e : Int} {m : Nat} (h : 0 ≤ e ∧ e ≤ 200) (h2 : (m : Int) < e) : jI (wI e m) - 1 = jI (wI e (m + 1)) := by
  rw [show (1 : Int32) = jI 1 from rfl, jI_sub]
  congr 1
  unfold wI
  rw [if_neg (by omega)]
  by_cases c : e ≤ ((m + 1 : Nat) : Int)
  · rw [if_pos c]; omega
  · rw [if_neg c]; omega
theorem wI_stay {e : Int} {m : Nat} (h2 : ¬ (m : Int) < e) : wI e (m + 1) = wI e m := by
  unfold wI
  rw [if_pos (by omega), if_pos (by omega)]
