/-! PURE SIDE: rests; what does not look at more than the crew's strengths; the class's tide -/
theorem e_rests {t w a : Nat → Int32} {n : Nat} {x2 : Int32} (ht : TW t) (hs : TS t) (hw : WB t w) (hn : n ≤ 100) :
    ∃ v : Nat → Int32, f_X9_rests (nI n) x2 t w a = some v ∧ ∀ h, h < (t 3).toNatClampNeg → v h = if x2 = 0 ∧ stn a h then w h else rstS t w n h := by
  obtain ⟨H, h6, e3, eH⟩ := hor_n ht
  refine ⟨fA 0 H (fun h x => if x2 = 0 ∧ stn a h then x else (if x + nI n * t (8 + 4 * h + 2) ≤ t (8 + 4 * h + 1) then x + nI n * t (8 + 4 * h + 2) else t (8 + 4 * h + 1))) w, ?_, fun h hh => ?_⟩
  · unfold f_X9_rests
    rw [jn1_d]
    refine (fillL (K := fun w => some w) 0 H _ (by omega) (fun rec k w hk => ?_) (fun rec w => ?_) w)
    · have hH : ¬ t 3 ≤ nI k := by rw [e3]; exact nI_ge hk (by omega)
      have hH2 : ¬ t (Int32.toNatClampNeg 3) ≤ nI k := hH
      have hc : (nI k).toNatClampNeg = k := nI_clamp (by omega)
      have h0 : ¬ nI k < 0 := nI_pos (by omega)
      have e1 : (8 : Int32) + (4 : Int32) * nI k = nI (8 + 4 * k) := by rw [lit_n 8, lit_n 4, pk_mul, nI_add]
      have e2 : nI (8 + 4 * k) + (2 : Int32) = nI (8 + 4 * k + 2) := nI_add _ 2
      have e3' : nI (8 + 4 * k) + (1 : Int32) = nI (8 + 4 * k + 1) := nI_add _ 1
      have hc2 : (nI (8 + 4 * k + 2)).toNatClampNeg = 8 + 4 * k + 2 := nI_clamp (by omega)
      have hc1 : (nI (8 + 4 * k + 1)).toNatClampNeg = 8 + 4 * k + 1 := nI_clamp (by omega)
      have h02 : ¬ nI (8 + 4 * k + 2) < 0 := nI_pos (by omega)
      have h01 : ¬ nI (8 + 4 * k + 1) < 0 := nI_pos (by omega)
      have est : f_X9_isStanding (nI k) a = some (if stn a k then 1 else 0) := by
        unfold f_X9_isStanding
        show (if a 0 = nI k then _ else if a 1 = nI k then _ else if a 2 = nI k then _ else _) = _
        grind
      rw [if_neg hH2]
      simp only [jn1_d, est, bn1_some, e1, e2, e3', hc, hc1, hc2, h0, h01, h02, if_false, false_or, show ¬ 6 ≤ k by omega, show ¬ 84 ≤ 8 + 4 * k + 2 by omega, show ¬ 84 ≤ 8 + 4 * k + 1 by omega, nI_1, Nat.zero_add]
      by_cases c1 : x2 = 0
      · by_cases c2 : stn a k
        · simp only [c1, c2, if_true, and_self, upd_self]
          rfl
        · simp only [c1, c2, if_true, if_false, and_false]
          by_cases c3 : w k + nI n * t (8 + 4 * k + 2) ≤ t (8 + 4 * k + 1)
          · rw [if_pos c3, if_pos c3]
          · rw [if_neg c3, if_neg c3]
      · simp only [c1, if_false, false_and]
        by_cases c3 : w k + nI n * t (8 + 4 * k + 2) ≤ t (8 + 4 * k + 1)
        · rw [if_pos c3, if_pos c3]
        · rw [if_neg c3, if_neg c3]
    · have : t (Int32.toNatClampNeg 3) ≤ nI H := by show t 3 ≤ nI H; rw [e3]; exact Int32.le_refl _
      rw [if_pos this]
  · rw [fA_0 (by omega)]
    by_cases c : x2 = 0 ∧ stn a h
    · rw [if_pos c, if_pos c]
    · rw [if_neg c, if_neg c]
      have h1 := hs h hh
      have h2 := hw h hh
      have hb := rstS_b hs hw hn hh
      unfold rstS mnI
      rw [show w h + nI n * t (8 + 4 * h + 2) = jI ((w h).toInt + (n : Int) * (t (8 + 4 * h + 2)).toInt) from by rw [← jI_add, ← jI_mul, jI_self, jI_self, jI_nat]]
      have e2 : jI ((w h).toInt + (n : Int) * (t (8 + 4 * h + 2)).toInt) ≤ t (8 + 4 * h + 1) ↔ (w h).toInt + (n : Int) * (t (8 + 4 * h + 2)).toInt ≤ (t (8 + 4 * h + 1)).toInt := by
        rw [i_le, jI_toInt (by omega) (by omega)]
      by_cases c2 : (w h).toInt + (n : Int) * (t (8 + 4 * h + 2)).toInt ≤ (t (8 + 4 * h + 1)).toInt
      · rw [if_pos (e2.mpr c2), if_pos c2]
      · rw [if_neg (fun z => c2 (e2.mp z)), if_neg c2, jI_self]
theorem ix_lt {t a : Nat → Int32} (ha : CREW t a) {p : Nat} (hp : p < 3) (h : a p ≠ -1) : ix a p < (t 3).toNatClampNeg ∧ a p = nI (ix a p) ∧ ix a p < 6 := by
  rcases ha p hp with e | ⟨g, h2, hg, e⟩
  · exact absurd e h
  · unfold ix
    rw [e, nI_clamp (by omega)]
    exact ⟨h2, rfl, hg⟩
theorem onB_stn {t a : Nat → Int32} (ha : CREW t a) {h : Nat} (hh : h < 6) : ((a 0 ≠ -1 ∧ ix a 0 = h) ∨ (a 1 ≠ -1 ∧ ix a 1 = h) ∨ (a 2 ≠ -1 ∧ ix a 2 = h)) ↔ stn a h := by
  have key : ∀ p, p < 3 → ((a p ≠ -1 ∧ ix a p = h) ↔ a p = nI h) := fun p hp => by
    constructor
    · rintro ⟨h1, h2⟩
      rw [(ix_lt ha hp h1).2.1, h2]
    · intro e
      refine ⟨by rw [e]; exact nI_ne (by omega), ?_⟩
      unfold ix
      rw [e, nI_clamp (by omega)]
  rw [key 0 (by decide), key 1 (by decide), key 2 (by decide)]
theorem wAft_WB {t w a : Nat → Int32} {m : Nat} (hs : TS t) (hw : WB t w) : WB t (wAft w a m) := by
  intro h hh
  have h1 := hs h hh
  have h2 := hw h hh
  unfold wAft
  by_cases c : (a 0 ≠ -1 ∧ ix a 0 = h) ∨ (a 1 ≠ -1 ∧ ix a 1 = h) ∨ (a 2 ≠ -1 ∧ ix a 2 = h)
  · rw [if_pos c]
    have hb := wI_b (e := (w h).toInt) (m := m) (by omega)
    rw [jI_toInt (by omega) (by omega)]
    unfold wI at hb ⊢
    by_cases c2 : (w h).toInt ≤ m
    · rw [if_pos c2]; omega
    · rw [if_neg c2]; omega
  · rw [if_neg c]; exact h2
/-- behind a crossing: strengths and an hour of rest for those who do not stand -/
theorem aft_tir {t w a v : Nat → Int32} {m : Nat} (ht : TW t) (ha : CREW t a) (hv : ∀ h, h < (t 3).toNatClampNeg → v h = if (0 : Int32) = 0 ∧ stn a h then wAft w a m h else rstS t (wAft w a m) 1 h) : ∀ h, h < (t 3).toNatClampNeg → v h = tirS t a w m h := by
  intro h hh
  obtain ⟨H, h6, e3, eH⟩ := hor_n ht
  have ho := onB_stn ha (h := h) (by omega)
  rw [hv h hh]
  unfold tirS
  by_cases c : stn a h
  · rw [if_pos ⟨rfl, c⟩, if_pos c]
    unfold wAft
    rw [if_pos (ho.mpr c)]
  · rw [if_neg (fun z => c z.2), if_neg c]
    unfold rstS wAft
    rw [if_neg (fun z => c (ho.mp z))]
theorem cx_ext {t a u w : Nat → Int32} {q : Nat → Int} {m p : Nat} (ha : CREW t a) (h : WEQ t u w) (hp : p < 3) : cx a q u m p = cx a q w m p := by
  unfold cx
  by_cases c : a p ≠ -1
  · rw [show u (a p).toNatClampNeg = w (a p).toNatClampNeg from h _ (ix_lt ha hp c).1]
  · rw [if_neg (fun z => c z.1), if_neg (fun z => c z.1)]
theorem cCome_ext {t a u w : Nat → Int32} {q : Nat → Int} {law : Int32} {push : Int} (ha : CREW t a) (h : WEQ t u w) : ∀ m : Nat, cCome law a q u push m = cCome law a q w push m
  | 0 => rfl
  | m + 1 => by
    rw [cCome_s, cCome_s, cCome_ext ha h m, cPace_ext (fun p hp => cx_ext ha h hp)]
theorem cMin_ext {t a u w : Nat → Int32} {q : Nat → Int} {law : Int32} {push br : Int} (ha : CREW t a) (h : WEQ t u w) : cMin law br a q u push = cMin law br a q w push := by
  unfold cMin
  rw [show cCome law a q u push = cCome law a q w push from funext (cCome_ext ha h)]
theorem cEat_ext {t a u w : Nat → Int32} {q : Nat → Int} {m : Nat} (ha : CREW t a) (h : WEQ t u w) : cEat a q u m = cEat a q w m := by
  have key : ∀ p, p < 3 → cE1 a q u m p = cE1 a q w m p := fun p hp => by
    unfold cE1
    by_cases c : a p ≠ -1
    · rw [show u (a p).toNatClampNeg = w (a p).toNatClampNeg from h _ (ix_lt ha hp c).1]
    · rw [if_neg c, if_neg c]
  unfold cEat
  rw [key 0 (by decide), key 1 (by decide), key 2 (by decide)]
theorem tirS_ext {t a u w : Nat → Int32} {m h : Nat} (h1 : WEQ t u w) (hh : h < (t 3).toNatClampNeg) : tirS t a u m h = tirS t a w m h := by
  unfold tirS rstS
  rw [h1 h hh]
theorem rstS_ext {t u w : Nat → Int32} {m h : Nat} (h1 : WEQ t u w) (hh : h < (t 3).toNatClampNeg) : rstS t u m h = rstS t w m h := by
  unfold rstS
  rw [h1 h hh]
theorem cMin_b {law : Int32} {br : Int} {a w : Nat → Int32} {q : Nat → Int} {push : Int} : cMin law br a q w push ≤ 120 := by
  unfold cMin
  rcases cFind_spec br (cCome law a q w push) 120 0 with ⟨j, h1, h2, h3, h4, h5⟩ | ⟨h1, h2⟩
  · rw [h5]; omega
  · rw [h2]; omega
theorem cE1_b {a w : Nat → Int32} {q : Nat → Int} {m p : Nat} (hq : 0 ≤ q p ∧ q p ≤ 40) (hw : WOK w a) (hp : p < 3) (hm : m ≤ 120) : 0 ≤ cE1 a q w m p ∧ cE1 a q w m p ≤ 4800 := by
  unfold cE1
  by_cases c : a p ≠ -1
  · rw [if_pos c]
    have hb : 0 ≤ (w (a p).toNatClampNeg).toInt ∧ (w (a p).toNatClampNeg).toInt ≤ 200 := hw p hp c
    have h1 : 0 ≤ min (w (a p).toNatClampNeg).toInt (m : Int) := by omega
    have h2 : min (w (a p).toNatClampNeg).toInt (m : Int) ≤ 120 := by omega
    exact ⟨Int.mul_nonneg hq.1 h1, Int.le_trans (Int.mul_le_mul hq.2 h2 h1 (by omega)) (by omega)⟩
  · rw [if_neg c]; omega
theorem cEat_b {a w : Nat → Int32} {q : Nat → Int} {m : Nat} (hq : ∀ p, p < 3 → 0 ≤ q p ∧ q p ≤ 40) (hw : WOK w a) (hm : m ≤ 120) : 0 ≤ cEat a q w m ∧ cEat a q w m ≤ 14400 := by
  have h0 := cE1_b (hq 0 (by decide)) hw (by decide) hm
  have h1 := cE1_b (hq 1 (by decide)) hw (by decide) hm
  have h2 := cE1_b (hq 2 (by decide)) hw (by decide) hm
  unfold cEat
  omega
theorem wlk_b {m : Nat} (h : m ≤ 120) : wlk m ≤ 120 := by
  unfold wlk
  by_cases c : m = 0
  · rw [if_pos c]; omega
  · rw [if_neg c]; exact h
/-- the class's tide -/
def CT (tideN : Int32) (tides t : Nat → Int32) : Prop := t 7 = tideN ∧ ∀ i : Nat, i < tideN.toNatClampNeg → t (68 + i) = tides i
theorem e_ctide {tideN : Int32} {tides t : Nat → Int32} (ht : TW t) (hC : CT tideN tides t) {k : Nat} (hk : k < 2147483648) : f_X0_tideOf (nI k) tideN tides = some (jI (tideS t k)) := by
  obtain ⟨h7, hC⟩ := hC
  have hb := ht.2.2.1
  rw [h7] at hb
  rw [i_le, i_le] at hb
  have h0 : ((0 : Int32)).toInt = 0 := rfl
  have h12 : ((12 : Int32)).toInt = 12 := rfl
  unfold f_X0_tideOf tideS
  rw [h7]
  by_cases c : tideN = 0
  · rw [if_pos (show tideN ≤ 0 by rw [c]; decide), if_pos c]; rfl
  · have hn : ¬ tideN.toInt = 0 := fun e => c ((i_eq _ _).mpr e)
    obtain ⟨d, hd, e7⟩ : ∃ d : Nat, (0 < d ∧ d ≤ 12) ∧ tideN = nI d := ⟨tideN.toNatClampNeg, by rw [i_cl]; omega, by
      rw [i_eq, nI_toInt (by rw [i_cl]; omega), i_cl]; omega⟩
    have hm : k % d < d := Nat.mod_lt _ hd.1
    rw [if_neg (show ¬ tideN ≤ 0 by rw [i_le]; omega), if_neg (show ¬ (12 : Int32) < tideN by rw [i_lt]; omega), if_pos (nI_pos' hk), if_neg c, if_neg c, e7, pk_rem hk hd.1 (by omega), if_neg (idx_ok rfl (by omega) (by decide)), nI_clamp (by omega), nI_clamp (by omega), hC _ (by rw [e7, nI_clamp (by omega)]; exact hm)]
    congr 1
    rw [← jI_self (tides (k % d)), show (20 : Int32) = jI 20 from rfl, jI_sub, jI_self]
