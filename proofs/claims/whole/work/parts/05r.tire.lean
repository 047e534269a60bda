/-! PURE SIDE: tire, refresh; rests -/
theorem e_horseAt {who pull a : Nat → Int32} {q : Nat → Int} {c p : Nat} (hr : ROW who pull c a q) (hp : p < 3) : f_X2_horseAt (nI c) (nI p) who = some (a p) := by
  have hc := hr.1
  have e3c : nI c * (3 : Int32) = nI (3 * c) := by rw [show (3 : Int32) = nI 3 from rfl, pk_mul, Nat.mul_comm]
  unfold f_X2_horseAt
  rw [e_isCrew hc, bn1_some, if_neg (by decide), if_neg (nI_pos (by omega)), if_neg (show ¬ (3 : Int32) ≤ nI p from nI_ge (b := 3) hp (by decide)), e3c, nI_add, if_neg (idx_ok rfl (by omega) (by decide)), nI_clamp (by omega), (hr.2 p hp).1]
theorem e_takes {who pull a : Nat → Int32} {q : Nat → Int} {c : Nat} (hr : ROW who pull c a q) (x : Int32) : f_X2_takes (nI c) x who = some (if x ≠ -1 ∧ (a 0 = x ∨ a 1 = x ∨ a 2 = x) then 1 else 0) := by
  unfold f_X2_takes
  rw [show f_X2_horseAt (nI c) (0 : Int32) who = some (a 0) from e_horseAt hr (p := 0) (by decide), show f_X2_horseAt (nI c) (1 : Int32) who = some (a 1) from e_horseAt hr (p := 1) (by decide), show f_X2_horseAt (nI c) (2 : Int32) who = some (a 2) from e_horseAt hr (p := 2) (by decide)]
  simp only [bn1_some]
  grind
theorem tir_j {t a w S Bk : Nat → Int32} {m h : Nat} (hs : TS t) (hw : WB t w) (hB : SB S Bk t) (hh : h < (t 3).toNatClampNeg) (hm : m ≤ 120) {x : Int32} (hx : x = w h) :
    (if stn a h then (if (0 : Int32) < x - nI m then x - nI m else 0) else (if x + Bk h < S h then x + Bk h else S h)) = tirS t a w m h := by
  subst hx
  obtain ⟨b1, b2⟩ := hB h hh
  have h1 := hs h hh
  have h2 := hw h hh
  unfold tirS
  by_cases c : stn a h
  · rw [if_pos c, if_pos c, jI_nat, show w h - jI (m : Int) = jI ((w h).toInt - m) from by rw [← jI_sub, jI_self], show (0 : Int32) = jI 0 from rfl]
    unfold wI
    by_cases c2 : (w h).toInt ≤ m
    · rw [if_pos c2, if_neg]
      rw [jI_lt (by omega) (by omega) (by omega) (by omega)]; omega
    · rw [if_neg c2, if_pos]
      rw [jI_lt (by omega) (by omega) (by omega) (by omega)]; omega
  · rw [if_neg c, if_neg c, ← b1, ← b2]
    unfold rstS mnI
    rw [show w h + t (8 + 4 * h + 2) = jI ((w h).toInt + (t (8 + 4 * h + 2)).toInt) from by rw [← jI_add, jI_self, jI_self]]
    have e1 : ((1 : Nat) : Int) * (t (8 + 4 * h + 2)).toInt = (t (8 + 4 * h + 2)).toInt := by simp
    rw [e1]
    have e2 : jI ((w h).toInt + (t (8 + 4 * h + 2)).toInt) < t (8 + 4 * h + 1) ↔ (w h).toInt + (t (8 + 4 * h + 2)).toInt < (t (8 + 4 * h + 1)).toInt := by
      rw [i_lt, jI_toInt (by omega) (by omega)]
    by_cases c2 : (w h).toInt + (t (8 + 4 * h + 2)).toInt < (t (8 + 4 * h + 1)).toInt
    · rw [if_pos (e2.mpr c2), if_pos (by omega)]
    · rw [if_neg (fun z => c2 (e2.mp z))]
      by_cases c3 : (w h).toInt + (t (8 + 4 * h + 2)).toInt ≤ (t (8 + 4 * h + 1)).toInt
      · rw [if_pos c3, show (w h).toInt + (t (8 + 4 * h + 2)).toInt = (t (8 + 4 * h + 1)).toInt by omega, jI_self]
      · rw [if_neg c3, jI_self]
/-- the count of horses -/
theorem hor_n {t : Nat → Int32} (ht : TW t) : ∃ H : Nat, H ≤ 6 ∧ t 3 = nI H ∧ (t 3).toNatClampNeg = H := by
  have h := ht.1
  rw [i_le, i_le] at h
  have h6 : ((6 : Int32)).toInt = 6 := rfl
  have h0 : ((0 : Int32)).toInt = 0 := rfl
  refine ⟨(t 3).toNatClampNeg, by rw [i_cl]; omega, ?_, rfl⟩
  rw [i_eq, nI_toInt (by rw [i_cl]; omega), i_cl]; omega
theorem stn_x {a : Nat → Int32} {h : Nat} (hh : h < 6) : (nI h ≠ -1 ∧ (a 0 = nI h ∨ a 1 = nI h ∨ a 2 = nI h)) ↔ stn a h := ⟨fun z => z.2, fun z => ⟨nI_ne (by omega), z⟩⟩
theorem e_tireA {t who pull a u S Bk : Nat → Int32} {q : Nat → Int} {c m : Nat} (ht : TW t) (hs : TS t) (hw : WB t u) (hB : SB S Bk t) (hr : ROW who pull c a q) (hm : m ≤ 120) :
    ∃ v : Nat → Int32, f_X2_tireA (nI c) (nI m) who (t 3) S Bk u = some v ∧ ∀ h, h < (t 3).toNatClampNeg → v h = tirS t a u m h := by
  obtain ⟨H, h6, e3, eH⟩ := hor_n ht
  refine ⟨fA 0 H (fun h x => if stn a h then (if (0 : Int32) < x - nI m then x - nI m else 0) else (if x + Bk h < S h then x + Bk h else S h)) u, ?_, fun h hh => ?_⟩
  · unfold f_X2_tireA
    rw [jn1_d]
    refine (fillL (K := fun w => some w) 0 H _ (by omega) (fun rec k w hk => ?_) (fun rec w => ?_) u)
    · have h6 : ¬ (6 : Int32) ≤ nI k := nI_ge (b := 6) (by omega) (by decide)
      have hH : ¬ t 3 ≤ nI k := by rw [e3]; exact nI_ge hk (by omega)
      have hc : (nI k).toNatClampNeg = k := nI_clamp (by omega)
      have h0 : ¬ nI k < 0 := nI_pos (by omega)
      simp only [h6, hH, hc, h0, if_false, false_or, show ¬ 6 ≤ k by omega, nI_1, Nat.zero_add, e_takes hr, bn1_some, jn1_d, stn_x (a := a) (h := k) (by omega)]
      by_cases c : stn a k
      · rw [if_pos c, if_neg (by decide), if_pos c]
      · rw [if_neg c, if_pos rfl, if_neg c]
    · rw [e3, if_pos (Int32.le_refl _)]
  · rw [fA_0 (by omega), tir_j hs hw hB hh hm rfl]
theorem e_tire {t who pull a u v0 S Bk : Nat → Int32} {q : Nat → Int} {c m : Nat} (ht : TW t) (hs : TS t) (hw : WB t u) (hB : SB S Bk t) (hr : ROW who pull c a q) (hm : m ≤ 120) :
    ∃ v : Nat → Int32, f_X2_tire (nI c) (nI m) who (t 3) S Bk u v0 = some v ∧ ∀ h, h < (t 3).toNatClampNeg → v h = tirS t a u m h := by
  obtain ⟨H, h6, e3, eH⟩ := hor_n ht
  refine ⟨fA 0 H (fun h _ => if stn a h then (if (0 : Int32) < u h - nI m then u h - nI m else 0) else (if u h + Bk h < S h then u h + Bk h else S h)) v0, ?_, fun h hh => ?_⟩
  · unfold f_X2_tire
    rw [jn1_d]
    refine (fillL (K := fun w => some w) 0 H _ (by omega) (fun rec k w hk => ?_) (fun rec w => ?_) v0)
    · have h6 : ¬ (6 : Int32) ≤ nI k := nI_ge (b := 6) (by omega) (by decide)
      have hH : ¬ t 3 ≤ nI k := by rw [e3]; exact nI_ge hk (by omega)
      have hc : (nI k).toNatClampNeg = k := nI_clamp (by omega)
      have h0 : ¬ nI k < 0 := nI_pos (by omega)
      simp only [h6, hH, hc, h0, if_false, false_or, show ¬ 6 ≤ k by omega, nI_1, Nat.zero_add, e_takes hr, bn1_some, jn1_d, stn_x (a := a) (h := k) (by omega)]
      by_cases c : stn a k
      · rw [if_pos c, if_neg (by decide), if_pos c]
      · rw [if_neg c, if_pos rfl, if_neg c]
    · rw [e3, if_pos (Int32.le_refl _)]
  · rw [fA_0 (by omega), tir_j hs hw hB hh hm rfl]
theorem rst_j {t w S Bk : Nat → Int32} {n h : Nat} (hs : TS t) (hw : WB t w) (hB : SB S Bk t) (hh : h < (t 3).toNatClampNeg) (hn : n ≤ 100) {x : Int32} (hx : x = w h) :
    (if x + Bk h * nI n < S h then x + Bk h * nI n else S h) = rstS t w n h := by
  subst hx
  obtain ⟨b1, b2⟩ := hB h hh
  have h1 := hs h hh
  have h2 := hw h hh
  have hb := rstS_b hs hw hn hh
  rw [← b1, ← b2]
  unfold rstS mnI
  rw [show w h + t (8 + 4 * h + 2) * nI n = jI ((w h).toInt + (n : Int) * (t (8 + 4 * h + 2)).toInt) from by rw [← jI_add, ← jI_mul, jI_self, jI_self, jI_nat, Int32.mul_comm]]
  have e2 : jI ((w h).toInt + (n : Int) * (t (8 + 4 * h + 2)).toInt) < t (8 + 4 * h + 1) ↔ (w h).toInt + (n : Int) * (t (8 + 4 * h + 2)).toInt < (t (8 + 4 * h + 1)).toInt := by
    rw [i_lt, jI_toInt (by omega) (by omega)]
  by_cases c2 : (w h).toInt + (n : Int) * (t (8 + 4 * h + 2)).toInt < (t (8 + 4 * h + 1)).toInt
  · rw [if_pos (e2.mpr c2), if_pos (by omega)]
  · rw [if_neg (fun z => c2 (e2.mp z))]
    by_cases c3 : (w h).toInt + (n : Int) * (t (8 + 4 * h + 2)).toInt ≤ (t (8 + 4 * h + 1)).toInt
    · rw [if_pos c3, show (w h).toInt + (n : Int) * (t (8 + 4 * h + 2)).toInt = (t (8 + 4 * h + 1)).toInt by omega, jI_self]
    · rw [if_neg c3, jI_self]
theorem e_refreshA {t u S Bk : Nat → Int32} {n : Nat} (ht : TW t) (hs : TS t) (hw : WB t u) (hB : SB S Bk t) (hn : n ≤ 100) :
    ∃ v : Nat → Int32, f_X0_refreshA (nI n) (t 3) S Bk u = some v ∧ ∀ h, h < (t 3).toNatClampNeg → v h = rstS t u n h := by
  obtain ⟨H, h6, e3, eH⟩ := hor_n ht
  refine ⟨fA 0 H (fun h x => if x + Bk h * nI n < S h then x + Bk h * nI n else S h) u, ?_, fun h hh => ?_⟩
  · unfold f_X0_refreshA
    rw [jn1_d]
    refine (fillL (K := fun w => some w) 0 H _ (by omega) (fun rec k w hk => ?_) (fun rec w => ?_) u)
    · have h6 : ¬ (6 : Int32) ≤ nI k := nI_ge (b := 6) (by omega) (by decide)
      have hH : ¬ t 3 ≤ nI k := by rw [e3]; exact nI_ge hk (by omega)
      have hc : (nI k).toNatClampNeg = k := nI_clamp (by omega)
      have h0 : ¬ nI k < 0 := nI_pos (by omega)
      simp only [h6, hH, hc, h0, if_false, false_or, show ¬ 6 ≤ k by omega, nI_1, Nat.zero_add]
    · rw [e3, if_pos (Int32.le_refl _)]
  · rw [fA_0 (by omega), rst_j hs hw hB hh hn rfl]
theorem e_refresh {t u v0 S Bk : Nat → Int32} {n : Nat} (ht : TW t) (hs : TS t) (hw : WB t u) (hB : SB S Bk t) (hn : n ≤ 100) :
    ∃ v : Nat → Int32, f_X0_refresh (nI n) (t 3) S Bk u v0 = some v ∧ ∀ h, h < (t 3).toNatClampNeg → v h = rstS t u n h := by
  obtain ⟨H, h6, e3, eH⟩ := hor_n ht
  refine ⟨fA 0 H (fun h _ => if u h + Bk h * nI n < S h then u h + Bk h * nI n else S h) v0, ?_, fun h hh => ?_⟩
  · unfold f_X0_refresh
    rw [jn1_d]
    refine (fillL (K := fun w => some w) 0 H _ (by omega) (fun rec k w hk => ?_) (fun rec w => ?_) v0)
    · have h6 : ¬ (6 : Int32) ≤ nI k := nI_ge (b := 6) (by omega) (by decide)
      have hH : ¬ t 3 ≤ nI k := by rw [e3]; exact nI_ge hk (by omega)
      have hc : (nI k).toNatClampNeg = k := nI_clamp (by omega)
      have h0 : ¬ nI k < 0 := nI_pos (by omega)
      simp only [h6, hH, hc, h0, if_false, false_or, show ¬ 6 ≤ k by omega, nI_1, Nat.zero_add]
    · rw [e3, if_pos (Int32.le_refl _)]
  · rw [fA_0 (by omega), rst_j hs hw hB hh hn rfl]
