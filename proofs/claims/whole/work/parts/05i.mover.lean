/-! PURE SIDE: the reference's crossing, all of it -/
def decI (x : Int32) : Int32 := if 0 < x then x - 1 else x
theorem dW_at (a : Nat → Int32) (p : Nat) (W : Nat → Int32) (h : Nat) : dW a p W h = if a p ≠ -1 ∧ ix a p = h then decI (W h) else W h := by
  unfold dW decI
  by_cases c : a p ≠ -1 ∧ 0 < W (ix a p)
  · rw [if_pos c, upd_at]
    by_cases e : h = ix a p
    · subst e; rw [if_pos rfl, if_pos ⟨c.1, rfl⟩, if_pos c.2]
    · rw [if_neg e, if_neg (fun q => e q.2.symm)]
  · rw [if_neg c]
    by_cases e : a p ≠ -1 ∧ ix a p = h
    · rw [if_pos e, if_neg (fun q => c ⟨e.1, by rw [e.2]; exact q⟩)]
    · rw [if_neg e]
theorem dec_w {e : Int} {m : Nat} (h : 0 ≤ e ∧ e ≤ 200) : decI (jI (wI e m)) = jI (wI e (m + 1)) := by
  unfold decI
  by_cases c : (m : Int) < e
  · rw [if_pos ((wI_pos h).mpr c), wI_dec h c]
  · rw [if_neg (fun q => c ((wI_pos h).mp q)), wI_stay c]
theorem dW3 {t w a : Nat → Int32} {m : Nat} (ha : CREW t a) (hd : DIST a) (hw : WOK w a) : dW a 2 (dW a 1 (dW a 0 (wAft w a m))) = wAft w a (m + 1) := by
  funext h
  have n01 : ¬ ((a 0 ≠ -1 ∧ ix a 0 = h) ∧ (a 1 ≠ -1 ∧ ix a 1 = h)) := fun q => ix_ne ha (p := 0) (q := 1) (by decide) (by decide) q.1.1 q.2.1 (hd.1.resolve_left q.1.1) (q.1.2.trans q.2.2.symm)
  have n12 : ¬ ((a 1 ≠ -1 ∧ ix a 1 = h) ∧ (a 2 ≠ -1 ∧ ix a 2 = h)) := fun q => ix_ne ha (p := 1) (q := 2) (by decide) (by decide) q.1.1 q.2.1 (hd.2.1.resolve_left q.1.1) (q.1.2.trans q.2.2.symm)
  have n20 : ¬ ((a 2 ≠ -1 ∧ ix a 2 = h) ∧ (a 0 ≠ -1 ∧ ix a 0 = h)) := fun q => ix_ne ha (p := 2) (q := 0) (by decide) (by decide) q.1.1 q.2.1 (hd.2.2.resolve_left q.1.1) (q.1.2.trans q.2.2.symm)
  rw [dW_at, dW_at, dW_at]
  by_cases c0 : a 0 ≠ -1 ∧ ix a 0 = h
  · have c1 : ¬ (a 1 ≠ -1 ∧ ix a 1 = h) := fun q => n01 ⟨c0, q⟩
    have c2 : ¬ (a 2 ≠ -1 ∧ ix a 2 = h) := fun q => n20 ⟨q, c0⟩
    rw [if_neg c2, if_neg c1, if_pos c0]
    have hb := hw 0 (by decide) c0.1
    rw [c0.2] at hb
    unfold wAft
    rw [if_pos (Or.inl c0), if_pos (Or.inl c0), dec_w hb]
  · by_cases c1 : a 1 ≠ -1 ∧ ix a 1 = h
    · have c2 : ¬ (a 2 ≠ -1 ∧ ix a 2 = h) := fun q => n12 ⟨c1, q⟩
      rw [if_neg c2, if_pos c1, if_neg c0]
      have hb := hw 1 (by decide) c1.1
      rw [c1.2] at hb
      unfold wAft
      rw [if_pos (Or.inr (Or.inl c1)), if_pos (Or.inr (Or.inl c1)), dec_w hb]
    · by_cases c2 : a 2 ≠ -1 ∧ ix a 2 = h
      · rw [if_pos c2, if_neg c1, if_neg c0]
        have hb := hw 2 (by decide) c2.1
        rw [c2.2] at hb
        unfold wAft
        rw [if_pos (Or.inr (Or.inr c2)), if_pos (Or.inr (Or.inr c2)), dec_w hb]
      · rw [if_neg c2, if_neg c1, if_neg c0]
        have hn : ¬ ((a 0 ≠ -1 ∧ ix a 0 = h) ∨ (a 1 ≠ -1 ∧ ix a 1 = h) ∨ (a 2 ≠ -1 ∧ ix a 2 = h)) := by
          rintro (q | q | q)
          · exact c0 q
          · exact c1 q
          · exact c2 q
        unfold wAft
        rw [if_neg hn, if_neg hn]
theorem dE_1 {t w a pl W : Nat → Int32} {q : Nat → Int} {m p : Nat} (hp : p < 3) (hw : WOK w a) (hpl : pl p = jI (cx a q w m p)) (hW : a p ≠ -1 → W (ix a p) = wAft w a m (ix a p)) (E : Int) : dE a pl p W (jI E) = jI (E + cx a q w m p) := by
  unfold dE
  by_cases c : a p ≠ -1
  · have hb := hw p hp c
    rw [hW c, wAft_p hp c]
    by_cases c2 : (m : Int) < (w (ix a p)).toInt
    · rw [if_pos ⟨c, (wI_pos hb).mpr c2⟩, hpl, jI_add]
    · rw [if_neg (fun z => c2 ((wI_pos hb).mp z.2))]
      unfold cx
      rw [if_neg (fun z => c2 z.2), Int.add_zero]
  · rw [if_neg (fun z => c z.1)]
    unfold cx
    rw [if_neg (fun z => c z.1), Int.add_zero]
theorem dE3 {t w a pl : Nat → Int32} {q : Nat → Int} {m : Nat} (ha : CREW t a) (hd : DIST a) (hw : WOK w a) (hpl : ∀ p, p < 3 → pl p = jI (cx a q w m p)) (E : Int) :
    dE a pl 2 (dW a 1 (dW a 0 (wAft w a m))) (dE a pl 1 (dW a 0 (wAft w a m)) (dE a pl 0 (wAft w a m) (jI E))) = jI (E + (cx a q w m 0 + cx a q w m 1 + cx a q w m 2)) := by
  rw [dE_1 (t := t) (p := 0) (by decide) hw (hpl 0 (by decide)) (fun _ => rfl)]
  rw [dE_1 (t := t) (p := 1) (by decide) hw (hpl 1 (by decide)) (fun c1 => by
    rw [dW_at, if_neg (fun z => ix_ne ha (p := 0) (q := 1) (by decide) (by decide) z.1 c1 (hd.1.resolve_left z.1) z.2)])]
  rw [dE_1 (t := t) (p := 2) (by decide) hw (hpl 2 (by decide)) (fun c2 => by
    rw [dW_at, dW_at, if_neg (fun z => ix_ne ha (p := 1) (q := 2) (by decide) (by decide) z.1 c2 (hd.2.1.resolve_left z.1) z.2), if_neg (fun z => ix_ne ha (p := 2) (q := 0) (by decide) (by decide) c2 z.1 (hd.2.2.resolve_left c2) z.2.symm)])]
  congr 1
  omega
theorem cE1_s (a : Nat → Int32) (q : Nat → Int) (w : Nat → Int32) (m p : Nat) : cE1 a q w (m + 1) p = cE1 a q w m p + cx a q w m p := by
  unfold cE1 cx
  by_cases c : a p ≠ -1
  · rw [if_pos c, if_pos c]
    by_cases c2 : (m : Int) < (w (a p).toNatClampNeg).toInt
    · rw [if_pos ⟨c, c2⟩, show min (w (a p).toNatClampNeg).toInt ((m + 1 : Nat) : Int) = (m : Int) + 1 by omega, show min (w (a p).toNatClampNeg).toInt (m : Int) = (m : Int) by omega, Int.mul_add, Int.mul_one]
    · rw [if_neg (fun z => c2 z.2), show min (w (a p).toNatClampNeg).toInt ((m + 1 : Nat) : Int) = min (w (a p).toNatClampNeg).toInt (m : Int) by omega, Int.add_zero]
  · rw [if_neg c, if_neg c, if_neg (fun z => c z.1), Int.add_zero]
theorem cEat_s (a : Nat → Int32) (q : Nat → Int) (w : Nat → Int32) (m : Nat) : cEat a q w (m + 1) = cEat a q w m + (cx a q w m 0 + cx a q w m 1 + cx a q w m 2) := by
  unfold cEat
  rw [cE1_s, cE1_s, cE1_s]
  omega
theorem xn_cx {t a w : Nat → Int32} {half : Int32} {m p : Nat} (hp : p < 3) (hw : WOK w a) : xn t a (wAft w a m) half p = cx a (pullP t a half) w m p := by
  unfold xn cx
  by_cases c : a p ≠ -1
  · have hb := hw p hp c
    have e : wAft w a m (a p).toNatClampNeg = jI (wI (w (ix a p)).toInt m) := wAft_p hp c
    rw [e]
    by_cases c2 : (m : Int) < (w (ix a p)).toInt
    · rw [if_pos ⟨c, (wI_ne hb).mpr c2⟩, if_pos ⟨c, c2⟩]
    · rw [if_neg (fun z => c2 ((wI_ne hb).mp z.2)), if_neg (fun z => c2 z.2)]
  · rw [if_neg (fun z => c z.1), if_neg (fun z => c z.1)]
theorem cPace_ext {law : Int32} {a : Nat → Int32} {x y : Nat → Int} (h : ∀ p, p < 3 → x p = y p) : cPace law a x = cPace law a y := by
  unfold cPace cLeast
  rw [h 0 (by decide), h 1 (by decide), h 2 (by decide)]
theorem one_b (c : Prop) [Decidable c] : 0 ≤ (if c then (1 : Int) else 0) ∧ (if c then (1 : Int) else 0) ≤ 1 := by
  by_cases h : c
  · rw [if_pos h]; omega
  · rw [if_neg h]; omega
theorem cCnt_b (a : Nat → Int32) : 0 ≤ cCnt a ∧ cCnt a ≤ 3 := by
  unfold cCnt
  have h0 := one_b (a 0 ≠ -1)
  have h1 := one_b (a 1 ≠ -1)
  have h2 := one_b (a 2 ≠ -1)
  omega
theorem cL1_b {l x : Int} {b : Prop} [Decidable b] (hl : 0 ≤ l ∧ l ≤ 1000) (hx : 0 ≤ x ∧ x ≤ 40) : 0 ≤ cL1 l b x ∧ cL1 l b x ≤ 1000 := by
  unfold cL1
  by_cases c : b ∧ x < l
  · rw [if_pos c]; omega
  · rw [if_neg c]; exact hl
theorem cPace_b {law : Int32} {a : Nat → Int32} {x : Nat → Int} (h : ∀ p, p < 3 → 0 ≤ x p ∧ x p ≤ 40) : 0 ≤ cPace law a x ∧ cPace law a x ≤ 3000 := by
  have h0 := h 0 (by decide)
  have h1 := h 1 (by decide)
  have h2 := h 2 (by decide)
  unfold cPace
  by_cases c : law = 0
  · rw [if_pos c]; omega
  · rw [if_neg c]
    have hl : 0 ≤ cLeast a x ∧ cLeast a x ≤ 1000 := cL1_b (cL1_b (cL1_b (by omega) h0) h1) h2
    have hc := cCnt_b a
    have h5 : cLeast a x * cCnt a ≤ 1000 * 3 := Int.mul_le_mul hl.2 hc.2 hc.1 (by omega)
    exact ⟨Int.mul_nonneg hl.1 hc.1, by omega⟩
theorem cx_b {a w : Nat → Int32} {q : Nat → Int} {m p : Nat} (h : 0 ≤ q p ∧ q p ≤ 40) : 0 ≤ cx a q w m p ∧ cx a q w m p ≤ 40 := by
  unfold cx
  by_cases c : a p ≠ -1 ∧ (m : Int) < (w (a p).toNatClampNeg).toInt
  · rw [if_pos c]; exact h
  · rw [if_neg c]; omega
theorem cCome_b {law : Int32} {a w : Nat → Int32} {q : Nat → Int} {push : Int} (h : ∀ p, p < 3 → 0 ≤ q p ∧ q p ≤ 40) (hp : -300 ≤ push ∧ push ≤ 300) : ∀ m : Nat, 0 ≤ cCome law a q w push m ∧ cCome law a q w push m ≤ 3300 * (m : Int)
  | 0 => ⟨by simp [cCome], by simp [cCome]⟩
  | m + 1 => by
    have ih := cCome_b h hp m (law := law) (a := a) (w := w)
    have hc := cPace_b (law := law) (a := a) (x := cx a q w m) (fun p hp => cx_b (h p hp))
    unfold cCome
    by_cases c : cCome law a q w push m + (cPace law a (cx a q w m) + push) < 0
    · rw [if_pos c]; omega
    · rw [if_neg c]; omega

/-- the tide of an hour -/
def tideS (t : Nat → Int32) (k : Nat) : Int := if t 7 = 0 then 0 else (t (68 + k % (t 7).toNatClampNeg)).toInt - 20
theorem tideS_b {t : Nat → Int32} (ht : TW t) (k : Nat) : -20 ≤ tideS t k ∧ tideS t k ≤ 20 := by
  unfold tideS
  by_cases c : t 7 = 0
  · rw [if_pos c]; omega
  · rw [if_neg c]
    have h7 := ht.2.2.1
    rw [i_le, i_le] at h7
    have hn : ¬ (t 7).toInt = 0 := fun e => c ((i_eq _ _).mpr e)
    have h0 : ((0 : Int32)).toInt = 0 := rfl
    have hpos : 0 < (t 7).toNatClampNeg := by rw [i_cl]; omega
    have := ht.2.2.2.2.2 (k % (t 7).toNatClampNeg) (Nat.mod_lt _ hpos)
    rw [i_le, i_le] at this
    have h40 : ((40 : Int32)).toInt = 40 := rfl
    omega
theorem e_tideOf {t : Nat → Int32} (ht : TW t) {k : Nat} (hk : k < 2147483648) : f_X9_tideOf (nI k) t = some (jI (tideS t k)) := by
  unfold f_X9_tideOf tideS
  change (if t 7 = 0 then _ else _) = _
  by_cases c : t 7 = 0
  · rw [if_pos c, if_pos c]; rfl
  · have h7 := ht.2.2.1
    rw [i_le, i_le] at h7
    have h0 : ((0 : Int32)).toInt = 0 := rfl
    have h12 : ((12 : Int32)).toInt = 12 := rfl
    have hn : ¬ (t 7).toInt = 0 := fun e => c ((i_eq _ _).mpr e)
    obtain ⟨d, hd, e7⟩ : ∃ d : Nat, (0 < d ∧ d ≤ 12) ∧ t 7 = nI d := ⟨(t 7).toNatClampNeg, by rw [i_cl]; omega, by
      rw [i_eq, nI_toInt (by rw [i_cl]; omega), i_cl]; omega⟩
    have e : t (Int32.toNatClampNeg 7) = nI d := e7
    rw [if_neg c, e, if_neg (show ¬ nI d = 0 from nI_ne0 hd.1 (by omega)), pk_rem hk hd.1 (by omega), show (68 : Int32) + nI (k % d) = nI (68 + k % d) from nI_add 68 _]
    have hm : k % d < d := Nat.mod_lt _ hd.1
    rw [if_neg (idx_ok rfl (by omega) (by decide)), nI_clamp (by omega), if_neg c, e7, nI_clamp (by omega)]
    congr 1
    rw [← jI_self (t (68 + k % d)), show (20 : Int32) = jI 20 from rfl, jI_sub, jI_self]
