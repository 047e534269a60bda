/-! PURE SIDE: the reference's crosses() -/
theorem cFind_next {br : Int} {g : Nat → Int} {k m : Nat} (h : ¬ br ≤ g (m + 1)) : cFind br g (k + 1) m = cFind br g k (m + 1) := if_neg h
/-- minutes walked: all 120 when the landing is missed -/
def wlk (m : Nat) : Nat := if m = 0 then 120 else m
theorem cr1_step {t a w pl : Nat → Int32} {half : Int32} {K : Int32 → (Nat → Int32) → (Nat → Int32) → Option (Int32 × Int32 × (Nat → Int32) × (Nat → Int32))} {rec2 : Int32 → Int32 → Int32 → (Nat → Int32) → (Nat → Int32) → Option (Int32 × Int32 × (Nat → Int32) × (Nat → Int32))}
    {k m : Nat} {load : Int} (ht : TW t) (ha : CREW t a) (hd : DIST a) (hw : WOK w a) (hk : k < 2147483648) (hload : 0 ≤ load ∧ load ≤ 240) (hm : m < 120) :
    B_X9_crosses_1 K half t a (nI k) (jI load) rec2 (jI (cCome (t 1) a (pullP t a half) w (tideS t k - load) m)) (nI (m + 1)) (jI (cEat a (pullP t a half) w m)) (wAft w a m) pl =
      if (t 2).toInt ≤ cCome (t 1) a (pullP t a half) w (tideS t k - load) (m + 1) then some (nI (m + 1), jI (cEat a (pullP t a half) w (m + 1)), wAft w a (m + 1), pl3 pl (cx a (pullP t a half) w m))
      else rec2 (jI (cCome (t 1) a (pullP t a half) w (tideS t k - load) (m + 1))) (nI (m + 1 + 1)) (jI (cEat a (pullP t a half) w (m + 1))) (wAft w a (m + 1)) (pl3 pl (cx a (pullP t a half) w m)) := by
  have hq : ∀ p, p < 3 → 0 ≤ pullP t a half p ∧ pullP t a half p ≤ 40 := fun p hp => pullP_b ht ha hp
  have htd := tideS_b ht k
  have hC := cCome_b (law := t 1) (a := a) (w := w) (push := tideS t k - load) hq (by omega) m
  have hC1 := cCome_b (law := t 1) (a := a) (w := w) (push := tideS t k - load) hq (by omega) (m + 1)
  have hpa := cPace_b (law := t 1) (a := a) (x := cx a (pullP t a half) w m) (fun p hp => cx_b (hq p hp))
  have epl : pl3 pl (xn t a (wAft w a m) half) = pl3 pl (cx a (pullP t a half) w m) := by
    unfold pl3
    rw [xn_cx (by decide) hw, xn_cx (by decide) hw, xn_cx (by decide) hw]
  have epa : cPace (t 1) a (xn t a (wAft w a m) half) = cPace (t 1) a (cx a (pullP t a half) w m) := cPace_ext (fun p hp => xn_cx hp hw)
  have h2 := ht.2.1
  rw [i_le, i_le] at h2
  have h999 : ((999 : Int32)).toInt = 999 := rfl
  have h0 : ((0 : Int32)).toInt = 0 := rfl
  unfold B_X9_crosses_1
  rw [if_neg (show ¬ (121 : Int32) ≤ nI (m + 1) from nI_ge (a := m + 1) (b := 121) (by omega) (by decide)), e_paceNow ha ht, bn2_some, e_tideOf ht hk, bn1_some, epl, epa]
  rw [jn1_if]
  have ec : (if (0 : Int32) ≤ jI (cCome (t 1) a (pullP t a half) w (tideS t k - load) m) + (jI (cPace (t 1) a (cx a (pullP t a half) w m)) + jI (tideS t k) - jI load) then jI (cCome (t 1) a (pullP t a half) w (tideS t k - load) m) + (jI (cPace (t 1) a (cx a (pullP t a half) w m)) + jI (tideS t k) - jI load) else 0) = jI (cCome (t 1) a (pullP t a half) w (tideS t k - load) (m + 1)) := by
    rw [jI_add, jI_sub, jI_add]
    have hr : cCome (t 1) a (pullP t a half) w (tideS t k - load) (m + 1) = if cCome (t 1) a (pullP t a half) w (tideS t k - load) m + (cPace (t 1) a (cx a (pullP t a half) w m) + (tideS t k - load)) < 0 then 0 else cCome (t 1) a (pullP t a half) w (tideS t k - load) m + (cPace (t 1) a (cx a (pullP t a half) w m) + (tideS t k - load)) := rfl
    have e3 : (0 : Int32) ≤ jI (cCome (t 1) a (pullP t a half) w (tideS t k - load) m + (cPace (t 1) a (cx a (pullP t a half) w m) + tideS t k - load)) ↔ 0 ≤ cCome (t 1) a (pullP t a half) w (tideS t k - load) m + (cPace (t 1) a (cx a (pullP t a half) w m) + tideS t k - load) := by
      rw [show (0 : Int32) = jI 0 from rfl, jI_le (by omega) (by omega) (by omega) (by omega)]
    rw [hr]
    by_cases c : cCome (t 1) a (pullP t a half) w (tideS t k - load) m + (cPace (t 1) a (cx a (pullP t a half) w m) + (tideS t k - load)) < 0
    · rw [if_pos c, if_neg (fun z => by have := e3.mp z; omega)]; rfl
    · rw [if_neg c, if_pos (e3.mpr (by omega))]
      congr 1
      omega
  rw [ec]
  change jn2 _ (fun K115_6 => lq3 (B_X9_crosses_2 K115_6 a (pl3 pl (cx a (pullP t a half) w m))) fu 0 (jI (cEat a (pullP t a half) w m)) (wAft w a m)) = _
  rw [show ∀ (J : Int32 → (Nat → Int32) → Option (Int32 × Int32 × (Nat → Int32) × (Nat → Int32))) (k : (Int32 → (Nat → Int32) → Option (Int32 × Int32 × (Nat → Int32) × (Nat → Int32))) → Option (Int32 × Int32 × (Nat → Int32) × (Nat → Int32))), jn2 J k = k J from fun _ _ => rfl]
  rw [cr2_all ha, dW3 ha hd hw, dE3 ha hd hw (fun p hp => pl3_at pl _ hp), ← cEat_s]
  change (if jI (cCome (t 1) a (pullP t a half) w (tideS t k - load) (m + 1)) < t 2 then _ else _) = _
  have e2 : jI (cCome (t 1) a (pullP t a half) w (tideS t k - load) (m + 1)) < t 2 ↔ ¬ (t 2).toInt ≤ cCome (t 1) a (pullP t a half) w (tideS t k - load) (m + 1) := by
    rw [i_lt, jI_toInt (by omega) (by omega)]; omega
  by_cases c : (t 2).toInt ≤ cCome (t 1) a (pullP t a half) w (tideS t k - load) (m + 1)
  · rw [if_neg (fun z => e2.mp z c), if_pos c]
  · rw [if_pos (e2.mpr c), if_neg c, nI_1]
theorem cr1_all {t a w : Nat → Int32} {half : Int32} {k : Nat} {load : Int} (ht : TW t) (ha : CREW t a) (hd : DIST a) (hw : WOK w a) (hk : k < 2147483648) (hload : 0 ≤ load ∧ load ≤ 240) :
    ∀ (j m n : Nat) (pl : Nat → Int32), m + j = 120 → j < n → ∃ pl' : Nat → Int32, lq5 (B_X9_crosses_1 (fun (e : Int32) (w9 : Nat → Int32) (p9 : Nat → Int32) => some ((0 : Int32), e, w9, p9)) half t a (nI k) (jI load)) n (jI (cCome (t 1) a (pullP t a half) w (tideS t k - load) m)) (nI (m + 1)) (jI (cEat a (pullP t a half) w m)) (wAft w a m) pl =
      some (nI (cFind (t 2).toInt (cCome (t 1) a (pullP t a half) w (tideS t k - load)) j m), jI (cEat a (pullP t a half) w (wlk (cFind (t 2).toInt (cCome (t 1) a (pullP t a half) w (tideS t k - load)) j m))), wAft w a (wlk (cFind (t 2).toInt (cCome (t 1) a (pullP t a half) w (tideS t k - load)) j m)), pl') := by
  intro j
  induction j with
  | zero =>
    intro m n pl hm hn
    obtain ⟨n, rfl⟩ : ∃ n', n = n' + 1 := ⟨n - 1, by omega⟩
    obtain rfl : m = 120 := by omega
    refine ⟨pl, ?_⟩
    rw [lq5_1]
    unfold B_X9_crosses_1
    rw [if_pos (by decide)]
    rfl
  | succ j ih =>
    intro m n pl hm hn
    obtain ⟨n, rfl⟩ : ∃ n', n = n' + 1 := ⟨n - 1, by omega⟩
    rw [lq5_1, cr1_step ht ha hd hw hk hload (by omega)]
    by_cases c : (t 2).toInt ≤ cCome (t 1) a (pullP t a half) w (tideS t k - load) (m + 1)
    · refine ⟨pl3 pl (cx a (pullP t a half) w m), ?_⟩
      rw [if_pos c, show cFind (t 2).toInt (cCome (t 1) a (pullP t a half) w (tideS t k - load)) (j + 1) m = m + 1 from if_pos c]
      rw [show wlk (m + 1) = m + 1 from if_neg (by omega)]
    · rw [if_neg c, cFind_next c]
      exact ih (m + 1) n _ (by omega) (by omega)
theorem wI_0 {e : Int} (h : 0 ≤ e) : wI e 0 = e := by
  unfold wI
  by_cases z : e ≤ ((0 : Nat) : Int)
  · rw [if_pos z]; omega
  · rw [if_neg z]; omega
theorem cro_eq (n1 n2 e0 half : Int32) (t w a pl : Nat → Int32) : f_X9_crosses n1 n2 e0 half t w a pl = lq5 (B_X9_crosses_1 (fun (e : Int32) (w9 : Nat → Int32) (p9 : Nat → Int32) => some ((0 : Int32), e, w9, p9)) half t a n1 n2) fu 0 1 0 w pl := by
  unfold f_X9_crosses jn3 B_X9_crosses_1
  rfl
theorem fu_120 : 120 < fu := by decide
/-- crosses(): minutes (0: MISSED), what was eaten, strengths behind it -/
theorem e_crosses {t a w : Nat → Int32} {half : Int32} {k : Nat} {load : Int} (ht : TW t) (ha : CREW t a) (hd : DIST a) (hw : WOK w a) (hk : k < 2147483648) (hload : 0 ≤ load ∧ load ≤ 240) (e0 : Int32) (pl : Nat → Int32) :
    ∃ pl' : Nat → Int32, f_X9_crosses (nI k) (jI load) e0 half t w a pl = some (nI (cMin (t 1) (t 2).toInt a (pullP t a half) w (tideS t k - load)), jI (cEat a (pullP t a half) w (wlk (cMin (t 1) (t 2).toInt a (pullP t a half) w (tideS t k - load)))), wAft w a (wlk (cMin (t 1) (t 2).toInt a (pullP t a half) w (tideS t k - load))), pl') := by
  have e1 : wAft w a 0 = w := by
    funext h
    unfold wAft
    by_cases c : (a 0 ≠ -1 ∧ ix a 0 = h) ∨ (a 1 ≠ -1 ∧ ix a 1 = h) ∨ (a 2 ≠ -1 ∧ ix a 2 = h)
    · rw [if_pos c]
      have hb : 0 ≤ (w h).toInt := by
        rcases c with q | q | q
        · rw [← q.2]; exact (hw 0 (by decide) q.1).1
        · rw [← q.2]; exact (hw 1 (by decide) q.1).1
        · rw [← q.2]; exact (hw 2 (by decide) q.1).1
      rw [wI_0 hb, jI_self]
    · rw [if_neg c]
  have e2 : cEat a (pullP t a half) w 0 = 0 := by
    have h : ∀ p, p < 3 → cE1 a (pullP t a half) w 0 p = 0 := fun p hp => by
      unfold cE1
      by_cases c : a p ≠ -1
      · rw [if_pos c]
        have := (hw p hp c).1
        rw [show min (w (a p).toNatClampNeg).toInt ((0 : Nat) : Int) = 0 by unfold ix at this; omega, Int.mul_zero]
      · rw [if_neg c]
    unfold cEat
    rw [h 0 (by decide), h 1 (by decide), h 2 (by decide)]; rfl
  obtain ⟨pl', h⟩ := cr1_all (half := half) ht ha hd hw hk hload 120 0 fu pl rfl fu_120
  have e4 : cCome (t 1) a (pullP t a half) w (tideS t k - load) 0 = 0 := rfl
  rw [e1, e2, e4] at h
  rw [show (jI 0 : Int32) = 0 from rfl, show nI (0 + 1) = 1 from rfl] at h
  rw [cro_eq]
  unfold cMin
  exact ⟨pl', h⟩
