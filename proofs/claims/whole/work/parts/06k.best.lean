/-! PURE SIDE: best of both -/
/-- minutes of SOONEST behind n hours of rest -/
def wSp (P H : Nat) (t w : Nat → Int32) (k : Nat) (l : Int) (n : Nat) : Nat := (bst P H (-1) 120 0 (rMin t (rstS t w n) (tideS t (k + n) - l)) (rEat t (rstS t w n) (tideS t (k + n) - l)) 343).2.1
/-- the hours to wait, the minutes then (0: none) -/
def wBs (f : Nat → Nat) : Nat → Nat × Nat
  | 0 => (0, 0)
  | n + 1 => if f n ≠ 0 ∧ ((wBs f n).2 = 0 ∨ f n < (wBs f n).2) then (n, f n) else wBs f n
theorem wBs_s (f : Nat → Nat) (n : Nat) : wBs f (n + 1) = if f n ≠ 0 ∧ ((wBs f n).2 = 0 ∨ f n < (wBs f n).2) then (n, f n) else wBs f n := rfl
theorem wBs_b {f : Nat → Nat} (hf : ∀ n, f n ≤ 120) : ∀ n, (wBs f n).2 ≤ 120 ∧ (wBs f n).1 ≤ n
  | 0 => ⟨Nat.zero_le _, Nat.le_refl _⟩
  | n + 1 => by
    rw [wBs_s]
    by_cases c : f n ≠ 0 ∧ ((wBs f n).2 = 0 ∨ f n < (wBs f n).2)
    · rw [if_pos c]; exact ⟨hf n, by show n ≤ n + 1; omega⟩
    · rw [if_neg c]; have := wBs_b hf n; exact ⟨this.1, by omega⟩
theorem wSp_b {P H : Nat} {t w : Nat → Int32} {k : Nat} {l : Int} {n : Nat} : wSp P H t w k l n ≤ 120 := by
  unfold wSp
  rcases bst_is (P := P) (H := H) (x := -1) (W := 120) (ch := 0) (m := rMin t (rstS t w n) (tideS t (k + n) - l)) (e := rEat t (rstS t w n) (tideS t (k + n) - l)) 343 with h | ⟨q, g1, g2, g3⟩
  · rw [h]; omega
  · rw [g3]; exact g2.2.2.2
/-- what the class has: hours, minutes -/
def StW (v : Nat × Nat) (h m : Int32) : Prop := (v.2 = 0 ∧ h = -1) ∨ (v.2 ≠ 0 ∧ h = nI v.1 ∧ m = nI v.2)
theorem wait_eq (n2 n3 crew mi oa wh wm last law broad horses tideN : Int32) (rs who cp S Bk tides u : Nat → Int32) : f_X7_findWait n2 n3 crew mi oa wh wm rs last who cp law broad horses tideN S Bk tides u = lq7 (B_X7_findWait_1 (fun c m o wh wm rs => if wh = -1 then some (0, c, m, o, wh, wm, rs) else some (1, c, m, o, wh, wm, rs)) horses S Bk u n2 tideN tides n3 last who cp law broad) fu 0 crew mi oa (-1) wm rs := by
  unfold f_X7_findWait
  rw [jn6_e]
  rfl
theorem c_wait {law places broad horses blinds tideN last : Int32} {pull str back moods tides t who cp u : Nat → Int32} {P H k : Nat} {l : Int}
    (hB : BT law places broad horses blinds tideN pull str back moods tides t) (e0 : t 0 = nI P) (e3 : t 3 = nI H) (hP : P ≤ 3) (hH : H ≤ 6) (hF : FST t P H 343 last who cp) (hw : WB t u) (hk : k < 2000000000) (hl : 0 ≤ l ∧ l ≤ 240) (crew mi oa wh wm : Int32) (rs : Nat → Int32) :
    ∃ (crew' mi' oa' wh' wm' : Int32) (rs' : Nat → Int32), f_X7_findWait (nI k) (jI l) crew mi oa wh wm rs last who cp law broad horses tideN str back tides u = some (if (wBs (wSp P H t u k l) 12).2 = 0 then 0 else 1, crew', mi', oa', wh', wm', rs') ∧ StW (wBs (wSp P H t u k l) 12) wh' wm' := by
  obtain ⟨ht, hs, hSB, hPB, hCT, -⟩ := id hB
  rw [wait_eq]
  have hwb := wBs_b (f := wSp P H t u k l) (fun n => wSp_b)
  refine lq7_inv (fun n y c m o wh wm rs => y = nI n ∧ StW (wBs (wSp P H t u k l) n) wh wm) (fun z => ∃ (crew' mi' oa' wh' wm' : Int32) (rs' : Nat → Int32), z = some (if (wBs (wSp P H t u k l) 12).2 = 0 then (0 : Int32) else 1, crew', mi', oa', wh', wm', rs') ∧ StW (wBs (wSp P H t u k l) 12) wh' wm') 12 ?_ ?_ fu 0 0 crew mi oa (-1) wm rs (by omega) (by unfold fu; omega) ⟨rfl, Or.inl ⟨rfl, rfl⟩⟩
  · rintro rec n y c m o wh wm rs hn ⟨rfl, hst⟩
    left
    obtain ⟨v, q1, q2⟩ := e_refresh (v0 := rs) (n := n) ht hs hw hSB (by omega)
    have hWB : WB t (rstS t u n) := rst_WB hs hw (n := n) (by omega) (fun h _ => rfl)
    obtain ⟨c', m', o', g1, g2⟩ := c_soon (x := -1) hB e0 e3 hP hH hF hWB (q2 : WEQ t v (rstS t u n)) (push_b ht hl (k + n)) c m o
    unfold B_X7_findWait_1
    rw [if_neg (show ¬ (11 : Int32) < nI n from nI_nlt (b := n) (a := 11) (by omega) (by decide)), hPB.1, q1, bn1_some, nI_add, e_ctide ht hCT (by omega), bn1_some, jI_sub, soonB_eq, g1, bn4_some, nI_1]
    dsimp only [jn1, jn2]
    have hfe : (bst P H (-1) 120 0 (rMin t (rstS t u n) (tideS t (k + n) - l)) (rEat t (rstS t u n) (tideS t (k + n) - l)) 343).2.1 = wSp P H t u k l n := rfl
    have hbn := hwb n
    have hsp : wSp P H t u k l n ≤ 120 := wSp_b
    rw [wBs_s]
    by_cases cb : wSp P H t u k l n = 0
    · rw [hfe, if_pos cb, if_pos rfl, if_neg (fun z => z.1 cb)]
      exact ⟨_, _, _, _, _, _, _, ⟨rfl, hst⟩, rfl⟩
    · have hmin := (st_at hF (by rw [hfe]; exact cb) g2 (k := 0) (by decide)).2.1
      rw [hfe] at hmin
      rw [hfe, if_neg cb, if_neg (show ¬ (1 : Int32) = 0 by decide)]
      rcases hst with ⟨h1, h2⟩ | ⟨h1, h2, h3⟩
      · rw [if_pos h2, if_pos ⟨cb, Or.inl h1⟩]
        exact ⟨_, _, _, _, _, _, _, ⟨rfl, Or.inr ⟨cb, rfl, hmin⟩⟩, rfl⟩
      · have hcr : ¬ wh = -1 := by rw [h2]; exact nI_ne (by omega)
        rw [if_neg hcr, h3, hmin]
        by_cases c2 : (wBs (wSp P H t u k l) n).2 ≤ wSp P H t u k l n
        · rw [if_pos (nI_le c2 (by omega)), if_neg (fun z => by rcases z.2 with z2 | z2; exact h1 z2; omega)]
          exact ⟨_, _, _, _, _, _, _, ⟨rfl, Or.inr ⟨h1, h2, rfl⟩⟩, rfl⟩
        · rw [if_neg (nI_ge (by omega) (by omega)), if_pos ⟨cb, Or.inr (by omega)⟩]
          exact ⟨_, _, _, _, _, _, _, ⟨rfl, Or.inr ⟨cb, rfl, rfl⟩⟩, rfl⟩
  · rintro rec y c m o wh wm rs ⟨rfl, hst⟩
    unfold B_X7_findWait_1
    rw [if_pos (show (11 : Int32) < nI 12 by decide)]
    refine ⟨c, m, o, wh, wm, rs, ?_, hst⟩
    show (if wh = -1 then some ((0 : Int32), c, m, o, wh, wm, rs) else some (1, c, m, o, wh, wm, rs)) = _
    rcases hst with ⟨h1, h2⟩ | ⟨h1, h2, h3⟩
    · rw [if_pos h2, if_pos h1]
    · have := (hwb 12).2
      have hcr : ¬ wh = -1 := by rw [h2]; exact nI_ne (by omega)
      rw [if_neg h1, if_neg hcr]
theorem best_fr {w : Nat → Int32} (K : (Nat → Int32) → Option (Int32 × Int32 × Int32 × Int32 × Int32 × (Nat → Int32) × (Nat → Int32) × (Nat → Int32) × (Nat → Int32) × (Nat → Int32))) (fr : Nat → Int32) : lq2 (B_X9_best_2 K w) fu 0 fr = K (fA 0 6 (fun k _ => w k) fr) := by
  refine fillL 0 6 (fun k _ => w k) (by omega) (fun rec k v hk => ?_) (fun rec v => ?_) fr
  · have h6 : ¬ (6 : Int32) ≤ nI k := nI_ge (b := 6) hk (by decide)
    have hc : (nI k).toNatClampNeg = k := nI_clamp (by omega)
    have h0 : ¬ nI k < 0 := nI_pos (by omega)
    unfold B_X9_best_2
    simp only [h6, hc, h0, if_false, false_or, show ¬ 6 ≤ k by omega, nI_1, Nat.zero_add]
  · rfl
/-- what the reference has -/
def SrW (v : Nat × Nat) (h m : Int32) : Prop := (v.2 = 0 ∧ h = -1 ∧ m = -1) ∨ (v.2 ≠ 0 ∧ h = nI v.1 ∧ m = nI v.2)
theorem m_wait {hour oats missed seed e bm bo : Int32} {t strength stands s w a pl best fr : Nat → Int32} {b : Int} {P H k : Nat} {l : Int} {K : Int32 → Int32 → Int32 → Int32 → Int32 → (Nat → Int32) → (Nat → Int32) → (Nat → Int32) → (Nat → Int32) → (Nat → Int32) → Option (Int32 × Int32 × Int32 × Int32 × Int32 × (Nat → Int32) × (Nat → Int32) × (Nat → Int32) × (Nat → Int32) × (Nat → Int32))}
    (ht : TW t) (hs : TS t) (hN : RNb b hour oats missed seed strength stands s t) (e0 : t 0 = nI P) (e3 : t 3 = nI H) (hP : P ≤ 3) (hH : H ≤ 6) (hk : k < 2000000000) (ek : hour = nI k) (hl : 0 ≤ l ∧ l ≤ 240) :
    ∃ (hh mm e' bm' bo' : Int32) (w' a' pl' best' fr' : Nat → Int32), lq11 (B_X9_best_1 K s t (jI l) (-1)) fu (-1) (-1) 0 e bm bo w a pl best fr = K hh mm e' bm' bo' w' a' pl' best' fr' ∧ SrW (wBs (wSp P H t strength k l) 12) hh mm := by
  obtain ⟨⟨s9, hh0, hhb⟩, -⟩ := id hN
  have hwb := wBs_b (f := wSp P H t strength k l) (fun n => wSp_b)
  refine lq11_inv (fun n y3 y4 y5 e bm bo w a pl best fr => y5 = nI n ∧ SrW (wBs (wSp P H t strength k l) n) y3 y4) (fun z => ∃ (hh mm e' bm' bo' : Int32) (w' a' pl' best' fr' : Nat → Int32), z = K hh mm e' bm' bo' w' a' pl' best' fr' ∧ SrW (wBs (wSp P H t strength k l) 12) hh mm) 12 ?_ ?_ fu 0 (-1) (-1) 0 e bm bo w a pl best fr (by omega) (by unfold fu; omega) ⟨rfl, Or.inl ⟨rfl, rfl, rfl⟩⟩
  · rintro rec n y3 y4 y5 e bm bo w a pl best fr hn ⟨rfl, hst⟩
    left
    obtain ⟨hWB0, hWE0⟩ := asnow_f (fr := w) ht hN
    have hWB1 : WB t (fA 0 6 (fun k _ => s k) w) := fun h hh => by rw [hWE0 h hh]; exact hWB0 h hh
    obtain ⟨v, q1, q2⟩ := e_rests (a := fA 0 3 (fun k _ => s (6 + k)) a) (n := n) (x2 := 1) ht hs hWB1 (by omega)
    have hWB : WB t (rstS t strength n) := rst_WB hs hWB0 (n := n) (by omega) (fun h _ => rfl)
    have hE : WEQ t (fA 0 6 (fun k _ => v k) fr) (rstS t strength n) := fun h hh => by
      obtain ⟨H', h6, e3', eH⟩ := hor_n ht
      rw [fA_0 (by omega), q2 h hh, if_neg (fun z => absurd z.1 (by decide)), rstS_ext hWE0 hh]
    obtain ⟨e', bm', bo', w', a', pl', best', f1, f2⟩ := m_finds (x := -1) (kh := k + n) ht hs hWB hE e0 e3 hP hH (by omega) hl (Or.inl ⟨rfl, rfl⟩) e bm bo v (fA 0 3 (fun k _ => s (6 + k)) a) pl best
    unfold B_X9_best_1
    rw [if_neg (show ¬ (12 : Int32) ≤ nI n from nI_ge (b := 12) hn (by decide)), e_asNow, bn2_some, q1, bn1_some, jn1_d]
    rw [show s (Int32.toNatClampNeg 9) = nI k from s9.trans ek, nI_add, nI_1]
    have key : ∀ (Z : Option (Int32 × Int32 × Int32 × Int32 × Int32 × (Nat → Int32) × (Nat → Int32) × (Nat → Int32) × (Nat → Int32) × (Nat → Int32)) → Prop) (K3 : (Nat → Int32) → Option (Int32 × Int32 × Int32 × Int32 × Int32 × (Nat → Int32) × (Nat → Int32) × (Nat → Int32) × (Nat → Int32) × (Nat → Int32))), Z (K3 (fA 0 6 (fun k _ => v k) fr)) → Z (lq2 (B_X9_best_2 K3 v) fu 0 fr) := fun Z K3 hZ => by rw [best_fr]; exact hZ
    refine key (fun o => ∃ b1 b2 b3 b4 b5 b6 b7 b8 b9 b10 b11, (b3 = nI (n + 1) ∧ SrW (wBs (wSp P H t strength k l) (n + 1)) b1 b2) ∧ o = rec b1 b2 b3 b4 b5 b6 b7 b8 b9 b10 b11) _ ?_
    rw [f1, bn8_some]
    dsimp only [jn1, jn2]
    have hfe : (bst P H (-1) 120 0 (rMin t (rstS t strength n) (tideS t (k + n) - l)) (rEat t (rstS t strength n) (tideS t (k + n) - l)) 343).2.1 = wSp P H t strength k l n := rfl
    have hbn := hwb n
    have hsp : wSp P H t strength k l n ≤ 120 := wSp_b
    have hmin := f2.1
    rw [hfe] at hmin
    rw [wBs_s, hfe, hmin]
    by_cases cb : wSp P H t strength k l n = 0
    · rw [if_pos cb, if_pos rfl, if_neg (fun z => z.1 cb)]
      exact ⟨_, _, _, _, _, _, _, _, _, _, _, ⟨rfl, hst⟩, rfl⟩
    · rw [if_neg cb, if_neg (show ¬ (1 : Int32) = 0 by decide)]
      rcases hst with ⟨h1, h2, h3⟩ | ⟨h1, h2, h3⟩
      · rw [if_pos h3, if_pos ⟨cb, Or.inl h1⟩]
        exact ⟨_, _, _, _, _, _, _, _, _, _, _, ⟨rfl, Or.inr ⟨cb, rfl, rfl⟩⟩, rfl⟩
      · have hcr : ¬ nI (wBs (wSp P H t strength k l) n).2 = -1 := nI_ne (by omega)
        rw [h3, if_neg hcr]
        by_cases c2 : (wBs (wSp P H t strength k l) n).2 ≤ wSp P H t strength k l n
        · rw [if_pos (nI_le c2 (by omega)), if_neg (fun z => by rcases z.2 with z2 | z2; exact h1 z2; omega)]
          exact ⟨_, _, _, _, _, _, _, _, _, _, _, ⟨rfl, Or.inr ⟨h1, h2, rfl⟩⟩, rfl⟩
        · rw [if_neg (nI_ge (by omega) (by omega)), if_pos ⟨cb, Or.inr (by omega)⟩]
          exact ⟨_, _, _, _, _, _, _, _, _, _, _, ⟨rfl, Or.inr ⟨cb, rfl, rfl⟩⟩, rfl⟩
  · rintro rec y3 y4 y5 e bm bo w a pl best fr ⟨rfl, hst⟩
    unfold B_X9_best_1
    rw [if_pos (show (12 : Int32) ≤ nI 12 by decide)]
    exact ⟨_, _, _, _, _, _, _, _, _, _, rfl, hst⟩
theorem m_best {law places broad horses blinds tideN hour oats missed seed last n1 n2 th e bm bo : Int32} {pull str back moods tides t strength stands s who cp w a pl best fr : Nat → Int32} {b : Int} {P H : Nat}
    (hB : BT law places broad horses blinds tideN pull str back moods tides t) (hN : RNb b hour oats missed seed strength stands s t) (hb : b < 1000000000) (e0 : t 0 = nI P) (e3 : t 3 = nI H) (hP : P ≤ 3) (hH : H ≤ 6) (hF : FST t P H 343 last who cp) (crew mi oa wh wm : Int32) (rs : Nat → Int32) :
    ∃ (rr crew' mi' oa' wh' wm' : Int32) (rs' : Nat → Int32) (e' bm' bo' : Int32) (w' a' pl' best' fr' : Nat → Int32), f_X8_best n1 n2 law broad horses tideN str back tides last who cp hour strength crew mi oa wh wm rs = some (rr, crew', mi', oa', wh', wm', rs') ∧ f_X9_best n1 n2 th e (-1) bm bo t s w a pl best fr = some (rr, 0, e', bm', bo', w', a', pl', best', fr') := by
  obtain ⟨ht, hs, hSB, hPB, hCT, hlaw, ht1, ht2, hbr, ht0, hpl⟩ := id hB
  obtain ⟨⟨s9, hh0, hhb⟩, -⟩ := id hN
  obtain ⟨hWB, hWE⟩ := asnow_f (fr := fr) ht hN
  obtain ⟨k, hk, ek, ekI⟩ := hour_n hh0
  unfold f_X8_best f_X9_best
  rw [e_isNoLoad, bn1_some, e_in, bn1_some, e_in, bn1_some]
  by_cases cl : 0 ≤ n1 ∧ n1 ≤ 240
  · obtain ⟨l, hl, el⟩ := load_n cl.1 cl.2
    rw [if_pos cl, if_pos cl, if_pos rfl, if_neg (show ¬ (1 : Int32) = 0 by decide)]
    by_cases c2 : 0 ≤ n2 ∧ n2 ≤ 1
    · rw [if_neg (show ¬ n2 < 0 by have := c2.1; grind), if_pos c2.2, if_pos c2, if_neg (show ¬ (1 : Int32) = 0 by decide), ek, el, jn10_e]
      obtain ⟨crew', mi', oa', wh', wm', rs', g1, g2⟩ := c_wait hB e0 e3 hP hH hF hWB (k := k) (by omega) hl crew mi oa wh wm rs
      obtain ⟨hh, mm, e', bm', bo', w', a', pl', best', fr', f1, f2⟩ := m_wait (K := fun y3 y4 e bm bo w a pl best fr => if n2 = 0 then some (y3, 0, e, bm, bo, w, a, pl, best, fr) else some (y4, 0, e, bm, bo, w, a, pl, best, fr)) (e := e) (bm := bm) (bo := bo) (w := w) (a := a) (pl := pl) (best := best) (fr := fr) ht hs hN e0 e3 hP hH (k := k) (by omega) ek hl
      rw [g1, bn7_some]
      rcases g2 with ⟨h1, h2⟩ | ⟨h1, h2, h3⟩
      · obtain ⟨-, i2, i3⟩ := f2.resolve_right (fun z => z.1 h1)
        rw [i2, i3] at f1
        rw [if_pos h1, if_pos rfl]
        by_cases c3 : n2 = 0
        · rw [if_pos c3] at f1
          exact ⟨_, _, _, _, _, _, _, _, _, _, _, _, _, _, _, rfl, f1⟩
        · rw [if_neg c3] at f1
          exact ⟨_, _, _, _, _, _, _, _, _, _, _, _, _, _, _, rfl, f1⟩
      · obtain ⟨-, i2, i3⟩ := f2.resolve_left (fun z => h1 z.1)
        rw [i2, i3] at f1
        rw [if_neg h1, if_neg (show ¬ (1 : Int32) = 0 by decide), h2, h3]
        by_cases c3 : n2 = 0
        · rw [if_pos c3] at f1
          rw [if_pos c3]
          exact ⟨_, _, _, _, _, _, _, _, _, _, _, _, _, _, _, rfl, f1⟩
        · rw [if_neg c3] at f1
          rw [if_neg c3]
          exact ⟨_, _, _, _, _, _, _, _, _, _, _, _, _, _, _, rfl, f1⟩
    · rw [if_neg c2, if_pos rfl]
      by_cases c3 : n2 < 0
      · rw [if_pos c3]; exact ⟨_, _, _, _, _, _, _, _, _, _, _, _, _, _, _, rfl, rfl⟩
      · rw [if_neg c3, if_neg (show ¬ n2 ≤ 1 by grind)]; exact ⟨_, _, _, _, _, _, _, _, _, _, _, _, _, _, _, rfl, rfl⟩
  · rw [if_neg cl, if_neg cl, if_neg (show ¬ (1 : Int32) = 0 by decide), if_pos rfl]
    exact ⟨_, _, _, _, _, _, _, _, _, _, _, _, _, _, _, rfl, rfl⟩
