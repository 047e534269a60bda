/-! PURE SIDE: times told, the reference; judge, pulls, sham of both -/
theorem wr_at {times : Nat → Int32} {k : Nat} (hk : k < 10) (K : (Nat → Int32) → Option (Int32 × Int32 × (Nat → Int32) × (Nat → Int32) × (Nat → Int32))) (a : Nat → Int32) : lq2 (B_X9_wrongOne_3 K (nI k) times) fu 0 a = K (fA 0 3 (fun p _ => times (5 * k + p)) a) := by
  refine fillL 0 3 (fun p _ => times (5 * k + p)) (by omega) (fun rec p w hp => ?_) (fun rec w => ?_) a
  · have e1 : (5 : Int32) * nI k + nI p = nI (5 * k + p) := by rw [lit_n 5, pk_mul, nI_add]
    unfold B_X9_wrongOne_3
    rw [if_neg (show ¬ (3 : Int32) ≤ nI p from nI_ge (b := 3) hp (by decide)), e1, if_neg (idx_ok rfl (by omega) (by decide)), if_neg (idx_ok rfl (by omega) (by decide)), nI_1, nI_clamp (by omega), nI_clamp (by omega), Nat.zero_add]
  · unfold B_X9_wrongOne_3
    rw [if_pos (by decide)]
theorem wr_w {t : Nat → Int32} (ht : TW t) (K : (Nat → Int32) → Option (Int32 × Int32 × (Nat → Int32) × (Nat → Int32) × (Nat → Int32))) (w : Nat → Int32) : lq2 (B_X9_wrongOne_2 K t) fu 0 w = K (fA 0 6 (fun h _ => if t 3 ≤ nI h then 0 else t (8 + 4 * h + 1)) w) := by
  refine fillL 0 6 (fun h _ => if t 3 ≤ nI h then 0 else t (8 + 4 * h + 1)) (by omega) (fun rec h w hh => ?_) (fun rec w => ?_) w
  · have e1 : (8 : Int32) + 4 * nI h + 1 = nI (8 + 4 * h + 1) := by rw [lit_n 8, lit_n 4, pk_mul, nI_add, nI_1]
    have q3 : t (Int32.toNatClampNeg 3) = t 3 := rfl
    unfold B_X9_wrongOne_2
    simp only [jn1_d]
    rw [if_neg (show ¬ (6 : Int32) ≤ nI h from nI_ge (b := 6) hh (by decide)), e1, q3, if_neg (idx_ok (k := 8 + 4 * h + 1) rfl (by omega) (by decide)), nI_1, Nat.zero_add]
    by_cases c : t 3 ≤ nI h
    · rw [if_pos c, if_pos c, if_neg (idx_ok (k := h) rfl hh (by decide)), nI_clamp (n := h) (by omega)]
    · rw [if_neg c, if_neg c, if_neg (idx_ok (k := h) rfl hh (by decide)), nI_clamp (n := h) (by omega), nI_clamp (n := 8 + 4 * h + 1) (by omega)]
  · unfold B_X9_wrongOne_2
    rw [if_pos (by decide)]
theorem pullP_ext {t a b : Nat → Int32} {half : Int32} (h : ∀ p, p < 3 → b p = a p) {p : Nat} (hp : p < 3) : pullP t b half p = pullP t a half p := by
  have hm : ∀ g q : Nat, moodP t b g q = moodP t a g q := fun g q => by
    unfold moodP
    by_cases c : q < 3
    · rw [h q c]
    · rw [if_neg (fun z => c z.1), if_neg (fun z => c z.1)]
  unfold pullP
  rw [h p hp]
  simp only [hm]
theorem cMin_a {law : Int32} {br push : Int} {a b w : Nat → Int32} {q q' : Nat → Int} (h : ∀ p, p < 3 → b p = a p) (hq : ∀ p, p < 3 → q' p = q p) : cMin law br b q' w push = cMin law br a q w push := by
  have hx : ∀ m p, p < 3 → cx b q' w m p = cx a q w m p := fun m p hp => by unfold cx; rw [h p hp, hq p hp]
  have hP : ∀ m, cPace law b (cx b q' w m) = cPace law a (cx a q w m) := fun m => by
    unfold cPace cLeast cCnt
    rw [hx m 0 (by decide), hx m 1 (by decide), hx m 2 (by decide), h 0 (by decide), h 1 (by decide), h 2 (by decide)]
  have hC : ∀ m, cCome law b q' w push m = cCome law a q w push m := fun m => by
    induction m with
    | zero => rfl
    | succ m ih => rw [cCome_s, cCome_s, ih, hP]
  unfold cMin
  rw [show cCome law b q' w push = cCome law a q w push from funext hC]
theorem cEat_a {a b w : Nat → Int32} {q q' : Nat → Int} {m : Nat} (h : ∀ p, p < 3 → b p = a p) (hq : ∀ p, p < 3 → q' p = q p) : cEat b q' w m = cEat a q w m := by
  unfold cEat cE1
  rw [h 0 (by decide), h 1 (by decide), h 2 (by decide), hq 0 (by decide), hq 1 (by decide), hq 2 (by decide)]
theorem DIST_ext {a b : Nat → Int32} (h : ∀ p, p < 3 → b p = a p) (hd : DIST a) : DIST b := by
  unfold DIST at *
  rw [h 0 (by decide), h 1 (by decide), h 2 (by decide)]; exact hd
theorem CREW_ext {t a b : Nat → Int32} (h : ∀ p, p < 3 → b p = a p) (hc : CREW t a) : CREW t b := fun p hp => by rw [h p hp]; exact hc p hp
theorem wr_eq (many e0 half : Int32) (t times w a pl : Nat → Int32) : f_X9_wrongOne many e0 half t times w a pl = lq5 (B_X9_wrongOne_1 many (fun e w a p => some ((-1 : Int32), e, w, a, p)) times half t) fu 0 e0 w a pl := by
  unfold f_X9_wrongOne
  rw [jn4_e]
  rfl
theorem m_wrong {count many half e0 : Int32} {t who hours minutes times str w a pl : Nat → Int32} {N : Nat} [DecidablePred (tBad t who hours minutes str half)]
    (ht : TW t) (hs : TS t) (hM : RM count who hours minutes many times t) (eN : count = nI N) (hN10 : N ≤ 10) (hstr : ∀ h, h < (t 3).toNatClampNeg → t (8 + 4 * h + 1) = str h) :
    ∃ (e' : Int32) (w' a' pl' : Nat → Int32), f_X9_wrongOne many e0 half t times w a pl = some (fWr (tBad t who hours minutes str half) N 0, e', w', a', pl') := by
  obtain ⟨⟨hmc, hc0, hc10⟩, hR⟩ := hM
  rw [wr_eq]
  subst hmc
  subst eN
  obtain ⟨H, h6, e3, eH⟩ := hor_n ht
  refine lq5_inv (fun k y e w a pl => y = nI k ∧ fWr (tBad t who hours minutes str half) N 0 = fWr (tBad t who hours minutes str half) (N - k) k) (fun o => ∃ (e' : Int32) (w' a' pl' : Nat → Int32), o = some (fWr (tBad t who hours minutes str half) N 0, e', w', a', pl')) N ?_ ?_ fu 0 0 e0 w a pl (by omega) (by unfold fu; omega) ⟨rfl, rfl⟩
  · rintro rec k y e w a pl hk ⟨rfl, hf⟩
    obtain ⟨r1, r2, r3, ⟨r4, r40, r41⟩, ⟨r5, r50, r51⟩⟩ := hR k (by rw [nI_clamp (by omega)]; exact hk)
    have ha1 : ∀ p, p < 3 → fA 0 3 (fun p _ => times (5 * k + p)) a p = who (3 * k + p) := fun p hp => by rw [fA_0 hp]; exact r1 p hp
    have hcr0 : CREW t (fun p => who (3 * k + p)) := STND_CREW ht r2
    have hcr : CREW t (fA 0 3 (fun p _ => times (5 * k + p)) a) := CREW_ext ha1 hcr0
    have hdi : DIST (fA 0 3 (fun p _ => times (5 * k + p)) a) := DIST_ext ha1 (STND_DIST r2)
    have hw1 : ∀ h, h < (t 3).toNatClampNeg → fA 0 6 (fun h _ => if t 3 ≤ nI h then 0 else t (8 + 4 * h + 1)) w h = str h := fun h hh => by
      rw [fA_0 (by omega), if_neg, hstr h hh]
      rw [e3]; exact nI_ge (by omega) (by omega)
    have hWB : WB t (fA 0 6 (fun h _ => if t 3 ≤ nI h then 0 else t (8 + 4 * h + 1)) w) := fun h hh => by
      rw [hw1 h hh, ← hstr h hh]
      have := hs h hh
      omega
    obtain ⟨kh, hkh, ekh, ekhI⟩ := hour_n r40
    obtain ⟨pl', hx⟩ := e_crosses (half := half) (load := 0) ht hcr hdi (WB_ok hs hWB hcr) hkh (by omega) e pl
    have e53 : (5 : Int32) * nI k + 3 = nI (5 * k + 3) := by rw [lit_n 5, pk_mul]; exact nI_add _ 3
    have e54 : (5 : Int32) * nI k + 4 = nI (5 * k + 4) := by rw [lit_n 5, pk_mul]; exact nI_add _ 4
    have hMM : cMin (t 1) (t 2).toInt (fA 0 3 (fun p _ => times (5 * k + p)) a) (pullP t (fA 0 3 (fun p _ => times (5 * k + p)) a) half) (fA 0 6 (fun h _ => if t 3 ≤ nI h then 0 else t (8 + 4 * h + 1)) w) (tideS t kh - 0) = cMin (t 1) (t 2).toInt (fun p => who (3 * k + p)) (pullP t (fun p => who (3 * k + p)) half) str (tideS t kh) := by
      rw [cMin_a ha1 (fun p hp => pullP_ext ha1 hp), cMin_ext hcr0 (show WEQ t _ str from hw1), Int.sub_zero]
    have hbad : tBad t who hours minutes str half k ↔ ¬ nI (cMin (t 1) (t 2).toInt (fA 0 3 (fun p _ => times (5 * k + p)) a) (pullP t (fA 0 3 (fun p _ => times (5 * k + p)) a) half) (fA 0 6 (fun h _ => if t 3 ≤ nI h then 0 else t (8 + 4 * h + 1)) w) (tideS t kh - 0)) = times (5 * k + 4) := by
      unfold tBad
      rw [hMM, ekh, nI_clamp (by omega), r5]
    unfold B_X9_wrongOne_1
    rw [if_neg (nI_ge hk (by omega)), jn1_d]
    change _ ∨ ∃ e' w' a' pl', lq2 (B_X9_wrongOne_3 _ (nI k) times) fu 0 a = _
    have key : ∀ (Z : Option (Int32 × Int32 × (Nat → Int32) × (Nat → Int32) × (Nat → Int32)) → Prop) (K3 : (Nat → Int32) → (Nat → Int32) → Option (Int32 × Int32 × (Nat → Int32) × (Nat → Int32) × (Nat → Int32))), Z (K3 (fA 0 3 (fun p _ => times (5 * k + p)) a) (fA 0 6 (fun h _ => if t 3 ≤ nI h then 0 else t (8 + 4 * h + 1)) w)) → Z (lq2 (B_X9_wrongOne_3 (fun a3 => jn1 (K3 a3) (fun K => lq2 (B_X9_wrongOne_2 K t) fu 0 w)) (nI k) times) fu 0 a) := by
      intro Z K3 hZ
      rw [wr_at (by omega), jn1_d, wr_w ht]
      exact hZ
    refine key (fun o => (∃ b1 b2 b3 b4 b5, (b1 = nI (k + 1) ∧ fWr (tBad t who hours minutes str half) N 0 = fWr (tBad t who hours minutes str half) (N - (k + 1)) (k + 1)) ∧ o = rec b1 b2 b3 b4 b5) ∨ ∃ e' w' a' pl', o = some (fWr (tBad t who hours minutes str half) N 0, e', w', a', pl')) _ ?_
    have hx' : f_X9_crosses (nI kh) 0 e half t (fA 0 6 (fun h _ => if t 3 ≤ nI h then 0 else t (8 + 4 * h + 1)) w) (fA 0 3 (fun p _ => times (5 * k + p)) a) pl = _ := hx
    rw [e53, e54, if_neg (idx_ok (k := 5 * k + 3) rfl (by omega) (by decide)), nI_clamp (n := 5 * k + 3) (by omega), r4, ekh, hx', bn4_some, if_neg (idx_ok (k := 5 * k + 4) rfl (by omega) (by decide)), nI_clamp (n := 5 * k + 4) (by omega), nI_1]
    by_cases cb : tBad t who hours minutes str half k
    · right
      rw [if_neg (hbad.mp cb)]
      rw [hf, fWr_s (by omega), if_pos cb]
      exact ⟨_, _, _, _, rfl⟩
    · left
      rw [if_pos (Classical.byContradiction (fun z => cb (hbad.mpr z)))]
      refine ⟨_, _, _, _, _, ⟨rfl, ?_⟩, rfl⟩
      rw [hf, fWr_s (by omega), if_neg cb, show N - (k + 1) = N - k - 1 by omega]
  · rintro rec y e w a pl ⟨rfl, hf⟩
    unfold B_X9_wrongOne_1
    rw [if_pos (Int32.le_refl _)]
    refine ⟨e, w, a, pl, ?_⟩
    rw [hf, Nat.sub_self]
    rfl
theorem cnt_n {count : Int32} (h0 : 0 ≤ count) (h : count ≤ 10) : ∃ N : Nat, N ≤ 10 ∧ count = nI N := by
  obtain ⟨m, hm, em⟩ := nI_of2 (M := 10) (n := 10) rfl (x := count) (by grind) h
  exact ⟨m, hm, em⟩
theorem m_judge {law places broad horses blinds tideN count many e0 th : Int32} {pull str back moods tides t who hours minutes times cwho cp w a pl : Nat → Int32}
    (hB : BT law places broad horses blinds tideN pull str back moods tides t) (hM : RM count who hours minutes many times t) :
    ∃ (rr : Int32) (W P : Nat → Int32) (e' : Int32) (w' a' pl' : Nat → Int32), f_X8_judge law broad horses blinds tideN pull str moods tides cwho cp count who hours minutes = some (rr, W, P) ∧ f_X9_judge th many e0 (-1) t times w a pl = some (rr, 0, e', w', a', pl') ∧ ∀ k : Nat, 3 ≤ k → W k = cwho k ∧ P k = cp k := by
  have hB0 := hB
  obtain ⟨ht, hs, hSB, hPB, hCT, hlaw, ht1, ht2, hbr, ht0, hpl⟩ := hB
  obtain ⟨N, hN, eN⟩ := cnt_n hM.1.2.1 hM.1.2.2
  have : DecidablePred (tBad t who hours minutes str (-1)) := fun _ => Classical.propDecidable _
  obtain ⟨W, P, h1, h2⟩ := m_cfirst (n1 := -1) (n2 := 0) (half := -1) (t' := t) (cwho := cwho) (cp := cp) hB0 hM eN hN rfl rfl rfl (fun _ => rfl) ht (fun a W P ha hd hr => by
    rw [if_pos rfl]; exact adj_half ht ha hd hr (Or.inl rfl))
  obtain ⟨e', w', a', pl', h3⟩ := m_wrong (half := -1) (e0 := e0) (w := w) (a := a) (pl := pl) ht hs hM eN hN (fun h hh => (hSB h hh).1)
  refine ⟨fWr (tBad t who hours minutes str (-1)) N 0, W, P, e', w', a', pl', ?_, ?_, h2⟩
  · unfold f_X8_judge; rw [h1, bn3_some]
  · unfold f_X9_judge; rw [h3, bn5_some]
/-- a set by answers -/
def setS (r : Nat → Int32) (sh : Nat → Int32) : Nat → Int32
  | 0 => 0
  | k + 1 => if r k = -1 then setS r sh k ||| ((1 : Int32) <<< (sh k)) else setS r sh k
theorem setS_m (r sh : Nat → Int32) (k : Nat) : (setS r sh k ||| if r k = -1 then (1 : Int32) <<< (sh k) else 0) = setS r sh (k + 1) := by
  show _ = if r k = -1 then setS r sh k ||| ((1 : Int32) <<< (sh k)) else setS r sh k
  by_cases c : r k = -1
  · rw [if_pos c, if_pos c]
  · rw [if_neg c, if_neg c, Int32.or_zero]
theorem m_sham {law places broad horses blinds tideN count many e0 th : Int32} {pull str back moods tides t who hours minutes times cwho cp w a pl : Nat → Int32}
    (hB : BT law places broad horses blinds tideN pull str back moods tides t) (hM : RM count who hours minutes many times t) :
    ∃ (rr : Int32) (W P : Nat → Int32) (e' : Int32) (w' a' pl' : Nat → Int32), f_X8_sham law broad horses blinds tideN pull str moods tides cwho cp count who hours minutes = some (rr, W, P) ∧ f_X9_sham th many e0 (-1) t times w a pl = some (rr, 0, e', -1, w', a', pl') ∧ ∀ k : Nat, 3 ≤ k → W k = cwho k ∧ P k = cp k := by
  have hB0 := hB
  obtain ⟨ht, hs, hSB, hPB, hCT, hlaw, ht1, ht2, hbr, ht0, hpl⟩ := hB
  obtain ⟨N, hN, eN⟩ := cnt_n hM.1.2.1 hM.1.2.2
  obtain ⟨H, h6, e3, eH⟩ := hor_n ht
  have hdec : ∀ half, DecidablePred (tBad t who hours minutes str half) := fun half _ => Classical.propDecidable _
  let r : Nat → Int32 := fun h => fWr (tBad t who hours minutes str (nI h)) N 0
  let sh : Nat → Int32 := fun h => nI h &&& 31
  have eh : horses = nI H := hPB.1.trans e3
  have hC : ∃ (W P : Nat → Int32), f_X8_sham law broad horses blinds tideN pull str moods tides cwho cp count who hours minutes = some (setS r sh H, W, P) ∧ ∀ k : Nat, 3 ≤ k → W k = cwho k ∧ P k = cp k := by
    unfold f_X8_sham
    rw [jn3_d]
    refine lq4_inv (fun k x y W P => x = setS r sh k ∧ y = nI k ∧ ∀ k : Nat, 3 ≤ k → W k = cwho k ∧ P k = cp k) (fun o => ∃ (W P : Nat → Int32), o = some (setS r sh H, W, P) ∧ ∀ k : Nat, 3 ≤ k → W k = cwho k ∧ P k = cp k) H ?_ ?_ fu 0 0 0 cwho cp (by omega) (by unfold fu; omega) ⟨rfl, rfl, fun _ _ => ⟨rfl, rfl⟩⟩
    · rintro rec k x y W P hk ⟨rfl, rfl, hWP⟩
      obtain ⟨W1, P1, h1, h2⟩ := m_cfirst (n1 := nI k) (n2 := 0) (half := nI k) (t' := t) (cwho := W) (cp := P) hB0 hM eN hN rfl rfl rfl (fun _ => rfl) ht (fun a W P ha hd hr => by
        rw [if_pos rfl]; exact adj_half ht ha hd hr (Or.inr ⟨k, by omega, rfl⟩))
      refine Or.inl ⟨setS r sh (k + 1), nI (k + 1), W1, P1, ⟨rfl, rfl, fun j hj => ⟨(h2 j hj).1.trans (hWP j hj).1, (h2 j hj).2.trans (hWP j hj).2⟩⟩, ?_⟩
      have hk2 : ¬ horses ≤ nI k := by rw [eh]; exact nI_ge hk (by omega)
      rw [if_neg hk2, h1, bn3_some, jn1_if, nI_1]
      rfl
    · rintro rec x y W P ⟨rfl, rfl, hWP⟩
      have hk2 : horses ≤ nI H := by rw [eh]; exact Int32.le_refl _
      rw [if_pos hk2]
      exact ⟨W, P, rfl, hWP⟩
  have hMo : ∃ (e' : Int32) (w' a' pl' : Nat → Int32), f_X9_sham th many e0 (-1) t times w a pl = some (setS r sh H, 0, e', -1, w', a', pl') := by
    unfold f_X9_sham
    rw [jn6_e]
    refine lq7_inv (fun k x y e hf w a pl => x = setS r sh k ∧ y = nI k) (fun o => ∃ (e' : Int32) (w' a' pl' : Nat → Int32), o = some (setS r sh H, 0, e', -1, w', a', pl')) H ?_ ?_ fu 0 0 0 e0 (-1) w a pl (by omega) (by unfold fu; omega) ⟨rfl, rfl⟩
    · rintro rec k x y e hf w a pl hk ⟨rfl, rfl⟩
      obtain ⟨e', w', a', pl', h3⟩ := m_wrong (half := nI k) (e0 := e) (w := w) (a := a) (pl := pl) ht hs hM eN hN (fun h hh => (hSB h hh).1)
      refine Or.inl ⟨setS r sh (k + 1), nI (k + 1), e', nI k, w', a', pl', ⟨rfl, rfl⟩, ?_⟩
      have hk2 : ¬ t (Int32.toNatClampNeg 3) ≤ nI k := by show ¬ t 3 ≤ nI k; rw [e3]; exact nI_ge hk (by omega)
      rw [if_neg hk2, h3, bn5_some, jn1_if, nI_1, ← setS_m]
    · rintro rec x y e hf w a pl ⟨rfl, rfl⟩
      have hk2 : t (Int32.toNatClampNeg 3) ≤ nI H := by show t 3 ≤ nI H; rw [e3]; exact Int32.le_refl _
      rw [if_pos hk2]
      exact ⟨e, w, a, pl, rfl⟩
  obtain ⟨W, P, h1, h2⟩ := hC
  obtain ⟨e', w', a', pl', h3⟩ := hMo
  exact ⟨_, W, P, e', w', a', pl', h1, h3, h2⟩
theorem upd_upd (f : Nat → Int32) (k : Nat) (x y : Int32) : upd (upd f k x) k y = upd f k y := by
  funext j
  rw [upd_at, upd_at, upd_at]
  by_cases c : j = k
  · rw [if_pos c, if_pos c]
  · rw [if_neg c, if_neg c, if_neg c]
theorem RM_t {count many : Int32} {who hours minutes times t t' : Nat → Int32} (h0 : t' 0 = t 0) (h3 : t' 3 = t 3) (hM : RM count who hours minutes many times t) : RM count who hours minutes many times t' := by
  unfold RM at *
  rw [h0, h3]; exact hM
theorem m_pulls {law places broad horses blinds tideN count many e0 th n1 : Int32} {pull str back moods tides t who hours minutes times cwho cp w a pl : Nat → Int32}
    (hB : BT law places broad horses blinds tideN pull str back moods tides t) (hM : RM count who hours minutes many times t) :
    ∃ (rr : Int32) (W P : Nat → Int32) (e' : Int32) (w' a' pl' : Nat → Int32), f_X8_pulls n1 law broad horses blinds tideN pull str moods tides cwho cp count who hours minutes = some (rr, W, P) ∧ f_X9_pulls n1 th many e0 (-1) t times w a pl = some (rr, 0, e', t, w', a', pl') ∧ ∀ k : Nat, 3 ≤ k → W k = cwho k ∧ P k = cp k := by
  have hB0 := hB
  obtain ⟨ht, hs, hSB, hPB, hCT, hlaw, ht1, ht2, hbr, ht0, hpl⟩ := hB
  obtain ⟨N, hN, eN⟩ := cnt_n hM.1.2.1 hM.1.2.2
  obtain ⟨H, h6, e3, eH⟩ := hor_n ht
  unfold f_X8_pulls f_X9_pulls
  rw [hPB.1, e_hasHorse, bn1_some, e_isHorse _ _ ht.1.1, bn1_some]
  by_cases c : 0 ≤ n1 ∧ n1 < t 3
  · obtain ⟨h, hh, hhH, eh⟩ := (hor_c ht n1).2 c
    rw [if_pos ((hor_c ht n1).1.mpr c), if_pos c, if_neg (show ¬ (1 : Int32) = 0 by decide), if_neg (show ¬ (1 : Int32) = 0 by decide)]
    subst eh
    have e8 : (8 : Int32) + 4 * nI h = nI (8 + 4 * h) := by rw [lit_n 8, lit_n 4, pk_mul, nI_add]
    rw [e8, if_neg (idx_ok (k := 8 + 4 * h) rfl (by omega) (by decide)), nI_clamp (n := 8 + 4 * h) (by omega), jn3_d, jn6_e]
    have hdec : ∀ o, DecidablePred (tBad (upd t (8 + 4 * h) o) who hours minutes str (-1)) := fun o _ => Classical.propDecidable _
    let r : Nat → Int32 := fun k => fWr (tBad (upd t (8 + 4 * h) (nI (k + 1))) who hours minutes str (-1)) N 0
    let sh : Nat → Int32 := fun k => (nI (k + 1) - 1) &&& 31
    have hstep : ∀ k : Nat, k < 30 → TW (upd t (8 + 4 * h) (nI (k + 1))) ∧ TS (upd t (8 + 4 * h) (nI (k + 1))) ∧ RM count who hours minutes many times (upd t (8 + 4 * h) (nI (k + 1))) ∧ (∀ x, tideS (upd t (8 + 4 * h) (nI (k + 1))) x = tideS t x) ∧ (1 ≤ nI (k + 1) ∧ nI (k + 1) ≤ 30) := fun k hk => by
      have ho : 1 ≤ nI (k + 1) ∧ nI (k + 1) ≤ 30 := ⟨nI_le (a := 1) (by omega) (by omega), nI_le (b := 30) (by omega) (by decide)⟩
      refine ⟨TW_upd ht hh ho, fun g hg => ?_, RM_t (upd_n (by omega)) (upd_n (by omega)) hM, fun x => ?_, ho⟩
      · rw [upd_n (by omega)] at hg
        rw [upd_n (by omega), upd_n (by omega)]
        exact hs g hg
      · unfold tideS
        rw [upd_n (by omega), upd_n (by omega)]
    have hC : ∃ (W P : Nat → Int32), lq4 (B_X8_pulls_1 (fun y W P => some (y, W, P)) (nI h) count who hours minutes law broad (t 3) blinds tideN pull str moods tides) fu 0 1 cwho cp = some (setS r sh 30, W, P) ∧ ∀ k : Nat, 3 ≤ k → W k = cwho k ∧ P k = cp k := by
      refine lq4_inv (fun k x y W P => x = setS r sh k ∧ y = nI (k + 1) ∧ ∀ k : Nat, 3 ≤ k → W k = cwho k ∧ P k = cp k) (fun o => ∃ (W P : Nat → Int32), o = some (setS r sh 30, W, P) ∧ ∀ k : Nat, 3 ≤ k → W k = cwho k ∧ P k = cp k) 30 ?_ ?_ fu 0 0 1 cwho cp (by omega) (by unfold fu; omega) ⟨rfl, rfl, fun _ _ => ⟨rfl, rfl⟩⟩
      · rintro rec k x y W P hk ⟨rfl, rfl, hWP⟩
        obtain ⟨g1, g2, g3, g4, g5⟩ := hstep k hk
        have hne : ¬ nI (k + 1) = 0 := nI_ne0 (by omega) (by omega)
        obtain ⟨W1, P1, h1, h2⟩ := m_cfirst (n1 := nI h) (n2 := nI (k + 1)) (half := -1) (t' := upd t (8 + 4 * h) (nI (k + 1))) (cwho := W) (cp := P) hB0 hM eN hN (upd_n (by omega)) (upd_n (by omega)) (upd_n (by omega)) g4 g1 (fun a W P ha hd hr => by
          rw [if_neg hne]; exact adj_oth ht ha hd hPB hr hh hhH g5)
        refine Or.inl ⟨setS r sh (k + 1), nI (k + 1 + 1), W1, P1, ⟨rfl, rfl, fun j hj => ⟨(h2 j hj).1.trans (hWP j hj).1, (h2 j hj).2.trans (hWP j hj).2⟩⟩, ?_⟩
        rw [hPB.1] at h1
        unfold B_X8_pulls_1
        rw [if_neg (show ¬ (30 : Int32) < nI (k + 1) from nI_nlt (a := 30) (by omega) (by decide)), h1, bn3_some, jn1_if, nI_1 (k + 1)]
        rfl
      · rintro rec x y W P ⟨rfl, rfl, hWP⟩
        unfold B_X8_pulls_1
        rw [if_pos (by decide)]
        exact ⟨W, P, rfl, hWP⟩
    have hMo : ∃ (e' : Int32) (w' a' pl' : Nat → Int32), lq7 (B_X9_pulls_1 (fun y e t' w a p => some (y, (0 : Int32), e, upd t' (8 + 4 * h) (t (8 + 4 * h)), w, a, p)) many (-1) (nI h) times) fu 0 1 e0 t w a pl = some (setS r sh 30, 0, e', t, w', a', pl') := by
      refine lq7_inv (fun k x y e t' w a pl => x = setS r sh k ∧ y = nI (k + 1) ∧ ∃ o, t' = upd t (8 + 4 * h) o) (fun o => ∃ (e' : Int32) (w' a' pl' : Nat → Int32), o = some (setS r sh 30, 0, e', t, w', a', pl')) 30 ?_ ?_ fu 0 0 1 e0 t w a pl (by omega) (by unfold fu; omega) ⟨rfl, rfl, _, (upd_self t _).symm⟩
      · rintro rec k x y e t' w a pl hk ⟨rfl, rfl, o, rfl⟩
        obtain ⟨g1, g2, g3, g4, g5⟩ := hstep k hk
        obtain ⟨e', w', a', pl', h3⟩ := m_wrong (str := str) (half := -1) (e0 := e) (w := w) (a := a) (pl := pl) g1 g2 g3 eN hN (fun g hg => by
          rw [upd_n (by omega)] at hg
          rw [upd_n (by omega)]; exact (hSB g hg).1)
        refine Or.inl ⟨setS r sh (k + 1), nI (k + 1 + 1), e', upd t (8 + 4 * h) (nI (k + 1)), w', a', pl', ⟨rfl, rfl, _, rfl⟩, ?_⟩
        unfold B_X9_pulls_1
        rw [if_neg (show ¬ (31 : Int32) ≤ nI (k + 1) from nI_ge (b := 31) (by omega) (by decide)), e8, nI_clamp (n := 8 + 4 * h) (by omega), upd_upd, h3, bn5_some, jn1_if, nI_1 (k + 1), ← setS_m]
      · rintro rec x y e t' w a pl ⟨rfl, rfl, o, rfl⟩
        unfold B_X9_pulls_1
        rw [if_pos (by decide)]
        refine ⟨e, w, a, pl, ?_⟩
        dsimp only
        rw [upd_upd, upd_self]
    obtain ⟨W, P, h1, h2⟩ := hC
    obtain ⟨e', w', a', pl', h3⟩ := hMo
    refine ⟨_, W, P, e', w', a', pl', h1, ?_, h2⟩
    unfold B_X9_pulls_1 at h3
    rw [e8, nI_clamp (n := 8 + 4 * h) (by omega)] at h3
    exact h3
  · rw [if_neg (fun z => c ((hor_c ht n1).1.mp z)), if_neg c, if_pos rfl, if_pos rfl]
    exact ⟨_, _, _, _, _, _, _, rfl, rfl, fun k _ => ⟨rfl, rfl⟩⟩
