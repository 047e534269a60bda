/-! PURE SIDE: times told: judge, pulls, sham -/
theorem minB_eq (n1 n3 n4 law broad : Int32) (who pull str : Nat → Int32) : f_X2_minutesBbstrength n1 n3 n4 who pull law broad str = f_X2_minutes n1 n3 n4 who pull law broad str := rfl
/-- the first of k, k + 1 .. (d of them) that is bad; NONE -/
def fWr (bad : Nat → Prop) [DecidablePred bad] : Nat → Nat → Int32
  | 0, _ => -1
  | d + 1, k => if bad k then nI k else fWr bad d (k + 1)
theorem fWr_s {bad : Nat → Prop} [DecidablePred bad] {d k : Nat} (h : 0 < d) : fWr bad d k = if bad k then nI k else fWr bad (d - 1) (k + 1) := by
  obtain ⟨d, rfl⟩ : ∃ x, d = x + 1 := ⟨d - 1, by omega⟩
  rfl
theorem due_iff {M : Nat} {mn : Int32} (hM : M ≤ 120) (h0 : 0 ≤ mn) (h1 : mn ≤ 120) : (jI (mAns M 120) = (if mn = 0 then -1 else mn)) ↔ nI M = mn := by
  obtain ⟨g1, g2, g3⟩ := mAns_120 hM
  obtain ⟨m, hm, em⟩ := nI_of2 (M := 120) (n := 120) rfl (x := mn) (by grind) h1
  subst em
  have e0 : nI m = 0 ↔ m = 0 := by rw [show (0 : Int32) = nI 0 from rfl, nI_eq (by omega) (by omega)]
  by_cases c : m = 0
  · rw [if_pos (e0.mpr c), g2, c, nI_eq (by omega) (by omega)]
  · rw [if_neg (fun z => c (e0.mp z))]
    by_cases cM : M = 0
    · rw [g2.mpr cM, cM, nI_eq (by omega) (by omega)]
      exact ⟨fun z => absurd z.symm (nI_ne (by omega)), fun z => absurd z.symm c⟩
    · rw [g3 cM]
theorem e_cplaceOf (h : Int32) (st : Nat → Int32) (hh : h ≠ -1) : f_X2_placeOf h st = some (plc st h) := by
  obtain ⟨n9, e⟩ := fu_4
  unfold f_X2_placeOf plc
  rw [e]
  simp only [jn1_d]
  rw [lq1_1, if_neg (by decide), if_neg hh, if_neg (by decide)]
  show (if st 0 = h then some 0 else _) = _
  by_cases h0 : st 0 = h
  · rw [if_pos h0, if_pos h0]
  · rw [if_neg h0, if_neg h0]
    rw [lq1_1, if_neg (by decide), if_neg hh, if_neg (by decide)]
    show (if st 1 = h then some 1 else _) = _
    by_cases h1 : st 1 = h
    · rw [if_pos h1, if_pos h1]
    · rw [if_neg h1, if_neg h1]
      rw [lq1_1, if_neg (by decide), if_neg hh, if_neg (by decide)]
      show (if st 2 = h then some 2 else _) = _
      by_cases h2 : st 2 = h
      · rw [if_pos h2, if_pos h2]
      · rw [if_neg h2, if_neg h2]
        rw [lq1_1, if_pos (by decide)]
theorem e_cplaceOf_no (st : Nat → Int32) : f_X2_placeOf (-1) st = some (-1) := by
  obtain ⟨n9, e⟩ := fu_4
  unfold f_X2_placeOf
  rw [e]
  simp only [jn1_d]
  rw [lq1_1, if_neg (by decide), if_pos trivial, lq1_1, if_neg (by decide), if_pos trivial, lq1_1, if_neg (by decide), if_pos trivial, lq1_1, if_pos (by decide)]
theorem plc_ext {st st' : Nat → Int32} {h : Int32} (e : ∀ p, p < 3 → st' p = st p) : plc st' h = plc st h := by
  unfold plc
  rw [e 0 (by decide), e 1 (by decide), e 2 (by decide)]
/-- one at j alone -/
theorem one_at {a : Nat → Int32} {x : Int32} {j p : Nat} (hd : DIST a) (hx : x ≠ -1) (hj : j < 3) (hp : p < 3) (e : a j = x) (hn : p ≠ j) : a p ≠ x := by
  unfold DIST at hd
  intro e2
  have h1 : j = 0 ∨ j = 1 ∨ j = 2 := by omega
  have h2 : p = 0 ∨ p = 1 ∨ p = 2 := by omega
  rcases h1 with rfl | rfl | rfl <;> rcases h2 with rfl | rfl | rfl <;> grind
/-- half: what the others pull stays -/
theorem half_no {t a : Nat → Int32} {x : Int32} {p : Nat} (hp : p < 3) (ha : CREW t a) (hn : a p ≠ x) : pullP t a x p = pullP t a (-1) p := by
  rcases ha p hp with e | ⟨h, h2, hh, e⟩
  · unfold pullP; rw [if_pos e, if_pos e]
  · rw [pullP_eq e hh, pullP_eq e hh, if_neg (fun z => hn (e.trans z)), if_neg (nI_ne (by omega))]
theorem half_yes {t a : Nat → Int32} {h p : Nat} (hh : h < 6) (e : a p = nI h) : pullP t a (nI h) p = pullP t a (-1) p / 2 := by
  rw [pullP_eq e hh, pullP_eq e hh, if_pos rfl, if_neg (nI_ne (by omega))]
theorem adj_half {t a W P : Nat → Int32} {x : Int32} (ht : TW t) (ha : CREW t a) (hd : DIST a) (hr : ROW W P 0 a (pullP t a (-1))) (hx : x = -1 ∨ ∃ h : Nat, h < 6 ∧ x = nI h) :
    ∃ P' : Nat → Int32, f_X2_pullHalf x W P = some P' ∧ ROW W P' 0 a (pullP t a x) ∧ ∀ k : Nat, 3 ≤ k → P' k = P k := by
  have hW : ∀ p, p < 3 → W p = a p := fun p hp => by have := (hr.2 p hp).1; rwa [show 3 * 0 + p = p by omega] at this
  have hP : ∀ p, p < 3 → P p = jI (pullP t a (-1) p) := fun p hp => by have := (hr.2 p hp).2; rwa [show 3 * 0 + p = p by omega] at this
  unfold f_X2_pullHalf
  rcases hx with rfl | ⟨h, hh, rfl⟩
  · rw [e_cplaceOf_no, bn1_some, if_pos rfl]
    exact ⟨P, rfl, hr, fun _ _ => rfl⟩
  · rw [e_cplaceOf _ _ (nI_ne (by omega)), bn1_some, plc_ext hW]
    rcases plc_c a (nI h) with ⟨e1, f0, f1, f2⟩ | ⟨j, hj, e1, e2⟩
    · rw [e1, if_pos rfl]
      refine ⟨P, rfl, ⟨hr.1, fun p hp => ⟨(hr.2 p hp).1, ?_⟩⟩, fun _ _ => rfl⟩
      rw [(hr.2 p hp).2, half_no (x := nI h) hp ha]
      match p, hp with
      | 0, _ => exact f0
      | 1, _ => exact f1
      | 2, _ => exact f2
    · rw [e1, if_neg (nI_ne (by omega)), if_neg (idx_ok rfl (by omega) (by decide)), nI_clamp (by omega)]
      refine ⟨_, rfl, ⟨hr.1, fun p hp => ⟨(hr.2 p hp).1, ?_⟩⟩, fun k hk => upd_n (by omega)⟩
      rw [show 3 * 0 + p = p by omega, upd_at]
      by_cases c : p = j
      · subst c
        have hb := pullP_b (half := -1) ht ha hp
        rw [if_pos rfl, half_yes hh e2, hP p hp, half_j hb.1 hb.2]
      · rw [if_neg c, hP p hp, half_no hp ha (one_at hd (nI_ne (by omega)) hj hp e2 c)]
theorem pull_oth {t a : Nat → Int32} {h p : Nat} {o : Int32} (hh : h < 6) (hp : p < 3) (ha : CREW t a) (hn : a p ≠ nI h) : pullP (upd t (8 + 4 * h) o) a (-1) p = pullP t a (-1) p := by
  have hm : ∀ g q : Nat, g < 6 → moodP (upd t (8 + 4 * h) o) a g q = moodP t a g q := fun g q hg => by
    unfold moodP
    rw [upd_n (by omega)]
  rcases ha p hp with e | ⟨g, h2, hg, e⟩
  · unfold pullP; rw [if_pos e, if_pos e]
  · have hgh : g ≠ h := fun z => hn (by rw [e, z])
    rw [pullP_eq e hg, pullP_eq e hg, if_neg (nI_ne (by omega)), if_neg (nI_ne (by omega))]
    unfold rawP md0
    rw [hm g (p + 1) hg, hm g (p - 1) hg, upd_n (by omega), upd_n (by omega)]
theorem TW_upd {t : Nat → Int32} {h : Nat} {o : Int32} (ht : TW t) (hh : h < 6) (ho : 1 ≤ o ∧ o ≤ 30) : TW (upd t (8 + 4 * h) o) := by
  obtain ⟨q1, q2, q3, q4, q5, q6⟩ := ht
  refine ⟨by rw [upd_n (by omega)]; exact q1, by rw [upd_n (by omega)]; exact q2, by rw [upd_n (by omega)]; exact q3, fun g hg => ?_, fun a b ha hb => by rw [upd_n (by omega)]; exact q5 a b ha hb, fun i hi => ?_⟩
  · rw [upd_n (by omega)] at hg
    rw [upd_at]
    by_cases c : 8 + 4 * g = 8 + 4 * h
    · rw [if_pos c]; exact ho
    · rw [if_neg c]; exact q4 g hg
  · rw [upd_n (by omega)] at hi
    rw [upd_n (by omega)]; exact q6 i hi
theorem e_horseAt_out {who : Nat → Int32} {x : Int32} (hx : x < 0 ∨ 3 ≤ x) : f_X2_horseAt 0 x who = some (-1) := by
  unfold f_X2_horseAt
  rw [show f_X2_isCrew 0 = some 1 from e_isCrew (c := 0) (by omega), bn1_some, if_neg (by decide)]
  by_cases c : x < 0
  · rw [if_pos c]
  · rw [if_neg c, if_pos (hx.resolve_left c)]
theorem adj_oth {t a W P pull moods : Nat → Int32} {horses blinds o : Int32} {h : Nat} (ht : TW t) (ha : CREW t a) (hd : DIST a) (hB : PB horses blinds pull moods t) (hr : ROW W P 0 a (pullP t a (-1))) (hh : h < 6) (hth : h < (t 3).toNatClampNeg) (ho : 1 ≤ o ∧ o ≤ 30) :
    ∃ P' : Nat → Int32, f_X2_pullOtherwise (nI h) o W P horses blinds pull moods = some P' ∧ ROW W P' 0 a (pullP (upd t (8 + 4 * h) o) a (-1)) ∧ ∀ k : Nat, 3 ≤ k → P' k = P k := by
  have hW : ∀ p, p < 3 → W p = a p := fun p hp => by have := (hr.2 p hp).1; rwa [show 3 * 0 + p = p by omega] at this
  have hP : ∀ p, p < 3 → P p = jI (pullP t a (-1) p) := fun p hp => by have := (hr.2 p hp).2; rwa [show 3 * 0 + p = p by omega] at this
  unfold f_X2_pullOtherwise
  rw [e_cplaceOf _ _ (nI_ne (by omega)), bn1_some, plc_ext hW]
  rcases plc_c a (nI h) with ⟨e1, f0, f1, f2⟩ | ⟨j, hj, e1, e2⟩
  · rw [e1, if_pos rfl]
    refine ⟨P, rfl, ⟨hr.1, fun p hp => ⟨(hr.2 p hp).1, ?_⟩⟩, fun _ _ => rfl⟩
    rw [(hr.2 p hp).2, pull_oth hh hp ha]
    match p, hp with
    | 0, _ => exact f0
    | 1, _ => exact f1
    | 2, _ => exact f2
  · have ht' := TW_upd ht hh ho
    have h3' : (upd t (8 + 4 * h) o) 3 = t 3 := upd_n (by omega)
    have ha' : CREW (upd t (8 + 4 * h) o) a := fun p hp => by
      rw [h3']; exact ha p hp
    have hM' : MOODS (upd t (8 + 4 * h) o) moods := fun x y hx hy => by rw [upd_n (by omega)]; exact hB.2.1 x y hx hy
    have hbf : ∃ bf, f_X2_horseAt 0 (nI j - 1) W = some bf ∧ f_X0_mood (nI h) bf moods = some (jI (md0 (upd t (8 + 4 * h) o) a h j)) := by
      unfold md0
      by_cases c : j = 0
      · subst c
        refine ⟨-1, e_horseAt_out (Or.inl (by decide)), ?_⟩
        rw [e_cmood_no hh, if_pos rfl]; rfl
      · refine ⟨a (j - 1), ?_, ?_⟩
        · rw [show nI j - 1 = nI (j - 1) from pk_sub (b := 1) (by omega)]
          exact e_horseAt (c := 0) hr (by omega)
        · rw [if_neg c, e_cmood hM' ha' hh (by omega)]
    have hbh : ∃ bh, f_X2_horseAt 0 (nI j + 1) W = some bh ∧ f_X0_mood (nI h) bh moods = some (jI (moodP (upd t (8 + 4 * h) o) a h (j + 1))) := by
      rw [nI_1]
      by_cases c : j = 2
      · subst c
        refine ⟨-1, e_horseAt_out (Or.inr (by decide)), ?_⟩
        unfold moodP
        rw [e_cmood_no hh, if_neg (by omega)]; rfl
      · refine ⟨a (j + 1), e_horseAt (c := 0) hr (by omega), ?_⟩
        rw [e_cmood hM' ha' hh (by omega)]
    obtain ⟨bf, g1, g2⟩ := hbf
    obtain ⟨bh, g3, g4⟩ := hbh
    obtain ⟨b1, b2⟩ := hB.2.2 h hth
    have o0 : ¬ o = 0 := fun z => by rw [z] at ho; exact absurd ho.1 (by decide)
    have hpb := e_pb (pull := pull) (moods := moods) (horses := horses) (blinds := blinds) (other := o) (bf := bf) (bh := bh) (p := j) ht' ha' hh (by rw [h3']; exact hth) (by rw [h3']; exact hB.1) (by rw [upd_n (by omega)]; exact b2) (by rw [if_neg o0, upd_s]) g2 g4
    rw [e1, if_neg (nI_ne (by omega)), g1, bn1_some, g3, bn1_some, hpb, bn1_some, if_neg (idx_ok rfl (by omega) (by decide)), nI_clamp (by omega)]
    refine ⟨_, rfl, ⟨hr.1, fun p hp => ⟨(hr.2 p hp).1, ?_⟩⟩, fun k hk => upd_n (by omega)⟩
    rw [show 3 * 0 + p = p by omega, upd_at]
    by_cases c : p = j
    · subst c
      rw [if_pos rfl, pullP_eq e2 hh, if_neg (nI_ne (by omega))]
    · rw [if_neg c, hP p hp, pull_oth hh hp ha (one_at hd (nI_ne (by omega)) hj hp e2 c)]
/-- a time told is otherwise, by the table t (its pulls) and half -/
def tBad (t who hours minutes str : Nat → Int32) (half : Int32) (k : Nat) : Prop := nI (cMin (t 1) (t 2).toInt (fun p => who (3 * k + p)) (pullP t (fun p => who (3 * k + p)) half) str (tideS t (hours k).toNatClampNeg)) ≠ minutes k
theorem m_cfirst {law places broad horses blinds tideN count many n1 n2 half : Int32} {pull str back moods tides t t' who hours minutes times cwho cp : Nat → Int32} {N : Nat} [DecidablePred (tBad t' who hours minutes str half)]
    (hB : BT law places broad horses blinds tideN pull str back moods tides t) (hM : RM count who hours minutes many times t) (eN : count = nI N) (hN10 : N ≤ 10) (h1 : t' 1 = t 1) (h2 : t' 2 = t 2) (h3 : t' 3 = t 3) (htd : ∀ k, tideS t' k = tideS t k) (ht' : TW t')
    (hadj : ∀ a W P, CREW t a → DIST a → ROW W P 0 a (pullP t a (-1)) → ∃ P' : Nat → Int32, (if n2 = 0 then f_X2_pullHalf n1 W P else f_X2_pullOtherwise n1 n2 W P horses blinds pull moods) = some P' ∧ ROW W P' 0 a (pullP t' a half) ∧ ∀ k : Nat, 3 ≤ k → P' k = P k) :
    ∃ W P : Nat → Int32, f_X6_firstWrong n1 n2 count who hours minutes cwho cp law broad horses blinds tideN pull str moods tides = some (fWr (tBad t' who hours minutes str half) N 0, W, P) ∧ ∀ k : Nat, 3 ≤ k → W k = cwho k ∧ P k = cp k := by
  obtain ⟨ht, hs, hSB, hPB, hCT, hlaw, ht1, ht2, hbr, ht0, hpl⟩ := hB
  obtain ⟨⟨hmc, hc0, hc10⟩, hR⟩ := hM
  subst eN
  unfold f_X6_firstWrong
  rw [jn2_d]
  refine lq3_inv (fun k y W P => y = nI k ∧ (∀ k : Nat, 3 ≤ k → W k = cwho k ∧ P k = cp k) ∧ fWr (tBad t' who hours minutes str half) N 0 = fWr (tBad t' who hours minutes str half) (N - k) k) (fun o => ∃ W P : Nat → Int32, o = some (fWr (tBad t' who hours minutes str half) N 0, W, P) ∧ ∀ k : Nat, 3 ≤ k → W k = cwho k ∧ P k = cp k) N ?_ ?_ fu 0 0 cwho cp (by omega) (by unfold fu; omega) ⟨rfl, fun _ _ => ⟨rfl, rfl⟩, rfl⟩
  · rintro rec k y W P hk ⟨rfl, hWP, hf⟩
    obtain ⟨r1, r2, r3, ⟨r4, r40, r41⟩, ⟨r5, r50, r51⟩⟩ := hR k (by rw [nI_clamp (by omega)]; exact hk)
    have hcr : CREW t (fun p => who (3 * k + p)) := STND_CREW ht r2
    have hdi : DIST (fun p => who (3 * k + p)) := STND_DIST r2
    have hcr' : CREW t' (fun p => who (3 * k + p)) := fun p hp => by rw [h3]; exact hcr p hp
    obtain ⟨W1, P1, hseat, hrow, hrest⟩ := e_seat (who := W) (cp := P) (c := 0) ht hcr hPB (by omega)
    obtain ⟨P2, hP2, hrow2, hrest2⟩ := hadj _ W1 P1 hcr hdi hrow
    obtain ⟨kh, hkh, ekh, ekhI⟩ := hour_n r40
    have hpl0 : t 0 ≠ 0 := by
      by_cases c0 : who (3 * k) = -1
      · by_cases c1 : who (3 * k + 1) = -1
        · exact STND_places r2 (p := 2) (by decide) (fun z => r3 ⟨c0, c1, z⟩)
        · exact STND_places r2 (p := 1) (by decide) c1
      · exact STND_places r2 (p := 0) (by decide) c0
    rw [ht0] at hpl0
    have hlaw1 : t' 1 = law := by rw [h1, ht1, if_neg hpl0]
    have hbr1 : 1 ≤ broad.toInt ∧ broad.toInt ≤ 999 := by
      have h2 := ht.2.1.2
      rw [ht2] at h2
      exact ⟨(i_le _ _).mp (hbr.resolve_left hpl0), (i_le _ _).mp h2⟩
    have htb := tideS_b ht kh
    have hmin := e_minutes (t := t') (u := str) (law := law) (broad := broad) (within := 120) (push := tideS t kh) hrow2 hcr' (fun p hp => pullP_b ht' hcr' hp) hlaw hbr1 (by omega) (by omega)
    have hbad : tBad t' who hours minutes str half k ↔ ¬ jI (mAns (cMin law broad.toInt (fun p => who (3 * k + p)) (pullP t' (fun p => who (3 * k + p)) half) str (tideS t kh)) 120) = (if minutes k = 0 then -1 else minutes k) := by
      unfold tBad
      rw [due_iff cMin_b r50 r51, hlaw1, h2, ht2, htd, ekh, nI_clamp (by omega)]
    have e3 : nI k * 3 = nI (3 * k) := by rw [show (3 : Int32) = nI 3 from rfl, pk_mul, Nat.mul_comm]
    have a2 : nI (3 * k) + 2 = nI (3 * k + 2) := nI_add _ 2
    have hseat' : f_X2_seat 0 (who (3 * k)) (who (3 * k + 1)) (who (3 * k + 2)) W P horses blinds pull moods = some (W1, P1) := hseat
    have hWP2 : ∀ k : Nat, 3 ≤ k → W1 k = cwho k ∧ P2 k = cp k := fun j hj => ⟨((hrest j (by omega)).1).trans (hWP j hj).1, (hrest2 j hj).trans (((hrest j (by omega)).2).trans (hWP j hj).2)⟩
    have hti : f_X0_tideOf (hours k) tideN tides = some (jI (tideS t kh)) := by rw [ekh]; exact e_ctide ht hCT hkh
    have hmin' : f_X2_minutesBbstrength 0 (jI (tideS t kh)) 120 W1 P2 law broad str = _ := hmin
    rw [if_neg (nI_ge hk (by omega)), if_neg (show ¬ (10 : Int32) ≤ nI k from nI_ge (b := 10) (by omega) (by decide)), e3, a2, nI_1 (3 * k), nI_1 k, if_neg (idx_ok (k := 3 * k) rfl (by omega) (by decide)), if_neg (idx_ok (k := 3 * k + 1) rfl (by omega) (by decide)), if_neg (idx_ok (k := 3 * k + 2) rfl (by omega) (by decide)), nI_clamp (n := 3 * k) (by omega), nI_clamp (n := 3 * k + 1) (by omega), nI_clamp (n := 3 * k + 2) (by omega), hseat', bn2_some]
    simp only [jn1_d]
    have hX : (if n2 = 0 then bn1 (f_X2_pullHalf n1 W1 P1) (fun c_pull_13 => if nI k < 0 ∨ 10 ≤ (nI k).toNatClampNeg then none else if minutes (nI k).toNatClampNeg = 0 then bn1 (f_X0_tideOf (hours (nI k).toNatClampNeg) tideN tides) (fun r_10 => bn1 (f_X2_minutesBbstrength 0 r_10 120 W1 c_pull_13 law broad str) (fun r_11 => if r_11 = -1 then rec (nI (k + 1)) W1 c_pull_13 else some (nI k, W1, c_pull_13))) else bn1 (f_X0_tideOf (hours (nI k).toNatClampNeg) tideN tides) (fun r_10 => bn1 (f_X2_minutesBbstrength 0 r_10 120 W1 c_pull_13 law broad str) (fun r_11 => if r_11 = minutes (nI k).toNatClampNeg then rec (nI (k + 1)) W1 c_pull_13 else some (nI k, W1, c_pull_13))))
        else bn1 (f_X2_pullOtherwise n1 n2 W1 P1 horses blinds pull moods) (fun c_pull_13 => if nI k < 0 ∨ 10 ≤ (nI k).toNatClampNeg then none else if minutes (nI k).toNatClampNeg = 0 then bn1 (f_X0_tideOf (hours (nI k).toNatClampNeg) tideN tides) (fun r_10 => bn1 (f_X2_minutesBbstrength 0 r_10 120 W1 c_pull_13 law broad str) (fun r_11 => if r_11 = -1 then rec (nI (k + 1)) W1 c_pull_13 else some (nI k, W1, c_pull_13))) else bn1 (f_X0_tideOf (hours (nI k).toNatClampNeg) tideN tides) (fun r_10 => bn1 (f_X2_minutesBbstrength 0 r_10 120 W1 c_pull_13 law broad str) (fun r_11 => if r_11 = minutes (nI k).toNatClampNeg then rec (nI (k + 1)) W1 c_pull_13 else some (nI k, W1, c_pull_13)))))
        = if tBad t' who hours minutes str half k then some (nI k, W1, P2) else rec (nI (k + 1)) W1 P2 := by
      have hcore : (if nI k < 0 ∨ 10 ≤ (nI k).toNatClampNeg then none else if minutes (nI k).toNatClampNeg = 0 then bn1 (f_X0_tideOf (hours (nI k).toNatClampNeg) tideN tides) (fun r_10 => bn1 (f_X2_minutesBbstrength 0 r_10 120 W1 P2 law broad str) (fun r_11 => if r_11 = -1 then rec (nI (k + 1)) W1 P2 else some (nI k, W1, P2))) else bn1 (f_X0_tideOf (hours (nI k).toNatClampNeg) tideN tides) (fun r_10 => bn1 (f_X2_minutesBbstrength 0 r_10 120 W1 P2 law broad str) (fun r_11 => if r_11 = minutes (nI k).toNatClampNeg then rec (nI (k + 1)) W1 P2 else some (nI k, W1, P2)))) = if tBad t' who hours minutes str half k then some (nI k, W1, P2) else rec (nI (k + 1)) W1 P2 := by
        rw [if_neg (idx_ok rfl (by omega) (by decide)), nI_clamp (by omega), hti]
        simp only [bn1_some, hmin']
        by_cases cb : tBad t' who hours minutes str half k
        · have hb2 := hbad.mp cb
          rw [if_pos cb]
          by_cases c0 : minutes k = 0
          · rw [if_pos c0] at hb2
            rw [if_pos c0, if_neg hb2]
          · rw [if_neg c0] at hb2
            rw [if_neg c0, if_neg hb2]
        · have hb2 : jI (mAns (cMin law broad.toInt (fun p => who (3 * k + p)) (pullP t' (fun p => who (3 * k + p)) half) str (tideS t kh)) 120) = (if minutes k = 0 then -1 else minutes k) := Classical.byContradiction (fun z => cb (hbad.mpr z))
          rw [if_neg cb]
          by_cases c0 : minutes k = 0
          · rw [if_pos c0] at hb2
            rw [if_pos c0, if_pos hb2]
          · rw [if_neg c0] at hb2
            rw [if_neg c0, if_pos hb2]
      by_cases c0 : n2 = 0
      · rw [if_pos c0] at hP2
        rw [if_pos c0, hP2, bn1_some]; exact hcore
      · rw [if_neg c0] at hP2
        rw [if_neg c0, hP2, bn1_some]; exact hcore
    rw [hX]
    by_cases cb : tBad t' who hours minutes str half k
    · refine Or.inr ⟨W1, P2, ?_, hWP2⟩
      rw [if_pos cb, hf, fWr_s (by omega), if_pos cb]
    · refine Or.inl ⟨nI (k + 1), W1, P2, ⟨rfl, hWP2, ?_⟩, ?_⟩
      · rw [hf, fWr_s (by omega), if_neg cb, show N - (k + 1) = N - k - 1 by omega]
      · rw [if_neg cb]
  · rintro rec y W P ⟨rfl, hWP, hf⟩
    rw [if_pos (Int32.le_refl _)]
    refine ⟨W, P, ?_, hWP⟩
    rw [hf, Nat.sub_self]
    rfl
