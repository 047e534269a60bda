/-! PURE SIDE: told, horse, seed, keep, goBack -/
def lamS (w : Nat → Int32) : Nat → Int32
  | 0 => 0
  | k + 1 => if w k = 0 then lamS w k ||| ((1 : Int32) <<< (nI k &&& 31)) else lamS w k
theorem e_clame {t w : Nat → Int32} {H : Nat} (h6 : H ≤ 6) : f_X8_lameSet (nI H) w = some (lamS w H) := by
  unfold f_X8_lameSet
  rw [jn1_d]
  refine lq2_inv (fun k x y => x = lamS w k ∧ y = nI k) (fun o => o = some (lamS w H)) H ?_ ?_ fu 0 0 0 (by omega) (by unfold fu; omega) ⟨rfl, rfl⟩
  · rintro rec k x y hk ⟨rfl, rfl⟩
    refine Or.inl ⟨lamS w (k + 1), nI (k + 1), ⟨rfl, rfl⟩, ?_⟩
    rw [if_neg (nI_ge hk (by omega)), if_neg (show ¬ (6 : Int32) ≤ nI k from nI_ge (b := 6) (by omega) (by decide)), if_neg (idx_ok rfl (by omega) (by decide)), nI_clamp (by omega), jn1_if, nI_1]
    rfl
  · rintro rec x y ⟨rfl, rfl⟩
    rw [if_pos (Int32.le_refl _)]
theorem e_mlame {t s : Nat → Int32} {H : Nat} (h6 : H ≤ 6) (e3 : t 3 = nI H) (K : Int32 → Option (Int32 × Int32)) : lq2 (B_X9_told_1 t K s) fu 0 0 = K (lamS s H) := by
  refine lq2_inv (fun k x y => x = lamS s k ∧ y = nI k) (fun o => o = K (lamS s H)) H ?_ ?_ fu 0 0 0 (by omega) (by unfold fu; omega) ⟨rfl, rfl⟩
  · rintro rec k x y hk ⟨rfl, rfl⟩
    refine Or.inl ⟨lamS s (k + 1), nI (k + 1), ⟨rfl, rfl⟩, ?_⟩
    unfold B_X9_told_1
    have q3 : ¬ t (Int32.toNatClampNeg 3) ≤ nI k := by show ¬ t 3 ≤ nI k; rw [e3]; exact nI_ge hk (by omega)
    rw [if_neg q3, if_neg (idx_ok rfl (by omega) (by decide)), nI_clamp (by omega), jn1_if, nI_1]
    show rec (lamS s k ||| if s k = 0 then 1 <<< (nI k &&& 31) else 0) (nI (k + 1)) = rec (if s k = 0 then lamS s k ||| ((1 : Int32) <<< (nI k &&& 31)) else lamS s k) (nI (k + 1))
    by_cases c : s k = 0
    · rw [if_pos c, if_pos c]
    · rw [if_neg c, if_neg c, Int32.or_zero]
  · rintro rec x y ⟨rfl, rfl⟩
    unfold B_X9_told_1
    have q3 : t (Int32.toNatClampNeg 3) ≤ nI H := by show t 3 ≤ nI H; rw [e3]; exact Int32.le_refl _
    rw [if_pos q3]
theorem lamS_ext {u w : Nat → Int32} {H : Nat} (h : ∀ k, k < H → u k = w k) : lamS u H = lamS w H := by
  induction H with
  | zero => rfl
  | succ k ih =>
    unfold lamS
    rw [ih (fun j hj => h j (by omega)), h k (by omega)]
theorem m_told {law places broad horses blinds tideN cartN due hour oats missed seed length count typed many th n1 : Int32} {pull str back moods tides carts t strength stands s : Nat → Int32} {b : Int}
    (hRB : RB law places broad horses blinds tideN cartN due pull str back moods tides carts t) (hN : RNb b hour oats missed seed strength stands s t) (hl : length = typed) (hm : many = count) :
    ∃ rr : Int32, f_X8_told n1 law places broad horses tideN cartN due tides length hour oats missed strength count = some rr ∧ f_X9_told n1 th typed many t s = some (rr, 0) := by
  obtain ⟨ht, hs, hSB, hPB, hCT, hlaw, ht1, ht2, hbr, ht0, hpl⟩ := RB_BT hRB
  obtain ⟨-, -, -, -, -, ⟨h4, -⟩, ⟨h5, -⟩, -⟩ := hRB
  obtain ⟨⟨s9, hh0, hhb⟩, ⟨s10, ho0, ho1⟩, s11, ⟨s12, hseed⟩, ⟨s6, s7, s8⟩, hst, hstr⟩ := hN
  obtain ⟨H, h6, e3, eH⟩ := hor_n ht
  obtain ⟨k, hk, ek, ekI⟩ := hour_n hh0
  have e3' : horses = nI H := hPB.1.trans e3
  unfold f_X8_told f_X9_told
  by_cases c : 0 ≤ n1 ∧ n1 ≤ 12
  · obtain ⟨j, hj, ej⟩ := nI_of2 (M := 12) (n := 12) rfl (x := n1) (by grind) c.2
    rw [in_t c.1 c.2, bn1_some, if_neg (show ¬ (1 : Int32) = 0 by decide)]
    subst ej
    have hcase : j = 0 ∨ j = 1 ∨ j = 2 ∨ j = 3 ∨ j = 4 ∨ j = 5 ∨ j = 6 ∨ j = 7 ∨ j = 8 ∨ j = 9 ∨ j = 10 ∨ j = 11 ∨ j = 12 := by omega
    have hL := fun K => e_mlame (s := s) h6 e3 K
    have hC := e_clame (t := t) (w := strength) h6
    have hll : lamS strength H = lamS s H := lamS_ext (fun k hk => ((hstr k (by omega)).1).symm)
    have hti := e_ctide ht hCT hk
    have hmt := e_tideOf ht hk
    have q9 : s (Int32.toNatClampNeg 9) = nI k := s9.trans ek
    rcases hcase with rfl | rfl | rfl | rfl | rfl | rfl | rfl | rfl | rfl | rfl | rfl | rfl | rfl
    · exact ⟨places, rfl, congrArg (fun z => some (z, (0 : Int32))) ht0⟩
    · refine ⟨t 1, ?_, rfl⟩
      rw [ht1]
      show (if places = 0 then some (-1) else some law) = _
      by_cases c : places = 0
      · rw [if_pos c, if_pos c]
      · rw [if_neg c, if_neg c]
    · exact ⟨broad, rfl, congrArg (fun z => some (z, (0 : Int32))) ht2⟩
    · exact ⟨horses, rfl, congrArg (fun z => some (z, (0 : Int32))) hPB.1.symm⟩
    · exact ⟨cartN, rfl, congrArg (fun z => some (z, (0 : Int32))) h4⟩
    · refine ⟨t 5, ?_, rfl⟩
      rw [h5]
      show bn1 (f_X0_dueMinutes due) _ = _
      unfold f_X0_dueMinutes
      by_cases c : due = 0
      · rw [if_pos c, if_pos c, bn1_some]
      · rw [if_neg c, if_neg c, bn1_some]
    · exact ⟨length, rfl, by rw [hl]; rfl⟩
    · exact ⟨hour, rfl, congrArg (fun z => some (z, (0 : Int32))) s9⟩
    · exact ⟨oats, rfl, congrArg (fun z => some (z, (0 : Int32))) s10⟩
    · exact ⟨missed, rfl, congrArg (fun z => some (z, (0 : Int32))) s11⟩
    · exact ⟨count, rfl, by rw [hm]; rfl⟩
    · refine ⟨jI (tideS t k), ?_, ?_⟩
      · show bn1 (f_X0_tideOf hour tideN tides) _ = _
        rw [ek, hti, bn1_some]
      · rw [if_pos (by decide), if_pos (by decide), jn1_d]
        refine (hL _).trans ?_
        rw [if_pos (by decide), q9, hmt, bn1_some]
    · refine ⟨lamS s H, ?_, ?_⟩
      · show bn1 (f_X8_lameSet horses strength) _ = _
        rw [e3', hC, bn1_some, hll]
      · rw [if_pos (by decide), if_pos (by decide), jn1_d]
        refine (hL _).trans ?_
        rw [if_neg (by decide)]
  · rw [in_f c, bn1_some, if_pos rfl]
    have hne : ∀ x : Int32, 0 ≤ x ∧ x ≤ 12 → ¬ n1 = x := fun x hx e => c (by rw [e]; exact hx)
    rw [if_neg (hne 0 (by decide)), if_neg (hne 1 (by decide)), if_neg (hne 2 (by decide)), if_neg (hne 3 (by decide)), if_neg (hne 4 (by decide)), if_neg (hne 5 (by decide)), if_neg (hne 6 (by decide)), if_neg (hne 7 (by decide)), if_neg (hne 8 (by decide)), if_neg (hne 9 (by decide)), if_neg (hne 10 (by decide)), if_neg (hne 11 (by decide)), if_neg (hne 12 (by decide))]
    exact ⟨_, rfl, rfl⟩
theorem e_cpullAt {who pull a : Nat → Int32} {q : Nat → Int} {c p : Nat} (hr : ROW who pull c a q) (hp : p < 3) : f_X2_pullAt (nI c) (nI p) pull = some (jI (q p)) := by
  have hc := hr.1
  have e3c : nI c * (3 : Int32) = nI (3 * c) := by rw [show (3 : Int32) = nI 3 from rfl, pk_mul, Nat.mul_comm]
  unfold f_X2_pullAt
  rw [e_isCrew hc, bn1_some, if_neg (by decide), if_neg (nI_pos (by omega)), if_neg (show ¬ (3 : Int32) ≤ nI p from nI_ge (b := 3) hp (by decide)), e3c, nI_add, if_neg (idx_ok rfl (by omega) (by decide)), nI_clamp (by omega), (hr.2 p hp).2]
theorem m_horse {law places broad horses blinds tideN cartN due hour oats missed seed th n1 n2 : Int32} {pull str back moods tides carts t strength stands s who cp w a : Nat → Int32} {b : Int}
    (hRB : RB law places broad horses blinds tideN cartN due pull str back moods tides carts t) (hN : RNb b hour oats missed seed strength stands s t) :
    ∃ (rr : Int32) (W P w' a' : Nat → Int32), f_X8_horse n1 n2 horses blinds pull str back moods who cp strength stands = some (rr, W, P) ∧ f_X9_horse_ n1 n2 th (-1) t s w a = some (rr, 0, w', a') ∧ ∀ k : Nat, 3 ≤ k → W k = who k ∧ P k = cp k := by
  obtain ⟨ht, hs, hSB, hPB, hCT, hlaw, ht1, ht2, hbr, ht0, hpl⟩ := RB_BT hRB
  obtain ⟨⟨s9, hh0, hhb⟩, ⟨s10, ho0, ho1⟩, s11, ⟨s12, hseed⟩, h678, hst, hstr⟩ := hN
  obtain ⟨H, h6, e3, eH⟩ := hor_n ht
  unfold f_X8_horse f_X9_horse_
  rw [hPB.1, e_hasHorse, bn1_some, e_isHorse _ _ ht.1.1, bn1_some]
  by_cases c : 0 ≤ n1 ∧ n1 < t 3
  · obtain ⟨h, hh, hhH, eh⟩ := (hor_c ht n1).2 c
    have hne : n1 ≠ -1 := by rw [eh]; exact nI_ne (by omega)
    rw [if_pos ((hor_c ht n1).1.mpr c), if_pos c, if_neg (show ¬ (1 : Int32) = 0 by decide), if_neg (show ¬ (1 : Int32) = 0 by decide)]
    by_cases c2 : 0 ≤ n2 ∧ n2 ≤ 6
    · rw [in_t c2.1 c2.2, bn1_some, if_neg (show ¬ (1 : Int32) = 0 by decide), e_whereIs, bn1_some, where_eq h678 hst.2 hne]
      obtain ⟨j, hj, ej⟩ := nI_of2 (M := 6) (n := 6) rfl (x := n2) (by grind) c2.2
      subst ej
      have hcase : j = 0 ∨ j = 1 ∨ j = 2 ∨ j = 3 ∨ j = 4 ∨ j = 5 ∨ j = 6 := by omega
      have i6 : ¬ (n1 < 0 ∨ 6 ≤ n1.toNatClampNeg) := by rw [eh]; exact idx_ok rfl hh (by decide)
      have i13 : ¬ (n1 < 0 ∨ 13 ≤ n1.toNatClampNeg) := by rw [eh]; exact idx_ok rfl (by omega) (by decide)
      have ecl : n1.toNatClampNeg = h := by rw [eh, nI_clamp (by omega)]
      have ebase : ∀ i : Nat, i < 4 → ((8 : Int32) + (4 : Int32) * n1) + nI i = nI (8 + 4 * h + i) := fun i hi => by rw [eh, lit_n 8, lit_n 4, pk_mul, nI_add, nI_add]
      have ibase : ∀ i : Nat, i < 4 → ¬ (((8 : Int32) + (4 : Int32) * n1) + nI i < 0 ∨ 84 ≤ (((8 : Int32) + (4 : Int32) * n1) + nI i).toNatClampNeg) := fun i hi => by rw [ebase i hi]; exact idx_ok rfl (by omega) (by decide)
      have cbase : ∀ i : Nat, i < 4 → (((8 : Int32) + (4 : Int32) * n1) + nI i).toNatClampNeg = 8 + 4 * h + i := fun i hi => by rw [ebase i hi, nI_clamp (by omega)]
      obtain ⟨b1, b2⟩ := hSB h hhH
      obtain ⟨b3, b4⟩ := hPB.2.2 h hhH
      rcases hcase with rfl | rfl | rfl | rfl | rfl | rfl | rfl
      · rw [if_pos (show nI 0 = 0 from rfl), if_neg i6, ecl, if_neg (show ¬ (4 : Int32) ≤ nI 0 by decide), if_neg (ibase 0 (by decide)), cbase 0 (by decide), Nat.add_zero, b3]
        exact ⟨_, _, _, _, _, rfl, rfl, fun k _ => ⟨rfl, rfl⟩⟩
      · rw [if_neg (show ¬ nI 1 = 0 by decide), if_pos (show nI 1 = 1 from rfl), if_neg i6, ecl, if_neg (show ¬ (4 : Int32) ≤ nI 1 by decide), if_neg (ibase 1 (by decide)), cbase 1 (by decide), b1]
        exact ⟨_, _, _, _, _, rfl, rfl, fun k _ => ⟨rfl, rfl⟩⟩
      · rw [if_neg (show ¬ nI 2 = 0 by decide), if_neg (show ¬ nI 2 = 1 by decide), if_pos (show nI 2 = 2 from rfl), if_neg i6, ecl, if_neg (show ¬ (4 : Int32) ≤ nI 2 by decide), if_neg (ibase 2 (by decide)), cbase 2 (by decide), b2]
        exact ⟨_, _, _, _, _, rfl, rfl, fun k _ => ⟨rfl, rfl⟩⟩
      · rw [if_neg (show ¬ nI 3 = 0 by decide), if_neg (show ¬ nI 3 = 1 by decide), if_neg (show ¬ nI 3 = 2 by decide), if_pos (show nI 3 = 3 from rfl), if_neg (show ¬ (4 : Int32) ≤ nI 3 by decide), if_neg (ibase 3 (by decide)), cbase 3 (by decide), b4, eh, e_cBlind hh, bn1_some]
        by_cases c3 : (blinds >>> (nI h &&& 31)) &&& 1 = 0
        · rw [if_pos c3, if_pos rfl]
          exact ⟨_, _, _, _, _, rfl, rfl, fun k _ => ⟨rfl, rfl⟩⟩
        · rw [if_neg c3, if_neg (by decide)]
          exact ⟨_, _, _, _, _, rfl, rfl, fun k _ => ⟨rfl, rfl⟩⟩
      · rw [if_neg (show ¬ nI 4 = 0 by decide), if_neg (show ¬ nI 4 = 1 by decide), if_neg (show ¬ nI 4 = 2 by decide), if_neg (show ¬ nI 4 = 3 by decide), if_pos (show nI 4 = 4 from rfl), if_neg i6, ecl, if_pos (show (4 : Int32) ≤ nI 4 by decide), if_neg (show ¬ (6 : Int32) ≤ nI 4 by decide), if_pos (show nI 4 = 4 from rfl), if_neg (by rw [← ecl]; exact i13), (hstr h hhH).1]
        exact ⟨_, _, _, _, _, rfl, rfl, fun k _ => ⟨rfl, rfl⟩⟩
      · rw [if_neg (show ¬ nI 5 = 0 by decide), if_neg (show ¬ nI 5 = 1 by decide), if_neg (show ¬ nI 5 = 2 by decide), if_neg (show ¬ nI 5 = 3 by decide), if_neg (show ¬ nI 5 = 4 by decide), if_pos (show nI 5 = 5 from rfl), if_pos (show (4 : Int32) ≤ nI 5 by decide), if_neg (show ¬ (6 : Int32) ≤ nI 5 by decide), if_neg (show ¬ nI 5 = 4 by decide), e_placeOf, bn1_some]
        exact ⟨_, _, _, _, _, rfl, rfl, fun k _ => ⟨rfl, rfl⟩⟩
      · rw [if_neg (show ¬ nI 6 = 0 by decide), if_neg (show ¬ nI 6 = 1 by decide), if_neg (show ¬ nI 6 = 2 by decide), if_neg (show ¬ nI 6 = 3 by decide), if_neg (show ¬ nI 6 = 4 by decide), if_neg (show ¬ nI 6 = 5 by decide), if_pos (show nI 6 = 6 from rfl), if_pos (show (4 : Int32) ≤ nI 6 by decide), if_pos (show (6 : Int32) ≤ nI 6 by decide)]
        unfold f_X8_pullNow
        rw [e_placeOf, bn1_some, e_asNow, bn2_some]
        change ∃ rr W P w' a', bn3 (if plc stands n1 = -1 then _ else _) _ = _ ∧ (if plc stands n1 = -1 then _ else _) = _ ∧ _
        rcases plc_c stands n1 with ⟨e1, -⟩ | ⟨p, hp, e1, e2⟩
        · rw [if_pos e1, if_pos e1, bn3_some]
          exact ⟨_, _, _, _, _, rfl, rfl, fun k _ => ⟨rfl, rfl⟩⟩
        · have hnp : ¬ plc stands n1 = -1 := by rw [e1]; exact nI_ne (by omega)
          have ea : ∀ p, p < 3 → stands p = fA 0 3 (fun k _ => s (6 + k)) a p := fun p hp => by rw [fA_0 hp, s6k h678 hp]
          have hst' : STND (t 0) (t 3) (fA 0 3 (fun k _ => s (6 + k)) a) := STND_ext (fun p hp => (ea p hp).symm) hst
          have hcr : CREW t (fA 0 3 (fun k _ => s (6 + k)) a) := STND_CREW ht hst'
          obtain ⟨W, P, hseat, hrow, hrest⟩ := e_seatStanding (who := who) (cp := cp) ht hcr hPB ea
          have hpu := e_pullAt (w := fA 0 6 (fun k _ => s k) w) (half := -1) hp hcr ht
          have eap : fA 0 3 (fun k _ => s (6 + k)) a p = nI h := by rw [← ea p hp, e2, eh]
          have ew : fA 0 6 (fun k _ => s k) w h = strength h := by rw [fA_0 hh, (hstr h hhH).1]
          rw [eap, nI_clamp (by omega), ew] at hpu
          have hPp := (hrow.2 p hp).2
          have e1' : (if stands 0 = n1 then (0 : Int32) else if stands 1 = n1 then 1 else if stands 2 = n1 then 2 else -1) = nI p := e1
          rw [hPB.1] at hseat
          rw [if_neg hnp, if_neg hnp, if_neg i6, ecl, e1', hpu, bn1_some]
          by_cases c3 : strength h = 0
          · rw [if_pos c3, bn3_some, if_neg (fun z => z.2 c3)]
            exact ⟨_, _, _, _, _, rfl, rfl, fun k _ => ⟨rfl, rfl⟩⟩
          · have hcp : f_X2_pullAt 0 (nI p) P = some (jI (pullP t (fA 0 3 (fun k _ => s (6 + k)) a) (-1) p)) := e_cpullAt (c := 0) hrow hp
            rw [if_neg c3, hseat, bn2_some, hcp, bn1_some, bn3_some, if_pos ⟨nI_ne (by omega), c3⟩]
            exact ⟨_, _, _, _, _, rfl, rfl, hrest⟩
    · rw [in_f c2, bn1_some, if_pos rfl]
      have hne : ∀ x : Int32, 0 ≤ x ∧ x ≤ 6 → ¬ n2 = x := fun x hx e => c2 (by rw [e]; exact hx)
      rw [if_neg (hne 0 (by decide)), if_neg (hne 1 (by decide)), if_neg (hne 2 (by decide)), if_neg (hne 3 (by decide)), if_neg (hne 4 (by decide)), if_neg (hne 5 (by decide)), if_neg (hne 6 (by decide))]
      exact ⟨_, _, _, _, _, rfl, rfl, fun k _ => ⟨rfl, rfl⟩⟩
  · rw [if_neg (fun z => c ((hor_c ht n1).1.mp z)), if_neg c, if_pos rfl, if_pos rfl]
    exact ⟨_, _, _, _, _, rfl, rfl, fun k _ => ⟨rfl, rfl⟩⟩
