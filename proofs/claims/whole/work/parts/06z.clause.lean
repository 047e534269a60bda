/-! PURE SIDE: clauses of both: belt, horse, cart, due -/
/-- the class's Boat and the reference's draft while a text is read -/
def RD (law places broad horses blinds besides tideN cartN due : Int32) (prs : Int64) (pull str back moods tides carts d : Nat → Int32) (isDue : Int32) (pr : Nat → Int32) : Prop :=
  RB law places broad horses blinds tideN cartN due pull str back moods tides carts d ∧ (d 6 = besides ∧ 0 ≤ besides ∧ besides ≤ 12) ∧ (isDue = if due = 0 then 0 else 1) ∧ (∀ h : Nat, h < 6 → d (8 + 4 * h + 3) = if (blinds >>> (nI h &&& 31)) &&& 1 = 0 then 0 else 1) ∧ (∀ a b : Nat, a < 6 → b < 6 → (prs.toBitVec.getLsbD (a * 6 + b) = true ↔ (pr a).toBitVec.getLsbD b = true)) ∧ (∀ h : Nat, h < 6 → ¬ (nI h < horses) → (blinds >>> (nI h &&& 31)) &&& 1 = 0)
theorem nx3 {j : Int32} (h : 0 ≤ j) (h6 : j ≤ 12) : ∃ k : Nat, k ≤ 12 ∧ j = nI k := nI_of2 (M := 12) (n := 12) rfl (by grind) h6
theorem c_belt {law places broad horses blinds besides tideN cartN due cfa nf zn zt zp zv zg isDue : Int32} {prs : Int64} {pull str back moods tides carts dr pr T Z : Nat → Int32} {L n : Nat} (hX : TX T Z L) (hn : n ≤ L) (hA : ADV T L n zn zt zp zv zg) (hD : RD law places broad horses blinds besides tideN cartN due prs pull str back moods tides carts dr isDue pr) :
    ∃ (n' : Nat) (cf' cfa' cn' nf' : Int32) (law' : Int32) (places' : Int32) (broad' : Int32) (horses' : Int32) (blinds' : Int32) (besides' : Int32) (tideN' : Int32) (cartN' : Int32) (due' : Int32) (prs' : Int64) (pull' : Nat → Int32) (str' : Nat → Int32) (back' : Nat → Int32) (moods' : Nat → Int32) (tides' : Nat → Int32) (carts' : Nat → Int32) (zn' zt' zp' zv' zg' zf' zfa' isDue' : Int32) (dr' pr' : Nat → Int32), f_X4_readParts 0 (nI L) 0 cfa (nI n) nf T law places broad horses blinds besides tideN cartN due prs pull str back moods tides carts = some (cf', cfa', cn', nf', law', places', broad', horses', blinds', besides', tideN', cartN', due', prs', pull', str', back', moods', tides', carts') ∧ f_X9_clause 0 (nI L) zn zt zp zv zg 0 cfa isDue Z dr pr = some (zn', zt', zp', zv', zg', zf', zfa', isDue', dr', pr') ∧ REL T L n' cf' cfa' cn' zn' zt' zp' zv' zg' zf' zfa' ∧ n ≤ n' ∧ (cf' = 0 → RD law' places' broad' horses' blinds' besides' tideN' cartN' due' prs' pull' str' back' moods' tides' carts' dr' isDue' pr' ∧ places' ≠ 0) := by
  have hL := hX.1
  obtain ⟨⟨⟨a1, a2, a3⟩, b1, b2, ⟨c1, c2, c3, c4⟩, hho, hca, hdu, hti, hh, hm, htd, hcc⟩, r1, r2, r3, r4, r5⟩ := hD
  obtain ⟨n1, lw, f1, fa1, cn1, r, zn1, zt1, zp1, zv1, zg1, zf1, zfa1, p1, p2, p3, p4, p5⟩ := m_law (cfa := cfa) hX hn hA
  obtain ⟨n2, v2, f2, fa2, cn2, nf2, w2, zn2, zt2, zp2, zv2, zg2, zf2, zfa2, q1, q2, q3, q4, q5⟩ := m_num (lo := 1) (hi := 3) (nf := nf) hX p3
  obtain ⟨n3, v3, f3, fa3, cn3, nf3, w3, zn3, zt3, zp3, zv3, zg3, zf3, zfa3, s1, s2, s3, s4, s5⟩ := m_num (lo := 1) (hi := 999) (nf := nf2) hX q3
  obtain ⟨n4, f4, fa4, cn4, zn4, zt4, zp4, zv4, zg4, zf4, zfa4, t1, t2, t3, t4, t5⟩ := m_semi hX s3
  have hk : f_X9_belt (nI L) zn zt zp zv zg 0 cfa Z dr = some (zn3, zt3, zp3, zv3, zg3, zf3, zfa3, upd (upd (upd dr 1 (r - 7)) 0 w2) 2 w3) := by
    unfold f_X9_belt
    have hj : ∀ F : Int32 → Option (Int32 × Int32 × Int32 × Int32 × Int32 × Int32 × Int32 × (Nat → Int32)), jn1 F (fun J37 => jn1 (fun (_ : Unit) => J37 0) (fun J36 => if zt = 1 then jn1 (fun (_ : Unit) => J37 1) (fun J32 => if zv = 7 then J32 () else if zv = 8 then J32 () else J36 ()) else J36 ())) = F (if zt = 1 ∧ (zv = 7 ∨ zv = 8) then 1 else 0) := fun F => by
      dsimp only [jn1]
      by_cases q1 : zt = 1
      · rw [if_pos q1]
        by_cases q2 : zv = 7
        · rw [if_pos q2, if_pos ⟨q1, Or.inl q2⟩]
        · rw [if_neg q2]
          by_cases q3 : zv = 8
          · rw [if_pos q3, if_pos ⟨q1, Or.inr q3⟩]
          · rw [if_neg q3, if_neg (fun z => by rcases z.2 with z | z; exact q2 z; exact q3 z)]
      · rw [if_neg q1, if_neg (fun z => q1 z.1)]
    rw [hj, p2, bn8_some, q2, bn8_some, s2, bn8_some]
    rfl
  have hz : f_X9_clause 0 (nI L) zn zt zp zv zg 0 cfa isDue Z dr pr = some (zn4, zt4, zp4, zv4, zg4, zf4, zfa4, isDue, upd (upd (upd dr 1 (r - 7)) 0 w2) 2 w3, pr) := by
    unfold f_X9_clause
    rw [jn10_e, if_pos rfl, hk, bn8_some]
    dsimp only
    rw [t2, bn7_some]
  by_cases cf : f4 = 0
  · have hc : f_X4_readParts 0 (nI L) 0 cfa (nI n) nf T law places broad horses blinds besides tideN cartN due prs pull str back moods tides carts = some (f4, fa4, cn4, nf3, lw, v2, v3, horses, blinds, besides, tideN, cartN, due, prs, pull, str, back, moods, tides, carts) := by
      unfold f_X4_readParts f_X4_readBelt
      rw [if_pos rfl, p1, bn4_some, q1, bn5_some, s1, bn5_some, t1, bn3_some, if_pos cf, bn7_some]
    refine ⟨n4, _, _, _, _, _, _, _, _, _, _, _, _, _, _, _, _, _, _, _, _, _, _, _, _, _, _, _, _, _, _, hc, hz, t3, by omega, fun _ => ?_⟩
    obtain ⟨s6, s7, s8, s9⟩ := s5 (t5 cf)
    obtain ⟨q6, q7, q8, q9⟩ := q5 s6
    obtain ⟨p6, p7⟩ := p5 q6
    have hd : ∀ j, 3 ≤ j → upd (upd (upd dr 1 (r - 7)) 0 w2) 2 w3 j = dr j := fun j hj => by rw [upd_n (by omega), upd_n (by omega), upd_n (by omega)]
    have d0 : upd (upd (upd dr 1 (r - 7)) 0 w2) 2 w3 0 = v2 := by rw [upd_n (by decide), upd_s, q7]
    have d1 : upd (upd (upd dr 1 (r - 7)) 0 w2) 2 w3 1 = lw := by rw [upd_n (by decide), upd_n (by decide), upd_s, p7]
    have d2 : upd (upd (upd dr 1 (r - 7)) 0 w2) 2 w3 2 = v3 := by rw [upd_s, s7]
    have hv0 : ¬ v2 = 0 := fun z => by rw [z] at q8; exact absurd q8 (by decide)
    refine ⟨?_, hv0⟩
    refine ⟨⟨⟨d0, by grind, q9⟩, by rw [d1, if_neg hv0], p6, ⟨d2, by grind, s9, Or.inr s8⟩, by rw [hd 3 (by omega)]; exact hho, by rw [hd 4 (by omega)]; exact hca, by rw [hd 5 (by omega)]; exact hdu, by rw [hd 7 (by omega)]; exact hti, fun h hh' => ?_, fun a b ha hb => ?_, fun i hi => ?_, fun c hc' => ?_⟩, by rw [hd 6 (by omega)]; exact r1, r2, fun h hh' => by rw [hd _ (by omega)]; exact r3 h hh', r4, r5⟩
    · rw [hd _ (by omega), hd _ (by omega), hd _ (by omega), hd _ (by omega)]; exact hh h hh'
    · rw [hd _ (by omega)]; exact hm a b ha hb
    · rw [hd _ (by omega)]; exact htd i hi
    · rw [hd _ (by omega)]; exact hcc c hc'
  · have hc : f_X4_readParts 0 (nI L) 0 cfa (nI n) nf T law places broad horses blinds besides tideN cartN due prs pull str back moods tides carts = some (f4, fa4, cn4, nf3, law, places, broad, horses, blinds, besides, tideN, cartN, due, prs, pull, str, back, moods, tides, carts) := by
      unfold f_X4_readParts f_X4_readBelt
      rw [if_pos rfl, p1, bn4_some, q1, bn5_some, s1, bn5_some, t1, bn3_some, if_neg cf, bn7_some]
    exact ⟨n4, _, _, _, _, _, _, _, _, _, _, _, _, _, _, _, _, _, _, _, _, _, _, _, _, _, _, _, _, _, _, hc, hz, t3, by omega, fun z => absurd z cf⟩
theorem c_cart {law places broad horses blinds besides tideN cartN due cfa nf zn zt zp zv zg isDue : Int32} {prs : Int64} {pull str back moods tides carts dr pr T Z : Nat → Int32} {L n : Nat} (hX : TX T Z L) (hn : n ≤ L) (hA : ADV T L n zn zt zp zv zg) (hD : RD law places broad horses blinds besides tideN cartN due prs pull str back moods tides carts dr isDue pr) (hpn : places ≠ 0) (h4 : cartN < 4) :
    ∃ (n' : Nat) (cf' cfa' cn' nf' : Int32) (law' : Int32) (places' : Int32) (broad' : Int32) (horses' : Int32) (blinds' : Int32) (besides' : Int32) (tideN' : Int32) (cartN' : Int32) (due' : Int32) (prs' : Int64) (pull' : Nat → Int32) (str' : Nat → Int32) (back' : Nat → Int32) (moods' : Nat → Int32) (tides' : Nat → Int32) (carts' : Nat → Int32) (zn' zt' zp' zv' zg' zf' zfa' isDue' : Int32) (dr' pr' : Nat → Int32), f_X4_readParts 5 (nI L) 0 cfa (nI n) nf T law places broad horses blinds besides tideN cartN due prs pull str back moods tides carts = some (cf', cfa', cn', nf', law', places', broad', horses', blinds', besides', tideN', cartN', due', prs', pull', str', back', moods', tides', carts') ∧ f_X9_clause 5 (nI L) zn zt zp zv zg 0 cfa isDue Z dr pr = some (zn', zt', zp', zv', zg', zf', zfa', isDue', dr', pr') ∧ REL T L n' cf' cfa' cn' zn' zt' zp' zv' zg' zf' zfa' ∧ n ≤ n' ∧ (cf' = 0 → RD law' places' broad' horses' blinds' besides' tideN' cartN' due' prs' pull' str' back' moods' tides' carts' dr' isDue' pr' ∧ places' ≠ 0) := by
  have hL := hX.1
  obtain ⟨⟨hpl, b1, b2, hbr, hho, ⟨ca1, ca2, ca3⟩, hdu, hti, hh, hm, htd, hcc⟩, r1, r2, r3, r4, r5⟩ := hD
  have hR0 : REL T L n 0 cfa (nI n) zn zt zp zv zg 0 cfa := ⟨rfl, hn, rfl, rfl, fun _ => hA⟩
  obtain ⟨n3, v3, f3, fa3, cn3, nf3, w3, zn3, zt3, zp3, zv3, zg3, zf3, zfa3, s1, s2, s3, s4, s5⟩ := m_num (lo := 0) (hi := 60) (nf := nf) hX hR0
  obtain ⟨n4, f4, fa4, cn4, zn4, zt4, zp4, zv4, zg4, zf4, zfa4, t1, t2, t3, t4, t5⟩ := m_semi hX s3
  obtain ⟨C, hC, eC⟩ := nI_of2 (M := 3) (n := 3) rfl (x := cartN) (by grind) (by grind)
  have e4 : dr (Int32.toNatClampNeg 4) = nI C := ca1.trans eC
  have e80 : (80 : Int32) + nI C = nI (80 + C) := nI_add 80 C
  have hz : f_X9_clause 5 (nI L) zn zt zp zv zg 0 cfa isDue Z dr pr = some (zn4, zt4, zp4, zv4, zg4, zf4, zfa4, isDue, upd (upd dr (80 + C) w3) 4 (nI (C + 1)), pr) := by
    unfold f_X9_clause
    rw [jn10_e, if_neg (by decide), if_neg (by decide), if_neg (by decide), if_neg (by decide), if_neg (by decide), if_pos rfl, s2, bn8_some, e4, e80, if_neg (idx_ok (k := 80 + C) rfl (show 80 + C < 84 by omega) (by decide)), nI_clamp (by omega)]
    have e5 : upd dr (80 + C) w3 (Int32.toNatClampNeg 4) = nI C := by
      show upd dr (80 + C) w3 4 = nI C
      rw [upd_n (by omega)]; exact e4
    rw [e5, nI_1]
    dsimp only
    rw [t2, bn7_some]
    rfl
  by_cases cf : f4 = 0
  · have hc : f_X4_readParts 5 (nI L) 0 cfa (nI n) nf T law places broad horses blinds besides tideN cartN due prs pull str back moods tides carts = some (f4, fa4, cn4, nf3, law, places, broad, horses, blinds, besides, tideN, nI (C + 1), due, prs, pull, str, back, moods, tides, upd carts C v3) := by
      unfold f_X4_readParts f_X4_readCart f_X0_addCart
      rw [if_neg (by decide), if_neg (by decide), if_neg (by decide), if_neg (by decide), if_neg (by decide), if_pos rfl, s1, bn5_some, t1, bn3_some, if_pos cf, eC, if_neg (show ¬ (4 : Int32) ≤ nI C from nI_ge (b := 4) (by omega) (by decide)), if_neg (idx_ok (k := C) rfl (show C < 4 by omega) (by decide)), bn2_some, bn6_some, nI_1, nI_clamp (by omega)]
    refine ⟨n4, _, _, _, _, _, _, _, _, _, _, _, _, _, _, _, _, _, _, _, _, _, _, _, _, _, _, _, _, _, _, hc, hz, t3, by omega, fun _ => ?_⟩
    obtain ⟨s6, s7, s8, s9⟩ := s5 (t5 cf)
    have hd : ∀ j, j ≠ 4 → j ≠ 80 + C → upd (upd dr (80 + C) w3) 4 (nI (C + 1)) j = dr j := fun j h1 h2 => by rw [upd_n h1, upd_n h2]
    refine ⟨?_, hpn⟩
    refine ⟨⟨by rw [hd 0 (by omega) (by omega)]; exact hpl, by rw [hd 1 (by omega) (by omega)]; exact b1, b2, by rw [hd 2 (by omega) (by omega)]; exact hbr, by rw [hd 3 (by omega) (by omega)]; exact hho, ⟨upd_s, nI_pos' (by omega), nI_le (b := 4) (by omega) (by decide)⟩, by rw [hd 5 (by omega) (by omega)]; exact hdu, by rw [hd 7 (by omega) (by omega)]; exact hti, fun h hh' => ?_, fun a b ha hb => ?_, fun i hi => ?_, fun c hc' => ?_⟩, by rw [hd 6 (by omega) (by omega)]; exact r1, r2, fun h hh' => by rw [hd _ (by omega) (by omega)]; exact r3 h hh', r4, r5⟩
    · have h6 : h < 6 := by
        have h7 := hho.2
        have h8 : horses.toNatClampNeg ≤ 6 := by rw [i_cl]; rw [i_le, i_le] at h7; have h9 : (6 : Int32).toInt = 6 := rfl; omega
        omega
      rw [hd _ (by omega) (by omega), hd _ (by omega) (by omega), hd _ (by omega) (by omega), hd _ (by omega) (by omega)]; exact hh h hh'
    · rw [hd _ (by omega) (by omega)]; exact hm a b ha hb
    · have h12 : i < 12 := by
        have h7 := hti.2
        have h8 : tideN.toNatClampNeg ≤ 12 := by rw [i_cl]; rw [i_le, i_le] at h7; have h9 : (12 : Int32).toInt = 12 := rfl; omega
        omega
      rw [hd _ (by omega) (by omega)]; exact htd i hi
    · rw [nI_clamp (by omega)] at hc'
      by_cases e : c = C
      · subst e
        rw [upd_n (by omega), upd_s, upd_s]
        exact ⟨s7.symm, s8, s9⟩
      · rw [hd _ (by omega) (by omega), upd_n e]
        exact hcc c (by rw [eC, nI_clamp (by omega)]; omega)
  · have hc : f_X4_readParts 5 (nI L) 0 cfa (nI n) nf T law places broad horses blinds besides tideN cartN due prs pull str back moods tides carts = some (f4, fa4, cn4, nf3, law, places, broad, horses, blinds, besides, tideN, cartN, due, prs, pull, str, back, moods, tides, carts) := by
      unfold f_X4_readParts f_X4_readCart
      rw [if_neg (by decide), if_neg (by decide), if_neg (by decide), if_neg (by decide), if_neg (by decide), if_pos rfl, s1, bn5_some, t1, bn3_some, if_neg cf, bn6_some]
    exact ⟨n4, _, _, _, _, _, _, _, _, _, _, _, _, _, _, _, _, _, _, _, _, _, _, _, _, _, _, _, _, _, _, hc, hz, t3, by omega, fun z => absurd z cf⟩
theorem c_due {law places broad horses blinds besides tideN cartN due cfa nf zn zt zp zv zg isDue : Int32} {prs : Int64} {pull str back moods tides carts dr pr T Z : Nat → Int32} {L n : Nat} (hX : TX T Z L) (hn : n ≤ L) (hA : ADV T L n zn zt zp zv zg) (hD : RD law places broad horses blinds besides tideN cartN due prs pull str back moods tides carts dr isDue pr) (hpn : places ≠ 0) :
    ∃ (n' : Nat) (cf' cfa' cn' nf' : Int32) (law' : Int32) (places' : Int32) (broad' : Int32) (horses' : Int32) (blinds' : Int32) (besides' : Int32) (tideN' : Int32) (cartN' : Int32) (due' : Int32) (prs' : Int64) (pull' : Nat → Int32) (str' : Nat → Int32) (back' : Nat → Int32) (moods' : Nat → Int32) (tides' : Nat → Int32) (carts' : Nat → Int32) (zn' zt' zp' zv' zg' zf' zfa' isDue' : Int32) (dr' pr' : Nat → Int32), f_X4_readParts 6 (nI L) 0 cfa (nI n) nf T law places broad horses blinds besides tideN cartN due prs pull str back moods tides carts = some (cf', cfa', cn', nf', law', places', broad', horses', blinds', besides', tideN', cartN', due', prs', pull', str', back', moods', tides', carts') ∧ f_X9_clause 6 (nI L) zn zt zp zv zg 0 cfa isDue Z dr pr = some (zn', zt', zp', zv', zg', zf', zfa', isDue', dr', pr') ∧ REL T L n' cf' cfa' cn' zn' zt' zp' zv' zg' zf' zfa' ∧ n ≤ n' ∧ (cf' = 0 → RD law' places' broad' horses' blinds' besides' tideN' cartN' due' prs' pull' str' back' moods' tides' carts' dr' isDue' pr' ∧ places' ≠ 0) := by
  have hL := hX.1
  obtain ⟨⟨hpl, b1, b2, hbr, hho, hca, ⟨du1, du2, du3⟩, hti, hh, hm, htd, hcc⟩, r1, r2, r3, r4, r5⟩ := hD
  have hR0 : REL T L n 0 cfa (nI n) zn zt zp zv zg 0 cfa := ⟨rfl, hn, rfl, rfl, fun _ => hA⟩
  obtain ⟨n3, v3, f3, fa3, cn3, nf3, w3, zn3, zt3, zp3, zv3, zg3, zf3, zfa3, s1, s2, s3, s4, s5⟩ := m_num (lo := 1) (hi := 120) (nf := nf) hX hR0
  obtain ⟨n4, f4, fa4, cn4, zn4, zt4, zp4, zv4, zg4, zf4, zfa4, t1, t2, t3, t4, t5⟩ := m_semi hX s3
  have hz : f_X9_clause 6 (nI L) zn zt zp zv zg 0 cfa isDue Z dr pr = some (zn4, zt4, zp4, zv4, zg4, zf4, zfa4, 1, upd dr 5 w3, pr) := by
    unfold f_X9_clause
    rw [jn10_e, if_neg (by decide), if_neg (by decide), if_neg (by decide), if_neg (by decide), if_neg (by decide), if_neg (by decide), s2, bn8_some]
    dsimp only
    rw [t2, bn7_some]
    rfl
  by_cases cf : f4 = 0
  · have hc : f_X4_readParts 6 (nI L) 0 cfa (nI n) nf T law places broad horses blinds besides tideN cartN due prs pull str back moods tides carts = some (f4, fa4, cn4, nf3, law, places, broad, horses, blinds, besides, tideN, cartN, v3, prs, pull, str, back, moods, tides, carts) := by
      unfold f_X4_readParts f_X4_readDue
      rw [if_neg (by decide), if_neg (by decide), if_neg (by decide), if_neg (by decide), if_neg (by decide), if_neg (by decide), s1, bn5_some, t1, bn3_some, if_pos cf, bn5_some]
    refine ⟨n4, _, _, _, _, _, _, _, _, _, _, _, _, _, _, _, _, _, _, _, _, _, _, _, _, _, _, _, _, _, _, hc, hz, t3, by omega, fun _ => ?_⟩
    obtain ⟨s6, s7, s8, s9⟩ := s5 (t5 cf)
    have hv0 : ¬ v3 = 0 := fun z => by rw [z] at s8; exact absurd s8 (by decide)
    have hd : ∀ j, j ≠ 5 → upd dr 5 w3 j = dr j := fun j h1 => by rw [upd_n h1]
    refine ⟨?_, hpn⟩
    refine ⟨⟨by rw [hd 0 (by omega)]; exact hpl, by rw [hd 1 (by omega)]; exact b1, b2, by rw [hd 2 (by omega)]; exact hbr, by rw [hd 3 (by omega)]; exact hho, by rw [hd 4 (by omega)]; exact hca, ⟨by rw [upd_s, if_neg hv0, s7], by grind, s9⟩, by rw [hd 7 (by omega)]; exact hti, fun h hh' => ?_, fun a b ha hb => ?_, fun i hi => ?_, fun c hc' => ?_⟩, by rw [hd 6 (by omega)]; exact r1, by rw [if_neg hv0], fun h hh' => by rw [hd _ (by omega)]; exact r3 h hh', r4, r5⟩
    · rw [hd _ (by omega), hd _ (by omega), hd _ (by omega), hd _ (by omega)]; exact hh h hh'
    · rw [hd _ (by omega)]; exact hm a b ha hb
    · rw [hd _ (by omega)]; exact htd i hi
    · rw [hd _ (by omega)]; exact hcc c hc'
  · have hc : f_X4_readParts 6 (nI L) 0 cfa (nI n) nf T law places broad horses blinds besides tideN cartN due prs pull str back moods tides carts = some (f4, fa4, cn4, nf3, law, places, broad, horses, blinds, besides, tideN, cartN, due, prs, pull, str, back, moods, tides, carts) := by
      unfold f_X4_readParts f_X4_readDue
      rw [if_neg (by decide), if_neg (by decide), if_neg (by decide), if_neg (by decide), if_neg (by decide), if_neg (by decide), s1, bn5_some, t1, bn3_some, if_neg cf, bn5_some]
    exact ⟨n4, _, _, _, _, _, _, _, _, _, _, _, _, _, _, _, _, _, _, _, _, _, _, _, _, _, _, _, _, _, _, hc, hz, t3, by omega, fun z => absurd z cf⟩
theorem c_horse {law places broad horses blinds besides tideN cartN due cfa nf zn zt zp zv zg isDue : Int32} {prs : Int64} {pull str back moods tides carts dr pr T Z : Nat → Int32} {L n : Nat} (hX : TX T Z L) (hn : n ≤ L) (hA : ADV T L n zn zt zp zv zg) (hD : RD law places broad horses blinds besides tideN cartN due prs pull str back moods tides carts dr isDue pr) (hpn : places ≠ 0) (h6 : horses < 6) :
    ∃ (n' : Nat) (cf' cfa' cn' nf' : Int32) (law' : Int32) (places' : Int32) (broad' : Int32) (horses' : Int32) (blinds' : Int32) (besides' : Int32) (tideN' : Int32) (cartN' : Int32) (due' : Int32) (prs' : Int64) (pull' : Nat → Int32) (str' : Nat → Int32) (back' : Nat → Int32) (moods' : Nat → Int32) (tides' : Nat → Int32) (carts' : Nat → Int32) (zn' zt' zp' zv' zg' zf' zfa' isDue' : Int32) (dr' pr' : Nat → Int32), f_X4_readParts 1 (nI L) 0 cfa (nI n) nf T law places broad horses blinds besides tideN cartN due prs pull str back moods tides carts = some (cf', cfa', cn', nf', law', places', broad', horses', blinds', besides', tideN', cartN', due', prs', pull', str', back', moods', tides', carts') ∧ f_X9_clause 1 (nI L) zn zt zp zv zg 0 cfa isDue Z dr pr = some (zn', zt', zp', zv', zg', zf', zfa', isDue', dr', pr') ∧ REL T L n' cf' cfa' cn' zn' zt' zp' zv' zg' zf' zfa' ∧ n ≤ n' ∧ (cf' = 0 → RD law' places' broad' horses' blinds' besides' tideN' cartN' due' prs' pull' str' back' moods' tides' carts' dr' isDue' pr' ∧ places' ≠ 0) := by
  have hL := hX.1
  obtain ⟨⟨hpl, b1, b2, hbr, ⟨ho1, ho2, ho3⟩, hca, hdu, hti, hh, hm, htd, hcc⟩, r1, r2, r3, r4, r5⟩ := hD
  have hR0 : REL T L n 0 cfa (nI n) zn zt zp zv zg 0 cfa := ⟨rfl, hn, rfl, rfl, fun _ => hA⟩
  obtain ⟨n1, v1, f1, fa1, cn1, nf1, w1, zn1, zt1, zp1, zv1, zg1, zf1, zfa1, p1, p2, p3, p4, p5⟩ := m_num (lo := 1) (hi := 30) (nf := nf) hX hR0
  obtain ⟨n2, v2, f2, fa2, cn2, nf2, w2, zn2, zt2, zp2, zv2, zg2, zf2, zfa2, q1, q2, q3, q4, q5⟩ := m_num (lo := 1) (hi := 200) (nf := nf1) hX p3
  obtain ⟨n3, v3, f3, fa3, cn3, nf3, w3, zn3, zt3, zp3, zv3, zg3, zf3, zfa3, s1, s2, s3, s4, s5⟩ := m_num (lo := 0) (hi := 60) (nf := nf2) hX q3
  obtain ⟨n4, f4, fa4, cn4, zn4, zt4, zp4, zv4, zg4, zf4, zfa4, t1, t2, t3, t4, t5⟩ := m_semi hX s3
  obtain ⟨H, hH, eH⟩ := nI_of2 (M := 5) (n := 5) rfl (x := horses) (by grind) (by grind)
  have e3 : dr (Int32.toNatClampNeg 3) = nI H := ho1.trans eH
  have eb : (8 : Int32) + 4 * nI H = nI (8 + 4 * H) := by rw [lit_n 4, pk_mul]; exact nI_add 8 _
  have eb1 : nI (8 + 4 * H) + 1 = nI (8 + 4 * H + 1) := nI_1 _
  have eb2 : nI (8 + 4 * H) + 2 = nI (8 + 4 * H + 2) := nI_add _ 2
  have hk : f_X9_horse (nI L) zn zt zp zv zg 0 cfa Z dr = some (zn3, zt3, zp3, zv3, zg3, zf3, zfa3, upd (upd (upd (upd dr (8 + 4 * H) w1) (8 + 4 * H + 1) w2) (8 + 4 * H + 2) w3) 3 (nI (H + 1))) := by
    unfold f_X9_horse
    rw [p2, bn8_some, e3, eb, eb1, eb2, if_neg (idx_ok (k := 8 + 4 * H) rfl (show 8 + 4 * H < 84 by omega) (by decide)), q2, bn8_some, if_neg (idx_ok (k := 8 + 4 * H + 1) rfl (show 8 + 4 * H + 1 < 84 by omega) (by decide)), s2, bn8_some, if_neg (idx_ok (k := 8 + 4 * H + 2) rfl (show 8 + 4 * H + 2 < 84 by omega) (by decide)), nI_clamp (by omega), nI_clamp (by omega), nI_clamp (by omega)]
    have e5 : upd (upd (upd dr (8 + 4 * H) w1) (8 + 4 * H + 1) w2) (8 + 4 * H + 2) w3 (Int32.toNatClampNeg 3) = nI H := by
      show upd (upd (upd dr (8 + 4 * H) w1) (8 + 4 * H + 1) w2) (8 + 4 * H + 2) w3 3 = nI H
      rw [upd_n (by omega), upd_n (by omega), upd_n (by omega)]; exact e3
    rw [e5, nI_1]
    rfl
  have hz : f_X9_clause 1 (nI L) zn zt zp zv zg 0 cfa isDue Z dr pr = some (zn4, zt4, zp4, zv4, zg4, zf4, zfa4, isDue, upd (upd (upd (upd dr (8 + 4 * H) w1) (8 + 4 * H + 1) w2) (8 + 4 * H + 2) w3) 3 (nI (H + 1)), pr) := by
    unfold f_X9_clause
    rw [jn10_e, if_neg (by decide), if_pos rfl, hk, bn8_some]
    dsimp only
    rw [t2, bn7_some]
  by_cases cf : f4 = 0
  · have hc : f_X4_readParts 1 (nI L) 0 cfa (nI n) nf T law places broad horses blinds besides tideN cartN due prs pull str back moods tides carts = some (f4, fa4, cn4, nf3, law, places, broad, nI (H + 1), blinds, besides, tideN, cartN, due, prs, upd pull H v1, upd str H v2, upd back H v3, moods, tides, carts) := by
      unfold f_X4_readParts f_X4_readHorse f_X0_addHorse
      rw [if_neg (by decide), if_pos rfl, p1, bn5_some, q1, bn5_some, s1, bn5_some, t1, bn3_some, if_pos cf, eH, if_neg (show ¬ (6 : Int32) ≤ nI H from nI_ge (b := 6) (by omega) (by decide)), if_neg (idx_ok (k := H) rfl (show H < 6 by omega) (by decide)), bn4_some, bn8_some, nI_1, nI_clamp (by omega)]
    refine ⟨n4, _, _, _, _, _, _, _, _, _, _, _, _, _, _, _, _, _, _, _, _, _, _, _, _, _, _, _, _, _, _, hc, hz, t3, by omega, fun _ => ?_⟩
    obtain ⟨s6, s7, s8, s9⟩ := s5 (t5 cf)
    obtain ⟨q6, q7, q8, q9⟩ := q5 s6
    obtain ⟨p6, p7, p8, p9⟩ := p5 q6
    have hd : ∀ j, j ≠ 3 → j ≠ 8 + 4 * H → j ≠ 8 + 4 * H + 1 → j ≠ 8 + 4 * H + 2 → upd (upd (upd (upd dr (8 + 4 * H) w1) (8 + 4 * H + 1) w2) (8 + 4 * H + 2) w3) 3 (nI (H + 1)) j = dr j := fun j h1 h2 h3 h4 => by rw [upd_n h1, upd_n h4, upd_n h3, upd_n h2]
    have hd0 : upd (upd (upd (upd dr (8 + 4 * H) w1) (8 + 4 * H + 1) w2) (8 + 4 * H + 2) w3) 3 (nI (H + 1)) (8 + 4 * H) = v1 := by rw [upd_n (by omega), upd_n (by omega), upd_n (by omega), upd_s, p7]
    have hd1 : upd (upd (upd (upd dr (8 + 4 * H) w1) (8 + 4 * H + 1) w2) (8 + 4 * H + 2) w3) 3 (nI (H + 1)) (8 + 4 * H + 1) = v2 := by rw [upd_n (by omega), upd_n (by omega), upd_s, q7]
    have hd2 : upd (upd (upd (upd dr (8 + 4 * H) w1) (8 + 4 * H + 1) w2) (8 + 4 * H + 2) w3) 3 (nI (H + 1)) (8 + 4 * H + 2) = v3 := by rw [upd_n (by omega), upd_s, s7]
    have h12 : ∀ i, i < tideN.toNatClampNeg → i < 12 := fun i hi => by
      have h7 := hti.2
      have h8 : tideN.toNatClampNeg ≤ 12 := by rw [i_cl]; rw [i_le, i_le] at h7; have h9 : (12 : Int32).toInt = 12 := rfl; omega
      omega
    refine ⟨?_, hpn⟩
    refine ⟨⟨by rw [hd 0 (by omega) (by omega) (by omega) (by omega)]; exact hpl, by rw [hd 1 (by omega) (by omega) (by omega) (by omega)]; exact b1, b2, by rw [hd 2 (by omega) (by omega) (by omega) (by omega)]; exact hbr, ⟨upd_s, nI_pos' (by omega), nI_le (b := 6) (by omega) (by decide)⟩, by rw [hd 4 (by omega) (by omega) (by omega) (by omega)]; exact hca, by rw [hd 5 (by omega) (by omega) (by omega) (by omega)]; exact hdu, by rw [hd 7 (by omega) (by omega) (by omega) (by omega)]; exact hti, fun h hh' => ?_, fun a b ha hb => ?_, fun i hi => ?_, fun c hc' => ?_⟩, by rw [hd 6 (by omega) (by omega) (by omega) (by omega)]; exact r1, r2, fun h hh' => by rw [hd _ (by omega) (by omega) (by omega) (by omega)]; exact r3 h hh', r4, fun h hh' hn' => r5 h hh' (fun z => hn' ?_)⟩
    · rw [nI_clamp (by omega)] at hh'
      by_cases e : h = H
      · subst e
        rw [hd0, hd1, hd2, hd _ (by omega) (by omega) (by omega) (by omega), upd_s, upd_s, upd_s]
        exact ⟨⟨rfl, p8, p9⟩, ⟨rfl, q8, q9⟩, ⟨rfl, s8, s9⟩, r3 h (by omega)⟩
      · rw [hd _ (by omega) (by omega) (by omega) (by omega), hd _ (by omega) (by omega) (by omega) (by omega), hd _ (by omega) (by omega) (by omega) (by omega), hd _ (by omega) (by omega) (by omega) (by omega), upd_n e, upd_n e, upd_n e]
        exact hh h (by rw [eH, nI_clamp (by omega)]; omega)
    · rw [hd _ (by omega) (by omega) (by omega) (by omega)]; exact hm a b ha hb
    · have := h12 i hi
      rw [hd _ (by omega) (by omega) (by omega) (by omega)]; exact htd i hi
    · rw [hd _ (by omega) (by omega) (by omega) (by omega)]; exact hcc c hc'
    · rw [eH, nI_ltI (by omega) (by omega)] at z
      rw [nI_ltI (by omega) (by omega)]; omega
  · have hc : f_X4_readParts 1 (nI L) 0 cfa (nI n) nf T law places broad horses blinds besides tideN cartN due prs pull str back moods tides carts = some (f4, fa4, cn4, nf3, law, places, broad, horses, blinds, besides, tideN, cartN, due, prs, pull, str, back, moods, tides, carts) := by
      unfold f_X4_readParts f_X4_readHorse
      rw [if_neg (by decide), if_pos rfl, p1, bn5_some, q1, bn5_some, s1, bn5_some, t1, bn3_some, if_neg cf, bn8_some]
    exact ⟨n4, _, _, _, _, _, _, _, _, _, _, _, _, _, _, _, _, _, _, _, _, _, _, _, _, _, _, _, _, _, _, hc, hz, t3, by omega, fun z => absurd z cf⟩
