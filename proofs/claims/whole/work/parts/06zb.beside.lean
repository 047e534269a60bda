/-! PURE SIDE: clauses of both: beside (written by wip/whole/gen/mkclause3.py) -/
theorem side_key {pr : Nat → Int32} {zt1 zv1 zf1 : Int32} {a : Nat} (ha : a < 6) (G : Int32 → Option (Int32 × Int32 × Int32 × Int32 × Int32 × Int32 × Int32 × (Nat → Int32) × (Nat → Int32))) : jn1 (fun (z0_2 : Int32) => jn1 G (fun J65 => jn1 (fun (_ : Unit) => J65 0) (fun J64 => if z0_2 = 0 then J64 () else bn1 (f_X9_isWell zf1) (fun (r_11 : Int32) => if r_11 = 0 then J64 () else J65 1)))) (fun J46 => jn1 (fun (_ : Unit) => J46 0) (fun J45 => if zt1 = 2 then if (6 : Int32) ≤ zv1 then J45 () else if nI a < 0 ∨ 6 ≤ (nI a).toNatClampNeg then none else if (((pr (nI a).toNatClampNeg) >>> (zv1 &&& 31)) &&& (1 : Int32)) = 1 then J46 1 else J45 () else J45 ())) = G (if zt1 = 2 ∧ ¬ 6 ≤ zv1 ∧ ((pr a >>> (zv1 &&& 31)) &&& 1) = 1 ∧ zf1 = 0 then 1 else 0) := by
  dsimp only [jn1]
  rw [if_neg (idx_ok (k := a) rfl ha (by decide)), nI_clamp (by omega), if_pos rfl, if_neg (show ¬ (1 : Int32) = 0 by decide)]
  by_cases c1 : zt1 = 2
  · rw [if_pos c1]
    by_cases c2 : (6 : Int32) ≤ zv1
    · rw [if_pos c2, if_neg (fun z => z.2.1 c2)]
    · rw [if_neg c2]
      by_cases c3 : ((pr a >>> (zv1 &&& 31)) &&& 1) = 1
      · rw [if_pos c3]
        by_cases c4 : zf1 = 0
        · rw [c4, wl_0, bn1_some, if_neg (show ¬ (1 : Int32) = 0 by decide), if_pos ⟨c1, c2, c3, rfl⟩]
        · rw [wl_1 c4, bn1_some, if_pos rfl, if_neg (fun z => c4 z.2.2.2)]
      · rw [if_neg c3, if_neg (fun z => c3 z.2.2.1)]
  · rw [if_neg c1, if_neg (fun z => c1 z.1)]
theorem side_bad {Z dr pr : Nat → Int32} {L zn zt zp zv zg zf zfa zn1 zt1 zp1 zv1 zg1 zf1 zfa1 r4 zn4 zt4 zp4 zv4 zg4 zf4 zfa4 r5 zn5 zt5 zp5 zv5 zg5 zf5 zfa5 : Int32} {a : Nat} (ha : a < 6) (h1 : f_X9_beast (-1) 0 L zn zt zp zv zg zf zfa Z dr = some (nI a, zn1, zt1, zp1, zv1, zg1, zf1, zfa1)) (h2 : f_X9_beast (nI a) (if zt1 = 2 ∧ ¬ 6 ≤ zv1 ∧ ((pr a >>> (zv1 &&& 31)) &&& 1) = 1 ∧ zf1 = 0 then 1 else 0) L zn1 zt1 zp1 zv1 zg1 zf1 zfa1 Z dr = some (r4, zn4, zt4, zp4, zv4, zg4, zf4, zfa4)) (h3 : f_X9_number 0 10 L zn4 zt4 zp4 zv4 zg4 zf4 zfa4 Z = some (r5, zn5, zt5, zp5, zv5, zg5, zf5, zfa5)) (h5 : zf5 ≠ 0) : f_X9_beside L zn zt zp zv zg zf zfa Z dr pr = some (zn5, zt5, zp5, zv5, zg5, zf5, zfa5, upd dr 6 (dr 6 + 1), pr) := by
  unfold f_X9_beside
  rw [h1, bn8_some]
  refine (side_key ha _).trans ?_
  try dsimp only
  rw [h2, bn8_some, h3, bn8_some, wl_1 h5, bn1_some, jn2_d, if_pos rfl]
  rfl
theorem side_ok {Z dr pr : Nat → Int32} {L zn zt zp zv zg zf zfa zn1 zt1 zp1 zv1 zg1 zf1 zfa1 zn4 zt4 zp4 zv4 zg4 zf4 zfa4 r5 zn5 zt5 zp5 zv5 zg5 zfa5 : Int32} {a b : Nat} (ha : a < 6) (hb : b < 6) (h1 : f_X9_beast (-1) 0 L zn zt zp zv zg zf zfa Z dr = some (nI a, zn1, zt1, zp1, zv1, zg1, zf1, zfa1)) (h2 : f_X9_beast (nI a) (if zt1 = 2 ∧ ¬ 6 ≤ zv1 ∧ ((pr a >>> (zv1 &&& 31)) &&& 1) = 1 ∧ zf1 = 0 then 1 else 0) L zn1 zt1 zp1 zv1 zg1 zf1 zfa1 Z dr = some (nI b, zn4, zt4, zp4, zv4, zg4, zf4, zfa4)) (h3 : f_X9_number 0 10 L zn4 zt4 zp4 zv4 zg4 zf4 zfa4 Z = some (r5, zn5, zt5, zp5, zv5, zg5, 0, zfa5)) : f_X9_beside L zn zt zp zv zg zf zfa Z dr pr = some (zn5, zt5, zp5, zv5, zg5, 0, zfa5, upd (upd dr (32 + 6 * a + b) r5) 6 (dr 6 + 1), upd pr a (pr a ||| ((1 : Int32) <<< (nI b &&& 31)))) := by
  have e1 : (32 : Int32) + 6 * nI a + nI b = nI (32 + 6 * a + b) := by rw [lit_n 6, pk_mul, lit_n 32, nI_add, nI_add]
  unfold f_X9_beside
  rw [h1, bn8_some]
  refine (side_key ha _).trans ?_
  try dsimp only
  rw [h2, bn8_some, h3, bn8_some, wl_0, bn1_some, jn2_d, if_neg (show ¬ (1 : Int32) = 0 by decide), if_neg (idx_ok (k := a) rfl ha (by decide)), e1, if_neg (idx_ok (k := 32 + 6 * a + b) rfl (show 32 + 6 * a + b < 84 by omega) (by decide)), nI_clamp (by omega), nI_clamp (by omega)]
  have e6 : upd dr (32 + 6 * a + b) r5 (Int32.toNatClampNeg 6) = dr 6 := by
    show upd dr (32 + 6 * a + b) r5 6 = dr 6
    rw [upd_n (by omega)]
  dsimp only
  rw [e6]
  rfl
theorem hp_no1 {v horses : Int32} {prs : Int64} : f_X0_hasPair (-1) v horses prs = some 0 := by
  unfold f_X0_hasPair; rw [e_cHorse_no, bn1_some, if_pos rfl]
theorem hp_no2 {a : Nat} {horses : Int32} {prs : Int64} (h1 : a < horses.toNatClampNeg) (h2 : a < 6) : f_X0_hasPair (nI a) (-1) horses prs = some 0 := by
  unfold f_X0_hasPair; rw [e_cHorse h1 h2, bn1_some, if_neg (show ¬ (1 : Int32) = 0 by decide), e_cHorse_no, bn1_some, if_pos rfl]
theorem hp_is {a b : Nat} {horses : Int32} {prs : Int64} (h1 : a < horses.toNatClampNeg) (h2 : a < 6) (h3 : b < horses.toNatClampNeg) (h4 : b < 6) : f_X0_hasPair (nI a) (nI b) horses prs = some (if prs.toBitVec.getLsbD (a * 6 + b) = true then 1 else 0) := by
  have e1 : nI a * 6 + nI b = nI (a * 6 + b) := by rw [lit_n 6, pk_mul, nI_add]
  unfold f_X0_hasPair
  rw [e_cHorse h1 h2, bn1_some, if_neg (show ¬ (1 : Int32) = 0 by decide), e_cHorse h3 h4, bn1_some, if_neg (show ¬ (1 : Int32) = 0 by decide), e1]
  have hb : lg_cmp ((prs >>> ((nI (a * 6 + b)).toInt64 &&& 63)) &&& 1) 0 = 0 ↔ prs.toBitVec.getLsbD (a * 6 + b) = false := by rw [cmp_0]; exact bt64 prs (by omega)
  by_cases c : prs.toBitVec.getLsbD (a * 6 + b) = true
  · rw [if_pos c, if_neg (fun z => by rw [hb.mp z] at c; exact absurd c (by decide))]
  · rw [if_neg c, if_pos (hb.mpr (by cases hq : prs.toBitVec.getLsbD (a * 6 + b) with | false => rfl | true => exact absurd hq c))]
theorem c_beside {law places broad horses blinds besides tideN cartN due cfa nf zn zt zp zv zg isDue : Int32} {prs : Int64} {pull str back moods tides carts dr pr T Z : Nat → Int32} {L n : Nat} (hX : TX T Z L) (hn : n ≤ L) (hA : ADV T L n zn zt zp zv zg) (hD : RD law places broad horses blinds besides tideN cartN due prs pull str back moods tides carts dr isDue pr) (hpn : places ≠ 0) (h12 : besides < 12) :
    ∃ (n' : Nat) (cf' cfa' cn' nf' : Int32) (law' : Int32) (places' : Int32) (broad' : Int32) (horses' : Int32) (blinds' : Int32) (besides' : Int32) (tideN' : Int32) (cartN' : Int32) (due' : Int32) (prs' : Int64) (pull' : Nat → Int32) (str' : Nat → Int32) (back' : Nat → Int32) (moods' : Nat → Int32) (tides' : Nat → Int32) (carts' : Nat → Int32) (zn' zt' zp' zv' zg' zf' zfa' isDue' : Int32) (dr' pr' : Nat → Int32), f_X4_readParts 3 (nI L) 0 cfa (nI n) nf T law places broad horses blinds besides tideN cartN due prs pull str back moods tides carts = some (cf', cfa', cn', nf', law', places', broad', horses', blinds', besides', tideN', cartN', due', prs', pull', str', back', moods', tides', carts') ∧ f_X9_clause 3 (nI L) zn zt zp zv zg 0 cfa isDue Z dr pr = some (zn', zt', zp', zv', zg', zf', zfa', isDue', dr', pr') ∧ REL T L n' cf' cfa' cn' zn' zt' zp' zv' zg' zf' zfa' ∧ n ≤ n' ∧ (cf' = 0 → RD law' places' broad' horses' blinds' besides' tideN' cartN' due' prs' pull' str' back' moods' tides' carts' dr' isDue' pr' ∧ places' ≠ 0) := by
  have hL := hX.1
  obtain ⟨⟨hpl, b1, b2, hbr, ⟨ho1, ho2, ho3⟩, hca, hdu, hti, hh, hm, htd, hcc⟩, ⟨be1, be2, be3⟩, r2, r3, r4, r5⟩ := id hD
  obtain ⟨H, hH, eH⟩ := nI_of2 (M := 6) (n := 6) rfl (x := horses) (by grind) ho3
  have e3 : dr 3 = nI H := ho1.trans eH
  have hHc : horses.toNatClampNeg = H := by rw [eH, nI_clamp (by omega)]
  have hp := hA.1
  obtain ⟨sk1, sk2, sk3⟩ := sk_f (T := T) hn
  have hun : ∀ (va f1 fa1 cn1 nf1 : Int32), f_X4_readNumber 0 (horses - 1) (nI L) 0 cfa (nI n) nf T = some (va, f1, fa1, cn1, nf1) → ∀ (vb f2 fa2 cn2 nf2 : Int32), f_X4_readNumber 0 (horses - 1) (nI L) f1 fa1 cn1 nf1 T = some (vb, f2, fa2, cn2, nf2) → ∀ (hpv f3 fa3 : Int32), f_X0_hasPair va vb horses prs = some hpv → (((va = vb ∨ hpv ≠ 0) ∧ f_X4_fail 4 nf2 f2 fa2 = some (f3, fa3)) ∨ (¬ (va = vb ∨ hpv ≠ 0) ∧ f3 = f2 ∧ fa3 = fa2)) → ∀ (vd f4 fa4 cn4 nf4 : Int32), f_X4_readNumber 0 10 (nI L) f3 fa3 cn2 nf2 T = some (vd, f4, fa4, cn4, nf4) → ∀ (f5 fa5 cn5 : Int32), f_X4_readSemicolon (nI L) f4 fa4 cn4 T = some (f5, fa5, cn5) → f_X4_readParts 3 (nI L) 0 cfa (nI n) nf T law places broad horses blinds besides tideN cartN due prs pull str back moods tides carts = bn7 (if f5 = 0 then bn3 (f_X0_addBeside va vb (vd - 5) horses besides prs moods) (fun (b6 : Int32) (p6 : Int64) (m6 : Nat → Int32) => some (f5, fa5, cn5, nf4, b6, p6, m6)) else some (f5, fa5, cn5, nf4, besides, prs, moods)) (fun (f : Int32) (fa : Int32) (cn : Int32) (nf : Int32) (besides : Int32) (prs : Int64) (moods : Nat → Int32) => some (f, fa, cn, nf, law, places, broad, horses, blinds, besides, tideN, cartN, due, prs, pull, str, back, moods, tides, carts)) := by
    intro va f1 fa1 cn1 nf1 q1 vb f2 fa2 cn2 nf2 q2 hpv f3 fa3 q3 q4 vd f4 fa4 cn4 nf4 q5 f5 fa5 cn5 q6
    unfold f_X4_readParts f_X4_readBeside
    rw [if_neg (by decide), if_neg (by decide), if_neg (by decide), if_pos rfl, q1, bn5_some, q2, bn5_some, jn2_d, q3]
    dsimp only [jn1, bn1]
    rcases q4 with ⟨z1, z2⟩ | ⟨z1, z2, z3⟩
    · rw [z2, bn2_some, q5, bn5_some, q6, bn3_some]
      by_cases c : va = vb
      · rw [if_pos c]
      · rw [if_neg c, if_neg (z1.resolve_left c)]
    · rw [if_neg (fun z => z1 (Or.inl z)), if_pos (Classical.byContradiction (fun z => z1 (Or.inr z))), ← z2, ← z3, q5, bn5_some, q6, bn3_some]
  -- faults: nothing more changes
  have fin : ∀ (x : Nat) (f fa nf2 zna zta zpa zva zga : Int32), f ≠ 0 → x ≤ L → n ≤ x → (∀ (w zn5 zt5 zp5 zv5 zg5 zf5 zfa5 : Int32), f_X9_number 0 10 (nI L) zna zta zpa zva zga f fa Z = some (w, zn5, zt5, zp5, zv5, zg5, zf5, zfa5) → zf5 ≠ 0 → f_X9_beside (nI L) zn zt zp zv zg 0 cfa Z dr pr = some (zn5, zt5, zp5, zv5, zg5, zf5, zfa5, upd dr 6 (dr 6 + 1), pr)) → (∀ (vd f4 fa4 cn4 nf4 : Int32), f_X4_readNumber 0 10 (nI L) f fa (nI x) nf2 T = some (vd, f4, fa4, cn4, nf4) → ∀ (f5 fa5 cn5 : Int32), f_X4_readSemicolon (nI L) f4 fa4 cn4 T = some (f5, fa5, cn5) → f5 ≠ 0 → f_X4_readParts 3 (nI L) 0 cfa (nI n) nf T law places broad horses blinds besides tideN cartN due prs pull str back moods tides carts = some (f5, fa5, cn5, nf4, law, places, broad, horses, blinds, besides, tideN, cartN, due, prs, pull, str, back, moods, tides, carts)) → (∃ (n' : Nat) (cf' cfa' cn' nf' : Int32) (law' : Int32) (places' : Int32) (broad' : Int32) (horses' : Int32) (blinds' : Int32) (besides' : Int32) (tideN' : Int32) (cartN' : Int32) (due' : Int32) (prs' : Int64) (pull' : Nat → Int32) (str' : Nat → Int32) (back' : Nat → Int32) (moods' : Nat → Int32) (tides' : Nat → Int32) (carts' : Nat → Int32) (zn' zt' zp' zv' zg' zf' zfa' isDue' : Int32) (dr' pr' : Nat → Int32), f_X4_readParts 3 (nI L) 0 cfa (nI n) nf T law places broad horses blinds besides tideN cartN due prs pull str back moods tides carts = some (cf', cfa', cn', nf', law', places', broad', horses', blinds', besides', tideN', cartN', due', prs', pull', str', back', moods', tides', carts') ∧ f_X9_clause 3 (nI L) zn zt zp zv zg 0 cfa isDue Z dr pr = some (zn', zt', zp', zv', zg', zf', zfa', isDue', dr', pr') ∧ REL T L n' cf' cfa' cn' zn' zt' zp' zv' zg' zf' zfa' ∧ n ≤ n' ∧ (cf' = 0 → RD law' places' broad' horses' blinds' besides' tideN' cartN' due' prs' pull' str' back' moods' tides' carts' dr' isDue' pr' ∧ places' ≠ 0)) := by
    intro x f fa nf2 zna zta zpa zva zga hf hx hnx hz hc
    have hR : REL T L x f fa (nI x) zna zta zpa zva zga f fa := ⟨rfl, hx, rfl, rfl, fun z => absurd z hf⟩
    obtain ⟨n3, v3, f3, fa3, cn3, nf3, w3, zn3, zt3, zp3, zv3, zg3, zf3, zfa3, s1, s2, s3, s4, s5⟩ := m_num (lo := 0) (hi := 10) (nf := nf2) hX hR
    obtain ⟨n4, f4, fa4, cn4, zn4, zt4, zp4, zv4, zg4, zf4, zfa4, t1, t2, t3, t4, t5⟩ := m_semi hX s3
    have hf3 : f3 ≠ 0 := fun z => hf (s5 z).1
    have hf4 : f4 ≠ 0 := fun z => hf3 (t5 z)
    have hzf3 : zf3 ≠ 0 := by rw [s3.2.2.1]; exact hf3
    have hz2 : f_X9_clause 3 (nI L) zn zt zp zv zg 0 cfa isDue Z dr pr = some (zn4, zt4, zp4, zv4, zg4, zf4, zfa4, isDue, upd dr 6 (dr 6 + 1), pr) := by
      unfold f_X9_clause
      rw [jn10_e, if_neg (by decide), if_neg (by decide), if_neg (by decide), if_pos rfl, hz _ _ _ _ _ _ _ _ s2 hzf3, bn9_some]
      dsimp only
      rw [t2, bn7_some]
    exact ⟨n4, _, _, _, _, _, _, _, _, _, _, _, _, _, _, _, _, _, _, _, _, _, _, _, _, _, _, _, _, _, _,  hc _ _ _ _ _ s1 _ _ _ t1 hf4, hz2, t3, by omega, fun z => absurd z hf4⟩
  -- the first horse wrong
  have fin1 : ∀ (x : Nat) (f nf1 : Int32), f ≠ 0 → x ≤ L → n ≤ x → f_X4_readNumber 0 (horses - 1) (nI L) 0 cfa (nI n) nf T = some (-1, f, nI (sk T L n), nI x, nf1) → f_X9_beast (-1) 0 (nI L) zn zt zp zv zg 0 cfa Z dr = some (0, zn, zt, zp, zv, zg, f, zp) → (∃ (n' : Nat) (cf' cfa' cn' nf' : Int32) (law' : Int32) (places' : Int32) (broad' : Int32) (horses' : Int32) (blinds' : Int32) (besides' : Int32) (tideN' : Int32) (cartN' : Int32) (due' : Int32) (prs' : Int64) (pull' : Nat → Int32) (str' : Nat → Int32) (back' : Nat → Int32) (moods' : Nat → Int32) (tides' : Nat → Int32) (carts' : Nat → Int32) (zn' zt' zp' zv' zg' zf' zfa' isDue' : Int32) (dr' pr' : Nat → Int32), f_X4_readParts 3 (nI L) 0 cfa (nI n) nf T law places broad horses blinds besides tideN cartN due prs pull str back moods tides carts = some (cf', cfa', cn', nf', law', places', broad', horses', blinds', besides', tideN', cartN', due', prs', pull', str', back', moods', tides', carts') ∧ f_X9_clause 3 (nI L) zn zt zp zv zg 0 cfa isDue Z dr pr = some (zn', zt', zp', zv', zg', zf', zfa', isDue', dr', pr') ∧ REL T L n' cf' cfa' cn' zn' zt' zp' zv' zg' zf' zfa' ∧ n ≤ n' ∧ (cf' = 0 → RD law' places' broad' horses' blinds' besides' tideN' cartN' due' prs' pull' str' back' moods' tides' carts' dr' isDue' pr' ∧ places' ≠ 0)) := by
    intro x f nf1 hf hx hnx g1 k1
    obtain ⟨y1, y2, y3⟩ := sk_f (T := T) hx
    have g2 := cn_bad (T := T) (lo := 0) (hi := horses - 1) (cfa := nI (sk T L n)) (nf := nf1) hL hx hf
    obtain ⟨r4', k2⟩ := bs_bad (Z := Z) (dr := dr) (L := L) (n1 := nI 0) (n2 := if zt = 2 ∧ ¬ 6 ≤ zv ∧ ((pr 0 >>> (zv &&& 31)) &&& 1) = 1 ∧ f = 0 then 1 else 0) (zn := zn) (zt := zt) (zp := zp) (zv := zv) (zg := zg) (zf := f) (zfa := zp) hf
    refine fin (sk T L x) f (nI (sk T L n)) nf1 zn zt zp zv zg hf y2 (by omega) (fun w zn5 zt5 zp5 zv5 zg5 zf5 zfa5 q hq => ?_) (fun vd f4 fa4 cn4 nf4 q5 f5 fa5 cn5 q6 hq => ?_)
    · rw [← hp] at q
      exact side_bad (a := 0) (by decide) k1 k2 q hq
    · have := hun _ _ _ _ _ g1 _ _ _ _ _ g2 0 f (nI (sk T L n)) hp_no1 (Or.inl ⟨Or.inl rfl, fl_1 hf⟩) _ _ _ _ _ q5 _ _ _ q6
      rw [if_neg hq, bn7_some] at this
      exact this
  rcases hnum (H := H) (cfa := cfa) (nf := nf) hX hn hH hA with ⟨g1, g2⟩ | ⟨g1, g2, g3, g4⟩ | ⟨a, ha, g1, g2, g3, g4, g5, g6, g7⟩
  · rw [← eH] at g1
    exact fin1 (sk T L n) 1 nf (by decide) sk2 sk1 g1 (bs_1 g2)
  · rw [← eH] at g1
    obtain ⟨w1, w2, w3, w4⟩ := fe_f (T := T) (L := L) (n := sk T L n) sk2
    exact fin1 (fe T L (sk T L n)) 2 (nI (sk T L n)) (by decide) w2 (by omega) g1 (bs_2 g2 (by rw [e3]; exact g3))
  · rw [← eH] at g1
    have ha6 : a < 6 := by omega
    have hlt : zv < dr 3 := by rw [g4, e3]; exact nI_lt ha (by omega)
    obtain ⟨zn1, zt1, zp1, zv1, zg1, k1, k2⟩ := tk_ok (n1 := 1) (n2 := 4) (zt := zt) (zp := zp) (zv := zv) (zg := zg) (zfa := cfa) hX g7 (by decide)
    have hb1 : f_X9_beast (-1) 0 (nI L) zn zt zp zv zg 0 cfa Z dr = some (nI a, zn1, zt1, zp1, zv1, zg1, 0, cfa) := by
      rw [bs_3 g2 g3 hlt, if_pos ⟨by rw [g4]; exact nI_ne (by omega), rfl⟩, g5, k1, g4]
    have hp1 := k2.1
    generalize fe T L (sk T L n) = e1 at *
    obtain ⟨y1, y2, y3⟩ := sk_f (T := T) g7
    have haH : a < horses.toNatClampNeg := by rw [hHc]; exact ha
    -- the second horse wrong
    have fin2 : ∀ (x : Nat) (f nf1 : Int32), f ≠ 0 → x ≤ L → n ≤ x → f_X4_readNumber 0 (horses - 1) (nI L) 0 cfa (nI e1) (nI (sk T L n)) T = some (-1, f, nI (sk T L e1), nI x, nf1) → f_X9_beast (nI a) (if zt1 = 2 ∧ ¬ 6 ≤ zv1 ∧ ((pr a >>> (zv1 &&& 31)) &&& 1) = 1 ∧ (0 : Int32) = 0 then 1 else 0) (nI L) zn1 zt1 zp1 zv1 zg1 0 cfa Z dr = some (0, zn1, zt1, zp1, zv1, zg1, f, zp1) → (∃ (n' : Nat) (cf' cfa' cn' nf' : Int32) (law' : Int32) (places' : Int32) (broad' : Int32) (horses' : Int32) (blinds' : Int32) (besides' : Int32) (tideN' : Int32) (cartN' : Int32) (due' : Int32) (prs' : Int64) (pull' : Nat → Int32) (str' : Nat → Int32) (back' : Nat → Int32) (moods' : Nat → Int32) (tides' : Nat → Int32) (carts' : Nat → Int32) (zn' zt' zp' zv' zg' zf' zfa' isDue' : Int32) (dr' pr' : Nat → Int32), f_X4_readParts 3 (nI L) 0 cfa (nI n) nf T law places broad horses blinds besides tideN cartN due prs pull str back moods tides carts = some (cf', cfa', cn', nf', law', places', broad', horses', blinds', besides', tideN', cartN', due', prs', pull', str', back', moods', tides', carts') ∧ f_X9_clause 3 (nI L) zn zt zp zv zg 0 cfa isDue Z dr pr = some (zn', zt', zp', zv', zg', zf', zfa', isDue', dr', pr') ∧ REL T L n' cf' cfa' cn' zn' zt' zp' zv' zg' zf' zfa' ∧ n ≤ n' ∧ (cf' = 0 → RD law' places' broad' horses' blinds' besides' tideN' cartN' due' prs' pull' str' back' moods' tides' carts' dr' isDue' pr' ∧ places' ≠ 0)) := by
      intro x f nf1 hf hx hnx q1 q2
      refine fin x f (nI (sk T L e1)) nf1 zn1 zt1 zp1 zv1 zg1 hf hx hnx (fun w zn5 zt5 zp5 zv5 zg5 zf5 zfa5 q hq => ?_) (fun vd f4 fa4 cn4 nf4 q5 f5 fa5 cn5 q6 hq => ?_)
      · rw [← hp1] at q
        exact side_bad (a := a) ha6 hb1 q2 q hq
      · have := hun _ _ _ _ _ g1 _ _ _ _ _ q1 0 f (nI (sk T L e1)) (hp_no2 haH ha6) (Or.inr ⟨fun z => by rcases z with z | z; exact absurd z (nI_ne (by omega)); exact z rfl, rfl, rfl⟩) _ _ _ _ _ q5 _ _ _ q6
        rw [if_neg hq, bn7_some] at this
        exact this
    rcases hnum (H := H) (cfa := cfa) (nf := nI (sk T L n)) hX g7 hH k2 with ⟨m1, m2⟩ | ⟨m1, m2, m3, m4⟩ | ⟨b, hb, m1, m2, m3, m4, m5, m6, m7⟩
    · rw [← eH] at m1
      exact fin2 (sk T L e1) 1 _ (by decide) y2 (by omega) m1 (bs_1 m2)
    · rw [← eH] at m1
      obtain ⟨w1, w2, w3, w4⟩ := fe_f (T := T) (L := L) (n := sk T L e1) y2
      exact fin2 (fe T L (sk T L e1)) 2 _ (by decide) w2 (by omega) m1 (bs_2 m2 (by rw [e3]; exact m3))
    · rw [← eH] at m1
      have hb6 : b < 6 := by omega
      have hbH : b < horses.toNatClampNeg := by rw [hHc]; exact hb
      have hlt2 : zv1 < dr 3 := by rw [m4, e3]; exact nI_lt hb (by omega)
      have h6b : ¬ (6 : Int32) ≤ zv1 := by rw [m4]; exact nI_ge (b := 6) hb6 (by decide)
      have hbit : ((pr a >>> (zv1 &&& 31)) &&& 1) = 1 ↔ prs.toBitVec.getLsbD (a * 6 + b) = true := by
        rw [and_01, m4, bt32 _ hb6, r4 a b ha6 hb6]
        cases (pr a).toBitVec.getLsbD b <;> simp
      have hpi := hp_is (prs := prs) haH ha6 hbH hb6
      by_cases bad : a = b ∨ prs.toBitVec.getLsbD (a * 6 + b) = true
      · -- again
        have hbe : f_X9_beast (nI a) (if zt1 = 2 ∧ ¬ 6 ≤ zv1 ∧ ((pr a >>> (zv1 &&& 31)) &&& 1) = 1 ∧ (0 : Int32) = 0 then 1 else 0) (nI L) zn1 zt1 zp1 zv1 zg1 0 cfa Z dr = some (0, zn1, zt1, zp1, zv1, zg1, 4, zp1) := by
          rw [bs_3 m2 m3 hlt2, if_neg, tk_no (by decide)]
          rintro ⟨z1, z2⟩
          rcases bad with z | z
          · exact z1 (by rw [m4, z])
          · rw [if_pos ⟨m2, h6b, hbit.mpr z, rfl⟩] at z2
            exact absurd z2 (by decide)
        refine fin (fe T L (sk T L e1)) 4 (nI (sk T L e1)) (nI (sk T L e1)) zn1 zt1 zp1 zv1 zg1 (by decide) m7 (by omega) (fun w zn5 zt5 zp5 zv5 zg5 zf5 zfa5 q hq => ?_) (fun vd f4 fa4 cn4 nf4 q5 f5 fa5 cn5 q6 hq => ?_)
        · rw [← hp1] at q
          exact side_bad (a := a) ha6 hb1 hbe q hq
        · have := hun _ _ _ _ _ g1 _ _ _ _ _ m1 _ 4 (nI (sk T L e1)) hpi (Or.inl ⟨by
            rcases bad with z | z
            · exact Or.inl (by rw [z])
            · exact Or.inr (by rw [if_pos z]; decide), fl_0⟩) _ _ _ _ _ q5 _ _ _ q6
          rw [if_neg hq, bn7_some] at this
          exact this
      · have hab : a ≠ b := fun z => bad (Or.inl z)
        have hnb : ¬ prs.toBitVec.getLsbD (a * 6 + b) = true := fun z => bad (Or.inr z)
        obtain ⟨zn2, zt2, zp2, zv2, zg2, l1, l2⟩ := tk_ok (n1 := 1) (n2 := 4) (zt := zt1) (zp := zp1) (zv := zv1) (zg := zg1) (zfa := cfa) hX m7 (by decide)
        have hbe : f_X9_beast (nI a) (if zt1 = 2 ∧ ¬ 6 ≤ zv1 ∧ ((pr a >>> (zv1 &&& 31)) &&& 1) = 1 ∧ (0 : Int32) = 0 then 1 else 0) (nI L) zn1 zt1 zp1 zv1 zg1 0 cfa Z dr = some (nI b, zn2, zt2, zp2, zv2, zg2, 0, cfa) := by
          have hnA : ¬ (zt1 = 2 ∧ ¬ 6 ≤ zv1 ∧ ((pr a >>> (zv1 &&& 31)) &&& 1) = 1 ∧ (0 : Int32) = 0) := fun z => hnb (hbit.mp z.2.2.1)
          have hne : zv1 ≠ nI a := by rw [m4]; exact fun z => hab ((nI_eq (by omega) (by omega)).mp z).symm
          rw [bs_3 m2 m3 hlt2, if_neg hnA, if_pos ⟨hne, rfl⟩, m5, l1, m4]
        have hR : REL T L (fe T L (sk T L e1)) 0 cfa (nI (fe T L (sk T L e1))) zn2 zt2 zp2 zv2 zg2 0 cfa := ⟨rfl, m7, rfl, rfl, fun _ => l2⟩
        obtain ⟨n3, v3, f3, fa3, cn3, nf3, w3, zn3, zt3, zp3, zv3, zg3, zf3, zfa3, s1, s2, s3, s4, s5⟩ := m_num (lo := 0) (hi := 10) (nf := nI (sk T L e1)) hX hR
        obtain ⟨n4, f4, fa4, cn4, zn4, zt4, zp4, zv4, zg4, zf4, zfa4, t1, t2, t3, t4, t5⟩ := m_semi hX s3
        have hcl := hun _ _ _ _ _ g1 _ _ _ _ _ m1 _ 0 cfa hpi (Or.inr ⟨fun z => by
            rcases z with z | z
            · exact hab ((nI_eq (by omega) (by omega)).mp z)
            · rw [if_neg hnb] at z; exact z rfl, rfl, rfl⟩) _ _ _ _ _ s1 _ _ _ t1
        have hzcl : ∀ drx prx, f_X9_beside (nI L) zn zt zp zv zg 0 cfa Z dr pr = some (zn3, zt3, zp3, zv3, zg3, zf3, zfa3, drx, prx) → f_X9_clause 3 (nI L) zn zt zp zv zg 0 cfa isDue Z dr pr = some (zn4, zt4, zp4, zv4, zg4, zf4, zfa4, isDue, drx, prx) := fun drx prx hz => by
          unfold f_X9_clause
          rw [jn10_e, if_neg (by decide), if_neg (by decide), if_neg (by decide), if_pos rfl, hz, bn9_some]
          dsimp only
          rw [t2, bn7_some]
        by_cases c3 : f3 = 0
        · have hzf3 : zf3 = 0 := by rw [s3.2.2.1]; exact c3
          have s2' := s2
          rw [hzf3] at s2'
          have hz := side_ok ha6 hb6 hb1 hbe s2'
          have hz2 := hzcl _ _ (by rw [hzf3]; exact hz)
          obtain ⟨s6, s7, s8, s9⟩ := s5 c3
          by_cases c4 : f4 = 0
          · have eab : nI a * 6 + nI b = nI (a * 6 + b) := by rw [lit_n 6, pk_mul, nI_add]
            have hadd : f_X0_addBeside (nI a) (nI b) (v3 - 5) horses besides prs moods = some (besides + 1, prs ||| ((1 : Int64) <<< ((nI (a * 6 + b)).toInt64 &&& 63)), upd moods (a * 6 + b) (v3 - 5)) := by
              unfold f_X0_addBeside
              rw [e_cHorse haH ha6, bn1_some, if_neg (show ¬ (1 : Int32) = 0 by decide), e_cHorse hbH hb6, bn1_some, if_neg (show ¬ (1 : Int32) = 0 by decide), eab, if_neg (idx_ok (k := a * 6 + b) rfl (show a * 6 + b < 36 by omega) (by decide)), nI_clamp (by omega)]
            rw [if_pos c4, hadd, bn3_some, bn7_some] at hcl
            refine ⟨n4, _, _, _, _, _, _, _, _, _, _, _, _, _, _, _, _, _, _, _, _, _, _, _, _, _, _, _, _, _, _,  hcl, hz2, t3, by omega, fun _ => ?_⟩
            have hd : ∀ j, j ≠ 6 → j ≠ 32 + 6 * a + b → upd (upd dr (32 + 6 * a + b) w3) 6 (dr 6 + 1) j = dr j := fun j h1 h2 => by rw [upd_n h1, upd_n h2]
            obtain ⟨bk, hbk, ebk⟩ := nI_of2 (M := 11) (n := 11) rfl (x := besides) (by grind) (by grind)
            refine ⟨?_, hpn⟩
            refine ⟨⟨by rw [hd 0 (by omega) (by omega)]; exact hpl, by rw [hd 1 (by omega) (by omega)]; exact b1, b2, by rw [hd 2 (by omega) (by omega)]; exact hbr, by rw [hd 3 (by omega) (by omega)]; exact ⟨ho1, ho2, ho3⟩, by rw [hd 4 (by omega) (by omega)]; exact hca, by rw [hd 5 (by omega) (by omega)]; exact hdu, by rw [hd 7 (by omega) (by omega)]; exact hti, fun h hh' => ?_, fun x y hx hy => ?_, fun i hi => ?_, fun c hc' => ?_⟩, ⟨by rw [upd_s, be1], by rw [ebk, nI_1]; exact nI_pos' (by omega), by rw [ebk, nI_1]; exact nI_le (b := 12) (by omega) (by decide)⟩, r2, fun h hh' => by rw [hd _ (by omega) (by omega)]; exact r3 h hh', fun x y hx hy => ?_, r5⟩
            · have h6 : h < 6 := by rw [eH, nI_clamp (by omega)] at hh'; omega
              rw [hd _ (by omega) (by omega), hd _ (by omega) (by omega), hd _ (by omega) (by omega), hd _ (by omega) (by omega)]; exact hh h hh'
            · by_cases e : x = a ∧ y = b
              · obtain ⟨rfl, rfl⟩ := e
                rw [upd_n (by omega), upd_s, upd_s, ← s7]
                refine ⟨rfl, ?_⟩
                have e5 : v3 - 5 = jI (v3.toInt - 5) := by rw [← jI_sub, jI_self]; rfl
                rw [i_le] at s8 s9
                have z0 : (0 : Int32).toInt = 0 := rfl
                have z10 : (10 : Int32).toInt = 10 := rfl
                rw [e5, i_le, i_le, jI_toInt (by omega) (by omega)]
                have z5 : (-5 : Int32).toInt = -5 := rfl
                have z55 : (5 : Int32).toInt = 5 := rfl
                omega
              · rw [hd _ (by omega) (by omega), upd_n (by omega)]; exact hm x y hx hy
            · rw [hd _ (by omega) (by omega)]; exact htd i hi
            · rw [hd _ (by omega) (by omega)]; exact hcc c hc'
            · rw [or64 _ (by omega) (by omega)]
              by_cases e : x = a
              · subst e
                rw [upd_s, or32 _ hb6 hy]
                by_cases e2 : y = b
                · subst e2; simp
                · rw [decide_eq_false (show ¬ x * 6 + b = x * 6 + y by omega), decide_eq_false (show ¬ b = y by omega), Bool.or_false, Bool.or_false]; exact r4 x y hx hy
              · rw [upd_n e, decide_eq_false (show ¬ a * 6 + b = x * 6 + y by omega), Bool.or_false]; exact r4 x y hx hy
          · rw [if_neg c4, bn7_some] at hcl
            exact ⟨n4, _, _, _, _, _, _, _, _, _, _, _, _, _, _, _, _, _, _, _, _, _, _, _, _, _, _, _, _, _, _,  hcl, hz2, t3, by omega, fun z => absurd z c4⟩
        · have hzf3 : zf3 ≠ 0 := by rw [s3.2.2.1]; exact c3
          have hz2 := hzcl _ _ (side_bad ha6 hb1 hbe s2 hzf3)
          have c4 : f4 ≠ 0 := fun z => c3 (t5 z)
          rw [if_neg c4, bn7_some] at hcl
          exact ⟨n4, _, _, _, _, _, _, _, _, _, _, _, _, _, _, _, _, _, _, _, _, _, _, _, _, _, _, _, _, _, _,  hcl, hz2, t3, by omega, fun z => absurd z c4⟩
