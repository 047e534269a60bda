/-! PURE SIDE: clauses of both: blind, beside (written by wip/whole/gen/mkclause2.py) -/
theorem bs_1 {Z dr : Nat → Int32} {L n1 n2 zn zt zp zv zg zfa : Int32} (h : zt ≠ 2) : f_X9_beast n1 n2 L zn zt zp zv zg 0 zfa Z dr = some (0, zn, zt, zp, zv, zg, 1, zp) := by
  unfold f_X9_beast
  rw [if_neg h, zf_0, bn2_some]
theorem bs_2 {Z dr : Nat → Int32} {L n1 n2 zn zt zp zv zg zfa : Int32} (h : zt = 2) (h2 : 3 < zg ∨ ¬ zv < dr 3) : f_X9_beast n1 n2 L zn zt zp zv zg 0 zfa Z dr = some (0, zn, zt, zp, zv, zg, 2, zp) := by
  have q3 : dr (Int32.toNatClampNeg 3) = dr 3 := rfl
  unfold f_X9_beast
  rw [if_pos h, zf_0, q3]
  dsimp only [jn1, bn2]
  by_cases c : (3 : Int32) < zg
  · rw [if_pos c]
  · rw [if_neg c, if_neg (h2.resolve_left c)]
theorem bs_3 {Z dr : Nat → Int32} {L n1 n2 zn zt zp zv zg zf zfa : Int32} (h : zt = 2) (h2 : ¬ 3 < zg) (h3 : zv < dr 3) : f_X9_beast n1 n2 L zn zt zp zv zg zf zfa Z dr = f_X9_takes (if zv ≠ n1 ∧ n2 = 0 then 1 else 0) 4 L zn zt zp zv zg zf zfa Z := by
  have q3 : dr (Int32.toNatClampNeg 3) = dr 3 := rfl
  have hid : ∀ A : Option (Int32 × Int32 × Int32 × Int32 × Int32 × Int32 × Int32 × Int32), bn8 A (fun a b c d e f g h => some (a, b, c, d, e, f, g, h)) = A := fun A => by
    cases A <;> rfl
  unfold f_X9_beast
  rw [if_pos h, q3]
  dsimp only [jn1]
  rw [if_neg h2, if_pos h3, hid, hid]
  by_cases c1 : zv = n1
  · rw [if_pos c1, if_neg (fun z => z.1 c1)]
  · rw [if_neg c1]
    by_cases c2 : n2 = 0
    · rw [if_pos c2, if_pos ⟨c1, c2⟩]
    · rw [if_neg c2, if_neg (fun z => c2 z.2)]
theorem bs_bad {Z dr : Nat → Int32} {L : Nat} {n1 n2 zn zt zp zv zg zf zfa : Int32} (hf : zf ≠ 0) : ∃ r, f_X9_beast n1 n2 (nI L) zn zt zp zv zg zf zfa Z dr = some (r, zn, zt, zp, zv, zg, zf, zfa) := by
  by_cases h : zt = 2
  · by_cases h2 : ¬ 3 < zg ∧ zv < dr 3
    · rw [bs_3 h h2.1 h2.2, tk_bad hf]; exact ⟨_, rfl⟩
    · have q3 : dr (Int32.toNatClampNeg 3) = dr 3 := rfl
      unfold f_X9_beast
      rw [if_pos h, zf_1 hf, q3]
      dsimp only [jn1, bn2]
      by_cases c : (3 : Int32) < zg
      · rw [if_pos c]; exact ⟨_, rfl⟩
      · rw [if_neg c, if_neg (fun z => h2 ⟨c, z⟩)]; exact ⟨_, rfl⟩
  · unfold f_X9_beast
    rw [if_neg h, zf_1 hf, bn2_some]; exact ⟨_, rfl⟩
theorem wl_0 : f_X9_isWell 0 = some 1 := by unfold f_X9_isWell; rw [if_pos rfl]
theorem wl_1 {zf : Int32} (h : zf ≠ 0) : f_X9_isWell zf = some 0 := by unfold f_X9_isWell; rw [if_neg h]
theorem e_cBlind_no (blinds : Int32) : f_X0_isBlind (-1) blinds = some 0 := by
  unfold f_X0_isBlind; rw [if_pos (by decide)]
/-- blind again? -/
def bAg (zt zv zg : Int32) (dr : Nat → Int32) : Prop := zt = 2 ∧ ¬ 4 ≤ zg ∧ ¬ dr 3 ≤ zv ∧ dr (8 + 4 * zv.toNatClampNeg + 3) = 1
theorem blind_eq {Z dr : Nat → Int32} {L zn zt zp zv zg zf zfa ag : Int32} (h3 : 0 ≤ dr 3 ∧ dr 3 ≤ 6) (hv : zt = 2 → 0 ≤ zv) (hag : (bAg zt zv zg dr ∧ ag = 1) ∨ (¬ bAg zt zv zg dr ∧ ag = 0)) : f_X9_blind L zn zt zp zv zg zf zfa Z dr = bn8 (f_X9_beast (-1) ag L zn zt zp zv zg zf zfa Z dr) (fun (r_2 : Int32) (z_next_2 : Int32) (z_token_2 : Int32) (z_place_2 : Int32) (z_value_2 : Int32) (z_figures_2 : Int32) (z_fault_2 : Int32) (z_faultAt_2 : Int32) => bn1 (f_X9_isWell z_fault_2) (fun (r_3 : Int32) => jn1 (fun (z2_4 : Int32) => if (((8 : Int32) + ((4 : Int32) * r_2)) + (3 : Int32)) < 0 ∨ 84 ≤ ((((8 : Int32) + ((4 : Int32) * r_2)) + (3 : Int32))).toNatClampNeg then none else some (z_next_2, z_token_2, z_place_2, z_value_2, z_figures_2, z_fault_2, z_faultAt_2, (upd dr ((((8 : Int32) + ((4 : Int32) * r_2)) + (3 : Int32))).toNatClampNeg z2_4))) (fun J98_4 => if r_3 = 0 then if (((8 : Int32) + ((4 : Int32) * r_2)) + (3 : Int32)) < 0 ∨ 84 ≤ ((((8 : Int32) + ((4 : Int32) * r_2)) + (3 : Int32))).toNatClampNeg then none else J98_4 (dr ((((8 : Int32) + ((4 : Int32) * r_2)) + (3 : Int32))).toNatClampNeg) else J98_4 (1 : Int32)))) := by
  have q3 : dr (Int32.toNatClampNeg 3) = dr 3 := rfl
  have key : ∀ G : Int32 → Option (Int32 × Int32 × Int32 × Int32 × Int32 × Int32 × Int32 × (Nat → Int32)), jn1 G (fun J54 => jn1 (fun (_ : Unit) => J54 0) (fun J53 => if zt = 2 then if (4 : Int32) ≤ zg then J53 () else if dr 3 ≤ zv then J53 () else if (((8 : Int32) + ((4 : Int32) * zv)) + (3 : Int32)) < 0 ∨ 84 ≤ ((((8 : Int32) + ((4 : Int32) * zv)) + (3 : Int32))).toNatClampNeg then none else if (dr ((((8 : Int32) + ((4 : Int32) * zv)) + (3 : Int32))).toNatClampNeg) = 1 then J54 1 else J53 () else J53 ())) = G ag := by
    intro G
    dsimp only [jn1]
    by_cases c1 : zt = 2
    · rw [if_pos c1]
      by_cases c2 : (4 : Int32) ≤ zg
      · rw [if_pos c2]
        rcases hag with z | z
        · exact absurd c2 z.1.2.1
        · rw [z.2]
      · rw [if_neg c2]
        by_cases c3 : dr 3 ≤ zv
        · rw [if_pos c3]
          rcases hag with z | z
          · exact absurd c3 z.1.2.2.1
          · rw [z.2]
        · rw [if_neg c3]
          have h0 := hv c1
          obtain ⟨k, hk, ek⟩ := nI_of2 (M := 6) (n := 6) rfl (x := zv) (by grind) (by grind)
          have hk6 : k < 6 := by
            rw [ek] at c3
            have h5 := h3.2
            rw [i_le] at h5 c3
            rw [nI_toInt (by omega)] at c3
            have h6 : (6 : Int32).toInt = 6 := rfl
            omega
          have e1 : (8 : Int32) + 4 * nI k + 3 = nI (8 + 4 * k + 3) := by rw [lit_n 4, pk_mul, lit_n 8, nI_add]; exact nI_add _ 3
          have ekc : zv.toNatClampNeg = k := by rw [ek, nI_clamp (by omega)]
          unfold bAg at hag
          rw [ekc] at hag
          rw [ek, e1, if_neg (idx_ok (k := 8 + 4 * k + 3) rfl (show 8 + 4 * k + 3 < 84 by omega) (by decide)), nI_clamp (by omega)]
          rw [ek] at c3
          by_cases c4 : dr (8 + 4 * k + 3) = 1
          · rw [if_pos c4]
            rcases hag with z | z
            · rw [z.2]
            · exact absurd ⟨c1, c2, by rw [ek]; exact c3, c4⟩ z.1
          · rw [if_neg c4]
            rcases hag with z | z
            · exact absurd z.1.2.2.2 c4
            · rw [z.2]
    · rw [if_neg c1]
      rcases hag with z | z
      · exact absurd z.1.1 c1
      · rw [z.2]
  unfold f_X9_blind
  rw [q3]
  refine (key _).trans ?_
  rfl
theorem upd_id {dr : Nat → Int32} {k : Nat} : upd dr k (dr k) = dr := by
  funext j
  by_cases c : j = k
  · subst c; rw [upd_s]
  · rw [upd_n c]
theorem blind_fail {Z dr : Nat → Int32} {L zn zt zp zv zg zfa ag f : Int32} (hf : f ≠ 0) (h3 : 0 ≤ dr 3 ∧ dr 3 ≤ 6) (hv : zt = 2 → 0 ≤ zv) (hag : (bAg zt zv zg dr ∧ ag = 1) ∨ (¬ bAg zt zv zg dr ∧ ag = 0)) (hb : f_X9_beast (-1) ag L zn zt zp zv zg 0 zfa Z dr = some (0, zn, zt, zp, zv, zg, f, zp)) : f_X9_blind L zn zt zp zv zg 0 zfa Z dr = some (zn, zt, zp, zv, zg, f, zp, dr) := by
  rw [blind_eq h3 hv hag, hb, bn8_some, wl_1 hf, bn1_some, jn1_d]
  have e1 : (8 : Int32) + 4 * 0 + 3 = nI 11 := by decide
  rw [e1, if_pos rfl, if_neg (idx_ok (k := 11) rfl (show 11 < 84 by decide) (by decide))]
  dsimp only
  rw [if_neg (idx_ok (k := 11) rfl (show 11 < 84 by decide) (by decide)), nI_clamp (by omega), upd_id]
theorem c_blind {law places broad horses blinds besides tideN cartN due cfa nf zn zt zp zv zg isDue : Int32} {prs : Int64} {pull str back moods tides carts dr pr T Z : Nat → Int32} {L n : Nat} (hX : TX T Z L) (hn : n ≤ L) (hA : ADV T L n zn zt zp zv zg) (hD : RD law places broad horses blinds besides tideN cartN due prs pull str back moods tides carts dr isDue pr) (hpn : places ≠ 0) :
    ∃ (n' : Nat) (cf' cfa' cn' nf' : Int32) (law' : Int32) (places' : Int32) (broad' : Int32) (horses' : Int32) (blinds' : Int32) (besides' : Int32) (tideN' : Int32) (cartN' : Int32) (due' : Int32) (prs' : Int64) (pull' : Nat → Int32) (str' : Nat → Int32) (back' : Nat → Int32) (moods' : Nat → Int32) (tides' : Nat → Int32) (carts' : Nat → Int32) (zn' zt' zp' zv' zg' zf' zfa' isDue' : Int32) (dr' pr' : Nat → Int32), f_X4_readParts 2 (nI L) 0 cfa (nI n) nf T law places broad horses blinds besides tideN cartN due prs pull str back moods tides carts = some (cf', cfa', cn', nf', law', places', broad', horses', blinds', besides', tideN', cartN', due', prs', pull', str', back', moods', tides', carts') ∧ f_X9_clause 2 (nI L) zn zt zp zv zg 0 cfa isDue Z dr pr = some (zn', zt', zp', zv', zg', zf', zfa', isDue', dr', pr') ∧ REL T L n' cf' cfa' cn' zn' zt' zp' zv' zg' zf' zfa' ∧ n ≤ n' ∧ (cf' = 0 → RD law' places' broad' horses' blinds' besides' tideN' cartN' due' prs' pull' str' back' moods' tides' carts' dr' isDue' pr' ∧ places' ≠ 0) := by
  have hL := hX.1
  obtain ⟨⟨hpl, b1, b2, hbr, ⟨ho1, ho2, ho3⟩, hca, hdu, hti, hh, hm, htd, hcc⟩, r1, r2, r3, r4, r5⟩ := id hD
  obtain ⟨H, hH, eH⟩ := nI_of2 (M := 6) (n := 6) rfl (x := horses) (by grind) ho3
  have e3 : dr 3 = nI H := ho1.trans eH
  have h36 : 0 ≤ dr 3 ∧ dr 3 ≤ 6 := by rw [ho1]; exact ⟨ho2, ho3⟩
  have hp := hA.1
  obtain ⟨sk1, sk2, sk3⟩ := sk_f (T := T) hn
  -- a fault of the class and of the reference: nothing more changes
  have fin : ∀ (x : Nat) (f nf1 : Int32), f ≠ 0 → x ≤ L → n ≤ x → f_X9_blind (nI L) zn zt zp zv zg 0 cfa Z dr = some (zn, zt, zp, zv, zg, f, zp, dr) → (∀ (f4 fa4 cn4 : Int32), f_X4_readSemicolon (nI L) f (nI (sk T L n)) (nI x) T = some (f4, fa4, cn4) → f4 ≠ 0 → f_X4_readParts 2 (nI L) 0 cfa (nI n) nf T law places broad horses blinds besides tideN cartN due prs pull str back moods tides carts = some (f4, fa4, cn4, nf1, law, places, broad, horses, blinds, besides, tideN, cartN, due, prs, pull, str, back, moods, tides, carts)) → (∃ (n' : Nat) (cf' cfa' cn' nf' : Int32) (law' : Int32) (places' : Int32) (broad' : Int32) (horses' : Int32) (blinds' : Int32) (besides' : Int32) (tideN' : Int32) (cartN' : Int32) (due' : Int32) (prs' : Int64) (pull' : Nat → Int32) (str' : Nat → Int32) (back' : Nat → Int32) (moods' : Nat → Int32) (tides' : Nat → Int32) (carts' : Nat → Int32) (zn' zt' zp' zv' zg' zf' zfa' isDue' : Int32) (dr' pr' : Nat → Int32), f_X4_readParts 2 (nI L) 0 cfa (nI n) nf T law places broad horses blinds besides tideN cartN due prs pull str back moods tides carts = some (cf', cfa', cn', nf', law', places', broad', horses', blinds', besides', tideN', cartN', due', prs', pull', str', back', moods', tides', carts') ∧ f_X9_clause 2 (nI L) zn zt zp zv zg 0 cfa isDue Z dr pr = some (zn', zt', zp', zv', zg', zf', zfa', isDue', dr', pr') ∧ REL T L n' cf' cfa' cn' zn' zt' zp' zv' zg' zf' zfa' ∧ n ≤ n' ∧ (cf' = 0 → RD law' places' broad' horses' blinds' besides' tideN' cartN' due' prs' pull' str' back' moods' tides' carts' dr' isDue' pr' ∧ places' ≠ 0)) := by
    intro x f nf1 hf hx hnx hz hc
    have hR : REL T L x f (nI (sk T L n)) (nI x) zn zt zp zv zg f zp := ⟨rfl, hx, rfl, hp, fun z => absurd z hf⟩
    obtain ⟨n4, f4, fa4, cn4, zn4, zt4, zp4, zv4, zg4, zf4, zfa4, t1, t2, t3, t4, t5⟩ := m_semi hX hR
    have hf4 : f4 ≠ 0 := fun z => hf (t5 z)
    have hz2 : f_X9_clause 2 (nI L) zn zt zp zv zg 0 cfa isDue Z dr pr = some (zn4, zt4, zp4, zv4, zg4, zf4, zfa4, isDue, dr, pr) := by
      unfold f_X9_clause
      rw [jn10_e, if_neg (by decide), if_neg (by decide), if_pos rfl, hz, bn8_some]
      dsimp only
      rw [t2, bn7_some]
    exact ⟨n4, _, _, _, _, _, _, _, _, _, _, _, _, _, _, _, _, _, _, _, _, _, _, _, _, _, _, _, _, _, _,  hc _ _ _ t1 hf4, hz2, t3, by omega, fun z => absurd z hf4⟩
  have hun : ∀ (v f1 fa1 cn1 nf1 : Int32), f_X4_readNumber 0 (horses - 1) (nI L) 0 cfa (nI n) nf T = some (v, f1, fa1, cn1, nf1) → ∀ (bl f2 fa2 : Int32), f_X0_isBlind v blinds = some bl → ((bl = 0 ∧ f2 = f1 ∧ fa2 = fa1) ∨ (bl ≠ 0 ∧ f_X4_fail 4 nf1 f1 fa1 = some (f2, fa2))) → ∀ (f4 fa4 cn4 : Int32), f_X4_readSemicolon (nI L) f2 fa2 cn1 T = some (f4, fa4, cn4) → f_X4_readParts 2 (nI L) 0 cfa (nI n) nf T law places broad horses blinds besides tideN cartN due prs pull str back moods tides carts = some (f4, fa4, cn4, nf1, law, places, broad, horses, if f4 = 0 then blinds ||| ((1 : Int32) <<< (v &&& 31)) else blinds, besides, tideN, cartN, due, prs, pull, str, back, moods, tides, carts) := by
    intro v f1 fa1 cn1 nf1 q1 bl f2 fa2 q2 q3 f4 fa4 cn4 q4
    unfold f_X4_readParts f_X4_readBlind
    rw [if_neg (by decide), if_neg (by decide), if_pos rfl, q1, bn5_some, q2, bn1_some, jn2_d]
    have tail : bn5 (bn3 (f_X4_readSemicolon (nI L) f2 fa2 cn1 T) (fun (r_fault_4 : Int32) (r_faultAt_4 : Int32) (r_next_4 : Int32) => if r_fault_4 = 0 then some (r_fault_4, r_faultAt_4, r_next_4, nf1, (blinds ||| ((1 : Int32) <<< (v &&& 31)))) else some (r_fault_4, r_faultAt_4, r_next_4, nf1, blinds))) (fun (r_fault_3 : Int32) (r_faultAt_3 : Int32) (r_next_3 : Int32) (r_numberFrom_3 : Int32) (b_blinds_3 : Int32) => some (r_fault_3, r_faultAt_3, r_next_3, r_numberFrom_3, law, places, broad, horses, b_blinds_3, besides, tideN, cartN, due, prs, pull, str, back, moods, tides, carts)) = some (f4, fa4, cn4, nf1, law, places, broad, horses, if f4 = 0 then blinds ||| ((1 : Int32) <<< (v &&& 31)) else blinds, besides, tideN, cartN, due, prs, pull, str, back, moods, tides, carts) := by
      rw [q4, bn3_some]
      by_cases c : f4 = 0
      · rw [if_pos c, if_pos c, bn5_some]
      · rw [if_neg c, if_neg c, bn5_some]
    rcases q3 with ⟨z1, z2, z3⟩ | ⟨z1, z2⟩
    · rw [if_pos z1, ← z2, ← z3]; exact tail
    · rw [if_neg z1, z2, bn2_some]; exact tail
  rcases hnum (H := H) (cfa := cfa) (nf := nf) hX hn hH hA with ⟨g1, g2⟩ | ⟨g1, g2, g3, g4⟩ | ⟨k, hk, g1, g2, g3, g4, g5, g6, g7⟩
  · rw [← eH] at g1
    refine fin (sk T L n) 1 nf (by decide) sk2 sk1 (blind_fail (ag := 0) (by decide) h36 (fun z => absurd z g2) (Or.inr ⟨fun z => g2 z.1, rfl⟩) (bs_1 g2)) (fun f4 fa4 cn4 q hf4 => ?_)
    have := hun _ _ _ _ _ g1 0 _ _ (e_cBlind_no _) (Or.inl ⟨rfl, rfl, rfl⟩) _ _ _ q
    rw [if_neg hf4] at this
    exact this
  · rw [← eH] at g1
    obtain ⟨w1, w2, w3, w4⟩ := fe_f (T := T) (L := L) (n := sk T L n) sk2
    have hno : ¬ bAg zt zv zg dr := fun z => by
      rcases g3 with y | y
      · exact z.2.1 (by grind)
      · exact z.2.2.1 (by rw [e3]; grind)
    refine fin (fe T L (sk T L n)) 2 (nI (sk T L n)) (by decide) w2 (by omega) (blind_fail (ag := 0) (by decide) h36 (fun _ => g4) (Or.inr ⟨hno, rfl⟩) (bs_2 g2 (by rw [e3]; exact g3))) (fun f4 fa4 cn4 q hf4 => ?_)
    have := hun _ _ _ _ _ g1 0 _ _ (e_cBlind_no _) (Or.inl ⟨rfl, rfl, rfl⟩) _ _ _ q
    rw [if_neg hf4] at this
    exact this
  · rw [← eH] at g1
    have hk6 : k < 6 := by omega
    have hvc : zv.toNatClampNeg = k := by rw [g4, nI_clamp (by omega)]
    have hv0 : zt = 2 → 0 ≤ zv := fun _ => by rw [g4]; exact nI_pos' (by omega)
    have hlt : zv < dr 3 := by rw [g4, e3]; exact nI_lt hk (by omega)
    have hbk := r3 k hk6
    by_cases cb : (blinds >>> (nI k &&& 31)) &&& 1 = 0
    · rw [if_pos cb] at hbk
      have hno : ¬ bAg zt zv zg dr := fun z => by
        have := z.2.2.2
        rw [hvc, hbk] at this
        exact absurd this (by decide)
      obtain ⟨zn1, zt1, zp1, zv1, zg1, k1, k2⟩ := tk_ok (n1 := 1) (n2 := 4) (zt := zt) (zp := zp) (zv := zv) (zg := zg) (zfa := cfa) hX g7 (by decide)
      have hb : f_X9_beast (-1) 0 (nI L) zn zt zp zv zg 0 cfa Z dr = some (zv, zn1, zt1, zp1, zv1, zg1, 0, cfa) := by
        rw [bs_3 g2 g3 hlt, if_pos ⟨by rw [g4]; exact nI_ne (by omega), rfl⟩, g5, k1]
      have e1 : (8 : Int32) + 4 * nI k + 3 = nI (8 + 4 * k + 3) := by rw [lit_n 4, pk_mul, lit_n 8, nI_add]; exact nI_add _ 3
      have hz : f_X9_blind (nI L) zn zt zp zv zg 0 cfa Z dr = some (zn1, zt1, zp1, zv1, zg1, 0, cfa, upd dr (8 + 4 * k + 3) 1) := by
        rw [blind_eq (ag := 0) h36 hv0 (Or.inr ⟨hno, rfl⟩), hb, bn8_some, wl_0, bn1_some, jn1_d, g4, e1, if_neg (show ¬ (1 : Int32) = 0 by decide)]
        dsimp only
        rw [if_neg (idx_ok (k := 8 + 4 * k + 3) rfl (show 8 + 4 * k + 3 < 84 by omega) (by decide)), nI_clamp (by omega)]
      have hR : REL T L (fe T L (sk T L n)) 0 cfa (nI (fe T L (sk T L n))) zn1 zt1 zp1 zv1 zg1 0 cfa := ⟨rfl, g7, rfl, rfl, fun _ => k2⟩
      obtain ⟨n4, f4, fa4, cn4, zn4, zt4, zp4, zv4, zg4, zf4, zfa4, t1, t2, t3, t4, t5⟩ := m_semi hX hR
      have hz2 : f_X9_clause 2 (nI L) zn zt zp zv zg 0 cfa isDue Z dr pr = some (zn4, zt4, zp4, zv4, zg4, zf4, zfa4, isDue, upd dr (8 + 4 * k + 3) 1, pr) := by
        unfold f_X9_clause
        rw [jn10_e, if_neg (by decide), if_neg (by decide), if_pos rfl, hz, bn8_some]
        dsimp only
        rw [t2, bn7_some]
      have hc := hun _ _ _ _ _ g1 0 _ _ (by rw [e_cBlind hk6, if_pos cb]) (Or.inl ⟨rfl, rfl, rfl⟩) _ _ _ t1
      refine ⟨n4, _, _, _, _, _, _, _, _, _, _, _, _, _, _, _, _, _, _, _, _, _, _, _, _, _, _, _, _, _, _,  hc, hz2, t3, by omega, fun z => ?_⟩
      rw [if_pos z]
      have hd : ∀ j, j ≠ 8 + 4 * k + 3 → upd dr (8 + 4 * k + 3) 1 j = dr j := fun j h1 => upd_n h1
      have hnew : ∀ h, h < 6 → upd dr (8 + 4 * k + 3) 1 (8 + 4 * h + 3) = if ((blinds ||| ((1 : Int32) <<< (nI k &&& 31))) >>> (nI h &&& 31)) &&& 1 = 0 then 0 else 1 := fun h h6 => by
        by_cases e : h = k
        · subst e
          rw [upd_s, if_neg]
          rw [bt32 _ h6, or32 _ h6 h6]
          simp
        · rw [hd _ (by omega), r3 h h6]
          refine if_iff ?_ _ _
          rw [bt32 _ h6, bt32 _ h6, or32 _ hk6 h6, decide_eq_false (fun z => e z.symm), Bool.or_false]
      refine ⟨?_, hpn⟩
      refine ⟨⟨by rw [hd 0 (by omega)]; exact hpl, by rw [hd 1 (by omega)]; exact b1, b2, by rw [hd 2 (by omega)]; exact hbr, by rw [hd 3 (by omega)]; exact ⟨ho1, ho2, ho3⟩, by rw [hd 4 (by omega)]; exact hca, by rw [hd 5 (by omega)]; exact hdu, by rw [hd 7 (by omega)]; exact hti, fun h hh' => ?_, fun a b ha hb => ?_, fun i hi => ?_, fun c hc' => ?_⟩, by rw [hd 6 (by omega)]; exact r1, r2, hnew, r4, fun h hh' hn' => ?_⟩
      · have h6 : h < 6 := by rw [eH, nI_clamp (by omega)] at hh'; omega
        rw [hd _ (by omega), hd _ (by omega), hd _ (by omega)]
        obtain ⟨x1, x2, x3, -⟩ := hh h hh'
        exact ⟨x1, x2, x3, hnew h h6⟩
      · rw [hd _ (by omega)]; exact hm a b ha hb
      · rw [hd _ (by omega)]; exact htd i hi
      · rw [hd _ (by omega)]; exact hcc c hc'
      · have e : ¬ h = k := fun z => hn' (by rw [z, eH]; exact nI_lt hk (by omega))
        have := r5 h hh' hn'
        rw [bt32 _ hh'] at this ⊢
        rw [or32 _ hk6 hh', this, decide_eq_false (fun z => e z.symm)]; rfl
    · rw [if_neg cb] at hbk
      have hyes : bAg zt zv zg dr := ⟨g2, by grind, by grind, by rw [hvc]; exact hbk⟩
      have hb : f_X9_beast (-1) 1 (nI L) zn zt zp zv zg 0 cfa Z dr = some (0, zn, zt, zp, zv, zg, 4, zp) := by
        rw [bs_3 g2 g3 hlt, if_neg (fun z => absurd z.2 (by decide)), tk_no (by decide)]
      refine fin (fe T L (sk T L n)) 4 (nI (sk T L n)) (by decide) g7 (by omega) (blind_fail (ag := 1) (by decide) h36 hv0 (Or.inl ⟨hyes, rfl⟩) hb) (fun f4 fa4 cn4 q hf4 => ?_)
      have := hun _ _ _ _ _ g1 1 _ _ (by rw [e_cBlind hk6, if_neg cb]) (Or.inr ⟨by decide, fl_0⟩) _ _ _ q
      rw [if_neg hf4] at this
      exact this
