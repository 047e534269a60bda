/-! PURE SIDE: ferry of both (written by wip/whole/gen/mkferry.py) -/
def emp (u : Nat → Int32) : Nat → Int32 := fA 32 36 (fun _ _ => 5) (upd (upd (fA 0 84 (fun _ _ => 0) u) 1 (-1)) 5 60)
theorem e_empties (u : Nat → Int32) : f_X9_empties u = some (emp u) := by
  unfold f_X9_empties
  rw [jn1_d]
  refine (fillL (K := fun w => some (fA 32 36 (fun _ _ => 5) (upd (upd w 1 (-1)) 5 60))) 0 84 (fun _ _ => 0) (by omega) (fun rec k w hk => ?_) (fun rec w => ?_) u)
  · rw [if_neg (show ¬ (84 : Int32) ≤ nI k from nI_ge (b := 84) hk (by decide)), if_neg (idx_ok (k := k) rfl hk (by decide)), nI_1, nI_clamp (by omega), Nat.zero_add]
  · rw [if_pos (by decide)]
    dsimp only
    rw [jn1_d]
    refine (fillL (K := fun v => some v) 32 36 (fun _ _ => 5) (by omega) (fun rec k w hk => ?_) (fun rec w => ?_) _)
    · have e6 : (32 : Int32) + nI k = nI (32 + k) := nI_add 32 k
      rw [if_neg (show ¬ (36 : Int32) ≤ nI k from nI_ge (b := 36) hk (by decide)), e6, if_neg (idx_ok (k := 32 + k) rfl (show 32 + k < 84 by omega) (by decide)), nI_1, nI_clamp (by omega)]
    · rw [if_pos (by decide)]
theorem emp_5 {u : Nat → Int32} {k : Nat} (h : 32 ≤ k ∧ k < 68) : emp u k = 5 := by
  unfold emp; rw [fA_in (by omega)]
theorem emp_0 {u : Nat → Int32} {k : Nat} (h : ¬ (32 ≤ k ∧ k < 68)) (h1 : k ≠ 1) (h5 : k ≠ 5) (h84 : k < 84) : emp u k = 0 := by
  unfold emp; rw [fA_out (by omega), upd_n h5, upd_n h1, fA_0 h84]
theorem emp_1 {u : Nat → Int32} : emp u 1 = -1 := by
  unfold emp; rw [fA_out (by omega), upd_n (by decide), upd_s]
theorem emp_60 {u : Nat → Int32} : emp u 5 = 60 := by
  unfold emp; rw [fA_out (by omega), upd_s]
theorem nar_0 : vp_nar .boolean (0 : Int32) = 0 := by decide
def anw (t s : Nat → Int32) : Nat → Int32 := upd (upd (upd (fA 6 3 (fun _ _ => -1) (fA 0 6 (fun h _ => if t 3 ≤ nI h then 0 else t (8 + 4 * h + 1)) s)) 9 0) 10 0) 11 0
theorem e_anew (many : Int32) (t s kept : Nat → Int32) : f_X9_anew many t s kept = some (0, anw t s, upd (upd kept 0 0) 1 0) := by
  have q3 : t (Int32.toNatClampNeg 3) = t 3 := rfl
  unfold f_X9_anew
  rw [jn1_d, nar_0, q3]
  refine (fillL (K := fun w => some (0, upd (upd (upd (fA 6 3 (fun _ _ => -1) w) 9 0) 10 0) 11 0, upd (upd kept 0 0) 1 0)) 0 6 (fun h _ => if t 3 ≤ nI h then 0 else t (8 + 4 * h + 1)) (by omega) (fun rec k w hk => ?_) (fun rec w => ?_) s)
  · have e1 : (8 : Int32) + 4 * nI k + 1 = nI (8 + 4 * k + 1) := by rw [lit_n 4, pk_mul, lit_n 8, nI_add, nI_1]
    rw [if_neg (show ¬ (6 : Int32) ≤ nI k from nI_ge (b := 6) hk (by decide)), e1]
    dsimp only [jn1]
    by_cases c : t 3 ≤ nI k
    · rw [if_pos c, if_pos c, if_neg (idx_ok (k := k) rfl (show k < 13 by omega) (by decide)), nI_1, nI_clamp (by omega), Nat.zero_add]
    · rw [if_neg c, if_neg c, if_neg (idx_ok (k := 8 + 4 * k + 1) rfl (show 8 + 4 * k + 1 < 84 by omega) (by decide)), if_neg (idx_ok (k := k) rfl (show k < 13 by omega) (by decide)), nI_1, nI_clamp (n := 8 + 4 * k + 1) (by omega), nI_clamp (n := k) (by omega), Nat.zero_add]
  · rw [if_pos (by decide)]
    dsimp only
    rw [jn1_d]
    refine (fillL (K := fun v => some (0, upd (upd (upd v 9 0) 10 0) 11 0, upd (upd kept 0 0) 1 0)) 6 3 (fun _ _ => -1) (by omega) (fun rec k w hk => ?_) (fun rec w => ?_) w)
    · have e6 : (6 : Int32) + nI k = nI (6 + k) := nI_add 6 k
      rw [if_neg (show ¬ (3 : Int32) ≤ nI k from nI_ge (b := 3) hk (by decide)), e6, if_neg (idx_ok (k := 6 + k) rfl (show 6 + k < 13 by omega) (by decide)), nI_1, nI_clamp (by omega)]
    · rw [if_pos (by decide)]; rfl
theorem rd0 {pull str back moods tides carts u pr : Nat → Int32} : RD 0 0 0 0 0 0 0 0 0 0 pull str back (fA 0 36 (fun _ _ => 0) moods) tides carts (emp u) 0 (fA 0 6 (fun _ _ => 0) pr) := by
  have z : ∀ k, k < 84 → ¬ (32 ≤ k ∧ k < 68) → k ≠ 1 → k ≠ 5 → emp u k = 0 := fun k a b c d => emp_0 b c d a
  refine ⟨⟨⟨z 0 (by omega) (by omega) (by omega) (by omega), by decide, by decide⟩, by rw [emp_1]; rfl, Or.inl rfl, ⟨z 2 (by omega) (by omega) (by omega) (by omega), by decide, by decide, Or.inl rfl⟩, ⟨z 3 (by omega) (by omega) (by omega) (by omega), by decide, by decide⟩, ⟨z 4 (by omega) (by omega) (by omega) (by omega), by decide, by decide⟩, ⟨by rw [emp_60]; rfl, by decide, by decide⟩, ⟨z 7 (by omega) (by omega) (by omega) (by omega), by decide, by decide⟩, fun h hh => absurd hh (by rw [show (0 : Int32).toNatClampNeg = 0 from rfl]; omega), fun a b ha hb => ?_, fun i hi => absurd hi (by rw [show (0 : Int32).toNatClampNeg = 0 from rfl]; omega), fun c hc => absurd hc (by rw [show (0 : Int32).toNatClampNeg = 0 from rfl]; omega)⟩, ⟨z 6 (by omega) (by omega) (by omega) (by omega), by decide, by decide⟩, by rfl, fun h hh => ?_, fun a b ha hb => ?_, fun h hh _ => ?_⟩
  · rw [emp_5 (by omega), fA_0 (by omega)]; exact ⟨by decide, by decide, by decide⟩
  · rw [z _ (by omega) (by omega) (by omega) (by omega), if_pos]
    rw [bt32 _ hh]; simp
  · rw [fA_0 ha]; simp
  · rw [bt32 _ hh]; simp
theorem RB_ext {law places broad horses blinds tideN cartN due : Int32} {pull str back moods tides carts t t' : Nat → Int32} (h : RB law places broad horses blinds tideN cartN due pull str back moods tides carts t) (e : ∀ k, k < 84 → t' k = t k) : RB law places broad horses blinds tideN cartN due pull str back moods tides carts t' := by
  obtain ⟨hpl, b1, b2, hbr, hho, hca, hdu, hti, hh, hm, htd, hcc⟩ := h
  have h6 : horses.toNatClampNeg ≤ 6 := by have h7 := hho.2; rw [i_cl]; rw [i_le, i_le] at h7; have h9 : (6 : Int32).toInt = 6 := rfl; omega
  have h12 : tideN.toNatClampNeg ≤ 12 := by have h7 := hti.2; rw [i_cl]; rw [i_le, i_le] at h7; have h9 : (12 : Int32).toInt = 12 := rfl; omega
  have h4 : cartN.toNatClampNeg ≤ 4 := by have h7 := hca.2; rw [i_cl]; rw [i_le, i_le] at h7; have h9 : (4 : Int32).toInt = 4 := rfl; omega
  refine ⟨by rw [e 0 (by omega)]; exact hpl, by rw [e 1 (by omega)]; exact b1, b2, by rw [e 2 (by omega)]; exact hbr, by rw [e 3 (by omega)]; exact hho, by rw [e 4 (by omega)]; exact hca, by rw [e 5 (by omega)]; exact hdu, by rw [e 7 (by omega)]; exact hti, fun h hh' => ?_, fun a b ha hb => ?_, fun i hi => ?_, fun c hc' => ?_⟩
  · rw [e _ (by omega), e _ (by omega), e _ (by omega), e _ (by omega)]; exact hh h hh'
  · rw [e _ (by omega)]; exact hm a b ha hb
  · rw [e _ (by omega)]; exact htd i hi
  · rw [e _ (by omega)]; exact hcc c hc'
theorem read_eq (r_length r_fault r_faultAt r_next nf : Int32) (T : Nat → Int32) (law : Int32) (places : Int32) (broad : Int32) (horses : Int32) (blinds : Int32) (besides : Int32) (tideN : Int32) (cartN : Int32) (due : Int32) (prs : Int64) (pull : Nat → Int32) (str : Nat → Int32) (back : Nat → Int32) (moods : Nat → Int32) (tides : Nat → Int32) (carts : Nat → Int32) : f_X4_read r_length r_fault r_faultAt r_next nf T law places broad horses blinds besides tideN cartN due prs pull str back moods tides carts = lq21 (B_X4_read_1 (fun f fa nx nf law places broad horses blinds besides tideN cartN due prs pull str back moods tides carts => if f = 0 then some (1, f, fa, nx, nf, law, places, broad, horses, blinds, besides, tideN, cartN, due, prs, pull, str, back, moods, tides, carts) else some (0, f, fa, nx, nf, law, places, broad, horses, blinds, besides, tideN, cartN, due, prs, pull, str, back, moods, tides, carts)) r_length T) fu 0 0 (-1) 0 nf 0 0 0 0 0 0 0 0 0 0 pull str back (fA 0 36 (fun _ _ => 0) moods) tides carts := by
  unfold f_X4_read f_X0_clear
  rw [e_fill (by omega), bn1_some, bn11_some, jn20_e]
  rfl
theorem m_ferry {b_law : Int32} {b_places : Int32} {b_broad : Int32} {b_horses : Int32} {b_blinds : Int32} {b_besides : Int32} {b_tideN : Int32} {b_cartN : Int32} {b_due : Int32} {b_prs : Int64} {b_pull : Nat → Int32} {b_str : Nat → Int32} {b_back : Nat → Int32} {b_moods : Nat → Int32} {b_tides : Nat → Int32} {b_carts : Nat → Int32} {d_law : Int32} {d_places : Int32} {d_broad : Int32} {d_horses : Int32} {d_blinds : Int32} {d_besides : Int32} {d_tideN : Int32} {d_cartN : Int32} {d_due : Int32} {d_prs : Int64} {d_pull : Nat → Int32} {d_str : Nat → Int32} {d_back : Nat → Int32} {d_moods : Nat → Int32} {d_tides : Nat → Int32} {d_carts : Nat → Int32} {length typed r_fault r_faultAt r_next nf thrown zn zt zp zv zg zf zfa many isDue : Int32} {T Z t dr s kept pr : Nat → Int32} {c_last : Int32} {c_who : Nat → Int32} {c_pull : Nat → Int32} {s_hour : Int32} {s_oats : Int32} {s_missed : Int32} {s_strength : Nat → Int32} {s_stands : Nat → Int32} {i_kept : Int32} {j_kept : Int32} {p_known : Int32} {g_known : Int32} {m_count : Int32} {seed : Int32}
    (hX : RX length typed T Z) (hseed : s 12 = seed ∧ 0 ≤ seed) :
    ∃ (rr : Int32) (b_law' : Int32) (b_places' : Int32) (b_broad' : Int32) (b_horses' : Int32) (b_blinds' : Int32) (b_besides' : Int32) (b_tideN' : Int32) (b_cartN' : Int32) (b_due' : Int32) (b_prs' : Int64) (b_pull' : Nat → Int32) (b_str' : Nat → Int32) (b_back' : Nat → Int32) (b_moods' : Nat → Int32) (b_tides' : Nat → Int32) (b_carts' : Nat → Int32) (d_law' : Int32) (d_places' : Int32) (d_broad' : Int32) (d_horses' : Int32) (d_blinds' : Int32) (d_besides' : Int32) (d_tideN' : Int32) (d_cartN' : Int32) (d_due' : Int32) (d_prs' : Int64) (d_pull' : Nat → Int32) (d_str' : Nat → Int32) (d_back' : Nat → Int32) (d_moods' : Nat → Int32) (d_tides' : Nat → Int32) (d_carts' : Nat → Int32) (r_fault' r_faultAt' r_next' nf' : Int32) (c_last' : Int32) (c_who' : Nat → Int32) (c_pull' : Nat → Int32) (s_hour' : Int32) (s_oats' : Int32) (s_missed' : Int32) (s_strength' : Nat → Int32) (s_stands' : Nat → Int32) (i_kept' : Int32) (j_kept' : Int32) (p_known' : Int32) (g_known' : Int32) (m_count' : Int32) (zn' zt' zp' zv' zg' zf' many' isDue' : Int32) (t' dr' s' kept' pr' : Nat → Int32),
      f_X8_ferry b_law b_places b_broad b_horses b_blinds b_besides b_tideN b_cartN b_due b_prs b_pull b_str b_back b_moods b_tides b_carts d_law d_places d_broad d_horses d_blinds d_besides d_tideN d_cartN d_due d_prs d_pull d_str d_back d_moods d_tides d_carts length r_fault r_faultAt r_next nf T c_last c_who c_pull s_hour s_oats s_missed s_strength s_stands i_kept j_kept p_known g_known m_count = some (rr, b_law', b_places', b_broad', b_horses', b_blinds', b_besides', b_tideN', b_cartN', b_due', b_prs', b_pull', b_str', b_back', b_moods', b_tides', b_carts', d_law', d_places', d_broad', d_horses', d_blinds', d_besides', d_tideN', d_cartN', d_due', d_prs', d_pull', d_str', d_back', d_moods', d_tides', d_carts', 0, r_fault', r_faultAt', r_next', nf', c_last', c_who', c_pull', s_hour', s_oats', s_missed', s_strength', s_stands', i_kept', j_kept', p_known', g_known', m_count') ∧
      f_X9_ferry thrown typed zn zt zp zv zg zf zfa many isDue Z t dr s kept pr = some (rr, 0, 0, zn', zt', zp', zv', zg', zf', r_faultAt', many', isDue', t', dr', s', kept', pr') ∧
      (((b_law' = b_law ∧ b_places' = b_places ∧ b_broad' = b_broad ∧ b_horses' = b_horses ∧ b_blinds' = b_blinds ∧ b_besides' = b_besides ∧ b_tideN' = b_tideN ∧ b_cartN' = b_cartN ∧ b_due' = b_due ∧ b_prs' = b_prs ∧ b_pull' = b_pull ∧ b_str' = b_str ∧ b_back' = b_back ∧ b_moods' = b_moods ∧ b_tides' = b_tides ∧ b_carts' = b_carts ∧ c_last' = c_last ∧ c_who' = c_who ∧ c_pull' = c_pull ∧ s_hour' = s_hour ∧ s_oats' = s_oats ∧ s_missed' = s_missed ∧ s_strength' = s_strength ∧ s_stands' = s_stands ∧ i_kept' = i_kept ∧ j_kept' = j_kept ∧ p_known' = p_known ∧ g_known' = g_known ∧ m_count' = m_count) ∧ many' = many ∧ t' = t ∧ s' = s ∧ kept' = kept) ∨
       (RB b_law' b_places' b_broad' b_horses' b_blinds' b_tideN' b_cartN' b_due' b_pull' b_str' b_back' b_moods' b_tides' b_carts' t' ∧ (∃ P H : Nat, P ≤ 3 ∧ H ≤ 6 ∧ t' 0 = nI P ∧ t' 3 = nI H ∧ FST t' P H 343 c_last' c_who' c_pull') ∧ RNb 0 s_hour' s_oats' s_missed' seed s_strength' s_stands' s' t' ∧ i_kept' = 0 ∧ j_kept' = 0 ∧ kept' 0 = 0 ∧ kept' 1 = 0 ∧ p_known' = 0 ∧ g_known' = 0 ∧ m_count' = 0 ∧ many' = 0)) := by
  obtain ⟨⟨rfl, hl0, hl5⟩, htx⟩ := hX
  obtain ⟨L, hL, eL⟩ := nI_of2 (M := 500) (n := 500) rfl (x := length) (by grind) hl5
  subst eL
  have hT : TX T Z L := ⟨hL, fun k hk => by
    obtain ⟨a, b, c⟩ := htx k (by rw [nI_clamp (by omega)]; exact hk)
    rw [i_le] at b c
    exact ⟨a.symm, b, c⟩⟩
  obtain ⟨zn1, zt1, zp1, zv1, zg1, k1, k2⟩ := e_adv hT (Nat.zero_le L) zt zp zv zg
  obtain ⟨cf1, cfa1, cn1, nf1, xlaw, xplaces, xbroad, xhorses, xblinds, xbesides, xtideN, xcartN, xdue, xprs, xpull, xstr, xback, xmoods, xtides, xcarts, zn2, zt2, zp2, zv2, zg2, zf2, zfa2, isDue2, dr2, pr2, p1, p2, p3, p4, p5⟩ := read_loop hT L 0 0 (-1) nf 0 0 0 0 0 0 0 0 0 zn1 zt1 zp1 zv1 zg1 1 0 0 d_pull d_str d_back (fA 0 36 (fun _ _ => 0) d_moods) d_tides d_carts (emp dr) (fA 0 6 (fun _ _ => 0) pr) fu fu (by omega) (by omega) (by unfold fu; omega) (by unfold fu; omega) (by omega) k2 rd0 rfl
  have hread1 : f_X4_read (nI L) r_fault r_faultAt r_next nf T d_law d_places d_broad d_horses d_blinds d_besides d_tideN d_cartN d_due d_prs d_pull d_str d_back d_moods d_tides d_carts = (if cf1 = 0 then some (1, cf1, cfa1, cn1, nf1, xlaw, xplaces, xbroad, xhorses, xblinds, xbesides, xtideN, xcartN, xdue, xprs, xpull, xstr, xback, xmoods, xtides, xcarts) else some (0, cf1, cfa1, cn1, nf1, xlaw, xplaces, xbroad, xhorses, xblinds, xbesides, xtideN, xcartN, xdue, xprs, xpull, xstr, xback, xmoods, xtides, xcarts)) := by
    rw [read_eq]; exact p1 _
  subst p3
  subst p4
  -- the reference up to its text's end
  have hz0 : ∀ K, lq2 (B_X9_ferry_3 K) fu 0 pr = K (fA 0 6 (fun _ _ => 0) pr) := fun K => by
    refine fillL 0 6 (fun _ _ => 0) (by omega) (fun rec k w hk => ?_) (fun rec w => ?_) pr
    · unfold B_X9_ferry_3
      rw [if_neg (show ¬ (6 : Int32) ≤ nI k from nI_ge (b := 6) hk (by decide)), if_neg (idx_ok (k := k) rfl hk (by decide)), nI_1, nI_clamp (by omega), Nat.zero_add]
    · rfl
  have hz : f_X9_ferry thrown (nI L) zn zt zp zv zg zf zfa many isDue Z t dr s kept pr = (if zf2 = 0 then some (dr2 0, 0, 0, zn2, zt2, zp2, zv2, zg2, zf2, zfa2, 0, isDue2, fA 0 84 (fun k _ => dr2 k) t, dr2, anw (fA 0 84 (fun k _ => dr2 k) t) s, upd (upd kept 0 0) 1 0, pr2) else some (-10 - zf2, 0, 0, zn2, zt2, zp2, zv2, zg2, zf2, zfa2, many, isDue2, t, dr2, s, kept, pr2)) := by
    unfold f_X9_ferry
    rw [e_empties, bn1_some, jn1_d]
    refine (hz0 _).trans ?_
    rw [show f_X9_advances (nI L) 0 zt zp zv zg Z = _ from k1, bn5_some, jn10_e]
    refine (p2 _).trans ?_
    by_cases c : zf2 = 0
    · rw [c, wl_0, bn1_some, if_neg (show ¬ (1 : Int32) = 0 by decide), if_pos rfl, jn1_d]
      have hcp : ∀ K, lq2 (B_X9_ferry_1 K dr2) fu 0 t = K (fA 0 84 (fun k _ => dr2 k) t) := fun K => by
        refine fillL 0 84 (fun k _ => dr2 k) (by omega) (fun rec k w hk => ?_) (fun rec w => ?_) t
        · unfold B_X9_ferry_1
          rw [if_neg (show ¬ (84 : Int32) ≤ nI k from nI_ge (b := 84) hk (by decide)), if_neg (idx_ok (k := k) rfl hk (by decide)), nI_1, nI_clamp (by omega), Nat.zero_add]
        · rfl
      refine (hcp _).trans ?_
      rw [e_anew, bn3_some]
      have h0 : fA 0 84 (fun k _ => dr2 k) t (Int32.toNatClampNeg 0) = dr2 0 := by
        show fA 0 84 (fun k _ => dr2 k) t 0 = dr2 0
        exact fA_0 (by omega)
      rw [h0]
    · rw [wl_1 c, bn1_some, if_pos rfl, if_neg c]
  by_cases c : zf2 = 0
  · rw [if_pos c] at hread1 hz
    -- the second reading
    obtain ⟨cf3, cfa3, cn3, nf3, ylaw, yplaces, ybroad, yhorses, yblinds, ybesides, ytideN, ycartN, ydue, yprs, ypull, ystr, yback, ymoods, ytides, ycarts, zn4, zt4, zp4, zv4, zg4, zf4, zfa4, isDue4, dr4, pr4, q1, q2, q3, q4, q5⟩ := read_loop hT L 0 0 (-1) nf1 0 0 0 0 0 0 0 0 0 zn1 zt1 zp1 zv1 zg1 1 0 0 b_pull b_str b_back (fA 0 36 (fun _ _ => 0) b_moods) b_tides b_carts (emp dr) (fA 0 6 (fun _ _ => 0) pr) fu fu (by omega) (by omega) (by unfold fu; omega) (by unfold fu; omega) (by omega) k2 rd0 rfl
    have hsame := (q2 (fun a1 a2 a3 a4 a5 a6 a7 a8 a9 a10 => some (0, 0, 0, a1, a2, a3, a4, a5, a6, a7, 0, a8, a9, a9, a9, a9, a10))).symm.trans (p2 (fun a1 a2 a3 a4 a5 a6 a7 a8 a9 a10 => some (0, 0, 0, a1, a2, a3, a4, a5, a6, a7, 0, a8, a9, a9, a9, a9, a10)))
    have hsame := Option.some.inj hsame
    simp only [Prod.mk.injEq] at hsame
    obtain ⟨-, -, -, -, -, -, -, -, hs6, hs7, -, -, hs9, -⟩ := hsame
    have c4 : cf3 = 0 := by rw [← q3, hs6]; exact c
    have hcfa : cfa3 = zfa2 := by rw [← q4, hs7]
    have hread2 : f_X4_read (nI L) zf2 zfa2 cn1 nf1 T b_law b_places b_broad b_horses b_blinds b_besides b_tideN b_cartN b_due b_prs b_pull b_str b_back b_moods b_tides b_carts = some (1, cf3, cfa3, cn3, nf3, ylaw, yplaces, ybroad, yhorses, yblinds, ybesides, ytideN, ycartN, ydue, yprs, ypull, ystr, yback, ymoods, ytides, ycarts) := by
      rw [read_eq]; refine (q1 _).trans ?_; rw [if_pos c4]
    have hRD := q5 c4
    rw [hs9] at hRD
    have hRB := hRD.1
    have ht' : ∀ k, k < 84 → fA 0 84 (fun k _ => dr2 k) t k = dr2 k := fun k hk => fA_0 hk
    have hRBt := RB_ext hRB ht'
    have hBT := RB_BT hRBt
    obtain ⟨ht, hs, hSB, hPB, hCT, hlaw, ht1, ht2, hbr, ht0, hpl⟩ := id hBT
    obtain ⟨P, hP, eP⟩ := nI_of2 (M := 3) (n := 3) rfl (x := yplaces) (by have := hpl.1; grind) hpl.2
    obtain ⟨H, hH, e3, eH⟩ := hor_n ht
    have e0 : fA 0 84 (fun k _ => dr2 k) t 0 = nI P := ht0.trans eP
    have eh : yhorses = nI H := hPB.1.trans e3
    obtain ⟨last', who', cp', z1, z2⟩ := e_fillc (last := c_last) (who := c_who) (cp := c_pull) ht (by rw [← eh]; exact hPB) e0 e3 hP hH
    have hbeg : f_X8_begin yplaces yhorses yblinds ypull ystr ymoods c_last c_who c_pull s_hour s_oats s_missed s_strength s_stands i_kept j_kept p_known g_known m_count = some (last', who', cp', 0, 0, 0, va_cpy ystr s_strength 0 0 6, fA 0 3 (fun _ _ => -1) s_stands, 0, 0, 0, 0, 0) := by
      unfold f_X8_begin f_X5_begin f_X8_forgetTried
      rw [eP, eh, z1, bn3_some, e_fill (by omega), bn1_some, bn5_some, bn2_some]
    have hcl : f_X8_ferry b_law b_places b_broad b_horses b_blinds b_besides b_tideN b_cartN b_due b_prs b_pull b_str b_back b_moods b_tides b_carts d_law d_places d_broad d_horses d_blinds d_besides d_tideN d_cartN d_due d_prs d_pull d_str d_back d_moods d_tides d_carts (nI L) r_fault r_faultAt r_next nf T c_last c_who c_pull s_hour s_oats s_missed s_strength s_stands i_kept j_kept p_known g_known m_count = some (yplaces, ylaw, yplaces, ybroad, yhorses, yblinds, ybesides, ytideN, ycartN, ydue, yprs, ypull, ystr, yback, ymoods, ytides, ycarts, xlaw, xplaces, xbroad, xhorses, xblinds, xbesides, xtideN, xcartN, xdue, xprs, xpull, xstr, xback, xmoods, xtides, xcarts, 0, cf3, cfa3, cn3, nf3, last', who', cp', 0, 0, 0, va_cpy ystr s_strength 0 0 6, fA 0 3 (fun _ _ => -1) s_stands, 0, 0, 0, 0, 0) := by
      unfold f_X8_ferry
      rw [hread1, bn21_some]
      dsimp only [jn33]
      rw [if_neg (show ¬ (1 : Int32) = 0 by decide), hread2, bn21_some, hbeg, bn13_some, if_neg (show ¬ (1 : Int32) = 0 by decide)]
    have hd0 : dr2 0 = yplaces := by rw [← ht' 0 (by omega)]; exact ht0
    rw [hd0, ← hcfa] at hz
    refine ⟨_, _, _, _, _, _, _, _, _, _, _, _, _, _, _, _, _, _, _, _, _, _, _, _, _, _, _, _, _, _, _, _, _,  _, _, _, _, _, _, _, _, _, _, _, _, _, _, _, _, _,  _, _, _, _, _, _, _, _, _, _, _, _, _, hcl, hz, Or.inr ⟨hRBt, ⟨P, H, hP, hH, e0, e3, z2⟩, ?_, rfl, rfl, by rw [upd_n (by decide), upd_s], upd_s, rfl, rfl, rfl, rfl⟩⟩
    have hA : ∀ j, j ≠ 9 → j ≠ 10 → j ≠ 11 → anw (fA 0 84 (fun k _ => dr2 k) t) s j = fA 6 3 (fun _ _ => -1) (fA 0 6 (fun h _ => if fA 0 84 (fun k _ => dr2 k) t 3 ≤ nI h then 0 else fA 0 84 (fun k _ => dr2 k) t (8 + 4 * h + 1)) s) j := fun j a b c => by
      unfold anw; rw [upd_n c, upd_n b, upd_n a]
    have hst : ∀ p, p < 3 → fA 0 3 (fun _ _ => -1) s_stands p = (-1 : Int32) := fun p hp => fA_0 hp
    refine ⟨⟨by unfold anw; rw [upd_n (by decide), upd_n (by decide), upd_s], by decide, by decide⟩, ⟨by unfold anw; rw [upd_n (by decide), upd_s], by decide, by decide⟩, by unfold anw; rw [upd_s], ⟨by rw [hA 12 (by decide) (by decide) (by decide), fA_out (by omega), fA_0n (by omega)]; exact hseed.1, hseed.2⟩, ⟨by rw [hA 6 (by decide) (by decide) (by decide), fA_in (by omega), hst 0 (by decide)], by rw [hA 7 (by decide) (by decide) (by decide), fA_in (by omega), hst 1 (by decide)], by rw [hA 8 (by decide) (by decide) (by decide), fA_in (by omega), hst 2 (by decide)]⟩, ⟨fun p hp => Or.inl (hst p hp), Or.inl (hst 0 (by decide)), Or.inl (hst 1 (by decide)), Or.inl (hst 2 (by decide))⟩, fun h hh => ?_⟩
    have h6 : h < 6 := by omega
    have hsb := hSB h hh
    have hts := hs h hh
    rw [hA h (by omega) (by omega) (by omega), fA_out (by omega), fA_0 h6, if_neg (by rw [e3]; exact nI_ge (by omega) (by omega)), cpy0 h6, ← hsb.1]
    exact ⟨rfl, by rw [i_le]; have z0 : (0 : Int32).toInt = 0 := rfl; omega, Int32.le_refl _⟩
  · rw [if_neg c] at hread1 hz
    have hcl : f_X8_ferry b_law b_places b_broad b_horses b_blinds b_besides b_tideN b_cartN b_due b_prs b_pull b_str b_back b_moods b_tides b_carts d_law d_places d_broad d_horses d_blinds d_besides d_tideN d_cartN d_due d_prs d_pull d_str d_back d_moods d_tides d_carts (nI L) r_fault r_faultAt r_next nf T c_last c_who c_pull s_hour s_oats s_missed s_strength s_stands i_kept j_kept p_known g_known m_count = some (-10 - zf2, b_law, b_places, b_broad, b_horses, b_blinds, b_besides, b_tideN, b_cartN, b_due, b_prs, b_pull, b_str, b_back, b_moods, b_tides, b_carts, xlaw, xplaces, xbroad, xhorses, xblinds, xbesides, xtideN, xcartN, xdue, xprs, xpull, xstr, xback, xmoods, xtides, xcarts, 0, zf2, zfa2, cn1, nf1, c_last, c_who, c_pull, s_hour, s_oats, s_missed, s_strength, s_stands, i_kept, j_kept, p_known, g_known, m_count) := by
      unfold f_X8_ferry
      rw [hread1, bn21_some]
      dsimp only [jn33]
      rw [if_pos rfl, if_pos rfl]
    exact ⟨_, _, _, _, _, _, _, _, _, _, _, _, _, _, _, _, _, _, _, _, _, _, _, _, _, _, _, _, _, _, _, _, _,  _, _, _, _, _, _, _, _, _, _, _, _, _, _, _, _, _,  _, _, _, _, _, _, _, _, _, _, _, _, _, hcl, hz, Or.inl ⟨⟨rfl, rfl, rfl, rfl, rfl, rfl, rfl, rfl, rfl, rfl, rfl, rfl, rfl, rfl, rfl, rfl, rfl, rfl, rfl, rfl, rfl, rfl, rfl, rfl, rfl, rfl, rfl, rfl, rfl⟩, rfl, rfl, rfl, rfl⟩⟩
