/-! PURE SIDE: twice: the reference's side; twice of both -/
theorem m_row {t w W1 a0 pl : Nat → Int32} {e : Int32} {P H r kh : Nat} {load : Int} (ht : TW t) (hs : TS t) (hw : WB t w) (hE : WEQ t W1 w) (e0 : t 0 = nI P) (e3 : t 3 = nI H) (hP : P ≤ 3) (hH : H ≤ 6) (hk : kh < 2147483648) (hload : 0 ≤ load ∧ load ≤ 240) (hr : r < 343) (ho : okN P H r) :
    ∃ pl', f_X9_crosses (nI kh) (jI load) e (-1) t W1 (at3 a0 (rowA r 0) (rowA r 1) (rowA r 2)) pl = some (nI (rMin t w (tideS t kh - load) r), jI (cEat (rowA r) (pullP t (rowA r) (-1)) w (wlk (rMin t w (tideS t kh - load) r))), wAft W1 (at3 a0 (rowA r 0) (rowA r 1) (rowA r 2)) (wlk (rMin t w (tideS t kh - load) r)), pl') := by
  obtain ⟨hc, hd, hok, hq, hm120, hea⟩ := row_f (push := tideS t kh - load) ht hs hw e0 e3 hP hH hr ho
  have ha : ∀ p, p < 3 → at3 a0 (rowA r 0) (rowA r 1) (rowA r 2) p = rowA r p := fun p hp => at3_row hp a0
  have hWB1 : WB t W1 := fun h hh => by rw [hE h hh]; exact hw h hh
  have hc1 := CREW_ext ha hc
  obtain ⟨pl', hx⟩ := e_crosses (half := -1) (load := load) ht hc1 (DIST_ext ha hd) (WB_ok hs hWB1 hc1) hk hload e pl
  have hM : cMin (t 1) (t 2).toInt (at3 a0 (rowA r 0) (rowA r 1) (rowA r 2)) (pullP t (at3 a0 (rowA r 0) (rowA r 1) (rowA r 2)) (-1)) W1 (tideS t kh - load) = rMin t w (tideS t kh - load) r := by
    rw [cMin_a ha (fun p hp => pullP_ext ha hp)]
    exact rMin_ext hc hE
  have hE1 : ∀ m, cEat (at3 a0 (rowA r 0) (rowA r 1) (rowA r 2)) (pullP t (at3 a0 (rowA r 0) (rowA r 1) (rowA r 2)) (-1)) W1 m = cEat (rowA r) (pullP t (rowA r) (-1)) w m := fun m => by
    rw [cEat_a ha (fun p hp => pullP_ext ha hp)]
    exact cEat_ext hc hE
  rw [hM, hE1] at hx
  exact ⟨pl', hx⟩
theorem wlk_eat {t w : Nat → Int32} {push : Int} {r : Nat} (h : rMin t w push r ≠ 0) : cEat (rowA r) (pullP t (rowA r) (-1)) w (wlk (rMin t w push r)) = rEat t w push r := by
  unfold wlk rEat
  rw [if_neg h]
theorem in_1W {t : Nat → Int32} {M W : Nat} (e5 : t 5 = nI W) (hM : M ≤ 120) (hW : W ≤ 120) : f_X9_in (nI M) 1 (t (Int32.toNatClampNeg 5)) = some (if M ≠ 0 ∧ M ≤ W then 1 else 0) := by
  rw [e_in, show t (Int32.toNatClampNeg 5) = nI W from e5]
  refine congrArg some (if_iff ?_ _ _)
  rw [show (1 : Int32) = nI 1 from rfl, nI_leI (by omega) (by omega), nI_leI (by omega) (by omega)]
  omega
theorem sd_tail {B : Type} (y4 n3 e : Int32) (T N : Option B) : jn1 (fun (_ : Unit) => jn1 (fun (_ : Unit) => T) (fun J => if n3 = -1 then J () else if n3 ≤ e then N else J ())) (fun J => if y4 = -1 then J () else if y4 ≤ e then N else J ()) = if (y4 = -1 ∨ ¬ y4 ≤ e) ∧ (n3 = -1 ∨ ¬ n3 ≤ e) then T else N := by
  have key : ∀ (c1 c2 c3 c4 : Prop) [Decidable c1] [Decidable c2] [Decidable c3] [Decidable c4], (if c1 then (if c3 then T else if c4 then N else T) else if c2 then N else (if c3 then T else if c4 then N else T)) = if (c1 ∨ ¬ c2) ∧ (c3 ∨ ¬ c4) then T else N := by
    intro c1 c2 c3 c4 _ _ _ _
    by_cases h1 : c1 <;> by_cases h2 : c2 <;> by_cases h3 : c3 <;> by_cases h4 : c4 <;> simp [h1, h2, h3, h4]
  exact key (y4 = -1) (y4 ≤ e) (n3 = -1) (n3 ≤ e)
theorem sec_w {th : Nat → Int32} (K : (Nat → Int32) → Option (Int32 × Int32 × (Nat → Int32) × (Nat → Int32) × (Nat → Int32) × (Nat → Int32))) (w : Nat → Int32) : lq2 (B_X9_second_2 K th) fu 0 w = K (fA 0 6 (fun k _ => th k) w) := by
  refine fillL 0 6 (fun k _ => th k) (by omega) (fun rec k v hk => ?_) (fun rec v => ?_) w
  · have h6 : ¬ (6 : Int32) ≤ nI k := nI_ge (b := 6) hk (by decide)
    have hc : (nI k).toNatClampNeg = k := nI_clamp (by omega)
    have h0 : ¬ nI k < 0 := nI_pos (by omega)
    unfold B_X9_second_2
    simp only [h6, hc, h0, if_false, false_or, show ¬ 6 ≤ k by omega, nI_1, Nat.zero_add]
  · rfl
/-- what the reference's second has -/
def SrS (P H r1 : Nat) (e1 : Int) (st b : Nat × Nat × Int) (least : Int32) (ta : Nat → Int32) : Prop := (b = st ∧ least = -1) ∨ ∃ (q : Nat) (el : Int), q < 343 ∧ okN P H q ∧ (0 ≤ el ∧ el ≤ 14400) ∧ b = (r1, q, e1 + el) ∧ least = jI el ∧ (∀ p, p < 3 → ta p = rowA q p) ∧ (st.1 = 0 ∨ e1 + el < st.2.2)
theorem sec_eq (n1 n2 n3 e half : Int32) (t w a pl th ta : Nat → Int32) : f_X9_second n1 n2 n3 e half t w a pl th ta = lq7 (B_X9_second_1 (fun y e w a pl ta => some (y, e, w, a, pl, ta)) t n1 n2 half n3 th) fu (-1) 1 e w a pl ta := by
  unfold f_X9_second
  rw [jn6_e]
  rfl
theorem ta_row {a0 ta : Nat → Int32} {r p : Nat} (hp : p < 3) : upd (upd (upd ta ((0 : Int32)).toNatClampNeg (at3 a0 (rowA r 0) (rowA r 1) (rowA r 2) ((0 : Int32)).toNatClampNeg)) ((1 : Int32)).toNatClampNeg (at3 a0 (rowA r 0) (rowA r 1) (rowA r 2) ((1 : Int32)).toNatClampNeg)) ((2 : Int32)).toNatClampNeg (at3 a0 (rowA r 0) (rowA r 1) (rowA r 2) ((2 : Int32)).toNatClampNeg) p = rowA r p := by
  have h0 : at3 a0 (rowA r 0) (rowA r 1) (rowA r 2) ((0 : Int32)).toNatClampNeg = rowA r 0 := at3_0 _ _ _ _
  have h1 : at3 a0 (rowA r 0) (rowA r 1) (rowA r 2) ((1 : Int32)).toNatClampNeg = rowA r 1 := at3_1 _ _ _ _
  have h2 : at3 a0 (rowA r 0) (rowA r 1) (rowA r 2) ((2 : Int32)).toNatClampNeg = rowA r 2 := at3_2 _ _ _ _
  rw [h0, h1, h2]
  exact at3_row hp ta
theorem m_second {t th w : Nat → Int32} {most : Int32} {P H W r1 kh : Nat} {load e1 : Int} {st : Nat × Nat × Int}
    (ht : TW t) (hs : TS t) (hw : WB t w) (hE : WEQ t th w) (e0 : t 0 = nI P) (e3 : t 3 = nI H) (hP : P ≤ 3) (hH : H ≤ 6) (hk : kh < 2147483648) (hload : 0 ≤ load ∧ load ≤ 240) (e5 : t 5 = nI W) (hW : W ≤ 120) (hr1 : 0 < r1) (hb : 0 ≤ e1 ∧ e1 ≤ 14400)
    (hmost : (st.1 = 0 ∧ most = -1) ∨ (st.1 ≠ 0 ∧ most = jI (st.2.2 - e1) ∧ e1 < st.2.2 ∧ st.2.2 ≤ 28800)) (e : Int32) (w0 a0 pl ta : Nat → Int32) :
    ∃ (least e' : Int32) (w' a' pl' ta' : Nat → Int32), f_X9_second (nI kh) (jI load) most e (-1) t w0 a0 pl th ta = some (least, e', w', a', pl', ta') ∧ SrS P H r1 e1 st (tw2 P H W r1 e1 (rMin t w (tideS t kh - load)) (rEat t w (tideS t kh - load)) st 343) least ta' := by
  rw [sec_eq]
  have h1 : tw2 P H W r1 e1 (rMin t w (tideS t kh - load)) (rEat t w (tideS t kh - load)) st (0 + 1) = st := by
    rw [tw2_s, if_neg (fun z => absurd z.1.1.1 (by omega))]; rfl
  refine lq7_inv (fun k y4 y5 e w' a pl ta => y5 = nI (k + 1) ∧ SrS P H r1 e1 st (tw2 P H W r1 e1 (rMin t w (tideS t kh - load)) (rEat t w (tideS t kh - load)) st (k + 1)) y4 ta) (fun z => ∃ (least e' : Int32) (w' a' pl' ta' : Nat → Int32), z = some (least, e', w', a', pl', ta') ∧ SrS P H r1 e1 st (tw2 P H W r1 e1 (rMin t w (tideS t kh - load)) (rEat t w (tideS t kh - load)) st 343) least ta') 342 ?_ ?_ fu 0 (-1) 1 e w0 a0 pl ta (by omega) (by unfold fu; omega) ⟨rfl, by rw [h1]; exact Or.inl ⟨rfl, rfl⟩⟩
  · rintro rec k y4 y5 e w' a pl ta hk2 ⟨rfl, hS⟩
    left
    have hr : k + 1 < 343 := by omega
    rw [tw2_s]
    generalize tw2 P H W r1 e1 (rMin t w (tideS t kh - load)) (rEat t w (tideS t kh - load)) st (k + 1) = b at hS ⊢
    unfold B_X9_second_1
    rw [if_neg (show ¬ (343 : Int32) ≤ nI (k + 1) from nI_ge (b := 343) hr (by decide)), e_puts e0 e3 hP hH hr, bn2_some, jn5_e, nI_1]
    by_cases hv : okN P H (k + 1) ∧ ¬ rHas (k + 1) (-1)
    · obtain ⟨hc, hd, hok, hq, hm120, hea⟩ := row_f (push := tideS t kh - load) ht hs hw e0 e3 hP hH hr hv.1
      have hw1 : WEQ t (fA 0 6 (fun k _ => th k) w') w := fun h hh => by
        rw [e3, nI_clamp (by omega)] at hh
        rw [fA_0 (by omega)]
        exact hE h (by rw [e3, nI_clamp (by omega)]; exact hh)
      obtain ⟨pl', hx⟩ := m_row (a0 := a) (pl := pl) (e := e) ht hs hw hw1 e0 e3 hP hH hk hload hr hv.1
      rw [if_pos hv, if_neg (show ¬ (1 : Int32) = 0 by decide), jn1_d]
      have key : ∀ (Z : Option (Int32 × Int32 × (Nat → Int32) × (Nat → Int32) × (Nat → Int32) × (Nat → Int32)) → Prop) (K3 : (Nat → Int32) → Option (Int32 × Int32 × (Nat → Int32) × (Nat → Int32) × (Nat → Int32) × (Nat → Int32))), Z (K3 (fA 0 6 (fun k _ => th k) w')) → Z (lq2 (B_X9_second_2 K3 th) fu 0 w') := fun Z K3 hZ => by rw [sec_w]; exact hZ
      refine key (fun o => ∃ b1 b2 b3 b4 b5 b6 b7, (b2 = nI (k + 1 + 1) ∧ SrS P H r1 e1 st (if okS P H (-1) W (rMin t w (tideS t kh - load)) (k + 1) ∧ (b.1 = 0 ∨ e1 + rEat t w (tideS t kh - load) (k + 1) < b.2.2) then (r1, k + 1, e1 + rEat t w (tideS t kh - load) (k + 1)) else b) b1 b7) ∧ o = rec b1 b2 b3 b4 b5 b6 b7) _ ?_
      rw [hx, bn4_some, in_1W e5 hm120 hW, bn1_some, sd_tail]
      by_cases cm : rMin t w (tideS t kh - load) (k + 1) ≠ 0 ∧ rMin t w (tideS t kh - load) (k + 1) ≤ W
      · have hok1 : okS P H (-1) W (rMin t w (tideS t kh - load)) (k + 1) := ⟨hv.1, hv.2, cm.1, cm.2⟩
        rw [if_pos cm, if_neg (show ¬ (1 : Int32) = 0 by decide), wlk_eat cm.1]
        have hcond : (b.1 = 0 ∨ e1 + rEat t w (tideS t kh - load) (k + 1) < b.2.2) ↔ ((y4 = -1 ∨ ¬ y4 ≤ jI (rEat t w (tideS t kh - load) (k + 1))) ∧ (most = -1 ∨ ¬ most ≤ jI (rEat t w (tideS t kh - load) (k + 1)))) := by
          have hmm : (most = -1 ∨ ¬ most ≤ jI (rEat t w (tideS t kh - load) (k + 1))) ↔ (st.1 = 0 ∨ e1 + rEat t w (tideS t kh - load) (k + 1) < st.2.2) := by
            rcases hmost with ⟨m1, m2⟩ | ⟨m1, m2, m3, m4⟩
            · exact ⟨fun _ => Or.inl m1, fun _ => Or.inl m2⟩
            · rw [m2, show (-1 : Int32) = jI (-1) from rfl, jI_eq (by omega) (by omega) (by omega) (by omega), jI_le (by omega) (by omega) (by omega) (by omega)]
              omega
          rw [hmm]
          rcases hS with ⟨b1, b2⟩ | ⟨q, el, g1, g2, g3, g4, g5, g6, g7⟩
          · rw [b1]
            exact ⟨fun z => ⟨Or.inl b2, z⟩, fun z => z.2⟩
          · rw [g4, g5, show (-1 : Int32) = jI (-1) from rfl, jI_eq (by omega) (by omega) (by omega) (by omega), jI_le (by omega) (by omega) (by omega) (by omega)]
            show (r1 = 0 ∨ e1 + rEat t w (tideS t kh - load) (k + 1) < e1 + el) ↔ _
            omega
        by_cases cb : b.1 = 0 ∨ e1 + rEat t w (tideS t kh - load) (k + 1) < b.2.2
        · rw [if_pos ⟨hok1, cb⟩, if_pos (hcond.mp cb)]
          refine ⟨_, _, _, _, _, _, _, ⟨rfl, Or.inr ⟨k + 1, _, hr, hv.1, hea, rfl, rfl, fun p hp => ta_row hp, ?_⟩⟩, rfl⟩
          rcases hS with ⟨b1, b2⟩ | ⟨q, el, g1, g2, g3, g4, g5, g6, g7⟩
          · rw [b1] at cb; exact cb
          · rw [g4] at cb
            have cb2 : r1 = 0 ∨ e1 + rEat t w (tideS t kh - load) (k + 1) < e1 + el := cb
            omega
        · rw [if_neg (fun z => cb z.2), if_neg (fun z => cb (hcond.mpr z))]
          exact ⟨_, _, _, _, _, _, _, ⟨rfl, hS⟩, rfl⟩
      · rw [if_neg cm, if_pos rfl, if_neg (fun z => cm ⟨z.1.2.2.1, z.1.2.2.2⟩)]
        exact ⟨_, _, _, _, _, _, _, ⟨rfl, hS⟩, rfl⟩
    · rw [if_neg (fun z => hv ⟨z.1.1, z.1.2.1⟩), if_neg hv, if_pos rfl]
      exact ⟨_, _, _, _, _, _, _, ⟨rfl, hS⟩, rfl⟩
  · rintro rec y4 y5 e w' a pl ta ⟨rfl, hS⟩
    unfold B_X9_second_1
    rw [if_pos (show (343 : Int32) ≤ nI (342 + 1) by decide)]
    exact ⟨_, _, _, _, _, _, rfl, hS⟩
theorem both_th {w : Nat → Int32} (K : (Nat → Int32) → Option (Int32 × Int32 × (Nat → Int32) × (Nat → Int32) × (Nat → Int32) × (Nat → Int32) × (Nat → Int32) × (Nat → Int32) × (Nat → Int32))) (th : Nat → Int32) : lq2 (B_X9_both_3 K w) fu 0 th = K (fA 0 6 (fun k _ => w k) th) := by
  refine fillL 0 6 (fun k _ => w k) (by omega) (fun rec k v hk => ?_) (fun rec v => ?_) th
  · have h6 : ¬ (6 : Int32) ≤ nI k := nI_ge (b := 6) hk (by decide)
    have hc : (nI k).toNatClampNeg = k := nI_clamp (by omega)
    have h0 : ¬ nI k < 0 := nI_pos (by omega)
    unfold B_X9_both_3
    simp only [h6, hc, h0, if_false, false_or, show ¬ 6 ≤ k by omega, nI_1, Nat.zero_add]
  · rfl
theorem both_best {J : Int32 → Int32 → (Nat → Int32) → (Nat → Int32) → (Nat → Int32) → (Nat → Int32) → (Nat → Int32) → (Nat → Int32) → Option (Int32 × Int32 × (Nat → Int32) × (Nat → Int32) × (Nat → Int32) × (Nat → Int32) × (Nat → Int32) × (Nat → Int32) × (Nat → Int32))} {e5 r12 e12 : Int32} {w12 a13 p12 th10 ta12 : Nat → Int32} (best : Nat → Int32) :
    ∃ best', lq2 (B_X9_both_2 J e5 r12 e12 w12 a13 p12 th10 ta12) fu 0 best = J (e5 + r12) e12 w12 a13 p12 best' th10 ta12 ∧ ∀ p, p < 3 → best' p = a13 p ∧ best' (3 + p) = ta12 p := by
  obtain ⟨n9, e⟩ := fu_4
  have st : ∀ (rec : Int32 → (Nat → Int32) → Option (Int32 × Int32 × (Nat → Int32) × (Nat → Int32) × (Nat → Int32) × (Nat → Int32) × (Nat → Int32) × (Nat → Int32) × (Nat → Int32))) (p : Nat) (b : Nat → Int32), p < 3 → B_X9_both_2 J e5 r12 e12 w12 a13 p12 th10 ta12 rec (nI p) b = rec (nI (p + 1)) (upd (upd b p (a13 p)) (3 + p) (ta12 p)) := by
    intro rec p b hp
    unfold B_X9_both_2
    have e3p : (3 : Int32) + nI p = nI (3 + p) := nI_add 3 p
    rw [if_neg (show ¬ (3 : Int32) ≤ nI p from nI_ge (b := 3) hp (by decide)), if_neg (idx_ok (k := p) rfl hp (by decide)), if_neg (idx_ok (k := p) rfl (show p < 6 by omega) (by decide)), e3p, if_neg (idx_ok (k := 3 + p) rfl (show 3 + p < 6 by omega) (by decide)), nI_1, nI_clamp (by omega), nI_clamp (by omega)]
  rw [e]
  change ∃ best', lq2 (B_X9_both_2 J e5 r12 e12 w12 a13 p12 th10 ta12) (n9 + 1 + 1 + 1 + 1) (nI 0) best = _ ∧ _
  rw [lq2_1, st _ 0 _ (by decide), lq2_1, st _ (0 + 1) _ (by decide), lq2_1, st _ (0 + 1 + 1) _ (by decide), lq2_1]
  unfold B_X9_both_2
  rw [if_pos (by decide)]
  refine ⟨_, rfl, fun p hp => ?_⟩
  match p, hp with
  | 0, _ => exact ⟨by rw [upd_n (by decide), upd_n (by decide), upd_n (by decide), upd_n (by decide), upd_n (by decide), upd_s], by rw [upd_n (by decide), upd_n (by decide), upd_n (by decide), upd_n (by decide)]; exact upd_s⟩
  | 1, _ => exact ⟨by rw [upd_n (by decide), upd_n (by decide), upd_n (by decide)]; exact upd_s, by rw [upd_n (by decide), upd_n (by decide)]; exact upd_s⟩
  | 2, _ => exact ⟨by rw [upd_n (by decide)]; exact upd_s, upd_s⟩
theorem tirS_a {t a b w : Nat → Int32} {m h : Nat} (e : ∀ p, p < 3 → a p = b p) : tirS t a w m h = tirS t b w m h := by
  unfold tirS stn
  rw [e 0 (by decide), e 1 (by decide), e 2 (by decide)]
/-- what the reference's both has -/
def SrB (st : Nat × Nat × Int) (least : Int32) (best : Nat → Int32) : Prop := (st.1 = 0 ∧ least = -1) ∨ (st.1 ≠ 0 ∧ least = jI st.2.2 ∧ ∀ p, p < 3 → best p = rowA st.1 p ∧ best (3 + p) = rowA st.2.1 p)
theorem both_eq (n1 e half : Int32) (t s w a pl best fr th ta : Nat → Int32) : f_X9_both n1 e half t s w a pl best fr th ta = lq9 (B_X9_both_1 (fun y e w a pl best th ta => some (y, e, w, a, pl, best, fA 0 6 (fun k _ => s k) fr, th, ta)) t s n1 half (fA 0 6 (fun k _ => s k) fr)) fu (-1) 1 e w a pl best th ta := by
  unfold f_X9_both
  rw [e_fromNow, bn1_some, jn8_e]
  rfl
theorem m_both {hour oats missed seed e : Int32} {t strength stands s w a pl best fr th ta : Nat → Int32} {b l : Int} {P H W k : Nat}
    (ht : TW t) (hs : TS t) (hN : RNb b hour oats missed seed strength stands s t) (e0 : t 0 = nI P) (e3 : t 3 = nI H) (hP : P ≤ 3) (hH : H ≤ 6) (hk : k < 2000000000) (ek : hour = nI k) (hl : 0 ≤ l ∧ l ≤ 240) (e5 : t 5 = nI W) (hW : W ≤ 120) :
    ∃ (least e' : Int32) (w' a' pl' best' fr' th' ta' : Nat → Int32), f_X9_both (jI l) e (-1) t s w a pl best fr th ta = some (least, e', w', a', pl', best', fr', th', ta') ∧ SrB (twS P H W t strength k l 343) least best' := by
  obtain ⟨⟨s9, hh0, hhb⟩, -⟩ := id hN
  obtain ⟨hWB, hWE⟩ := asnow_f (fr := fr) ht hN
  rw [both_eq]
  have h1 : twS P H W t strength k l (0 + 1) = (0, 0, 0) := by
    unfold twS
    rw [tw1_s, if_neg (fun z => absurd z.1.1.1 (by omega))]; rfl
  refine lq9_inv (fun r y2 y3 e w a pl best th ta => y3 = nI (r + 1) ∧ SrB (twS P H W t strength k l (r + 1)) y2 best) (fun z => ∃ (least e' : Int32) (w' a' pl' best' fr' th' ta' : Nat → Int32), z = some (least, e', w', a', pl', best', fr', th', ta') ∧ SrB (twS P H W t strength k l 343) least best') 342 ?_ ?_ fu 0 (-1) 1 e w a pl best th ta (by omega) (by unfold fu; omega) ⟨rfl, by rw [h1]; exact Or.inl ⟨rfl, rfl⟩⟩
  · rintro rec r0 y2 y3 e w a pl best th ta hk2 ⟨rfl, hS⟩
    left
    have hr : r0 + 1 < 343 := by omega
    generalize hrr : r0 + 1 = r at *
    have htok := twS_ok (W := W) (k := k) (l := l) ht hs hWB e0 e3 hP hH (show r ≤ 343 by omega)
    have hsx : twS P H W t strength k l (r + 1) = if okS P H (-1) W (rMin t strength (tideS t k - l)) r ∧ ((twS P H W t strength k l r).1 = 0 ∨ rEat t strength (tideS t k - l) r < (twS P H W t strength k l r).2.2) then tw2 P H W r (rEat t strength (tideS t k - l) r) (rMin t (tirS t (rowA r) strength (rMin t strength (tideS t k - l) r)) (tideS t (k + 1) - l)) (rEat t (tirS t (rowA r) strength (rMin t strength (tideS t k - l) r)) (tideS t (k + 1) - l)) (twS P H W t strength k l r) 343 else twS P H W t strength k l r := rfl
    rw [hsx]
    generalize twS P H W t strength k l r = st at hS htok ⊢
    unfold B_X9_both_1
    rw [if_neg (show ¬ (343 : Int32) ≤ nI r from nI_ge (b := 343) hr (by decide)), e_puts e0 e3 hP hH hr, bn2_some, jn4_e, nI_1]
    by_cases hv : okN P H r ∧ ¬ rHas r (-1)
    · obtain ⟨hc, hd, hok, hq, hm120, hea⟩ := row_f (push := tideS t k - l) ht hs hWB e0 e3 hP hH hr hv.1
      have hw1 : WEQ t (fA 0 6 (fun k _ => fA 0 6 (fun k _ => s k) fr k) w) strength := fun h hh => by
        have h6 : h < 6 := by rw [e3, nI_clamp (by omega)] at hh; omega
        rw [fA_0 h6]
        exact hWE h hh
      obtain ⟨pl', hx⟩ := m_row (a0 := a) (pl := pl) (e := e) ht hs hWB hw1 e0 e3 hP hH (show k < 2147483648 by omega) hl hr hv.1
      rw [if_pos hv, if_neg (show ¬ (1 : Int32) = 0 by decide), e_strong, bn1_some, show s (Int32.toNatClampNeg 9) = nI k from s9.trans ek, hx, bn4_some]
      dsimp only
      rw [jn8_e, if_neg (show ¬ (1 : Int32) = 0 by decide), in_1W e5 hm120 hW, bn1_some]
      by_cases cm : rMin t strength (tideS t k - l) r ≠ 0 ∧ rMin t strength (tideS t k - l) r ≤ W
      · have hok1 : okS P H (-1) W (rMin t strength (tideS t k - l)) r := ⟨hv.1, hv.2, cm.1, cm.2⟩
        have hwk : wlk (rMin t strength (tideS t k - l) r) = rMin t strength (tideS t k - l) r := if_neg cm.1
        rw [if_pos cm, if_neg (show ¬ (1 : Int32) = 0 by decide), wlk_eat cm.1, hwk, jn1_d]
        have hcond : (st.1 = 0 ∨ rEat t strength (tideS t k - l) r < st.2.2) ↔ (y2 = -1 ∨ ¬ y2 ≤ jI (rEat t strength (tideS t k - l) r)) := by
          rcases hS with ⟨g1, g2⟩ | ⟨g1, g2, g3⟩
          · exact ⟨fun _ => Or.inl g2, fun _ => Or.inl g1⟩
          · obtain ⟨o1, o2, o3, o4, o5, o6⟩ := htok.resolve_left g1
            rw [g2, show (-1 : Int32) = jI (-1) from rfl, jI_eq (by omega) (by omega) (by omega) (by omega), jI_le (by omega) (by omega) (by omega) (by omega)]
            omega
        have hsplit : ∀ (T N : Option (Int32 × Int32 × (Nat → Int32) × (Nat → Int32) × (Nat → Int32) × (Nat → Int32) × (Nat → Int32) × (Nat → Int32) × (Nat → Int32))), (if y2 = -1 then T else if y2 ≤ jI (rEat t strength (tideS t k - l) r) then N else T) = if (y2 = -1 ∨ ¬ y2 ≤ jI (rEat t strength (tideS t k - l) r)) then T else N := fun T N => by
          by_cases q1 : y2 = -1
          · rw [if_pos q1, if_pos (Or.inl q1)]
          · rw [if_neg q1]
            by_cases q2 : y2 ≤ jI (rEat t strength (tideS t k - l) r)
            · rw [if_pos q2, if_neg (fun z => by rcases z with z | z; exact q1 z; exact z q2)]
            · rw [if_neg q2, if_pos (Or.inr q2)]
        rw [hsplit]
        by_cases cb : st.1 = 0 ∨ rEat t strength (tideS t k - l) r < st.2.2
        · rw [if_pos ⟨hok1, cb⟩, if_pos (hcond.mp cb)]
          have ha : ∀ p, p < 3 → at3 a (rowA r 0) (rowA r 1) (rowA r 2) p = rowA r p := fun p hp => at3_row hp a
          have hWB1 : WB t (fA 0 6 (fun k _ => fA 0 6 (fun k _ => s k) fr k) w) := fun h hh => by rw [hw1 h hh]; exact hWB h hh
          obtain ⟨v, v1, v2⟩ := e_rests (w := wAft (fA 0 6 (fun k _ => fA 0 6 (fun k _ => s k) fr k) w) (at3 a (rowA r 0) (rowA r 1) (rowA r 2)) (rMin t strength (tideS t k - l) r)) (a := at3 a (rowA r 0) (rowA r 1) (rowA r 2)) (n := 1) (x2 := 0) ht hs (wAft_WB hs hWB1) (by omega)
          have v3 := aft_tir ht (CREW_ext ha hc) v2
          have v4 : WEQ t (fA 0 6 (fun k _ => v k) th) (tirS t (rowA r) strength (rMin t strength (tideS t k - l) r)) := fun h hh => by
            have h6 : h < 6 := by rw [e3, nI_clamp (by omega)] at hh; omega
            rw [fA_0 h6, v3 h hh, tirS_a ha, tirS_ext hw1 hh]
          have hWt : WB t (tirS t (rowA r) strength (rMin t strength (tideS t k - l) r)) := tir_WB hs hWB (a := rowA r) (m := rMin t strength (tideS t k - l) r) (fun _ _ => rfl)
          have v1' : f_X9_rests 1 0 t (wAft (fA 0 6 (fun k _ => fA 0 6 (fun k _ => s k) fr k) w) (at3 a (rowA r 0) (rowA r 1) (rowA r 2)) (rMin t strength (tideS t k - l) r)) (at3 a (rowA r 0) (rowA r 1) (rowA r 2)) = some v := v1
          rw [v1', bn1_some, jn1_d]
          have key : ∀ (Z : Option (Int32 × Int32 × (Nat → Int32) × (Nat → Int32) × (Nat → Int32) × (Nat → Int32) × (Nat → Int32) × (Nat → Int32) × (Nat → Int32)) → Prop) (K3 : (Nat → Int32) → Option (Int32 × Int32 × (Nat → Int32) × (Nat → Int32) × (Nat → Int32) × (Nat → Int32) × (Nat → Int32) × (Nat → Int32) × (Nat → Int32))), Z (K3 (fA 0 6 (fun k _ => v k) th)) → Z (lq2 (B_X9_both_3 K3 v) fu 0 th) := fun Z K3 hZ => by rw [both_th]; exact hZ
          refine key (fun o => ∃ b1 b2 b3 b4 b5 b6 b7 b8 b9, (b2 = nI (r + 1) ∧ SrB (tw2 P H W r (rEat t strength (tideS t k - l) r) (rMin t (tirS t (rowA r) strength (rMin t strength (tideS t k - l) r)) (tideS t (k + 1) - l)) (rEat t (tirS t (rowA r) strength (rMin t strength (tideS t k - l) r)) (tideS t (k + 1) - l)) st 343) b1 b7) ∧ o = rec b1 b2 b3 b4 b5 b6 b7 b8 b9) _ ?_
          rw [jn1_if]
          have hmost : (st.1 = 0 ∧ (if y2 = -1 then (-1 : Int32) else y2 - jI (rEat t strength (tideS t k - l) r)) = -1) ∨ (st.1 ≠ 0 ∧ (if y2 = -1 then (-1 : Int32) else y2 - jI (rEat t strength (tideS t k - l) r)) = jI (st.2.2 - rEat t strength (tideS t k - l) r) ∧ rEat t strength (tideS t k - l) r < st.2.2 ∧ st.2.2 ≤ 28800) := by
            rcases hS with ⟨g1, g2⟩ | ⟨g1, g2, g3⟩
            · exact Or.inl ⟨g1, if_pos g2⟩
            · obtain ⟨o1, o2, o3, o4, o5, o6⟩ := htok.resolve_left g1
              have hn : ¬ y2 = -1 := by rw [g2, show (-1 : Int32) = jI (-1) from rfl, jI_eq (by omega) (by omega) (by omega) (by omega)]; omega
              exact Or.inr ⟨g1, by rw [if_neg hn, g2, jI_sub], cb.resolve_left g1, o6⟩
          obtain ⟨least, e', w', a', pl2, ta', q1, q2⟩ := m_second (kh := k + 1) ht hs hWt v4 e0 e3 hP hH (by omega) hl e5 hW hv.1.1 hea hmost (jI (rEat t strength (tideS t k - l) r)) v (at3 a (rowA r 0) (rowA r 1) (rowA r 2)) pl' ta
          rw [nI_1 k, q1, bn6_some]
          rcases q2 with ⟨g1, g2⟩ | ⟨q, el, g1, g2, g3, g4, g5, g6, g7⟩
          · rw [g1, if_pos g2]
            exact ⟨_, _, _, _, _, _, _, _, _, ⟨rfl, hS⟩, rfl⟩
          · have hn : ¬ least = -1 := by rw [g5, show (-1 : Int32) = jI (-1) from rfl, jI_eq (by omega) (by omega) (by omega) (by omega)]; omega
            rw [g4, if_neg hn, e_puts e0 e3 hP hH hr, bn2_some, g5]
            have kb : ∀ (Z : Option (Int32 × Int32 × (Nat → Int32) × (Nat → Int32) × (Nat → Int32) × (Nat → Int32) × (Nat → Int32) × (Nat → Int32) × (Nat → Int32)) → Prop) (J : Int32 → Int32 → (Nat → Int32) → (Nat → Int32) → (Nat → Int32) → (Nat → Int32) → (Nat → Int32) → (Nat → Int32) → Option (Int32 × Int32 × (Nat → Int32) × (Nat → Int32) × (Nat → Int32) × (Nat → Int32) × (Nat → Int32) × (Nat → Int32) × (Nat → Int32))), (∀ best', (∀ p, p < 3 → best' p = at3 a' (rowA r 0) (rowA r 1) (rowA r 2) p ∧ best' (3 + p) = ta' p) → Z (J (jI (rEat t strength (tideS t k - l) r) + jI el) e' w' (at3 a' (rowA r 0) (rowA r 1) (rowA r 2)) pl2 best' (fA 0 6 (fun k _ => v k) th) ta')) → Z (lq2 (B_X9_both_2 J (jI (rEat t strength (tideS t k - l) r)) (jI el) e' w' (at3 a' (rowA r 0) (rowA r 1) (rowA r 2)) pl2 (fA 0 6 (fun k _ => v k) th) ta') fu 0 best) := fun Z J hZ => by
              obtain ⟨best', z1, z2⟩ := both_best (J := J) (e5 := jI (rEat t strength (tideS t k - l) r)) (r12 := jI el) (e12 := e') (w12 := w') (a13 := at3 a' (rowA r 0) (rowA r 1) (rowA r 2)) (p12 := pl2) (th10 := fA 0 6 (fun k _ => v k) th) (ta12 := ta') best
              rw [z1]; exact hZ best' z2
            refine kb (fun o => ∃ b1 b2 b3 b4 b5 b6 b7 b8 b9, (b2 = nI (r + 1) ∧ SrB (r, q, rEat t strength (tideS t k - l) r + el) b1 b7) ∧ o = rec b1 b2 b3 b4 b5 b6 b7 b8 b9) (fun y e w a p bs th ta => rec y (nI (r + 1)) e w a p bs th ta) (fun best' hb' => ?_)
            refine ⟨_, _, _, _, _, _, _, _, _, ⟨rfl, Or.inr ⟨?_, jI_add _ _, fun p hp => ⟨?_, ?_⟩⟩⟩, rfl⟩
            · show r ≠ 0
              have := hv.1.1; omega
            · rw [(hb' p hp).1]; exact at3_row hp a'
            · rw [(hb' p hp).2]; exact g6 p hp
        · rw [if_neg (fun z => cb z.2), if_neg (fun z => cb (hcond.mpr z))]
          exact ⟨_, _, _, _, _, _, _, _, _, ⟨rfl, hS⟩, rfl⟩
      · rw [if_neg cm, if_pos rfl, if_neg (fun z => cm ⟨z.1.2.2.1, z.1.2.2.2⟩)]
        exact ⟨_, _, _, _, _, _, _, _, _, ⟨rfl, hS⟩, rfl⟩
    · rw [if_neg (fun z => hv ⟨z.1.1, z.1.2.1⟩), if_neg hv, if_pos rfl]
      dsimp only
      rw [jn8_e, if_pos rfl]
      exact ⟨_, _, _, _, _, _, _, _, _, ⟨rfl, hS⟩, rfl⟩
  · rintro rec y2 y3 e w a pl best th ta ⟨rfl, hS⟩
    unfold B_X9_both_1
    rw [if_pos (show (343 : Int32) ≤ nI (342 + 1) by decide)]
    exact ⟨_, _, _, _, _, _, _, _, _, rfl, hS⟩
