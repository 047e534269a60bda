/-! PURE SIDE: twice: the class's side -/
theorem crew4 {A1 A2 A3 B : Type} {F : (Int32 → A1 → A2 → A3 → Option B) → Int32 → A1 → A2 → A3 → Option B} {P H : Nat} (hP : P ≤ 3) (hH : H ≤ 6) (S : Nat → A1 → A2 → A3 → Prop) (Q : Option B → Prop)
    (hsk : ∀ r d a b c, (∀ j, r ≤ j → j < r + d → ¬ okN P H j) → S r a b c → S (r + d) a b c)
    (hst : ∀ (rec : Int32 → A1 → A2 → A3 → Option B) r a b c, r < 343 → okN P H r → S r a b c → ∃ a' b' c', S (r + 1) a' b' c' ∧ F rec (nI (cntN P H r + 1)) a b c = rec (nI (cntN P H r + 1 + 1)) a' b' c')
    (hen : ∀ (rec : Int32 → A1 → A2 → A3 → Option B) a b c, S 343 a b c → Q (F rec (nI (cntN P H 343 + 1)) a b c)) (a : A1) (b : A2) (c : A3) (h0 : S 0 a b c) : Q (lq4 F fu 1 a b c) := by
  have h228 := cnt_228 hP hH
  refine lq4_inv (fun k y a b c => y = nI (k + 1) ∧ ∃ r, r ≤ 343 ∧ cntN P H r = k ∧ S r a b c) Q (cntN P H 343) ?_ ?_ fu 0 1 a b c (by omega) (by unfold fu; omega) ⟨rfl, 0, by omega, rfl, h0⟩
  · rintro rec k y a b c hk ⟨rfl, r, hr, hck, hs⟩
    obtain ⟨r', g1, g2, g3, g4, g5⟩ := nextV (P := P) (H := H) (k := k) (343 - r) r (by omega) hck hk
    have hb := hsk r (r' - r) a b c (fun j h1 h2 => g5 j h1 (by omega)) hs
    rw [show r + (r' - r) = r' by omega] at hb
    obtain ⟨a', b', c', q1, q2⟩ := hst rec r' a b c g2 g3 hb
    rw [g4] at q2
    exact Or.inl ⟨_, a', b', c', ⟨rfl, r' + 1, by omega, by rw [cntN_s, if_pos g3, g4], q1⟩, q2⟩
  · rintro rec y a b c ⟨rfl, r, hr, hck, hs⟩
    have hno : ∀ j, r ≤ j → j < r + (343 - r) → ¬ okN P H j := fun j h1 h2 ho => by
      have a1 := cnt_lt (show j < 343 by omega) ho
      have a2 := cnt_mono (P := P) (H := H) (r := r) (j - r)
      rw [show r + (j - r) = j by omega] at a2
      omega
    have hb := hsk r (343 - r) a b c hno hs
    rw [show r + (343 - r) = 343 by omega] at hb
    exact hen rec a b c hb
theorem crew5 {A1 A2 A3 A4 B : Type} {F : (Int32 → A1 → A2 → A3 → A4 → Option B) → Int32 → A1 → A2 → A3 → A4 → Option B} {P H : Nat} (hP : P ≤ 3) (hH : H ≤ 6) (S : Nat → A1 → A2 → A3 → A4 → Prop) (Q : Option B → Prop)
    (hsk : ∀ r d a b c e, (∀ j, r ≤ j → j < r + d → ¬ okN P H j) → S r a b c e → S (r + d) a b c e)
    (hst : ∀ (rec : Int32 → A1 → A2 → A3 → A4 → Option B) r a b c e, r < 343 → okN P H r → S r a b c e → ∃ a' b' c' e', S (r + 1) a' b' c' e' ∧ F rec (nI (cntN P H r + 1)) a b c e = rec (nI (cntN P H r + 1 + 1)) a' b' c' e')
    (hen : ∀ (rec : Int32 → A1 → A2 → A3 → A4 → Option B) a b c e, S 343 a b c e → Q (F rec (nI (cntN P H 343 + 1)) a b c e)) (a : A1) (b : A2) (c : A3) (e : A4) (h0 : S 0 a b c e) : Q (lq5 F fu 1 a b c e) := by
  have h228 := cnt_228 hP hH
  refine lq5_inv (fun k y a b c e => y = nI (k + 1) ∧ ∃ r, r ≤ 343 ∧ cntN P H r = k ∧ S r a b c e) Q (cntN P H 343) ?_ ?_ fu 0 1 a b c e (by omega) (by unfold fu; omega) ⟨rfl, 0, by omega, rfl, h0⟩
  · rintro rec k y a b c e hk ⟨rfl, r, hr, hck, hs⟩
    obtain ⟨r', g1, g2, g3, g4, g5⟩ := nextV (P := P) (H := H) (k := k) (343 - r) r (by omega) hck hk
    have hb := hsk r (r' - r) a b c e (fun j h1 h2 => g5 j h1 (by omega)) hs
    rw [show r + (r' - r) = r' by omega] at hb
    obtain ⟨a', b', c', e', q1, q2⟩ := hst rec r' a b c e g2 g3 hb
    rw [g4] at q2
    exact Or.inl ⟨_, a', b', c', e', ⟨rfl, r' + 1, by omega, by rw [cntN_s, if_pos g3, g4], q1⟩, q2⟩
  · rintro rec y a b c e ⟨rfl, r, hr, hck, hs⟩
    have hno : ∀ j, r ≤ j → j < r + (343 - r) → ¬ okN P H j := fun j h1 h2 ho => by
      have a1 := cnt_lt (show j < 343 by omega) ho
      have a2 := cnt_mono (P := P) (H := H) (r := r) (j - r)
      rw [show r + (j - r) = j by omega] at a2
      omega
    have hb := hsk r (343 - r) a b c e hno hs
    rw [show r + (343 - r) = 343 by omega] at hb
    exact hen rec a b c e hb
/-- TWICE: first row (0: none), second row, oats of both -/
def tw2 (P H W r1 : Nat) (e1 : Int) (m : Nat → Nat) (e : Nat → Int) (st : Nat × Nat × Int) : Nat → Nat × Nat × Int
  | 0 => st
  | r + 1 => if okS P H (-1) W m r ∧ ((tw2 P H W r1 e1 m e st r).1 = 0 ∨ e1 + e r < (tw2 P H W r1 e1 m e st r).2.2) then (r1, r, e1 + e r) else tw2 P H W r1 e1 m e st r
theorem tw2_s (P H W r1 : Nat) (e1 : Int) (m : Nat → Nat) (e : Nat → Int) (st : Nat × Nat × Int) (r : Nat) : tw2 P H W r1 e1 m e st (r + 1) = if okS P H (-1) W m r ∧ ((tw2 P H W r1 e1 m e st r).1 = 0 ∨ e1 + e r < (tw2 P H W r1 e1 m e st r).2.2) then (r1, r, e1 + e r) else tw2 P H W r1 e1 m e st r := rfl
theorem tw2_skip {P H W r1 : Nat} {e1 : Int} {m : Nat → Nat} {e : Nat → Int} {st : Nat × Nat × Int} {r : Nat} : ∀ d, (∀ j, r ≤ j → j < r + d → ¬ okN P H j) → tw2 P H W r1 e1 m e st (r + d) = tw2 P H W r1 e1 m e st r
  | 0, _ => rfl
  | d + 1, h => by
    show tw2 P H W r1 e1 m e st (r + d + 1) = _
    rw [tw2_s, if_neg (fun z => h (r + d) (by omega) (by omega) z.1.1), tw2_skip d (fun j h1 h2 => h j h1 (by omega))]
def tw1 (P H W : Nat) (m : Nat → Nat) (e : Nat → Int) (m2 : Nat → Nat → Nat) (e2 : Nat → Nat → Int) : Nat → Nat × Nat × Int
  | 0 => (0, 0, 0)
  | r + 1 => if okS P H (-1) W m r ∧ ((tw1 P H W m e m2 e2 r).1 = 0 ∨ e r < (tw1 P H W m e m2 e2 r).2.2) then tw2 P H W r (e r) (m2 r) (e2 r) (tw1 P H W m e m2 e2 r) 343 else tw1 P H W m e m2 e2 r
theorem tw1_s (P H W : Nat) (m : Nat → Nat) (e : Nat → Int) (m2 : Nat → Nat → Nat) (e2 : Nat → Nat → Int) (r : Nat) : tw1 P H W m e m2 e2 (r + 1) = if okS P H (-1) W m r ∧ ((tw1 P H W m e m2 e2 r).1 = 0 ∨ e r < (tw1 P H W m e m2 e2 r).2.2) then tw2 P H W r (e r) (m2 r) (e2 r) (tw1 P H W m e m2 e2 r) 343 else tw1 P H W m e m2 e2 r := rfl
theorem tw1_skip {P H W : Nat} {m : Nat → Nat} {e : Nat → Int} {m2 : Nat → Nat → Nat} {e2 : Nat → Nat → Int} {r : Nat} : ∀ d, (∀ j, r ≤ j → j < r + d → ¬ okN P H j) → tw1 P H W m e m2 e2 (r + d) = tw1 P H W m e m2 e2 r
  | 0, _ => rfl
  | d + 1, h => by
    show tw1 P H W m e m2 e2 (r + d + 1) = _
    rw [tw1_s, if_neg (fun z => h (r + d) (by omega) (by omega) z.1.1), tw1_skip d (fun j h1 h2 => h j h1 (by omega))]
/-- what is found is of rows that may be tried -/
def TOK (P H : Nat) (st : Nat × Nat × Int) : Prop := st.1 = 0 ∨ (st.1 < 343 ∧ okN P H st.1 ∧ st.2.1 < 343 ∧ okN P H st.2.1 ∧ 0 ≤ st.2.2 ∧ st.2.2 ≤ 28800)
theorem tw2_ok {P H W r1 : Nat} {e1 : Int} {m : Nat → Nat} {e : Nat → Int} {st : Nat × Nat × Int} (h1 : r1 < 343) (ho : okN P H r1) (hb : 0 ≤ e1 ∧ e1 ≤ 14400) (he : ∀ q, q < 343 → okN P H q → 0 ≤ e q ∧ e q ≤ 14400) (hst : TOK P H st) : ∀ r, r ≤ 343 → TOK P H (tw2 P H W r1 e1 m e st r)
  | 0, _ => hst
  | r + 1, hr => by
    rw [tw2_s]
    by_cases c : okS P H (-1) W m r ∧ ((tw2 P H W r1 e1 m e st r).1 = 0 ∨ e1 + e r < (tw2 P H W r1 e1 m e st r).2.2)
    · rw [if_pos c]
      have := he r (by omega) c.1.1
      exact Or.inr ⟨h1, ho, by show r < 343; omega, c.1.1, by show 0 ≤ e1 + e r; omega, by show e1 + e r ≤ 28800; omega⟩
    · rw [if_neg c]; exact tw2_ok h1 ho hb he hst r (by omega)
theorem tw1_ok {P H W : Nat} {m : Nat → Nat} {e : Nat → Int} {m2 : Nat → Nat → Nat} {e2 : Nat → Nat → Int} (he : ∀ q, q < 343 → okN P H q → 0 ≤ e q ∧ e q ≤ 14400) (he2 : ∀ q, q < 343 → okN P H q → ∀ q2, q2 < 343 → okN P H q2 → 0 ≤ e2 q q2 ∧ e2 q q2 ≤ 14400) : ∀ r, r ≤ 343 → TOK P H (tw1 P H W m e m2 e2 r)
  | 0, _ => Or.inl rfl
  | r + 1, hr => by
    have ih := tw1_ok (W := W) (m := m) (m2 := m2) he he2 r (by omega)
    rw [tw1_s]
    by_cases c : okS P H (-1) W m r ∧ ((tw1 P H W m e m2 e2 r).1 = 0 ∨ e r < (tw1 P H W m e m2 e2 r).2.2)
    · rw [if_pos c]
      exact tw2_ok (by omega) c.1.1 (he r (by omega) c.1.1) (he2 r (by omega) c.1.1) ih 343 (Nat.le_refl _)
    · rw [if_neg c]; exact ih
/-- what the class has -/
def StP (P H : Nat) (st : Nat × Nat × Int) (first second oats : Int32) : Prop := (st.1 = 0 ∧ first = -1) ∨ (st.1 ≠ 0 ∧ first = nI (cntN P H st.1 + 1) ∧ second = nI (cntN P H st.2.1 + 1) ∧ oats = jI st.2.2)
theorem StP_f {P H : Nat} {st : Nat × Nat × Int} {first second oats : Int32} (hP : P ≤ 3) (hH : H ≤ 6) (ho : TOK P H st) (h : StP P H st first second oats) : (st.1 = 0 ∧ first = -1) ∨ (st.1 ≠ 0 ∧ ¬ first = -1 ∧ oats = jI st.2.2 ∧ 0 ≤ st.2.2 ∧ st.2.2 ≤ 28800) := by
  rcases h with h | ⟨h1, h2, h3, h4⟩
  · exact Or.inl h
  · obtain ⟨o1, o2, o3, o4, o5, o6⟩ := ho.resolve_left h1
    have := cnt_lt o1 o2
    have := cnt_228 hP hH
    exact Or.inr ⟨h1, by rw [h2]; exact nI_ne (by omega), h4, o5, o6⟩
theorem second_eq (n1 n2 n3 first second oats last law broad due : Int32) (tired who cp : Nat → Int32) : f_X3_searchSecond n1 n2 n3 first second oats tired last who cp law broad due = lq4 (B_X3_searchSecond_1 last (fun f s o => some (f, s, o)) due n3 who cp law broad tired n1 n2) fu 1 first second oats := by
  unfold f_X3_searchSecond
  rw [jn3_d]
  rfl
theorem c_second {law places broad horses blinds tideN last due first second oats : Int32} {pull str back moods tides t who cp u w : Nat → Int32} {P H W r1 : Nat} {push e1 : Int} {st : Nat × Nat × Int}
    (hB : BT law places broad horses blinds tideN pull str back moods tides t) (e0 : t 0 = nI P) (e3 : t 3 = nI H) (hP : P ≤ 3) (hH : H ≤ 6) (hF : FST t P H 343 last who cp) (hw : WB t w) (hE : WEQ t u w) (hpu : -300 ≤ push ∧ push ≤ 300) (hdue : (if due = 0 then (60 : Int32) else due) = nI W) (hW : W ≤ 120)
    (h1 : r1 < 343) (ho1 : okN P H r1) (hb : 0 ≤ e1 ∧ e1 ≤ 14400) (hok : TOK P H st) (hSt : StP P H st first second oats) :
    ∃ first' second' oats', f_X3_searchSecond (nI (cntN P H r1 + 1)) (jI e1) (jI push) first second oats u last who cp law broad due = some (first', second', oats') ∧ StP P H (tw2 P H W r1 e1 (rMin t w push) (rEat t w push) st 343) first' second' oats' := by
  obtain ⟨ht, hs, hSB, hPB, hCT, hlaw, -⟩ := id hB
  have hwu : WB t u := fun h hh => by rw [hE h hh]; exact hw h hh
  have h228 := cnt_228 hP hH
  rw [second_eq]
  refine crew4 hP hH (fun r f s o => r ≤ 343 → StP P H (tw2 P H W r1 e1 (rMin t w push) (rEat t w push) st r) f s o) (fun z => ∃ first' second' oats', z = some (first', second', oats') ∧ StP P H (tw2 P H W r1 e1 (rMin t w push) (rEat t w push) st 343) first' second' oats') ?_ ?_ ?_ first second oats (fun _ => hSt)
  · intro r d f s o h hS hr
    rw [tw2_skip d h]; exact hS (by omega)
  · intro rec r f s o hr ho hS
    have hS := hS (by omega)
    obtain ⟨hl1, hl2, hbr⟩ := BT_row hB e0 hP ho
    obtain ⟨hc, hd, hok2, hq, hm120, hea⟩ := row_f (push := push) ht hs hw e0 e3 hP hH hr ho
    have hoku := WB_ok hs hwu hc
    have hrow := hF.2 r hr ho
    have hlt := cnt_lt hr ho
    have htok := tw2_ok (W := W) (m := rMin t w push) (e := rEat t w push) h1 ho1 hb (fun q hq ho => (row_f (push := push) ht hs hw e0 e3 hP hH hq ho).2.2.2.2.2) hok r (by omega)
    have hf := StP_f hP hH htok hS
    have hM : cMin law broad.toInt (rowA r) (pullP t (rowA r) (-1)) u push = rMin t w push r := by
      rw [← hl1, ← hl2]; exact rMin_ext hc hE
    have hEa : cEat (rowA r) (pullP t (rowA r) (-1)) u (rMin t w push r) = rEat t w push r := cEat_ext hc hE
    have ch : ¬ rHas r (-1) := fun z => z.1 rfl
    rw [tw2_s]
    unfold B_X3_searchSecond_1
    rw [hF.1, if_neg (show ¬ nI (cntN P H 343) < nI (cntN P H r + 1) from nI_nlt (by omega) (by omega)), e_due hdue, bn1_some, e_minutes hrow hc hq hlaw hbr hpu hW, bn1_some, hM]
    dsimp only [jn1, jn3]
    by_cases cm : rMin t w push r ≠ 0 ∧ rMin t w push r ≤ W
    · have hok1 : okS P H (-1) W (rMin t w push) r := ⟨ho, ch, cm.1, cm.2⟩
      have hr1 : r1 ≠ 0 := fun z => by have := ho1.1; omega
      rw [mAns_yes cm, if_neg (nI_ne (by omega)), e_oats hrow hc hoku hm120, bn1_some, hEa, nI_1, jI_add]
      rcases hf with ⟨q1, q2⟩ | ⟨q1, q2, q3, q4, q5⟩
      · rw [if_pos q2, if_pos ⟨hok1, Or.inl q1⟩]
        exact ⟨_, _, _, fun _ => Or.inr ⟨hr1, rfl, rfl, rfl⟩, rfl⟩
      · rw [if_neg q2]
        by_cases c2 : (tw2 P H W r1 e1 (rMin t w push) (rEat t w push) st r).2.2 ≤ e1 + rEat t w push r
        · have c3 : o ≤ jI (e1 + rEat t w push r) := by rw [q3, jI_le (by omega) (by omega) (by omega) (by omega)]; exact c2
          rw [if_pos c3, if_neg (fun z => by rcases z.2 with z | z; exact q1 z; omega)]
          exact ⟨_, _, _, fun _ => hS, rfl⟩
        · have c3 : ¬ o ≤ jI (e1 + rEat t w push r) := by rw [q3, jI_le (by omega) (by omega) (by omega) (by omega)]; exact c2
          rw [if_neg c3, if_pos ⟨hok1, Or.inr (by omega)⟩]
          exact ⟨_, _, _, fun _ => Or.inr ⟨hr1, rfl, rfl, rfl⟩, rfl⟩
    · rw [mAns_no cm, if_pos rfl, nI_1, if_neg (fun z => cm ⟨z.1.2.2.1, z.1.2.2.2⟩)]
      exact ⟨_, _, _, fun _ => hS, rfl⟩
  · intro rec f s o hS
    unfold B_X3_searchSecond_1
    rw [hF.1, if_pos (nI_lt (by omega) (by omega))]
    exact ⟨f, s, o, rfl, hS (Nat.le_refl _)⟩
/-- TWICE at an hour with a load -/
def twS (P H W : Nat) (t w : Nat → Int32) (k : Nat) (l : Int) (r : Nat) : Nat × Nat × Int := tw1 P H W (rMin t w (tideS t k - l)) (rEat t w (tideS t k - l)) (fun r => rMin t (tirS t (rowA r) w (rMin t w (tideS t k - l) r)) (tideS t (k + 1) - l)) (fun r => rEat t (tirS t (rowA r) w (rMin t w (tideS t k - l) r)) (tideS t (k + 1) - l)) r
theorem twS_ok {t w : Nat → Int32} {P H W k r : Nat} {l : Int} (ht : TW t) (hs : TS t) (hw : WB t w) (e0 : t 0 = nI P) (e3 : t 3 = nI H) (hP : P ≤ 3) (hH : H ≤ 6) (hr : r ≤ 343) : TOK P H (twS P H W t w k l r) := by
  unfold twS
  refine tw1_ok (fun q h1 h2 => (row_f ht hs hw e0 e3 hP hH h1 h2).2.2.2.2.2) (fun q h1 h2 q2 h3 h4 => ?_) r hr
  exact (row_f ht hs (tir_WB hs hw (a := rowA q) (m := rMin t w (tideS t k - l) q) (fun _ _ => rfl)) e0 e3 hP hH h3 h4).2.2.2.2.2
theorem search_eq {n2 n3 first second oats last law broad horses tideN due x y : Int32} {tired who cp S Bk tides u : Nat → Int32} (h1 : f_X0_tideOf n2 tideN tides = some x) (h2 : f_X0_tideOf (n2 + 1) tideN tides = some y) : f_X3_search n2 n3 first second oats tired last who cp law broad horses tideN due S Bk tides u = lq5 (B_X3_search_1 last (fun f s o tr => some (f, s, o, tr)) due x n3 who cp law broad u horses S Bk y) fu 1 (-1) second oats tired := by
  unfold f_X3_search
  rw [h1, bn1_some, h2, bn1_some, jn4_e]
  rfl
theorem c_search {law places broad horses blinds tideN last due first second oats : Int32} {pull str back moods tides t who cp u tired : Nat → Int32} {P H W k : Nat} {l : Int}
    (hB : BT law places broad horses blinds tideN pull str back moods tides t) (e0 : t 0 = nI P) (e3 : t 3 = nI H) (hP : P ≤ 3) (hH : H ≤ 6) (hF : FST t P H 343 last who cp) (hw : WB t u) (hk : k < 2000000000) (hl : 0 ≤ l ∧ l ≤ 240) (hdue : (if due = 0 then (60 : Int32) else due) = nI W) (hW : W ≤ 120) :
    ∃ (first' second' oats' : Int32) (tired' : Nat → Int32), f_X3_search (nI k) (jI l) first second oats tired last who cp law broad horses tideN due str back tides u = some (first', second', oats', tired') ∧ StP P H (twS P H W t u k l 343) first' second' oats' := by
  obtain ⟨ht, hs, hSB, hPB, hCT, hlaw, -⟩ := id hB
  have h228 := cnt_228 hP hH
  rw [search_eq (e_ctide ht hCT (by omega)) (by rw [nI_1]; exact e_ctide ht hCT (by omega))]
  refine crew5 hP hH (fun r f s o tr => r ≤ 343 → StP P H (twS P H W t u k l r) f s o) (fun z => ∃ (first' second' oats' : Int32) (tired' : Nat → Int32), z = some (first', second', oats', tired') ∧ StP P H (twS P H W t u k l 343) first' second' oats') ?_ ?_ ?_ (-1) second oats tired (fun _ => Or.inl ⟨rfl, rfl⟩)
  · intro r d f s o tr h hS hr
    unfold twS at *
    rw [tw1_skip d h]; exact hS (by omega)
  · intro rec r f s o tr hr ho hS
    have hS := hS (by omega)
    obtain ⟨hl1, hl2, hbr⟩ := BT_row hB e0 hP ho
    obtain ⟨hc, hd, hok2, hq, hm120, hea⟩ := row_f (push := tideS t k - l) ht hs hw e0 e3 hP hH hr ho
    have hrow := hF.2 r hr ho
    have hlt := cnt_lt hr ho
    have htok := twS_ok (W := W) (k := k) (l := l) ht hs hw e0 e3 hP hH (show r ≤ 343 by omega)
    have hf := StP_f hP hH htok hS
    have hM : cMin law broad.toInt (rowA r) (pullP t (rowA r) (-1)) u (tideS t k - l) = rMin t u (tideS t k - l) r := by
      rw [← hl1, ← hl2]; rfl
    have ch : ¬ rHas r (-1) := fun z => z.1 rfl
    have hsx : twS P H W t u k l (r + 1) = if okS P H (-1) W (rMin t u (tideS t k - l)) r ∧ ((twS P H W t u k l r).1 = 0 ∨ rEat t u (tideS t k - l) r < (twS P H W t u k l r).2.2) then tw2 P H W r (rEat t u (tideS t k - l) r) (rMin t (tirS t (rowA r) u (rMin t u (tideS t k - l) r)) (tideS t (k + 1) - l)) (rEat t (tirS t (rowA r) u (rMin t u (tideS t k - l) r)) (tideS t (k + 1) - l)) (twS P H W t u k l r) 343 else twS P H W t u k l r := rfl
    rw [hsx]
    unfold B_X3_search_1
    rw [hF.1, if_neg (show ¬ nI (cntN P H 343) < nI (cntN P H r + 1) from nI_nlt (by omega) (by omega)), e_due hdue, bn1_some, jI_sub, e_minutes hrow hc hq hlaw hbr (push_b ht hl k) hW, bn1_some, hM]
    dsimp only [jn1, jn4]
    by_cases cm : rMin t u (tideS t k - l) r ≠ 0 ∧ rMin t u (tideS t k - l) r ≤ W
    · have hok1 : okS P H (-1) W (rMin t u (tideS t k - l)) r := ⟨ho, ch, cm.1, cm.2⟩
      have hEa : cEat (rowA r) (pullP t (rowA r) (-1)) u (rMin t u (tideS t k - l) r) = rEat t u (tideS t k - l) r := rfl
      obtain ⟨v, v1, v2⟩ := e_tire (v0 := tr) (m := rMin t u (tideS t k - l) r) ht hs hw hSB hrow hm120
      have hWt : WB t (tirS t (rowA r) u (rMin t u (tideS t k - l) r)) := tir_WB hs hw (a := rowA r) (m := rMin t u (tideS t k - l) r) (fun _ _ => rfl)
      obtain ⟨f', s', o', q1, q2⟩ := c_second hB e0 e3 hP hH hF hWt (v2 : WEQ t v _) (push_b ht hl (k + 1)) hdue hW hr ho hea htok hS
      rw [hF.1] at q1
      rw [mAns_yes cm, if_neg (nI_ne (by omega)), e_oats hrow hc hok2 hm120, bn1_some, hEa, hPB.1, v1, bn1_some, jI_sub, q1, bn3_some, nI_1]
      rcases hf with ⟨g1, g2⟩ | ⟨g1, g2, g3, g4, g5⟩
      · rw [if_pos g2, if_pos ⟨hok1, Or.inl g1⟩]
        exact ⟨_, _, _, _, fun _ => q2, rfl⟩
      · rw [if_neg g2]
        by_cases c2 : (twS P H W t u k l r).2.2 ≤ rEat t u (tideS t k - l) r
        · have c3 : o ≤ jI (rEat t u (tideS t k - l) r) := by rw [g3, jI_le (by omega) (by omega) (by omega) (by omega)]; exact c2
          rw [if_pos c3, if_neg (fun z => by rcases z.2 with z | z; exact g1 z; omega)]
          exact ⟨_, _, _, _, fun _ => hS, rfl⟩
        · have c3 : ¬ o ≤ jI (rEat t u (tideS t k - l) r) := by rw [g3, jI_le (by omega) (by omega) (by omega) (by omega)]; exact c2
          rw [if_neg c3, if_pos ⟨hok1, Or.inr (by omega)⟩]
          exact ⟨_, _, _, _, fun _ => q2, rfl⟩
    · rw [mAns_no cm, if_pos rfl, nI_1, if_neg (fun z => cm ⟨z.1.2.2.1, z.1.2.2.2⟩)]
      exact ⟨_, _, _, _, fun _ => hS, rfl⟩
  · intro rec f s o tr hS
    unfold B_X3_search_1
    rw [hF.1, if_pos (nI_lt (by omega) (by omega))]
    exact ⟨f, s, o, tr, rfl, hS (Nat.le_refl _)⟩
