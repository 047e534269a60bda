/-! PURE SIDE: rest, draws, days by draws -/
theorem m_restAll {law places broad horses blinds tideN hour oats missed seed pk gk : Int32} {pull str back moods tides t strength stands s w a : Nat → Int32} {b : Int} {n : Nat}
    (hB : BT law places broad horses blinds tideN pull str back moods tides t) (hN : RNb b hour oats missed seed strength stands s t) (hb : b < 2000000000) (hn : n ≤ 100) :
    ∃ (strength' s' w' at' : Nat → Int32), f_X8_restAll (nI n) horses str back hour strength pk gk = some (hour + nI n, strength', 0, 0) ∧ f_X9_rested (nI n) t s w a = some (s', w', at') ∧ s' 9 = hour + nI n ∧ RNb (b + n) (hour + nI n) oats missed seed strength' stands s' t := by
  obtain ⟨ht, hs, hSB, hPB, hCT, hlaw, ht1, ht2, hbr, ht0, hpl⟩ := hB
  obtain ⟨⟨s9, hh0, hhb⟩, ⟨s10, ho0, ho1⟩, s11, ⟨s12, hseed⟩, ⟨s6, s7, s8⟩, hst, hstr⟩ := hN
  obtain ⟨k, hk, ek, ekI⟩ := hour_n hh0
  obtain ⟨H, h6, e3, eH⟩ := hor_n ht
  let w1 : Nat → Int32 := fA 0 6 (fun k _ => s k) w
  have hw1 : ∀ h, h < (t 3).toNatClampNeg → w1 h = strength h := fun h hh => by
    show fA 0 6 _ w h = _
    rw [fA_0 (by omega)]; exact (hstr h hh).1
  have hWB : WB t strength := fun h hh => by
    have := hstr h hh
    rw [i_le, i_le] at this
    exact this.2
  have hWB1 : WB t w1 := fun h hh => by rw [hw1 h hh]; exact hWB h hh
  have hWEQ : WEQ t strength w1 := fun h hh => (hw1 h hh).symm
  obtain ⟨v, hv, hv2⟩ := e_refreshA (u := strength) ht hs hWB hSB hn
  obtain ⟨v9, hv9, hv92⟩ := e_rests (w := w1) (a := fA 0 3 (fun k _ => s (6 + k)) a) (n := n) (x2 := 1) ht hs hWB1 hn
  have hvv : ∀ h, h < (t 3).toNatClampNeg → v9 h = v h := fun h hh => by
    rw [hv92 h hh, if_neg (fun z => absurd z.1 (by decide)), hv2 h hh, rstS_ext hWEQ hh]
  have hvb := rst_WB hs hWB hn hv2
  let s4 : Nat → Int32 := fA 0 6 (fun k _ => v9 k) s
  have s4o : ∀ j, 6 ≤ j → s4 j = s j := fun j hj => fA_0n hj
  have eh : hour + nI n = nI (k + n) := by rw [ek, nI_add]
  refine ⟨v, upd s4 9 (s4 9 + nI n), v9, fA 0 3 (fun k _ => s (6 + k)) a, ?_, ?_, ?_, ?_⟩
  · unfold f_X8_restAll f_X8_forgetTried
    rw [show horses = t 3 from hPB.1, hv, bn1_some, bn2_some]
  · unfold f_X9_rested
    rw [e_asNow, bn2_some, hv9, bn1_some, e_becomesSo, bn1_some]
    rfl
  · rw [upd_s, s4o 9 (by decide), s9]
  · refine ⟨⟨by rw [upd_s, s4o 9 (by decide), s9], ?_, ?_⟩, ⟨by rw [upd_n (by decide), s4o 10 (by decide), s10], ho0, ho1⟩, by rw [upd_n (by decide), s4o 11 (by decide), s11], ⟨by rw [upd_n (by decide), s4o 12 (by decide), s12], hseed⟩, ⟨by rw [upd_n (by decide), s4o 6 (by decide), s6], by rw [upd_n (by decide), s4o 7 (by decide), s7], by rw [upd_n (by decide), s4o 8 (by decide), s8]⟩, hst, ?_⟩
    · rw [eh]; exact nI_pos' (by omega)
    · rw [eh, nI_toInt (by omega)]; omega
    · intro h hh
      have : upd s4 9 (s4 9 + nI n) h = v9 h := by
        rw [upd_n (by omega)]
        show fA 0 6 _ s h = _
        rw [fA_0 (by omega)]
      rw [this, hvv h hh]
      have hb2 := hvb h hh
      exact ⟨rfl, (i_le _ _).mpr hb2.1, (i_le _ _).mpr hb2.2⟩
/-- the next seed -/
def drS (x : Int32) : Int32 := (x * 1103515245 + 12345) &&& 2147483647
def drR (N : Nat) (x : Int32) : Nat := (drS x).toNatClampNeg / 65536 % N
theorem drS_n (x : Int32) : ∃ k : Nat, k < 2147483648 ∧ drS x = nI k := by
  refine ⟨_, ?_, pk_and (x * 1103515245 + 12345) (m := 2147483647) 31 (by decide)⟩
  exact Nat.mod_lt _ (by decide)
theorem drS_64 (x : Int32) : ((((x).toInt64 * (1103515245 : Int64)) + (12345 : Int64)) &&& (2147483647 : Int64)).toInt32 = drS x := by
  unfold drS
  rw [Int64.toInt32_and, Int64.toInt32_add, Int64.toInt32_mul, Int32.toInt32_toInt64]
  rfl
theorem drR_lt {N : Nat} (hN : 0 < N) (x : Int32) : drR N x < N := Nat.mod_lt _ hN
theorem dr_rem {N : Nat} (hN : 0 < N) (hN2 : N < 1000) (x : Int32) : drS x / 65536 - drS x / 65536 / nI N * nI N = nI (drR N x) := by
  obtain ⟨k, hk, e⟩ := drS_n x
  unfold drR
  rw [e, nI_clamp (by omega), show (65536 : Int32) = nI 65536 from rfl, pk_div (by omega) (by decide) (by decide), pk_rem (by omega) hN (by omega)]
theorem e_cdraw {N : Nat} (hN : 0 < N) (hN2 : N < 1000) (x : Int32) : f_X5_draw (nI N) x = some (nI (drR N x), drS x) := by
  unfold f_X5_draw
  rw [if_pos (show 0 < nI N from by rw [show (0 : Int32) = nI 0 from rfl]; exact nI_lt hN (by omega)), if_neg (nI_ne0 hN (by omega)), drS_64, dr_rem hN hN2]
theorem e_mdraw {N : Nat} (hN : 0 < N) (hN2 : N < 1000) (s : Nat → Int32) : f_X9_draw (nI N) s = some (nI (drR N (s 12)), upd s 12 (drS (s 12))) := by
  unfold f_X9_draw
  rw [if_neg (nI_ne0 hN (by omega))]
  change some (upd s 12 (drS (s 12)) 12 / 65536 - upd s 12 (drS (s 12)) 12 / 65536 / nI N * nI N, upd s 12 (drS (s 12))) = _
  rw [upd_s, dr_rem hN hN2]
/-- who stands, drawn place by place -/
abbrev free (st : Nat → Int32) (r : Int32) : Prop := ¬ (st 0 = r ∨ st 1 = r ∨ st 2 = r)
def dsd (x0 : Int32) : Nat → Int32
  | 0 => x0
  | k + 1 => drS (dsd x0 k)
def dst (H : Nat) (x0 : Int32) (st0 : Nat → Int32) : Nat → Nat → Int32
  | 0 => st0
  | k + 1 => if drR (H + 1) (dsd x0 k) < H ∧ free (dst H x0 st0 k) (nI (drR (H + 1) (dsd x0 k))) then upd (dst H x0 st0 k) k (nI (drR (H + 1) (dsd x0 k))) else dst H x0 st0 k
theorem place_free (st : Nat → Int32) (r : Int32) : ((if st 0 = r then (0 : Int32) else if st 1 = r then 1 else if st 2 = r then 2 else -1) = -1) ↔ free st r := by
  unfold free
  by_cases h0 : st 0 = r <;> by_cases h1 : st 1 = r <;> by_cases h2 : st 2 = r <;> simp [h0, h1, h2] <;> decide
theorem where_free (s : Nat → Int32) (r : Int32) : ((if s 8 = r then (2 : Int32) else if s 7 = r then 1 else if s 6 = r then 0 else -1) = -1) ↔ free (fun p => s (6 + p)) r := by
  unfold free
  by_cases h0 : s 6 = r <;> by_cases h1 : s 7 = r <;> by_cases h2 : s 8 = r <;> simp [h0, h1, h2] <;> decide
theorem dst_stnd {H : Nat} {x0 : Int32} {st0 : Nat → Int32} (hH : H ≤ 6) (h0 : ∀ p, p < 3 → st0 p = -1) : ∀ k, k ≤ 3 → (∀ p, p < 3 → k ≤ p → dst H x0 st0 k p = -1) ∧ STND (nI k) (nI H) (dst H x0 st0 k)
  | 0, _ => by
    refine ⟨fun p hp _ => h0 p hp, fun p hp => Or.inl (h0 p hp), Or.inl (h0 0 (by decide)), Or.inl (h0 1 (by decide)), Or.inl (h0 2 (by decide))⟩
  | k + 1, hk => by
    obtain ⟨i1, i2, i3⟩ := dst_stnd hH h0 k (by omega)
    have up : ∀ p, p < 3 → dst H x0 st0 k p = -1 ∨ (0 ≤ dst H x0 st0 k p ∧ dst H x0 st0 k p < nI H ∧ nI p < nI (k + 1)) := fun p hp => by
      rcases i2 p hp with e | ⟨e1, e2, e3⟩
      · exact Or.inl e
      · exact Or.inr ⟨e1, e2, by
          rw [nI_ltI (by omega) (by omega)] at e3 ⊢; omega⟩
    unfold dst
    generalize hr : drR (H + 1) (dsd x0 k) = r
    by_cases c : r < H ∧ free (dst H x0 st0 k) (nI r)
    · rw [if_pos c]
      refine ⟨fun p hp h2 => by rw [upd_n (by omega)]; exact i1 p hp (by omega), fun p hp => ?_, ?_⟩
      · rw [upd_at]
        by_cases e : p = k
        · rw [if_pos e]
          exact Or.inr ⟨nI_pos' (by omega), nI_lt c.1 (by omega), nI_lt (by omega) (by omega)⟩
        · rw [if_neg e]; exact up p hp
      · have c2 := c.2
        unfold free at c2
        rw [upd_at, upd_at, upd_at]
        have : k = 0 ∨ k = 1 ∨ k = 2 := by omega
        rcases this with rfl | rfl | rfl <;> simp <;> grind
    · rw [if_neg c]
      exact ⟨fun p hp h2 => i1 p hp (by omega), up, i3⟩
