/-! PURE SIDE: the invariant (written by wip/whole/gen/mksteps.py) -/
abbrev Inv : InvT := fun n b_law b_places b_broad b_horses b_blinds b_besides b_tideCount b_cartCount b_due b_pairs b_pull b_strength b_back b_moods b_tides b_carts d_law d_places d_broad d_horses d_blinds d_besides d_tideCount d_cartCount d_due d_pairs d_pull d_strength d_back d_moods d_tides d_carts r_length r_fault r_faultAt r_next r_numberFrom r_text c_last c_who c_pull s_hour s_oats s_missed s_seed s_kept s_strength s_stands i_hour i_oats i_missed i_seed i_kept i_strength i_stands j_hour j_oats j_missed j_seed j_kept j_strength j_stands t_crew t_minutes t_oats t_waitHours t_waitMinutes t_rested p_known p_load p_first p_second p_oats p_tired g_known g_crossings g_sets g_tried g_strengths0 g_strengths1 g_strengths2 g_strengths3 g_strengths4 m_count m_who m_hours m_minutes z_thrown z_typed z_next z_token z_place z_value z_figures z_fault z_faultAt z_timeMany z_eaten z_half z_bestMinutes z_bestOats z_isDue z_text z_t z_draft z_s z_kept z_isKept z_times z_w z_at z_pulled z_best z_cartRow z_tryRow z_pairs z_from z_then z_tryAt =>
  RB b_law b_places b_broad b_horses b_blinds b_tideCount b_cartCount b_due b_pull b_strength b_back b_moods b_tides b_carts z_t ∧ (∃ P H C W : Nat, P ≤ 3 ∧ H ≤ 6 ∧ C ≤ 4 ∧ W ≤ 120 ∧ z_t 0 = nI P ∧ z_t 3 = nI H ∧ z_t 4 = nI C ∧ z_t 5 = nI W ∧ FST z_t P H 343 c_last c_who c_pull ∧ PKN P H W z_t s_strength s_hour.toNatClampNeg p_known p_load p_first p_second p_oats ∧ CKN P H C z_t s_strength s_hour.toNatClampNeg g_known g_crossings g_sets) ∧
  RN n s_hour s_oats s_missed s_seed s_strength s_stands z_s z_t ∧ RI n i_hour i_oats i_missed i_seed i_kept i_strength i_stands z_kept (z_isKept 0) z_t ∧ RI n j_hour j_oats j_missed j_seed j_kept j_strength j_stands (fun j => z_kept (13 + j)) (z_isKept 1) z_t ∧
  RM m_count m_who m_hours m_minutes z_timeMany z_times z_t ∧ RX r_length z_typed r_text z_text ∧ r_faultAt = z_faultAt ∧ z_half = -1
theorem RN_up {n : Nat} {hour oats missed seed : Int32} {st sn s t : Nat → Int32} (h : RN n hour oats missed seed st sn s t) : RN (n + 1) hour oats missed seed st sn s t := RNb_le h (by omega)
theorem RN_up2 {n : Nat} {hour oats missed seed : Int32} {st sn s t : Nat → Int32} (h : RNb (400 * (n : Int) + 400) hour oats missed seed st sn s t) : RN (n + 1) hour oats missed seed st sn s t := RNb_le h (by omega)
theorem RI_up {n : Nat} {hour oats missed seed kept ik : Int32} {st sn k t : Nat → Int32} (h : RI n hour oats missed seed kept st sn k ik t) : RI (n + 1) hour oats missed seed kept st sn k ik t := ⟨h.1, h.2.1, fun z => RN_up (h.2.2 z)⟩
theorem RI_0 {n : Nat} {hour oats missed seed kept ik : Int32} {st sn k t : Nat → Int32} (h1 : kept = 0) (h2 : ik = 0) : RI n hour oats missed seed kept st sn k ik t := ⟨Or.inl h1, h2.trans h1.symm, fun z => by rw [h1] at z; exact absurd z (by decide)⟩
theorem FST_ext {t who cp W Q : Nat → Int32} {P H r : Nat} {last : Int32} (hF : FST t P H r last who cp) (h : ∀ k : Nat, 3 ≤ k → W k = who k ∧ Q k = cp k) : FST t P H r last W Q := by
  refine ⟨hF.1, fun j hj ho => ?_⟩
  have h2 := hF.2 j hj ho
  refine ⟨h2.1, fun p hp => ?_⟩
  obtain ⟨a, b⟩ := h (3 * (cntN P H j + 1) + p) (by omega)
  rw [a, b]; exact h2.2 p hp
theorem pk_keep {P H C W : Nat} {t st st' sets : Nat → Int32} {hour hour' pk gk pk' gk' pl pf ps po gc : Int32} (h : (pk' = 0 ∧ gk' = 0) ∨ (pk' = pk ∧ gk' = gk ∧ hour' = hour ∧ st' = st)) (h1 : PKN P H W t st hour.toNatClampNeg pk pl pf ps po) (h2 : CKN P H C t st hour.toNatClampNeg gk gc sets) : PKN P H W t st' hour'.toNatClampNeg pk' pl pf ps po ∧ CKN P H C t st' hour'.toNatClampNeg gk' gc sets := by
  rcases h with ⟨a, b⟩ | ⟨rfl, rfl, rfl, rfl⟩
  · exact ⟨Or.inl a, Or.inl b⟩
  · exact ⟨h1, h2⟩
theorem n_b {n : Nat} (hn : n < 64) : 0 ≤ 400 * (n : Int) ∧ 400 * (n : Int) < 500000000 := by omega
