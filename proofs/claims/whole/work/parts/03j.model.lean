def f_X9_isAsked (n1 : Int32) (n2 : Int32) (z_t : Nat → Int32) : Option (Int32) :=
  jn1 (fun (u_1 : Unit) =>
    bn1 (f_X9_isPlace n1 z_t) (fun (r_2 : Int32) =>
      if r_2 = 0 then
        some ((0 : Int32))
      else
        some ((1 : Int32))
    )
  ) (fun J9_1 =>
  if 0 ≤ n1 then
    J9_1 ()
  else
    if n2 ≤ n1 then
      some ((1 : Int32))
    else
      J9_1 ()
  )
abbrev rm_X9_isAsked : Room := { frames := 2, cells := 0, slots := 0, locals := 43 }
theorem dk_X9_isAsked : yX9_isAsked.cls = RX9 ∧ yX9_isAsked.cls ≠ "java/lang/invoke/MethodHandle" ∧ yX9_isAsked.cls ≠ "java/lang/invoke/VarHandle" ∧ (parseMethodDescriptor yX9_isAsked.desc).map (fun d => d.parameters.length) = some 2 := by decide +kernel
set_option maxHeartbeats 4000000 in
set_option maxRecDepth 100000 in
theorem c_X9_isAsked (l : Launch) (dC : Nat → ClassId) (dI : Nat → Nat → Nat) (cI cZ cII : ClassId) (qz qz_text qz_t qz_draft qz_s qz_kept qz_isKept qz_times qz_w qz_at qz_pulled qz_best qz_cartRow qz_tryRow qz_pairs qz_from qz_then qz_tryAt : Nat) (sz : Nat) (z_thrown : Int32) (z_typed : Int32) (z_next : Int32) (z_token : Int32) (z_place : Int32) (z_value : Int32) (z_figures : Int32) (z_fault : Int32) (z_faultAt : Int32) (z_timeMany : Int32) (z_eaten : Int32) (z_half : Int32) (z_bestMinutes : Int32) (z_bestOats : Int32) (z_isDue : Int32) (z_text : Nat → Int32) (z_t : Nat → Int32) (z_draft : Nat → Int32) (z_s : Nat → Int32) (z_kept : Nat → Int32) (z_isKept : Nat → Int32) (z_times : Nat → Int32) (z_w : Nat → Int32) (z_at : Nat → Int32) (z_pulled : Nat → Int32) (z_best : Nat → Int32) (z_cartRow : Nat → Int32) (z_tryRow : Nat → Int32) (z_pairs : Nat → Int32) (z_from : Nat → Int32) (z_then : Nat → Int32) (z_tryAt : Nat → Int32) (n1 : Int32) (n2 : Int32) (rr : Int32) (hf : f_X9_isAsked n1 n2 z_t = some (rr)) : Met l yX9_isAsked (wM yX9_isAsked cX9_isAsked 3 (some .boolean)) rm_X9_isAsked (PreW (dC, dI) (tyA cI cZ cII) (W_X9z cI cZ cII qz qz_text qz_t qz_draft qz_s qz_kept qz_isKept qz_times qz_w qz_at qz_pulled qz_best qz_cartRow qz_tryRow qz_pairs qz_from qz_then qz_tryAt z_thrown z_typed z_next z_token z_place z_value z_figures z_fault z_faultAt z_timeMany z_eaten z_half z_bestMinutes z_bestOats z_isDue z_text z_t z_draft z_s z_kept z_isKept z_times z_w z_at z_pulled z_best z_cartRow z_tryRow z_pairs z_from z_then z_tryAt) sz [.ref qz, .int n1, .int n2]) (PostI (dC, dI) (tyA cI cZ cII) rr (W_X9z cI cZ cII qz qz_text qz_t qz_draft qz_s qz_kept qz_isKept qz_times qz_w qz_at qz_pulled qz_best qz_cartRow qz_tryRow qz_pairs qz_from qz_then qz_tryAt z_thrown z_typed z_next z_token z_place z_value z_figures z_fault z_faultAt z_timeMany z_eaten z_half z_bestMinutes z_bestOats z_isDue z_text z_t z_draft z_s z_kept z_isKept z_times z_w z_at z_pulled z_best z_cartRow z_tryRow z_pairs z_from z_then z_tryAt) (W_X9z cI cZ cII qz qz_text qz_t qz_draft qz_s qz_kept qz_isKept qz_times qz_w qz_at qz_pulled qz_best qz_cartRow qz_tryRow qz_pairs qz_from qz_then qz_tryAt z_thrown z_typed z_next z_token z_place z_value z_figures z_fault z_faultAt z_timeMany z_eaten z_half z_bestMinutes z_bestOats z_isDue z_text z_t z_draft z_s z_kept z_isKept z_times z_w z_at z_pulled z_best z_cartRow z_tryRow z_pairs z_from z_then z_tryAt) sz) 0 0 (va_A (W_X9z cI cZ cII qz qz_text qz_t qz_draft qz_s qz_kept qz_isKept qz_times qz_w qz_at qz_pulled qz_best qz_cartRow qz_tryRow qz_pairs qz_from qz_then qz_tryAt z_thrown z_typed z_next z_token z_place z_value z_figures z_fault z_faultAt z_timeMany z_eaten z_half z_bestMinutes z_bestOats z_isDue z_text z_t z_draft z_s z_kept z_isKept z_times z_w z_at z_pulled z_best z_cartRow z_tryRow z_pairs z_from z_then z_tryAt) sz) := by
  refine Met.ofW (cc := cX9_isAsked) (maxL := 3) (ret := (some .boolean)) (by decide) rfl ?_
  intro p e s m args below meth c s₁ B hml hv
  obtain ⟨rfl, hsz, hP, hK, hD0⟩ := hv
  have hx := B.exec
  have hb := B.bytes
  have hr := B.returns
  have hts := atoms_spec (ws := wM yX9_isAsked cX9_isAsked 3 (some .boolean)) B.pre
  have hown : s.vm.findClass RX9 = some m.cls := findClass_of_methodNamed B.named
  have hlocks := B.notSynchronized
  subst hsz
  have hD := hD0.self (sz := s.heap.size)
  obtain ⟨A, hAe⟩ : ∃ A, A = va_A (W_X9z cI cZ cII qz qz_text qz_t qz_draft qz_s qz_kept qz_isKept qz_times qz_w qz_at qz_pulled qz_best qz_cartRow qz_tryRow qz_pairs qz_from qz_then qz_tryAt z_thrown z_typed z_next z_token z_place z_value z_figures z_fault z_faultAt z_timeMany z_eaten z_half z_bestMinutes z_bestOats z_isDue z_text z_t z_draft z_s z_kept z_isKept z_times z_w z_at z_pulled z_best z_cartRow z_tryRow z_pairs z_from z_then z_tryAt) s.heap.size := ⟨_, rfl⟩
  rw [← hAe] at hD
  have hA : ∀ q : Nat, s.heap.size ≤ q → A q := fun q h => by rw [hAe]; exact Or.inr h
  have hS : va_S A s.heap s.heap [] := va_S.rf
  have hl := lv_entry ([.ref qz, .int n1, .int n2]) (n := 3) (Nat.le_of_ble_eq_true rfl)
  rw [lg_entry_eq]
  generalize (lg_sl ([.ref qz, .int n1, .int n2]) ++ List.replicate (3 - (lg_sl ([.ref qz, .int n1, .int n2])).length) Slot.unset).toArray = ls at hl ⊢
  have hl : lv_has ls 3 [(0, .ref qz), (1, .int n1), (2, .int n2)] := hl
  generalize ([.ref qz, .int n1, .int n2] : List Value).toArray = args at hts ⊢
  have hw : ∀ w ∈ wsL_law, w.before args s = true := fun w h => hts w (List.mem_cons_of_mem _ h)
  refine pg_start (fun Q hQ => ?_)
  have RET : ∀ (H : Heap) (locs : List Loc) (ls : Array Slot) (pc : Nat) (v : Int32) , decode cX9_isAsked pc = .ok (.ireturn, 1) → (v = 0 ∨ v = 1) → va_P (dC, dI) vwCl (W_X9z cI cZ cII qz qz_text qz_t qz_draft qz_s qz_kept qz_isKept qz_times qz_w qz_at qz_pulled qz_best qz_cartRow qz_tryRow qz_pairs qz_from qz_then qz_tryAt z_thrown z_typed z_next z_token z_place z_value z_figures z_fault z_faultAt z_timeMany z_eaten z_half z_bestMinutes z_bestOats z_isDue z_text z_t z_draft z_s z_kept z_isKept z_times z_w z_at z_pulled z_best z_cartRow z_tryRow z_pairs z_from z_then z_tryAt) H → va_D A (W_X9z cI cZ cII qz qz_text qz_t qz_draft qz_s qz_kept qz_isKept qz_times qz_w qz_at qz_pulled qz_best qz_cartRow qz_tryRow qz_pairs qz_from qz_then qz_tryAt z_thrown z_typed z_next z_token z_place z_value z_figures z_fault z_faultAt z_timeMany z_eaten z_half z_bestMinutes z_bestOats z_isDue z_text z_t z_draft z_s z_kept z_isKept z_times z_w z_at z_pulled z_best z_cartRow z_tryRow z_pairs z_from z_then z_tryAt) → va_S A s.heap H locs → (some (v) : Option (Int32)) = some (rr) → W p l e rm_X9_isAsked s m args below meth c H locs 0 0 Q (F0 m pc ls [.int v]) := by
    intro H locs ls pc v hd hz hP hD hS he
    subst hAe; subst hQ
    obtain rfl := Option.some.inj he
    exact pg_zret hx hb hr hlocks hz hK hP hD hS hd
  unfold f_X9_isAsked at hf
  refine lv_iload_n hx hb dX9_isAsked_0 rfl (lv_at hl 1 rfl) ?_
  obtain ⟨J9_1, hJ9_1, hf⟩ := jn1_s hf
  have WJ9_1 : ∀ (u_1 : Unit) (H : Heap) (locs : List Loc) (ls : Array Slot), va_P (dC, dI) vwCl (W_X9z cI cZ cII qz qz_text qz_t qz_draft qz_s qz_kept qz_isKept qz_times qz_w qz_at qz_pulled qz_best qz_cartRow qz_tryRow qz_pairs qz_from qz_then qz_tryAt z_thrown z_typed z_next z_token z_place z_value z_figures z_fault z_faultAt z_timeMany z_eaten z_half z_bestMinutes z_bestOats z_isDue z_text z_t z_draft z_s z_kept z_isKept z_times z_w z_at z_pulled z_best z_cartRow z_tryRow z_pairs z_from z_then z_tryAt) H → va_D A (W_X9z cI cZ cII qz qz_text qz_t qz_draft qz_s qz_kept qz_isKept qz_times qz_w qz_at qz_pulled qz_best qz_cartRow qz_tryRow qz_pairs qz_from qz_then qz_tryAt z_thrown z_typed z_next z_token z_place z_value z_figures z_fault z_faultAt z_timeMany z_eaten z_half z_bestMinutes z_bestOats z_isDue z_text z_t z_draft z_s z_kept z_isKept z_times z_w z_at z_pulled z_best z_cartRow z_tryRow z_pairs z_from z_then z_tryAt) → va_S A s.heap H locs → lv_has ls 3 [(0, .ref qz), (1, .int n1)] → J9_1 u_1 = some (rr) → W p l e rm_X9_isAsked s m args below meth c H locs 0 0 Q (F0 m 9 ls []) := by
    intro u_1 H locs ls hP hD hS hl hf
    have hf := hJ9_1 _ hf
    refine lv_aload_n hx hb dX9_isAsked_9 rfl (lv_at hl 0 rfl) ?_
    refine lv_iload_n hx hb dX9_isAsked_10 rfl (lv_at hl 1 rfl) ?_
    obtain ⟨r_2, hc, hf⟩ := bn1_s hf
    refine pg_cVi (As := [.int n1]) (rest := []) (wf := (W_X9z cI cZ cII qz qz_text qz_t qz_draft qz_s qz_kept qz_isKept qz_times qz_w qz_at qz_pulled qz_best qz_cartRow qz_tryRow qz_pairs qz_from qz_then qz_tryAt z_thrown z_typed z_next z_token z_place z_value z_figures z_fault z_faultAt z_timeMany z_eaten z_half z_bestMinutes z_bestOats z_isDue z_text z_t z_draft z_s z_kept z_isKept z_times z_w z_at z_pulled z_best z_cartRow z_tryRow z_pairs z_from z_then z_tryAt)) ⟨hx, hb, hml, hown, hw⟩ (c_X9_isPlace l dC dI cI cZ cII qz qz_text qz_t qz_draft qz_s qz_kept qz_isKept qz_times qz_w qz_at qz_pulled qz_best qz_cartRow qz_tryRow qz_pairs qz_from qz_then qz_tryAt H.size z_thrown z_typed z_next z_token z_place z_value z_figures z_fault z_faultAt z_timeMany z_eaten z_half z_bestMinutes z_bestOats z_isDue z_text z_t z_draft z_s z_kept z_isKept z_times z_w z_at z_pulled z_best z_cartRow z_tryRow z_pairs z_from z_then z_tryAt n1 r_2 hc) (cwV 1 hts (wM_V mw_27_14 mw_27_15 mw_27_16 mw_1_5 mw_27_17) rfl rfl rfl dk_X9_isPlace ⟨Nat.le_of_ble_eq_true rfl, Nat.le_of_ble_eq_true rfl⟩) hK hP hD hS hA 9 0 rfl rfl rfl [0, 1, 2, 3, 4, 5, 6, 7, 8, 9, 10, 11, 12, 13, 14, 15, 16, 17] [] [0, 1, 2, 3, 4, 5, 6, 7, 8, 9, 10, 11, 12, 13, 14, 15, 16, 17] (plC_64 cI cZ cII qz qz_text qz_t qz_draft qz_s qz_kept qz_isKept qz_times qz_w qz_at qz_pulled qz_best qz_cartRow qz_tryRow qz_pairs qz_from qz_then qz_tryAt z_thrown z_typed z_next z_token z_place z_value z_figures z_fault z_faultAt z_timeMany z_eaten z_half z_bestMinutes z_bestOats z_isDue z_text z_t z_draft z_s z_kept z_isKept z_times z_w z_at z_pulled z_best z_cartRow z_tryRow z_pairs z_from z_then z_tryAt) rfl (plF_64 cI cZ cII qz qz_text qz_t qz_draft qz_s qz_kept qz_isKept qz_times qz_w qz_at qz_pulled qz_best qz_cartRow qz_tryRow qz_pairs qz_from qz_then qz_tryAt z_thrown z_typed z_next z_token z_place z_value z_figures z_fault z_faultAt z_timeMany z_eaten z_half z_bestMinutes z_bestOats z_isDue z_text z_t z_draft z_s z_kept z_isKept z_times z_w z_at z_pulled z_best z_cartRow z_tryRow z_pairs z_from z_then z_tryAt z_thrown z_typed z_next z_token z_place z_value z_figures z_fault z_faultAt z_timeMany z_eaten z_half z_bestMinutes z_bestOats z_isDue z_text z_t z_draft z_s z_kept z_isKept z_times z_w z_at z_pulled z_best z_cartRow z_tryRow z_pairs z_from z_then z_tryAt) (by decide) rfl hl.1 rfl (Nat.le_of_ble_eq_true rfl) dX9_isAsked_11 ⟨Nat.zero_le _, Nat.zero_le _⟩ (fun H locs hP hD hS => ?_)
    refine lv_if_eq (tgt := 21) hx hb dX9_isAsked_14 (by decide) (fun h9 => ?_) (fun h9 => ?_)
    · have hf := pg_t h9 hf
      refine lv_iconst (v := (0 : Int32)) hx hb dX9_isAsked_21 (by decide) ?_
      exact RET _ _ _ _ _ dX9_isAsked_22 (by decide) hP hD hS hf
    · have hf := pg_f h9 hf
      refine lv_iconst (v := (1 : Int32)) hx hb dX9_isAsked_17 (by decide) ?_
      refine lv_goto (tgt := 22) hx hb dX9_isAsked_18 (by decide) ?_
      exact RET _ _ _ _ _ dX9_isAsked_22 (by decide) hP hD hS hf
  refine lv_if_ge (tgt := 9) hx hb dX9_isAsked_1 (by decide) (fun h9 => ?_) (fun h9 => ?_)
  · have hf := pg_t h9 hf
    exact WJ9_1 _ _ _ _ hP hD hS (lv_sub hl [0, 1] rfl) hf
  · have hf := pg_f h9 hf
    refine lv_iload_n hx hb dX9_isAsked_4 rfl (lv_at hl 1 rfl) ?_
    refine lv_iload_n hx hb dX9_isAsked_5 rfl (lv_at hl 2 rfl) ?_
    refine lv_icmp_ge (tgt := 17) hx hb dX9_isAsked_6 (by decide) (fun h9 => ?_) (fun h9 => ?_)
    · have hf := pg_t h9 hf
      refine lv_iconst (v := (1 : Int32)) hx hb dX9_isAsked_17 (by decide) ?_
      refine lv_goto (tgt := 22) hx hb dX9_isAsked_18 (by decide) ?_
      exact RET _ _ _ _ _ dX9_isAsked_22 (by decide) hP hD hS hf
    · have hf := pg_f h9 hf
      exact WJ9_1 _ _ _ _ hP hD hS (lv_sub hl [0, 1] rfl) hf
def f_X9_fromNow (z_s : Nat → Int32) (z_from : Nat → Int32) : Option ((Nat → Int32)) :=
  jn1 (fun (z_from_1 : Nat → Int32) =>
    some (z_from_1)
  ) (fun K26_1 =>
  lq2 (fun rec2 (y1_2 : Int32) (z_from_2 : Nat → Int32) =>
    if (6 : Int32) ≤ y1_2 then
      K26_1 z_from_2
    else
      if y1_2 < 0 ∨ 13 ≤ (y1_2).toNatClampNeg then none else
      if y1_2 < 0 ∨ 6 ≤ (y1_2).toNatClampNeg then none else
      rec2 (y1_2 + (1 : Int32)) (upd z_from_2 (y1_2).toNatClampNeg (z_s (y1_2).toNatClampNeg))
  ) fu (0 : Int32) z_from
  )
abbrev rm_X9_fromNow : Room := { frames := 0, cells := 0, slots := 0, locals := 0 }
theorem dk_X9_fromNow : yX9_fromNow.cls = RX9 ∧ yX9_fromNow.cls ≠ "java/lang/invoke/MethodHandle" ∧ yX9_fromNow.cls ≠ "java/lang/invoke/VarHandle" ∧ (parseMethodDescriptor yX9_fromNow.desc).map (fun d => d.parameters.length) = some 0 := by decide +kernel
set_option maxHeartbeats 4000000 in
set_option maxRecDepth 100000 in
theorem c_X9_fromNow (l : Launch) (dC : Nat → ClassId) (dI : Nat → Nat → Nat) (cI cZ cII : ClassId) (qz qz_text qz_t qz_draft qz_s qz_kept qz_isKept qz_times qz_w qz_at qz_pulled qz_best qz_cartRow qz_tryRow qz_pairs qz_from qz_then qz_tryAt : Nat) (sz : Nat) (z_thrown : Int32) (z_typed : Int32) (z_next : Int32) (z_token : Int32) (z_place : Int32) (z_value : Int32) (z_figures : Int32) (z_fault : Int32) (z_faultAt : Int32) (z_timeMany : Int32) (z_eaten : Int32) (z_half : Int32) (z_bestMinutes : Int32) (z_bestOats : Int32) (z_isDue : Int32) (z_text : Nat → Int32) (z_t : Nat → Int32) (z_draft : Nat → Int32) (z_s : Nat → Int32) (z_kept : Nat → Int32) (z_isKept : Nat → Int32) (z_times : Nat → Int32) (z_w : Nat → Int32) (z_at : Nat → Int32) (z_pulled : Nat → Int32) (z_best : Nat → Int32) (z_cartRow : Nat → Int32) (z_tryRow : Nat → Int32) (z_pairs : Nat → Int32) (z_from : Nat → Int32) (z_then : Nat → Int32) (z_tryAt : Nat → Int32) (z_from' : Nat → Int32) (hf : f_X9_fromNow z_s z_from = some (z_from')) : Met l yX9_fromNow (wM yX9_fromNow cX9_fromNow 2 none) rm_X9_fromNow (PreW (dC, dI) (tyA cI cZ cII) (W_X9z cI cZ cII qz qz_text qz_t qz_draft qz_s qz_kept qz_isKept qz_times qz_w qz_at qz_pulled qz_best qz_cartRow qz_tryRow qz_pairs qz_from qz_then qz_tryAt z_thrown z_typed z_next z_token z_place z_value z_figures z_fault z_faultAt z_timeMany z_eaten z_half z_bestMinutes z_bestOats z_isDue z_text z_t z_draft z_s z_kept z_isKept z_times z_w z_at z_pulled z_best z_cartRow z_tryRow z_pairs z_from z_then z_tryAt) sz [.ref qz]) (PostV (dC, dI) (tyA cI cZ cII) (W_X9z cI cZ cII qz qz_text qz_t qz_draft qz_s qz_kept qz_isKept qz_times qz_w qz_at qz_pulled qz_best qz_cartRow qz_tryRow qz_pairs qz_from qz_then qz_tryAt z_thrown z_typed z_next z_token z_place z_value z_figures z_fault z_faultAt z_timeMany z_eaten z_half z_bestMinutes z_bestOats z_isDue z_text z_t z_draft z_s z_kept z_isKept z_times z_w z_at z_pulled z_best z_cartRow z_tryRow z_pairs z_from z_then z_tryAt) (W_X9z cI cZ cII qz qz_text qz_t qz_draft qz_s qz_kept qz_isKept qz_times qz_w qz_at qz_pulled qz_best qz_cartRow qz_tryRow qz_pairs qz_from qz_then qz_tryAt z_thrown z_typed z_next z_token z_place z_value z_figures z_fault z_faultAt z_timeMany z_eaten z_half z_bestMinutes z_bestOats z_isDue z_text z_t z_draft z_s z_kept z_isKept z_times z_w z_at z_pulled z_best z_cartRow z_tryRow z_pairs z_from' z_then z_tryAt) sz) 0 0 (va_A (W_X9z cI cZ cII qz qz_text qz_t qz_draft qz_s qz_kept qz_isKept qz_times qz_w qz_at qz_pulled qz_best qz_cartRow qz_tryRow qz_pairs qz_from qz_then qz_tryAt z_thrown z_typed z_next z_token z_place z_value z_figures z_fault z_faultAt z_timeMany z_eaten z_half z_bestMinutes z_bestOats z_isDue z_text z_t z_draft z_s z_kept z_isKept z_times z_w z_at z_pulled z_best z_cartRow z_tryRow z_pairs z_from z_then z_tryAt) sz) := by
  refine Met.ofW (cc := cX9_fromNow) (maxL := 2) (ret := none) (by decide) rfl ?_
  intro p e s m args below meth c s₁ B hml hv
  obtain ⟨rfl, hsz, hP, hK, hD0⟩ := hv
  have hx := B.exec
  have hb := B.bytes
  have hr := B.returns
  have hts := atoms_spec (ws := wM yX9_fromNow cX9_fromNow 2 none) B.pre
  have hown : s.vm.findClass RX9 = some m.cls := findClass_of_methodNamed B.named
  have hlocks := B.notSynchronized
  subst hsz
  have hD := hD0.self (sz := s.heap.size)
  obtain ⟨A, hAe⟩ : ∃ A, A = va_A (W_X9z cI cZ cII qz qz_text qz_t qz_draft qz_s qz_kept qz_isKept qz_times qz_w qz_at qz_pulled qz_best qz_cartRow qz_tryRow qz_pairs qz_from qz_then qz_tryAt z_thrown z_typed z_next z_token z_place z_value z_figures z_fault z_faultAt z_timeMany z_eaten z_half z_bestMinutes z_bestOats z_isDue z_text z_t z_draft z_s z_kept z_isKept z_times z_w z_at z_pulled z_best z_cartRow z_tryRow z_pairs z_from z_then z_tryAt) s.heap.size := ⟨_, rfl⟩
  rw [← hAe] at hD
  have hA : ∀ q : Nat, s.heap.size ≤ q → A q := fun q h => by rw [hAe]; exact Or.inr h
  have hS : va_S A s.heap s.heap [] := va_S.rf
  have hl := lv_entry ([.ref qz]) (n := 2) (Nat.le_of_ble_eq_true rfl)
  rw [lg_entry_eq]
  generalize (lg_sl ([.ref qz]) ++ List.replicate (2 - (lg_sl ([.ref qz])).length) Slot.unset).toArray = ls at hl ⊢
  have hl : lv_has ls 2 [(0, .ref qz)] := hl
  generalize ([.ref qz] : List Value).toArray = args at hts ⊢
  have hw : ∀ w ∈ wsL_law, w.before args s = true := fun w h => hts w (List.mem_cons_of_mem _ h)
  refine pg_start (fun Q hQ => ?_)
  have RET : ∀ (H : Heap) (locs : List Loc) (ls : Array Slot) (pc : Nat) (x0 : Nat → Int32) , decode cX9_fromNow pc = .ok (.return_, 1) → va_P (dC, dI) vwCl (W_X9z cI cZ cII qz qz_text qz_t qz_draft qz_s qz_kept qz_isKept qz_times qz_w qz_at qz_pulled qz_best qz_cartRow qz_tryRow qz_pairs qz_from qz_then qz_tryAt z_thrown z_typed z_next z_token z_place z_value z_figures z_fault z_faultAt z_timeMany z_eaten z_half z_bestMinutes z_bestOats z_isDue z_text z_t z_draft z_s z_kept z_isKept z_times z_w z_at z_pulled z_best z_cartRow z_tryRow z_pairs x0 z_then z_tryAt) H → va_D A (W_X9z cI cZ cII qz qz_text qz_t qz_draft qz_s qz_kept qz_isKept qz_times qz_w qz_at qz_pulled qz_best qz_cartRow qz_tryRow qz_pairs qz_from qz_then qz_tryAt z_thrown z_typed z_next z_token z_place z_value z_figures z_fault z_faultAt z_timeMany z_eaten z_half z_bestMinutes z_bestOats z_isDue z_text z_t z_draft z_s z_kept z_isKept z_times z_w z_at z_pulled z_best z_cartRow z_tryRow z_pairs x0 z_then z_tryAt) → va_S A s.heap H locs → (some (x0) : Option ((Nat → Int32))) = some (z_from') → W p l e rm_X9_fromNow s m args below meth c H locs 0 0 Q (F0 m pc ls []) := by
    intro H locs ls pc x0 hd hP hD hS he
    subst hAe; subst hQ
    obtain rfl := Option.some.inj he
    exact pg_vret hx hb hr hlocks hK hP hD hS hd
  unfold f_X9_fromNow at hf
  refine lv_iconst (v := (0 : Int32)) hx hb dX9_fromNow_0 (by decide) ?_
  refine lv_istore_n (lv' := [(1, .int (0 : Int32)), (0, .ref qz)]) hx hb dX9_fromNow_1 rfl hl (by decide) rfl (fun ls hl => ?_)
  obtain ⟨K26_1, hK26_1, hf⟩ := jn1_s hf
  have WK26_1 : ∀ (z_from_1 : Nat → Int32) (H : Heap) (locs : List Loc) (ls : Array Slot), va_P (dC, dI) vwCl (W_X9z cI cZ cII qz qz_text qz_t qz_draft qz_s qz_kept qz_isKept qz_times qz_w qz_at qz_pulled qz_best qz_cartRow qz_tryRow qz_pairs qz_from qz_then qz_tryAt z_thrown z_typed z_next z_token z_place z_value z_figures z_fault z_faultAt z_timeMany z_eaten z_half z_bestMinutes z_bestOats z_isDue z_text z_t z_draft z_s z_kept z_isKept z_times z_w z_at z_pulled z_best z_cartRow z_tryRow z_pairs z_from_1 z_then z_tryAt) H → va_D A (W_X9z cI cZ cII qz qz_text qz_t qz_draft qz_s qz_kept qz_isKept qz_times qz_w qz_at qz_pulled qz_best qz_cartRow qz_tryRow qz_pairs qz_from qz_then qz_tryAt z_thrown z_typed z_next z_token z_place z_value z_figures z_fault z_faultAt z_timeMany z_eaten z_half z_bestMinutes z_bestOats z_isDue z_text z_t z_draft z_s z_kept z_isKept z_times z_w z_at z_pulled z_best z_cartRow z_tryRow z_pairs z_from_1 z_then z_tryAt) → va_S A s.heap H locs → lv_has ls 2 [] → K26_1 z_from_1 = some (z_from') → W p l e rm_X9_fromNow s m args below meth c H locs 0 0 Q (F0 m 26 ls []) := by
    intro z_from_1 H locs ls hP hD hS hl hf
    have hf := hK26_1 _ hf
    exact RET _ _ _ _ _ dX9_fromNow_26 hP hD hS hf
  obtain ⟨B2, hB2, hf⟩ := lq2_n hf
  have WL2 : ∀ (n9 : Nat) (y1_2 : Int32) (z_from_2 : Nat → Int32) (H : Heap) (locs : List Loc) (ls : Array Slot), va_P (dC, dI) vwCl (W_X9z cI cZ cII qz qz_text qz_t qz_draft qz_s qz_kept qz_isKept qz_times qz_w qz_at qz_pulled qz_best qz_cartRow qz_tryRow qz_pairs qz_from qz_then qz_tryAt z_thrown z_typed z_next z_token z_place z_value z_figures z_fault z_faultAt z_timeMany z_eaten z_half z_bestMinutes z_bestOats z_isDue z_text z_t z_draft z_s z_kept z_isKept z_times z_w z_at z_pulled z_best z_cartRow z_tryRow z_pairs z_from_2 z_then z_tryAt) H → va_D A (W_X9z cI cZ cII qz qz_text qz_t qz_draft qz_s qz_kept qz_isKept qz_times qz_w qz_at qz_pulled qz_best qz_cartRow qz_tryRow qz_pairs qz_from qz_then qz_tryAt z_thrown z_typed z_next z_token z_place z_value z_figures z_fault z_faultAt z_timeMany z_eaten z_half z_bestMinutes z_bestOats z_isDue z_text z_t z_draft z_s z_kept z_isKept z_times z_w z_at z_pulled z_best z_cartRow z_tryRow z_pairs z_from_2 z_then z_tryAt) → va_S A s.heap H locs → lv_has ls 2 [(0, .ref qz), (1, .int y1_2)] → lq2 B2 n9 y1_2 z_from_2 = some (z_from') → W p l e rm_X9_fromNow s m args below meth c H locs 0 0 Q (F0 m 2 ls []) := by
    intro n9
    induction n9 with
    | zero => intro y1_2 z_from_2 H locs ls hP hD hS hl hf; cases hf
    | succ n9 ih =>
      intro y1_2 z_from_2 H locs ls hP hD hS hl hf
      obtain ⟨rec2, hrec2, hf⟩ := lq2_s hf
      have hf := hB2 rec2 _ _ hf
      refine lv_iload_n hx hb dX9_fromNow_2 rfl (lv_at hl 1 rfl) ?_
      refine lv_bipush (v := (6 : Int32)) hx hb dX9_fromNow_3 (by decide) ?_
      refine lv_icmp_ge (tgt := 26) hx hb dX9_fromNow_5 (by decide) (fun h9 => ?_) (fun h9 => ?_)
      · have hf := pg_t h9 hf
        exact WK26_1 _ _ _ _ hP hD hS (lv_sub hl [] rfl) hf
      · have hf := pg_f h9 hf
        refine lv_aload_n hx hb dX9_fromNow_8 rfl (lv_at hl 0 rfl) ?_
        refine va_get (D := (dC, dI)) (ci := 9) (v := .ref qz_from) (C := RX9) (T := TX9) (N := 32) hx hb hw inlX9 hown hK hP 0 rfl rfl 29 (by decide) (hw _ mw_6_16) (fun _ h9 => h9) rfl dX9_fromNow_9 ?_
        refine lv_iload_n hx hb dX9_fromNow_12 rfl (lv_at hl 1 rfl) ?_
        refine lv_aload_n hx hb dX9_fromNow_13 rfl (lv_at hl 0 rfl) ?_
        refine va_get (D := (dC, dI)) (ci := 9) (v := .ref qz_s) (C := RX9) (T := TX9) (N := 32) hx hb hw inlX9 hown hK hP 0 rfl rfl 12 (by decide) (hw _ mw_6_3) (fun _ h9 => h9) rfl dX9_fromNow_14 ?_
        refine lv_iload_n hx hb dX9_fromNow_17 rfl (lv_at hl 1 rfl) ?_
        obtain ⟨hi3, hf⟩ := pg_chk hf
        refine va_iald hx hb hK hP 4 0 rfl rfl hi3 dX9_fromNow_18 ?_
        obtain ⟨hi4, hf⟩ := pg_chk hf
        refine va_iast hx hb hK hP hD hS 15 0 rfl rfl hi4 dX9_fromNow_19 (fun H locs hP hD hS => ?_)
        have hP : va_P (dC, dI) vwCl (W_X9z cI cZ cII qz qz_text qz_t qz_draft qz_s qz_kept qz_isKept qz_times qz_w qz_at qz_pulled qz_best qz_cartRow qz_tryRow qz_pairs qz_from qz_then qz_tryAt z_thrown z_typed z_next z_token z_place z_value z_figures z_fault z_faultAt z_timeMany z_eaten z_half z_bestMinutes z_bestOats z_isDue z_text z_t z_draft z_s z_kept z_isKept z_times z_w z_at z_pulled z_best z_cartRow z_tryRow z_pairs (upd z_from_2 (y1_2).toNatClampNeg (z_s (y1_2).toNatClampNeg)) z_then z_tryAt) H := hP
        have hD : va_D A (W_X9z cI cZ cII qz qz_text qz_t qz_draft qz_s qz_kept qz_isKept qz_times qz_w qz_at qz_pulled qz_best qz_cartRow qz_tryRow qz_pairs qz_from qz_then qz_tryAt z_thrown z_typed z_next z_token z_place z_value z_figures z_fault z_faultAt z_timeMany z_eaten z_half z_bestMinutes z_bestOats z_isDue z_text z_t z_draft z_s z_kept z_isKept z_times z_w z_at z_pulled z_best z_cartRow z_tryRow z_pairs (upd z_from_2 (y1_2).toNatClampNeg (z_s (y1_2).toNatClampNeg)) z_then z_tryAt) := hD
        refine lv_iinc (v := (y1_2 + (1 : Int32))) (lv' := [(1, .int (y1_2 + (1 : Int32))), (0, .ref qz)]) hx hb dX9_fromNow_20 hl (k := 1) rfl rfl (by decide) rfl (fun ls hl => ?_)
        refine lv_goto (tgt := 2) hx hb dX9_fromNow_23 (by decide) ?_
        exact ih _ _ _ _ _ hP hD hS (lv_sub hl [1, 0] rfl) (hrec2 _ _ hf)
  exact WL2 fu _ _ _ _ _ hP hD hS (lv_sub hl [1, 0] rfl) hf
def f_X9_puts (n1 : Int32) (n2 : Int32) (z_t : Nat → Int32) (z_at : Nat → Int32) : Option (Int32 × (Nat → Int32)) :=
  jn1 (fun (z0_1 : Int32) =>
    jn1 (fun (y4_2 : Int32) =>
      if y4_2 = 0 ∨ y4_2 = 1 then
      some (y4_2, (upd (upd (upd z_at ((0 : Int32)).toNatClampNeg ((n1 / (49 : Int32)) - (1 : Int32))) ((1 : Int32)).toNatClampNeg (((n1 / (7 : Int32)) - (n1 / (7 : Int32)) / (7 : Int32) * (7 : Int32)) - (1 : Int32))) ((2 : Int32)).toNatClampNeg ((n1 - n1 / (7 : Int32) * (7 : Int32)) - (1 : Int32))))
      else none
    ) (fun K148_2 =>
    lq2 (fun rec3 (y4_3 : Int32) (y5_3 : Int32) =>
      if (3 : Int32) ≤ y5_3 then
        K148_2 y4_3
      else
        jn1 (fun (z0_4 : Int32) =>
          jn1 (fun (z0_5 : Int32) =>
            rec3 z0_5 (y5_3 + (1 : Int32))
          ) (fun J140_5 =>
          jn1 (fun (u_6 : Unit) =>
            J140_5 (0 : Int32)
          ) (fun J139_6 =>
          if z0_4 = 0 then
            J139_6 ()
          else
            if y5_3 < 0 ∨ 3 ≤ (y5_3).toNatClampNeg then none else
            jn1 (fun (u_8 : Unit) =>
              J140_5 (1 : Int32)
            ) (fun J135_8 =>
            if ((upd (upd (upd z_at ((0 : Int32)).toNatClampNeg ((n1 / (49 : Int32)) - (1 : Int32))) ((1 : Int32)).toNatClampNeg (((n1 / (7 : Int32)) - (n1 / (7 : Int32)) / (7 : Int32) * (7 : Int32)) - (1 : Int32))) ((2 : Int32)).toNatClampNeg ((n1 - n1 / (7 : Int32) * (7 : Int32)) - (1 : Int32))) (y5_3).toNatClampNeg) = (-1 : Int32) then
              J135_8 ()
            else
              if ((y5_3 + (1 : Int32)) - (y5_3 + (1 : Int32)) / (3 : Int32) * (3 : Int32)) < 0 ∨ 3 ≤ (((y5_3 + (1 : Int32)) - (y5_3 + (1 : Int32)) / (3 : Int32) * (3 : Int32))).toNatClampNeg then none else
              if ((upd (upd (upd z_at ((0 : Int32)).toNatClampNeg ((n1 / (49 : Int32)) - (1 : Int32))) ((1 : Int32)).toNatClampNeg (((n1 / (7 : Int32)) - (n1 / (7 : Int32)) / (7 : Int32) * (7 : Int32)) - (1 : Int32))) ((2 : Int32)).toNatClampNeg ((n1 - n1 / (7 : Int32) * (7 : Int32)) - (1 : Int32))) (y5_3).toNatClampNeg) = ((upd (upd (upd z_at ((0 : Int32)).toNatClampNeg ((n1 / (49 : Int32)) - (1 : Int32))) ((1 : Int32)).toNatClampNeg (((n1 / (7 : Int32)) - (n1 / (7 : Int32)) / (7 : Int32) * (7 : Int32)) - (1 : Int32))) ((2 : Int32)).toNatClampNeg ((n1 - n1 / (7 : Int32) * (7 : Int32)) - (1 : Int32))) (((y5_3 + (1 : Int32)) - (y5_3 + (1 : Int32)) / (3 : Int32) * (3 : Int32))).toNatClampNeg) then
                J139_6 ()
              else
                J135_8 ()
            )
          )
          )
        ) (fun J105_4 =>
        jn1 (fun (u_10 : Unit) =>
          J105_4 (0 : Int32)
        ) (fun J104_10 =>
        if y4_3 = 0 then
          J104_10 ()
        else
          if y5_3 < 0 ∨ 3 ≤ (y5_3).toNatClampNeg then none else
          if (z_t ((3 : Int32)).toNatClampNeg) ≤ ((upd (upd (upd z_at ((0 : Int32)).toNatClampNeg ((n1 / (49 : Int32)) - (1 : Int32))) ((1 : Int32)).toNatClampNeg (((n1 / (7 : Int32)) - (n1 / (7 : Int32)) / (7 : Int32) * (7 : Int32)) - (1 : Int32))) ((2 : Int32)).toNatClampNeg ((n1 - n1 / (7 : Int32) * (7 : Int32)) - (1 : Int32))) (y5_3).toNatClampNeg) then
            J104_10 ()
          else
            jn1 (fun (u_12 : Unit) =>
              J105_4 (1 : Int32)
            ) (fun J100_12 =>
            if ((upd (upd (upd z_at ((0 : Int32)).toNatClampNeg ((n1 / (49 : Int32)) - (1 : Int32))) ((1 : Int32)).toNatClampNeg (((n1 / (7 : Int32)) - (n1 / (7 : Int32)) / (7 : Int32) * (7 : Int32)) - (1 : Int32))) ((2 : Int32)).toNatClampNeg ((n1 - n1 / (7 : Int32) * (7 : Int32)) - (1 : Int32))) (y5_3).toNatClampNeg) = (-1 : Int32) then
              J100_12 ()
            else
              if (z_t ((0 : Int32)).toNatClampNeg) ≤ y5_3 then
                J104_10 ()
              else
                if ((upd (upd (upd z_at ((0 : Int32)).toNatClampNeg ((n1 / (49 : Int32)) - (1 : Int32))) ((1 : Int32)).toNatClampNeg (((n1 / (7 : Int32)) - (n1 / (7 : Int32)) / (7 : Int32) * (7 : Int32)) - (1 : Int32))) ((2 : Int32)).toNatClampNeg ((n1 - n1 / (7 : Int32) * (7 : Int32)) - (1 : Int32))) (y5_3).toNatClampNeg) = n2 then
                  J104_10 ()
                else
                  J100_12 ()
            )
        )
        )
    ) fu z0_1 (0 : Int32)
    )
  ) (fun J44_1 =>
  if n1 ≤ 0 then
    J44_1 (0 : Int32)
  else
    J44_1 (1 : Int32)
  )
abbrev rm_X9_puts : Room := { frames := 0, cells := 0, slots := 0, locals := 0 }
theorem dk_X9_puts : yX9_puts.cls = RX9 ∧ yX9_puts.cls ≠ "java/lang/invoke/MethodHandle" ∧ yX9_puts.cls ≠ "java/lang/invoke/VarHandle" ∧ (parseMethodDescriptor yX9_puts.desc).map (fun d => d.parameters.length) = some 2 := by decide +kernel
set_option maxHeartbeats 4000000 in
set_option maxRecDepth 100000 in
theorem c_X9_puts (l : Launch) (dC : Nat → ClassId) (dI : Nat → Nat → Nat) (cI cZ cII : ClassId) (qz qz_text qz_t qz_draft qz_s qz_kept qz_isKept qz_times qz_w qz_at qz_pulled qz_best qz_cartRow qz_tryRow qz_pairs qz_from qz_then qz_tryAt : Nat) (sz : Nat) (z_thrown : Int32) (z_typed : Int32) (z_next : Int32) (z_token : Int32) (z_place : Int32) (z_value : Int32) (z_figures : Int32) (z_fault : Int32) (z_faultAt : Int32) (z_timeMany : Int32) (z_eaten : Int32) (z_half : Int32) (z_bestMinutes : Int32) (z_bestOats : Int32) (z_isDue : Int32) (z_text : Nat → Int32) (z_t : Nat → Int32) (z_draft : Nat → Int32) (z_s : Nat → Int32) (z_kept : Nat → Int32) (z_isKept : Nat → Int32) (z_times : Nat → Int32) (z_w : Nat → Int32) (z_at : Nat → Int32) (z_pulled : Nat → Int32) (z_best : Nat → Int32) (z_cartRow : Nat → Int32) (z_tryRow : Nat → Int32) (z_pairs : Nat → Int32) (z_from : Nat → Int32) (z_then : Nat → Int32) (z_tryAt : Nat → Int32) (n1 : Int32) (n2 : Int32) (rr : Int32) (z_at' : Nat → Int32) (hf : f_X9_puts n1 n2 z_t z_at = some (rr, z_at')) : Met l yX9_puts (wM yX9_puts cX9_puts 6 (some .boolean)) rm_X9_puts (PreW (dC, dI) (tyA cI cZ cII) (W_X9z cI cZ cII qz qz_text qz_t qz_draft qz_s qz_kept qz_isKept qz_times qz_w qz_at qz_pulled qz_best qz_cartRow qz_tryRow qz_pairs qz_from qz_then qz_tryAt z_thrown z_typed z_next z_token z_place z_value z_figures z_fault z_faultAt z_timeMany z_eaten z_half z_bestMinutes z_bestOats z_isDue z_text z_t z_draft z_s z_kept z_isKept z_times z_w z_at z_pulled z_best z_cartRow z_tryRow z_pairs z_from z_then z_tryAt) sz [.ref qz, .int n1, .int n2]) (PostI (dC, dI) (tyA cI cZ cII) rr (W_X9z cI cZ cII qz qz_text qz_t qz_draft qz_s qz_kept qz_isKept qz_times qz_w qz_at qz_pulled qz_best qz_cartRow qz_tryRow qz_pairs qz_from qz_then qz_tryAt z_thrown z_typed z_next z_token z_place z_value z_figures z_fault z_faultAt z_timeMany z_eaten z_half z_bestMinutes z_bestOats z_isDue z_text z_t z_draft z_s z_kept z_isKept z_times z_w z_at z_pulled z_best z_cartRow z_tryRow z_pairs z_from z_then z_tryAt) (W_X9z cI cZ cII qz qz_text qz_t qz_draft qz_s qz_kept qz_isKept qz_times qz_w qz_at qz_pulled qz_best qz_cartRow qz_tryRow qz_pairs qz_from qz_then qz_tryAt z_thrown z_typed z_next z_token z_place z_value z_figures z_fault z_faultAt z_timeMany z_eaten z_half z_bestMinutes z_bestOats z_isDue z_text z_t z_draft z_s z_kept z_isKept z_times z_w z_at' z_pulled z_best z_cartRow z_tryRow z_pairs z_from z_then z_tryAt) sz) 0 0 (va_A (W_X9z cI cZ cII qz qz_text qz_t qz_draft qz_s qz_kept qz_isKept qz_times qz_w qz_at qz_pulled qz_best qz_cartRow qz_tryRow qz_pairs qz_from qz_then qz_tryAt z_thrown z_typed z_next z_token z_place z_value z_figures z_fault z_faultAt z_timeMany z_eaten z_half z_bestMinutes z_bestOats z_isDue z_text z_t z_draft z_s z_kept z_isKept z_times z_w z_at z_pulled z_best z_cartRow z_tryRow z_pairs z_from z_then z_tryAt) sz) := by
  refine Met.ofW (cc := cX9_puts) (maxL := 6) (ret := (some .boolean)) (by decide) rfl ?_
  intro p e s m args below meth c s₁ B hml hv
  obtain ⟨rfl, hsz, hP, hK, hD0⟩ := hv
  have hx := B.exec
  have hb := B.bytes
  have hr := B.returns
  have hts := atoms_spec (ws := wM yX9_puts cX9_puts 6 (some .boolean)) B.pre
  have hown : s.vm.findClass RX9 = some m.cls := findClass_of_methodNamed B.named
  have hlocks := B.notSynchronized
  subst hsz
  have hD := hD0.self (sz := s.heap.size)
  obtain ⟨A, hAe⟩ : ∃ A, A = va_A (W_X9z cI cZ cII qz qz_text qz_t qz_draft qz_s qz_kept qz_isKept qz_times qz_w qz_at qz_pulled qz_best qz_cartRow qz_tryRow qz_pairs qz_from qz_then qz_tryAt z_thrown z_typed z_next z_token z_place z_value z_figures z_fault z_faultAt z_timeMany z_eaten z_half z_bestMinutes z_bestOats z_isDue z_text z_t z_draft z_s z_kept z_isKept z_times z_w z_at z_pulled z_best z_cartRow z_tryRow z_pairs z_from z_then z_tryAt) s.heap.size := ⟨_, rfl⟩
  rw [← hAe] at hD
  have hA : ∀ q : Nat, s.heap.size ≤ q → A q := fun q h => by rw [hAe]; exact Or.inr h
  have hS : va_S A s.heap s.heap [] := va_S.rf
  have hl := lv_entry ([.ref qz, .int n1, .int n2]) (n := 6) (Nat.le_of_ble_eq_true rfl)
  rw [lg_entry_eq]
  generalize (lg_sl ([.ref qz, .int n1, .int n2]) ++ List.replicate (6 - (lg_sl ([.ref qz, .int n1, .int n2])).length) Slot.unset).toArray = ls at hl ⊢
  have hl : lv_has ls 6 [(0, .ref qz), (1, .int n1), (2, .int n2)] := hl
  generalize ([.ref qz, .int n1, .int n2] : List Value).toArray = args at hts ⊢
  have hw : ∀ w ∈ wsL_law, w.before args s = true := fun w h => hts w (List.mem_cons_of_mem _ h)
  refine pg_start (fun Q hQ => ?_)
  have RET : ∀ (H : Heap) (locs : List Loc) (ls : Array Slot) (pc : Nat) (v : Int32) (x0 : Nat → Int32) , decode cX9_puts pc = .ok (.ireturn, 1) → (v = 0 ∨ v = 1) → va_P (dC, dI) vwCl (W_X9z cI cZ cII qz qz_text qz_t qz_draft qz_s qz_kept qz_isKept qz_times qz_w qz_at qz_pulled qz_best qz_cartRow qz_tryRow qz_pairs qz_from qz_then qz_tryAt z_thrown z_typed z_next z_token z_place z_value z_figures z_fault z_faultAt z_timeMany z_eaten z_half z_bestMinutes z_bestOats z_isDue z_text z_t z_draft z_s z_kept z_isKept z_times z_w x0 z_pulled z_best z_cartRow z_tryRow z_pairs z_from z_then z_tryAt) H → va_D A (W_X9z cI cZ cII qz qz_text qz_t qz_draft qz_s qz_kept qz_isKept qz_times qz_w qz_at qz_pulled qz_best qz_cartRow qz_tryRow qz_pairs qz_from qz_then qz_tryAt z_thrown z_typed z_next z_token z_place z_value z_figures z_fault z_faultAt z_timeMany z_eaten z_half z_bestMinutes z_bestOats z_isDue z_text z_t z_draft z_s z_kept z_isKept z_times z_w x0 z_pulled z_best z_cartRow z_tryRow z_pairs z_from z_then z_tryAt) → va_S A s.heap H locs → (some (v, x0) : Option (Int32 × (Nat → Int32))) = some (rr, z_at') → W p l e rm_X9_puts s m args below meth c H locs 0 0 Q (F0 m pc ls [.int v]) := by
    intro H locs ls pc v x0 hd hz hP hD hS he
    subst hAe; subst hQ
    simp only [Option.some.injEq, Prod.mk.injEq] at he
    obtain ⟨rfl, rfl⟩ := he
    exact pg_zret hx hb hr hlocks hz hK hP hD hS hd
  unfold f_X9_puts at hf
  refine lv_aload_n hx hb dX9_puts_0 rfl (lv_at hl 0 rfl) ?_
  refine va_get (D := (dC, dI)) (ci := 9) (v := .ref qz_at) (C := RX9) (T := TX9) (N := 32) hx hb hw inlX9 hown hK hP 0 rfl rfl 18 (by decide) (hw _ mw_6_9) (fun _ h9 => h9) rfl dX9_puts_1 ?_
  refine lv_astore_n (lv' := [(3, .ref qz_at), (0, .ref qz), (1, .int n1), (2, .int n2)]) hx hb dX9_puts_4 rfl hl (by decide) rfl (fun ls hl => ?_)
  refine lv_aload_n hx hb dX9_puts_5 rfl (lv_at hl 0 rfl) ?_
  refine lv_iconst (v := (0 : Int32)) hx hb dX9_puts_6 (by decide) ?_
  refine lv_iload_n hx hb dX9_puts_7 rfl (lv_at hl 2 rfl) ?_
  refine lv_bipush (v := (49 : Int32)) hx hb dX9_puts_8 (by decide) ?_
  refine lv_idiv hx hb dX9_puts_10 (by decide) ?_
  refine lv_iconst (v := (1 : Int32)) hx hb dX9_puts_11 (by decide) ?_
  refine lv_isub hx hb dX9_puts_12 ?_
  refine va_iast hx hb hK hP hD hS 9 0 rfl rfl (pg_lit (by decide)) dX9_puts_13 (fun H locs hP hD hS => ?_)
  have hP : va_P (dC, dI) vwCl (W_X9z cI cZ cII qz qz_text qz_t qz_draft qz_s qz_kept qz_isKept qz_times qz_w qz_at qz_pulled qz_best qz_cartRow qz_tryRow qz_pairs qz_from qz_then qz_tryAt z_thrown z_typed z_next z_token z_place z_value z_figures z_fault z_faultAt z_timeMany z_eaten z_half z_bestMinutes z_bestOats z_isDue z_text z_t z_draft z_s z_kept z_isKept z_times z_w (upd z_at ((0 : Int32)).toNatClampNeg ((n1 / (49 : Int32)) - (1 : Int32))) z_pulled z_best z_cartRow z_tryRow z_pairs z_from z_then z_tryAt) H := hP
  have hD : va_D A (W_X9z cI cZ cII qz qz_text qz_t qz_draft qz_s qz_kept qz_isKept qz_times qz_w qz_at qz_pulled qz_best qz_cartRow qz_tryRow qz_pairs qz_from qz_then qz_tryAt z_thrown z_typed z_next z_token z_place z_value z_figures z_fault z_faultAt z_timeMany z_eaten z_half z_bestMinutes z_bestOats z_isDue z_text z_t z_draft z_s z_kept z_isKept z_times z_w (upd z_at ((0 : Int32)).toNatClampNeg ((n1 / (49 : Int32)) - (1 : Int32))) z_pulled z_best z_cartRow z_tryRow z_pairs z_from z_then z_tryAt) := hD
  refine lv_aload_n hx hb dX9_puts_14 rfl (lv_at hl 0 rfl) ?_
  refine lv_iconst (v := (1 : Int32)) hx hb dX9_puts_15 (by decide) ?_
  refine lv_iload_n hx hb dX9_puts_16 rfl (lv_at hl 2 rfl) ?_
  refine lv_bipush (v := (7 : Int32)) hx hb dX9_puts_17 (by decide) ?_
  refine lv_idiv hx hb dX9_puts_19 (by decide) ?_
  refine lv_bipush (v := (7 : Int32)) hx hb dX9_puts_20 (by decide) ?_
  refine lv_irem hx hb dX9_puts_22 (by decide) ?_
  refine lv_iconst (v := (1 : Int32)) hx hb dX9_puts_23 (by decide) ?_
  refine lv_isub hx hb dX9_puts_24 ?_
  refine va_iast hx hb hK hP hD hS 9 0 rfl rfl (pg_lit (by decide)) dX9_puts_25 (fun H locs hP hD hS => ?_)
  have hP : va_P (dC, dI) vwCl (W_X9z cI cZ cII qz qz_text qz_t qz_draft qz_s qz_kept qz_isKept qz_times qz_w qz_at qz_pulled qz_best qz_cartRow qz_tryRow qz_pairs qz_from qz_then qz_tryAt z_thrown z_typed z_next z_token z_place z_value z_figures z_fault z_faultAt z_timeMany z_eaten z_half z_bestMinutes z_bestOats z_isDue z_text z_t z_draft z_s z_kept z_isKept z_times z_w (upd (upd z_at ((0 : Int32)).toNatClampNeg ((n1 / (49 : Int32)) - (1 : Int32))) ((1 : Int32)).toNatClampNeg (((n1 / (7 : Int32)) - (n1 / (7 : Int32)) / (7 : Int32) * (7 : Int32)) - (1 : Int32))) z_pulled z_best z_cartRow z_tryRow z_pairs z_from z_then z_tryAt) H := hP
  have hD : va_D A (W_X9z cI cZ cII qz qz_text qz_t qz_draft qz_s qz_kept qz_isKept qz_times qz_w qz_at qz_pulled qz_best qz_cartRow qz_tryRow qz_pairs qz_from qz_then qz_tryAt z_thrown z_typed z_next z_token z_place z_value z_figures z_fault z_faultAt z_timeMany z_eaten z_half z_bestMinutes z_bestOats z_isDue z_text z_t z_draft z_s z_kept z_isKept z_times z_w (upd (upd z_at ((0 : Int32)).toNatClampNeg ((n1 / (49 : Int32)) - (1 : Int32))) ((1 : Int32)).toNatClampNeg (((n1 / (7 : Int32)) - (n1 / (7 : Int32)) / (7 : Int32) * (7 : Int32)) - (1 : Int32))) z_pulled z_best z_cartRow z_tryRow z_pairs z_from z_then z_tryAt) := hD
  refine lv_aload_n hx hb dX9_puts_26 rfl (lv_at hl 0 rfl) ?_
  refine lv_iconst (v := (2 : Int32)) hx hb dX9_puts_27 (by decide) ?_
  refine lv_iload_n hx hb dX9_puts_28 rfl (lv_at hl 2 rfl) ?_
  refine lv_bipush (v := (7 : Int32)) hx hb dX9_puts_29 (by decide) ?_
  refine lv_irem hx hb dX9_puts_31 (by decide) ?_
  refine lv_iconst (v := (1 : Int32)) hx hb dX9_puts_32 (by decide) ?_
  refine lv_isub hx hb dX9_puts_33 ?_
  refine va_iast hx hb hK hP hD hS 9 0 rfl rfl (pg_lit (by decide)) dX9_puts_34 (fun H locs hP hD hS => ?_)
  have hP : va_P (dC, dI) vwCl (W_X9z cI cZ cII qz qz_text qz_t qz_draft qz_s qz_kept qz_isKept qz_times qz_w qz_at qz_pulled qz_best qz_cartRow qz_tryRow qz_pairs qz_from qz_then qz_tryAt z_thrown z_typed z_next z_token z_place z_value z_figures z_fault z_faultAt z_timeMany z_eaten z_half z_bestMinutes z_bestOats z_isDue z_text z_t z_draft z_s z_kept z_isKept z_times z_w (upd (upd (upd z_at ((0 : Int32)).toNatClampNeg ((n1 / (49 : Int32)) - (1 : Int32))) ((1 : Int32)).toNatClampNeg (((n1 / (7 : Int32)) - (n1 / (7 : Int32)) / (7 : Int32) * (7 : Int32)) - (1 : Int32))) ((2 : Int32)).toNatClampNeg ((n1 - n1 / (7 : Int32) * (7 : Int32)) - (1 : Int32))) z_pulled z_best z_cartRow z_tryRow z_pairs z_from z_then z_tryAt) H := hP
  have hD : va_D A (W_X9z cI cZ cII qz qz_text qz_t qz_draft qz_s qz_kept qz_isKept qz_times qz_w qz_at qz_pulled qz_best qz_cartRow qz_tryRow qz_pairs qz_from qz_then qz_tryAt z_thrown z_typed z_next z_token z_place z_value z_figures z_fault z_faultAt z_timeMany z_eaten z_half z_bestMinutes z_bestOats z_isDue z_text z_t z_draft z_s z_kept z_isKept z_times z_w (upd (upd (upd z_at ((0 : Int32)).toNatClampNeg ((n1 / (49 : Int32)) - (1 : Int32))) ((1 : Int32)).toNatClampNeg (((n1 / (7 : Int32)) - (n1 / (7 : Int32)) / (7 : Int32) * (7 : Int32)) - (1 : Int32))) ((2 : Int32)).toNatClampNeg ((n1 - n1 / (7 : Int32) * (7 : Int32)) - (1 : Int32))) z_pulled z_best z_cartRow z_tryRow z_pairs z_from z_then z_tryAt) := hD
  refine lv_iload_n hx hb dX9_puts_35 rfl (lv_at hl 2 rfl) ?_
  obtain ⟨J44_1, hJ44_1, hf⟩ := jn1_s hf
  have WJ44_1 : ∀ (z0_1 : Int32) (H : Heap) (locs : List Loc) (ls : Array Slot), va_P (dC, dI) vwCl (W_X9z cI cZ cII qz qz_text qz_t qz_draft qz_s qz_kept qz_isKept qz_times qz_w qz_at qz_pulled qz_best qz_cartRow qz_tryRow qz_pairs qz_from qz_then qz_tryAt z_thrown z_typed z_next z_token z_place z_value z_figures z_fault z_faultAt z_timeMany z_eaten z_half z_bestMinutes z_bestOats z_isDue z_text z_t z_draft z_s z_kept z_isKept z_times z_w (upd (upd (upd z_at ((0 : Int32)).toNatClampNeg ((n1 / (49 : Int32)) - (1 : Int32))) ((1 : Int32)).toNatClampNeg (((n1 / (7 : Int32)) - (n1 / (7 : Int32)) / (7 : Int32) * (7 : Int32)) - (1 : Int32))) ((2 : Int32)).toNatClampNeg ((n1 - n1 / (7 : Int32) * (7 : Int32)) - (1 : Int32))) z_pulled z_best z_cartRow z_tryRow z_pairs z_from z_then z_tryAt) H → va_D A (W_X9z cI cZ cII qz qz_text qz_t qz_draft qz_s qz_kept qz_isKept qz_times qz_w qz_at qz_pulled qz_best qz_cartRow qz_tryRow qz_pairs qz_from qz_then qz_tryAt z_thrown z_typed z_next z_token z_place z_value z_figures z_fault z_faultAt z_timeMany z_eaten z_half z_bestMinutes z_bestOats z_isDue z_text z_t z_draft z_s z_kept z_isKept z_times z_w (upd (upd (upd z_at ((0 : Int32)).toNatClampNeg ((n1 / (49 : Int32)) - (1 : Int32))) ((1 : Int32)).toNatClampNeg (((n1 / (7 : Int32)) - (n1 / (7 : Int32)) / (7 : Int32) * (7 : Int32)) - (1 : Int32))) ((2 : Int32)).toNatClampNeg ((n1 - n1 / (7 : Int32) * (7 : Int32)) - (1 : Int32))) z_pulled z_best z_cartRow z_tryRow z_pairs z_from z_then z_tryAt) → va_S A s.heap H locs → lv_has ls 6 [(0, .ref qz), (2, .int n2), (3, .ref qz_at)] → J44_1 z0_1 = some (rr, z_at') → W p l e rm_X9_puts s m args below meth c H locs 0 0 Q (F0 m 44 ls [.int z0_1]) := by
    intro z0_1 H locs ls hP hD hS hl hf
    have hf := hJ44_1 _ hf
    refine lv_istore (lv' := [(4, .int z0_1), (0, .ref qz), (2, .int n2), (3, .ref qz_at)]) hx hb dX9_puts_44 hl (by decide) rfl (fun ls hl => ?_)
    refine lv_iconst (v := (0 : Int32)) hx hb dX9_puts_46 (by decide) ?_
    refine lv_istore (lv' := [(5, .int (0 : Int32)), (4, .int z0_1), (0, .ref qz), (2, .int n2), (3, .ref qz_at)]) hx hb dX9_puts_47 hl (by decide) rfl (fun ls hl => ?_)
    obtain ⟨K148_2, hK148_2, hf⟩ := jn1_s hf
    have WK148_2 : ∀ (y4_2 : Int32) (H : Heap) (locs : List Loc) (ls : Array Slot), va_P (dC, dI) vwCl (W_X9z cI cZ cII qz qz_text qz_t qz_draft qz_s qz_kept qz_isKept qz_times qz_w qz_at qz_pulled qz_best qz_cartRow qz_tryRow qz_pairs qz_from qz_then qz_tryAt z_thrown z_typed z_next z_token z_place z_value z_figures z_fault z_faultAt z_timeMany z_eaten z_half z_bestMinutes z_bestOats z_isDue z_text z_t z_draft z_s z_kept z_isKept z_times z_w (upd (upd (upd z_at ((0 : Int32)).toNatClampNeg ((n1 / (49 : Int32)) - (1 : Int32))) ((1 : Int32)).toNatClampNeg (((n1 / (7 : Int32)) - (n1 / (7 : Int32)) / (7 : Int32) * (7 : Int32)) - (1 : Int32))) ((2 : Int32)).toNatClampNeg ((n1 - n1 / (7 : Int32) * (7 : Int32)) - (1 : Int32))) z_pulled z_best z_cartRow z_tryRow z_pairs z_from z_then z_tryAt) H → va_D A (W_X9z cI cZ cII qz qz_text qz_t qz_draft qz_s qz_kept qz_isKept qz_times qz_w qz_at qz_pulled qz_best qz_cartRow qz_tryRow qz_pairs qz_from qz_then qz_tryAt z_thrown z_typed z_next z_token z_place z_value z_figures z_fault z_faultAt z_timeMany z_eaten z_half z_bestMinutes z_bestOats z_isDue z_text z_t z_draft z_s z_kept z_isKept z_times z_w (upd (upd (upd z_at ((0 : Int32)).toNatClampNeg ((n1 / (49 : Int32)) - (1 : Int32))) ((1 : Int32)).toNatClampNeg (((n1 / (7 : Int32)) - (n1 / (7 : Int32)) / (7 : Int32) * (7 : Int32)) - (1 : Int32))) ((2 : Int32)).toNatClampNeg ((n1 - n1 / (7 : Int32) * (7 : Int32)) - (1 : Int32))) z_pulled z_best z_cartRow z_tryRow z_pairs z_from z_then z_tryAt) → va_S A s.heap H locs → lv_has ls 6 [(4, .int y4_2)] → K148_2 y4_2 = some (rr, z_at') → W p l e rm_X9_puts s m args below meth c H locs 0 0 Q (F0 m 148 ls []) := by
      intro y4_2 H locs ls hP hD hS hl hf
      have hf := hK148_2 _ hf
      refine lv_iload hx hb dX9_puts_148 (lv_at hl 0 rfl) ?_
      obtain ⟨h8, hf⟩ := pg_chq hf
      exact RET _ _ _ _ _ _ dX9_puts_150 h8 hP hD hS hf
    obtain ⟨B3, hB3, hf⟩ := lq2_n hf
    have WL3 : ∀ (n9 : Nat) (y4_3 : Int32) (y5_3 : Int32) (H : Heap) (locs : List Loc) (ls : Array Slot), va_P (dC, dI) vwCl (W_X9z cI cZ cII qz qz_text qz_t qz_draft qz_s qz_kept qz_isKept qz_times qz_w qz_at qz_pulled qz_best qz_cartRow qz_tryRow qz_pairs qz_from qz_then qz_tryAt z_thrown z_typed z_next z_token z_place z_value z_figures z_fault z_faultAt z_timeMany z_eaten z_half z_bestMinutes z_bestOats z_isDue z_text z_t z_draft z_s z_kept z_isKept z_times z_w (upd (upd (upd z_at ((0 : Int32)).toNatClampNeg ((n1 / (49 : Int32)) - (1 : Int32))) ((1 : Int32)).toNatClampNeg (((n1 / (7 : Int32)) - (n1 / (7 : Int32)) / (7 : Int32) * (7 : Int32)) - (1 : Int32))) ((2 : Int32)).toNatClampNeg ((n1 - n1 / (7 : Int32) * (7 : Int32)) - (1 : Int32))) z_pulled z_best z_cartRow z_tryRow z_pairs z_from z_then z_tryAt) H → va_D A (W_X9z cI cZ cII qz qz_text qz_t qz_draft qz_s qz_kept qz_isKept qz_times qz_w qz_at qz_pulled qz_best qz_cartRow qz_tryRow qz_pairs qz_from qz_then qz_tryAt z_thrown z_typed z_next z_token z_place z_value z_figures z_fault z_faultAt z_timeMany z_eaten z_half z_bestMinutes z_bestOats z_isDue z_text z_t z_draft z_s z_kept z_isKept z_times z_w (upd (upd (upd z_at ((0 : Int32)).toNatClampNeg ((n1 / (49 : Int32)) - (1 : Int32))) ((1 : Int32)).toNatClampNeg (((n1 / (7 : Int32)) - (n1 / (7 : Int32)) / (7 : Int32) * (7 : Int32)) - (1 : Int32))) ((2 : Int32)).toNatClampNeg ((n1 - n1 / (7 : Int32) * (7 : Int32)) - (1 : Int32))) z_pulled z_best z_cartRow z_tryRow z_pairs z_from z_then z_tryAt) → va_S A s.heap H locs → lv_has ls 6 [(0, .ref qz), (2, .int n2), (3, .ref qz_at), (4, .int y4_3), (5, .int y5_3)] → lq2 B3 n9 y4_3 y5_3 = some (rr, z_at') → W p l e rm_X9_puts s m args below meth c H locs 0 0 Q (F0 m 49 ls []) := by
      intro n9
      induction n9 with
      | zero => intro y4_3 y5_3 H locs ls hP hD hS hl hf; cases hf
      | succ n9 ih =>
        intro y4_3 y5_3 H locs ls hP hD hS hl hf
        obtain ⟨rec3, hrec3, hf⟩ := lq2_s hf
        have hf := hB3 rec3 _ _ hf
        refine lv_iload hx hb dX9_puts_49 (lv_at hl 4 rfl) ?_
        refine lv_iconst (v := (3 : Int32)) hx hb dX9_puts_51 (by decide) ?_
        refine lv_icmp_ge (tgt := 148) hx hb dX9_puts_52 (by decide) (fun h9 => ?_) (fun h9 => ?_)
        · have hf := pg_t h9 hf
          exact WK148_2 _ _ _ _ hP hD hS (lv_sub hl [3] rfl) hf
        · have hf := pg_f h9 hf
          refine lv_iload hx hb dX9_puts_55 (lv_at hl 3 rfl) ?_
          obtain ⟨J105_4, hJ105_4, hf⟩ := jn1_s hf
          have WJ105_4 : ∀ (z0_4 : Int32) (H : Heap) (locs : List Loc) (ls : Array Slot), va_P (dC, dI) vwCl (W_X9z cI cZ cII qz qz_text qz_t qz_draft qz_s qz_kept qz_isKept qz_times qz_w qz_at qz_pulled qz_best qz_cartRow qz_tryRow qz_pairs qz_from qz_then qz_tryAt z_thrown z_typed z_next z_token z_place z_value z_figures z_fault z_faultAt z_timeMany z_eaten z_half z_bestMinutes z_bestOats z_isDue z_text z_t z_draft z_s z_kept z_isKept z_times z_w (upd (upd (upd z_at ((0 : Int32)).toNatClampNeg ((n1 / (49 : Int32)) - (1 : Int32))) ((1 : Int32)).toNatClampNeg (((n1 / (7 : Int32)) - (n1 / (7 : Int32)) / (7 : Int32) * (7 : Int32)) - (1 : Int32))) ((2 : Int32)).toNatClampNeg ((n1 - n1 / (7 : Int32) * (7 : Int32)) - (1 : Int32))) z_pulled z_best z_cartRow z_tryRow z_pairs z_from z_then z_tryAt) H → va_D A (W_X9z cI cZ cII qz qz_text qz_t qz_draft qz_s qz_kept qz_isKept qz_times qz_w qz_at qz_pulled qz_best qz_cartRow qz_tryRow qz_pairs qz_from qz_then qz_tryAt z_thrown z_typed z_next z_token z_place z_value z_figures z_fault z_faultAt z_timeMany z_eaten z_half z_bestMinutes z_bestOats z_isDue z_text z_t z_draft z_s z_kept z_isKept z_times z_w (upd (upd (upd z_at ((0 : Int32)).toNatClampNeg ((n1 / (49 : Int32)) - (1 : Int32))) ((1 : Int32)).toNatClampNeg (((n1 / (7 : Int32)) - (n1 / (7 : Int32)) / (7 : Int32) * (7 : Int32)) - (1 : Int32))) ((2 : Int32)).toNatClampNeg ((n1 - n1 / (7 : Int32) * (7 : Int32)) - (1 : Int32))) z_pulled z_best z_cartRow z_tryRow z_pairs z_from z_then z_tryAt) → va_S A s.heap H locs → lv_has ls 6 [(0, .ref qz), (2, .int n2), (3, .ref qz_at), (5, .int y5_3)] → J105_4 z0_4 = some (rr, z_at') → W p l e rm_X9_puts s m args below meth c H locs 0 0 Q (F0 m 105 ls [.int z0_4]) := by
            intro z0_4 H locs ls hP hD hS hl hf
            have hf := hJ105_4 _ hf
            refine lv_istore (lv' := [(4, .int z0_4), (0, .ref qz), (2, .int n2), (3, .ref qz_at), (5, .int y5_3)]) hx hb dX9_puts_105 hl (by decide) rfl (fun ls hl => ?_)
            refine lv_iload hx hb dX9_puts_107 (lv_at hl 0 rfl) ?_
            obtain ⟨J140_5, hJ140_5, hf⟩ := jn1_s hf
            have WJ140_5 : ∀ (z0_5 : Int32) (H : Heap) (locs : List Loc) (ls : Array Slot), va_P (dC, dI) vwCl (W_X9z cI cZ cII qz qz_text qz_t qz_draft qz_s qz_kept qz_isKept qz_times qz_w qz_at qz_pulled qz_best qz_cartRow qz_tryRow qz_pairs qz_from qz_then qz_tryAt z_thrown z_typed z_next z_token z_place z_value z_figures z_fault z_faultAt z_timeMany z_eaten z_half z_bestMinutes z_bestOats z_isDue z_text z_t z_draft z_s z_kept z_isKept z_times z_w (upd (upd (upd z_at ((0 : Int32)).toNatClampNeg ((n1 / (49 : Int32)) - (1 : Int32))) ((1 : Int32)).toNatClampNeg (((n1 / (7 : Int32)) - (n1 / (7 : Int32)) / (7 : Int32) * (7 : Int32)) - (1 : Int32))) ((2 : Int32)).toNatClampNeg ((n1 - n1 / (7 : Int32) * (7 : Int32)) - (1 : Int32))) z_pulled z_best z_cartRow z_tryRow z_pairs z_from z_then z_tryAt) H → va_D A (W_X9z cI cZ cII qz qz_text qz_t qz_draft qz_s qz_kept qz_isKept qz_times qz_w qz_at qz_pulled qz_best qz_cartRow qz_tryRow qz_pairs qz_from qz_then qz_tryAt z_thrown z_typed z_next z_token z_place z_value z_figures z_fault z_faultAt z_timeMany z_eaten z_half z_bestMinutes z_bestOats z_isDue z_text z_t z_draft z_s z_kept z_isKept z_times z_w (upd (upd (upd z_at ((0 : Int32)).toNatClampNeg ((n1 / (49 : Int32)) - (1 : Int32))) ((1 : Int32)).toNatClampNeg (((n1 / (7 : Int32)) - (n1 / (7 : Int32)) / (7 : Int32) * (7 : Int32)) - (1 : Int32))) ((2 : Int32)).toNatClampNeg ((n1 - n1 / (7 : Int32) * (7 : Int32)) - (1 : Int32))) z_pulled z_best z_cartRow z_tryRow z_pairs z_from z_then z_tryAt) → va_S A s.heap H locs → lv_has ls 6 [(0, .ref qz), (2, .int n2), (3, .ref qz_at), (5, .int y5_3)] → J140_5 z0_5 = some (rr, z_at') → W p l e rm_X9_puts s m args below meth c H locs 0 0 Q (F0 m 140 ls [.int z0_5]) := by
              intro z0_5 H locs ls hP hD hS hl hf
              have hf := hJ140_5 _ hf
              refine lv_istore (lv' := [(4, .int z0_5), (0, .ref qz), (2, .int n2), (3, .ref qz_at), (5, .int y5_3)]) hx hb dX9_puts_140 hl (by decide) rfl (fun ls hl => ?_)
              refine lv_iinc (v := (y5_3 + (1 : Int32))) (lv' := [(5, .int (y5_3 + (1 : Int32))), (4, .int z0_5), (0, .ref qz), (2, .int n2), (3, .ref qz_at)]) hx hb dX9_puts_142 hl (k := 4) rfl rfl (by decide) rfl (fun ls hl => ?_)
              refine lv_goto (tgt := 49) hx hb dX9_puts_145 (by decide) ?_
              exact ih _ _ _ _ _ hP hD hS (lv_sub hl [2, 3, 4, 1, 0] rfl) (hrec3 _ _ hf)
            obtain ⟨J139_6, hJ139_6, hf⟩ := jn1_s hf
            have WJ139_6 : ∀ (u_6 : Unit) (H : Heap) (locs : List Loc) (ls : Array Slot), va_P (dC, dI) vwCl (W_X9z cI cZ cII qz qz_text qz_t qz_draft qz_s qz_kept qz_isKept qz_times qz_w qz_at qz_pulled qz_best qz_cartRow qz_tryRow qz_pairs qz_from qz_then qz_tryAt z_thrown z_typed z_next z_token z_place z_value z_figures z_fault z_faultAt z_timeMany z_eaten z_half z_bestMinutes z_bestOats z_isDue z_text z_t z_draft z_s z_kept z_isKept z_times z_w (upd (upd (upd z_at ((0 : Int32)).toNatClampNeg ((n1 / (49 : Int32)) - (1 : Int32))) ((1 : Int32)).toNatClampNeg (((n1 / (7 : Int32)) - (n1 / (7 : Int32)) / (7 : Int32) * (7 : Int32)) - (1 : Int32))) ((2 : Int32)).toNatClampNeg ((n1 - n1 / (7 : Int32) * (7 : Int32)) - (1 : Int32))) z_pulled z_best z_cartRow z_tryRow z_pairs z_from z_then z_tryAt) H → va_D A (W_X9z cI cZ cII qz qz_text qz_t qz_draft qz_s qz_kept qz_isKept qz_times qz_w qz_at qz_pulled qz_best qz_cartRow qz_tryRow qz_pairs qz_from qz_then qz_tryAt z_thrown z_typed z_next z_token z_place z_value z_figures z_fault z_faultAt z_timeMany z_eaten z_half z_bestMinutes z_bestOats z_isDue z_text z_t z_draft z_s z_kept z_isKept z_times z_w (upd (upd (upd z_at ((0 : Int32)).toNatClampNeg ((n1 / (49 : Int32)) - (1 : Int32))) ((1 : Int32)).toNatClampNeg (((n1 / (7 : Int32)) - (n1 / (7 : Int32)) / (7 : Int32) * (7 : Int32)) - (1 : Int32))) ((2 : Int32)).toNatClampNeg ((n1 - n1 / (7 : Int32) * (7 : Int32)) - (1 : Int32))) z_pulled z_best z_cartRow z_tryRow z_pairs z_from z_then z_tryAt) → va_S A s.heap H locs → lv_has ls 6 [(0, .ref qz), (2, .int n2), (3, .ref qz_at), (5, .int y5_3)] → J139_6 u_6 = some (rr, z_at') → W p l e rm_X9_puts s m args below meth c H locs 0 0 Q (F0 m 139 ls []) := by
              intro u_6 H locs ls hP hD hS hl hf
              have hf := hJ139_6 _ hf
              refine lv_iconst (v := (0 : Int32)) hx hb dX9_puts_139 (by decide) ?_
              exact WJ140_5 _ _ _ _ hP hD hS hl hf
            refine lv_if_eq (tgt := 139) hx hb dX9_puts_109 (by decide) (fun h9 => ?_) (fun h9 => ?_)
            · have hf := pg_t h9 hf
              exact WJ139_6 _ _ _ _ hP hD hS (lv_sub hl [1, 2, 3, 4] rfl) hf
            · have hf := pg_f h9 hf
              refine lv_aload_n hx hb dX9_puts_112 rfl (lv_at hl 3 rfl) ?_
              refine lv_iload hx hb dX9_puts_113 (lv_at hl 4 rfl) ?_
              obtain ⟨hi7, hf⟩ := pg_chk hf
              refine va_iald hx hb hK hP 9 0 rfl rfl hi7 dX9_puts_115 ?_
              refine lv_iconst (v := (-1 : Int32)) hx hb dX9_puts_116 (by decide) ?_
              obtain ⟨J135_8, hJ135_8, hf⟩ := jn1_s hf
              have WJ135_8 : ∀ (u_8 : Unit) (H : Heap) (locs : List Loc) (ls : Array Slot), va_P (dC, dI) vwCl (W_X9z cI cZ cII qz qz_text qz_t qz_draft qz_s qz_kept qz_isKept qz_times qz_w qz_at qz_pulled qz_best qz_cartRow qz_tryRow qz_pairs qz_from qz_then qz_tryAt z_thrown z_typed z_next z_token z_place z_value z_figures z_fault z_faultAt z_timeMany z_eaten z_half z_bestMinutes z_bestOats z_isDue z_text z_t z_draft z_s z_kept z_isKept z_times z_w (upd (upd (upd z_at ((0 : Int32)).toNatClampNeg ((n1 / (49 : Int32)) - (1 : Int32))) ((1 : Int32)).toNatClampNeg (((n1 / (7 : Int32)) - (n1 / (7 : Int32)) / (7 : Int32) * (7 : Int32)) - (1 : Int32))) ((2 : Int32)).toNatClampNeg ((n1 - n1 / (7 : Int32) * (7 : Int32)) - (1 : Int32))) z_pulled z_best z_cartRow z_tryRow z_pairs z_from z_then z_tryAt) H → va_D A (W_X9z cI cZ cII qz qz_text qz_t qz_draft qz_s qz_kept qz_isKept qz_times qz_w qz_at qz_pulled qz_best qz_cartRow qz_tryRow qz_pairs qz_from qz_then qz_tryAt z_thrown z_typed z_next z_token z_place z_value z_figures z_fault z_faultAt z_timeMany z_eaten z_half z_bestMinutes z_bestOats z_isDue z_text z_t z_draft z_s z_kept z_isKept z_times z_w (upd (upd (upd z_at ((0 : Int32)).toNatClampNeg ((n1 / (49 : Int32)) - (1 : Int32))) ((1 : Int32)).toNatClampNeg (((n1 / (7 : Int32)) - (n1 / (7 : Int32)) / (7 : Int32) * (7 : Int32)) - (1 : Int32))) ((2 : Int32)).toNatClampNeg ((n1 - n1 / (7 : Int32) * (7 : Int32)) - (1 : Int32))) z_pulled z_best z_cartRow z_tryRow z_pairs z_from z_then z_tryAt) → va_S A s.heap H locs → lv_has ls 6 [(0, .ref qz), (2, .int n2), (3, .ref qz_at), (5, .int y5_3)] → J135_8 u_8 = some (rr, z_at') → W p l e rm_X9_puts s m args below meth c H locs 0 0 Q (F0 m 135 ls []) := by
                intro u_8 H locs ls hP hD hS hl hf
                have hf := hJ135_8 _ hf
                refine lv_iconst (v := (1 : Int32)) hx hb dX9_puts_135 (by decide) ?_
                refine lv_goto (tgt := 140) hx hb dX9_puts_136 (by decide) ?_
                exact WJ140_5 _ _ _ _ hP hD hS hl hf
              refine lv_icmp_eq (tgt := 135) hx hb dX9_puts_117 (by decide) (fun h9 => ?_) (fun h9 => ?_)
              · have hf := pg_t h9 hf
                exact WJ135_8 _ _ _ _ hP hD hS (lv_sub hl [1, 2, 3, 4] rfl) hf
              · have hf := pg_f h9 hf
                refine lv_aload_n hx hb dX9_puts_120 rfl (lv_at hl 3 rfl) ?_
                refine lv_iload hx hb dX9_puts_121 (lv_at hl 4 rfl) ?_
                refine va_iald hx hb hK hP 9 0 rfl rfl hi7 dX9_puts_123 ?_
                refine lv_aload_n hx hb dX9_puts_124 rfl (lv_at hl 3 rfl) ?_
                refine lv_iload hx hb dX9_puts_125 (lv_at hl 4 rfl) ?_
                refine lv_iconst (v := (1 : Int32)) hx hb dX9_puts_127 (by decide) ?_
                refine lv_iadd hx hb dX9_puts_128 ?_
                refine lv_iconst (v := (3 : Int32)) hx hb dX9_puts_129 (by decide) ?_
                refine lv_irem hx hb dX9_puts_130 (by decide) ?_
                obtain ⟨hi9, hf⟩ := pg_chk hf
                refine va_iald hx hb hK hP 9 0 rfl rfl hi9 dX9_puts_131 ?_
                refine lv_icmp_eq (tgt := 139) hx hb dX9_puts_132 (by decide) (fun h9 => ?_) (fun h9 => ?_)
                · have hf := pg_t h9 hf
                  exact WJ139_6 _ _ _ _ hP hD hS (lv_sub hl [1, 2, 3, 4] rfl) hf
                · have hf := pg_f h9 hf
                  exact WJ135_8 _ _ _ _ hP hD hS (lv_sub hl [1, 2, 3, 4] rfl) hf
          obtain ⟨J104_10, hJ104_10, hf⟩ := jn1_s hf
          have WJ104_10 : ∀ (u_10 : Unit) (H : Heap) (locs : List Loc) (ls : Array Slot), va_P (dC, dI) vwCl (W_X9z cI cZ cII qz qz_text qz_t qz_draft qz_s qz_kept qz_isKept qz_times qz_w qz_at qz_pulled qz_best qz_cartRow qz_tryRow qz_pairs qz_from qz_then qz_tryAt z_thrown z_typed z_next z_token z_place z_value z_figures z_fault z_faultAt z_timeMany z_eaten z_half z_bestMinutes z_bestOats z_isDue z_text z_t z_draft z_s z_kept z_isKept z_times z_w (upd (upd (upd z_at ((0 : Int32)).toNatClampNeg ((n1 / (49 : Int32)) - (1 : Int32))) ((1 : Int32)).toNatClampNeg (((n1 / (7 : Int32)) - (n1 / (7 : Int32)) / (7 : Int32) * (7 : Int32)) - (1 : Int32))) ((2 : Int32)).toNatClampNeg ((n1 - n1 / (7 : Int32) * (7 : Int32)) - (1 : Int32))) z_pulled z_best z_cartRow z_tryRow z_pairs z_from z_then z_tryAt) H → va_D A (W_X9z cI cZ cII qz qz_text qz_t qz_draft qz_s qz_kept qz_isKept qz_times qz_w qz_at qz_pulled qz_best qz_cartRow qz_tryRow qz_pairs qz_from qz_then qz_tryAt z_thrown z_typed z_next z_token z_place z_value z_figures z_fault z_faultAt z_timeMany z_eaten z_half z_bestMinutes z_bestOats z_isDue z_text z_t z_draft z_s z_kept z_isKept z_times z_w (upd (upd (upd z_at ((0 : Int32)).toNatClampNeg ((n1 / (49 : Int32)) - (1 : Int32))) ((1 : Int32)).toNatClampNeg (((n1 / (7 : Int32)) - (n1 / (7 : Int32)) / (7 : Int32) * (7 : Int32)) - (1 : Int32))) ((2 : Int32)).toNatClampNeg ((n1 - n1 / (7 : Int32) * (7 : Int32)) - (1 : Int32))) z_pulled z_best z_cartRow z_tryRow z_pairs z_from z_then z_tryAt) → va_S A s.heap H locs → lv_has ls 6 [(0, .ref qz), (2, .int n2), (3, .ref qz_at), (5, .int y5_3)] → J104_10 u_10 = some (rr, z_at') → W p l e rm_X9_puts s m args below meth c H locs 0 0 Q (F0 m 104 ls []) := by
            intro u_10 H locs ls hP hD hS hl hf
            have hf := hJ104_10 _ hf
            refine lv_iconst (v := (0 : Int32)) hx hb dX9_puts_104 (by decide) ?_
            exact WJ105_4 _ _ _ _ hP hD hS hl hf
          refine lv_if_eq (tgt := 104) hx hb dX9_puts_57 (by decide) (fun h9 => ?_) (fun h9 => ?_)
          · have hf := pg_t h9 hf
            exact WJ104_10 _ _ _ _ hP hD hS (lv_sub hl [0, 1, 2, 4] rfl) hf
          · have hf := pg_f h9 hf
            refine lv_aload_n hx hb dX9_puts_60 rfl (lv_at hl 2 rfl) ?_
            refine lv_iload hx hb dX9_puts_61 (lv_at hl 4 rfl) ?_
            obtain ⟨hi11, hf⟩ := pg_chk hf
            refine va_iald hx hb hK hP 9 0 rfl rfl hi11 dX9_puts_63 ?_
            refine lv_aload_n hx hb dX9_puts_64 rfl (lv_at hl 0 rfl) ?_
            refine va_get (D := (dC, dI)) (ci := 9) (v := .ref qz_t) (C := RX9) (T := TX9) (N := 32) hx hb hw inlX9 hown hK hP 0 rfl rfl 10 (by decide) (hw _ mw_6_1) (fun _ h9 => h9) rfl dX9_puts_65 ?_
            refine lv_iconst (v := (3 : Int32)) hx hb dX9_puts_68 (by decide) ?_
            refine va_iald hx hb hK hP 2 0 rfl rfl (pg_lit (by decide)) dX9_puts_69 ?_
            refine lv_icmp_ge (tgt := 104) hx hb dX9_puts_70 (by decide) (fun h9 => ?_) (fun h9 => ?_)
            · have hf := pg_t h9 hf
              exact WJ104_10 _ _ _ _ hP hD hS (lv_sub hl [0, 1, 2, 4] rfl) hf
            · have hf := pg_f h9 hf
              refine lv_aload_n hx hb dX9_puts_73 rfl (lv_at hl 2 rfl) ?_
              refine lv_iload hx hb dX9_puts_74 (lv_at hl 4 rfl) ?_
              refine va_iald hx hb hK hP 9 0 rfl rfl hi11 dX9_puts_76 ?_
              refine lv_iconst (v := (-1 : Int32)) hx hb dX9_puts_77 (by decide) ?_
              obtain ⟨J100_12, hJ100_12, hf⟩ := jn1_s hf
              have WJ100_12 : ∀ (u_12 : Unit) (H : Heap) (locs : List Loc) (ls : Array Slot), va_P (dC, dI) vwCl (W_X9z cI cZ cII qz qz_text qz_t qz_draft qz_s qz_kept qz_isKept qz_times qz_w qz_at qz_pulled qz_best qz_cartRow qz_tryRow qz_pairs qz_from qz_then qz_tryAt z_thrown z_typed z_next z_token z_place z_value z_figures z_fault z_faultAt z_timeMany z_eaten z_half z_bestMinutes z_bestOats z_isDue z_text z_t z_draft z_s z_kept z_isKept z_times z_w (upd (upd (upd z_at ((0 : Int32)).toNatClampNeg ((n1 / (49 : Int32)) - (1 : Int32))) ((1 : Int32)).toNatClampNeg (((n1 / (7 : Int32)) - (n1 / (7 : Int32)) / (7 : Int32) * (7 : Int32)) - (1 : Int32))) ((2 : Int32)).toNatClampNeg ((n1 - n1 / (7 : Int32) * (7 : Int32)) - (1 : Int32))) z_pulled z_best z_cartRow z_tryRow z_pairs z_from z_then z_tryAt) H → va_D A (W_X9z cI cZ cII qz qz_text qz_t qz_draft qz_s qz_kept qz_isKept qz_times qz_w qz_at qz_pulled qz_best qz_cartRow qz_tryRow qz_pairs qz_from qz_then qz_tryAt z_thrown z_typed z_next z_token z_place z_value z_figures z_fault z_faultAt z_timeMany z_eaten z_half z_bestMinutes z_bestOats z_isDue z_text z_t z_draft z_s z_kept z_isKept z_times z_w (upd (upd (upd z_at ((0 : Int32)).toNatClampNeg ((n1 / (49 : Int32)) - (1 : Int32))) ((1 : Int32)).toNatClampNeg (((n1 / (7 : Int32)) - (n1 / (7 : Int32)) / (7 : Int32) * (7 : Int32)) - (1 : Int32))) ((2 : Int32)).toNatClampNeg ((n1 - n1 / (7 : Int32) * (7 : Int32)) - (1 : Int32))) z_pulled z_best z_cartRow z_tryRow z_pairs z_from z_then z_tryAt) → va_S A s.heap H locs → lv_has ls 6 [(0, .ref qz), (2, .int n2), (3, .ref qz_at), (5, .int y5_3)] → J100_12 u_12 = some (rr, z_at') → W p l e rm_X9_puts s m args below meth c H locs 0 0 Q (F0 m 100 ls []) := by
                intro u_12 H locs ls hP hD hS hl hf
                have hf := hJ100_12 _ hf
                refine lv_iconst (v := (1 : Int32)) hx hb dX9_puts_100 (by decide) ?_
                refine lv_goto (tgt := 105) hx hb dX9_puts_101 (by decide) ?_
                exact WJ105_4 _ _ _ _ hP hD hS hl hf
              refine lv_icmp_eq (tgt := 100) hx hb dX9_puts_78 (by decide) (fun h9 => ?_) (fun h9 => ?_)
              · have hf := pg_t h9 hf
                exact WJ100_12 _ _ _ _ hP hD hS (lv_sub hl [0, 1, 2, 4] rfl) hf
              · have hf := pg_f h9 hf
                refine lv_iload hx hb dX9_puts_81 (lv_at hl 4 rfl) ?_
                refine lv_aload_n hx hb dX9_puts_83 rfl (lv_at hl 0 rfl) ?_
                refine va_get (D := (dC, dI)) (ci := 9) (v := .ref qz_t) (C := RX9) (T := TX9) (N := 32) hx hb hw inlX9 hown hK hP 0 rfl rfl 10 (by decide) (hw _ mw_6_1) (fun _ h9 => h9) rfl dX9_puts_84 ?_
                refine lv_iconst (v := (0 : Int32)) hx hb dX9_puts_87 (by decide) ?_
                refine va_iald hx hb hK hP 2 0 rfl rfl (pg_lit (by decide)) dX9_puts_88 ?_
                refine lv_icmp_ge (tgt := 104) hx hb dX9_puts_89 (by decide) (fun h9 => ?_) (fun h9 => ?_)
                · have hf := pg_t h9 hf
                  exact WJ104_10 _ _ _ _ hP hD hS (lv_sub hl [0, 1, 2, 4] rfl) hf
                · have hf := pg_f h9 hf
                  refine lv_aload_n hx hb dX9_puts_92 rfl (lv_at hl 2 rfl) ?_
                  refine lv_iload hx hb dX9_puts_93 (lv_at hl 4 rfl) ?_
                  refine va_iald hx hb hK hP 9 0 rfl rfl hi11 dX9_puts_95 ?_
                  refine lv_iload_n hx hb dX9_puts_96 rfl (lv_at hl 1 rfl) ?_
                  refine lv_icmp_eq (tgt := 104) hx hb dX9_puts_97 (by decide) (fun h9 => ?_) (fun h9 => ?_)
                  · have hf := pg_t h9 hf
                    exact WJ104_10 _ _ _ _ hP hD hS (lv_sub hl [0, 1, 2, 4] rfl) hf
                  · have hf := pg_f h9 hf
                    exact WJ100_12 _ _ _ _ hP hD hS (lv_sub hl [0, 1, 2, 4] rfl) hf
    exact WL3 fu _ _ _ _ _ hP hD hS (lv_sub hl [2, 3, 4, 1, 0] rfl) hf
  refine lv_if_le (tgt := 43) hx hb dX9_puts_36 (by decide) (fun h9 => ?_) (fun h9 => ?_)
  · have hf := pg_t h9 hf
    refine lv_iconst (v := (0 : Int32)) hx hb dX9_puts_43 (by decide) ?_
    exact WJ44_1 _ _ _ _ hP hD hS (lv_sub hl [1, 3, 0] rfl) hf
  · have hf := pg_f h9 hf
    refine lv_iconst (v := (1 : Int32)) hx hb dX9_puts_39 (by decide) ?_
    refine lv_goto (tgt := 44) hx hb dX9_puts_40 (by decide) ?_
    exact WJ44_1 _ _ _ _ hP hD hS (lv_sub hl [1, 3, 0] rfl) hf
def f_X9_strong (z_w : Nat → Int32) (z_from : Nat → Int32) : Option ((Nat → Int32)) :=
  jn1 (fun (z_w_1 : Nat → Int32) =>
    some (z_w_1)
  ) (fun K26_1 =>
  lq2 (fun rec2 (y1_2 : Int32) (z_w_2 : Nat → Int32) =>
    if (6 : Int32) ≤ y1_2 then
      K26_1 z_w_2
    else
      if y1_2 < 0 ∨ 6 ≤ (y1_2).toNatClampNeg then none else
      rec2 (y1_2 + (1 : Int32)) (upd z_w_2 (y1_2).toNatClampNeg (z_from (y1_2).toNatClampNeg))
  ) fu (0 : Int32) z_w
  )
abbrev rm_X9_strong : Room := { frames := 0, cells := 0, slots := 0, locals := 0 }
theorem dk_X9_strong : yX9_strong.cls = RX9 ∧ yX9_strong.cls ≠ "java/lang/invoke/MethodHandle" ∧ yX9_strong.cls ≠ "java/lang/invoke/VarHandle" ∧ (parseMethodDescriptor yX9_strong.desc).map (fun d => d.parameters.length) = some 0 := by decide +kernel
set_option maxHeartbeats 4000000 in
set_option maxRecDepth 100000 in
theorem c_X9_strong (l : Launch) (dC : Nat → ClassId) (dI : Nat → Nat → Nat) (cI cZ cII : ClassId) (qz qz_text qz_t qz_draft qz_s qz_kept qz_isKept qz_times qz_w qz_at qz_pulled qz_best qz_cartRow qz_tryRow qz_pairs qz_from qz_then qz_tryAt : Nat) (sz : Nat) (z_thrown : Int32) (z_typed : Int32) (z_next : Int32) (z_token : Int32) (z_place : Int32) (z_value : Int32) (z_figures : Int32) (z_fault : Int32) (z_faultAt : Int32) (z_timeMany : Int32) (z_eaten : Int32) (z_half : Int32) (z_bestMinutes : Int32) (z_bestOats : Int32) (z_isDue : Int32) (z_text : Nat → Int32) (z_t : Nat → Int32) (z_draft : Nat → Int32) (z_s : Nat → Int32) (z_kept : Nat → Int32) (z_isKept : Nat → Int32) (z_times : Nat → Int32) (z_w : Nat → Int32) (z_at : Nat → Int32) (z_pulled : Nat → Int32) (z_best : Nat → Int32) (z_cartRow : Nat → Int32) (z_tryRow : Nat → Int32) (z_pairs : Nat → Int32) (z_from : Nat → Int32) (z_then : Nat → Int32) (z_tryAt : Nat → Int32) (z_w' : Nat → Int32) (hf : f_X9_strong z_w z_from = some (z_w')) : Met l yX9_strong (wM yX9_strong cX9_strong 2 none) rm_X9_strong (PreW (dC, dI) (tyA cI cZ cII) (W_X9z cI cZ cII qz qz_text qz_t qz_draft qz_s qz_kept qz_isKept qz_times qz_w qz_at qz_pulled qz_best qz_cartRow qz_tryRow qz_pairs qz_from qz_then qz_tryAt z_thrown z_typed z_next z_token z_place z_value z_figures z_fault z_faultAt z_timeMany z_eaten z_half z_bestMinutes z_bestOats z_isDue z_text z_t z_draft z_s z_kept z_isKept z_times z_w z_at z_pulled z_best z_cartRow z_tryRow z_pairs z_from z_then z_tryAt) sz [.ref qz]) (PostV (dC, dI) (tyA cI cZ cII) (W_X9z cI cZ cII qz qz_text qz_t qz_draft qz_s qz_kept qz_isKept qz_times qz_w qz_at qz_pulled qz_best qz_cartRow qz_tryRow qz_pairs qz_from qz_then qz_tryAt z_thrown z_typed z_next z_token z_place z_value z_figures z_fault z_faultAt z_timeMany z_eaten z_half z_bestMinutes z_bestOats z_isDue z_text z_t z_draft z_s z_kept z_isKept z_times z_w z_at z_pulled z_best z_cartRow z_tryRow z_pairs z_from z_then z_tryAt) (W_X9z cI cZ cII qz qz_text qz_t qz_draft qz_s qz_kept qz_isKept qz_times qz_w qz_at qz_pulled qz_best qz_cartRow qz_tryRow qz_pairs qz_from qz_then qz_tryAt z_thrown z_typed z_next z_token z_place z_value z_figures z_fault z_faultAt z_timeMany z_eaten z_half z_bestMinutes z_bestOats z_isDue z_text z_t z_draft z_s z_kept z_isKept z_times z_w' z_at z_pulled z_best z_cartRow z_tryRow z_pairs z_from z_then z_tryAt) sz) 0 0 (va_A (W_X9z cI cZ cII qz qz_text qz_t qz_draft qz_s qz_kept qz_isKept qz_times qz_w qz_at qz_pulled qz_best qz_cartRow qz_tryRow qz_pairs qz_from qz_then qz_tryAt z_thrown z_typed z_next z_token z_place z_value z_figures z_fault z_faultAt z_timeMany z_eaten z_half z_bestMinutes z_bestOats z_isDue z_text z_t z_draft z_s z_kept z_isKept z_times z_w z_at z_pulled z_best z_cartRow z_tryRow z_pairs z_from z_then z_tryAt) sz) := by
  refine Met.ofW (cc := cX9_strong) (maxL := 2) (ret := none) (by decide) rfl ?_
  intro p e s m args below meth c s₁ B hml hv
  obtain ⟨rfl, hsz, hP, hK, hD0⟩ := hv
  have hx := B.exec
  have hb := B.bytes
  have hr := B.returns
  have hts := atoms_spec (ws := wM yX9_strong cX9_strong 2 none) B.pre
  have hown : s.vm.findClass RX9 = some m.cls := findClass_of_methodNamed B.named
  have hlocks := B.notSynchronized
  subst hsz
  have hD := hD0.self (sz := s.heap.size)
  obtain ⟨A, hAe⟩ : ∃ A, A = va_A (W_X9z cI cZ cII qz qz_text qz_t qz_draft qz_s qz_kept qz_isKept qz_times qz_w qz_at qz_pulled qz_best qz_cartRow qz_tryRow qz_pairs qz_from qz_then qz_tryAt z_thrown z_typed z_next z_token z_place z_value z_figures z_fault z_faultAt z_timeMany z_eaten z_half z_bestMinutes z_bestOats z_isDue z_text z_t z_draft z_s z_kept z_isKept z_times z_w z_at z_pulled z_best z_cartRow z_tryRow z_pairs z_from z_then z_tryAt) s.heap.size := ⟨_, rfl⟩
  rw [← hAe] at hD
  have hA : ∀ q : Nat, s.heap.size ≤ q → A q := fun q h => by rw [hAe]; exact Or.inr h
  have hS : va_S A s.heap s.heap [] := va_S.rf
  have hl := lv_entry ([.ref qz]) (n := 2) (Nat.le_of_ble_eq_true rfl)
  rw [lg_entry_eq]
  generalize (lg_sl ([.ref qz]) ++ List.replicate (2 - (lg_sl ([.ref qz])).length) Slot.unset).toArray = ls at hl ⊢
  have hl : lv_has ls 2 [(0, .ref qz)] := hl
  generalize ([.ref qz] : List Value).toArray = args at hts ⊢
  have hw : ∀ w ∈ wsL_law, w.before args s = true := fun w h => hts w (List.mem_cons_of_mem _ h)
  refine pg_start (fun Q hQ => ?_)
  have RET : ∀ (H : Heap) (locs : List Loc) (ls : Array Slot) (pc : Nat) (x0 : Nat → Int32) , decode cX9_strong pc = .ok (.return_, 1) → va_P (dC, dI) vwCl (W_X9z cI cZ cII qz qz_text qz_t qz_draft qz_s qz_kept qz_isKept qz_times qz_w qz_at qz_pulled qz_best qz_cartRow qz_tryRow qz_pairs qz_from qz_then qz_tryAt z_thrown z_typed z_next z_token z_place z_value z_figures z_fault z_faultAt z_timeMany z_eaten z_half z_bestMinutes z_bestOats z_isDue z_text z_t z_draft z_s z_kept z_isKept z_times x0 z_at z_pulled z_best z_cartRow z_tryRow z_pairs z_from z_then z_tryAt) H → va_D A (W_X9z cI cZ cII qz qz_text qz_t qz_draft qz_s qz_kept qz_isKept qz_times qz_w qz_at qz_pulled qz_best qz_cartRow qz_tryRow qz_pairs qz_from qz_then qz_tryAt z_thrown z_typed z_next z_token z_place z_value z_figures z_fault z_faultAt z_timeMany z_eaten z_half z_bestMinutes z_bestOats z_isDue z_text z_t z_draft z_s z_kept z_isKept z_times x0 z_at z_pulled z_best z_cartRow z_tryRow z_pairs z_from z_then z_tryAt) → va_S A s.heap H locs → (some (x0) : Option ((Nat → Int32))) = some (z_w') → W p l e rm_X9_strong s m args below meth c H locs 0 0 Q (F0 m pc ls []) := by
    intro H locs ls pc x0 hd hP hD hS he
    subst hAe; subst hQ
    obtain rfl := Option.some.inj he
    exact pg_vret hx hb hr hlocks hK hP hD hS hd
  unfold f_X9_strong at hf
  refine lv_iconst (v := (0 : Int32)) hx hb dX9_strong_0 (by decide) ?_
  refine lv_istore_n (lv' := [(1, .int (0 : Int32)), (0, .ref qz)]) hx hb dX9_strong_1 rfl hl (by decide) rfl (fun ls hl => ?_)
  obtain ⟨K26_1, hK26_1, hf⟩ := jn1_s hf
  have WK26_1 : ∀ (z_w_1 : Nat → Int32) (H : Heap) (locs : List Loc) (ls : Array Slot), va_P (dC, dI) vwCl (W_X9z cI cZ cII qz qz_text qz_t qz_draft qz_s qz_kept qz_isKept qz_times qz_w qz_at qz_pulled qz_best qz_cartRow qz_tryRow qz_pairs qz_from qz_then qz_tryAt z_thrown z_typed z_next z_token z_place z_value z_figures z_fault z_faultAt z_timeMany z_eaten z_half z_bestMinutes z_bestOats z_isDue z_text z_t z_draft z_s z_kept z_isKept z_times z_w_1 z_at z_pulled z_best z_cartRow z_tryRow z_pairs z_from z_then z_tryAt) H → va_D A (W_X9z cI cZ cII qz qz_text qz_t qz_draft qz_s qz_kept qz_isKept qz_times qz_w qz_at qz_pulled qz_best qz_cartRow qz_tryRow qz_pairs qz_from qz_then qz_tryAt z_thrown z_typed z_next z_token z_place z_value z_figures z_fault z_faultAt z_timeMany z_eaten z_half z_bestMinutes z_bestOats z_isDue z_text z_t z_draft z_s z_kept z_isKept z_times z_w_1 z_at z_pulled z_best z_cartRow z_tryRow z_pairs z_from z_then z_tryAt) → va_S A s.heap H locs → lv_has ls 2 [] → K26_1 z_w_1 = some (z_w') → W p l e rm_X9_strong s m args below meth c H locs 0 0 Q (F0 m 26 ls []) := by
    intro z_w_1 H locs ls hP hD hS hl hf
    have hf := hK26_1 _ hf
    exact RET _ _ _ _ _ dX9_strong_26 hP hD hS hf
  obtain ⟨B2, hB2, hf⟩ := lq2_n hf
  have WL2 : ∀ (n9 : Nat) (y1_2 : Int32) (z_w_2 : Nat → Int32) (H : Heap) (locs : List Loc) (ls : Array Slot), va_P (dC, dI) vwCl (W_X9z cI cZ cII qz qz_text qz_t qz_draft qz_s qz_kept qz_isKept qz_times qz_w qz_at qz_pulled qz_best qz_cartRow qz_tryRow qz_pairs qz_from qz_then qz_tryAt z_thrown z_typed z_next z_token z_place z_value z_figures z_fault z_faultAt z_timeMany z_eaten z_half z_bestMinutes z_bestOats z_isDue z_text z_t z_draft z_s z_kept z_isKept z_times z_w_2 z_at z_pulled z_best z_cartRow z_tryRow z_pairs z_from z_then z_tryAt) H → va_D A (W_X9z cI cZ cII qz qz_text qz_t qz_draft qz_s qz_kept qz_isKept qz_times qz_w qz_at qz_pulled qz_best qz_cartRow qz_tryRow qz_pairs qz_from qz_then qz_tryAt z_thrown z_typed z_next z_token z_place z_value z_figures z_fault z_faultAt z_timeMany z_eaten z_half z_bestMinutes z_bestOats z_isDue z_text z_t z_draft z_s z_kept z_isKept z_times z_w_2 z_at z_pulled z_best z_cartRow z_tryRow z_pairs z_from z_then z_tryAt) → va_S A s.heap H locs → lv_has ls 2 [(0, .ref qz), (1, .int y1_2)] → lq2 B2 n9 y1_2 z_w_2 = some (z_w') → W p l e rm_X9_strong s m args below meth c H locs 0 0 Q (F0 m 2 ls []) := by
    intro n9
    induction n9 with
    | zero => intro y1_2 z_w_2 H locs ls hP hD hS hl hf; cases hf
    | succ n9 ih =>
      intro y1_2 z_w_2 H locs ls hP hD hS hl hf
      obtain ⟨rec2, hrec2, hf⟩ := lq2_s hf
      have hf := hB2 rec2 _ _ hf
      refine lv_iload_n hx hb dX9_strong_2 rfl (lv_at hl 1 rfl) ?_
      refine lv_bipush (v := (6 : Int32)) hx hb dX9_strong_3 (by decide) ?_
      refine lv_icmp_ge (tgt := 26) hx hb dX9_strong_5 (by decide) (fun h9 => ?_) (fun h9 => ?_)
      · have hf := pg_t h9 hf
        exact WK26_1 _ _ _ _ hP hD hS (lv_sub hl [] rfl) hf
      · have hf := pg_f h9 hf
        refine lv_aload_n hx hb dX9_strong_8 rfl (lv_at hl 0 rfl) ?_
        refine va_get (D := (dC, dI)) (ci := 9) (v := .ref qz_w) (C := RX9) (T := TX9) (N := 32) hx hb hw inlX9 hown hK hP 0 rfl rfl 17 (by decide) (hw _ mw_6_8) (fun _ h9 => h9) rfl dX9_strong_9 ?_
        refine lv_iload_n hx hb dX9_strong_12 rfl (lv_at hl 1 rfl) ?_
        refine lv_aload_n hx hb dX9_strong_13 rfl (lv_at hl 0 rfl) ?_
        refine va_get (D := (dC, dI)) (ci := 9) (v := .ref qz_from) (C := RX9) (T := TX9) (N := 32) hx hb hw inlX9 hown hK hP 0 rfl rfl 29 (by decide) (hw _ mw_6_16) (fun _ h9 => h9) rfl dX9_strong_14 ?_
        refine lv_iload_n hx hb dX9_strong_17 rfl (lv_at hl 1 rfl) ?_
        obtain ⟨hi3, hf⟩ := pg_chk hf
        refine va_iald hx hb hK hP 15 0 rfl rfl hi3 dX9_strong_18 ?_
        refine va_iast hx hb hK hP hD hS 8 0 rfl rfl hi3 dX9_strong_19 (fun H locs hP hD hS => ?_)
        have hP : va_P (dC, dI) vwCl (W_X9z cI cZ cII qz qz_text qz_t qz_draft qz_s qz_kept qz_isKept qz_times qz_w qz_at qz_pulled qz_best qz_cartRow qz_tryRow qz_pairs qz_from qz_then qz_tryAt z_thrown z_typed z_next z_token z_place z_value z_figures z_fault z_faultAt z_timeMany z_eaten z_half z_bestMinutes z_bestOats z_isDue z_text z_t z_draft z_s z_kept z_isKept z_times (upd z_w_2 (y1_2).toNatClampNeg (z_from (y1_2).toNatClampNeg)) z_at z_pulled z_best z_cartRow z_tryRow z_pairs z_from z_then z_tryAt) H := hP
        have hD : va_D A (W_X9z cI cZ cII qz qz_text qz_t qz_draft qz_s qz_kept qz_isKept qz_times qz_w qz_at qz_pulled qz_best qz_cartRow qz_tryRow qz_pairs qz_from qz_then qz_tryAt z_thrown z_typed z_next z_token z_place z_value z_figures z_fault z_faultAt z_timeMany z_eaten z_half z_bestMinutes z_bestOats z_isDue z_text z_t z_draft z_s z_kept z_isKept z_times (upd z_w_2 (y1_2).toNatClampNeg (z_from (y1_2).toNatClampNeg)) z_at z_pulled z_best z_cartRow z_tryRow z_pairs z_from z_then z_tryAt) := hD
        refine lv_iinc (v := (y1_2 + (1 : Int32))) (lv' := [(1, .int (y1_2 + (1 : Int32))), (0, .ref qz)]) hx hb dX9_strong_20 hl (k := 1) rfl rfl (by decide) rfl (fun ls hl => ?_)
        refine lv_goto (tgt := 2) hx hb dX9_strong_23 (by decide) ?_
        exact ih _ _ _ _ _ hP hD hS (lv_sub hl [1, 0] rfl) (hrec2 _ _ hf)
  exact WL2 fu _ _ _ _ _ hP hD hS (lv_sub hl [1, 0] rfl) hf
def f_X9_keepsBest (n1 : Int32) (n2 : Int32) (z_eaten : Int32) (z_bestMinutes : Int32) (z_bestOats : Int32) (z_at : Nat → Int32) (z_best : Nat → Int32) : Option (Int32 × Int32 × (Nat → Int32)) :=
  jn1 (fun (z_best_1 : Nat → Int32) =>
    some (n1, z_eaten, z_best_1)
  ) (fun K40_1 =>
  lq2 (fun rec2 (y3_2 : Int32) (z_best_2 : Nat → Int32) =>
    if (3 : Int32) ≤ y3_2 then
      K40_1 z_best_2
    else
      if y3_2 < 0 ∨ 3 ≤ (y3_2).toNatClampNeg then none else
      if (n2 + y3_2) < 0 ∨ 6 ≤ ((n2 + y3_2)).toNatClampNeg then none else
      rec2 (y3_2 + (1 : Int32)) (upd z_best_2 ((n2 + y3_2)).toNatClampNeg (z_at (y3_2).toNatClampNeg))
  ) fu (0 : Int32) z_best
  )
abbrev rm_X9_keepsBest : Room := { frames := 0, cells := 0, slots := 0, locals := 0 }
theorem dk_X9_keepsBest : yX9_keepsBest.cls = RX9 ∧ yX9_keepsBest.cls ≠ "java/lang/invoke/MethodHandle" ∧ yX9_keepsBest.cls ≠ "java/lang/invoke/VarHandle" ∧ (parseMethodDescriptor yX9_keepsBest.desc).map (fun d => d.parameters.length) = some 2 := by decide +kernel
set_option maxHeartbeats 4000000 in
set_option maxRecDepth 100000 in
theorem c_X9_keepsBest (l : Launch) (dC : Nat → ClassId) (dI : Nat → Nat → Nat) (cI cZ cII : ClassId) (qz qz_text qz_t qz_draft qz_s qz_kept qz_isKept qz_times qz_w qz_at qz_pulled qz_best qz_cartRow qz_tryRow qz_pairs qz_from qz_then qz_tryAt : Nat) (sz : Nat) (z_thrown : Int32) (z_typed : Int32) (z_next : Int32) (z_token : Int32) (z_place : Int32) (z_value : Int32) (z_figures : Int32) (z_fault : Int32) (z_faultAt : Int32) (z_timeMany : Int32) (z_eaten : Int32) (z_half : Int32) (z_bestMinutes : Int32) (z_bestOats : Int32) (z_isDue : Int32) (z_text : Nat → Int32) (z_t : Nat → Int32) (z_draft : Nat → Int32) (z_s : Nat → Int32) (z_kept : Nat → Int32) (z_isKept : Nat → Int32) (z_times : Nat → Int32) (z_w : Nat → Int32) (z_at : Nat → Int32) (z_pulled : Nat → Int32) (z_best : Nat → Int32) (z_cartRow : Nat → Int32) (z_tryRow : Nat → Int32) (z_pairs : Nat → Int32) (z_from : Nat → Int32) (z_then : Nat → Int32) (z_tryAt : Nat → Int32) (n1 : Int32) (n2 : Int32) (z_bestMinutes' : Int32) (z_bestOats' : Int32) (z_best' : Nat → Int32) (hf : f_X9_keepsBest n1 n2 z_eaten z_bestMinutes z_bestOats z_at z_best = some (z_bestMinutes', z_bestOats', z_best')) : Met l yX9_keepsBest (wM yX9_keepsBest cX9_keepsBest 4 none) rm_X9_keepsBest (PreW (dC, dI) (tyA cI cZ cII) (W_X9z cI cZ cII qz qz_text qz_t qz_draft qz_s qz_kept qz_isKept qz_times qz_w qz_at qz_pulled qz_best qz_cartRow qz_tryRow qz_pairs qz_from qz_then qz_tryAt z_thrown z_typed z_next z_token z_place z_value z_figures z_fault z_faultAt z_timeMany z_eaten z_half z_bestMinutes z_bestOats z_isDue z_text z_t z_draft z_s z_kept z_isKept z_times z_w z_at z_pulled z_best z_cartRow z_tryRow z_pairs z_from z_then z_tryAt) sz [.ref qz, .int n1, .int n2]) (PostV (dC, dI) (tyA cI cZ cII) (W_X9z cI cZ cII qz qz_text qz_t qz_draft qz_s qz_kept qz_isKept qz_times qz_w qz_at qz_pulled qz_best qz_cartRow qz_tryRow qz_pairs qz_from qz_then qz_tryAt z_thrown z_typed z_next z_token z_place z_value z_figures z_fault z_faultAt z_timeMany z_eaten z_half z_bestMinutes z_bestOats z_isDue z_text z_t z_draft z_s z_kept z_isKept z_times z_w z_at z_pulled z_best z_cartRow z_tryRow z_pairs z_from z_then z_tryAt) (W_X9z cI cZ cII qz qz_text qz_t qz_draft qz_s qz_kept qz_isKept qz_times qz_w qz_at qz_pulled qz_best qz_cartRow qz_tryRow qz_pairs qz_from qz_then qz_tryAt z_thrown z_typed z_next z_token z_place z_value z_figures z_fault z_faultAt z_timeMany z_eaten z_half z_bestMinutes' z_bestOats' z_isDue z_text z_t z_draft z_s z_kept z_isKept z_times z_w z_at z_pulled z_best' z_cartRow z_tryRow z_pairs z_from z_then z_tryAt) sz) 0 0 (va_A (W_X9z cI cZ cII qz qz_text qz_t qz_draft qz_s qz_kept qz_isKept qz_times qz_w qz_at qz_pulled qz_best qz_cartRow qz_tryRow qz_pairs qz_from qz_then qz_tryAt z_thrown z_typed z_next z_token z_place z_value z_figures z_fault z_faultAt z_timeMany z_eaten z_half z_bestMinutes z_bestOats z_isDue z_text z_t z_draft z_s z_kept z_isKept z_times z_w z_at z_pulled z_best z_cartRow z_tryRow z_pairs z_from z_then z_tryAt) sz) := by
  refine Met.ofW (cc := cX9_keepsBest) (maxL := 4) (ret := none) (by decide) rfl ?_
  intro p e s m args below meth c s₁ B hml hv
  obtain ⟨rfl, hsz, hP, hK, hD0⟩ := hv
  have hx := B.exec
  have hb := B.bytes
  have hr := B.returns
  have hts := atoms_spec (ws := wM yX9_keepsBest cX9_keepsBest 4 none) B.pre
  have hown : s.vm.findClass RX9 = some m.cls := findClass_of_methodNamed B.named
  have hlocks := B.notSynchronized
  subst hsz
  have hD := hD0.self (sz := s.heap.size)
  obtain ⟨A, hAe⟩ : ∃ A, A = va_A (W_X9z cI cZ cII qz qz_text qz_t qz_draft qz_s qz_kept qz_isKept qz_times qz_w qz_at qz_pulled qz_best qz_cartRow qz_tryRow qz_pairs qz_from qz_then qz_tryAt z_thrown z_typed z_next z_token z_place z_value z_figures z_fault z_faultAt z_timeMany z_eaten z_half z_bestMinutes z_bestOats z_isDue z_text z_t z_draft z_s z_kept z_isKept z_times z_w z_at z_pulled z_best z_cartRow z_tryRow z_pairs z_from z_then z_tryAt) s.heap.size := ⟨_, rfl⟩
  rw [← hAe] at hD
  have hA : ∀ q : Nat, s.heap.size ≤ q → A q := fun q h => by rw [hAe]; exact Or.inr h
  have hS : va_S A s.heap s.heap [] := va_S.rf
  have hl := lv_entry ([.ref qz, .int n1, .int n2]) (n := 4) (Nat.le_of_ble_eq_true rfl)
  rw [lg_entry_eq]
  generalize (lg_sl ([.ref qz, .int n1, .int n2]) ++ List.replicate (4 - (lg_sl ([.ref qz, .int n1, .int n2])).length) Slot.unset).toArray = ls at hl ⊢
  have hl : lv_has ls 4 [(0, .ref qz), (1, .int n1), (2, .int n2)] := hl
  generalize ([.ref qz, .int n1, .int n2] : List Value).toArray = args at hts ⊢
  have hw : ∀ w ∈ wsL_law, w.before args s = true := fun w h => hts w (List.mem_cons_of_mem _ h)
  refine pg_start (fun Q hQ => ?_)
  have RET : ∀ (H : Heap) (locs : List Loc) (ls : Array Slot) (pc : Nat) (x0 : Int32) (x1 : Int32) (x2 : Nat → Int32) , decode cX9_keepsBest pc = .ok (.return_, 1) → va_P (dC, dI) vwCl (W_X9z cI cZ cII qz qz_text qz_t qz_draft qz_s qz_kept qz_isKept qz_times qz_w qz_at qz_pulled qz_best qz_cartRow qz_tryRow qz_pairs qz_from qz_then qz_tryAt z_thrown z_typed z_next z_token z_place z_value z_figures z_fault z_faultAt z_timeMany z_eaten z_half x0 x1 z_isDue z_text z_t z_draft z_s z_kept z_isKept z_times z_w z_at z_pulled x2 z_cartRow z_tryRow z_pairs z_from z_then z_tryAt) H → va_D A (W_X9z cI cZ cII qz qz_text qz_t qz_draft qz_s qz_kept qz_isKept qz_times qz_w qz_at qz_pulled qz_best qz_cartRow qz_tryRow qz_pairs qz_from qz_then qz_tryAt z_thrown z_typed z_next z_token z_place z_value z_figures z_fault z_faultAt z_timeMany z_eaten z_half x0 x1 z_isDue z_text z_t z_draft z_s z_kept z_isKept z_times z_w z_at z_pulled x2 z_cartRow z_tryRow z_pairs z_from z_then z_tryAt) → va_S A s.heap H locs → (some (x0, x1, x2) : Option (Int32 × Int32 × (Nat → Int32))) = some (z_bestMinutes', z_bestOats', z_best') → W p l e rm_X9_keepsBest s m args below meth c H locs 0 0 Q (F0 m pc ls []) := by
    intro H locs ls pc x0 x1 x2 hd hP hD hS he
    subst hAe; subst hQ
    simp only [Option.some.injEq, Prod.mk.injEq] at he
    obtain ⟨rfl, rfl, rfl⟩ := he
    exact pg_vret hx hb hr hlocks hK hP hD hS hd
  unfold f_X9_keepsBest at hf
  refine lv_aload_n hx hb dX9_keepsBest_0 rfl (lv_at hl 0 rfl) ?_
  refine lv_iload_n hx hb dX9_keepsBest_1 rfl (lv_at hl 1 rfl) ?_
  refine va_put (D := (dC, dI)) (ci := 9) (v := .int n1) (ty := .int) (C := RX9) (T := TX9) (N := 32) hx hb hw inlX9 tyX9 tyX9_ok nmX9 hown hK hP hD hS 0 rfl rfl 23 (by decide) (hw _ mw_35_10) (fun _ h9 => h9) rfl (by decide +kernel) rfl rfl (Nat.le_of_ble_eq_true rfl) dX9_keepsBest_2 (fun H locs hP hD hS => ?_)
  have hP : va_P (dC, dI) vwCl (W_X9z cI cZ cII qz qz_text qz_t qz_draft qz_s qz_kept qz_isKept qz_times qz_w qz_at qz_pulled qz_best qz_cartRow qz_tryRow qz_pairs qz_from qz_then qz_tryAt z_thrown z_typed z_next z_token z_place z_value z_figures z_fault z_faultAt z_timeMany z_eaten z_half n1 z_bestOats z_isDue z_text z_t z_draft z_s z_kept z_isKept z_times z_w z_at z_pulled z_best z_cartRow z_tryRow z_pairs z_from z_then z_tryAt) H := hP
  have hD : va_D A (W_X9z cI cZ cII qz qz_text qz_t qz_draft qz_s qz_kept qz_isKept qz_times qz_w qz_at qz_pulled qz_best qz_cartRow qz_tryRow qz_pairs qz_from qz_then qz_tryAt z_thrown z_typed z_next z_token z_place z_value z_figures z_fault z_faultAt z_timeMany z_eaten z_half n1 z_bestOats z_isDue z_text z_t z_draft z_s z_kept z_isKept z_times z_w z_at z_pulled z_best z_cartRow z_tryRow z_pairs z_from z_then z_tryAt) := hD
  refine lv_aload_n hx hb dX9_keepsBest_5 rfl (lv_at hl 0 rfl) ?_
  refine lv_aload_n hx hb dX9_keepsBest_6 rfl (lv_at hl 0 rfl) ?_
  refine va_get (D := (dC, dI)) (ci := 9) (v := .int z_eaten) (C := RX9) (T := TX9) (N := 32) hx hb hw inlX9 hown hK hP 0 rfl rfl 20 (by decide) (hw _ mw_30_23) (fun _ h9 => h9) rfl dX9_keepsBest_7 ?_
  refine va_put (D := (dC, dI)) (ci := 9) (v := .int z_eaten) (ty := .int) (C := RX9) (T := TX9) (N := 32) hx hb hw inlX9 tyX9 tyX9_ok nmX9 hown hK hP hD hS 0 rfl rfl 24 (by decide) (hw _ mw_35_11) (fun _ h9 => h9) rfl (by decide +kernel) rfl rfl (Nat.le_of_ble_eq_true rfl) dX9_keepsBest_10 (fun H locs hP hD hS => ?_)
  have hP : va_P (dC, dI) vwCl (W_X9z cI cZ cII qz qz_text qz_t qz_draft qz_s qz_kept qz_isKept qz_times qz_w qz_at qz_pulled qz_best qz_cartRow qz_tryRow qz_pairs qz_from qz_then qz_tryAt z_thrown z_typed z_next z_token z_place z_value z_figures z_fault z_faultAt z_timeMany z_eaten z_half n1 z_eaten z_isDue z_text z_t z_draft z_s z_kept z_isKept z_times z_w z_at z_pulled z_best z_cartRow z_tryRow z_pairs z_from z_then z_tryAt) H := hP
  have hD : va_D A (W_X9z cI cZ cII qz qz_text qz_t qz_draft qz_s qz_kept qz_isKept qz_times qz_w qz_at qz_pulled qz_best qz_cartRow qz_tryRow qz_pairs qz_from qz_then qz_tryAt z_thrown z_typed z_next z_token z_place z_value z_figures z_fault z_faultAt z_timeMany z_eaten z_half n1 z_eaten z_isDue z_text z_t z_draft z_s z_kept z_isKept z_times z_w z_at z_pulled z_best z_cartRow z_tryRow z_pairs z_from z_then z_tryAt) := hD
  refine lv_iconst (v := (0 : Int32)) hx hb dX9_keepsBest_13 (by decide) ?_
  refine lv_istore_n (lv' := [(3, .int (0 : Int32)), (0, .ref qz), (1, .int n1), (2, .int n2)]) hx hb dX9_keepsBest_14 rfl hl (by decide) rfl (fun ls hl => ?_)
  obtain ⟨K40_1, hK40_1, hf⟩ := jn1_s hf
  have WK40_1 : ∀ (z_best_1 : Nat → Int32) (H : Heap) (locs : List Loc) (ls : Array Slot), va_P (dC, dI) vwCl (W_X9z cI cZ cII qz qz_text qz_t qz_draft qz_s qz_kept qz_isKept qz_times qz_w qz_at qz_pulled qz_best qz_cartRow qz_tryRow qz_pairs qz_from qz_then qz_tryAt z_thrown z_typed z_next z_token z_place z_value z_figures z_fault z_faultAt z_timeMany z_eaten z_half n1 z_eaten z_isDue z_text z_t z_draft z_s z_kept z_isKept z_times z_w z_at z_pulled z_best_1 z_cartRow z_tryRow z_pairs z_from z_then z_tryAt) H → va_D A (W_X9z cI cZ cII qz qz_text qz_t qz_draft qz_s qz_kept qz_isKept qz_times qz_w qz_at qz_pulled qz_best qz_cartRow qz_tryRow qz_pairs qz_from qz_then qz_tryAt z_thrown z_typed z_next z_token z_place z_value z_figures z_fault z_faultAt z_timeMany z_eaten z_half n1 z_eaten z_isDue z_text z_t z_draft z_s z_kept z_isKept z_times z_w z_at z_pulled z_best_1 z_cartRow z_tryRow z_pairs z_from z_then z_tryAt) → va_S A s.heap H locs → lv_has ls 4 [] → K40_1 z_best_1 = some (z_bestMinutes', z_bestOats', z_best') → W p l e rm_X9_keepsBest s m args below meth c H locs 0 0 Q (F0 m 40 ls []) := by
    intro z_best_1 H locs ls hP hD hS hl hf
    have hf := hK40_1 _ hf
    exact RET _ _ _ _ _ _ _ dX9_keepsBest_40 hP hD hS hf
  obtain ⟨B2, hB2, hf⟩ := lq2_n hf
  have WL2 : ∀ (n9 : Nat) (y3_2 : Int32) (z_best_2 : Nat → Int32) (H : Heap) (locs : List Loc) (ls : Array Slot), va_P (dC, dI) vwCl (W_X9z cI cZ cII qz qz_text qz_t qz_draft qz_s qz_kept qz_isKept qz_times qz_w qz_at qz_pulled qz_best qz_cartRow qz_tryRow qz_pairs qz_from qz_then qz_tryAt z_thrown z_typed z_next z_token z_place z_value z_figures z_fault z_faultAt z_timeMany z_eaten z_half n1 z_eaten z_isDue z_text z_t z_draft z_s z_kept z_isKept z_times z_w z_at z_pulled z_best_2 z_cartRow z_tryRow z_pairs z_from z_then z_tryAt) H → va_D A (W_X9z cI cZ cII qz qz_text qz_t qz_draft qz_s qz_kept qz_isKept qz_times qz_w qz_at qz_pulled qz_best qz_cartRow qz_tryRow qz_pairs qz_from qz_then qz_tryAt z_thrown z_typed z_next z_token z_place z_value z_figures z_fault z_faultAt z_timeMany z_eaten z_half n1 z_eaten z_isDue z_text z_t z_draft z_s z_kept z_isKept z_times z_w z_at z_pulled z_best_2 z_cartRow z_tryRow z_pairs z_from z_then z_tryAt) → va_S A s.heap H locs → lv_has ls 4 [(0, .ref qz), (2, .int n2), (3, .int y3_2)] → lq2 B2 n9 y3_2 z_best_2 = some (z_bestMinutes', z_bestOats', z_best') → W p l e rm_X9_keepsBest s m args below meth c H locs 0 0 Q (F0 m 15 ls []) := by
    intro n9
    induction n9 with
    | zero => intro y3_2 z_best_2 H locs ls hP hD hS hl hf; cases hf
    | succ n9 ih =>
      intro y3_2 z_best_2 H locs ls hP hD hS hl hf
      obtain ⟨rec2, hrec2, hf⟩ := lq2_s hf
      have hf := hB2 rec2 _ _ hf
      refine lv_iload_n hx hb dX9_keepsBest_15 rfl (lv_at hl 2 rfl) ?_
      refine lv_iconst (v := (3 : Int32)) hx hb dX9_keepsBest_16 (by decide) ?_
      refine lv_icmp_ge (tgt := 40) hx hb dX9_keepsBest_17 (by decide) (fun h9 => ?_) (fun h9 => ?_)
      · have hf := pg_t h9 hf
        exact WK40_1 _ _ _ _ hP hD hS (lv_sub hl [] rfl) hf
      · have hf := pg_f h9 hf
        refine lv_aload_n hx hb dX9_keepsBest_20 rfl (lv_at hl 0 rfl) ?_
        refine va_get (D := (dC, dI)) (ci := 9) (v := .ref qz_best) (C := RX9) (T := TX9) (N := 32) hx hb hw inlX9 hown hK hP 0 rfl rfl 22 (by decide) (hw _ mw_6_12) (fun _ h9 => h9) rfl dX9_keepsBest_21 ?_
        refine lv_iload_n hx hb dX9_keepsBest_24 rfl (lv_at hl 1 rfl) ?_
        refine lv_iload_n hx hb dX9_keepsBest_25 rfl (lv_at hl 2 rfl) ?_
        refine lv_iadd hx hb dX9_keepsBest_26 ?_
        refine lv_aload_n hx hb dX9_keepsBest_27 rfl (lv_at hl 0 rfl) ?_
        refine va_get (D := (dC, dI)) (ci := 9) (v := .ref qz_at) (C := RX9) (T := TX9) (N := 32) hx hb hw inlX9 hown hK hP 0 rfl rfl 18 (by decide) (hw _ mw_6_9) (fun _ h9 => h9) rfl dX9_keepsBest_28 ?_
        refine lv_iload_n hx hb dX9_keepsBest_31 rfl (lv_at hl 2 rfl) ?_
        obtain ⟨hi3, hf⟩ := pg_chk hf
        refine va_iald hx hb hK hP 9 0 rfl rfl hi3 dX9_keepsBest_32 ?_
        obtain ⟨hi4, hf⟩ := pg_chk hf
        refine va_iast hx hb hK hP hD hS 11 0 rfl rfl hi4 dX9_keepsBest_33 (fun H locs hP hD hS => ?_)
        have hP : va_P (dC, dI) vwCl (W_X9z cI cZ cII qz qz_text qz_t qz_draft qz_s qz_kept qz_isKept qz_times qz_w qz_at qz_pulled qz_best qz_cartRow qz_tryRow qz_pairs qz_from qz_then qz_tryAt z_thrown z_typed z_next z_token z_place z_value z_figures z_fault z_faultAt z_timeMany z_eaten z_half n1 z_eaten z_isDue z_text z_t z_draft z_s z_kept z_isKept z_times z_w z_at z_pulled (upd z_best_2 ((n2 + y3_2)).toNatClampNeg (z_at (y3_2).toNatClampNeg)) z_cartRow z_tryRow z_pairs z_from z_then z_tryAt) H := hP
        have hD : va_D A (W_X9z cI cZ cII qz qz_text qz_t qz_draft qz_s qz_kept qz_isKept qz_times qz_w qz_at qz_pulled qz_best qz_cartRow qz_tryRow qz_pairs qz_from qz_then qz_tryAt z_thrown z_typed z_next z_token z_place z_value z_figures z_fault z_faultAt z_timeMany z_eaten z_half n1 z_eaten z_isDue z_text z_t z_draft z_s z_kept z_isKept z_times z_w z_at z_pulled (upd z_best_2 ((n2 + y3_2)).toNatClampNeg (z_at (y3_2).toNatClampNeg)) z_cartRow z_tryRow z_pairs z_from z_then z_tryAt) := hD
        refine lv_iinc (v := (y3_2 + (1 : Int32))) (lv' := [(3, .int (y3_2 + (1 : Int32))), (0, .ref qz), (2, .int n2)]) hx hb dX9_keepsBest_34 hl (k := 2) rfl rfl (by decide) rfl (fun ls hl => ?_)
        refine lv_goto (tgt := 15) hx hb dX9_keepsBest_37 (by decide) ?_
        exact ih _ _ _ _ _ hP hD hS (lv_sub hl [1, 2, 0] rfl) (hrec2 _ _ hf)
  exact WL2 fu _ _ _ _ _ hP hD hS (lv_sub hl [1, 3, 0] rfl) hf
def f_X9_finds (n1 : Int32) (n2 : Int32) (n3 : Int32) (n4 : Int32) (z_eaten : Int32) (z_half : Int32) (z_bestMinutes : Int32) (z_bestOats : Int32) (z_t : Nat → Int32) (z_w : Nat → Int32) (z_at : Nat → Int32) (z_pulled : Nat → Int32) (z_best : Nat → Int32) (z_from : Nat → Int32) : Option (Int32 × Int32 × Int32 × Int32 × (Nat → Int32) × (Nat → Int32) × (Nat → Int32) × (Nat → Int32)) :=
  jn7 (fun (z_eaten_1 : Int32) (z_bestMinutes_1 : Int32) (z_bestOats_1 : Int32) (z_w_1 : Nat → Int32) (z_at_1 : Nat → Int32) (z_pulled_1 : Nat → Int32) (z_best_1 : Nat → Int32) =>
    if z_bestMinutes_1 ≤ 0 then
      some ((0 : Int32), z_eaten_1, z_bestMinutes_1, z_bestOats_1, z_w_1, z_at_1, z_pulled_1, z_best_1)
    else
      some ((1 : Int32), z_eaten_1, z_bestMinutes_1, z_bestOats_1, z_w_1, z_at_1, z_pulled_1, z_best_1)
  ) (fun K158_1 =>
  lq8 (fun rec2 (y5_2 : Int32) (z_eaten_2 : Int32) (z_bestMinutes_2 : Int32) (z_bestOats_2 : Int32) (z_w_2 : Nat → Int32) (z_at_2 : Nat → Int32) (z_pulled_2 : Nat → Int32) (z_best_2 : Nat → Int32) =>
    if (343 : Int32) ≤ y5_2 then
      K158_1 z_eaten_2 z_bestMinutes_2 z_bestOats_2 z_w_2 z_at_2 z_pulled_2 z_best_2
    else
      bn2 (f_X9_puts y5_2 n3 z_t z_at_2) (fun (r_3 : Int32) (z_at_3 : Nat → Int32) =>
        jn6 (fun (z_eaten_4 : Int32) (z_bestMinutes_4 : Int32) (z_bestOats_4 : Int32) (z_w_4 : Nat → Int32) (z_pulled_4 : Nat → Int32) (z_best_4 : Nat → Int32) =>
          rec2 (y5_2 + (1 : Int32)) z_eaten_4 z_bestMinutes_4 z_bestOats_4 z_w_4 z_at_3 z_pulled_4 z_best_4
        ) (fun J152_4 =>
        if r_3 = 0 then
          J152_4 z_eaten_2 z_bestMinutes_2 z_bestOats_2 z_w_2 z_pulled_2 z_best_2
        else
          bn1 (f_X9_strong z_w_2 z_from) (fun (z_w_5 : Nat → Int32) =>
            bn4 (f_X9_crosses n1 n2 z_eaten_2 z_half z_t z_w_5 z_at_3 z_pulled_2) (fun (r_6 : Int32) (z_eaten_6 : Int32) (z_w_6 : Nat → Int32) (z_pulled_6 : Nat → Int32) =>
              jn1 (fun (z0_7 : Int32) =>
                jn1 (fun (z0_8 : Int32) =>
                  jn1 (fun (z0_9 : Int32) =>
                    if z0_7 = 0 then
                      J152_4 z_eaten_6 z_bestMinutes_2 z_bestOats_2 z_w_6 z_pulled_6 z_best_2
                    else
                      jn1 (fun (u_10 : Unit) =>
                        bn3 (f_X9_keepsBest r_6 (0 : Int32) z_eaten_6 z_bestMinutes_2 z_bestOats_2 z_at_3 z_best_2) (fun (z_bestMinutes_11 : Int32) (z_bestOats_11 : Int32) (z_best_11 : Nat → Int32) =>
                          J152_4 z_eaten_6 z_bestMinutes_11 z_bestOats_11 z_w_6 z_pulled_6 z_best_11
                        )
                      ) (fun J145_10 =>
                      if z_bestMinutes_2 = 0 then
                        J145_10 ()
                      else
                        if z0_8 < 0 then
                          J145_10 ()
                        else
                          if z0_8 = 0 then
                            if 0 ≤ z0_9 then
                              J152_4 z_eaten_6 z_bestMinutes_2 z_bestOats_2 z_w_6 z_pulled_6 z_best_2
                            else
                              J145_10 ()
                          else
                            J152_4 z_eaten_6 z_bestMinutes_2 z_bestOats_2 z_w_6 z_pulled_6 z_best_2
                      )
                  ) (fun J116_9 =>
                  if n4 = 0 then
                    J116_9 (z_eaten_6 - z_bestOats_2)
                  else
                    J116_9 (r_6 - z_bestMinutes_2)
                  )
                ) (fun J90_8 =>
                if n4 = 0 then
                  J90_8 (r_6 - z_bestMinutes_2)
                else
                  J90_8 (z_eaten_6 - z_bestOats_2)
                )
              ) (fun J64_7 =>
              jn1 (fun (u_12 : Unit) =>
                J64_7 (0 : Int32)
              ) (fun J63_12 =>
              if r_6 ≤ 0 then
                J63_12 ()
              else
                jn1 (fun (u_13 : Unit) =>
                  J64_7 (1 : Int32)
                ) (fun J59_13 =>
                if n4 = 0 then
                  J59_13 ()
                else
                  if (z_t ((5 : Int32)).toNatClampNeg) < r_6 then
                    J63_12 ()
                  else
                    J59_13 ()
                )
              )
              )
            )
          )
        )
      )
  ) fu (1 : Int32) z_eaten (0 : Int32) z_bestOats z_w z_at z_pulled z_best
  )
abbrev rm_X9_finds : Room := { frames := 5, cells := 0, slots := 0, locals := 116 }
theorem dk_X9_finds : yX9_finds.cls = RX9 ∧ yX9_finds.cls ≠ "java/lang/invoke/MethodHandle" ∧ yX9_finds.cls ≠ "java/lang/invoke/VarHandle" ∧ (parseMethodDescriptor yX9_finds.desc).map (fun d => d.parameters.length) = some 4 := by decide +kernel
set_option maxHeartbeats 4000000 in
set_option maxRecDepth 100000 in
theorem c_X9_finds (l : Launch) (dC : Nat → ClassId) (dI : Nat → Nat → Nat) (cI cZ cII : ClassId) (qz qz_text qz_t qz_draft qz_s qz_kept qz_isKept qz_times qz_w qz_at qz_pulled qz_best qz_cartRow qz_tryRow qz_pairs qz_from qz_then qz_tryAt : Nat) (sz : Nat) (z_thrown : Int32) (z_typed : Int32) (z_next : Int32) (z_token : Int32) (z_place : Int32) (z_value : Int32) (z_figures : Int32) (z_fault : Int32) (z_faultAt : Int32) (z_timeMany : Int32) (z_eaten : Int32) (z_half : Int32) (z_bestMinutes : Int32) (z_bestOats : Int32) (z_isDue : Int32) (z_text : Nat → Int32) (z_t : Nat → Int32) (z_draft : Nat → Int32) (z_s : Nat → Int32) (z_kept : Nat → Int32) (z_isKept : Nat → Int32) (z_times : Nat → Int32) (z_w : Nat → Int32) (z_at : Nat → Int32) (z_pulled : Nat → Int32) (z_best : Nat → Int32) (z_cartRow : Nat → Int32) (z_tryRow : Nat → Int32) (z_pairs : Nat → Int32) (z_from : Nat → Int32) (z_then : Nat → Int32) (z_tryAt : Nat → Int32) (n1 : Int32) (n2 : Int32) (n3 : Int32) (n4 : Int32) (rr : Int32) (z_eaten' : Int32) (z_bestMinutes' : Int32) (z_bestOats' : Int32) (z_w' : Nat → Int32) (z_at' : Nat → Int32) (z_pulled' : Nat → Int32) (z_best' : Nat → Int32) (hf : f_X9_finds n1 n2 n3 n4 z_eaten z_half z_bestMinutes z_bestOats z_t z_w z_at z_pulled z_best z_from = some (rr, z_eaten', z_bestMinutes', z_bestOats', z_w', z_at', z_pulled', z_best')) : Met l yX9_finds (wM yX9_finds cX9_finds 10 (some .boolean)) rm_X9_finds (PreW (dC, dI) (tyA cI cZ cII) (W_X9z cI cZ cII qz qz_text qz_t qz_draft qz_s qz_kept qz_isKept qz_times qz_w qz_at qz_pulled qz_best qz_cartRow qz_tryRow qz_pairs qz_from qz_then qz_tryAt z_thrown z_typed z_next z_token z_place z_value z_figures z_fault z_faultAt z_timeMany z_eaten z_half z_bestMinutes z_bestOats z_isDue z_text z_t z_draft z_s z_kept z_isKept z_times z_w z_at z_pulled z_best z_cartRow z_tryRow z_pairs z_from z_then z_tryAt) sz [.ref qz, .int n1, .int n2, .int n3, .int n4]) (PostI (dC, dI) (tyA cI cZ cII) rr (W_X9z cI cZ cII qz qz_text qz_t qz_draft qz_s qz_kept qz_isKept qz_times qz_w qz_at qz_pulled qz_best qz_cartRow qz_tryRow qz_pairs qz_from qz_then qz_tryAt z_thrown z_typed z_next z_token z_place z_value z_figures z_fault z_faultAt z_timeMany z_eaten z_half z_bestMinutes z_bestOats z_isDue z_text z_t z_draft z_s z_kept z_isKept z_times z_w z_at z_pulled z_best z_cartRow z_tryRow z_pairs z_from z_then z_tryAt) (W_X9z cI cZ cII qz qz_text qz_t qz_draft qz_s qz_kept qz_isKept qz_times qz_w qz_at qz_pulled qz_best qz_cartRow qz_tryRow qz_pairs qz_from qz_then qz_tryAt z_thrown z_typed z_next z_token z_place z_value z_figures z_fault z_faultAt z_timeMany z_eaten' z_half z_bestMinutes' z_bestOats' z_isDue z_text z_t z_draft z_s z_kept z_isKept z_times z_w' z_at' z_pulled' z_best' z_cartRow z_tryRow z_pairs z_from z_then z_tryAt) sz) 0 0 (va_A (W_X9z cI cZ cII qz qz_text qz_t qz_draft qz_s qz_kept qz_isKept qz_times qz_w qz_at qz_pulled qz_best qz_cartRow qz_tryRow qz_pairs qz_from qz_then qz_tryAt z_thrown z_typed z_next z_token z_place z_value z_figures z_fault z_faultAt z_timeMany z_eaten z_half z_bestMinutes z_bestOats z_isDue z_text z_t z_draft z_s z_kept z_isKept z_times z_w z_at z_pulled z_best z_cartRow z_tryRow z_pairs z_from z_then z_tryAt) sz) := by
  refine Met.ofW (cc := cX9_finds) (maxL := 10) (ret := (some .boolean)) (by decide) rfl ?_
  intro p e s m args below meth c s₁ B hml hv
  obtain ⟨rfl, hsz, hP, hK, hD0⟩ := hv
  have hx := B.exec
  have hb := B.bytes
  have hr := B.returns
  have hts := atoms_spec (ws := wM yX9_finds cX9_finds 10 (some .boolean)) B.pre
  have hown : s.vm.findClass RX9 = some m.cls := findClass_of_methodNamed B.named
  have hlocks := B.notSynchronized
  subst hsz
  have hD := hD0.self (sz := s.heap.size)
  obtain ⟨A, hAe⟩ : ∃ A, A = va_A (W_X9z cI cZ cII qz qz_text qz_t qz_draft qz_s qz_kept qz_isKept qz_times qz_w qz_at qz_pulled qz_best qz_cartRow qz_tryRow qz_pairs qz_from qz_then qz_tryAt z_thrown z_typed z_next z_token z_place z_value z_figures z_fault z_faultAt z_timeMany z_eaten z_half z_bestMinutes z_bestOats z_isDue z_text z_t z_draft z_s z_kept z_isKept z_times z_w z_at z_pulled z_best z_cartRow z_tryRow z_pairs z_from z_then z_tryAt) s.heap.size := ⟨_, rfl⟩
  rw [← hAe] at hD
  have hA : ∀ q : Nat, s.heap.size ≤ q → A q := fun q h => by rw [hAe]; exact Or.inr h
  have hS : va_S A s.heap s.heap [] := va_S.rf
  have hl := lv_entry ([.ref qz, .int n1, .int n2, .int n3, .int n4]) (n := 10) (Nat.le_of_ble_eq_true rfl)
  rw [lg_entry_eq]
  generalize (lg_sl ([.ref qz, .int n1, .int n2, .int n3, .int n4]) ++ List.replicate (10 - (lg_sl ([.ref qz, .int n1, .int n2, .int n3, .int n4])).length) Slot.unset).toArray = ls at hl ⊢
  have hl : lv_has ls 10 [(0, .ref qz), (1, .int n1), (2, .int n2), (3, .int n3), (4, .int n4)] := hl
  generalize ([.ref qz, .int n1, .int n2, .int n3, .int n4] : List Value).toArray = args at hts ⊢
  have hw : ∀ w ∈ wsL_law, w.before args s = true := fun w h => hts w (List.mem_cons_of_mem _ h)
  refine pg_start (fun Q hQ => ?_)
  have RET : ∀ (H : Heap) (locs : List Loc) (ls : Array Slot) (pc : Nat) (v : Int32) (x0 : Int32) (x1 : Int32) (x2 : Int32) (x3 : Nat → Int32) (x4 : Nat → Int32) (x5 : Nat → Int32) (x6 : Nat → Int32) , decode cX9_finds pc = .ok (.ireturn, 1) → (v = 0 ∨ v = 1) → va_P (dC, dI) vwCl (W_X9z cI cZ cII qz qz_text qz_t qz_draft qz_s qz_kept qz_isKept qz_times qz_w qz_at qz_pulled qz_best qz_cartRow qz_tryRow qz_pairs qz_from qz_then qz_tryAt z_thrown z_typed z_next z_token z_place z_value z_figures z_fault z_faultAt z_timeMany x0 z_half x1 x2 z_isDue z_text z_t z_draft z_s z_kept z_isKept z_times x3 x4 x5 x6 z_cartRow z_tryRow z_pairs z_from z_then z_tryAt) H → va_D A (W_X9z cI cZ cII qz qz_text qz_t qz_draft qz_s qz_kept qz_isKept qz_times qz_w qz_at qz_pulled qz_best qz_cartRow qz_tryRow qz_pairs qz_from qz_then qz_tryAt z_thrown z_typed z_next z_token z_place z_value z_figures z_fault z_faultAt z_timeMany x0 z_half x1 x2 z_isDue z_text z_t z_draft z_s z_kept z_isKept z_times x3 x4 x5 x6 z_cartRow z_tryRow z_pairs z_from z_then z_tryAt) → va_S A s.heap H locs → (some (v, x0, x1, x2, x3, x4, x5, x6) : Option (Int32 × Int32 × Int32 × Int32 × (Nat → Int32) × (Nat → Int32) × (Nat → Int32) × (Nat → Int32))) = some (rr, z_eaten', z_bestMinutes', z_bestOats', z_w', z_at', z_pulled', z_best') → W p l e rm_X9_finds s m args below meth c H locs 0 0 Q (F0 m pc ls [.int v]) := by
    intro H locs ls pc v x0 x1 x2 x3 x4 x5 x6 hd hz hP hD hS he
    subst hAe; subst hQ
    simp only [Option.some.injEq, Prod.mk.injEq] at he
    obtain ⟨rfl, rfl, rfl, rfl, rfl, rfl, rfl, rfl⟩ := he
    exact pg_zret hx hb hr hlocks hz hK hP hD hS hd
  unfold f_X9_finds at hf
  refine lv_aload_n hx hb dX9_finds_0 rfl (lv_at hl 0 rfl) ?_
  refine lv_iconst (v := (0 : Int32)) hx hb dX9_finds_1 (by decide) ?_
  refine va_put (D := (dC, dI)) (ci := 9) (v := .int (0 : Int32)) (ty := .int) (C := RX9) (T := TX9) (N := 32) hx hb hw inlX9 tyX9 tyX9_ok nmX9 hown hK hP hD hS 0 rfl rfl 23 (by decide) (hw _ mw_35_10) (fun _ h9 => h9) rfl (by decide +kernel) rfl rfl (Nat.le_of_ble_eq_true rfl) dX9_finds_2 (fun H locs hP hD hS => ?_)
  have hP : va_P (dC, dI) vwCl (W_X9z cI cZ cII qz qz_text qz_t qz_draft qz_s qz_kept qz_isKept qz_times qz_w qz_at qz_pulled qz_best qz_cartRow qz_tryRow qz_pairs qz_from qz_then qz_tryAt z_thrown z_typed z_next z_token z_place z_value z_figures z_fault z_faultAt z_timeMany z_eaten z_half (0 : Int32) z_bestOats z_isDue z_text z_t z_draft z_s z_kept z_isKept z_times z_w z_at z_pulled z_best z_cartRow z_tryRow z_pairs z_from z_then z_tryAt) H := hP
  have hD : va_D A (W_X9z cI cZ cII qz qz_text qz_t qz_draft qz_s qz_kept qz_isKept qz_times qz_w qz_at qz_pulled qz_best qz_cartRow qz_tryRow qz_pairs qz_from qz_then qz_tryAt z_thrown z_typed z_next z_token z_place z_value z_figures z_fault z_faultAt z_timeMany z_eaten z_half (0 : Int32) z_bestOats z_isDue z_text z_t z_draft z_s z_kept z_isKept z_times z_w z_at z_pulled z_best z_cartRow z_tryRow z_pairs z_from z_then z_tryAt) := hD
  refine lv_iconst (v := (1 : Int32)) hx hb dX9_finds_5 (by decide) ?_
  refine lv_istore (lv' := [(5, .int (1 : Int32)), (0, .ref qz), (1, .int n1), (2, .int n2), (3, .int n3), (4, .int n4)]) hx hb dX9_finds_6 hl (by decide) rfl (fun ls hl => ?_)
  obtain ⟨K158_1, hK158_1, hf⟩ := jn7_s hf
  have WK158_1 : ∀ (z_eaten_1 : Int32) (z_bestMinutes_1 : Int32) (z_bestOats_1 : Int32) (z_w_1 : Nat → Int32) (z_at_1 : Nat → Int32) (z_pulled_1 : Nat → Int32) (z_best_1 : Nat → Int32) (H : Heap) (locs : List Loc) (ls : Array Slot), va_P (dC, dI) vwCl (W_X9z cI cZ cII qz qz_text qz_t qz_draft qz_s qz_kept qz_isKept qz_times qz_w qz_at qz_pulled qz_best qz_cartRow qz_tryRow qz_pairs qz_from qz_then qz_tryAt z_thrown z_typed z_next z_token z_place z_value z_figures z_fault z_faultAt z_timeMany z_eaten_1 z_half z_bestMinutes_1 z_bestOats_1 z_isDue z_text z_t z_draft z_s z_kept z_isKept z_times z_w_1 z_at_1 z_pulled_1 z_best_1 z_cartRow z_tryRow z_pairs z_from z_then z_tryAt) H → va_D A (W_X9z cI cZ cII qz qz_text qz_t qz_draft qz_s qz_kept qz_isKept qz_times qz_w qz_at qz_pulled qz_best qz_cartRow qz_tryRow qz_pairs qz_from qz_then qz_tryAt z_thrown z_typed z_next z_token z_place z_value z_figures z_fault z_faultAt z_timeMany z_eaten_1 z_half z_bestMinutes_1 z_bestOats_1 z_isDue z_text z_t z_draft z_s z_kept z_isKept z_times z_w_1 z_at_1 z_pulled_1 z_best_1 z_cartRow z_tryRow z_pairs z_from z_then z_tryAt) → va_S A s.heap H locs → lv_has ls 10 [(0, .ref qz)] → K158_1 z_eaten_1 z_bestMinutes_1 z_bestOats_1 z_w_1 z_at_1 z_pulled_1 z_best_1 = some (rr, z_eaten', z_bestMinutes', z_bestOats', z_w', z_at', z_pulled', z_best') → W p l e rm_X9_finds s m args below meth c H locs 0 0 Q (F0 m 158 ls []) := by
    intro z_eaten_1 z_bestMinutes_1 z_bestOats_1 z_w_1 z_at_1 z_pulled_1 z_best_1 H locs ls hP hD hS hl hf
    have hf := hK158_1 _ _ _ _ _ _ _ hf
    refine lv_aload_n hx hb dX9_finds_158 rfl (lv_at hl 0 rfl) ?_
    refine va_get (D := (dC, dI)) (ci := 9) (v := .int z_bestMinutes_1) (C := RX9) (T := TX9) (N := 32) hx hb hw inlX9 hown hK hP 0 rfl rfl 23 (by decide) (hw _ mw_35_10) (fun _ h9 => h9) rfl dX9_finds_159 ?_
    refine lv_if_le (tgt := 169) hx hb dX9_finds_162 (by decide) (fun h9 => ?_) (fun h9 => ?_)
    · have hf := pg_t h9 hf
      refine lv_iconst (v := (0 : Int32)) hx hb dX9_finds_169 (by decide) ?_
      exact RET _ _ _ _ _ _ _ _ _ _ _ _ dX9_finds_170 (by decide) hP hD hS hf
    · have hf := pg_f h9 hf
      refine lv_iconst (v := (1 : Int32)) hx hb dX9_finds_165 (by decide) ?_
      refine lv_goto (tgt := 170) hx hb dX9_finds_166 (by decide) ?_
      exact RET _ _ _ _ _ _ _ _ _ _ _ _ dX9_finds_170 (by decide) hP hD hS hf
  obtain ⟨B2, hB2, hf⟩ := lq8_n hf
  have WL2 : ∀ (n9 : Nat) (y5_2 : Int32) (z_eaten_2 : Int32) (z_bestMinutes_2 : Int32) (z_bestOats_2 : Int32) (z_w_2 : Nat → Int32) (z_at_2 : Nat → Int32) (z_pulled_2 : Nat → Int32) (z_best_2 : Nat → Int32) (H : Heap) (locs : List Loc) (ls : Array Slot), va_P (dC, dI) vwCl (W_X9z cI cZ cII qz qz_text qz_t qz_draft qz_s qz_kept qz_isKept qz_times qz_w qz_at qz_pulled qz_best qz_cartRow qz_tryRow qz_pairs qz_from qz_then qz_tryAt z_thrown z_typed z_next z_token z_place z_value z_figures z_fault z_faultAt z_timeMany z_eaten_2 z_half z_bestMinutes_2 z_bestOats_2 z_isDue z_text z_t z_draft z_s z_kept z_isKept z_times z_w_2 z_at_2 z_pulled_2 z_best_2 z_cartRow z_tryRow z_pairs z_from z_then z_tryAt) H → va_D A (W_X9z cI cZ cII qz qz_text qz_t qz_draft qz_s qz_kept qz_isKept qz_times qz_w qz_at qz_pulled qz_best qz_cartRow qz_tryRow qz_pairs qz_from qz_then qz_tryAt z_thrown z_typed z_next z_token z_place z_value z_figures z_fault z_faultAt z_timeMany z_eaten_2 z_half z_bestMinutes_2 z_bestOats_2 z_isDue z_text z_t z_draft z_s z_kept z_isKept z_times z_w_2 z_at_2 z_pulled_2 z_best_2 z_cartRow z_tryRow z_pairs z_from z_then z_tryAt) → va_S A s.heap H locs → lv_has ls 10 [(0, .ref qz), (1, .int n1), (2, .int n2), (3, .int n3), (4, .int n4), (5, .int y5_2)] → lq8 B2 n9 y5_2 z_eaten_2 z_bestMinutes_2 z_bestOats_2 z_w_2 z_at_2 z_pulled_2 z_best_2 = some (rr, z_eaten', z_bestMinutes', z_bestOats', z_w', z_at', z_pulled', z_best') → W p l e rm_X9_finds s m args below meth c H locs 0 0 Q (F0 m 8 ls []) := by
    intro n9
    induction n9 with
    | zero => intro y5_2 z_eaten_2 z_bestMinutes_2 z_bestOats_2 z_w_2 z_at_2 z_pulled_2 z_best_2 H locs ls hP hD hS hl hf; cases hf
    | succ n9 ih =>
      intro y5_2 z_eaten_2 z_bestMinutes_2 z_bestOats_2 z_w_2 z_at_2 z_pulled_2 z_best_2 H locs ls hP hD hS hl hf
      obtain ⟨rec2, hrec2, hf⟩ := lq8_s hf
      have hf := hB2 rec2 _ _ _ _ _ _ _ _ hf
      refine lv_iload hx hb dX9_finds_8 (lv_at hl 5 rfl) ?_
      refine lv_sipush (v := (343 : Int32)) hx hb dX9_finds_10 (by decide) ?_
      refine lv_icmp_ge (tgt := 158) hx hb dX9_finds_13 (by decide) (fun h9 => ?_) (fun h9 => ?_)
      · have hf := pg_t h9 hf
        exact WK158_1 _ _ _ _ _ _ _ _ _ _ hP hD hS (lv_sub hl [0] rfl) hf
      · have hf := pg_f h9 hf
        refine lv_aload_n hx hb dX9_finds_16 rfl (lv_at hl 0 rfl) ?_
        refine lv_iload hx hb dX9_finds_17 (lv_at hl 5 rfl) ?_
        refine lv_iload_n hx hb dX9_finds_19 rfl (lv_at hl 3 rfl) ?_
        obtain ⟨r_3, z_at_3, hc, hf⟩ := bn2_s hf
        refine pg_cVi (As := [.int y5_2, .int n3]) (rest := []) (wf := (W_X9z cI cZ cII qz qz_text qz_t qz_draft qz_s qz_kept qz_isKept qz_times qz_w qz_at qz_pulled qz_best qz_cartRow qz_tryRow qz_pairs qz_from qz_then qz_tryAt z_thrown z_typed z_next z_token z_place z_value z_figures z_fault z_faultAt z_timeMany z_eaten_2 z_half z_bestMinutes_2 z_bestOats_2 z_isDue z_text z_t z_draft z_s z_kept z_isKept z_times z_w_2 z_at_3 z_pulled_2 z_best_2 z_cartRow z_tryRow z_pairs z_from z_then z_tryAt)) ⟨hx, hb, hml, hown, hw⟩ (c_X9_puts l dC dI cI cZ cII qz qz_text qz_t qz_draft qz_s qz_kept qz_isKept qz_times qz_w qz_at qz_pulled qz_best qz_cartRow qz_tryRow qz_pairs qz_from qz_then qz_tryAt H.size z_thrown z_typed z_next z_token z_place z_value z_figures z_fault z_faultAt z_timeMany z_eaten_2 z_half z_bestMinutes_2 z_bestOats_2 z_isDue z_text z_t z_draft z_s z_kept z_isKept z_times z_w_2 z_at_2 z_pulled_2 z_best_2 z_cartRow z_tryRow z_pairs z_from z_then z_tryAt y5_2 n3 r_3 z_at_3 hc) (cwV 2 hts (wM_V mw_36_0 mw_36_1 mw_36_2 mw_1_5 mw_36_3) rfl rfl rfl dk_X9_puts ⟨Nat.le_of_ble_eq_true rfl, Nat.le_of_ble_eq_true rfl⟩) hK hP hD hS hA 9 0 rfl rfl rfl [0, 1, 2, 3, 4, 5, 6, 7, 8, 9, 10, 11, 12, 13, 14, 15, 16, 17] [] [0, 1, 2, 3, 4, 5, 6, 7, 8, 9, 10, 11, 12, 13, 14, 15, 16, 17] (plC_64 cI cZ cII qz qz_text qz_t qz_draft qz_s qz_kept qz_isKept qz_times qz_w qz_at qz_pulled qz_best qz_cartRow qz_tryRow qz_pairs qz_from qz_then qz_tryAt z_thrown z_typed z_next z_token z_place z_value z_figures z_fault z_faultAt z_timeMany z_eaten_2 z_half z_bestMinutes_2 z_bestOats_2 z_isDue z_text z_t z_draft z_s z_kept z_isKept z_times z_w_2 z_at_2 z_pulled_2 z_best_2 z_cartRow z_tryRow z_pairs z_from z_then z_tryAt) rfl (plF_64 cI cZ cII qz qz_text qz_t qz_draft qz_s qz_kept qz_isKept qz_times qz_w qz_at qz_pulled qz_best qz_cartRow qz_tryRow qz_pairs qz_from qz_then qz_tryAt z_thrown z_typed z_next z_token z_place z_value z_figures z_fault z_faultAt z_timeMany z_eaten_2 z_half z_bestMinutes_2 z_bestOats_2 z_isDue z_text z_t z_draft z_s z_kept z_isKept z_times z_w_2 z_at_2 z_pulled_2 z_best_2 z_cartRow z_tryRow z_pairs z_from z_then z_tryAt z_thrown z_typed z_next z_token z_place z_value z_figures z_fault z_faultAt z_timeMany z_eaten_2 z_half z_bestMinutes_2 z_bestOats_2 z_isDue z_text z_t z_draft z_s z_kept z_isKept z_times z_w_2 z_at_3 z_pulled_2 z_best_2 z_cartRow z_tryRow z_pairs z_from z_then z_tryAt) (by decide) rfl hl.1 rfl (Nat.le_of_ble_eq_true rfl) dX9_finds_20 ⟨Nat.zero_le _, Nat.zero_le _⟩ (fun H locs hP hD hS => ?_)
        obtain ⟨J152_4, hJ152_4, hf⟩ := jn6_s hf
        have WJ152_4 : ∀ (z_eaten_4 : Int32) (z_bestMinutes_4 : Int32) (z_bestOats_4 : Int32) (z_w_4 : Nat → Int32) (z_pulled_4 : Nat → Int32) (z_best_4 : Nat → Int32) (H : Heap) (locs : List Loc) (ls : Array Slot), va_P (dC, dI) vwCl (W_X9z cI cZ cII qz qz_text qz_t qz_draft qz_s qz_kept qz_isKept qz_times qz_w qz_at qz_pulled qz_best qz_cartRow qz_tryRow qz_pairs qz_from qz_then qz_tryAt z_thrown z_typed z_next z_token z_place z_value z_figures z_fault z_faultAt z_timeMany z_eaten_4 z_half z_bestMinutes_4 z_bestOats_4 z_isDue z_text z_t z_draft z_s z_kept z_isKept z_times z_w_4 z_at_3 z_pulled_4 z_best_4 z_cartRow z_tryRow z_pairs z_from z_then z_tryAt) H → va_D A (W_X9z cI cZ cII qz qz_text qz_t qz_draft qz_s qz_kept qz_isKept qz_times qz_w qz_at qz_pulled qz_best qz_cartRow qz_tryRow qz_pairs qz_from qz_then qz_tryAt z_thrown z_typed z_next z_token z_place z_value z_figures z_fault z_faultAt z_timeMany z_eaten_4 z_half z_bestMinutes_4 z_bestOats_4 z_isDue z_text z_t z_draft z_s z_kept z_isKept z_times z_w_4 z_at_3 z_pulled_4 z_best_4 z_cartRow z_tryRow z_pairs z_from z_then z_tryAt) → va_S A s.heap H locs → lv_has ls 10 [(0, .ref qz), (1, .int n1), (2, .int n2), (3, .int n3), (4, .int n4), (5, .int y5_2)] → J152_4 z_eaten_4 z_bestMinutes_4 z_bestOats_4 z_w_4 z_pulled_4 z_best_4 = some (rr, z_eaten', z_bestMinutes', z_bestOats', z_w', z_at', z_pulled', z_best') → W p l e rm_X9_finds s m args below meth c H locs 0 0 Q (F0 m 152 ls []) := by
          intro z_eaten_4 z_bestMinutes_4 z_bestOats_4 z_w_4 z_pulled_4 z_best_4 H locs ls hP hD hS hl hf
          have hf := hJ152_4 _ _ _ _ _ _ hf
          refine lv_iinc (v := (y5_2 + (1 : Int32))) (lv' := [(5, .int (y5_2 + (1 : Int32))), (0, .ref qz), (1, .int n1), (2, .int n2), (3, .int n3), (4, .int n4)]) hx hb dX9_finds_152 hl (k := 5) rfl rfl (by decide) rfl (fun ls hl => ?_)
          refine lv_goto (tgt := 8) hx hb dX9_finds_155 (by decide) ?_
          exact ih _ _ _ _ _ _ _ _ _ _ _ hP hD hS (lv_sub hl [1, 2, 3, 4, 5, 0] rfl) (hrec2 _ _ _ _ _ _ _ _ hf)
        refine lv_if_eq (tgt := 152) hx hb dX9_finds_23 (by decide) (fun h9 => ?_) (fun h9 => ?_)
        · have hf := pg_t h9 hf
          exact WJ152_4 _ _ _ _ _ _ _ _ _ hP hD hS hl hf
        · have hf := pg_f h9 hf
          refine lv_aload_n hx hb dX9_finds_26 rfl (lv_at hl 0 rfl) ?_
          obtain ⟨z_w_5, hc, hf⟩ := bn1_s hf
          refine pg_cVv (As := []) (rest := []) (wf := (W_X9z cI cZ cII qz qz_text qz_t qz_draft qz_s qz_kept qz_isKept qz_times qz_w qz_at qz_pulled qz_best qz_cartRow qz_tryRow qz_pairs qz_from qz_then qz_tryAt z_thrown z_typed z_next z_token z_place z_value z_figures z_fault z_faultAt z_timeMany z_eaten_2 z_half z_bestMinutes_2 z_bestOats_2 z_isDue z_text z_t z_draft z_s z_kept z_isKept z_times z_w_5 z_at_3 z_pulled_2 z_best_2 z_cartRow z_tryRow z_pairs z_from z_then z_tryAt)) ⟨hx, hb, hml, hown, hw⟩ (c_X9_strong l dC dI cI cZ cII qz qz_text qz_t qz_draft qz_s qz_kept qz_isKept qz_times qz_w qz_at qz_pulled qz_best qz_cartRow qz_tryRow qz_pairs qz_from qz_then qz_tryAt H.size z_thrown z_typed z_next z_token z_place z_value z_figures z_fault z_faultAt z_timeMany z_eaten_2 z_half z_bestMinutes_2 z_bestOats_2 z_isDue z_text z_t z_draft z_s z_kept z_isKept z_times z_w_2 z_at_3 z_pulled_2 z_best_2 z_cartRow z_tryRow z_pairs z_from z_then z_tryAt  z_w_5 hc) (cwV 0 hts (wM_V mw_36_4 mw_36_5 mw_36_6 mw_1_5 mw_36_7) rfl rfl rfl dk_X9_strong ⟨Nat.le_of_ble_eq_true rfl, Nat.le_of_ble_eq_true rfl⟩) hK hP hD hS hA 9 0 rfl rfl rfl [0, 1, 2, 3, 4, 5, 6, 7, 8, 9, 10, 11, 12, 13, 14, 15, 16, 17] [] [0, 1, 2, 3, 4, 5, 6, 7, 8, 9, 10, 11, 12, 13, 14, 15, 16, 17] (plC_64 cI cZ cII qz qz_text qz_t qz_draft qz_s qz_kept qz_isKept qz_times qz_w qz_at qz_pulled qz_best qz_cartRow qz_tryRow qz_pairs qz_from qz_then qz_tryAt z_thrown z_typed z_next z_token z_place z_value z_figures z_fault z_faultAt z_timeMany z_eaten_2 z_half z_bestMinutes_2 z_bestOats_2 z_isDue z_text z_t z_draft z_s z_kept z_isKept z_times z_w_2 z_at_3 z_pulled_2 z_best_2 z_cartRow z_tryRow z_pairs z_from z_then z_tryAt) rfl (plF_64 cI cZ cII qz qz_text qz_t qz_draft qz_s qz_kept qz_isKept qz_times qz_w qz_at qz_pulled qz_best qz_cartRow qz_tryRow qz_pairs qz_from qz_then qz_tryAt z_thrown z_typed z_next z_token z_place z_value z_figures z_fault z_faultAt z_timeMany z_eaten_2 z_half z_bestMinutes_2 z_bestOats_2 z_isDue z_text z_t z_draft z_s z_kept z_isKept z_times z_w_2 z_at_3 z_pulled_2 z_best_2 z_cartRow z_tryRow z_pairs z_from z_then z_tryAt z_thrown z_typed z_next z_token z_place z_value z_figures z_fault z_faultAt z_timeMany z_eaten_2 z_half z_bestMinutes_2 z_bestOats_2 z_isDue z_text z_t z_draft z_s z_kept z_isKept z_times z_w_5 z_at_3 z_pulled_2 z_best_2 z_cartRow z_tryRow z_pairs z_from z_then z_tryAt) (by decide) rfl hl.1 rfl (Nat.le_of_ble_eq_true rfl) dX9_finds_27 ⟨Nat.zero_le _, Nat.zero_le _⟩ (fun H locs hP hD hS => ?_)
          refine lv_aload_n hx hb dX9_finds_30 rfl (lv_at hl 0 rfl) ?_
          refine lv_iload_n hx hb dX9_finds_31 rfl (lv_at hl 1 rfl) ?_
          refine lv_iload_n hx hb dX9_finds_32 rfl (lv_at hl 2 rfl) ?_
          obtain ⟨r_6, z_eaten_6, z_w_6, z_pulled_6, hc, hf⟩ := bn4_s hf
          refine pg_cVi (As := [.int n1, .int n2]) (rest := []) (wf := (W_X9z cI cZ cII qz qz_text qz_t qz_draft qz_s qz_kept qz_isKept qz_times qz_w qz_at qz_pulled qz_best qz_cartRow qz_tryRow qz_pairs qz_from qz_then qz_tryAt z_thrown z_typed z_next z_token z_place z_value z_figures z_fault z_faultAt z_timeMany z_eaten_6 z_half z_bestMinutes_2 z_bestOats_2 z_isDue z_text z_t z_draft z_s z_kept z_isKept z_times z_w_6 z_at_3 z_pulled_6 z_best_2 z_cartRow z_tryRow z_pairs z_from z_then z_tryAt)) ⟨hx, hb, hml, hown, hw⟩ (c_X9_crosses l dC dI cI cZ cII qz qz_text qz_t qz_draft qz_s qz_kept qz_isKept qz_times qz_w qz_at qz_pulled qz_best qz_cartRow qz_tryRow qz_pairs qz_from qz_then qz_tryAt H.size z_thrown z_typed z_next z_token z_place z_value z_figures z_fault z_faultAt z_timeMany z_eaten_2 z_half z_bestMinutes_2 z_bestOats_2 z_isDue z_text z_t z_draft z_s z_kept z_isKept z_times z_w_5 z_at_3 z_pulled_2 z_best_2 z_cartRow z_tryRow z_pairs z_from z_then z_tryAt n1 n2 r_6 z_eaten_6 z_w_6 z_pulled_6 hc) (cwV 2 hts (wM_V mw_31_1 mw_31_2 mw_31_3 mw_1_5 mw_31_4) rfl rfl rfl dk_X9_crosses ⟨Nat.le_of_ble_eq_true rfl, Nat.le_of_ble_eq_true rfl⟩) hK hP hD hS hA 9 0 rfl rfl rfl [0, 1, 2, 3, 4, 5, 6, 7, 8, 9, 10, 11, 12, 13, 14, 15, 16, 17] [] [0, 1, 2, 3, 4, 5, 6, 7, 8, 9, 10, 11, 12, 13, 14, 15, 16, 17] (plC_64 cI cZ cII qz qz_text qz_t qz_draft qz_s qz_kept qz_isKept qz_times qz_w qz_at qz_pulled qz_best qz_cartRow qz_tryRow qz_pairs qz_from qz_then qz_tryAt z_thrown z_typed z_next z_token z_place z_value z_figures z_fault z_faultAt z_timeMany z_eaten_2 z_half z_bestMinutes_2 z_bestOats_2 z_isDue z_text z_t z_draft z_s z_kept z_isKept z_times z_w_5 z_at_3 z_pulled_2 z_best_2 z_cartRow z_tryRow z_pairs z_from z_then z_tryAt) rfl (plF_64 cI cZ cII qz qz_text qz_t qz_draft qz_s qz_kept qz_isKept qz_times qz_w qz_at qz_pulled qz_best qz_cartRow qz_tryRow qz_pairs qz_from qz_then qz_tryAt z_thrown z_typed z_next z_token z_place z_value z_figures z_fault z_faultAt z_timeMany z_eaten_2 z_half z_bestMinutes_2 z_bestOats_2 z_isDue z_text z_t z_draft z_s z_kept z_isKept z_times z_w_5 z_at_3 z_pulled_2 z_best_2 z_cartRow z_tryRow z_pairs z_from z_then z_tryAt z_thrown z_typed z_next z_token z_place z_value z_figures z_fault z_faultAt z_timeMany z_eaten_6 z_half z_bestMinutes_2 z_bestOats_2 z_isDue z_text z_t z_draft z_s z_kept z_isKept z_times z_w_6 z_at_3 z_pulled_6 z_best_2 z_cartRow z_tryRow z_pairs z_from z_then z_tryAt) (by decide) rfl hl.1 rfl (Nat.le_of_ble_eq_true rfl) dX9_finds_33 ⟨Nat.zero_le _, Nat.zero_le _⟩ (fun H locs hP hD hS => ?_)
          refine lv_istore (lv' := [(6, .int r_6), (0, .ref qz), (1, .int n1), (2, .int n2), (3, .int n3), (4, .int n4), (5, .int y5_2)]) hx hb dX9_finds_36 hl (by decide) rfl (fun ls hl => ?_)
          refine lv_iload hx hb dX9_finds_38 (lv_at hl 0 rfl) ?_
          obtain ⟨J64_7, hJ64_7, hf⟩ := jn1_s hf
          have WJ64_7 : ∀ (z0_7 : Int32) (H : Heap) (locs : List Loc) (ls : Array Slot), va_P (dC, dI) vwCl (W_X9z cI cZ cII qz qz_text qz_t qz_draft qz_s qz_kept qz_isKept qz_times qz_w qz_at qz_pulled qz_best qz_cartRow qz_tryRow qz_pairs qz_from qz_then qz_tryAt z_thrown z_typed z_next z_token z_place z_value z_figures z_fault z_faultAt z_timeMany z_eaten_6 z_half z_bestMinutes_2 z_bestOats_2 z_isDue z_text z_t z_draft z_s z_kept z_isKept z_times z_w_6 z_at_3 z_pulled_6 z_best_2 z_cartRow z_tryRow z_pairs z_from z_then z_tryAt) H → va_D A (W_X9z cI cZ cII qz qz_text qz_t qz_draft qz_s qz_kept qz_isKept qz_times qz_w qz_at qz_pulled qz_best qz_cartRow qz_tryRow qz_pairs qz_from qz_then qz_tryAt z_thrown z_typed z_next z_token z_place z_value z_figures z_fault z_faultAt z_timeMany z_eaten_6 z_half z_bestMinutes_2 z_bestOats_2 z_isDue z_text z_t z_draft z_s z_kept z_isKept z_times z_w_6 z_at_3 z_pulled_6 z_best_2 z_cartRow z_tryRow z_pairs z_from z_then z_tryAt) → va_S A s.heap H locs → lv_has ls 10 [(0, .ref qz), (1, .int n1), (2, .int n2), (3, .int n3), (4, .int n4), (5, .int y5_2), (6, .int r_6)] → J64_7 z0_7 = some (rr, z_eaten', z_bestMinutes', z_bestOats', z_w', z_at', z_pulled', z_best') → W p l e rm_X9_finds s m args below meth c H locs 0 0 Q (F0 m 64 ls [.int z0_7]) := by
            intro z0_7 H locs ls hP hD hS hl hf
            have hf := hJ64_7 _ hf
            refine lv_istore (lv' := [(7, .int z0_7), (0, .ref qz), (1, .int n1), (2, .int n2), (3, .int n3), (4, .int n4), (5, .int y5_2), (6, .int r_6)]) hx hb dX9_finds_64 hl (by decide) rfl (fun ls hl => ?_)
            refine lv_iload hx hb dX9_finds_66 (lv_at hl 5 rfl) ?_
            obtain ⟨J90_8, hJ90_8, hf⟩ := jn1_s hf
            have WJ90_8 : ∀ (z0_8 : Int32) (H : Heap) (locs : List Loc) (ls : Array Slot), va_P (dC, dI) vwCl (W_X9z cI cZ cII qz qz_text qz_t qz_draft qz_s qz_kept qz_isKept qz_times qz_w qz_at qz_pulled qz_best qz_cartRow qz_tryRow qz_pairs qz_from qz_then qz_tryAt z_thrown z_typed z_next z_token z_place z_value z_figures z_fault z_faultAt z_timeMany z_eaten_6 z_half z_bestMinutes_2 z_bestOats_2 z_isDue z_text z_t z_draft z_s z_kept z_isKept z_times z_w_6 z_at_3 z_pulled_6 z_best_2 z_cartRow z_tryRow z_pairs z_from z_then z_tryAt) H → va_D A (W_X9z cI cZ cII qz qz_text qz_t qz_draft qz_s qz_kept qz_isKept qz_times qz_w qz_at qz_pulled qz_best qz_cartRow qz_tryRow qz_pairs qz_from qz_then qz_tryAt z_thrown z_typed z_next z_token z_place z_value z_figures z_fault z_faultAt z_timeMany z_eaten_6 z_half z_bestMinutes_2 z_bestOats_2 z_isDue z_text z_t z_draft z_s z_kept z_isKept z_times z_w_6 z_at_3 z_pulled_6 z_best_2 z_cartRow z_tryRow z_pairs z_from z_then z_tryAt) → va_S A s.heap H locs → lv_has ls 10 [(0, .ref qz), (1, .int n1), (2, .int n2), (3, .int n3), (4, .int n4), (5, .int y5_2), (6, .int r_6), (7, .int z0_7)] → J90_8 z0_8 = some (rr, z_eaten', z_bestMinutes', z_bestOats', z_w', z_at', z_pulled', z_best') → W p l e rm_X9_finds s m args below meth c H locs 0 0 Q (F0 m 90 ls [.int z0_8]) := by
              intro z0_8 H locs ls hP hD hS hl hf
              have hf := hJ90_8 _ hf
              refine lv_istore (lv' := [(8, .int z0_8), (0, .ref qz), (1, .int n1), (2, .int n2), (3, .int n3), (4, .int n4), (5, .int y5_2), (6, .int r_6), (7, .int z0_7)]) hx hb dX9_finds_90 hl (by decide) rfl (fun ls hl => ?_)
              refine lv_iload hx hb dX9_finds_92 (lv_at hl 5 rfl) ?_
              obtain ⟨J116_9, hJ116_9, hf⟩ := jn1_s hf
              have WJ116_9 : ∀ (z0_9 : Int32) (H : Heap) (locs : List Loc) (ls : Array Slot), va_P (dC, dI) vwCl (W_X9z cI cZ cII qz qz_text qz_t qz_draft qz_s qz_kept qz_isKept qz_times qz_w qz_at qz_pulled qz_best qz_cartRow qz_tryRow qz_pairs qz_from qz_then qz_tryAt z_thrown z_typed z_next z_token z_place z_value z_figures z_fault z_faultAt z_timeMany z_eaten_6 z_half z_bestMinutes_2 z_bestOats_2 z_isDue z_text z_t z_draft z_s z_kept z_isKept z_times z_w_6 z_at_3 z_pulled_6 z_best_2 z_cartRow z_tryRow z_pairs z_from z_then z_tryAt) H → va_D A (W_X9z cI cZ cII qz qz_text qz_t qz_draft qz_s qz_kept qz_isKept qz_times qz_w qz_at qz_pulled qz_best qz_cartRow qz_tryRow qz_pairs qz_from qz_then qz_tryAt z_thrown z_typed z_next z_token z_place z_value z_figures z_fault z_faultAt z_timeMany z_eaten_6 z_half z_bestMinutes_2 z_bestOats_2 z_isDue z_text z_t z_draft z_s z_kept z_isKept z_times z_w_6 z_at_3 z_pulled_6 z_best_2 z_cartRow z_tryRow z_pairs z_from z_then z_tryAt) → va_S A s.heap H locs → lv_has ls 10 [(0, .ref qz), (1, .int n1), (2, .int n2), (3, .int n3), (4, .int n4), (5, .int y5_2), (6, .int r_6), (7, .int z0_7), (8, .int z0_8)] → J116_9 z0_9 = some (rr, z_eaten', z_bestMinutes', z_bestOats', z_w', z_at', z_pulled', z_best') → W p l e rm_X9_finds s m args below meth c H locs 0 0 Q (F0 m 116 ls [.int z0_9]) := by
                intro z0_9 H locs ls hP hD hS hl hf
                have hf := hJ116_9 _ hf
                refine lv_istore (lv' := [(9, .int z0_9), (0, .ref qz), (1, .int n1), (2, .int n2), (3, .int n3), (4, .int n4), (5, .int y5_2), (6, .int r_6), (7, .int z0_7), (8, .int z0_8)]) hx hb dX9_finds_116 hl (by decide) rfl (fun ls hl => ?_)
                refine lv_iload hx hb dX9_finds_118 (lv_at hl 8 rfl) ?_
                refine lv_if_eq (tgt := 152) hx hb dX9_finds_120 (by decide) (fun h9 => ?_) (fun h9 => ?_)
                · have hf := pg_t h9 hf
                  exact WJ152_4 _ _ _ _ _ _ _ _ _ hP hD hS (lv_sub hl [1, 2, 3, 4, 5, 6] rfl) hf
                · have hf := pg_f h9 hf
                  refine lv_aload_n hx hb dX9_finds_123 rfl (lv_at hl 1 rfl) ?_
                  refine va_get (D := (dC, dI)) (ci := 9) (v := .int z_bestMinutes_2) (C := RX9) (T := TX9) (N := 32) hx hb hw inlX9 hown hK hP 0 rfl rfl 23 (by decide) (hw _ mw_35_10) (fun _ h9 => h9) rfl dX9_finds_124 ?_
                  obtain ⟨J145_10, hJ145_10, hf⟩ := jn1_s hf
                  have WJ145_10 : ∀ (u_10 : Unit) (H : Heap) (locs : List Loc) (ls : Array Slot), va_P (dC, dI) vwCl (W_X9z cI cZ cII qz qz_text qz_t qz_draft qz_s qz_kept qz_isKept qz_times qz_w qz_at qz_pulled qz_best qz_cartRow qz_tryRow qz_pairs qz_from qz_then qz_tryAt z_thrown z_typed z_next z_token z_place z_value z_figures z_fault z_faultAt z_timeMany z_eaten_6 z_half z_bestMinutes_2 z_bestOats_2 z_isDue z_text z_t z_draft z_s z_kept z_isKept z_times z_w_6 z_at_3 z_pulled_6 z_best_2 z_cartRow z_tryRow z_pairs z_from z_then z_tryAt) H → va_D A (W_X9z cI cZ cII qz qz_text qz_t qz_draft qz_s qz_kept qz_isKept qz_times qz_w qz_at qz_pulled qz_best qz_cartRow qz_tryRow qz_pairs qz_from qz_then qz_tryAt z_thrown z_typed z_next z_token z_place z_value z_figures z_fault z_faultAt z_timeMany z_eaten_6 z_half z_bestMinutes_2 z_bestOats_2 z_isDue z_text z_t z_draft z_s z_kept z_isKept z_times z_w_6 z_at_3 z_pulled_6 z_best_2 z_cartRow z_tryRow z_pairs z_from z_then z_tryAt) → va_S A s.heap H locs → lv_has ls 10 [(0, .ref qz), (1, .int n1), (2, .int n2), (3, .int n3), (4, .int n4), (5, .int y5_2), (6, .int r_6)] → J145_10 u_10 = some (rr, z_eaten', z_bestMinutes', z_bestOats', z_w', z_at', z_pulled', z_best') → W p l e rm_X9_finds s m args below meth c H locs 0 0 Q (F0 m 145 ls []) := by
                    intro u_10 H locs ls hP hD hS hl hf
                    have hf := hJ145_10 _ hf
                    refine lv_aload_n hx hb dX9_finds_145 rfl (lv_at hl 0 rfl) ?_
                    refine lv_iload hx hb dX9_finds_146 (lv_at hl 6 rfl) ?_
                    refine lv_iconst (v := (0 : Int32)) hx hb dX9_finds_148 (by decide) ?_
                    obtain ⟨z_bestMinutes_11, z_bestOats_11, z_best_11, hc, hf⟩ := bn3_s hf
                    refine pg_cVv (As := [.int r_6, .int (0 : Int32)]) (rest := []) (wf := (W_X9z cI cZ cII qz qz_text qz_t qz_draft qz_s qz_kept qz_isKept qz_times qz_w qz_at qz_pulled qz_best qz_cartRow qz_tryRow qz_pairs qz_from qz_then qz_tryAt z_thrown z_typed z_next z_token z_place z_value z_figures z_fault z_faultAt z_timeMany z_eaten_6 z_half z_bestMinutes_11 z_bestOats_11 z_isDue z_text z_t z_draft z_s z_kept z_isKept z_times z_w_6 z_at_3 z_pulled_6 z_best_11 z_cartRow z_tryRow z_pairs z_from z_then z_tryAt)) ⟨hx, hb, hml, hown, hw⟩ (c_X9_keepsBest l dC dI cI cZ cII qz qz_text qz_t qz_draft qz_s qz_kept qz_isKept qz_times qz_w qz_at qz_pulled qz_best qz_cartRow qz_tryRow qz_pairs qz_from qz_then qz_tryAt H.size z_thrown z_typed z_next z_token z_place z_value z_figures z_fault z_faultAt z_timeMany z_eaten_6 z_half z_bestMinutes_2 z_bestOats_2 z_isDue z_text z_t z_draft z_s z_kept z_isKept z_times z_w_6 z_at_3 z_pulled_6 z_best_2 z_cartRow z_tryRow z_pairs z_from z_then z_tryAt r_6 (0 : Int32) z_bestMinutes_11 z_bestOats_11 z_best_11 hc) (cwV 2 hts (wM_V mw_36_8 mw_36_9 mw_36_10 mw_1_5 mw_36_11) rfl rfl rfl dk_X9_keepsBest ⟨Nat.le_of_ble_eq_true rfl, Nat.le_of_ble_eq_true rfl⟩) hK hP hD hS hA 9 0 rfl rfl rfl [0, 1, 2, 3, 4, 5, 6, 7, 8, 9, 10, 11, 12, 13, 14, 15, 16, 17] [] [0, 1, 2, 3, 4, 5, 6, 7, 8, 9, 10, 11, 12, 13, 14, 15, 16, 17] (plC_64 cI cZ cII qz qz_text qz_t qz_draft qz_s qz_kept qz_isKept qz_times qz_w qz_at qz_pulled qz_best qz_cartRow qz_tryRow qz_pairs qz_from qz_then qz_tryAt z_thrown z_typed z_next z_token z_place z_value z_figures z_fault z_faultAt z_timeMany z_eaten_6 z_half z_bestMinutes_2 z_bestOats_2 z_isDue z_text z_t z_draft z_s z_kept z_isKept z_times z_w_6 z_at_3 z_pulled_6 z_best_2 z_cartRow z_tryRow z_pairs z_from z_then z_tryAt) rfl (plF_64 cI cZ cII qz qz_text qz_t qz_draft qz_s qz_kept qz_isKept qz_times qz_w qz_at qz_pulled qz_best qz_cartRow qz_tryRow qz_pairs qz_from qz_then qz_tryAt z_thrown z_typed z_next z_token z_place z_value z_figures z_fault z_faultAt z_timeMany z_eaten_6 z_half z_bestMinutes_2 z_bestOats_2 z_isDue z_text z_t z_draft z_s z_kept z_isKept z_times z_w_6 z_at_3 z_pulled_6 z_best_2 z_cartRow z_tryRow z_pairs z_from z_then z_tryAt z_thrown z_typed z_next z_token z_place z_value z_figures z_fault z_faultAt z_timeMany z_eaten_6 z_half z_bestMinutes_11 z_bestOats_11 z_isDue z_text z_t z_draft z_s z_kept z_isKept z_times z_w_6 z_at_3 z_pulled_6 z_best_11 z_cartRow z_tryRow z_pairs z_from z_then z_tryAt) (by decide) rfl hl.1 rfl (Nat.le_of_ble_eq_true rfl) dX9_finds_149 ⟨Nat.zero_le _, Nat.zero_le _⟩ (fun H locs hP hD hS => ?_)
                    exact WJ152_4 _ _ _ _ _ _ _ _ _ hP hD hS (lv_sub hl [0, 1, 2, 3, 4, 5] rfl) hf
                  refine lv_if_eq (tgt := 145) hx hb dX9_finds_127 (by decide) (fun h9 => ?_) (fun h9 => ?_)
                  · have hf := pg_t h9 hf
                    exact WJ145_10 _ _ _ _ hP hD hS (lv_sub hl [1, 2, 3, 4, 5, 6, 7] rfl) hf
                  · have hf := pg_f h9 hf
                    refine lv_iload hx hb dX9_finds_130 (lv_at hl 9 rfl) ?_
                    refine lv_if_lt (tgt := 145) hx hb dX9_finds_132 (by decide) (fun h9 => ?_) (fun h9 => ?_)
                    · have hf := pg_t h9 hf
                      exact WJ145_10 _ _ _ _ hP hD hS (lv_sub hl [1, 2, 3, 4, 5, 6, 7] rfl) hf
                    · have hf := pg_f h9 hf
                      refine lv_iload hx hb dX9_finds_135 (lv_at hl 9 rfl) ?_
                      refine lv_if_ne (tgt := 152) hx hb dX9_finds_137 (by decide) (fun h9 => ?_) (fun h9 => ?_)
                      · have hf := pg_f h9 hf
                        exact WJ152_4 _ _ _ _ _ _ _ _ _ hP hD hS (lv_sub hl [1, 2, 3, 4, 5, 6] rfl) hf
                      · have hf := pg_t h9 hf
                        refine lv_iload hx hb dX9_finds_140 (lv_at hl 0 rfl) ?_
                        refine lv_if_ge (tgt := 152) hx hb dX9_finds_142 (by decide) (fun h9 => ?_) (fun h9 => ?_)
                        · have hf := pg_t h9 hf
                          exact WJ152_4 _ _ _ _ _ _ _ _ _ hP hD hS (lv_sub hl [1, 2, 3, 4, 5, 6] rfl) hf
                        · have hf := pg_f h9 hf
                          exact WJ145_10 _ _ _ _ hP hD hS (lv_sub hl [1, 2, 3, 4, 5, 6, 7] rfl) hf
              refine lv_if_eq (tgt := 107) hx hb dX9_finds_94 (by decide) (fun h9 => ?_) (fun h9 => ?_)
              · have hf := pg_t h9 hf
                refine lv_aload_n hx hb dX9_finds_107 rfl (lv_at hl 1 rfl) ?_
                refine va_get (D := (dC, dI)) (ci := 9) (v := .int z_eaten_6) (C := RX9) (T := TX9) (N := 32) hx hb hw inlX9 hown hK hP 0 rfl rfl 20 (by decide) (hw _ mw_30_23) (fun _ h9 => h9) rfl dX9_finds_108 ?_
                refine lv_aload_n hx hb dX9_finds_111 rfl (lv_at hl 1 rfl) ?_
                refine va_get (D := (dC, dI)) (ci := 9) (v := .int z_bestOats_2) (C := RX9) (T := TX9) (N := 32) hx hb hw inlX9 hown hK hP 0 rfl rfl 24 (by decide) (hw _ mw_35_11) (fun _ h9 => h9) rfl dX9_finds_112 ?_
                refine lv_isub hx hb dX9_finds_115 ?_
                exact WJ116_9 _ _ _ _ hP hD hS (lv_sub hl [1, 2, 3, 4, 5, 6, 7, 8, 0] rfl) hf
              · have hf := pg_f h9 hf
                refine lv_iload hx hb dX9_finds_97 (lv_at hl 7 rfl) ?_
                refine lv_aload_n hx hb dX9_finds_99 rfl (lv_at hl 1 rfl) ?_
                refine va_get (D := (dC, dI)) (ci := 9) (v := .int z_bestMinutes_2) (C := RX9) (T := TX9) (N := 32) hx hb hw inlX9 hown hK hP 0 rfl rfl 23 (by decide) (hw _ mw_35_10) (fun _ h9 => h9) rfl dX9_finds_100 ?_
                refine lv_isub hx hb dX9_finds_103 ?_
                refine lv_goto (tgt := 116) hx hb dX9_finds_104 (by decide) ?_
                exact WJ116_9 _ _ _ _ hP hD hS (lv_sub hl [1, 2, 3, 4, 5, 6, 7, 8, 0] rfl) hf
            refine lv_if_eq (tgt := 83) hx hb dX9_finds_68 (by decide) (fun h9 => ?_) (fun h9 => ?_)
            · have hf := pg_t h9 hf
              refine lv_iload hx hb dX9_finds_83 (lv_at hl 7 rfl) ?_
              refine lv_aload_n hx hb dX9_finds_85 rfl (lv_at hl 1 rfl) ?_
              refine va_get (D := (dC, dI)) (ci := 9) (v := .int z_bestMinutes_2) (C := RX9) (T := TX9) (N := 32) hx hb hw inlX9 hown hK hP 0 rfl rfl 23 (by decide) (hw _ mw_35_10) (fun _ h9 => h9) rfl dX9_finds_86 ?_
              refine lv_isub hx hb dX9_finds_89 ?_
              exact WJ90_8 _ _ _ _ hP hD hS (lv_sub hl [1, 2, 3, 4, 5, 6, 7, 0] rfl) hf
            · have hf := pg_f h9 hf
              refine lv_aload_n hx hb dX9_finds_71 rfl (lv_at hl 1 rfl) ?_
              refine va_get (D := (dC, dI)) (ci := 9) (v := .int z_eaten_6) (C := RX9) (T := TX9) (N := 32) hx hb hw inlX9 hown hK hP 0 rfl rfl 20 (by decide) (hw _ mw_30_23) (fun _ h9 => h9) rfl dX9_finds_72 ?_
              refine lv_aload_n hx hb dX9_finds_75 rfl (lv_at hl 1 rfl) ?_
              refine va_get (D := (dC, dI)) (ci := 9) (v := .int z_bestOats_2) (C := RX9) (T := TX9) (N := 32) hx hb hw inlX9 hown hK hP 0 rfl rfl 24 (by decide) (hw _ mw_35_11) (fun _ h9 => h9) rfl dX9_finds_76 ?_
              refine lv_isub hx hb dX9_finds_79 ?_
              refine lv_goto (tgt := 90) hx hb dX9_finds_80 (by decide) ?_
              exact WJ90_8 _ _ _ _ hP hD hS (lv_sub hl [1, 2, 3, 4, 5, 6, 7, 0] rfl) hf
          obtain ⟨J63_12, hJ63_12, hf⟩ := jn1_s hf
          have WJ63_12 : ∀ (u_12 : Unit) (H : Heap) (locs : List Loc) (ls : Array Slot), va_P (dC, dI) vwCl (W_X9z cI cZ cII qz qz_text qz_t qz_draft qz_s qz_kept qz_isKept qz_times qz_w qz_at qz_pulled qz_best qz_cartRow qz_tryRow qz_pairs qz_from qz_then qz_tryAt z_thrown z_typed z_next z_token z_place z_value z_figures z_fault z_faultAt z_timeMany z_eaten_6 z_half z_bestMinutes_2 z_bestOats_2 z_isDue z_text z_t z_draft z_s z_kept z_isKept z_times z_w_6 z_at_3 z_pulled_6 z_best_2 z_cartRow z_tryRow z_pairs z_from z_then z_tryAt) H → va_D A (W_X9z cI cZ cII qz qz_text qz_t qz_draft qz_s qz_kept qz_isKept qz_times qz_w qz_at qz_pulled qz_best qz_cartRow qz_tryRow qz_pairs qz_from qz_then qz_tryAt z_thrown z_typed z_next z_token z_place z_value z_figures z_fault z_faultAt z_timeMany z_eaten_6 z_half z_bestMinutes_2 z_bestOats_2 z_isDue z_text z_t z_draft z_s z_kept z_isKept z_times z_w_6 z_at_3 z_pulled_6 z_best_2 z_cartRow z_tryRow z_pairs z_from z_then z_tryAt) → va_S A s.heap H locs → lv_has ls 10 [(0, .ref qz), (1, .int n1), (2, .int n2), (3, .int n3), (4, .int n4), (5, .int y5_2), (6, .int r_6)] → J63_12 u_12 = some (rr, z_eaten', z_bestMinutes', z_bestOats', z_w', z_at', z_pulled', z_best') → W p l e rm_X9_finds s m args below meth c H locs 0 0 Q (F0 m 63 ls []) := by
            intro u_12 H locs ls hP hD hS hl hf
            have hf := hJ63_12 _ hf
            refine lv_iconst (v := (0 : Int32)) hx hb dX9_finds_63 (by decide) ?_
            exact WJ64_7 _ _ _ _ hP hD hS hl hf
          refine lv_if_le (tgt := 63) hx hb dX9_finds_40 (by decide) (fun h9 => ?_) (fun h9 => ?_)
          · have hf := pg_t h9 hf
            exact WJ63_12 _ _ _ _ hP hD hS (lv_sub hl [1, 2, 3, 4, 5, 6, 0] rfl) hf
          · have hf := pg_f h9 hf
            refine lv_iload hx hb dX9_finds_43 (lv_at hl 5 rfl) ?_
            obtain ⟨J59_13, hJ59_13, hf⟩ := jn1_s hf
            have WJ59_13 : ∀ (u_13 : Unit) (H : Heap) (locs : List Loc) (ls : Array Slot), va_P (dC, dI) vwCl (W_X9z cI cZ cII qz qz_text qz_t qz_draft qz_s qz_kept qz_isKept qz_times qz_w qz_at qz_pulled qz_best qz_cartRow qz_tryRow qz_pairs qz_from qz_then qz_tryAt z_thrown z_typed z_next z_token z_place z_value z_figures z_fault z_faultAt z_timeMany z_eaten_6 z_half z_bestMinutes_2 z_bestOats_2 z_isDue z_text z_t z_draft z_s z_kept z_isKept z_times z_w_6 z_at_3 z_pulled_6 z_best_2 z_cartRow z_tryRow z_pairs z_from z_then z_tryAt) H → va_D A (W_X9z cI cZ cII qz qz_text qz_t qz_draft qz_s qz_kept qz_isKept qz_times qz_w qz_at qz_pulled qz_best qz_cartRow qz_tryRow qz_pairs qz_from qz_then qz_tryAt z_thrown z_typed z_next z_token z_place z_value z_figures z_fault z_faultAt z_timeMany z_eaten_6 z_half z_bestMinutes_2 z_bestOats_2 z_isDue z_text z_t z_draft z_s z_kept z_isKept z_times z_w_6 z_at_3 z_pulled_6 z_best_2 z_cartRow z_tryRow z_pairs z_from z_then z_tryAt) → va_S A s.heap H locs → lv_has ls 10 [(0, .ref qz), (1, .int n1), (2, .int n2), (3, .int n3), (4, .int n4), (5, .int y5_2), (6, .int r_6)] → J59_13 u_13 = some (rr, z_eaten', z_bestMinutes', z_bestOats', z_w', z_at', z_pulled', z_best') → W p l e rm_X9_finds s m args below meth c H locs 0 0 Q (F0 m 59 ls []) := by
              intro u_13 H locs ls hP hD hS hl hf
              have hf := hJ59_13 _ hf
              refine lv_iconst (v := (1 : Int32)) hx hb dX9_finds_59 (by decide) ?_
              refine lv_goto (tgt := 64) hx hb dX9_finds_60 (by decide) ?_
              exact WJ64_7 _ _ _ _ hP hD hS hl hf
            refine lv_if_eq (tgt := 59) hx hb dX9_finds_45 (by decide) (fun h9 => ?_) (fun h9 => ?_)
            · have hf := pg_t h9 hf
              exact WJ59_13 _ _ _ _ hP hD hS (lv_sub hl [1, 2, 3, 4, 5, 6, 0] rfl) hf
            · have hf := pg_f h9 hf
              refine lv_iload hx hb dX9_finds_48 (lv_at hl 0 rfl) ?_
              refine lv_aload_n hx hb dX9_finds_50 rfl (lv_at hl 1 rfl) ?_
              refine va_get (D := (dC, dI)) (ci := 9) (v := .ref qz_t) (C := RX9) (T := TX9) (N := 32) hx hb hw inlX9 hown hK hP 0 rfl rfl 10 (by decide) (hw _ mw_6_1) (fun _ h9 => h9) rfl dX9_finds_51 ?_
              refine lv_iconst (v := (5 : Int32)) hx hb dX9_finds_54 (by decide) ?_
              refine va_iald hx hb hK hP 2 0 rfl rfl (pg_lit (by decide)) dX9_finds_55 ?_
              refine lv_icmp_gt (tgt := 63) hx hb dX9_finds_56 (by decide) (fun h9 => ?_) (fun h9 => ?_)
              · have hf := pg_t h9 hf
                exact WJ63_12 _ _ _ _ hP hD hS (lv_sub hl [1, 2, 3, 4, 5, 6, 0] rfl) hf
              · have hf := pg_f h9 hf
                exact WJ59_13 _ _ _ _ hP hD hS (lv_sub hl [1, 2, 3, 4, 5, 6, 0] rfl) hf
  exact WL2 fu _ _ _ _ _ _ _ _ _ _ _ hP hD hS (lv_sub hl [1, 2, 3, 4, 5, 0] rfl) hf
def f_X9_soonest (n1 : Int32) (n2 : Int32) (z_thrown : Int32) (z_eaten : Int32) (z_half : Int32) (z_bestMinutes : Int32) (z_bestOats : Int32) (z_t : Nat → Int32) (z_s : Nat → Int32) (z_w : Nat → Int32) (z_at : Nat → Int32) (z_pulled : Nat → Int32) (z_best : Nat → Int32) (z_from : Nat → Int32) : Option (Int32 × Int32 × Int32 × Int32 × Int32 × (Nat → Int32) × (Nat → Int32) × (Nat → Int32) × (Nat → Int32) × (Nat → Int32)) :=
  bn1 (f_X9_isAsked n2 (-2 : Int32) z_t) (fun (r_1 : Int32) =>
    if r_1 = 0 then
      some ((-1000000001 : Int32), (0 : Int32), z_eaten, z_bestMinutes, z_bestOats, z_w, z_at, z_pulled, z_best, z_from)
    else
      bn1 (f_X9_in n1 (0 : Int32) (240 : Int32)) (fun (r_2 : Int32) =>
        if r_2 = 0 then
          some ((-1000000002 : Int32), (0 : Int32), z_eaten, z_bestMinutes, z_bestOats, z_w, z_at, z_pulled, z_best, z_from)
        else
          bn1 (f_X9_fromNow z_s z_from) (fun (z_from_3 : Nat → Int32) =>
            bn8 (f_X9_finds (z_s ((9 : Int32)).toNatClampNeg) n1 (-1 : Int32) (0 : Int32) z_eaten z_half z_bestMinutes z_bestOats z_t z_w z_at z_pulled z_best z_from_3) (fun (r_4 : Int32) (z_eaten_4 : Int32) (z_bestMinutes_4 : Int32) (z_bestOats_4 : Int32) (z_w_4 : Nat → Int32) (z_at_4 : Nat → Int32) (z_pulled_4 : Nat → Int32) (z_best_4 : Nat → Int32) =>
              if r_4 = 0 then
                some ((-1 : Int32), (0 : Int32), z_eaten_4, z_bestMinutes_4, z_bestOats_4, z_w_4, z_at_4, z_pulled_4, z_best_4, z_from_3)
              else
                if n2 = (-1 : Int32) then
                  some (z_bestMinutes_4, (0 : Int32), z_eaten_4, z_bestMinutes_4, z_bestOats_4, z_w_4, z_at_4, z_pulled_4, z_best_4, z_from_3)
                else
                  if 0 ≤ n2 then
                    if n2 < 0 ∨ 6 ≤ (n2).toNatClampNeg then none else
                    some ((z_best_4 (n2).toNatClampNeg), (0 : Int32), z_eaten_4, z_bestMinutes_4, z_bestOats_4, z_w_4, z_at_4, z_pulled_4, z_best_4, z_from_3)
                  else
                    some (z_bestOats_4, (0 : Int32), z_eaten_4, z_bestMinutes_4, z_bestOats_4, z_w_4, z_at_4, z_pulled_4, z_best_4, z_from_3)
            )
          )
      )
  )
abbrev rm_X9_soonest : Room := { frames := 6, cells := 0, slots := 0, locals := 145 }
theorem dk_X9_soonest : yX9_soonest.cls = RX9 ∧ yX9_soonest.cls ≠ "java/lang/invoke/MethodHandle" ∧ yX9_soonest.cls ≠ "java/lang/invoke/VarHandle" ∧ (parseMethodDescriptor yX9_soonest.desc).map (fun d => d.parameters.length) = some 2 := by decide +kernel
set_option maxHeartbeats 4000000 in
set_option maxRecDepth 100000 in
theorem c_X9_soonest (l : Launch) (dC : Nat → ClassId) (dI : Nat → Nat → Nat) (cI cZ cII : ClassId) (qz qz_text qz_t qz_draft qz_s qz_kept qz_isKept qz_times qz_w qz_at qz_pulled qz_best qz_cartRow qz_tryRow qz_pairs qz_from qz_then qz_tryAt : Nat) (sz : Nat) (z_thrown : Int32) (z_typed : Int32) (z_next : Int32) (z_token : Int32) (z_place : Int32) (z_value : Int32) (z_figures : Int32) (z_fault : Int32) (z_faultAt : Int32) (z_timeMany : Int32) (z_eaten : Int32) (z_half : Int32) (z_bestMinutes : Int32) (z_bestOats : Int32) (z_isDue : Int32) (z_text : Nat → Int32) (z_t : Nat → Int32) (z_draft : Nat → Int32) (z_s : Nat → Int32) (z_kept : Nat → Int32) (z_isKept : Nat → Int32) (z_times : Nat → Int32) (z_w : Nat → Int32) (z_at : Nat → Int32) (z_pulled : Nat → Int32) (z_best : Nat → Int32) (z_cartRow : Nat → Int32) (z_tryRow : Nat → Int32) (z_pairs : Nat → Int32) (z_from : Nat → Int32) (z_then : Nat → Int32) (z_tryAt : Nat → Int32) (n1 : Int32) (n2 : Int32) (rr : Int32) (z_thrown' : Int32) (z_eaten' : Int32) (z_bestMinutes' : Int32) (z_bestOats' : Int32) (z_w' : Nat → Int32) (z_at' : Nat → Int32) (z_pulled' : Nat → Int32) (z_best' : Nat → Int32) (z_from' : Nat → Int32) (hf : f_X9_soonest n1 n2 z_thrown z_eaten z_half z_bestMinutes z_bestOats z_t z_s z_w z_at z_pulled z_best z_from = some (rr, z_thrown', z_eaten', z_bestMinutes', z_bestOats', z_w', z_at', z_pulled', z_best', z_from')) : Met l yX9_soonest (wM yX9_soonest cX9_soonest 4 (some .int)) rm_X9_soonest (PreW (dC, dI) (tyA cI cZ cII) (W_X9z cI cZ cII qz qz_text qz_t qz_draft qz_s qz_kept qz_isKept qz_times qz_w qz_at qz_pulled qz_best qz_cartRow qz_tryRow qz_pairs qz_from qz_then qz_tryAt z_thrown z_typed z_next z_token z_place z_value z_figures z_fault z_faultAt z_timeMany z_eaten z_half z_bestMinutes z_bestOats z_isDue z_text z_t z_draft z_s z_kept z_isKept z_times z_w z_at z_pulled z_best z_cartRow z_tryRow z_pairs z_from z_then z_tryAt) sz [.ref qz, .int n1, .int n2]) (PostI (dC, dI) (tyA cI cZ cII) rr (W_X9z cI cZ cII qz qz_text qz_t qz_draft qz_s qz_kept qz_isKept qz_times qz_w qz_at qz_pulled qz_best qz_cartRow qz_tryRow qz_pairs qz_from qz_then qz_tryAt z_thrown z_typed z_next z_token z_place z_value z_figures z_fault z_faultAt z_timeMany z_eaten z_half z_bestMinutes z_bestOats z_isDue z_text z_t z_draft z_s z_kept z_isKept z_times z_w z_at z_pulled z_best z_cartRow z_tryRow z_pairs z_from z_then z_tryAt) (W_X9z cI cZ cII qz qz_text qz_t qz_draft qz_s qz_kept qz_isKept qz_times qz_w qz_at qz_pulled qz_best qz_cartRow qz_tryRow qz_pairs qz_from qz_then qz_tryAt z_thrown' z_typed z_next z_token z_place z_value z_figures z_fault z_faultAt z_timeMany z_eaten' z_half z_bestMinutes' z_bestOats' z_isDue z_text z_t z_draft z_s z_kept z_isKept z_times z_w' z_at' z_pulled' z_best' z_cartRow z_tryRow z_pairs z_from' z_then z_tryAt) sz) 0 0 (va_A (W_X9z cI cZ cII qz qz_text qz_t qz_draft qz_s qz_kept qz_isKept qz_times qz_w qz_at qz_pulled qz_best qz_cartRow qz_tryRow qz_pairs qz_from qz_then qz_tryAt z_thrown z_typed z_next z_token z_place z_value z_figures z_fault z_faultAt z_timeMany z_eaten z_half z_bestMinutes z_bestOats z_isDue z_text z_t z_draft z_s z_kept z_isKept z_times z_w z_at z_pulled z_best z_cartRow z_tryRow z_pairs z_from z_then z_tryAt) sz) := by
  refine Met.ofW (cc := cX9_soonest) (maxL := 4) (ret := (some .int)) (by decide) rfl ?_
  intro p e s m args below meth c s₁ B hml hv
  obtain ⟨rfl, hsz, hP, hK, hD0⟩ := hv
  have hx := B.exec
  have hb := B.bytes
  have hr := B.returns
  have hts := atoms_spec (ws := wM yX9_soonest cX9_soonest 4 (some .int)) B.pre
  have hown : s.vm.findClass RX9 = some m.cls := findClass_of_methodNamed B.named
  have hlocks := B.notSynchronized
  subst hsz
  have hD := hD0.self (sz := s.heap.size)
  obtain ⟨A, hAe⟩ : ∃ A, A = va_A (W_X9z cI cZ cII qz qz_text qz_t qz_draft qz_s qz_kept qz_isKept qz_times qz_w qz_at qz_pulled qz_best qz_cartRow qz_tryRow qz_pairs qz_from qz_then qz_tryAt z_thrown z_typed z_next z_token z_place z_value z_figures z_fault z_faultAt z_timeMany z_eaten z_half z_bestMinutes z_bestOats z_isDue z_text z_t z_draft z_s z_kept z_isKept z_times z_w z_at z_pulled z_best z_cartRow z_tryRow z_pairs z_from z_then z_tryAt) s.heap.size := ⟨_, rfl⟩
  rw [← hAe] at hD
  have hA : ∀ q : Nat, s.heap.size ≤ q → A q := fun q h => by rw [hAe]; exact Or.inr h
  have hS : va_S A s.heap s.heap [] := va_S.rf
  have hl := lv_entry ([.ref qz, .int n1, .int n2]) (n := 4) (Nat.le_of_ble_eq_true rfl)
  rw [lg_entry_eq]
  generalize (lg_sl ([.ref qz, .int n1, .int n2]) ++ List.replicate (4 - (lg_sl ([.ref qz, .int n1, .int n2])).length) Slot.unset).toArray = ls at hl ⊢
  have hl : lv_has ls 4 [(0, .ref qz), (1, .int n1), (2, .int n2)] := hl
  generalize ([.ref qz, .int n1, .int n2] : List Value).toArray = args at hts ⊢
  have hw : ∀ w ∈ wsL_law, w.before args s = true := fun w h => hts w (List.mem_cons_of_mem _ h)
  refine pg_start (fun Q hQ => ?_)
  have RET : ∀ (H : Heap) (locs : List Loc) (ls : Array Slot) (pc : Nat) (v : Int32) (x0 : Int32) (x1 : Int32) (x2 : Int32) (x3 : Int32) (x4 : Nat → Int32) (x5 : Nat → Int32) (x6 : Nat → Int32) (x7 : Nat → Int32) (x8 : Nat → Int32) , decode cX9_soonest pc = .ok (.ireturn, 1) → va_P (dC, dI) vwCl (W_X9z cI cZ cII qz qz_text qz_t qz_draft qz_s qz_kept qz_isKept qz_times qz_w qz_at qz_pulled qz_best qz_cartRow qz_tryRow qz_pairs qz_from qz_then qz_tryAt x0 z_typed z_next z_token z_place z_value z_figures z_fault z_faultAt z_timeMany x1 z_half x2 x3 z_isDue z_text z_t z_draft z_s z_kept z_isKept z_times x4 x5 x6 x7 z_cartRow z_tryRow z_pairs x8 z_then z_tryAt) H → va_D A (W_X9z cI cZ cII qz qz_text qz_t qz_draft qz_s qz_kept qz_isKept qz_times qz_w qz_at qz_pulled qz_best qz_cartRow qz_tryRow qz_pairs qz_from qz_then qz_tryAt x0 z_typed z_next z_token z_place z_value z_figures z_fault z_faultAt z_timeMany x1 z_half x2 x3 z_isDue z_text z_t z_draft z_s z_kept z_isKept z_times x4 x5 x6 x7 z_cartRow z_tryRow z_pairs x8 z_then z_tryAt) → va_S A s.heap H locs → (some (v, x0, x1, x2, x3, x4, x5, x6, x7, x8) : Option (Int32 × Int32 × Int32 × Int32 × Int32 × (Nat → Int32) × (Nat → Int32) × (Nat → Int32) × (Nat → Int32) × (Nat → Int32))) = some (rr, z_thrown', z_eaten', z_bestMinutes', z_bestOats', z_w', z_at', z_pulled', z_best', z_from') → W p l e rm_X9_soonest s m args below meth c H locs 0 0 Q (F0 m pc ls [.int v]) := by
    intro H locs ls pc v x0 x1 x2 x3 x4 x5 x6 x7 x8 hd hP hD hS he
    subst hAe; subst hQ
    simp only [Option.some.injEq, Prod.mk.injEq] at he
    obtain ⟨rfl, rfl, rfl, rfl, rfl, rfl, rfl, rfl, rfl, rfl⟩ := he
    exact pg_iret hx hb hr hlocks hK hP hD hS hd
  unfold f_X9_soonest at hf
  refine lv_aload_n hx hb dX9_soonest_0 rfl (lv_at hl 0 rfl) ?_
  refine lv_iconst (v := (0 : Int32)) hx hb dX9_soonest_1 (by decide) ?_
  refine va_put (D := (dC, dI)) (ci := 9) (v := .int (0 : Int32)) (ty := .int) (C := RX9) (T := TX9) (N := 32) hx hb hw inlX9 tyX9 tyX9_ok nmX9 hown hK hP hD hS 0 rfl rfl 0 (by decide) (hw _ mw_7_19) (fun _ h9 => h9) rfl (by decide +kernel) rfl rfl (Nat.le_of_ble_eq_true rfl) dX9_soonest_2 (fun H locs hP hD hS => ?_)
  have hP : va_P (dC, dI) vwCl (W_X9z cI cZ cII qz qz_text qz_t qz_draft qz_s qz_kept qz_isKept qz_times qz_w qz_at qz_pulled qz_best qz_cartRow qz_tryRow qz_pairs qz_from qz_then qz_tryAt (0 : Int32) z_typed z_next z_token z_place z_value z_figures z_fault z_faultAt z_timeMany z_eaten z_half z_bestMinutes z_bestOats z_isDue z_text z_t z_draft z_s z_kept z_isKept z_times z_w z_at z_pulled z_best z_cartRow z_tryRow z_pairs z_from z_then z_tryAt) H := hP
  have hD : va_D A (W_X9z cI cZ cII qz qz_text qz_t qz_draft qz_s qz_kept qz_isKept qz_times qz_w qz_at qz_pulled qz_best qz_cartRow qz_tryRow qz_pairs qz_from qz_then qz_tryAt (0 : Int32) z_typed z_next z_token z_place z_value z_figures z_fault z_faultAt z_timeMany z_eaten z_half z_bestMinutes z_bestOats z_isDue z_text z_t z_draft z_s z_kept z_isKept z_times z_w z_at z_pulled z_best z_cartRow z_tryRow z_pairs z_from z_then z_tryAt) := hD
  refine lv_aload_n hx hb dX9_soonest_5 rfl (lv_at hl 0 rfl) ?_
  refine lv_iload_n hx hb dX9_soonest_6 rfl (lv_at hl 2 rfl) ?_
  refine lv_bipush (v := (-2 : Int32)) hx hb dX9_soonest_7 (by decide) ?_
  obtain ⟨r_1, hc, hf⟩ := bn1_s hf
  refine pg_cVi (As := [.int n2, .int (-2 : Int32)]) (rest := []) (wf := (W_X9z cI cZ cII qz qz_text qz_t qz_draft qz_s qz_kept qz_isKept qz_times qz_w qz_at qz_pulled qz_best qz_cartRow qz_tryRow qz_pairs qz_from qz_then qz_tryAt (0 : Int32) z_typed z_next z_token z_place z_value z_figures z_fault z_faultAt z_timeMany z_eaten z_half z_bestMinutes z_bestOats z_isDue z_text z_t z_draft z_s z_kept z_isKept z_times z_w z_at z_pulled z_best z_cartRow z_tryRow z_pairs z_from z_then z_tryAt)) ⟨hx, hb, hml, hown, hw⟩ (c_X9_isAsked l dC dI cI cZ cII qz qz_text qz_t qz_draft qz_s qz_kept qz_isKept qz_times qz_w qz_at qz_pulled qz_best qz_cartRow qz_tryRow qz_pairs qz_from qz_then qz_tryAt H.size (0 : Int32) z_typed z_next z_token z_place z_value z_figures z_fault z_faultAt z_timeMany z_eaten z_half z_bestMinutes z_bestOats z_isDue z_text z_t z_draft z_s z_kept z_isKept z_times z_w z_at z_pulled z_best z_cartRow z_tryRow z_pairs z_from z_then z_tryAt n2 (-2 : Int32) r_1 hc) (cwV 2 hts (wM_V mw_35_12 mw_35_13 mw_35_14 mw_1_5 mw_35_15) rfl rfl rfl dk_X9_isAsked ⟨Nat.le_of_ble_eq_true rfl, Nat.le_of_ble_eq_true rfl⟩) hK hP hD hS hA 9 0 rfl rfl rfl [0, 1, 2, 3, 4, 5, 6, 7, 8, 9, 10, 11, 12, 13, 14, 15, 16, 17] [] [0, 1, 2, 3, 4, 5, 6, 7, 8, 9, 10, 11, 12, 13, 14, 15, 16, 17] (plC_64 cI cZ cII qz qz_text qz_t qz_draft qz_s qz_kept qz_isKept qz_times qz_w qz_at qz_pulled qz_best qz_cartRow qz_tryRow qz_pairs qz_from qz_then qz_tryAt (0 : Int32) z_typed z_next z_token z_place z_value z_figures z_fault z_faultAt z_timeMany z_eaten z_half z_bestMinutes z_bestOats z_isDue z_text z_t z_draft z_s z_kept z_isKept z_times z_w z_at z_pulled z_best z_cartRow z_tryRow z_pairs z_from z_then z_tryAt) rfl (plF_64 cI cZ cII qz qz_text qz_t qz_draft qz_s qz_kept qz_isKept qz_times qz_w qz_at qz_pulled qz_best qz_cartRow qz_tryRow qz_pairs qz_from qz_then qz_tryAt (0 : Int32) z_typed z_next z_token z_place z_value z_figures z_fault z_faultAt z_timeMany z_eaten z_half z_bestMinutes z_bestOats z_isDue z_text z_t z_draft z_s z_kept z_isKept z_times z_w z_at z_pulled z_best z_cartRow z_tryRow z_pairs z_from z_then z_tryAt (0 : Int32) z_typed z_next z_token z_place z_value z_figures z_fault z_faultAt z_timeMany z_eaten z_half z_bestMinutes z_bestOats z_isDue z_text z_t z_draft z_s z_kept z_isKept z_times z_w z_at z_pulled z_best z_cartRow z_tryRow z_pairs z_from z_then z_tryAt) (by decide) rfl hl.1 rfl (Nat.le_of_ble_eq_true rfl) dX9_soonest_9 ⟨Nat.zero_le _, Nat.zero_le _⟩ (fun H locs hP hD hS => ?_)
  refine lv_if_ne (tgt := 18) hx hb dX9_soonest_12 (by decide) (fun h9 => ?_) (fun h9 => ?_)
  · have hf := pg_f h9 hf
    refine lv_iload_n hx hb dX9_soonest_18 rfl (lv_at hl 1 rfl) ?_
    refine lv_iconst (v := (0 : Int32)) hx hb dX9_soonest_19 (by decide) ?_
    refine lv_sipush (v := (240 : Int32)) hx hb dX9_soonest_20 (by decide) ?_
    obtain ⟨r_2, hc, hf⟩ := bn1_s hf
    refine pg_cSi (As := [.int n1, .int (0 : Int32), .int (240 : Int32)]) (rest := []) (wf := (W_X9z cI cZ cII qz qz_text qz_t qz_draft qz_s qz_kept qz_isKept qz_times qz_w qz_at qz_pulled qz_best qz_cartRow qz_tryRow qz_pairs qz_from qz_then qz_tryAt (0 : Int32) z_typed z_next z_token z_place z_value z_figures z_fault z_faultAt z_timeMany z_eaten z_half z_bestMinutes z_bestOats z_isDue z_text z_t z_draft z_s z_kept z_isKept z_times z_w z_at z_pulled z_best z_cartRow z_tryRow z_pairs z_from z_then z_tryAt)) ⟨hx, hb, hml, hown, hw⟩ (c_X9_in l dC dI cI cZ cII  H.size  n1 (0 : Int32) (240 : Int32) r_2 hc) (va_cwS 3 hts (wM_S mw_8_0 mw_8_1 mw_1_5 mw_8_2) rfl rfl rfl dk_X9_in ⟨Nat.le_of_ble_eq_true rfl, Nat.le_of_ble_eq_true rfl⟩) hK hP hD hS hA [] [0, 1, 2, 3, 4, 5, 6, 7, 8, 9, 10, 11, 12, 13, 14, 15, 16, 17] [0, 1, 2, 3, 4, 5, 6, 7, 8, 9, 10, 11, 12, 13, 14, 15, 16, 17] (plC_62 cI cZ cII qz qz_text qz_t qz_draft qz_s qz_kept qz_isKept qz_times qz_w qz_at qz_pulled qz_best qz_cartRow qz_tryRow qz_pairs qz_from qz_then qz_tryAt (0 : Int32) z_typed z_next z_token z_place z_value z_figures z_fault z_faultAt z_timeMany z_eaten z_half z_bestMinutes z_bestOats z_isDue z_text z_t z_draft z_s z_kept z_isKept z_times z_w z_at z_pulled z_best z_cartRow z_tryRow z_pairs z_from z_then z_tryAt) rfl (plF_62 cI cZ cII qz qz_text qz_t qz_draft qz_s qz_kept qz_isKept qz_times qz_w qz_at qz_pulled qz_best qz_cartRow qz_tryRow qz_pairs qz_from qz_then qz_tryAt (0 : Int32) z_typed z_next z_token z_place z_value z_figures z_fault z_faultAt z_timeMany z_eaten z_half z_bestMinutes z_bestOats z_isDue z_text z_t z_draft z_s z_kept z_isKept z_times z_w z_at z_pulled z_best z_cartRow z_tryRow z_pairs z_from z_then z_tryAt ) (by decide) rfl hl.1 rfl (Nat.le_of_ble_eq_true rfl) dX9_soonest_23 ⟨Nat.zero_le _, Nat.zero_le _⟩ (fun H locs hP hD hS => ?_)
    refine lv_if_ne (tgt := 32) hx hb dX9_soonest_26 (by decide) (fun h9 => ?_) (fun h9 => ?_)
    · have hf := pg_f h9 hf
      refine lv_aload_n hx hb dX9_soonest_32 rfl (lv_at hl 0 rfl) ?_
      obtain ⟨z_from_3, hc, hf⟩ := bn1_s hf
      refine pg_cVv (As := []) (rest := []) (wf := (W_X9z cI cZ cII qz qz_text qz_t qz_draft qz_s qz_kept qz_isKept qz_times qz_w qz_at qz_pulled qz_best qz_cartRow qz_tryRow qz_pairs qz_from qz_then qz_tryAt (0 : Int32) z_typed z_next z_token z_place z_value z_figures z_fault z_faultAt z_timeMany z_eaten z_half z_bestMinutes z_bestOats z_isDue z_text z_t z_draft z_s z_kept z_isKept z_times z_w z_at z_pulled z_best z_cartRow z_tryRow z_pairs z_from_3 z_then z_tryAt)) ⟨hx, hb, hml, hown, hw⟩ (c_X9_fromNow l dC dI cI cZ cII qz qz_text qz_t qz_draft qz_s qz_kept qz_isKept qz_times qz_w qz_at qz_pulled qz_best qz_cartRow qz_tryRow qz_pairs qz_from qz_then qz_tryAt H.size (0 : Int32) z_typed z_next z_token z_place z_value z_figures z_fault z_faultAt z_timeMany z_eaten z_half z_bestMinutes z_bestOats z_isDue z_text z_t z_draft z_s z_kept z_isKept z_times z_w z_at z_pulled z_best z_cartRow z_tryRow z_pairs z_from z_then z_tryAt  z_from_3 hc) (cwV 0 hts (wM_V mw_35_16 mw_35_17 mw_35_18 mw_1_5 mw_35_19) rfl rfl rfl dk_X9_fromNow ⟨Nat.le_of_ble_eq_true rfl, Nat.le_of_ble_eq_true rfl⟩) hK hP hD hS hA 9 0 rfl rfl rfl [0, 1, 2, 3, 4, 5, 6, 7, 8, 9, 10, 11, 12, 13, 14, 15, 16, 17] [] [0, 1, 2, 3, 4, 5, 6, 7, 8, 9, 10, 11, 12, 13, 14, 15, 16, 17] (plC_64 cI cZ cII qz qz_text qz_t qz_draft qz_s qz_kept qz_isKept qz_times qz_w qz_at qz_pulled qz_best qz_cartRow qz_tryRow qz_pairs qz_from qz_then qz_tryAt (0 : Int32) z_typed z_next z_token z_place z_value z_figures z_fault z_faultAt z_timeMany z_eaten z_half z_bestMinutes z_bestOats z_isDue z_text z_t z_draft z_s z_kept z_isKept z_times z_w z_at z_pulled z_best z_cartRow z_tryRow z_pairs z_from z_then z_tryAt) rfl (plF_64 cI cZ cII qz qz_text qz_t qz_draft qz_s qz_kept qz_isKept qz_times qz_w qz_at qz_pulled qz_best qz_cartRow qz_tryRow qz_pairs qz_from qz_then qz_tryAt (0 : Int32) z_typed z_next z_token z_place z_value z_figures z_fault z_faultAt z_timeMany z_eaten z_half z_bestMinutes z_bestOats z_isDue z_text z_t z_draft z_s z_kept z_isKept z_times z_w z_at z_pulled z_best z_cartRow z_tryRow z_pairs z_from z_then z_tryAt (0 : Int32) z_typed z_next z_token z_place z_value z_figures z_fault z_faultAt z_timeMany z_eaten z_half z_bestMinutes z_bestOats z_isDue z_text z_t z_draft z_s z_kept z_isKept z_times z_w z_at z_pulled z_best z_cartRow z_tryRow z_pairs z_from_3 z_then z_tryAt) (by decide) rfl hl.1 rfl (Nat.le_of_ble_eq_true rfl) dX9_soonest_33 ⟨Nat.zero_le _, Nat.zero_le _⟩ (fun H locs hP hD hS => ?_)
      refine lv_aload_n hx hb dX9_soonest_36 rfl (lv_at hl 0 rfl) ?_
      refine lv_aload_n hx hb dX9_soonest_37 rfl (lv_at hl 0 rfl) ?_
      refine va_get (D := (dC, dI)) (ci := 9) (v := .ref qz_s) (C := RX9) (T := TX9) (N := 32) hx hb hw inlX9 hown hK hP 0 rfl rfl 12 (by decide) (hw _ mw_6_3) (fun _ h9 => h9) rfl dX9_soonest_38 ?_
      refine lv_bipush (v := (9 : Int32)) hx hb dX9_soonest_41 (by decide) ?_
      refine va_iald hx hb hK hP 4 0 rfl rfl (pg_lit (by decide)) dX9_soonest_43 ?_
      refine lv_iload_n hx hb dX9_soonest_44 rfl (lv_at hl 1 rfl) ?_
      refine lv_iconst (v := (-1 : Int32)) hx hb dX9_soonest_45 (by decide) ?_
      refine lv_iconst (v := (0 : Int32)) hx hb dX9_soonest_46 (by decide) ?_
      obtain ⟨r_4, z_eaten_4, z_bestMinutes_4, z_bestOats_4, z_w_4, z_at_4, z_pulled_4, z_best_4, hc, hf⟩ := bn8_s hf
      refine pg_cVi (As := [.int (z_s ((9 : Int32)).toNatClampNeg), .int n1, .int (-1 : Int32), .int (0 : Int32)]) (rest := []) (wf := (W_X9z cI cZ cII qz qz_text qz_t qz_draft qz_s qz_kept qz_isKept qz_times qz_w qz_at qz_pulled qz_best qz_cartRow qz_tryRow qz_pairs qz_from qz_then qz_tryAt (0 : Int32) z_typed z_next z_token z_place z_value z_figures z_fault z_faultAt z_timeMany z_eaten_4 z_half z_bestMinutes_4 z_bestOats_4 z_isDue z_text z_t z_draft z_s z_kept z_isKept z_times z_w_4 z_at_4 z_pulled_4 z_best_4 z_cartRow z_tryRow z_pairs z_from_3 z_then z_tryAt)) ⟨hx, hb, hml, hown, hw⟩ (c_X9_finds l dC dI cI cZ cII qz qz_text qz_t qz_draft qz_s qz_kept qz_isKept qz_times qz_w qz_at qz_pulled qz_best qz_cartRow qz_tryRow qz_pairs qz_from qz_then qz_tryAt H.size (0 : Int32) z_typed z_next z_token z_place z_value z_figures z_fault z_faultAt z_timeMany z_eaten z_half z_bestMinutes z_bestOats z_isDue z_text z_t z_draft z_s z_kept z_isKept z_times z_w z_at z_pulled z_best z_cartRow z_tryRow z_pairs z_from_3 z_then z_tryAt (z_s ((9 : Int32)).toNatClampNeg) n1 (-1 : Int32) (0 : Int32) r_4 z_eaten_4 z_bestMinutes_4 z_bestOats_4 z_w_4 z_at_4 z_pulled_4 z_best_4 hc) (cwV 4 hts (wM_V mw_35_20 mw_35_21 mw_35_22 mw_1_5 mw_35_23) rfl rfl rfl dk_X9_finds ⟨Nat.le_of_ble_eq_true rfl, Nat.le_of_ble_eq_true rfl⟩) hK hP hD hS hA 9 0 rfl rfl rfl [0, 1, 2, 3, 4, 5, 6, 7, 8, 9, 10, 11, 12, 13, 14, 15, 16, 17] [] [0, 1, 2, 3, 4, 5, 6, 7, 8, 9, 10, 11, 12, 13, 14, 15, 16, 17] (plC_64 cI cZ cII qz qz_text qz_t qz_draft qz_s qz_kept qz_isKept qz_times qz_w qz_at qz_pulled qz_best qz_cartRow qz_tryRow qz_pairs qz_from qz_then qz_tryAt (0 : Int32) z_typed z_next z_token z_place z_value z_figures z_fault z_faultAt z_timeMany z_eaten z_half z_bestMinutes z_bestOats z_isDue z_text z_t z_draft z_s z_kept z_isKept z_times z_w z_at z_pulled z_best z_cartRow z_tryRow z_pairs z_from_3 z_then z_tryAt) rfl (plF_64 cI cZ cII qz qz_text qz_t qz_draft qz_s qz_kept qz_isKept qz_times qz_w qz_at qz_pulled qz_best qz_cartRow qz_tryRow qz_pairs qz_from qz_then qz_tryAt (0 : Int32) z_typed z_next z_token z_place z_value z_figures z_fault z_faultAt z_timeMany z_eaten z_half z_bestMinutes z_bestOats z_isDue z_text z_t z_draft z_s z_kept z_isKept z_times z_w z_at z_pulled z_best z_cartRow z_tryRow z_pairs z_from_3 z_then z_tryAt (0 : Int32) z_typed z_next z_token z_place z_value z_figures z_fault z_faultAt z_timeMany z_eaten_4 z_half z_bestMinutes_4 z_bestOats_4 z_isDue z_text z_t z_draft z_s z_kept z_isKept z_times z_w_4 z_at_4 z_pulled_4 z_best_4 z_cartRow z_tryRow z_pairs z_from_3 z_then z_tryAt) (by decide) rfl hl.1 rfl (Nat.le_of_ble_eq_true rfl) dX9_soonest_47 ⟨Nat.zero_le _, Nat.zero_le _⟩ (fun H locs hP hD hS => ?_)
      refine lv_istore_n (lv' := [(3, .int r_4), (0, .ref qz), (1, .int n1), (2, .int n2)]) hx hb dX9_soonest_50 rfl hl (by decide) rfl (fun ls hl => ?_)
      refine lv_iload_n hx hb dX9_soonest_51 rfl (lv_at hl 0 rfl) ?_
      refine lv_if_ne (tgt := 59) hx hb dX9_soonest_52 (by decide) (fun h9 => ?_) (fun h9 => ?_)
      · have hf := pg_f h9 hf
        refine lv_iload_n hx hb dX9_soonest_59 rfl (lv_at hl 3 rfl) ?_
        refine lv_iconst (v := (-1 : Int32)) hx hb dX9_soonest_60 (by decide) ?_
        refine lv_icmp_ne (tgt := 71) hx hb dX9_soonest_61 (by decide) (fun h9 => ?_) (fun h9 => ?_)
        · have hf := pg_f h9 hf
          refine lv_iload_n hx hb dX9_soonest_71 rfl (lv_at hl 3 rfl) ?_
          refine lv_if_ge (tgt := 82) hx hb dX9_soonest_72 (by decide) (fun h9 => ?_) (fun h9 => ?_)
          · have hf := pg_t h9 hf
            refine lv_aload_n hx hb dX9_soonest_82 rfl (lv_at hl 1 rfl) ?_
            refine va_get (D := (dC, dI)) (ci := 9) (v := .ref qz_best) (C := RX9) (T := TX9) (N := 32) hx hb hw inlX9 hown hK hP 0 rfl rfl 22 (by decide) (hw _ mw_6_12) (fun _ h9 => h9) rfl dX9_soonest_83 ?_
            refine lv_iload_n hx hb dX9_soonest_86 rfl (lv_at hl 3 rfl) ?_
            obtain ⟨hi5, hf⟩ := pg_chk hf
            refine va_iald hx hb hK hP 11 0 rfl rfl hi5 dX9_soonest_87 ?_
            exact RET _ _ _ _ _ _ _ _ _ _ _ _ _ _ dX9_soonest_88 hP hD hS hf
          · have hf := pg_f h9 hf
            refine lv_aload_n hx hb dX9_soonest_75 rfl (lv_at hl 1 rfl) ?_
            refine va_get (D := (dC, dI)) (ci := 9) (v := .int z_bestOats_4) (C := RX9) (T := TX9) (N := 32) hx hb hw inlX9 hown hK hP 0 rfl rfl 24 (by decide) (hw _ mw_35_11) (fun _ h9 => h9) rfl dX9_soonest_76 ?_
            refine lv_goto (tgt := 88) hx hb dX9_soonest_79 (by decide) ?_
            exact RET _ _ _ _ _ _ _ _ _ _ _ _ _ _ dX9_soonest_88 hP hD hS hf
        · have hf := pg_t h9 hf
          refine lv_aload_n hx hb dX9_soonest_64 rfl (lv_at hl 1 rfl) ?_
          refine va_get (D := (dC, dI)) (ci := 9) (v := .int z_bestMinutes_4) (C := RX9) (T := TX9) (N := 32) hx hb hw inlX9 hown hK hP 0 rfl rfl 23 (by decide) (hw _ mw_35_10) (fun _ h9 => h9) rfl dX9_soonest_65 ?_
          refine lv_goto (tgt := 88) hx hb dX9_soonest_68 (by decide) ?_
          exact RET _ _ _ _ _ _ _ _ _ _ _ _ _ _ dX9_soonest_88 hP hD hS hf
      · have hf := pg_t h9 hf
        refine lv_iconst (v := (-1 : Int32)) hx hb dX9_soonest_55 (by decide) ?_
        refine lv_goto (tgt := 88) hx hb dX9_soonest_56 (by decide) ?_
        exact RET _ _ _ _ _ _ _ _ _ _ _ _ _ _ dX9_soonest_88 hP hD hS hf
    · have hf := pg_t h9 hf
      refine lv_ldc (v := (-1000000002 : Int32)) hx hb hown (hw _ mw_7_20) dX9_soonest_29 ?_
      exact RET _ _ _ _ _ _ _ _ _ _ _ _ _ _ dX9_soonest_31 hP hD hS hf
  · have hf := pg_t h9 hf
    refine lv_ldc (v := (-1000000001 : Int32)) hx hb hown (hw _ mw_25_12) dX9_soonest_15 ?_
    exact RET _ _ _ _ _ _ _ _ _ _ _ _ _ _ dX9_soonest_17 hP hD hS hf
def f_X9_cheapest (n1 : Int32) (n2 : Int32) (z_thrown : Int32) (z_eaten : Int32) (z_half : Int32) (z_bestMinutes : Int32) (z_bestOats : Int32) (z_t : Nat → Int32) (z_s : Nat → Int32) (z_w : Nat → Int32) (z_at : Nat → Int32) (z_pulled : Nat → Int32) (z_best : Nat → Int32) (z_from : Nat → Int32) : Option (Int32 × Int32 × Int32 × Int32 × Int32 × (Nat → Int32) × (Nat → Int32) × (Nat → Int32) × (Nat → Int32) × (Nat → Int32)) :=
  bn1 (f_X9_isAsked n2 (-2 : Int32) z_t) (fun (r_1 : Int32) =>
    if r_1 = 0 then
      some ((-1000000001 : Int32), (0 : Int32), z_eaten, z_bestMinutes, z_bestOats, z_w, z_at, z_pulled, z_best, z_from)
    else
      bn1 (f_X9_in n1 (0 : Int32) (240 : Int32)) (fun (r_2 : Int32) =>
        if r_2 = 0 then
          some ((-1000000002 : Int32), (0 : Int32), z_eaten, z_bestMinutes, z_bestOats, z_w, z_at, z_pulled, z_best, z_from)
        else
          bn1 (f_X9_fromNow z_s z_from) (fun (z_from_3 : Nat → Int32) =>
            bn8 (f_X9_finds (z_s ((9 : Int32)).toNatClampNeg) n1 (-1 : Int32) (1 : Int32) z_eaten z_half z_bestMinutes z_bestOats z_t z_w z_at z_pulled z_best z_from_3) (fun (r_4 : Int32) (z_eaten_4 : Int32) (z_bestMinutes_4 : Int32) (z_bestOats_4 : Int32) (z_w_4 : Nat → Int32) (z_at_4 : Nat → Int32) (z_pulled_4 : Nat → Int32) (z_best_4 : Nat → Int32) =>
              if r_4 = 0 then
                some ((-1 : Int32), (0 : Int32), z_eaten_4, z_bestMinutes_4, z_bestOats_4, z_w_4, z_at_4, z_pulled_4, z_best_4, z_from_3)
              else
                if n2 = (-1 : Int32) then
                  some (z_bestOats_4, (0 : Int32), z_eaten_4, z_bestMinutes_4, z_bestOats_4, z_w_4, z_at_4, z_pulled_4, z_best_4, z_from_3)
                else
                  if 0 ≤ n2 then
                    if n2 < 0 ∨ 6 ≤ (n2).toNatClampNeg then none else
                    some ((z_best_4 (n2).toNatClampNeg), (0 : Int32), z_eaten_4, z_bestMinutes_4, z_bestOats_4, z_w_4, z_at_4, z_pulled_4, z_best_4, z_from_3)
                  else
                    some (z_bestMinutes_4, (0 : Int32), z_eaten_4, z_bestMinutes_4, z_bestOats_4, z_w_4, z_at_4, z_pulled_4, z_best_4, z_from_3)
            )
          )
      )
  )
abbrev rm_X9_cheapest : Room := { frames := 6, cells := 0, slots := 0, locals := 145 }
theorem dk_X9_cheapest : yX9_cheapest.cls = RX9 ∧ yX9_cheapest.cls ≠ "java/lang/invoke/MethodHandle" ∧ yX9_cheapest.cls ≠ "java/lang/invoke/VarHandle" ∧ (parseMethodDescriptor yX9_cheapest.desc).map (fun d => d.parameters.length) = some 2 := by decide +kernel
set_option maxHeartbeats 4000000 in
set_option maxRecDepth 100000 in
theorem c_X9_cheapest (l : Launch) (dC : Nat → ClassId) (dI : Nat → Nat → Nat) (cI cZ cII : ClassId) (qz qz_text qz_t qz_draft qz_s qz_kept qz_isKept qz_times qz_w qz_at qz_pulled qz_best qz_cartRow qz_tryRow qz_pairs qz_from qz_then qz_tryAt : Nat) (sz : Nat) (z_thrown : Int32) (z_typed : Int32) (z_next : Int32) (z_token : Int32) (z_place : Int32) (z_value : Int32) (z_figures : Int32) (z_fault : Int32) (z_faultAt : Int32) (z_timeMany : Int32) (z_eaten : Int32) (z_half : Int32) (z_bestMinutes : Int32) (z_bestOats : Int32) (z_isDue : Int32) (z_text : Nat → Int32) (z_t : Nat → Int32) (z_draft : Nat → Int32) (z_s : Nat → Int32) (z_kept : Nat → Int32) (z_isKept : Nat → Int32) (z_times : Nat → Int32) (z_w : Nat → Int32) (z_at : Nat → Int32) (z_pulled : Nat → Int32) (z_best : Nat → Int32) (z_cartRow : Nat → Int32) (z_tryRow : Nat → Int32) (z_pairs : Nat → Int32) (z_from : Nat → Int32) (z_then : Nat → Int32) (z_tryAt : Nat → Int32) (n1 : Int32) (n2 : Int32) (rr : Int32) (z_thrown' : Int32) (z_eaten' : Int32) (z_bestMinutes' : Int32) (z_bestOats' : Int32) (z_w' : Nat → Int32) (z_at' : Nat → Int32) (z_pulled' : Nat → Int32) (z_best' : Nat → Int32) (z_from' : Nat → Int32) (hf : f_X9_cheapest n1 n2 z_thrown z_eaten z_half z_bestMinutes z_bestOats z_t z_s z_w z_at z_pulled z_best z_from = some (rr, z_thrown', z_eaten', z_bestMinutes', z_bestOats', z_w', z_at', z_pulled', z_best', z_from')) : Met l yX9_cheapest (wM yX9_cheapest cX9_cheapest 4 (some .int)) rm_X9_cheapest (PreW (dC, dI) (tyA cI cZ cII) (W_X9z cI cZ cII qz qz_text qz_t qz_draft qz_s qz_kept qz_isKept qz_times qz_w qz_at qz_pulled qz_best qz_cartRow qz_tryRow qz_pairs qz_from qz_then qz_tryAt z_thrown z_typed z_next z_token z_place z_value z_figures z_fault z_faultAt z_timeMany z_eaten z_half z_bestMinutes z_bestOats z_isDue z_text z_t z_draft z_s z_kept z_isKept z_times z_w z_at z_pulled z_best z_cartRow z_tryRow z_pairs z_from z_then z_tryAt) sz [.ref qz, .int n1, .int n2]) (PostI (dC, dI) (tyA cI cZ cII) rr (W_X9z cI cZ cII qz qz_text qz_t qz_draft qz_s qz_kept qz_isKept qz_times qz_w qz_at qz_pulled qz_best qz_cartRow qz_tryRow qz_pairs qz_from qz_then qz_tryAt z_thrown z_typed z_next z_token z_place z_value z_figures z_fault z_faultAt z_timeMany z_eaten z_half z_bestMinutes z_bestOats z_isDue z_text z_t z_draft z_s z_kept z_isKept z_times z_w z_at z_pulled z_best z_cartRow z_tryRow z_pairs z_from z_then z_tryAt) (W_X9z cI cZ cII qz qz_text qz_t qz_draft qz_s qz_kept qz_isKept qz_times qz_w qz_at qz_pulled qz_best qz_cartRow qz_tryRow qz_pairs qz_from qz_then qz_tryAt z_thrown' z_typed z_next z_token z_place z_value z_figures z_fault z_faultAt z_timeMany z_eaten' z_half z_bestMinutes' z_bestOats' z_isDue z_text z_t z_draft z_s z_kept z_isKept z_times z_w' z_at' z_pulled' z_best' z_cartRow z_tryRow z_pairs z_from' z_then z_tryAt) sz) 0 0 (va_A (W_X9z cI cZ cII qz qz_text qz_t qz_draft qz_s qz_kept qz_isKept qz_times qz_w qz_at qz_pulled qz_best qz_cartRow qz_tryRow qz_pairs qz_from qz_then qz_tryAt z_thrown z_typed z_next z_token z_place z_value z_figures z_fault z_faultAt z_timeMany z_eaten z_half z_bestMinutes z_bestOats z_isDue z_text z_t z_draft z_s z_kept z_isKept z_times z_w z_at z_pulled z_best z_cartRow z_tryRow z_pairs z_from z_then z_tryAt) sz) := by
  refine Met.ofW (cc := cX9_cheapest) (maxL := 4) (ret := (some .int)) (by decide) rfl ?_
  intro p e s m args below meth c s₁ B hml hv
  obtain ⟨rfl, hsz, hP, hK, hD0⟩ := hv
  have hx := B.exec
  have hb := B.bytes
  have hr := B.returns
  have hts := atoms_spec (ws := wM yX9_cheapest cX9_cheapest 4 (some .int)) B.pre
  have hown : s.vm.findClass RX9 = some m.cls := findClass_of_methodNamed B.named
  have hlocks := B.notSynchronized
  subst hsz
  have hD := hD0.self (sz := s.heap.size)
  obtain ⟨A, hAe⟩ : ∃ A, A = va_A (W_X9z cI cZ cII qz qz_text qz_t qz_draft qz_s qz_kept qz_isKept qz_times qz_w qz_at qz_pulled qz_best qz_cartRow qz_tryRow qz_pairs qz_from qz_then qz_tryAt z_thrown z_typed z_next z_token z_place z_value z_figures z_fault z_faultAt z_timeMany z_eaten z_half z_bestMinutes z_bestOats z_isDue z_text z_t z_draft z_s z_kept z_isKept z_times z_w z_at z_pulled z_best z_cartRow z_tryRow z_pairs z_from z_then z_tryAt) s.heap.size := ⟨_, rfl⟩
  rw [← hAe] at hD
  have hA : ∀ q : Nat, s.heap.size ≤ q → A q := fun q h => by rw [hAe]; exact Or.inr h
  have hS : va_S A s.heap s.heap [] := va_S.rf
  have hl := lv_entry ([.ref qz, .int n1, .int n2]) (n := 4) (Nat.le_of_ble_eq_true rfl)
  rw [lg_entry_eq]
  generalize (lg_sl ([.ref qz, .int n1, .int n2]) ++ List.replicate (4 - (lg_sl ([.ref qz, .int n1, .int n2])).length) Slot.unset).toArray = ls at hl ⊢
  have hl : lv_has ls 4 [(0, .ref qz), (1, .int n1), (2, .int n2)] := hl
  generalize ([.ref qz, .int n1, .int n2] : List Value).toArray = args at hts ⊢
  have hw : ∀ w ∈ wsL_law, w.before args s = true := fun w h => hts w (List.mem_cons_of_mem _ h)
  refine pg_start (fun Q hQ => ?_)
  have RET : ∀ (H : Heap) (locs : List Loc) (ls : Array Slot) (pc : Nat) (v : Int32) (x0 : Int32) (x1 : Int32) (x2 : Int32) (x3 : Int32) (x4 : Nat → Int32) (x5 : Nat → Int32) (x6 : Nat → Int32) (x7 : Nat → Int32) (x8 : Nat → Int32) , decode cX9_cheapest pc = .ok (.ireturn, 1) → va_P (dC, dI) vwCl (W_X9z cI cZ cII qz qz_text qz_t qz_draft qz_s qz_kept qz_isKept qz_times qz_w qz_at qz_pulled qz_best qz_cartRow qz_tryRow qz_pairs qz_from qz_then qz_tryAt x0 z_typed z_next z_token z_place z_value z_figures z_fault z_faultAt z_timeMany x1 z_half x2 x3 z_isDue z_text z_t z_draft z_s z_kept z_isKept z_times x4 x5 x6 x7 z_cartRow z_tryRow z_pairs x8 z_then z_tryAt) H → va_D A (W_X9z cI cZ cII qz qz_text qz_t qz_draft qz_s qz_kept qz_isKept qz_times qz_w qz_at qz_pulled qz_best qz_cartRow qz_tryRow qz_pairs qz_from qz_then qz_tryAt x0 z_typed z_next z_token z_place z_value z_figures z_fault z_faultAt z_timeMany x1 z_half x2 x3 z_isDue z_text z_t z_draft z_s z_kept z_isKept z_times x4 x5 x6 x7 z_cartRow z_tryRow z_pairs x8 z_then z_tryAt) → va_S A s.heap H locs → (some (v, x0, x1, x2, x3, x4, x5, x6, x7, x8) : Option (Int32 × Int32 × Int32 × Int32 × Int32 × (Nat → Int32) × (Nat → Int32) × (Nat → Int32) × (Nat → Int32) × (Nat → Int32))) = some (rr, z_thrown', z_eaten', z_bestMinutes', z_bestOats', z_w', z_at', z_pulled', z_best', z_from') → W p l e rm_X9_cheapest s m args below meth c H locs 0 0 Q (F0 m pc ls [.int v]) := by
    intro H locs ls pc v x0 x1 x2 x3 x4 x5 x6 x7 x8 hd hP hD hS he
    subst hAe; subst hQ
    simp only [Option.some.injEq, Prod.mk.injEq] at he
    obtain ⟨rfl, rfl, rfl, rfl, rfl, rfl, rfl, rfl, rfl, rfl⟩ := he
    exact pg_iret hx hb hr hlocks hK hP hD hS hd
  unfold f_X9_cheapest at hf
  refine lv_aload_n hx hb dX9_cheapest_0 rfl (lv_at hl 0 rfl) ?_
  refine lv_iconst (v := (0 : Int32)) hx hb dX9_cheapest_1 (by decide) ?_
  refine va_put (D := (dC, dI)) (ci := 9) (v := .int (0 : Int32)) (ty := .int) (C := RX9) (T := TX9) (N := 32) hx hb hw inlX9 tyX9 tyX9_ok nmX9 hown hK hP hD hS 0 rfl rfl 0 (by decide) (hw _ mw_7_19) (fun _ h9 => h9) rfl (by decide +kernel) rfl rfl (Nat.le_of_ble_eq_true rfl) dX9_cheapest_2 (fun H locs hP hD hS => ?_)
  have hP : va_P (dC, dI) vwCl (W_X9z cI cZ cII qz qz_text qz_t qz_draft qz_s qz_kept qz_isKept qz_times qz_w qz_at qz_pulled qz_best qz_cartRow qz_tryRow qz_pairs qz_from qz_then qz_tryAt (0 : Int32) z_typed z_next z_token z_place z_value z_figures z_fault z_faultAt z_timeMany z_eaten z_half z_bestMinutes z_bestOats z_isDue z_text z_t z_draft z_s z_kept z_isKept z_times z_w z_at z_pulled z_best z_cartRow z_tryRow z_pairs z_from z_then z_tryAt) H := hP
  have hD : va_D A (W_X9z cI cZ cII qz qz_text qz_t qz_draft qz_s qz_kept qz_isKept qz_times qz_w qz_at qz_pulled qz_best qz_cartRow qz_tryRow qz_pairs qz_from qz_then qz_tryAt (0 : Int32) z_typed z_next z_token z_place z_value z_figures z_fault z_faultAt z_timeMany z_eaten z_half z_bestMinutes z_bestOats z_isDue z_text z_t z_draft z_s z_kept z_isKept z_times z_w z_at z_pulled z_best z_cartRow z_tryRow z_pairs z_from z_then z_tryAt) := hD
  refine lv_aload_n hx hb dX9_cheapest_5 rfl (lv_at hl 0 rfl) ?_
  refine lv_iload_n hx hb dX9_cheapest_6 rfl (lv_at hl 2 rfl) ?_
  refine lv_bipush (v := (-2 : Int32)) hx hb dX9_cheapest_7 (by decide) ?_
  obtain ⟨r_1, hc, hf⟩ := bn1_s hf
  refine pg_cVi (As := [.int n2, .int (-2 : Int32)]) (rest := []) (wf := (W_X9z cI cZ cII qz qz_text qz_t qz_draft qz_s qz_kept qz_isKept qz_times qz_w qz_at qz_pulled qz_best qz_cartRow qz_tryRow qz_pairs qz_from qz_then qz_tryAt (0 : Int32) z_typed z_next z_token z_place z_value z_figures z_fault z_faultAt z_timeMany z_eaten z_half z_bestMinutes z_bestOats z_isDue z_text z_t z_draft z_s z_kept z_isKept z_times z_w z_at z_pulled z_best z_cartRow z_tryRow z_pairs z_from z_then z_tryAt)) ⟨hx, hb, hml, hown, hw⟩ (c_X9_isAsked l dC dI cI cZ cII qz qz_text qz_t qz_draft qz_s qz_kept qz_isKept qz_times qz_w qz_at qz_pulled qz_best qz_cartRow qz_tryRow qz_pairs qz_from qz_then qz_tryAt H.size (0 : Int32) z_typed z_next z_token z_place z_value z_figures z_fault z_faultAt z_timeMany z_eaten z_half z_bestMinutes z_bestOats z_isDue z_text z_t z_draft z_s z_kept z_isKept z_times z_w z_at z_pulled z_best z_cartRow z_tryRow z_pairs z_from z_then z_tryAt n2 (-2 : Int32) r_1 hc) (cwV 2 hts (wM_V mw_35_12 mw_35_13 mw_35_14 mw_1_5 mw_35_15) rfl rfl rfl dk_X9_isAsked ⟨Nat.le_of_ble_eq_true rfl, Nat.le_of_ble_eq_true rfl⟩) hK hP hD hS hA 9 0 rfl rfl rfl [0, 1, 2, 3, 4, 5, 6, 7, 8, 9, 10, 11, 12, 13, 14, 15, 16, 17] [] [0, 1, 2, 3, 4, 5, 6, 7, 8, 9, 10, 11, 12, 13, 14, 15, 16, 17] (plC_64 cI cZ cII qz qz_text qz_t qz_draft qz_s qz_kept qz_isKept qz_times qz_w qz_at qz_pulled qz_best qz_cartRow qz_tryRow qz_pairs qz_from qz_then qz_tryAt (0 : Int32) z_typed z_next z_token z_place z_value z_figures z_fault z_faultAt z_timeMany z_eaten z_half z_bestMinutes z_bestOats z_isDue z_text z_t z_draft z_s z_kept z_isKept z_times z_w z_at z_pulled z_best z_cartRow z_tryRow z_pairs z_from z_then z_tryAt) rfl (plF_64 cI cZ cII qz qz_text qz_t qz_draft qz_s qz_kept qz_isKept qz_times qz_w qz_at qz_pulled qz_best qz_cartRow qz_tryRow qz_pairs qz_from qz_then qz_tryAt (0 : Int32) z_typed z_next z_token z_place z_value z_figures z_fault z_faultAt z_timeMany z_eaten z_half z_bestMinutes z_bestOats z_isDue z_text z_t z_draft z_s z_kept z_isKept z_times z_w z_at z_pulled z_best z_cartRow z_tryRow z_pairs z_from z_then z_tryAt (0 : Int32) z_typed z_next z_token z_place z_value z_figures z_fault z_faultAt z_timeMany z_eaten z_half z_bestMinutes z_bestOats z_isDue z_text z_t z_draft z_s z_kept z_isKept z_times z_w z_at z_pulled z_best z_cartRow z_tryRow z_pairs z_from z_then z_tryAt) (by decide) rfl hl.1 rfl (Nat.le_of_ble_eq_true rfl) dX9_cheapest_9 ⟨Nat.zero_le _, Nat.zero_le _⟩ (fun H locs hP hD hS => ?_)
  refine lv_if_ne (tgt := 18) hx hb dX9_cheapest_12 (by decide) (fun h9 => ?_) (fun h9 => ?_)
  · have hf := pg_f h9 hf
    refine lv_iload_n hx hb dX9_cheapest_18 rfl (lv_at hl 1 rfl) ?_
    refine lv_iconst (v := (0 : Int32)) hx hb dX9_cheapest_19 (by decide) ?_
    refine lv_sipush (v := (240 : Int32)) hx hb dX9_cheapest_20 (by decide) ?_
    obtain ⟨r_2, hc, hf⟩ := bn1_s hf
    refine pg_cSi (As := [.int n1, .int (0 : Int32), .int (240 : Int32)]) (rest := []) (wf := (W_X9z cI cZ cII qz qz_text qz_t qz_draft qz_s qz_kept qz_isKept qz_times qz_w qz_at qz_pulled qz_best qz_cartRow qz_tryRow qz_pairs qz_from qz_then qz_tryAt (0 : Int32) z_typed z_next z_token z_place z_value z_figures z_fault z_faultAt z_timeMany z_eaten z_half z_bestMinutes z_bestOats z_isDue z_text z_t z_draft z_s z_kept z_isKept z_times z_w z_at z_pulled z_best z_cartRow z_tryRow z_pairs z_from z_then z_tryAt)) ⟨hx, hb, hml, hown, hw⟩ (c_X9_in l dC dI cI cZ cII  H.size  n1 (0 : Int32) (240 : Int32) r_2 hc) (va_cwS 3 hts (wM_S mw_8_0 mw_8_1 mw_1_5 mw_8_2) rfl rfl rfl dk_X9_in ⟨Nat.le_of_ble_eq_true rfl, Nat.le_of_ble_eq_true rfl⟩) hK hP hD hS hA [] [0, 1, 2, 3, 4, 5, 6, 7, 8, 9, 10, 11, 12, 13, 14, 15, 16, 17] [0, 1, 2, 3, 4, 5, 6, 7, 8, 9, 10, 11, 12, 13, 14, 15, 16, 17] (plC_62 cI cZ cII qz qz_text qz_t qz_draft qz_s qz_kept qz_isKept qz_times qz_w qz_at qz_pulled qz_best qz_cartRow qz_tryRow qz_pairs qz_from qz_then qz_tryAt (0 : Int32) z_typed z_next z_token z_place z_value z_figures z_fault z_faultAt z_timeMany z_eaten z_half z_bestMinutes z_bestOats z_isDue z_text z_t z_draft z_s z_kept z_isKept z_times z_w z_at z_pulled z_best z_cartRow z_tryRow z_pairs z_from z_then z_tryAt) rfl (plF_62 cI cZ cII qz qz_text qz_t qz_draft qz_s qz_kept qz_isKept qz_times qz_w qz_at qz_pulled qz_best qz_cartRow qz_tryRow qz_pairs qz_from qz_then qz_tryAt (0 : Int32) z_typed z_next z_token z_place z_value z_figures z_fault z_faultAt z_timeMany z_eaten z_half z_bestMinutes z_bestOats z_isDue z_text z_t z_draft z_s z_kept z_isKept z_times z_w z_at z_pulled z_best z_cartRow z_tryRow z_pairs z_from z_then z_tryAt ) (by decide) rfl hl.1 rfl (Nat.le_of_ble_eq_true rfl) dX9_cheapest_23 ⟨Nat.zero_le _, Nat.zero_le _⟩ (fun H locs hP hD hS => ?_)
    refine lv_if_ne (tgt := 32) hx hb dX9_cheapest_26 (by decide) (fun h9 => ?_) (fun h9 => ?_)
    · have hf := pg_f h9 hf
      refine lv_aload_n hx hb dX9_cheapest_32 rfl (lv_at hl 0 rfl) ?_
      obtain ⟨z_from_3, hc, hf⟩ := bn1_s hf
      refine pg_cVv (As := []) (rest := []) (wf := (W_X9z cI cZ cII qz qz_text qz_t qz_draft qz_s qz_kept qz_isKept qz_times qz_w qz_at qz_pulled qz_best qz_cartRow qz_tryRow qz_pairs qz_from qz_then qz_tryAt (0 : Int32) z_typed z_next z_token z_place z_value z_figures z_fault z_faultAt z_timeMany z_eaten z_half z_bestMinutes z_bestOats z_isDue z_text z_t z_draft z_s z_kept z_isKept z_times z_w z_at z_pulled z_best z_cartRow z_tryRow z_pairs z_from_3 z_then z_tryAt)) ⟨hx, hb, hml, hown, hw⟩ (c_X9_fromNow l dC dI cI cZ cII qz qz_text qz_t qz_draft qz_s qz_kept qz_isKept qz_times qz_w qz_at qz_pulled qz_best qz_cartRow qz_tryRow qz_pairs qz_from qz_then qz_tryAt H.size (0 : Int32) z_typed z_next z_token z_place z_value z_figures z_fault z_faultAt z_timeMany z_eaten z_half z_bestMinutes z_bestOats z_isDue z_text z_t z_draft z_s z_kept z_isKept z_times z_w z_at z_pulled z_best z_cartRow z_tryRow z_pairs z_from z_then z_tryAt  z_from_3 hc) (cwV 0 hts (wM_V mw_35_16 mw_35_17 mw_35_18 mw_1_5 mw_35_19) rfl rfl rfl dk_X9_fromNow ⟨Nat.le_of_ble_eq_true rfl, Nat.le_of_ble_eq_true rfl⟩) hK hP hD hS hA 9 0 rfl rfl rfl [0, 1, 2, 3, 4, 5, 6, 7, 8, 9, 10, 11, 12, 13, 14, 15, 16, 17] [] [0, 1, 2, 3, 4, 5, 6, 7, 8, 9, 10, 11, 12, 13, 14, 15, 16, 17] (plC_64 cI cZ cII qz qz_text qz_t qz_draft qz_s qz_kept qz_isKept qz_times qz_w qz_at qz_pulled qz_best qz_cartRow qz_tryRow qz_pairs qz_from qz_then qz_tryAt (0 : Int32) z_typed z_next z_token z_place z_value z_figures z_fault z_faultAt z_timeMany z_eaten z_half z_bestMinutes z_bestOats z_isDue z_text z_t z_draft z_s z_kept z_isKept z_times z_w z_at z_pulled z_best z_cartRow z_tryRow z_pairs z_from z_then z_tryAt) rfl (plF_64 cI cZ cII qz qz_text qz_t qz_draft qz_s qz_kept qz_isKept qz_times qz_w qz_at qz_pulled qz_best qz_cartRow qz_tryRow qz_pairs qz_from qz_then qz_tryAt (0 : Int32) z_typed z_next z_token z_place z_value z_figures z_fault z_faultAt z_timeMany z_eaten z_half z_bestMinutes z_bestOats z_isDue z_text z_t z_draft z_s z_kept z_isKept z_times z_w z_at z_pulled z_best z_cartRow z_tryRow z_pairs z_from z_then z_tryAt (0 : Int32) z_typed z_next z_token z_place z_value z_figures z_fault z_faultAt z_timeMany z_eaten z_half z_bestMinutes z_bestOats z_isDue z_text z_t z_draft z_s z_kept z_isKept z_times z_w z_at z_pulled z_best z_cartRow z_tryRow z_pairs z_from_3 z_then z_tryAt) (by decide) rfl hl.1 rfl (Nat.le_of_ble_eq_true rfl) dX9_cheapest_33 ⟨Nat.zero_le _, Nat.zero_le _⟩ (fun H locs hP hD hS => ?_)
      refine lv_aload_n hx hb dX9_cheapest_36 rfl (lv_at hl 0 rfl) ?_
      refine lv_aload_n hx hb dX9_cheapest_37 rfl (lv_at hl 0 rfl) ?_
      refine va_get (D := (dC, dI)) (ci := 9) (v := .ref qz_s) (C := RX9) (T := TX9) (N := 32) hx hb hw inlX9 hown hK hP 0 rfl rfl 12 (by decide) (hw _ mw_6_3) (fun _ h9 => h9) rfl dX9_cheapest_38 ?_
      refine lv_bipush (v := (9 : Int32)) hx hb dX9_cheapest_41 (by decide) ?_
      refine va_iald hx hb hK hP 4 0 rfl rfl (pg_lit (by decide)) dX9_cheapest_43 ?_
      refine lv_iload_n hx hb dX9_cheapest_44 rfl (lv_at hl 1 rfl) ?_
      refine lv_iconst (v := (-1 : Int32)) hx hb dX9_cheapest_45 (by decide) ?_
      refine lv_iconst (v := (1 : Int32)) hx hb dX9_cheapest_46 (by decide) ?_
      obtain ⟨r_4, z_eaten_4, z_bestMinutes_4, z_bestOats_4, z_w_4, z_at_4, z_pulled_4, z_best_4, hc, hf⟩ := bn8_s hf
      refine pg_cVi (As := [.int (z_s ((9 : Int32)).toNatClampNeg), .int n1, .int (-1 : Int32), .int (1 : Int32)]) (rest := []) (wf := (W_X9z cI cZ cII qz qz_text qz_t qz_draft qz_s qz_kept qz_isKept qz_times qz_w qz_at qz_pulled qz_best qz_cartRow qz_tryRow qz_pairs qz_from qz_then qz_tryAt (0 : Int32) z_typed z_next z_token z_place z_value z_figures z_fault z_faultAt z_timeMany z_eaten_4 z_half z_bestMinutes_4 z_bestOats_4 z_isDue z_text z_t z_draft z_s z_kept z_isKept z_times z_w_4 z_at_4 z_pulled_4 z_best_4 z_cartRow z_tryRow z_pairs z_from_3 z_then z_tryAt)) ⟨hx, hb, hml, hown, hw⟩ (c_X9_finds l dC dI cI cZ cII qz qz_text qz_t qz_draft qz_s qz_kept qz_isKept qz_times qz_w qz_at qz_pulled qz_best qz_cartRow qz_tryRow qz_pairs qz_from qz_then qz_tryAt H.size (0 : Int32) z_typed z_next z_token z_place z_value z_figures z_fault z_faultAt z_timeMany z_eaten z_half z_bestMinutes z_bestOats z_isDue z_text z_t z_draft z_s z_kept z_isKept z_times z_w z_at z_pulled z_best z_cartRow z_tryRow z_pairs z_from_3 z_then z_tryAt (z_s ((9 : Int32)).toNatClampNeg) n1 (-1 : Int32) (1 : Int32) r_4 z_eaten_4 z_bestMinutes_4 z_bestOats_4 z_w_4 z_at_4 z_pulled_4 z_best_4 hc) (cwV 4 hts (wM_V mw_35_20 mw_35_21 mw_35_22 mw_1_5 mw_35_23) rfl rfl rfl dk_X9_finds ⟨Nat.le_of_ble_eq_true rfl, Nat.le_of_ble_eq_true rfl⟩) hK hP hD hS hA 9 0 rfl rfl rfl [0, 1, 2, 3, 4, 5, 6, 7, 8, 9, 10, 11, 12, 13, 14, 15, 16, 17] [] [0, 1, 2, 3, 4, 5, 6, 7, 8, 9, 10, 11, 12, 13, 14, 15, 16, 17] (plC_64 cI cZ cII qz qz_text qz_t qz_draft qz_s qz_kept qz_isKept qz_times qz_w qz_at qz_pulled qz_best qz_cartRow qz_tryRow qz_pairs qz_from qz_then qz_tryAt (0 : Int32) z_typed z_next z_token z_place z_value z_figures z_fault z_faultAt z_timeMany z_eaten z_half z_bestMinutes z_bestOats z_isDue z_text z_t z_draft z_s z_kept z_isKept z_times z_w z_at z_pulled z_best z_cartRow z_tryRow z_pairs z_from_3 z_then z_tryAt) rfl (plF_64 cI cZ cII qz qz_text qz_t qz_draft qz_s qz_kept qz_isKept qz_times qz_w qz_at qz_pulled qz_best qz_cartRow qz_tryRow qz_pairs qz_from qz_then qz_tryAt (0 : Int32) z_typed z_next z_token z_place z_value z_figures z_fault z_faultAt z_timeMany z_eaten z_half z_bestMinutes z_bestOats z_isDue z_text z_t z_draft z_s z_kept z_isKept z_times z_w z_at z_pulled z_best z_cartRow z_tryRow z_pairs z_from_3 z_then z_tryAt (0 : Int32) z_typed z_next z_token z_place z_value z_figures z_fault z_faultAt z_timeMany z_eaten_4 z_half z_bestMinutes_4 z_bestOats_4 z_isDue z_text z_t z_draft z_s z_kept z_isKept z_times z_w_4 z_at_4 z_pulled_4 z_best_4 z_cartRow z_tryRow z_pairs z_from_3 z_then z_tryAt) (by decide) rfl hl.1 rfl (Nat.le_of_ble_eq_true rfl) dX9_cheapest_47 ⟨Nat.zero_le _, Nat.zero_le _⟩ (fun H locs hP hD hS => ?_)
      refine lv_istore_n (lv' := [(3, .int r_4), (0, .ref qz), (1, .int n1), (2, .int n2)]) hx hb dX9_cheapest_50 rfl hl (by decide) rfl (fun ls hl => ?_)
      refine lv_iload_n hx hb dX9_cheapest_51 rfl (lv_at hl 0 rfl) ?_
      refine lv_if_ne (tgt := 59) hx hb dX9_cheapest_52 (by decide) (fun h9 => ?_) (fun h9 => ?_)
      · have hf := pg_f h9 hf
        refine lv_iload_n hx hb dX9_cheapest_59 rfl (lv_at hl 3 rfl) ?_
        refine lv_iconst (v := (-1 : Int32)) hx hb dX9_cheapest_60 (by decide) ?_
        refine lv_icmp_ne (tgt := 71) hx hb dX9_cheapest_61 (by decide) (fun h9 => ?_) (fun h9 => ?_)
        · have hf := pg_f h9 hf
          refine lv_iload_n hx hb dX9_cheapest_71 rfl (lv_at hl 3 rfl) ?_
          refine lv_if_ge (tgt := 82) hx hb dX9_cheapest_72 (by decide) (fun h9 => ?_) (fun h9 => ?_)
          · have hf := pg_t h9 hf
            refine lv_aload_n hx hb dX9_cheapest_82 rfl (lv_at hl 1 rfl) ?_
            refine va_get (D := (dC, dI)) (ci := 9) (v := .ref qz_best) (C := RX9) (T := TX9) (N := 32) hx hb hw inlX9 hown hK hP 0 rfl rfl 22 (by decide) (hw _ mw_6_12) (fun _ h9 => h9) rfl dX9_cheapest_83 ?_
            refine lv_iload_n hx hb dX9_cheapest_86 rfl (lv_at hl 3 rfl) ?_
            obtain ⟨hi5, hf⟩ := pg_chk hf
            refine va_iald hx hb hK hP 11 0 rfl rfl hi5 dX9_cheapest_87 ?_
            exact RET _ _ _ _ _ _ _ _ _ _ _ _ _ _ dX9_cheapest_88 hP hD hS hf
          · have hf := pg_f h9 hf
            refine lv_aload_n hx hb dX9_cheapest_75 rfl (lv_at hl 1 rfl) ?_
            refine va_get (D := (dC, dI)) (ci := 9) (v := .int z_bestMinutes_4) (C := RX9) (T := TX9) (N := 32) hx hb hw inlX9 hown hK hP 0 rfl rfl 23 (by decide) (hw _ mw_35_10) (fun _ h9 => h9) rfl dX9_cheapest_76 ?_
            refine lv_goto (tgt := 88) hx hb dX9_cheapest_79 (by decide) ?_
            exact RET _ _ _ _ _ _ _ _ _ _ _ _ _ _ dX9_cheapest_88 hP hD hS hf
        · have hf := pg_t h9 hf
          refine lv_aload_n hx hb dX9_cheapest_64 rfl (lv_at hl 1 rfl) ?_
          refine va_get (D := (dC, dI)) (ci := 9) (v := .int z_bestOats_4) (C := RX9) (T := TX9) (N := 32) hx hb hw inlX9 hown hK hP 0 rfl rfl 24 (by decide) (hw _ mw_35_11) (fun _ h9 => h9) rfl dX9_cheapest_65 ?_
          refine lv_goto (tgt := 88) hx hb dX9_cheapest_68 (by decide) ?_
          exact RET _ _ _ _ _ _ _ _ _ _ _ _ _ _ dX9_cheapest_88 hP hD hS hf
      · have hf := pg_t h9 hf
        refine lv_iconst (v := (-1 : Int32)) hx hb dX9_cheapest_55 (by decide) ?_
        refine lv_goto (tgt := 88) hx hb dX9_cheapest_56 (by decide) ?_
        exact RET _ _ _ _ _ _ _ _ _ _ _ _ _ _ dX9_cheapest_88 hP hD hS hf
    · have hf := pg_t h9 hf
      refine lv_ldc (v := (-1000000002 : Int32)) hx hb hown (hw _ mw_7_20) dX9_cheapest_29 ?_
      exact RET _ _ _ _ _ _ _ _ _ _ _ _ _ _ dX9_cheapest_31 hP hD hS hf
  · have hf := pg_t h9 hf
    refine lv_ldc (v := (-1000000001 : Int32)) hx hb hown (hw _ mw_25_12) dX9_cheapest_15 ?_
    exact RET _ _ _ _ _ _ _ _ _ _ _ _ _ _ dX9_cheapest_17 hP hD hS hf
def f_X9_second (n1 : Int32) (n2 : Int32) (n3 : Int32) (z_eaten : Int32) (z_half : Int32) (z_t : Nat → Int32) (z_w : Nat → Int32) (z_at : Nat → Int32) (z_pulled : Nat → Int32) (z_then : Nat → Int32) (z_tryAt : Nat → Int32) : Option (Int32 × Int32 × (Nat → Int32) × (Nat → Int32) × (Nat → Int32) × (Nat → Int32)) :=
  jn6 (fun (y4_1 : Int32) (z_eaten_1 : Int32) (z_w_1 : Nat → Int32) (z_at_1 : Nat → Int32) (z_pulled_1 : Nat → Int32) (z_tryAt_1 : Nat → Int32) =>
    some (y4_1, z_eaten_1, z_w_1, z_at_1, z_pulled_1, z_tryAt_1)
  ) (fun K153_1 =>
  lq7 (fun rec2 (y4_2 : Int32) (y5_2 : Int32) (z_eaten_2 : Int32) (z_w_2 : Nat → Int32) (z_at_2 : Nat → Int32) (z_pulled_2 : Nat → Int32) (z_tryAt_2 : Nat → Int32) =>
    if (343 : Int32) ≤ y5_2 then
      K153_1 y4_2 z_eaten_2 z_w_2 z_at_2 z_pulled_2 z_tryAt_2
    else
      bn2 (f_X9_puts y5_2 (-1 : Int32) z_t z_at_2) (fun (r_3 : Int32) (z_at_3 : Nat → Int32) =>
        jn5 (fun (y4_4 : Int32) (z_eaten_4 : Int32) (z_w_4 : Nat → Int32) (z_pulled_4 : Nat → Int32) (z_tryAt_4 : Nat → Int32) =>
          rec2 y4_4 (y5_2 + (1 : Int32)) z_eaten_4 z_w_4 z_at_3 z_pulled_4 z_tryAt_4
        ) (fun J147_4 =>
        if r_3 = 0 then
          J147_4 y4_2 z_eaten_2 z_w_2 z_pulled_2 z_tryAt_2
        else
          jn1 (fun (z_w_5 : Nat → Int32) =>
            bn4 (f_X9_crosses n1 n2 z_eaten_2 z_half z_t z_w_5 z_at_3 z_pulled_2) (fun (r_6 : Int32) (z_eaten_6 : Int32) (z_w_6 : Nat → Int32) (z_pulled_6 : Nat → Int32) =>
              bn1 (f_X9_in r_6 (1 : Int32) (z_t ((5 : Int32)).toNatClampNeg)) (fun (r_7 : Int32) =>
                if r_7 = 0 then
                  J147_4 y4_2 z_eaten_6 z_w_6 z_pulled_6 z_tryAt_2
                else
                  jn1 (fun (u_8 : Unit) =>
                    jn1 (fun (u_9 : Unit) =>
                      J147_4 z_eaten_6 z_eaten_6 z_w_6 z_pulled_6 (upd (upd (upd z_tryAt_2 ((0 : Int32)).toNatClampNeg (z_at_3 ((0 : Int32)).toNatClampNeg)) ((1 : Int32)).toNatClampNeg (z_at_3 ((1 : Int32)).toNatClampNeg)) ((2 : Int32)).toNatClampNeg (z_at_3 ((2 : Int32)).toNatClampNeg))
                    ) (fun J105_9 =>
                    if n3 = (-1 : Int32) then
                      J105_9 ()
                    else
                      if n3 ≤ z_eaten_6 then
                        J147_4 y4_2 z_eaten_6 z_w_6 z_pulled_6 z_tryAt_2
                      else
                        J105_9 ()
                    )
                  ) (fun J92_8 =>
                  if y4_2 = (-1 : Int32) then
                    J92_8 ()
                  else
                    if y4_2 ≤ z_eaten_6 then
                      J147_4 y4_2 z_eaten_6 z_w_6 z_pulled_6 z_tryAt_2
                    else
                      J92_8 ()
                  )
              )
            )
          ) (fun K54_5 =>
          lq2 (fun rec10 (y6_10 : Int32) (z_w_10 : Nat → Int32) =>
            if (6 : Int32) ≤ y6_10 then
              K54_5 z_w_10
            else
              if y6_10 < 0 ∨ 6 ≤ (y6_10).toNatClampNeg then none else
              rec10 (y6_10 + (1 : Int32)) (upd z_w_10 (y6_10).toNatClampNeg (z_then (y6_10).toNatClampNeg))
          ) fu (0 : Int32) z_w_2
          )
        )
      )
  ) fu (-1 : Int32) (1 : Int32) z_eaten z_w z_at z_pulled z_tryAt
  )
abbrev rm_X9_second : Room := { frames := 5, cells := 0, slots := 0, locals := 116 }
theorem dk_X9_second : yX9_second.cls = RX9 ∧ yX9_second.cls ≠ "java/lang/invoke/MethodHandle" ∧ yX9_second.cls ≠ "java/lang/invoke/VarHandle" ∧ (parseMethodDescriptor yX9_second.desc).map (fun d => d.parameters.length) = some 3 := by decide +kernel
set_option maxHeartbeats 4000000 in
set_option maxRecDepth 100000 in
theorem c_X9_second (l : Launch) (dC : Nat → ClassId) (dI : Nat → Nat → Nat) (cI cZ cII : ClassId) (qz qz_text qz_t qz_draft qz_s qz_kept qz_isKept qz_times qz_w qz_at qz_pulled qz_best qz_cartRow qz_tryRow qz_pairs qz_from qz_then qz_tryAt : Nat) (sz : Nat) (z_thrown : Int32) (z_typed : Int32) (z_next : Int32) (z_token : Int32) (z_place : Int32) (z_value : Int32) (z_figures : Int32) (z_fault : Int32) (z_faultAt : Int32) (z_timeMany : Int32) (z_eaten : Int32) (z_half : Int32) (z_bestMinutes : Int32) (z_bestOats : Int32) (z_isDue : Int32) (z_text : Nat → Int32) (z_t : Nat → Int32) (z_draft : Nat → Int32) (z_s : Nat → Int32) (z_kept : Nat → Int32) (z_isKept : Nat → Int32) (z_times : Nat → Int32) (z_w : Nat → Int32) (z_at : Nat → Int32) (z_pulled : Nat → Int32) (z_best : Nat → Int32) (z_cartRow : Nat → Int32) (z_tryRow : Nat → Int32) (z_pairs : Nat → Int32) (z_from : Nat → Int32) (z_then : Nat → Int32) (z_tryAt : Nat → Int32) (n1 : Int32) (n2 : Int32) (n3 : Int32) (rr : Int32) (z_eaten' : Int32) (z_w' : Nat → Int32) (z_at' : Nat → Int32) (z_pulled' : Nat → Int32) (z_tryAt' : Nat → Int32) (hf : f_X9_second n1 n2 n3 z_eaten z_half z_t z_w z_at z_pulled z_then z_tryAt = some (rr, z_eaten', z_w', z_at', z_pulled', z_tryAt')) : Met l yX9_second (wM yX9_second cX9_second 7 (some .int)) rm_X9_second (PreW (dC, dI) (tyA cI cZ cII) (W_X9z cI cZ cII qz qz_text qz_t qz_draft qz_s qz_kept qz_isKept qz_times qz_w qz_at qz_pulled qz_best qz_cartRow qz_tryRow qz_pairs qz_from qz_then qz_tryAt z_thrown z_typed z_next z_token z_place z_value z_figures z_fault z_faultAt z_timeMany z_eaten z_half z_bestMinutes z_bestOats z_isDue z_text z_t z_draft z_s z_kept z_isKept z_times z_w z_at z_pulled z_best z_cartRow z_tryRow z_pairs z_from z_then z_tryAt) sz [.ref qz, .int n1, .int n2, .int n3]) (PostI (dC, dI) (tyA cI cZ cII) rr (W_X9z cI cZ cII qz qz_text qz_t qz_draft qz_s qz_kept qz_isKept qz_times qz_w qz_at qz_pulled qz_best qz_cartRow qz_tryRow qz_pairs qz_from qz_then qz_tryAt z_thrown z_typed z_next z_token z_place z_value z_figures z_fault z_faultAt z_timeMany z_eaten z_half z_bestMinutes z_bestOats z_isDue z_text z_t z_draft z_s z_kept z_isKept z_times z_w z_at z_pulled z_best z_cartRow z_tryRow z_pairs z_from z_then z_tryAt) (W_X9z cI cZ cII qz qz_text qz_t qz_draft qz_s qz_kept qz_isKept qz_times qz_w qz_at qz_pulled qz_best qz_cartRow qz_tryRow qz_pairs qz_from qz_then qz_tryAt z_thrown z_typed z_next z_token z_place z_value z_figures z_fault z_faultAt z_timeMany z_eaten' z_half z_bestMinutes z_bestOats z_isDue z_text z_t z_draft z_s z_kept z_isKept z_times z_w' z_at' z_pulled' z_best z_cartRow z_tryRow z_pairs z_from z_then z_tryAt') sz) 0 0 (va_A (W_X9z cI cZ cII qz qz_text qz_t qz_draft qz_s qz_kept qz_isKept qz_times qz_w qz_at qz_pulled qz_best qz_cartRow qz_tryRow qz_pairs qz_from qz_then qz_tryAt z_thrown z_typed z_next z_token z_place z_value z_figures z_fault z_faultAt z_timeMany z_eaten z_half z_bestMinutes z_bestOats z_isDue z_text z_t z_draft z_s z_kept z_isKept z_times z_w z_at z_pulled z_best z_cartRow z_tryRow z_pairs z_from z_then z_tryAt) sz) := by
  refine Met.ofW (cc := cX9_second) (maxL := 7) (ret := (some .int)) (by decide) rfl ?_
  intro p e s m args below meth c s₁ B hml hv
  obtain ⟨rfl, hsz, hP, hK, hD0⟩ := hv
  have hx := B.exec
  have hb := B.bytes
  have hr := B.returns
  have hts := atoms_spec (ws := wM yX9_second cX9_second 7 (some .int)) B.pre
  have hown : s.vm.findClass RX9 = some m.cls := findClass_of_methodNamed B.named
  have hlocks := B.notSynchronized
  subst hsz
  have hD := hD0.self (sz := s.heap.size)
  obtain ⟨A, hAe⟩ : ∃ A, A = va_A (W_X9z cI cZ cII qz qz_text qz_t qz_draft qz_s qz_kept qz_isKept qz_times qz_w qz_at qz_pulled qz_best qz_cartRow qz_tryRow qz_pairs qz_from qz_then qz_tryAt z_thrown z_typed z_next z_token z_place z_value z_figures z_fault z_faultAt z_timeMany z_eaten z_half z_bestMinutes z_bestOats z_isDue z_text z_t z_draft z_s z_kept z_isKept z_times z_w z_at z_pulled z_best z_cartRow z_tryRow z_pairs z_from z_then z_tryAt) s.heap.size := ⟨_, rfl⟩
  rw [← hAe] at hD
  have hA : ∀ q : Nat, s.heap.size ≤ q → A q := fun q h => by rw [hAe]; exact Or.inr h
  have hS : va_S A s.heap s.heap [] := va_S.rf
  have hl := lv_entry ([.ref qz, .int n1, .int n2, .int n3]) (n := 7) (Nat.le_of_ble_eq_true rfl)
  rw [lg_entry_eq]
  generalize (lg_sl ([.ref qz, .int n1, .int n2, .int n3]) ++ List.replicate (7 - (lg_sl ([.ref qz, .int n1, .int n2, .int n3])).length) Slot.unset).toArray = ls at hl ⊢
  have hl : lv_has ls 7 [(0, .ref qz), (1, .int n1), (2, .int n2), (3, .int n3)] := hl
  generalize ([.ref qz, .int n1, .int n2, .int n3] : List Value).toArray = args at hts ⊢
  have hw : ∀ w ∈ wsL_law, w.before args s = true := fun w h => hts w (List.mem_cons_of_mem _ h)
  refine pg_start (fun Q hQ => ?_)
  have RET : ∀ (H : Heap) (locs : List Loc) (ls : Array Slot) (pc : Nat) (v : Int32) (x0 : Int32) (x1 : Nat → Int32) (x2 : Nat → Int32) (x3 : Nat → Int32) (x4 : Nat → Int32) , decode cX9_second pc = .ok (.ireturn, 1) → va_P (dC, dI) vwCl (W_X9z cI cZ cII qz qz_text qz_t qz_draft qz_s qz_kept qz_isKept qz_times qz_w qz_at qz_pulled qz_best qz_cartRow qz_tryRow qz_pairs qz_from qz_then qz_tryAt z_thrown z_typed z_next z_token z_place z_value z_figures z_fault z_faultAt z_timeMany x0 z_half z_bestMinutes z_bestOats z_isDue z_text z_t z_draft z_s z_kept z_isKept z_times x1 x2 x3 z_best z_cartRow z_tryRow z_pairs z_from z_then x4) H → va_D A (W_X9z cI cZ cII qz qz_text qz_t qz_draft qz_s qz_kept qz_isKept qz_times qz_w qz_at qz_pulled qz_best qz_cartRow qz_tryRow qz_pairs qz_from qz_then qz_tryAt z_thrown z_typed z_next z_token z_place z_value z_figures z_fault z_faultAt z_timeMany x0 z_half z_bestMinutes z_bestOats z_isDue z_text z_t z_draft z_s z_kept z_isKept z_times x1 x2 x3 z_best z_cartRow z_tryRow z_pairs z_from z_then x4) → va_S A s.heap H locs → (some (v, x0, x1, x2, x3, x4) : Option (Int32 × Int32 × (Nat → Int32) × (Nat → Int32) × (Nat → Int32) × (Nat → Int32))) = some (rr, z_eaten', z_w', z_at', z_pulled', z_tryAt') → W p l e rm_X9_second s m args below meth c H locs 0 0 Q (F0 m pc ls [.int v]) := by
    intro H locs ls pc v x0 x1 x2 x3 x4 hd hP hD hS he
    subst hAe; subst hQ
    simp only [Option.some.injEq, Prod.mk.injEq] at he
    obtain ⟨rfl, rfl, rfl, rfl, rfl, rfl⟩ := he
    exact pg_iret hx hb hr hlocks hK hP hD hS hd
  unfold f_X9_second at hf
  refine lv_iconst (v := (-1 : Int32)) hx hb dX9_second_0 (by decide) ?_
  refine lv_istore (lv' := [(4, .int (-1 : Int32)), (0, .ref qz), (1, .int n1), (2, .int n2), (3, .int n3)]) hx hb dX9_second_1 hl (by decide) rfl (fun ls hl => ?_)
  refine lv_iconst (v := (1 : Int32)) hx hb dX9_second_3 (by decide) ?_
  refine lv_istore (lv' := [(5, .int (1 : Int32)), (4, .int (-1 : Int32)), (0, .ref qz), (1, .int n1), (2, .int n2), (3, .int n3)]) hx hb dX9_second_4 hl (by decide) rfl (fun ls hl => ?_)
  obtain ⟨K153_1, hK153_1, hf⟩ := jn6_s hf
  have WK153_1 : ∀ (y4_1 : Int32) (z_eaten_1 : Int32) (z_w_1 : Nat → Int32) (z_at_1 : Nat → Int32) (z_pulled_1 : Nat → Int32) (z_tryAt_1 : Nat → Int32) (H : Heap) (locs : List Loc) (ls : Array Slot), va_P (dC, dI) vwCl (W_X9z cI cZ cII qz qz_text qz_t qz_draft qz_s qz_kept qz_isKept qz_times qz_w qz_at qz_pulled qz_best qz_cartRow qz_tryRow qz_pairs qz_from qz_then qz_tryAt z_thrown z_typed z_next z_token z_place z_value z_figures z_fault z_faultAt z_timeMany z_eaten_1 z_half z_bestMinutes z_bestOats z_isDue z_text z_t z_draft z_s z_kept z_isKept z_times z_w_1 z_at_1 z_pulled_1 z_best z_cartRow z_tryRow z_pairs z_from z_then z_tryAt_1) H → va_D A (W_X9z cI cZ cII qz qz_text qz_t qz_draft qz_s qz_kept qz_isKept qz_times qz_w qz_at qz_pulled qz_best qz_cartRow qz_tryRow qz_pairs qz_from qz_then qz_tryAt z_thrown z_typed z_next z_token z_place z_value z_figures z_fault z_faultAt z_timeMany z_eaten_1 z_half z_bestMinutes z_bestOats z_isDue z_text z_t z_draft z_s z_kept z_isKept z_times z_w_1 z_at_1 z_pulled_1 z_best z_cartRow z_tryRow z_pairs z_from z_then z_tryAt_1) → va_S A s.heap H locs → lv_has ls 7 [(4, .int y4_1)] → K153_1 y4_1 z_eaten_1 z_w_1 z_at_1 z_pulled_1 z_tryAt_1 = some (rr, z_eaten', z_w', z_at', z_pulled', z_tryAt') → W p l e rm_X9_second s m args below meth c H locs 0 0 Q (F0 m 153 ls []) := by
    intro y4_1 z_eaten_1 z_w_1 z_at_1 z_pulled_1 z_tryAt_1 H locs ls hP hD hS hl hf
    have hf := hK153_1 _ _ _ _ _ _ hf
    refine lv_iload hx hb dX9_second_153 (lv_at hl 0 rfl) ?_
    exact RET _ _ _ _ _ _ _ _ _ _ dX9_second_155 hP hD hS hf
  obtain ⟨B2, hB2, hf⟩ := lq7_n hf
  have WL2 : ∀ (n9 : Nat) (y4_2 : Int32) (y5_2 : Int32) (z_eaten_2 : Int32) (z_w_2 : Nat → Int32) (z_at_2 : Nat → Int32) (z_pulled_2 : Nat → Int32) (z_tryAt_2 : Nat → Int32) (H : Heap) (locs : List Loc) (ls : Array Slot), va_P (dC, dI) vwCl (W_X9z cI cZ cII qz qz_text qz_t qz_draft qz_s qz_kept qz_isKept qz_times qz_w qz_at qz_pulled qz_best qz_cartRow qz_tryRow qz_pairs qz_from qz_then qz_tryAt z_thrown z_typed z_next z_token z_place z_value z_figures z_fault z_faultAt z_timeMany z_eaten_2 z_half z_bestMinutes z_bestOats z_isDue z_text z_t z_draft z_s z_kept z_isKept z_times z_w_2 z_at_2 z_pulled_2 z_best z_cartRow z_tryRow z_pairs z_from z_then z_tryAt_2) H → va_D A (W_X9z cI cZ cII qz qz_text qz_t qz_draft qz_s qz_kept qz_isKept qz_times qz_w qz_at qz_pulled qz_best qz_cartRow qz_tryRow qz_pairs qz_from qz_then qz_tryAt z_thrown z_typed z_next z_token z_place z_value z_figures z_fault z_faultAt z_timeMany z_eaten_2 z_half z_bestMinutes z_bestOats z_isDue z_text z_t z_draft z_s z_kept z_isKept z_times z_w_2 z_at_2 z_pulled_2 z_best z_cartRow z_tryRow z_pairs z_from z_then z_tryAt_2) → va_S A s.heap H locs → lv_has ls 7 [(0, .ref qz), (1, .int n1), (2, .int n2), (3, .int n3), (4, .int y4_2), (5, .int y5_2)] → lq7 B2 n9 y4_2 y5_2 z_eaten_2 z_w_2 z_at_2 z_pulled_2 z_tryAt_2 = some (rr, z_eaten', z_w', z_at', z_pulled', z_tryAt') → W p l e rm_X9_second s m args below meth c H locs 0 0 Q (F0 m 6 ls []) := by
    intro n9
    induction n9 with
    | zero => intro y4_2 y5_2 z_eaten_2 z_w_2 z_at_2 z_pulled_2 z_tryAt_2 H locs ls hP hD hS hl hf; cases hf
    | succ n9 ih =>
      intro y4_2 y5_2 z_eaten_2 z_w_2 z_at_2 z_pulled_2 z_tryAt_2 H locs ls hP hD hS hl hf
      obtain ⟨rec2, hrec2, hf⟩ := lq7_s hf
      have hf := hB2 rec2 _ _ _ _ _ _ _ hf
      refine lv_iload hx hb dX9_second_6 (lv_at hl 5 rfl) ?_
      refine lv_sipush (v := (343 : Int32)) hx hb dX9_second_8 (by decide) ?_
      refine lv_icmp_ge (tgt := 153) hx hb dX9_second_11 (by decide) (fun h9 => ?_) (fun h9 => ?_)
      · have hf := pg_t h9 hf
        exact WK153_1 _ _ _ _ _ _ _ _ _ hP hD hS (lv_sub hl [4] rfl) hf
      · have hf := pg_f h9 hf
        refine lv_aload_n hx hb dX9_second_14 rfl (lv_at hl 0 rfl) ?_
        refine lv_iload hx hb dX9_second_15 (lv_at hl 5 rfl) ?_
        refine lv_iconst (v := (-1 : Int32)) hx hb dX9_second_17 (by decide) ?_
        obtain ⟨r_3, z_at_3, hc, hf⟩ := bn2_s hf
        refine pg_cVi (As := [.int y5_2, .int (-1 : Int32)]) (rest := []) (wf := (W_X9z cI cZ cII qz qz_text qz_t qz_draft qz_s qz_kept qz_isKept qz_times qz_w qz_at qz_pulled qz_best qz_cartRow qz_tryRow qz_pairs qz_from qz_then qz_tryAt z_thrown z_typed z_next z_token z_place z_value z_figures z_fault z_faultAt z_timeMany z_eaten_2 z_half z_bestMinutes z_bestOats z_isDue z_text z_t z_draft z_s z_kept z_isKept z_times z_w_2 z_at_3 z_pulled_2 z_best z_cartRow z_tryRow z_pairs z_from z_then z_tryAt_2)) ⟨hx, hb, hml, hown, hw⟩ (c_X9_puts l dC dI cI cZ cII qz qz_text qz_t qz_draft qz_s qz_kept qz_isKept qz_times qz_w qz_at qz_pulled qz_best qz_cartRow qz_tryRow qz_pairs qz_from qz_then qz_tryAt H.size z_thrown z_typed z_next z_token z_place z_value z_figures z_fault z_faultAt z_timeMany z_eaten_2 z_half z_bestMinutes z_bestOats z_isDue z_text z_t z_draft z_s z_kept z_isKept z_times z_w_2 z_at_2 z_pulled_2 z_best z_cartRow z_tryRow z_pairs z_from z_then z_tryAt_2 y5_2 (-1 : Int32) r_3 z_at_3 hc) (cwV 2 hts (wM_V mw_36_0 mw_36_1 mw_36_2 mw_1_5 mw_36_3) rfl rfl rfl dk_X9_puts ⟨Nat.le_of_ble_eq_true rfl, Nat.le_of_ble_eq_true rfl⟩) hK hP hD hS hA 9 0 rfl rfl rfl [0, 1, 2, 3, 4, 5, 6, 7, 8, 9, 10, 11, 12, 13, 14, 15, 16, 17] [] [0, 1, 2, 3, 4, 5, 6, 7, 8, 9, 10, 11, 12, 13, 14, 15, 16, 17] (plC_64 cI cZ cII qz qz_text qz_t qz_draft qz_s qz_kept qz_isKept qz_times qz_w qz_at qz_pulled qz_best qz_cartRow qz_tryRow qz_pairs qz_from qz_then qz_tryAt z_thrown z_typed z_next z_token z_place z_value z_figures z_fault z_faultAt z_timeMany z_eaten_2 z_half z_bestMinutes z_bestOats z_isDue z_text z_t z_draft z_s z_kept z_isKept z_times z_w_2 z_at_2 z_pulled_2 z_best z_cartRow z_tryRow z_pairs z_from z_then z_tryAt_2) rfl (plF_64 cI cZ cII qz qz_text qz_t qz_draft qz_s qz_kept qz_isKept qz_times qz_w qz_at qz_pulled qz_best qz_cartRow qz_tryRow qz_pairs qz_from qz_then qz_tryAt z_thrown z_typed z_next z_token z_place z_value z_figures z_fault z_faultAt z_timeMany z_eaten_2 z_half z_bestMinutes z_bestOats z_isDue z_text z_t z_draft z_s z_kept z_isKept z_times z_w_2 z_at_2 z_pulled_2 z_best z_cartRow z_tryRow z_pairs z_from z_then z_tryAt_2 z_thrown z_typed z_next z_token z_place z_value z_figures z_fault z_faultAt z_timeMany z_eaten_2 z_half z_bestMinutes z_bestOats z_isDue z_text z_t z_draft z_s z_kept z_isKept z_times z_w_2 z_at_3 z_pulled_2 z_best z_cartRow z_tryRow z_pairs z_from z_then z_tryAt_2) (by decide) rfl hl.1 rfl (Nat.le_of_ble_eq_true rfl) dX9_second_18 ⟨Nat.zero_le _, Nat.zero_le _⟩ (fun H locs hP hD hS => ?_)
        obtain ⟨J147_4, hJ147_4, hf⟩ := jn5_s hf
        have WJ147_4 : ∀ (y4_4 : Int32) (z_eaten_4 : Int32) (z_w_4 : Nat → Int32) (z_pulled_4 : Nat → Int32) (z_tryAt_4 : Nat → Int32) (H : Heap) (locs : List Loc) (ls : Array Slot), va_P (dC, dI) vwCl (W_X9z cI cZ cII qz qz_text qz_t qz_draft qz_s qz_kept qz_isKept qz_times qz_w qz_at qz_pulled qz_best qz_cartRow qz_tryRow qz_pairs qz_from qz_then qz_tryAt z_thrown z_typed z_next z_token z_place z_value z_figures z_fault z_faultAt z_timeMany z_eaten_4 z_half z_bestMinutes z_bestOats z_isDue z_text z_t z_draft z_s z_kept z_isKept z_times z_w_4 z_at_3 z_pulled_4 z_best z_cartRow z_tryRow z_pairs z_from z_then z_tryAt_4) H → va_D A (W_X9z cI cZ cII qz qz_text qz_t qz_draft qz_s qz_kept qz_isKept qz_times qz_w qz_at qz_pulled qz_best qz_cartRow qz_tryRow qz_pairs qz_from qz_then qz_tryAt z_thrown z_typed z_next z_token z_place z_value z_figures z_fault z_faultAt z_timeMany z_eaten_4 z_half z_bestMinutes z_bestOats z_isDue z_text z_t z_draft z_s z_kept z_isKept z_times z_w_4 z_at_3 z_pulled_4 z_best z_cartRow z_tryRow z_pairs z_from z_then z_tryAt_4) → va_S A s.heap H locs → lv_has ls 7 [(0, .ref qz), (1, .int n1), (2, .int n2), (3, .int n3), (4, .int y4_4), (5, .int y5_2)] → J147_4 y4_4 z_eaten_4 z_w_4 z_pulled_4 z_tryAt_4 = some (rr, z_eaten', z_w', z_at', z_pulled', z_tryAt') → W p l e rm_X9_second s m args below meth c H locs 0 0 Q (F0 m 147 ls []) := by
          intro y4_4 z_eaten_4 z_w_4 z_pulled_4 z_tryAt_4 H locs ls hP hD hS hl hf
          have hf := hJ147_4 _ _ _ _ _ hf
          refine lv_iinc (v := (y5_2 + (1 : Int32))) (lv' := [(5, .int (y5_2 + (1 : Int32))), (0, .ref qz), (1, .int n1), (2, .int n2), (3, .int n3), (4, .int y4_4)]) hx hb dX9_second_147 hl (k := 5) rfl rfl (by decide) rfl (fun ls hl => ?_)
          refine lv_goto (tgt := 6) hx hb dX9_second_150 (by decide) ?_
          exact ih _ _ _ _ _ _ _ _ _ _ hP hD hS (lv_sub hl [1, 2, 3, 4, 5, 0] rfl) (hrec2 _ _ _ _ _ _ _ hf)
        refine lv_if_eq (tgt := 147) hx hb dX9_second_21 (by decide) (fun h9 => ?_) (fun h9 => ?_)
        · have hf := pg_t h9 hf
          exact WJ147_4 _ _ _ _ _ _ _ _ hP hD hS hl hf
        · have hf := pg_f h9 hf
          refine lv_iconst (v := (0 : Int32)) hx hb dX9_second_24 (by decide) ?_
          refine lv_istore (lv' := [(6, .int (0 : Int32)), (0, .ref qz), (1, .int n1), (2, .int n2), (3, .int n3), (4, .int y4_2), (5, .int y5_2)]) hx hb dX9_second_25 hl (by decide) rfl (fun ls hl => ?_)
          obtain ⟨K54_5, hK54_5, hf⟩ := jn1_s hf
          have WK54_5 : ∀ (z_w_5 : Nat → Int32) (H : Heap) (locs : List Loc) (ls : Array Slot), va_P (dC, dI) vwCl (W_X9z cI cZ cII qz qz_text qz_t qz_draft qz_s qz_kept qz_isKept qz_times qz_w qz_at qz_pulled qz_best qz_cartRow qz_tryRow qz_pairs qz_from qz_then qz_tryAt z_thrown z_typed z_next z_token z_place z_value z_figures z_fault z_faultAt z_timeMany z_eaten_2 z_half z_bestMinutes z_bestOats z_isDue z_text z_t z_draft z_s z_kept z_isKept z_times z_w_5 z_at_3 z_pulled_2 z_best z_cartRow z_tryRow z_pairs z_from z_then z_tryAt_2) H → va_D A (W_X9z cI cZ cII qz qz_text qz_t qz_draft qz_s qz_kept qz_isKept qz_times qz_w qz_at qz_pulled qz_best qz_cartRow qz_tryRow qz_pairs qz_from qz_then qz_tryAt z_thrown z_typed z_next z_token z_place z_value z_figures z_fault z_faultAt z_timeMany z_eaten_2 z_half z_bestMinutes z_bestOats z_isDue z_text z_t z_draft z_s z_kept z_isKept z_times z_w_5 z_at_3 z_pulled_2 z_best z_cartRow z_tryRow z_pairs z_from z_then z_tryAt_2) → va_S A s.heap H locs → lv_has ls 7 [(0, .ref qz), (1, .int n1), (2, .int n2), (3, .int n3), (4, .int y4_2), (5, .int y5_2)] → K54_5 z_w_5 = some (rr, z_eaten', z_w', z_at', z_pulled', z_tryAt') → W p l e rm_X9_second s m args below meth c H locs 0 0 Q (F0 m 54 ls []) := by
            intro z_w_5 H locs ls hP hD hS hl hf
            have hf := hK54_5 _ hf
            refine lv_aload_n hx hb dX9_second_54 rfl (lv_at hl 0 rfl) ?_
            refine lv_iload_n hx hb dX9_second_55 rfl (lv_at hl 1 rfl) ?_
            refine lv_iload_n hx hb dX9_second_56 rfl (lv_at hl 2 rfl) ?_
            obtain ⟨r_6, z_eaten_6, z_w_6, z_pulled_6, hc, hf⟩ := bn4_s hf
            refine pg_cVi (As := [.int n1, .int n2]) (rest := []) (wf := (W_X9z cI cZ cII qz qz_text qz_t qz_draft qz_s qz_kept qz_isKept qz_times qz_w qz_at qz_pulled qz_best qz_cartRow qz_tryRow qz_pairs qz_from qz_then qz_tryAt z_thrown z_typed z_next z_token z_place z_value z_figures z_fault z_faultAt z_timeMany z_eaten_6 z_half z_bestMinutes z_bestOats z_isDue z_text z_t z_draft z_s z_kept z_isKept z_times z_w_6 z_at_3 z_pulled_6 z_best z_cartRow z_tryRow z_pairs z_from z_then z_tryAt_2)) ⟨hx, hb, hml, hown, hw⟩ (c_X9_crosses l dC dI cI cZ cII qz qz_text qz_t qz_draft qz_s qz_kept qz_isKept qz_times qz_w qz_at qz_pulled qz_best qz_cartRow qz_tryRow qz_pairs qz_from qz_then qz_tryAt H.size z_thrown z_typed z_next z_token z_place z_value z_figures z_fault z_faultAt z_timeMany z_eaten_2 z_half z_bestMinutes z_bestOats z_isDue z_text z_t z_draft z_s z_kept z_isKept z_times z_w_5 z_at_3 z_pulled_2 z_best z_cartRow z_tryRow z_pairs z_from z_then z_tryAt_2 n1 n2 r_6 z_eaten_6 z_w_6 z_pulled_6 hc) (cwV 2 hts (wM_V mw_31_1 mw_31_2 mw_31_3 mw_1_5 mw_31_4) rfl rfl rfl dk_X9_crosses ⟨Nat.le_of_ble_eq_true rfl, Nat.le_of_ble_eq_true rfl⟩) hK hP hD hS hA 9 0 rfl rfl rfl [0, 1, 2, 3, 4, 5, 6, 7, 8, 9, 10, 11, 12, 13, 14, 15, 16, 17] [] [0, 1, 2, 3, 4, 5, 6, 7, 8, 9, 10, 11, 12, 13, 14, 15, 16, 17] (plC_64 cI cZ cII qz qz_text qz_t qz_draft qz_s qz_kept qz_isKept qz_times qz_w qz_at qz_pulled qz_best qz_cartRow qz_tryRow qz_pairs qz_from qz_then qz_tryAt z_thrown z_typed z_next z_token z_place z_value z_figures z_fault z_faultAt z_timeMany z_eaten_2 z_half z_bestMinutes z_bestOats z_isDue z_text z_t z_draft z_s z_kept z_isKept z_times z_w_5 z_at_3 z_pulled_2 z_best z_cartRow z_tryRow z_pairs z_from z_then z_tryAt_2) rfl (plF_64 cI cZ cII qz qz_text qz_t qz_draft qz_s qz_kept qz_isKept qz_times qz_w qz_at qz_pulled qz_best qz_cartRow qz_tryRow qz_pairs qz_from qz_then qz_tryAt z_thrown z_typed z_next z_token z_place z_value z_figures z_fault z_faultAt z_timeMany z_eaten_2 z_half z_bestMinutes z_bestOats z_isDue z_text z_t z_draft z_s z_kept z_isKept z_times z_w_5 z_at_3 z_pulled_2 z_best z_cartRow z_tryRow z_pairs z_from z_then z_tryAt_2 z_thrown z_typed z_next z_token z_place z_value z_figures z_fault z_faultAt z_timeMany z_eaten_6 z_half z_bestMinutes z_bestOats z_isDue z_text z_t z_draft z_s z_kept z_isKept z_times z_w_6 z_at_3 z_pulled_6 z_best z_cartRow z_tryRow z_pairs z_from z_then z_tryAt_2) (by decide) rfl hl.1 rfl (Nat.le_of_ble_eq_true rfl) dX9_second_57 ⟨Nat.zero_le _, Nat.zero_le _⟩ (fun H locs hP hD hS => ?_)
            refine lv_istore (lv' := [(6, .int r_6), (0, .ref qz), (1, .int n1), (2, .int n2), (3, .int n3), (4, .int y4_2), (5, .int y5_2)]) hx hb dX9_second_60 hl (by decide) rfl (fun ls hl => ?_)
            refine lv_iload hx hb dX9_second_62 (lv_at hl 0 rfl) ?_
            refine lv_iconst (v := (1 : Int32)) hx hb dX9_second_64 (by decide) ?_
            refine lv_aload_n hx hb dX9_second_65 rfl (lv_at hl 1 rfl) ?_
            refine va_get (D := (dC, dI)) (ci := 9) (v := .ref qz_t) (C := RX9) (T := TX9) (N := 32) hx hb hw inlX9 hown hK hP 0 rfl rfl 10 (by decide) (hw _ mw_6_1) (fun _ h9 => h9) rfl dX9_second_66 ?_
            refine lv_iconst (v := (5 : Int32)) hx hb dX9_second_69 (by decide) ?_
            refine va_iald hx hb hK hP 2 0 rfl rfl (pg_lit (by decide)) dX9_second_70 ?_
            obtain ⟨r_7, hc, hf⟩ := bn1_s hf
            refine pg_cSi (As := [.int r_6, .int (1 : Int32), .int (z_t ((5 : Int32)).toNatClampNeg)]) (rest := []) (wf := (W_X9z cI cZ cII qz qz_text qz_t qz_draft qz_s qz_kept qz_isKept qz_times qz_w qz_at qz_pulled qz_best qz_cartRow qz_tryRow qz_pairs qz_from qz_then qz_tryAt z_thrown z_typed z_next z_token z_place z_value z_figures z_fault z_faultAt z_timeMany z_eaten_6 z_half z_bestMinutes z_bestOats z_isDue z_text z_t z_draft z_s z_kept z_isKept z_times z_w_6 z_at_3 z_pulled_6 z_best z_cartRow z_tryRow z_pairs z_from z_then z_tryAt_2)) ⟨hx, hb, hml, hown, hw⟩ (c_X9_in l dC dI cI cZ cII  H.size  r_6 (1 : Int32) (z_t ((5 : Int32)).toNatClampNeg) r_7 hc) (va_cwS 3 hts (wM_S mw_8_0 mw_8_1 mw_1_5 mw_8_2) rfl rfl rfl dk_X9_in ⟨Nat.le_of_ble_eq_true rfl, Nat.le_of_ble_eq_true rfl⟩) hK hP hD hS hA [] [0, 1, 2, 3, 4, 5, 6, 7, 8, 9, 10, 11, 12, 13, 14, 15, 16, 17] [0, 1, 2, 3, 4, 5, 6, 7, 8, 9, 10, 11, 12, 13, 14, 15, 16, 17] (plC_62 cI cZ cII qz qz_text qz_t qz_draft qz_s qz_kept qz_isKept qz_times qz_w qz_at qz_pulled qz_best qz_cartRow qz_tryRow qz_pairs qz_from qz_then qz_tryAt z_thrown z_typed z_next z_token z_place z_value z_figures z_fault z_faultAt z_timeMany z_eaten_6 z_half z_bestMinutes z_bestOats z_isDue z_text z_t z_draft z_s z_kept z_isKept z_times z_w_6 z_at_3 z_pulled_6 z_best z_cartRow z_tryRow z_pairs z_from z_then z_tryAt_2) rfl (plF_62 cI cZ cII qz qz_text qz_t qz_draft qz_s qz_kept qz_isKept qz_times qz_w qz_at qz_pulled qz_best qz_cartRow qz_tryRow qz_pairs qz_from qz_then qz_tryAt z_thrown z_typed z_next z_token z_place z_value z_figures z_fault z_faultAt z_timeMany z_eaten_6 z_half z_bestMinutes z_bestOats z_isDue z_text z_t z_draft z_s z_kept z_isKept z_times z_w_6 z_at_3 z_pulled_6 z_best z_cartRow z_tryRow z_pairs z_from z_then z_tryAt_2 ) (by decide) rfl hl.1 rfl (Nat.le_of_ble_eq_true rfl) dX9_second_71 ⟨Nat.zero_le _, Nat.zero_le _⟩ (fun H locs hP hD hS => ?_)
            refine lv_if_eq (tgt := 147) hx hb dX9_second_74 (by decide) (fun h9 => ?_) (fun h9 => ?_)
            · have hf := pg_t h9 hf
              exact WJ147_4 _ _ _ _ _ _ _ _ hP hD hS (lv_sub hl [1, 2, 3, 4, 5, 6] rfl) hf
            · have hf := pg_f h9 hf
              refine lv_iload hx hb dX9_second_77 (lv_at hl 5 rfl) ?_
              refine lv_iconst (v := (-1 : Int32)) hx hb dX9_second_79 (by decide) ?_
              obtain ⟨J92_8, hJ92_8, hf⟩ := jn1_s hf
              have WJ92_8 : ∀ (u_8 : Unit) (H : Heap) (locs : List Loc) (ls : Array Slot), va_P (dC, dI) vwCl (W_X9z cI cZ cII qz qz_text qz_t qz_draft qz_s qz_kept qz_isKept qz_times qz_w qz_at qz_pulled qz_best qz_cartRow qz_tryRow qz_pairs qz_from qz_then qz_tryAt z_thrown z_typed z_next z_token z_place z_value z_figures z_fault z_faultAt z_timeMany z_eaten_6 z_half z_bestMinutes z_bestOats z_isDue z_text z_t z_draft z_s z_kept z_isKept z_times z_w_6 z_at_3 z_pulled_6 z_best z_cartRow z_tryRow z_pairs z_from z_then z_tryAt_2) H → va_D A (W_X9z cI cZ cII qz qz_text qz_t qz_draft qz_s qz_kept qz_isKept qz_times qz_w qz_at qz_pulled qz_best qz_cartRow qz_tryRow qz_pairs qz_from qz_then qz_tryAt z_thrown z_typed z_next z_token z_place z_value z_figures z_fault z_faultAt z_timeMany z_eaten_6 z_half z_bestMinutes z_bestOats z_isDue z_text z_t z_draft z_s z_kept z_isKept z_times z_w_6 z_at_3 z_pulled_6 z_best z_cartRow z_tryRow z_pairs z_from z_then z_tryAt_2) → va_S A s.heap H locs → lv_has ls 7 [(0, .ref qz), (1, .int n1), (2, .int n2), (3, .int n3), (4, .int y4_2), (5, .int y5_2)] → J92_8 u_8 = some (rr, z_eaten', z_w', z_at', z_pulled', z_tryAt') → W p l e rm_X9_second s m args below meth c H locs 0 0 Q (F0 m 92 ls []) := by
                intro u_8 H locs ls hP hD hS hl hf
                have hf := hJ92_8 _ hf
                refine lv_iload_n hx hb dX9_second_92 rfl (lv_at hl 3 rfl) ?_
                refine lv_iconst (v := (-1 : Int32)) hx hb dX9_second_93 (by decide) ?_
                obtain ⟨J105_9, hJ105_9, hf⟩ := jn1_s hf
                have WJ105_9 : ∀ (u_9 : Unit) (H : Heap) (locs : List Loc) (ls : Array Slot), va_P (dC, dI) vwCl (W_X9z cI cZ cII qz qz_text qz_t qz_draft qz_s qz_kept qz_isKept qz_times qz_w qz_at qz_pulled qz_best qz_cartRow qz_tryRow qz_pairs qz_from qz_then qz_tryAt z_thrown z_typed z_next z_token z_place z_value z_figures z_fault z_faultAt z_timeMany z_eaten_6 z_half z_bestMinutes z_bestOats z_isDue z_text z_t z_draft z_s z_kept z_isKept z_times z_w_6 z_at_3 z_pulled_6 z_best z_cartRow z_tryRow z_pairs z_from z_then z_tryAt_2) H → va_D A (W_X9z cI cZ cII qz qz_text qz_t qz_draft qz_s qz_kept qz_isKept qz_times qz_w qz_at qz_pulled qz_best qz_cartRow qz_tryRow qz_pairs qz_from qz_then qz_tryAt z_thrown z_typed z_next z_token z_place z_value z_figures z_fault z_faultAt z_timeMany z_eaten_6 z_half z_bestMinutes z_bestOats z_isDue z_text z_t z_draft z_s z_kept z_isKept z_times z_w_6 z_at_3 z_pulled_6 z_best z_cartRow z_tryRow z_pairs z_from z_then z_tryAt_2) → va_S A s.heap H locs → lv_has ls 7 [(0, .ref qz), (1, .int n1), (2, .int n2), (3, .int n3), (5, .int y5_2)] → J105_9 u_9 = some (rr, z_eaten', z_w', z_at', z_pulled', z_tryAt') → W p l e rm_X9_second s m args below meth c H locs 0 0 Q (F0 m 105 ls []) := by
                  intro u_9 H locs ls hP hD hS hl hf
                  have hf := hJ105_9 _ hf
                  refine lv_aload_n hx hb dX9_second_105 rfl (lv_at hl 0 rfl) ?_
                  refine va_get (D := (dC, dI)) (ci := 9) (v := .int z_eaten_6) (C := RX9) (T := TX9) (N := 32) hx hb hw inlX9 hown hK hP 0 rfl rfl 20 (by decide) (hw _ mw_30_23) (fun _ h9 => h9) rfl dX9_second_106 ?_
                  refine lv_istore (lv' := [(4, .int z_eaten_6), (0, .ref qz), (1, .int n1), (2, .int n2), (3, .int n3), (5, .int y5_2)]) hx hb dX9_second_109 hl (by decide) rfl (fun ls hl => ?_)
                  refine lv_aload_n hx hb dX9_second_111 rfl (lv_at hl 1 rfl) ?_
                  refine va_get (D := (dC, dI)) (ci := 9) (v := .ref qz_tryAt) (C := RX9) (T := TX9) (N := 32) hx hb hw inlX9 hown hK hP 0 rfl rfl 31 (by decide) (hw _ mw_6_18) (fun _ h9 => h9) rfl dX9_second_112 ?_
                  refine lv_iconst (v := (0 : Int32)) hx hb dX9_second_115 (by decide) ?_
                  refine lv_aload_n hx hb dX9_second_116 rfl (lv_at hl 1 rfl) ?_
                  refine va_get (D := (dC, dI)) (ci := 9) (v := .ref qz_at) (C := RX9) (T := TX9) (N := 32) hx hb hw inlX9 hown hK hP 0 rfl rfl 18 (by decide) (hw _ mw_6_9) (fun _ h9 => h9) rfl dX9_second_117 ?_
                  refine lv_iconst (v := (0 : Int32)) hx hb dX9_second_120 (by decide) ?_
                  refine va_iald hx hb hK hP 9 0 rfl rfl (pg_lit (by decide)) dX9_second_121 ?_
                  refine va_iast hx hb hK hP hD hS 17 0 rfl rfl (pg_lit (by decide)) dX9_second_122 (fun H locs hP hD hS => ?_)
                  have hP : va_P (dC, dI) vwCl (W_X9z cI cZ cII qz qz_text qz_t qz_draft qz_s qz_kept qz_isKept qz_times qz_w qz_at qz_pulled qz_best qz_cartRow qz_tryRow qz_pairs qz_from qz_then qz_tryAt z_thrown z_typed z_next z_token z_place z_value z_figures z_fault z_faultAt z_timeMany z_eaten_6 z_half z_bestMinutes z_bestOats z_isDue z_text z_t z_draft z_s z_kept z_isKept z_times z_w_6 z_at_3 z_pulled_6 z_best z_cartRow z_tryRow z_pairs z_from z_then (upd z_tryAt_2 ((0 : Int32)).toNatClampNeg (z_at_3 ((0 : Int32)).toNatClampNeg))) H := hP
                  have hD : va_D A (W_X9z cI cZ cII qz qz_text qz_t qz_draft qz_s qz_kept qz_isKept qz_times qz_w qz_at qz_pulled qz_best qz_cartRow qz_tryRow qz_pairs qz_from qz_then qz_tryAt z_thrown z_typed z_next z_token z_place z_value z_figures z_fault z_faultAt z_timeMany z_eaten_6 z_half z_bestMinutes z_bestOats z_isDue z_text z_t z_draft z_s z_kept z_isKept z_times z_w_6 z_at_3 z_pulled_6 z_best z_cartRow z_tryRow z_pairs z_from z_then (upd z_tryAt_2 ((0 : Int32)).toNatClampNeg (z_at_3 ((0 : Int32)).toNatClampNeg))) := hD
                  refine lv_aload_n hx hb dX9_second_123 rfl (lv_at hl 1 rfl) ?_
                  refine va_get (D := (dC, dI)) (ci := 9) (v := .ref qz_tryAt) (C := RX9) (T := TX9) (N := 32) hx hb hw inlX9 hown hK hP 0 rfl rfl 31 (by decide) (hw _ mw_6_18) (fun _ h9 => h9) rfl dX9_second_124 ?_
                  refine lv_iconst (v := (1 : Int32)) hx hb dX9_second_127 (by decide) ?_
                  refine lv_aload_n hx hb dX9_second_128 rfl (lv_at hl 1 rfl) ?_
                  refine va_get (D := (dC, dI)) (ci := 9) (v := .ref qz_at) (C := RX9) (T := TX9) (N := 32) hx hb hw inlX9 hown hK hP 0 rfl rfl 18 (by decide) (hw _ mw_6_9) (fun _ h9 => h9) rfl dX9_second_129 ?_
                  refine lv_iconst (v := (1 : Int32)) hx hb dX9_second_132 (by decide) ?_
                  refine va_iald hx hb hK hP 9 0 rfl rfl (pg_lit (by decide)) dX9_second_133 ?_
                  refine va_iast hx hb hK hP hD hS 17 0 rfl rfl (pg_lit (by decide)) dX9_second_134 (fun H locs hP hD hS => ?_)
                  have hP : va_P (dC, dI) vwCl (W_X9z cI cZ cII qz qz_text qz_t qz_draft qz_s qz_kept qz_isKept qz_times qz_w qz_at qz_pulled qz_best qz_cartRow qz_tryRow qz_pairs qz_from qz_then qz_tryAt z_thrown z_typed z_next z_token z_place z_value z_figures z_fault z_faultAt z_timeMany z_eaten_6 z_half z_bestMinutes z_bestOats z_isDue z_text z_t z_draft z_s z_kept z_isKept z_times z_w_6 z_at_3 z_pulled_6 z_best z_cartRow z_tryRow z_pairs z_from z_then (upd (upd z_tryAt_2 ((0 : Int32)).toNatClampNeg (z_at_3 ((0 : Int32)).toNatClampNeg)) ((1 : Int32)).toNatClampNeg (z_at_3 ((1 : Int32)).toNatClampNeg))) H := hP
                  have hD : va_D A (W_X9z cI cZ cII qz qz_text qz_t qz_draft qz_s qz_kept qz_isKept qz_times qz_w qz_at qz_pulled qz_best qz_cartRow qz_tryRow qz_pairs qz_from qz_then qz_tryAt z_thrown z_typed z_next z_token z_place z_value z_figures z_fault z_faultAt z_timeMany z_eaten_6 z_half z_bestMinutes z_bestOats z_isDue z_text z_t z_draft z_s z_kept z_isKept z_times z_w_6 z_at_3 z_pulled_6 z_best z_cartRow z_tryRow z_pairs z_from z_then (upd (upd z_tryAt_2 ((0 : Int32)).toNatClampNeg (z_at_3 ((0 : Int32)).toNatClampNeg)) ((1 : Int32)).toNatClampNeg (z_at_3 ((1 : Int32)).toNatClampNeg))) := hD
                  refine lv_aload_n hx hb dX9_second_135 rfl (lv_at hl 1 rfl) ?_
                  refine va_get (D := (dC, dI)) (ci := 9) (v := .ref qz_tryAt) (C := RX9) (T := TX9) (N := 32) hx hb hw inlX9 hown hK hP 0 rfl rfl 31 (by decide) (hw _ mw_6_18) (fun _ h9 => h9) rfl dX9_second_136 ?_
                  refine lv_iconst (v := (2 : Int32)) hx hb dX9_second_139 (by decide) ?_
                  refine lv_aload_n hx hb dX9_second_140 rfl (lv_at hl 1 rfl) ?_
                  refine va_get (D := (dC, dI)) (ci := 9) (v := .ref qz_at) (C := RX9) (T := TX9) (N := 32) hx hb hw inlX9 hown hK hP 0 rfl rfl 18 (by decide) (hw _ mw_6_9) (fun _ h9 => h9) rfl dX9_second_141 ?_
                  refine lv_iconst (v := (2 : Int32)) hx hb dX9_second_144 (by decide) ?_
                  refine va_iald hx hb hK hP 9 0 rfl rfl (pg_lit (by decide)) dX9_second_145 ?_
                  refine va_iast hx hb hK hP hD hS 17 0 rfl rfl (pg_lit (by decide)) dX9_second_146 (fun H locs hP hD hS => ?_)
                  have hP : va_P (dC, dI) vwCl (W_X9z cI cZ cII qz qz_text qz_t qz_draft qz_s qz_kept qz_isKept qz_times qz_w qz_at qz_pulled qz_best qz_cartRow qz_tryRow qz_pairs qz_from qz_then qz_tryAt z_thrown z_typed z_next z_token z_place z_value z_figures z_fault z_faultAt z_timeMany z_eaten_6 z_half z_bestMinutes z_bestOats z_isDue z_text z_t z_draft z_s z_kept z_isKept z_times z_w_6 z_at_3 z_pulled_6 z_best z_cartRow z_tryRow z_pairs z_from z_then (upd (upd (upd z_tryAt_2 ((0 : Int32)).toNatClampNeg (z_at_3 ((0 : Int32)).toNatClampNeg)) ((1 : Int32)).toNatClampNeg (z_at_3 ((1 : Int32)).toNatClampNeg)) ((2 : Int32)).toNatClampNeg (z_at_3 ((2 : Int32)).toNatClampNeg))) H := hP
                  have hD : va_D A (W_X9z cI cZ cII qz qz_text qz_t qz_draft qz_s qz_kept qz_isKept qz_times qz_w qz_at qz_pulled qz_best qz_cartRow qz_tryRow qz_pairs qz_from qz_then qz_tryAt z_thrown z_typed z_next z_token z_place z_value z_figures z_fault z_faultAt z_timeMany z_eaten_6 z_half z_bestMinutes z_bestOats z_isDue z_text z_t z_draft z_s z_kept z_isKept z_times z_w_6 z_at_3 z_pulled_6 z_best z_cartRow z_tryRow z_pairs z_from z_then (upd (upd (upd z_tryAt_2 ((0 : Int32)).toNatClampNeg (z_at_3 ((0 : Int32)).toNatClampNeg)) ((1 : Int32)).toNatClampNeg (z_at_3 ((1 : Int32)).toNatClampNeg)) ((2 : Int32)).toNatClampNeg (z_at_3 ((2 : Int32)).toNatClampNeg))) := hD
                  exact WJ147_4 _ _ _ _ _ _ _ _ hP hD hS (lv_sub hl [1, 2, 3, 4, 0, 5] rfl) hf
                refine lv_icmp_eq (tgt := 105) hx hb dX9_second_94 (by decide) (fun h9 => ?_) (fun h9 => ?_)
                · have hf := pg_t h9 hf
                  exact WJ105_9 _ _ _ _ hP hD hS (lv_sub hl [0, 1, 2, 3, 5] rfl) hf
                · have hf := pg_f h9 hf
                  refine lv_aload_n hx hb dX9_second_97 rfl (lv_at hl 0 rfl) ?_
                  refine va_get (D := (dC, dI)) (ci := 9) (v := .int z_eaten_6) (C := RX9) (T := TX9) (N := 32) hx hb hw inlX9 hown hK hP 0 rfl rfl 20 (by decide) (hw _ mw_30_23) (fun _ h9 => h9) rfl dX9_second_98 ?_
                  refine lv_iload_n hx hb dX9_second_101 rfl (lv_at hl 3 rfl) ?_
                  refine lv_icmp_ge (tgt := 147) hx hb dX9_second_102 (by decide) (fun h9 => ?_) (fun h9 => ?_)
                  · have hf := pg_t h9 hf
                    exact WJ147_4 _ _ _ _ _ _ _ _ hP hD hS hl hf
                  · have hf := pg_f h9 hf
                    exact WJ105_9 _ _ _ _ hP hD hS (lv_sub hl [0, 1, 2, 3, 5] rfl) hf
              refine lv_icmp_eq (tgt := 92) hx hb dX9_second_80 (by decide) (fun h9 => ?_) (fun h9 => ?_)
              · have hf := pg_t h9 hf
                exact WJ92_8 _ _ _ _ hP hD hS (lv_sub hl [1, 2, 3, 4, 5, 6] rfl) hf
              · have hf := pg_f h9 hf
                refine lv_aload_n hx hb dX9_second_83 rfl (lv_at hl 1 rfl) ?_
                refine va_get (D := (dC, dI)) (ci := 9) (v := .int z_eaten_6) (C := RX9) (T := TX9) (N := 32) hx hb hw inlX9 hown hK hP 0 rfl rfl 20 (by decide) (hw _ mw_30_23) (fun _ h9 => h9) rfl dX9_second_84 ?_
                refine lv_iload hx hb dX9_second_87 (lv_at hl 5 rfl) ?_
                refine lv_icmp_ge (tgt := 147) hx hb dX9_second_89 (by decide) (fun h9 => ?_) (fun h9 => ?_)
                · have hf := pg_t h9 hf
                  exact WJ147_4 _ _ _ _ _ _ _ _ hP hD hS (lv_sub hl [1, 2, 3, 4, 5, 6] rfl) hf
                · have hf := pg_f h9 hf
                  exact WJ92_8 _ _ _ _ hP hD hS (lv_sub hl [1, 2, 3, 4, 5, 6] rfl) hf
          obtain ⟨B10, hB10, hf⟩ := lq2_n hf
          have WL10 : ∀ (n9 : Nat) (y6_10 : Int32) (z_w_10 : Nat → Int32) (H : Heap) (locs : List Loc) (ls : Array Slot), va_P (dC, dI) vwCl (W_X9z cI cZ cII qz qz_text qz_t qz_draft qz_s qz_kept qz_isKept qz_times qz_w qz_at qz_pulled qz_best qz_cartRow qz_tryRow qz_pairs qz_from qz_then qz_tryAt z_thrown z_typed z_next z_token z_place z_value z_figures z_fault z_faultAt z_timeMany z_eaten_2 z_half z_bestMinutes z_bestOats z_isDue z_text z_t z_draft z_s z_kept z_isKept z_times z_w_10 z_at_3 z_pulled_2 z_best z_cartRow z_tryRow z_pairs z_from z_then z_tryAt_2) H → va_D A (W_X9z cI cZ cII qz qz_text qz_t qz_draft qz_s qz_kept qz_isKept qz_times qz_w qz_at qz_pulled qz_best qz_cartRow qz_tryRow qz_pairs qz_from qz_then qz_tryAt z_thrown z_typed z_next z_token z_place z_value z_figures z_fault z_faultAt z_timeMany z_eaten_2 z_half z_bestMinutes z_bestOats z_isDue z_text z_t z_draft z_s z_kept z_isKept z_times z_w_10 z_at_3 z_pulled_2 z_best z_cartRow z_tryRow z_pairs z_from z_then z_tryAt_2) → va_S A s.heap H locs → lv_has ls 7 [(0, .ref qz), (1, .int n1), (2, .int n2), (3, .int n3), (4, .int y4_2), (5, .int y5_2), (6, .int y6_10)] → lq2 B10 n9 y6_10 z_w_10 = some (rr, z_eaten', z_w', z_at', z_pulled', z_tryAt') → W p l e rm_X9_second s m args below meth c H locs 0 0 Q (F0 m 27 ls []) := by
            intro n9
            induction n9 with
            | zero => intro y6_10 z_w_10 H locs ls hP hD hS hl hf; cases hf
            | succ n9 ih =>
              intro y6_10 z_w_10 H locs ls hP hD hS hl hf
              obtain ⟨rec10, hrec10, hf⟩ := lq2_s hf
              have hf := hB10 rec10 _ _ hf
              refine lv_iload hx hb dX9_second_27 (lv_at hl 6 rfl) ?_
              refine lv_bipush (v := (6 : Int32)) hx hb dX9_second_29 (by decide) ?_
              refine lv_icmp_ge (tgt := 54) hx hb dX9_second_31 (by decide) (fun h9 => ?_) (fun h9 => ?_)
              · have hf := pg_t h9 hf
                exact WK54_5 _ _ _ _ hP hD hS (lv_sub hl [0, 1, 2, 3, 4, 5] rfl) hf
              · have hf := pg_f h9 hf
                refine lv_aload_n hx hb dX9_second_34 rfl (lv_at hl 0 rfl) ?_
                refine va_get (D := (dC, dI)) (ci := 9) (v := .ref qz_w) (C := RX9) (T := TX9) (N := 32) hx hb hw inlX9 hown hK hP 0 rfl rfl 17 (by decide) (hw _ mw_6_8) (fun _ h9 => h9) rfl dX9_second_35 ?_
                refine lv_iload hx hb dX9_second_38 (lv_at hl 6 rfl) ?_
                refine lv_aload_n hx hb dX9_second_40 rfl (lv_at hl 0 rfl) ?_
                refine va_get (D := (dC, dI)) (ci := 9) (v := .ref qz_then) (C := RX9) (T := TX9) (N := 32) hx hb hw inlX9 hown hK hP 0 rfl rfl 30 (by decide) (hw _ mw_6_17) (fun _ h9 => h9) rfl dX9_second_41 ?_
                refine lv_iload hx hb dX9_second_44 (lv_at hl 6 rfl) ?_
                obtain ⟨hi11, hf⟩ := pg_chk hf
                refine va_iald hx hb hK hP 16 0 rfl rfl hi11 dX9_second_46 ?_
                refine va_iast hx hb hK hP hD hS 8 0 rfl rfl hi11 dX9_second_47 (fun H locs hP hD hS => ?_)
                have hP : va_P (dC, dI) vwCl (W_X9z cI cZ cII qz qz_text qz_t qz_draft qz_s qz_kept qz_isKept qz_times qz_w qz_at qz_pulled qz_best qz_cartRow qz_tryRow qz_pairs qz_from qz_then qz_tryAt z_thrown z_typed z_next z_token z_place z_value z_figures z_fault z_faultAt z_timeMany z_eaten_2 z_half z_bestMinutes z_bestOats z_isDue z_text z_t z_draft z_s z_kept z_isKept z_times (upd z_w_10 (y6_10).toNatClampNeg (z_then (y6_10).toNatClampNeg)) z_at_3 z_pulled_2 z_best z_cartRow z_tryRow z_pairs z_from z_then z_tryAt_2) H := hP
                have hD : va_D A (W_X9z cI cZ cII qz qz_text qz_t qz_draft qz_s qz_kept qz_isKept qz_times qz_w qz_at qz_pulled qz_best qz_cartRow qz_tryRow qz_pairs qz_from qz_then qz_tryAt z_thrown z_typed z_next z_token z_place z_value z_figures z_fault z_faultAt z_timeMany z_eaten_2 z_half z_bestMinutes z_bestOats z_isDue z_text z_t z_draft z_s z_kept z_isKept z_times (upd z_w_10 (y6_10).toNatClampNeg (z_then (y6_10).toNatClampNeg)) z_at_3 z_pulled_2 z_best z_cartRow z_tryRow z_pairs z_from z_then z_tryAt_2) := hD
                refine lv_iinc (v := (y6_10 + (1 : Int32))) (lv' := [(6, .int (y6_10 + (1 : Int32))), (0, .ref qz), (1, .int n1), (2, .int n2), (3, .int n3), (4, .int y4_2), (5, .int y5_2)]) hx hb dX9_second_48 hl (k := 6) rfl rfl (by decide) rfl (fun ls hl => ?_)
                refine lv_goto (tgt := 27) hx hb dX9_second_51 (by decide) ?_
                exact ih _ _ _ _ _ hP hD hS (lv_sub hl [1, 2, 3, 4, 5, 6, 0] rfl) (hrec10 _ _ hf)
          exact WL10 fu _ _ _ _ _ hP hD hS (lv_sub hl [1, 2, 3, 4, 5, 6, 0] rfl) hf
  exact WL2 fu _ _ _ _ _ _ _ _ _ _ hP hD hS (lv_sub hl [2, 3, 4, 5, 1, 0] rfl) hf
def f_X9_both (n1 : Int32) (z_eaten : Int32) (z_half : Int32) (z_t : Nat → Int32) (z_s : Nat → Int32) (z_w : Nat → Int32) (z_at : Nat → Int32) (z_pulled : Nat → Int32) (z_best : Nat → Int32) (z_from : Nat → Int32) (z_then : Nat → Int32) (z_tryAt : Nat → Int32) : Option (Int32 × Int32 × (Nat → Int32) × (Nat → Int32) × (Nat → Int32) × (Nat → Int32) × (Nat → Int32) × (Nat → Int32) × (Nat → Int32)) :=
  bn1 (f_X9_fromNow z_s z_from) (fun (z_from_1 : Nat → Int32) =>
    jn8 (fun (y2_2 : Int32) (z_eaten_2 : Int32) (z_w_2 : Nat → Int32) (z_at_2 : Nat → Int32) (z_pulled_2 : Nat → Int32) (z_best_2 : Nat → Int32) (z_then_2 : Nat → Int32) (z_tryAt_2 : Nat → Int32) =>
      some (y2_2, z_eaten_2, z_w_2, z_at_2, z_pulled_2, z_best_2, z_from_1, z_then_2, z_tryAt_2)
    ) (fun K223_2 =>
    lq9 (fun rec3 (y2_3 : Int32) (y3_3 : Int32) (z_eaten_3 : Int32) (z_w_3 : Nat → Int32) (z_at_3 : Nat → Int32) (z_pulled_3 : Nat → Int32) (z_best_3 : Nat → Int32) (z_then_3 : Nat → Int32) (z_tryAt_3 : Nat → Int32) =>
      if (343 : Int32) ≤ y3_3 then
        K223_2 y2_3 z_eaten_3 z_w_3 z_at_3 z_pulled_3 z_best_3 z_then_3 z_tryAt_3
      else
        bn2 (f_X9_puts y3_3 (-1 : Int32) z_t z_at_3) (fun (r_4 : Int32) (z_at_4 : Nat → Int32) =>
          jn4 (fun (y5_5 : Int32) (z_eaten_5 : Int32) (z_w_5 : Nat → Int32) (z_pulled_5 : Nat → Int32) =>
            jn8 (fun (y2_6 : Int32) (z_eaten_6 : Int32) (z_w_6 : Nat → Int32) (z_at_6 : Nat → Int32) (z_pulled_6 : Nat → Int32) (z_best_6 : Nat → Int32) (z_then_6 : Nat → Int32) (z_tryAt_6 : Nat → Int32) =>
              rec3 y2_6 (y3_3 + (1 : Int32)) z_eaten_6 z_w_6 z_at_6 z_pulled_6 z_best_6 z_then_6 z_tryAt_6
            ) (fun J217_6 =>
            if r_4 = 0 then
              J217_6 y2_3 z_eaten_5 z_w_5 z_at_4 z_pulled_5 z_best_3 z_then_3 z_tryAt_3
            else
              bn1 (f_X9_in y5_5 (1 : Int32) (z_t ((5 : Int32)).toNatClampNeg)) (fun (r_7 : Int32) =>
                if r_7 = 0 then
                  J217_6 y2_3 z_eaten_5 z_w_5 z_at_4 z_pulled_5 z_best_3 z_then_3 z_tryAt_3
                else
                  jn1 (fun (u_8 : Unit) =>
                    bn1 (f_X9_rests (1 : Int32) (0 : Int32) z_t z_w_5 z_at_4) (fun (z_w_9 : Nat → Int32) =>
                      jn1 (fun (z_then_10 : Nat → Int32) =>
                        jn1 (fun (z3_11 : Int32) =>
                          bn6 (f_X9_second ((z_s ((9 : Int32)).toNatClampNeg) + (1 : Int32)) n1 z3_11 z_eaten_5 z_half z_t z_w_9 z_at_4 z_pulled_5 z_then_10 z_tryAt_3) (fun (r_12 : Int32) (z_eaten_12 : Int32) (z_w_12 : Nat → Int32) (z_at_12 : Nat → Int32) (z_pulled_12 : Nat → Int32) (z_tryAt_12 : Nat → Int32) =>
                            if r_12 = (-1 : Int32) then
                              J217_6 y2_3 z_eaten_12 z_w_12 z_at_12 z_pulled_12 z_best_3 z_then_10 z_tryAt_12
                            else
                              bn2 (f_X9_puts y3_3 (-1 : Int32) z_t z_at_12) (fun (r_13 : Int32) (z_at_13 : Nat → Int32) =>
                                lq2 (fun rec15 (y8_15 : Int32) (z_best_15 : Nat → Int32) =>
                                  if (3 : Int32) ≤ y8_15 then
                                    J217_6 (z_eaten_5 + r_12) z_eaten_12 z_w_12 z_at_13 z_pulled_12 z_best_15 z_then_10 z_tryAt_12
                                  else
                                    if y8_15 < 0 ∨ 3 ≤ (y8_15).toNatClampNeg then none else
                                    if y8_15 < 0 ∨ 6 ≤ (y8_15).toNatClampNeg then none else
                                    if ((3 : Int32) + y8_15) < 0 ∨ 6 ≤ (((3 : Int32) + y8_15)).toNatClampNeg then none else
                                    rec15 (y8_15 + (1 : Int32)) (upd (upd z_best_15 (y8_15).toNatClampNeg (z_at_13 (y8_15).toNatClampNeg)) (((3 : Int32) + y8_15)).toNatClampNeg (z_tryAt_12 (y8_15).toNatClampNeg))
                                ) fu (0 : Int32) z_best_3
                              )
                          )
                        ) (fun J148_11 =>
                        if y2_3 = (-1 : Int32) then
                          J148_11 (-1 : Int32)
                        else
                          J148_11 (y2_3 - z_eaten_5)
                        )
                      ) (fun K124_10 =>
                      lq2 (fun rec19 (y7_19 : Int32) (z_then_19 : Nat → Int32) =>
                        if (6 : Int32) ≤ y7_19 then
                          K124_10 z_then_19
                        else
                          if y7_19 < 0 ∨ 6 ≤ (y7_19).toNatClampNeg then none else
                          rec19 (y7_19 + (1 : Int32)) (upd z_then_19 (y7_19).toNatClampNeg (z_w_9 (y7_19).toNatClampNeg))
                      ) fu (0 : Int32) z_then_3
                      )
                    )
                  ) (fun J82_8 =>
                  if y2_3 = (-1 : Int32) then
                    J82_8 ()
                  else
                    if y2_3 ≤ z_eaten_5 then
                      J217_6 y2_3 z_eaten_5 z_w_5 z_at_4 z_pulled_5 z_best_3 z_then_3 z_tryAt_3
                    else
                      J82_8 ()
                  )
              )
            )
          ) (fun J49_5 =>
          if r_4 = 0 then
            J49_5 (0 : Int32) z_eaten_3 z_w_3 z_pulled_3
          else
            bn1 (f_X9_strong z_w_3 z_from_1) (fun (z_w_21 : Nat → Int32) =>
              bn4 (f_X9_crosses (z_s ((9 : Int32)).toNatClampNeg) n1 z_eaten_3 z_half z_t z_w_21 z_at_4 z_pulled_3) (fun (r_22 : Int32) (z_eaten_22 : Int32) (z_w_22 : Nat → Int32) (z_pulled_22 : Nat → Int32) =>
                J49_5 r_22 z_eaten_22 z_w_22 z_pulled_22
              )
            )
          )
        )
    ) fu (-1 : Int32) (1 : Int32) z_eaten z_w z_at z_pulled z_best z_then z_tryAt
    )
  )
abbrev rm_X9_both : Room := { frames := 6, cells := 0, slots := 0, locals := 142 }
theorem dk_X9_both : yX9_both.cls = RX9 ∧ yX9_both.cls ≠ "java/lang/invoke/MethodHandle" ∧ yX9_both.cls ≠ "java/lang/invoke/VarHandle" ∧ (parseMethodDescriptor yX9_both.desc).map (fun d => d.parameters.length) = some 1 := by decide +kernel
set_option maxHeartbeats 4000000 in
set_option maxRecDepth 100000 in
theorem c_X9_both (l : Launch) (dC : Nat → ClassId) (dI : Nat → Nat → Nat) (cI cZ cII : ClassId) (qz qz_text qz_t qz_draft qz_s qz_kept qz_isKept qz_times qz_w qz_at qz_pulled qz_best qz_cartRow qz_tryRow qz_pairs qz_from qz_then qz_tryAt : Nat) (sz : Nat) (z_thrown : Int32) (z_typed : Int32) (z_next : Int32) (z_token : Int32) (z_place : Int32) (z_value : Int32) (z_figures : Int32) (z_fault : Int32) (z_faultAt : Int32) (z_timeMany : Int32) (z_eaten : Int32) (z_half : Int32) (z_bestMinutes : Int32) (z_bestOats : Int32) (z_isDue : Int32) (z_text : Nat → Int32) (z_t : Nat → Int32) (z_draft : Nat → Int32) (z_s : Nat → Int32) (z_kept : Nat → Int32) (z_isKept : Nat → Int32) (z_times : Nat → Int32) (z_w : Nat → Int32) (z_at : Nat → Int32) (z_pulled : Nat → Int32) (z_best : Nat → Int32) (z_cartRow : Nat → Int32) (z_tryRow : Nat → Int32) (z_pairs : Nat → Int32) (z_from : Nat → Int32) (z_then : Nat → Int32) (z_tryAt : Nat → Int32) (n1 : Int32) (rr : Int32) (z_eaten' : Int32) (z_w' : Nat → Int32) (z_at' : Nat → Int32) (z_pulled' : Nat → Int32) (z_best' : Nat → Int32) (z_from' : Nat → Int32) (z_then' : Nat → Int32) (z_tryAt' : Nat → Int32) (hf : f_X9_both n1 z_eaten z_half z_t z_s z_w z_at z_pulled z_best z_from z_then z_tryAt = some (rr, z_eaten', z_w', z_at', z_pulled', z_best', z_from', z_then', z_tryAt')) : Met l yX9_both (wM yX9_both cX9_both 9 (some .int)) rm_X9_both (PreW (dC, dI) (tyA cI cZ cII) (W_X9z cI cZ cII qz qz_text qz_t qz_draft qz_s qz_kept qz_isKept qz_times qz_w qz_at qz_pulled qz_best qz_cartRow qz_tryRow qz_pairs qz_from qz_then qz_tryAt z_thrown z_typed z_next z_token z_place z_value z_figures z_fault z_faultAt z_timeMany z_eaten z_half z_bestMinutes z_bestOats z_isDue z_text z_t z_draft z_s z_kept z_isKept z_times z_w z_at z_pulled z_best z_cartRow z_tryRow z_pairs z_from z_then z_tryAt) sz [.ref qz, .int n1]) (PostI (dC, dI) (tyA cI cZ cII) rr (W_X9z cI cZ cII qz qz_text qz_t qz_draft qz_s qz_kept qz_isKept qz_times qz_w qz_at qz_pulled qz_best qz_cartRow qz_tryRow qz_pairs qz_from qz_then qz_tryAt z_thrown z_typed z_next z_token z_place z_value z_figures z_fault z_faultAt z_timeMany z_eaten z_half z_bestMinutes z_bestOats z_isDue z_text z_t z_draft z_s z_kept z_isKept z_times z_w z_at z_pulled z_best z_cartRow z_tryRow z_pairs z_from z_then z_tryAt) (W_X9z cI cZ cII qz qz_text qz_t qz_draft qz_s qz_kept qz_isKept qz_times qz_w qz_at qz_pulled qz_best qz_cartRow qz_tryRow qz_pairs qz_from qz_then qz_tryAt z_thrown z_typed z_next z_token z_place z_value z_figures z_fault z_faultAt z_timeMany z_eaten' z_half z_bestMinutes z_bestOats z_isDue z_text z_t z_draft z_s z_kept z_isKept z_times z_w' z_at' z_pulled' z_best' z_cartRow z_tryRow z_pairs z_from' z_then' z_tryAt') sz) 0 0 (va_A (W_X9z cI cZ cII qz qz_text qz_t qz_draft qz_s qz_kept qz_isKept qz_times qz_w qz_at qz_pulled qz_best qz_cartRow qz_tryRow qz_pairs qz_from qz_then qz_tryAt z_thrown z_typed z_next z_token z_place z_value z_figures z_fault z_faultAt z_timeMany z_eaten z_half z_bestMinutes z_bestOats z_isDue z_text z_t z_draft z_s z_kept z_isKept z_times z_w z_at z_pulled z_best z_cartRow z_tryRow z_pairs z_from z_then z_tryAt) sz) := by
  refine Met.ofW (cc := cX9_both) (maxL := 9) (ret := (some .int)) (by decide) rfl ?_
  intro p e s m args below meth c s₁ B hml hv
  obtain ⟨rfl, hsz, hP, hK, hD0⟩ := hv
  have hx := B.exec
  have hb := B.bytes
  have hr := B.returns
  have hts := atoms_spec (ws := wM yX9_both cX9_both 9 (some .int)) B.pre
  have hown : s.vm.findClass RX9 = some m.cls := findClass_of_methodNamed B.named
  have hlocks := B.notSynchronized
  subst hsz
  have hD := hD0.self (sz := s.heap.size)
  obtain ⟨A, hAe⟩ : ∃ A, A = va_A (W_X9z cI cZ cII qz qz_text qz_t qz_draft qz_s qz_kept qz_isKept qz_times qz_w qz_at qz_pulled qz_best qz_cartRow qz_tryRow qz_pairs qz_from qz_then qz_tryAt z_thrown z_typed z_next z_token z_place z_value z_figures z_fault z_faultAt z_timeMany z_eaten z_half z_bestMinutes z_bestOats z_isDue z_text z_t z_draft z_s z_kept z_isKept z_times z_w z_at z_pulled z_best z_cartRow z_tryRow z_pairs z_from z_then z_tryAt) s.heap.size := ⟨_, rfl⟩
  rw [← hAe] at hD
  have hA : ∀ q : Nat, s.heap.size ≤ q → A q := fun q h => by rw [hAe]; exact Or.inr h
  have hS : va_S A s.heap s.heap [] := va_S.rf
  have hl := lv_entry ([.ref qz, .int n1]) (n := 9) (Nat.le_of_ble_eq_true rfl)
  rw [lg_entry_eq]
  generalize (lg_sl ([.ref qz, .int n1]) ++ List.replicate (9 - (lg_sl ([.ref qz, .int n1])).length) Slot.unset).toArray = ls at hl ⊢
  have hl : lv_has ls 9 [(0, .ref qz), (1, .int n1)] := hl
  generalize ([.ref qz, .int n1] : List Value).toArray = args at hts ⊢
  have hw : ∀ w ∈ wsL_law, w.before args s = true := fun w h => hts w (List.mem_cons_of_mem _ h)
  refine pg_start (fun Q hQ => ?_)
  have RET : ∀ (H : Heap) (locs : List Loc) (ls : Array Slot) (pc : Nat) (v : Int32) (x0 : Int32) (x1 : Nat → Int32) (x2 : Nat → Int32) (x3 : Nat → Int32) (x4 : Nat → Int32) (x5 : Nat → Int32) (x6 : Nat → Int32) (x7 : Nat → Int32) , decode cX9_both pc = .ok (.ireturn, 1) → va_P (dC, dI) vwCl (W_X9z cI cZ cII qz qz_text qz_t qz_draft qz_s qz_kept qz_isKept qz_times qz_w qz_at qz_pulled qz_best qz_cartRow qz_tryRow qz_pairs qz_from qz_then qz_tryAt z_thrown z_typed z_next z_token z_place z_value z_figures z_fault z_faultAt z_timeMany x0 z_half z_bestMinutes z_bestOats z_isDue z_text z_t z_draft z_s z_kept z_isKept z_times x1 x2 x3 x4 z_cartRow z_tryRow z_pairs x5 x6 x7) H → va_D A (W_X9z cI cZ cII qz qz_text qz_t qz_draft qz_s qz_kept qz_isKept qz_times qz_w qz_at qz_pulled qz_best qz_cartRow qz_tryRow qz_pairs qz_from qz_then qz_tryAt z_thrown z_typed z_next z_token z_place z_value z_figures z_fault z_faultAt z_timeMany x0 z_half z_bestMinutes z_bestOats z_isDue z_text z_t z_draft z_s z_kept z_isKept z_times x1 x2 x3 x4 z_cartRow z_tryRow z_pairs x5 x6 x7) → va_S A s.heap H locs → (some (v, x0, x1, x2, x3, x4, x5, x6, x7) : Option (Int32 × Int32 × (Nat → Int32) × (Nat → Int32) × (Nat → Int32) × (Nat → Int32) × (Nat → Int32) × (Nat → Int32) × (Nat → Int32))) = some (rr, z_eaten', z_w', z_at', z_pulled', z_best', z_from', z_then', z_tryAt') → W p l e rm_X9_both s m args below meth c H locs 0 0 Q (F0 m pc ls [.int v]) := by
    intro H locs ls pc v x0 x1 x2 x3 x4 x5 x6 x7 hd hP hD hS he
    subst hAe; subst hQ
    simp only [Option.some.injEq, Prod.mk.injEq] at he
    obtain ⟨rfl, rfl, rfl, rfl, rfl, rfl, rfl, rfl, rfl⟩ := he
    exact pg_iret hx hb hr hlocks hK hP hD hS hd
  unfold f_X9_both at hf
  refine lv_iconst (v := (-1 : Int32)) hx hb dX9_both_0 (by decide) ?_
  refine lv_istore_n (lv' := [(2, .int (-1 : Int32)), (0, .ref qz), (1, .int n1)]) hx hb dX9_both_1 rfl hl (by decide) rfl (fun ls hl => ?_)
  refine lv_aload_n hx hb dX9_both_2 rfl (lv_at hl 1 rfl) ?_
  obtain ⟨z_from_1, hc, hf⟩ := bn1_s hf
  refine pg_cVv (As := []) (rest := []) (wf := (W_X9z cI cZ cII qz qz_text qz_t qz_draft qz_s qz_kept qz_isKept qz_times qz_w qz_at qz_pulled qz_best qz_cartRow qz_tryRow qz_pairs qz_from qz_then qz_tryAt z_thrown z_typed z_next z_token z_place z_value z_figures z_fault z_faultAt z_timeMany z_eaten z_half z_bestMinutes z_bestOats z_isDue z_text z_t z_draft z_s z_kept z_isKept z_times z_w z_at z_pulled z_best z_cartRow z_tryRow z_pairs z_from_1 z_then z_tryAt)) ⟨hx, hb, hml, hown, hw⟩ (c_X9_fromNow l dC dI cI cZ cII qz qz_text qz_t qz_draft qz_s qz_kept qz_isKept qz_times qz_w qz_at qz_pulled qz_best qz_cartRow qz_tryRow qz_pairs qz_from qz_then qz_tryAt s.heap.size z_thrown z_typed z_next z_token z_place z_value z_figures z_fault z_faultAt z_timeMany z_eaten z_half z_bestMinutes z_bestOats z_isDue z_text z_t z_draft z_s z_kept z_isKept z_times z_w z_at z_pulled z_best z_cartRow z_tryRow z_pairs z_from z_then z_tryAt  z_from_1 hc) (cwV 0 hts (wM_V mw_35_16 mw_35_17 mw_35_18 mw_1_5 mw_35_19) rfl rfl rfl dk_X9_fromNow ⟨Nat.le_of_ble_eq_true rfl, Nat.le_of_ble_eq_true rfl⟩) hK hP hD hS hA 9 0 rfl rfl rfl [0, 1, 2, 3, 4, 5, 6, 7, 8, 9, 10, 11, 12, 13, 14, 15, 16, 17] [] [0, 1, 2, 3, 4, 5, 6, 7, 8, 9, 10, 11, 12, 13, 14, 15, 16, 17] (plC_64 cI cZ cII qz qz_text qz_t qz_draft qz_s qz_kept qz_isKept qz_times qz_w qz_at qz_pulled qz_best qz_cartRow qz_tryRow qz_pairs qz_from qz_then qz_tryAt z_thrown z_typed z_next z_token z_place z_value z_figures z_fault z_faultAt z_timeMany z_eaten z_half z_bestMinutes z_bestOats z_isDue z_text z_t z_draft z_s z_kept z_isKept z_times z_w z_at z_pulled z_best z_cartRow z_tryRow z_pairs z_from z_then z_tryAt) rfl (plF_64 cI cZ cII qz qz_text qz_t qz_draft qz_s qz_kept qz_isKept qz_times qz_w qz_at qz_pulled qz_best qz_cartRow qz_tryRow qz_pairs qz_from qz_then qz_tryAt z_thrown z_typed z_next z_token z_place z_value z_figures z_fault z_faultAt z_timeMany z_eaten z_half z_bestMinutes z_bestOats z_isDue z_text z_t z_draft z_s z_kept z_isKept z_times z_w z_at z_pulled z_best z_cartRow z_tryRow z_pairs z_from z_then z_tryAt z_thrown z_typed z_next z_token z_place z_value z_figures z_fault z_faultAt z_timeMany z_eaten z_half z_bestMinutes z_bestOats z_isDue z_text z_t z_draft z_s z_kept z_isKept z_times z_w z_at z_pulled z_best z_cartRow z_tryRow z_pairs z_from_1 z_then z_tryAt) (by decide) rfl hl.1 rfl (Nat.le_of_ble_eq_true rfl) dX9_both_3 ⟨Nat.zero_le _, Nat.zero_le _⟩ (fun H locs hP hD hS => ?_)
  refine lv_iconst (v := (1 : Int32)) hx hb dX9_both_6 (by decide) ?_
  refine lv_istore_n (lv' := [(3, .int (1 : Int32)), (2, .int (-1 : Int32)), (0, .ref qz), (1, .int n1)]) hx hb dX9_both_7 rfl hl (by decide) rfl (fun ls hl => ?_)
  obtain ⟨K223_2, hK223_2, hf⟩ := jn8_s hf
  have WK223_2 : ∀ (y2_2 : Int32) (z_eaten_2 : Int32) (z_w_2 : Nat → Int32) (z_at_2 : Nat → Int32) (z_pulled_2 : Nat → Int32) (z_best_2 : Nat → Int32) (z_then_2 : Nat → Int32) (z_tryAt_2 : Nat → Int32) (H : Heap) (locs : List Loc) (ls : Array Slot), va_P (dC, dI) vwCl (W_X9z cI cZ cII qz qz_text qz_t qz_draft qz_s qz_kept qz_isKept qz_times qz_w qz_at qz_pulled qz_best qz_cartRow qz_tryRow qz_pairs qz_from qz_then qz_tryAt z_thrown z_typed z_next z_token z_place z_value z_figures z_fault z_faultAt z_timeMany z_eaten_2 z_half z_bestMinutes z_bestOats z_isDue z_text z_t z_draft z_s z_kept z_isKept z_times z_w_2 z_at_2 z_pulled_2 z_best_2 z_cartRow z_tryRow z_pairs z_from_1 z_then_2 z_tryAt_2) H → va_D A (W_X9z cI cZ cII qz qz_text qz_t qz_draft qz_s qz_kept qz_isKept qz_times qz_w qz_at qz_pulled qz_best qz_cartRow qz_tryRow qz_pairs qz_from qz_then qz_tryAt z_thrown z_typed z_next z_token z_place z_value z_figures z_fault z_faultAt z_timeMany z_eaten_2 z_half z_bestMinutes z_bestOats z_isDue z_text z_t z_draft z_s z_kept z_isKept z_times z_w_2 z_at_2 z_pulled_2 z_best_2 z_cartRow z_tryRow z_pairs z_from_1 z_then_2 z_tryAt_2) → va_S A s.heap H locs → lv_has ls 9 [(2, .int y2_2)] → K223_2 y2_2 z_eaten_2 z_w_2 z_at_2 z_pulled_2 z_best_2 z_then_2 z_tryAt_2 = some (rr, z_eaten', z_w', z_at', z_pulled', z_best', z_from', z_then', z_tryAt') → W p l e rm_X9_both s m args below meth c H locs 0 0 Q (F0 m 223 ls []) := by
    intro y2_2 z_eaten_2 z_w_2 z_at_2 z_pulled_2 z_best_2 z_then_2 z_tryAt_2 H locs ls hP hD hS hl hf
    have hf := hK223_2 _ _ _ _ _ _ _ _ hf
    refine lv_iload_n hx hb dX9_both_223 rfl (lv_at hl 0 rfl) ?_
    exact RET _ _ _ _ _ _ _ _ _ _ _ _ _ dX9_both_224 hP hD hS hf
  obtain ⟨B3, hB3, hf⟩ := lq9_n hf
  have WL3 : ∀ (n9 : Nat) (y2_3 : Int32) (y3_3 : Int32) (z_eaten_3 : Int32) (z_w_3 : Nat → Int32) (z_at_3 : Nat → Int32) (z_pulled_3 : Nat → Int32) (z_best_3 : Nat → Int32) (z_then_3 : Nat → Int32) (z_tryAt_3 : Nat → Int32) (H : Heap) (locs : List Loc) (ls : Array Slot), va_P (dC, dI) vwCl (W_X9z cI cZ cII qz qz_text qz_t qz_draft qz_s qz_kept qz_isKept qz_times qz_w qz_at qz_pulled qz_best qz_cartRow qz_tryRow qz_pairs qz_from qz_then qz_tryAt z_thrown z_typed z_next z_token z_place z_value z_figures z_fault z_faultAt z_timeMany z_eaten_3 z_half z_bestMinutes z_bestOats z_isDue z_text z_t z_draft z_s z_kept z_isKept z_times z_w_3 z_at_3 z_pulled_3 z_best_3 z_cartRow z_tryRow z_pairs z_from_1 z_then_3 z_tryAt_3) H → va_D A (W_X9z cI cZ cII qz qz_text qz_t qz_draft qz_s qz_kept qz_isKept qz_times qz_w qz_at qz_pulled qz_best qz_cartRow qz_tryRow qz_pairs qz_from qz_then qz_tryAt z_thrown z_typed z_next z_token z_place z_value z_figures z_fault z_faultAt z_timeMany z_eaten_3 z_half z_bestMinutes z_bestOats z_isDue z_text z_t z_draft z_s z_kept z_isKept z_times z_w_3 z_at_3 z_pulled_3 z_best_3 z_cartRow z_tryRow z_pairs z_from_1 z_then_3 z_tryAt_3) → va_S A s.heap H locs → lv_has ls 9 [(0, .ref qz), (1, .int n1), (2, .int y2_3), (3, .int y3_3)] → lq9 B3 n9 y2_3 y3_3 z_eaten_3 z_w_3 z_at_3 z_pulled_3 z_best_3 z_then_3 z_tryAt_3 = some (rr, z_eaten', z_w', z_at', z_pulled', z_best', z_from', z_then', z_tryAt') → W p l e rm_X9_both s m args below meth c H locs 0 0 Q (F0 m 8 ls []) := by
    intro n9
    induction n9 with
    | zero => intro y2_3 y3_3 z_eaten_3 z_w_3 z_at_3 z_pulled_3 z_best_3 z_then_3 z_tryAt_3 H locs ls hP hD hS hl hf; cases hf
    | succ n9 ih =>
      intro y2_3 y3_3 z_eaten_3 z_w_3 z_at_3 z_pulled_3 z_best_3 z_then_3 z_tryAt_3 H locs ls hP hD hS hl hf
      obtain ⟨rec3, hrec3, hf⟩ := lq9_s hf
      have hf := hB3 rec3 _ _ _ _ _ _ _ _ _ hf
      refine lv_iload_n hx hb dX9_both_8 rfl (lv_at hl 3 rfl) ?_
      refine lv_sipush (v := (343 : Int32)) hx hb dX9_both_9 (by decide) ?_
      refine lv_icmp_ge (tgt := 223) hx hb dX9_both_12 (by decide) (fun h9 => ?_) (fun h9 => ?_)
      · have hf := pg_t h9 hf
        exact WK223_2 _ _ _ _ _ _ _ _ _ _ _ hP hD hS (lv_sub hl [2] rfl) hf
      · have hf := pg_f h9 hf
        refine lv_aload_n hx hb dX9_both_15 rfl (lv_at hl 0 rfl) ?_
        refine lv_iload_n hx hb dX9_both_16 rfl (lv_at hl 3 rfl) ?_
        refine lv_iconst (v := (-1 : Int32)) hx hb dX9_both_17 (by decide) ?_
        obtain ⟨r_4, z_at_4, hc, hf⟩ := bn2_s hf
        refine pg_cVi (As := [.int y3_3, .int (-1 : Int32)]) (rest := []) (wf := (W_X9z cI cZ cII qz qz_text qz_t qz_draft qz_s qz_kept qz_isKept qz_times qz_w qz_at qz_pulled qz_best qz_cartRow qz_tryRow qz_pairs qz_from qz_then qz_tryAt z_thrown z_typed z_next z_token z_place z_value z_figures z_fault z_faultAt z_timeMany z_eaten_3 z_half z_bestMinutes z_bestOats z_isDue z_text z_t z_draft z_s z_kept z_isKept z_times z_w_3 z_at_4 z_pulled_3 z_best_3 z_cartRow z_tryRow z_pairs z_from_1 z_then_3 z_tryAt_3)) ⟨hx, hb, hml, hown, hw⟩ (c_X9_puts l dC dI cI cZ cII qz qz_text qz_t qz_draft qz_s qz_kept qz_isKept qz_times qz_w qz_at qz_pulled qz_best qz_cartRow qz_tryRow qz_pairs qz_from qz_then qz_tryAt H.size z_thrown z_typed z_next z_token z_place z_value z_figures z_fault z_faultAt z_timeMany z_eaten_3 z_half z_bestMinutes z_bestOats z_isDue z_text z_t z_draft z_s z_kept z_isKept z_times z_w_3 z_at_3 z_pulled_3 z_best_3 z_cartRow z_tryRow z_pairs z_from_1 z_then_3 z_tryAt_3 y3_3 (-1 : Int32) r_4 z_at_4 hc) (cwV 2 hts (wM_V mw_36_0 mw_36_1 mw_36_2 mw_1_5 mw_36_3) rfl rfl rfl dk_X9_puts ⟨Nat.le_of_ble_eq_true rfl, Nat.le_of_ble_eq_true rfl⟩) hK hP hD hS hA 9 0 rfl rfl rfl [0, 1, 2, 3, 4, 5, 6, 7, 8, 9, 10, 11, 12, 13, 14, 15, 16, 17] [] [0, 1, 2, 3, 4, 5, 6, 7, 8, 9, 10, 11, 12, 13, 14, 15, 16, 17] (plC_64 cI cZ cII qz qz_text qz_t qz_draft qz_s qz_kept qz_isKept qz_times qz_w qz_at qz_pulled qz_best qz_cartRow qz_tryRow qz_pairs qz_from qz_then qz_tryAt z_thrown z_typed z_next z_token z_place z_value z_figures z_fault z_faultAt z_timeMany z_eaten_3 z_half z_bestMinutes z_bestOats z_isDue z_text z_t z_draft z_s z_kept z_isKept z_times z_w_3 z_at_3 z_pulled_3 z_best_3 z_cartRow z_tryRow z_pairs z_from_1 z_then_3 z_tryAt_3) rfl (plF_64 cI cZ cII qz qz_text qz_t qz_draft qz_s qz_kept qz_isKept qz_times qz_w qz_at qz_pulled qz_best qz_cartRow qz_tryRow qz_pairs qz_from qz_then qz_tryAt z_thrown z_typed z_next z_token z_place z_value z_figures z_fault z_faultAt z_timeMany z_eaten_3 z_half z_bestMinutes z_bestOats z_isDue z_text z_t z_draft z_s z_kept z_isKept z_times z_w_3 z_at_3 z_pulled_3 z_best_3 z_cartRow z_tryRow z_pairs z_from_1 z_then_3 z_tryAt_3 z_thrown z_typed z_next z_token z_place z_value z_figures z_fault z_faultAt z_timeMany z_eaten_3 z_half z_bestMinutes z_bestOats z_isDue z_text z_t z_draft z_s z_kept z_isKept z_times z_w_3 z_at_4 z_pulled_3 z_best_3 z_cartRow z_tryRow z_pairs z_from_1 z_then_3 z_tryAt_3) (by decide) rfl hl.1 rfl (Nat.le_of_ble_eq_true rfl) dX9_both_18 ⟨Nat.zero_le _, Nat.zero_le _⟩ (fun H locs hP hD hS => ?_)
        refine lv_istore (lv' := [(4, .int r_4), (0, .ref qz), (1, .int n1), (2, .int y2_3), (3, .int y3_3)]) hx hb dX9_both_21 hl (by decide) rfl (fun ls hl => ?_)
        refine lv_iconst (v := (0 : Int32)) hx hb dX9_both_23 (by decide) ?_
        refine lv_istore (lv' := [(5, .int (0 : Int32)), (4, .int r_4), (0, .ref qz), (1, .int n1), (2, .int y2_3), (3, .int y3_3)]) hx hb dX9_both_24 hl (by decide) rfl (fun ls hl => ?_)
        refine lv_iload hx hb dX9_both_26 (lv_at hl 1 rfl) ?_
        obtain ⟨J49_5, hJ49_5, hf⟩ := jn4_s hf
        have WJ49_5 : ∀ (y5_5 : Int32) (z_eaten_5 : Int32) (z_w_5 : Nat → Int32) (z_pulled_5 : Nat → Int32) (H : Heap) (locs : List Loc) (ls : Array Slot), va_P (dC, dI) vwCl (W_X9z cI cZ cII qz qz_text qz_t qz_draft qz_s qz_kept qz_isKept qz_times qz_w qz_at qz_pulled qz_best qz_cartRow qz_tryRow qz_pairs qz_from qz_then qz_tryAt z_thrown z_typed z_next z_token z_place z_value z_figures z_fault z_faultAt z_timeMany z_eaten_5 z_half z_bestMinutes z_bestOats z_isDue z_text z_t z_draft z_s z_kept z_isKept z_times z_w_5 z_at_4 z_pulled_5 z_best_3 z_cartRow z_tryRow z_pairs z_from_1 z_then_3 z_tryAt_3) H → va_D A (W_X9z cI cZ cII qz qz_text qz_t qz_draft qz_s qz_kept qz_isKept qz_times qz_w qz_at qz_pulled qz_best qz_cartRow qz_tryRow qz_pairs qz_from qz_then qz_tryAt z_thrown z_typed z_next z_token z_place z_value z_figures z_fault z_faultAt z_timeMany z_eaten_5 z_half z_bestMinutes z_bestOats z_isDue z_text z_t z_draft z_s z_kept z_isKept z_times z_w_5 z_at_4 z_pulled_5 z_best_3 z_cartRow z_tryRow z_pairs z_from_1 z_then_3 z_tryAt_3) → va_S A s.heap H locs → lv_has ls 9 [(0, .ref qz), (1, .int n1), (2, .int y2_3), (3, .int y3_3), (4, .int r_4), (5, .int y5_5)] → J49_5 y5_5 z_eaten_5 z_w_5 z_pulled_5 = some (rr, z_eaten', z_w', z_at', z_pulled', z_best', z_from', z_then', z_tryAt') → W p l e rm_X9_both s m args below meth c H locs 0 0 Q (F0 m 49 ls []) := by
          intro y5_5 z_eaten_5 z_w_5 z_pulled_5 H locs ls hP hD hS hl hf
          have hf := hJ49_5 _ _ _ _ hf
          refine lv_iload hx hb dX9_both_49 (lv_at hl 4 rfl) ?_
          obtain ⟨J217_6, hJ217_6, hf⟩ := jn8_s hf
          have WJ217_6 : ∀ (y2_6 : Int32) (z_eaten_6 : Int32) (z_w_6 : Nat → Int32) (z_at_6 : Nat → Int32) (z_pulled_6 : Nat → Int32) (z_best_6 : Nat → Int32) (z_then_6 : Nat → Int32) (z_tryAt_6 : Nat → Int32) (H : Heap) (locs : List Loc) (ls : Array Slot), va_P (dC, dI) vwCl (W_X9z cI cZ cII qz qz_text qz_t qz_draft qz_s qz_kept qz_isKept qz_times qz_w qz_at qz_pulled qz_best qz_cartRow qz_tryRow qz_pairs qz_from qz_then qz_tryAt z_thrown z_typed z_next z_token z_place z_value z_figures z_fault z_faultAt z_timeMany z_eaten_6 z_half z_bestMinutes z_bestOats z_isDue z_text z_t z_draft z_s z_kept z_isKept z_times z_w_6 z_at_6 z_pulled_6 z_best_6 z_cartRow z_tryRow z_pairs z_from_1 z_then_6 z_tryAt_6) H → va_D A (W_X9z cI cZ cII qz qz_text qz_t qz_draft qz_s qz_kept qz_isKept qz_times qz_w qz_at qz_pulled qz_best qz_cartRow qz_tryRow qz_pairs qz_from qz_then qz_tryAt z_thrown z_typed z_next z_token z_place z_value z_figures z_fault z_faultAt z_timeMany z_eaten_6 z_half z_bestMinutes z_bestOats z_isDue z_text z_t z_draft z_s z_kept z_isKept z_times z_w_6 z_at_6 z_pulled_6 z_best_6 z_cartRow z_tryRow z_pairs z_from_1 z_then_6 z_tryAt_6) → va_S A s.heap H locs → lv_has ls 9 [(0, .ref qz), (1, .int n1), (2, .int y2_6), (3, .int y3_3)] → J217_6 y2_6 z_eaten_6 z_w_6 z_at_6 z_pulled_6 z_best_6 z_then_6 z_tryAt_6 = some (rr, z_eaten', z_w', z_at', z_pulled', z_best', z_from', z_then', z_tryAt') → W p l e rm_X9_both s m args below meth c H locs 0 0 Q (F0 m 217 ls []) := by
            intro y2_6 z_eaten_6 z_w_6 z_at_6 z_pulled_6 z_best_6 z_then_6 z_tryAt_6 H locs ls hP hD hS hl hf
            have hf := hJ217_6 _ _ _ _ _ _ _ _ hf
            refine lv_iinc (v := (y3_3 + (1 : Int32))) (lv' := [(3, .int (y3_3 + (1 : Int32))), (0, .ref qz), (1, .int n1), (2, .int y2_6)]) hx hb dX9_both_217 hl (k := 3) rfl rfl (by decide) rfl (fun ls hl => ?_)
            refine lv_goto (tgt := 8) hx hb dX9_both_220 (by decide) ?_
            exact ih _ _ _ _ _ _ _ _ _ _ _ _ hP hD hS (lv_sub hl [1, 2, 3, 0] rfl) (hrec3 _ _ _ _ _ _ _ _ _ hf)
          refine lv_if_eq (tgt := 217) hx hb dX9_both_51 (by decide) (fun h9 => ?_) (fun h9 => ?_)
          · have hf := pg_t h9 hf
            exact WJ217_6 _ _ _ _ _ _ _ _ _ _ _ hP hD hS (lv_sub hl [0, 1, 2, 3] rfl) hf
          · have hf := pg_f h9 hf
            refine lv_iload hx hb dX9_both_54 (lv_at hl 5 rfl) ?_
            refine lv_iconst (v := (1 : Int32)) hx hb dX9_both_56 (by decide) ?_
            refine lv_aload_n hx hb dX9_both_57 rfl (lv_at hl 0 rfl) ?_
            refine va_get (D := (dC, dI)) (ci := 9) (v := .ref qz_t) (C := RX9) (T := TX9) (N := 32) hx hb hw inlX9 hown hK hP 0 rfl rfl 10 (by decide) (hw _ mw_6_1) (fun _ h9 => h9) rfl dX9_both_58 ?_
            refine lv_iconst (v := (5 : Int32)) hx hb dX9_both_61 (by decide) ?_
            refine va_iald hx hb hK hP 2 0 rfl rfl (pg_lit (by decide)) dX9_both_62 ?_
            obtain ⟨r_7, hc, hf⟩ := bn1_s hf
            refine pg_cSi (As := [.int y5_5, .int (1 : Int32), .int (z_t ((5 : Int32)).toNatClampNeg)]) (rest := []) (wf := (W_X9z cI cZ cII qz qz_text qz_t qz_draft qz_s qz_kept qz_isKept qz_times qz_w qz_at qz_pulled qz_best qz_cartRow qz_tryRow qz_pairs qz_from qz_then qz_tryAt z_thrown z_typed z_next z_token z_place z_value z_figures z_fault z_faultAt z_timeMany z_eaten_5 z_half z_bestMinutes z_bestOats z_isDue z_text z_t z_draft z_s z_kept z_isKept z_times z_w_5 z_at_4 z_pulled_5 z_best_3 z_cartRow z_tryRow z_pairs z_from_1 z_then_3 z_tryAt_3)) ⟨hx, hb, hml, hown, hw⟩ (c_X9_in l dC dI cI cZ cII  H.size  y5_5 (1 : Int32) (z_t ((5 : Int32)).toNatClampNeg) r_7 hc) (va_cwS 3 hts (wM_S mw_8_0 mw_8_1 mw_1_5 mw_8_2) rfl rfl rfl dk_X9_in ⟨Nat.le_of_ble_eq_true rfl, Nat.le_of_ble_eq_true rfl⟩) hK hP hD hS hA [] [0, 1, 2, 3, 4, 5, 6, 7, 8, 9, 10, 11, 12, 13, 14, 15, 16, 17] [0, 1, 2, 3, 4, 5, 6, 7, 8, 9, 10, 11, 12, 13, 14, 15, 16, 17] (plC_62 cI cZ cII qz qz_text qz_t qz_draft qz_s qz_kept qz_isKept qz_times qz_w qz_at qz_pulled qz_best qz_cartRow qz_tryRow qz_pairs qz_from qz_then qz_tryAt z_thrown z_typed z_next z_token z_place z_value z_figures z_fault z_faultAt z_timeMany z_eaten_5 z_half z_bestMinutes z_bestOats z_isDue z_text z_t z_draft z_s z_kept z_isKept z_times z_w_5 z_at_4 z_pulled_5 z_best_3 z_cartRow z_tryRow z_pairs z_from_1 z_then_3 z_tryAt_3) rfl (plF_62 cI cZ cII qz qz_text qz_t qz_draft qz_s qz_kept qz_isKept qz_times qz_w qz_at qz_pulled qz_best qz_cartRow qz_tryRow qz_pairs qz_from qz_then qz_tryAt z_thrown z_typed z_next z_token z_place z_value z_figures z_fault z_faultAt z_timeMany z_eaten_5 z_half z_bestMinutes z_bestOats z_isDue z_text z_t z_draft z_s z_kept z_isKept z_times z_w_5 z_at_4 z_pulled_5 z_best_3 z_cartRow z_tryRow z_pairs z_from_1 z_then_3 z_tryAt_3 ) (by decide) rfl hl.1 rfl (Nat.le_of_ble_eq_true rfl) dX9_both_63 ⟨Nat.zero_le _, Nat.zero_le _⟩ (fun H locs hP hD hS => ?_)
            refine lv_if_eq (tgt := 217) hx hb dX9_both_66 (by decide) (fun h9 => ?_) (fun h9 => ?_)
            · have hf := pg_t h9 hf
              exact WJ217_6 _ _ _ _ _ _ _ _ _ _ _ hP hD hS (lv_sub hl [0, 1, 2, 3] rfl) hf
            · have hf := pg_f h9 hf
              refine lv_iload_n hx hb dX9_both_69 rfl (lv_at hl 2 rfl) ?_
              refine lv_iconst (v := (-1 : Int32)) hx hb dX9_both_70 (by decide) ?_
              obtain ⟨J82_8, hJ82_8, hf⟩ := jn1_s hf
              have WJ82_8 : ∀ (u_8 : Unit) (H : Heap) (locs : List Loc) (ls : Array Slot), va_P (dC, dI) vwCl (W_X9z cI cZ cII qz qz_text qz_t qz_draft qz_s qz_kept qz_isKept qz_times qz_w qz_at qz_pulled qz_best qz_cartRow qz_tryRow qz_pairs qz_from qz_then qz_tryAt z_thrown z_typed z_next z_token z_place z_value z_figures z_fault z_faultAt z_timeMany z_eaten_5 z_half z_bestMinutes z_bestOats z_isDue z_text z_t z_draft z_s z_kept z_isKept z_times z_w_5 z_at_4 z_pulled_5 z_best_3 z_cartRow z_tryRow z_pairs z_from_1 z_then_3 z_tryAt_3) H → va_D A (W_X9z cI cZ cII qz qz_text qz_t qz_draft qz_s qz_kept qz_isKept qz_times qz_w qz_at qz_pulled qz_best qz_cartRow qz_tryRow qz_pairs qz_from qz_then qz_tryAt z_thrown z_typed z_next z_token z_place z_value z_figures z_fault z_faultAt z_timeMany z_eaten_5 z_half z_bestMinutes z_bestOats z_isDue z_text z_t z_draft z_s z_kept z_isKept z_times z_w_5 z_at_4 z_pulled_5 z_best_3 z_cartRow z_tryRow z_pairs z_from_1 z_then_3 z_tryAt_3) → va_S A s.heap H locs → lv_has ls 9 [(0, .ref qz), (1, .int n1), (2, .int y2_3), (3, .int y3_3)] → J82_8 u_8 = some (rr, z_eaten', z_w', z_at', z_pulled', z_best', z_from', z_then', z_tryAt') → W p l e rm_X9_both s m args below meth c H locs 0 0 Q (F0 m 82 ls []) := by
                intro u_8 H locs ls hP hD hS hl hf
                have hf := hJ82_8 _ hf
                refine lv_aload_n hx hb dX9_both_82 rfl (lv_at hl 0 rfl) ?_
                refine va_get (D := (dC, dI)) (ci := 9) (v := .int z_eaten_5) (C := RX9) (T := TX9) (N := 32) hx hb hw inlX9 hown hK hP 0 rfl rfl 20 (by decide) (hw _ mw_30_23) (fun _ h9 => h9) rfl dX9_both_83 ?_
                refine lv_istore (lv' := [(6, .int z_eaten_5), (0, .ref qz), (1, .int n1), (2, .int y2_3), (3, .int y3_3)]) hx hb dX9_both_86 hl (by decide) rfl (fun ls hl => ?_)
                refine lv_aload_n hx hb dX9_both_88 rfl (lv_at hl 1 rfl) ?_
                refine lv_iconst (v := (1 : Int32)) hx hb dX9_both_89 (by decide) ?_
                refine lv_iconst (v := (0 : Int32)) hx hb dX9_both_90 (by decide) ?_
                obtain ⟨z_w_9, hc, hf⟩ := bn1_s hf
                refine pg_cVv (As := [.int (1 : Int32), .int (0 : Int32)]) (rest := []) (wf := (W_X9z cI cZ cII qz qz_text qz_t qz_draft qz_s qz_kept qz_isKept qz_times qz_w qz_at qz_pulled qz_best qz_cartRow qz_tryRow qz_pairs qz_from qz_then qz_tryAt z_thrown z_typed z_next z_token z_place z_value z_figures z_fault z_faultAt z_timeMany z_eaten_5 z_half z_bestMinutes z_bestOats z_isDue z_text z_t z_draft z_s z_kept z_isKept z_times z_w_9 z_at_4 z_pulled_5 z_best_3 z_cartRow z_tryRow z_pairs z_from_1 z_then_3 z_tryAt_3)) ⟨hx, hb, hml, hown, hw⟩ (c_X9_rests l dC dI cI cZ cII qz qz_text qz_t qz_draft qz_s qz_kept qz_isKept qz_times qz_w qz_at qz_pulled qz_best qz_cartRow qz_tryRow qz_pairs qz_from qz_then qz_tryAt H.size z_thrown z_typed z_next z_token z_place z_value z_figures z_fault z_faultAt z_timeMany z_eaten_5 z_half z_bestMinutes z_bestOats z_isDue z_text z_t z_draft z_s z_kept z_isKept z_times z_w_5 z_at_4 z_pulled_5 z_best_3 z_cartRow z_tryRow z_pairs z_from_1 z_then_3 z_tryAt_3 (1 : Int32) (0 : Int32) z_w_9 hc) (cwV 2 hts (wM_V mw_31_9 mw_31_10 mw_31_11 mw_1_5 mw_31_12) rfl rfl rfl dk_X9_rests ⟨Nat.le_of_ble_eq_true rfl, Nat.le_of_ble_eq_true rfl⟩) hK hP hD hS hA 9 0 rfl rfl rfl [0, 1, 2, 3, 4, 5, 6, 7, 8, 9, 10, 11, 12, 13, 14, 15, 16, 17] [] [0, 1, 2, 3, 4, 5, 6, 7, 8, 9, 10, 11, 12, 13, 14, 15, 16, 17] (plC_64 cI cZ cII qz qz_text qz_t qz_draft qz_s qz_kept qz_isKept qz_times qz_w qz_at qz_pulled qz_best qz_cartRow qz_tryRow qz_pairs qz_from qz_then qz_tryAt z_thrown z_typed z_next z_token z_place z_value z_figures z_fault z_faultAt z_timeMany z_eaten_5 z_half z_bestMinutes z_bestOats z_isDue z_text z_t z_draft z_s z_kept z_isKept z_times z_w_5 z_at_4 z_pulled_5 z_best_3 z_cartRow z_tryRow z_pairs z_from_1 z_then_3 z_tryAt_3) rfl (plF_64 cI cZ cII qz qz_text qz_t qz_draft qz_s qz_kept qz_isKept qz_times qz_w qz_at qz_pulled qz_best qz_cartRow qz_tryRow qz_pairs qz_from qz_then qz_tryAt z_thrown z_typed z_next z_token z_place z_value z_figures z_fault z_faultAt z_timeMany z_eaten_5 z_half z_bestMinutes z_bestOats z_isDue z_text z_t z_draft z_s z_kept z_isKept z_times z_w_5 z_at_4 z_pulled_5 z_best_3 z_cartRow z_tryRow z_pairs z_from_1 z_then_3 z_tryAt_3 z_thrown z_typed z_next z_token z_place z_value z_figures z_fault z_faultAt z_timeMany z_eaten_5 z_half z_bestMinutes z_bestOats z_isDue z_text z_t z_draft z_s z_kept z_isKept z_times z_w_9 z_at_4 z_pulled_5 z_best_3 z_cartRow z_tryRow z_pairs z_from_1 z_then_3 z_tryAt_3) (by decide) rfl hl.1 rfl (Nat.le_of_ble_eq_true rfl) dX9_both_91 ⟨Nat.zero_le _, Nat.zero_le _⟩ (fun H locs hP hD hS => ?_)
                refine lv_iconst (v := (0 : Int32)) hx hb dX9_both_94 (by decide) ?_
                refine lv_istore (lv' := [(7, .int (0 : Int32)), (6, .int z_eaten_5), (0, .ref qz), (1, .int n1), (2, .int y2_3), (3, .int y3_3)]) hx hb dX9_both_95 hl (by decide) rfl (fun ls hl => ?_)
                obtain ⟨K124_10, hK124_10, hf⟩ := jn1_s hf
                have WK124_10 : ∀ (z_then_10 : Nat → Int32) (H : Heap) (locs : List Loc) (ls : Array Slot), va_P (dC, dI) vwCl (W_X9z cI cZ cII qz qz_text qz_t qz_draft qz_s qz_kept qz_isKept qz_times qz_w qz_at qz_pulled qz_best qz_cartRow qz_tryRow qz_pairs qz_from qz_then qz_tryAt z_thrown z_typed z_next z_token z_place z_value z_figures z_fault z_faultAt z_timeMany z_eaten_5 z_half z_bestMinutes z_bestOats z_isDue z_text z_t z_draft z_s z_kept z_isKept z_times z_w_9 z_at_4 z_pulled_5 z_best_3 z_cartRow z_tryRow z_pairs z_from_1 z_then_10 z_tryAt_3) H → va_D A (W_X9z cI cZ cII qz qz_text qz_t qz_draft qz_s qz_kept qz_isKept qz_times qz_w qz_at qz_pulled qz_best qz_cartRow qz_tryRow qz_pairs qz_from qz_then qz_tryAt z_thrown z_typed z_next z_token z_place z_value z_figures z_fault z_faultAt z_timeMany z_eaten_5 z_half z_bestMinutes z_bestOats z_isDue z_text z_t z_draft z_s z_kept z_isKept z_times z_w_9 z_at_4 z_pulled_5 z_best_3 z_cartRow z_tryRow z_pairs z_from_1 z_then_10 z_tryAt_3) → va_S A s.heap H locs → lv_has ls 9 [(0, .ref qz), (1, .int n1), (2, .int y2_3), (3, .int y3_3), (6, .int z_eaten_5)] → K124_10 z_then_10 = some (rr, z_eaten', z_w', z_at', z_pulled', z_best', z_from', z_then', z_tryAt') → W p l e rm_X9_both s m args below meth c H locs 0 0 Q (F0 m 124 ls []) := by
                  intro z_then_10 H locs ls hP hD hS hl hf
                  have hf := hK124_10 _ hf
                  refine lv_aload_n hx hb dX9_both_124 rfl (lv_at hl 0 rfl) ?_
                  refine lv_aload_n hx hb dX9_both_125 rfl (lv_at hl 0 rfl) ?_
                  refine va_get (D := (dC, dI)) (ci := 9) (v := .ref qz_s) (C := RX9) (T := TX9) (N := 32) hx hb hw inlX9 hown hK hP 0 rfl rfl 12 (by decide) (hw _ mw_6_3) (fun _ h9 => h9) rfl dX9_both_126 ?_
                  refine lv_bipush (v := (9 : Int32)) hx hb dX9_both_129 (by decide) ?_
                  refine va_iald hx hb hK hP 4 0 rfl rfl (pg_lit (by decide)) dX9_both_131 ?_
                  refine lv_iconst (v := (1 : Int32)) hx hb dX9_both_132 (by decide) ?_
                  refine lv_iadd hx hb dX9_both_133 ?_
                  refine lv_iload_n hx hb dX9_both_134 rfl (lv_at hl 1 rfl) ?_
                  refine lv_iload_n hx hb dX9_both_135 rfl (lv_at hl 2 rfl) ?_
                  refine lv_iconst (v := (-1 : Int32)) hx hb dX9_both_136 (by decide) ?_
                  obtain ⟨J148_11, hJ148_11, hf⟩ := jn1_s hf
                  have WJ148_11 : ∀ (z3_11 : Int32) (H : Heap) (locs : List Loc) (ls : Array Slot), va_P (dC, dI) vwCl (W_X9z cI cZ cII qz qz_text qz_t qz_draft qz_s qz_kept qz_isKept qz_times qz_w qz_at qz_pulled qz_best qz_cartRow qz_tryRow qz_pairs qz_from qz_then qz_tryAt z_thrown z_typed z_next z_token z_place z_value z_figures z_fault z_faultAt z_timeMany z_eaten_5 z_half z_bestMinutes z_bestOats z_isDue z_text z_t z_draft z_s z_kept z_isKept z_times z_w_9 z_at_4 z_pulled_5 z_best_3 z_cartRow z_tryRow z_pairs z_from_1 z_then_10 z_tryAt_3) H → va_D A (W_X9z cI cZ cII qz qz_text qz_t qz_draft qz_s qz_kept qz_isKept qz_times qz_w qz_at qz_pulled qz_best qz_cartRow qz_tryRow qz_pairs qz_from qz_then qz_tryAt z_thrown z_typed z_next z_token z_place z_value z_figures z_fault z_faultAt z_timeMany z_eaten_5 z_half z_bestMinutes z_bestOats z_isDue z_text z_t z_draft z_s z_kept z_isKept z_times z_w_9 z_at_4 z_pulled_5 z_best_3 z_cartRow z_tryRow z_pairs z_from_1 z_then_10 z_tryAt_3) → va_S A s.heap H locs → lv_has ls 9 [(0, .ref qz), (1, .int n1), (2, .int y2_3), (3, .int y3_3), (6, .int z_eaten_5)] → J148_11 z3_11 = some (rr, z_eaten', z_w', z_at', z_pulled', z_best', z_from', z_then', z_tryAt') → W p l e rm_X9_both s m args below meth c H locs 0 0 Q (F0 m 148 ls [.int z3_11, .int n1, .int ((z_s ((9 : Int32)).toNatClampNeg) + (1 : Int32)), .ref qz]) := by
                    intro z3_11 H locs ls hP hD hS hl hf
                    have hf := hJ148_11 _ hf
                    obtain ⟨r_12, z_eaten_12, z_w_12, z_at_12, z_pulled_12, z_tryAt_12, hc, hf⟩ := bn6_s hf
                    refine pg_cVi (As := [.int ((z_s ((9 : Int32)).toNatClampNeg) + (1 : Int32)), .int n1, .int z3_11]) (rest := []) (wf := (W_X9z cI cZ cII qz qz_text qz_t qz_draft qz_s qz_kept qz_isKept qz_times qz_w qz_at qz_pulled qz_best qz_cartRow qz_tryRow qz_pairs qz_from qz_then qz_tryAt z_thrown z_typed z_next z_token z_place z_value z_figures z_fault z_faultAt z_timeMany z_eaten_12 z_half z_bestMinutes z_bestOats z_isDue z_text z_t z_draft z_s z_kept z_isKept z_times z_w_12 z_at_12 z_pulled_12 z_best_3 z_cartRow z_tryRow z_pairs z_from_1 z_then_10 z_tryAt_12)) ⟨hx, hb, hml, hown, hw⟩ (c_X9_second l dC dI cI cZ cII qz qz_text qz_t qz_draft qz_s qz_kept qz_isKept qz_times qz_w qz_at qz_pulled qz_best qz_cartRow qz_tryRow qz_pairs qz_from qz_then qz_tryAt H.size z_thrown z_typed z_next z_token z_place z_value z_figures z_fault z_faultAt z_timeMany z_eaten_5 z_half z_bestMinutes z_bestOats z_isDue z_text z_t z_draft z_s z_kept z_isKept z_times z_w_9 z_at_4 z_pulled_5 z_best_3 z_cartRow z_tryRow z_pairs z_from_1 z_then_10 z_tryAt_3 ((z_s ((9 : Int32)).toNatClampNeg) + (1 : Int32)) n1 z3_11 r_12 z_eaten_12 z_w_12 z_at_12 z_pulled_12 z_tryAt_12 hc) (cwV 3 hts (wM_V mw_38_15 mw_38_16 mw_38_17 mw_1_5 mw_38_18) rfl rfl rfl dk_X9_second ⟨Nat.le_of_ble_eq_true rfl, Nat.le_of_ble_eq_true rfl⟩) hK hP hD hS hA 9 0 rfl rfl rfl [0, 1, 2, 3, 4, 5, 6, 7, 8, 9, 10, 11, 12, 13, 14, 15, 16, 17] [] [0, 1, 2, 3, 4, 5, 6, 7, 8, 9, 10, 11, 12, 13, 14, 15, 16, 17] (plC_64 cI cZ cII qz qz_text qz_t qz_draft qz_s qz_kept qz_isKept qz_times qz_w qz_at qz_pulled qz_best qz_cartRow qz_tryRow qz_pairs qz_from qz_then qz_tryAt z_thrown z_typed z_next z_token z_place z_value z_figures z_fault z_faultAt z_timeMany z_eaten_5 z_half z_bestMinutes z_bestOats z_isDue z_text z_t z_draft z_s z_kept z_isKept z_times z_w_9 z_at_4 z_pulled_5 z_best_3 z_cartRow z_tryRow z_pairs z_from_1 z_then_10 z_tryAt_3) rfl (plF_64 cI cZ cII qz qz_text qz_t qz_draft qz_s qz_kept qz_isKept qz_times qz_w qz_at qz_pulled qz_best qz_cartRow qz_tryRow qz_pairs qz_from qz_then qz_tryAt z_thrown z_typed z_next z_token z_place z_value z_figures z_fault z_faultAt z_timeMany z_eaten_5 z_half z_bestMinutes z_bestOats z_isDue z_text z_t z_draft z_s z_kept z_isKept z_times z_w_9 z_at_4 z_pulled_5 z_best_3 z_cartRow z_tryRow z_pairs z_from_1 z_then_10 z_tryAt_3 z_thrown z_typed z_next z_token z_place z_value z_figures z_fault z_faultAt z_timeMany z_eaten_12 z_half z_bestMinutes z_bestOats z_isDue z_text z_t z_draft z_s z_kept z_isKept z_times z_w_12 z_at_12 z_pulled_12 z_best_3 z_cartRow z_tryRow z_pairs z_from_1 z_then_10 z_tryAt_12) (by decide) rfl hl.1 rfl (Nat.le_of_ble_eq_true rfl) dX9_both_148 ⟨Nat.zero_le _, Nat.zero_le _⟩ (fun H locs hP hD hS => ?_)
                    refine lv_istore (lv' := [(7, .int r_12), (0, .ref qz), (1, .int n1), (2, .int y2_3), (3, .int y3_3), (6, .int z_eaten_5)]) hx hb dX9_both_151 hl (by decide) rfl (fun ls hl => ?_)
                    refine lv_iload hx hb dX9_both_153 (lv_at hl 0 rfl) ?_
                    refine lv_iconst (v := (-1 : Int32)) hx hb dX9_both_155 (by decide) ?_
                    refine lv_icmp_eq (tgt := 217) hx hb dX9_both_156 (by decide) (fun h9 => ?_) (fun h9 => ?_)
                    · have hf := pg_t h9 hf
                      exact WJ217_6 _ _ _ _ _ _ _ _ _ _ _ hP hD hS (lv_sub hl [1, 2, 3, 4] rfl) hf
                    · have hf := pg_f h9 hf
                      refine lv_iload hx hb dX9_both_159 (lv_at hl 5 rfl) ?_
                      refine lv_iload hx hb dX9_both_161 (lv_at hl 0 rfl) ?_
                      refine lv_iadd hx hb dX9_both_163 ?_
                      refine lv_istore_n (lv' := [(2, .int (z_eaten_5 + r_12)), (7, .int r_12), (0, .ref qz), (1, .int n1), (3, .int y3_3), (6, .int z_eaten_5)]) hx hb dX9_both_164 rfl hl (by decide) rfl (fun ls hl => ?_)
                      refine lv_aload_n hx hb dX9_both_165 rfl (lv_at hl 2 rfl) ?_
                      refine lv_iload_n hx hb dX9_both_166 rfl (lv_at hl 4 rfl) ?_
                      refine lv_iconst (v := (-1 : Int32)) hx hb dX9_both_167 (by decide) ?_
                      obtain ⟨r_13, z_at_13, hc, hf⟩ := bn2_s hf
                      refine pg_cVi (As := [.int y3_3, .int (-1 : Int32)]) (rest := []) (wf := (W_X9z cI cZ cII qz qz_text qz_t qz_draft qz_s qz_kept qz_isKept qz_times qz_w qz_at qz_pulled qz_best qz_cartRow qz_tryRow qz_pairs qz_from qz_then qz_tryAt z_thrown z_typed z_next z_token z_place z_value z_figures z_fault z_faultAt z_timeMany z_eaten_12 z_half z_bestMinutes z_bestOats z_isDue z_text z_t z_draft z_s z_kept z_isKept z_times z_w_12 z_at_13 z_pulled_12 z_best_3 z_cartRow z_tryRow z_pairs z_from_1 z_then_10 z_tryAt_12)) ⟨hx, hb, hml, hown, hw⟩ (c_X9_puts l dC dI cI cZ cII qz qz_text qz_t qz_draft qz_s qz_kept qz_isKept qz_times qz_w qz_at qz_pulled qz_best qz_cartRow qz_tryRow qz_pairs qz_from qz_then qz_tryAt H.size z_thrown z_typed z_next z_token z_place z_value z_figures z_fault z_faultAt z_timeMany z_eaten_12 z_half z_bestMinutes z_bestOats z_isDue z_text z_t z_draft z_s z_kept z_isKept z_times z_w_12 z_at_12 z_pulled_12 z_best_3 z_cartRow z_tryRow z_pairs z_from_1 z_then_10 z_tryAt_12 y3_3 (-1 : Int32) r_13 z_at_13 hc) (cwV 2 hts (wM_V mw_36_0 mw_36_1 mw_36_2 mw_1_5 mw_36_3) rfl rfl rfl dk_X9_puts ⟨Nat.le_of_ble_eq_true rfl, Nat.le_of_ble_eq_true rfl⟩) hK hP hD hS hA 9 0 rfl rfl rfl [0, 1, 2, 3, 4, 5, 6, 7, 8, 9, 10, 11, 12, 13, 14, 15, 16, 17] [] [0, 1, 2, 3, 4, 5, 6, 7, 8, 9, 10, 11, 12, 13, 14, 15, 16, 17] (plC_64 cI cZ cII qz qz_text qz_t qz_draft qz_s qz_kept qz_isKept qz_times qz_w qz_at qz_pulled qz_best qz_cartRow qz_tryRow qz_pairs qz_from qz_then qz_tryAt z_thrown z_typed z_next z_token z_place z_value z_figures z_fault z_faultAt z_timeMany z_eaten_12 z_half z_bestMinutes z_bestOats z_isDue z_text z_t z_draft z_s z_kept z_isKept z_times z_w_12 z_at_12 z_pulled_12 z_best_3 z_cartRow z_tryRow z_pairs z_from_1 z_then_10 z_tryAt_12) rfl (plF_64 cI cZ cII qz qz_text qz_t qz_draft qz_s qz_kept qz_isKept qz_times qz_w qz_at qz_pulled qz_best qz_cartRow qz_tryRow qz_pairs qz_from qz_then qz_tryAt z_thrown z_typed z_next z_token z_place z_value z_figures z_fault z_faultAt z_timeMany z_eaten_12 z_half z_bestMinutes z_bestOats z_isDue z_text z_t z_draft z_s z_kept z_isKept z_times z_w_12 z_at_12 z_pulled_12 z_best_3 z_cartRow z_tryRow z_pairs z_from_1 z_then_10 z_tryAt_12 z_thrown z_typed z_next z_token z_place z_value z_figures z_fault z_faultAt z_timeMany z_eaten_12 z_half z_bestMinutes z_bestOats z_isDue z_text z_t z_draft z_s z_kept z_isKept z_times z_w_12 z_at_13 z_pulled_12 z_best_3 z_cartRow z_tryRow z_pairs z_from_1 z_then_10 z_tryAt_12) (by decide) rfl hl.1 rfl (Nat.le_of_ble_eq_true rfl) dX9_both_168 ⟨Nat.zero_le _, Nat.zero_le _⟩ (fun H locs hP hD hS => ?_)
                      refine lv_pop hx hb dX9_both_171 rfl ?_
                      refine lv_iconst (v := (0 : Int32)) hx hb dX9_both_172 (by decide) ?_
                      refine lv_istore (lv' := [(8, .int (0 : Int32)), (2, .int (z_eaten_5 + r_12)), (7, .int r_12), (0, .ref qz), (1, .int n1), (3, .int y3_3), (6, .int z_eaten_5)]) hx hb dX9_both_173 hl (by decide) rfl (fun ls hl => ?_)
                      obtain ⟨B15, hB15, hf⟩ := lq2_n hf
                      have WL15 : ∀ (n9 : Nat) (y8_15 : Int32) (z_best_15 : Nat → Int32) (H : Heap) (locs : List Loc) (ls : Array Slot), va_P (dC, dI) vwCl (W_X9z cI cZ cII qz qz_text qz_t qz_draft qz_s qz_kept qz_isKept qz_times qz_w qz_at qz_pulled qz_best qz_cartRow qz_tryRow qz_pairs qz_from qz_then qz_tryAt z_thrown z_typed z_next z_token z_place z_value z_figures z_fault z_faultAt z_timeMany z_eaten_12 z_half z_bestMinutes z_bestOats z_isDue z_text z_t z_draft z_s z_kept z_isKept z_times z_w_12 z_at_13 z_pulled_12 z_best_15 z_cartRow z_tryRow z_pairs z_from_1 z_then_10 z_tryAt_12) H → va_D A (W_X9z cI cZ cII qz qz_text qz_t qz_draft qz_s qz_kept qz_isKept qz_times qz_w qz_at qz_pulled qz_best qz_cartRow qz_tryRow qz_pairs qz_from qz_then qz_tryAt z_thrown z_typed z_next z_token z_place z_value z_figures z_fault z_faultAt z_timeMany z_eaten_12 z_half z_bestMinutes z_bestOats z_isDue z_text z_t z_draft z_s z_kept z_isKept z_times z_w_12 z_at_13 z_pulled_12 z_best_15 z_cartRow z_tryRow z_pairs z_from_1 z_then_10 z_tryAt_12) → va_S A s.heap H locs → lv_has ls 9 [(0, .ref qz), (1, .int n1), (2, .int (z_eaten_5 + r_12)), (3, .int y3_3), (8, .int y8_15)] → lq2 B15 n9 y8_15 z_best_15 = some (rr, z_eaten', z_w', z_at', z_pulled', z_best', z_from', z_then', z_tryAt') → W p l e rm_X9_both s m args below meth c H locs 0 0 Q (F0 m 175 ls []) := by
                        intro n9
                        induction n9 with
                        | zero => intro y8_15 z_best_15 H locs ls hP hD hS hl hf; cases hf
                        | succ n9 ih =>
                          intro y8_15 z_best_15 H locs ls hP hD hS hl hf
                          obtain ⟨rec15, hrec15, hf⟩ := lq2_s hf
                          have hf := hB15 rec15 _ _ hf
                          refine lv_iload hx hb dX9_both_175 (lv_at hl 4 rfl) ?_
                          refine lv_iconst (v := (3 : Int32)) hx hb dX9_both_177 (by decide) ?_
                          refine lv_icmp_ge (tgt := 217) hx hb dX9_both_178 (by decide) (fun h9 => ?_) (fun h9 => ?_)
                          · have hf := pg_t h9 hf
                            exact WJ217_6 _ _ _ _ _ _ _ _ _ _ _ hP hD hS (lv_sub hl [0, 1, 2, 3] rfl) hf
                          · have hf := pg_f h9 hf
                            refine lv_aload_n hx hb dX9_both_181 rfl (lv_at hl 0 rfl) ?_
                            refine va_get (D := (dC, dI)) (ci := 9) (v := .ref qz_best) (C := RX9) (T := TX9) (N := 32) hx hb hw inlX9 hown hK hP 0 rfl rfl 22 (by decide) (hw _ mw_6_12) (fun _ h9 => h9) rfl dX9_both_182 ?_
                            refine lv_iload hx hb dX9_both_185 (lv_at hl 4 rfl) ?_
                            refine lv_aload_n hx hb dX9_both_187 rfl (lv_at hl 0 rfl) ?_
                            refine va_get (D := (dC, dI)) (ci := 9) (v := .ref qz_at) (C := RX9) (T := TX9) (N := 32) hx hb hw inlX9 hown hK hP 0 rfl rfl 18 (by decide) (hw _ mw_6_9) (fun _ h9 => h9) rfl dX9_both_188 ?_
                            refine lv_iload hx hb dX9_both_191 (lv_at hl 4 rfl) ?_
                            obtain ⟨hi16, hf⟩ := pg_chk hf
                            refine va_iald hx hb hK hP 9 0 rfl rfl hi16 dX9_both_193 ?_
                            obtain ⟨hi17, hf⟩ := pg_chk hf
                            refine va_iast hx hb hK hP hD hS 11 0 rfl rfl hi17 dX9_both_194 (fun H locs hP hD hS => ?_)
                            have hP : va_P (dC, dI) vwCl (W_X9z cI cZ cII qz qz_text qz_t qz_draft qz_s qz_kept qz_isKept qz_times qz_w qz_at qz_pulled qz_best qz_cartRow qz_tryRow qz_pairs qz_from qz_then qz_tryAt z_thrown z_typed z_next z_token z_place z_value z_figures z_fault z_faultAt z_timeMany z_eaten_12 z_half z_bestMinutes z_bestOats z_isDue z_text z_t z_draft z_s z_kept z_isKept z_times z_w_12 z_at_13 z_pulled_12 (upd z_best_15 (y8_15).toNatClampNeg (z_at_13 (y8_15).toNatClampNeg)) z_cartRow z_tryRow z_pairs z_from_1 z_then_10 z_tryAt_12) H := hP
                            have hD : va_D A (W_X9z cI cZ cII qz qz_text qz_t qz_draft qz_s qz_kept qz_isKept qz_times qz_w qz_at qz_pulled qz_best qz_cartRow qz_tryRow qz_pairs qz_from qz_then qz_tryAt z_thrown z_typed z_next z_token z_place z_value z_figures z_fault z_faultAt z_timeMany z_eaten_12 z_half z_bestMinutes z_bestOats z_isDue z_text z_t z_draft z_s z_kept z_isKept z_times z_w_12 z_at_13 z_pulled_12 (upd z_best_15 (y8_15).toNatClampNeg (z_at_13 (y8_15).toNatClampNeg)) z_cartRow z_tryRow z_pairs z_from_1 z_then_10 z_tryAt_12) := hD
                            refine lv_aload_n hx hb dX9_both_195 rfl (lv_at hl 0 rfl) ?_
                            refine va_get (D := (dC, dI)) (ci := 9) (v := .ref qz_best) (C := RX9) (T := TX9) (N := 32) hx hb hw inlX9 hown hK hP 0 rfl rfl 22 (by decide) (hw _ mw_6_12) (fun _ h9 => h9) rfl dX9_both_196 ?_
                            refine lv_iconst (v := (3 : Int32)) hx hb dX9_both_199 (by decide) ?_
                            refine lv_iload hx hb dX9_both_200 (lv_at hl 4 rfl) ?_
                            refine lv_iadd hx hb dX9_both_202 ?_
                            refine lv_aload_n hx hb dX9_both_203 rfl (lv_at hl 0 rfl) ?_
                            refine va_get (D := (dC, dI)) (ci := 9) (v := .ref qz_tryAt) (C := RX9) (T := TX9) (N := 32) hx hb hw inlX9 hown hK hP 0 rfl rfl 31 (by decide) (hw _ mw_6_18) (fun _ h9 => h9) rfl dX9_both_204 ?_
                            refine lv_iload hx hb dX9_both_207 (lv_at hl 4 rfl) ?_
                            refine va_iald hx hb hK hP 17 0 rfl rfl hi16 dX9_both_209 ?_
                            obtain ⟨hi18, hf⟩ := pg_chk hf
                            refine va_iast hx hb hK hP hD hS 11 0 rfl rfl hi18 dX9_both_210 (fun H locs hP hD hS => ?_)
                            have hP : va_P (dC, dI) vwCl (W_X9z cI cZ cII qz qz_text qz_t qz_draft qz_s qz_kept qz_isKept qz_times qz_w qz_at qz_pulled qz_best qz_cartRow qz_tryRow qz_pairs qz_from qz_then qz_tryAt z_thrown z_typed z_next z_token z_place z_value z_figures z_fault z_faultAt z_timeMany z_eaten_12 z_half z_bestMinutes z_bestOats z_isDue z_text z_t z_draft z_s z_kept z_isKept z_times z_w_12 z_at_13 z_pulled_12 (upd (upd z_best_15 (y8_15).toNatClampNeg (z_at_13 (y8_15).toNatClampNeg)) (((3 : Int32) + y8_15)).toNatClampNeg (z_tryAt_12 (y8_15).toNatClampNeg)) z_cartRow z_tryRow z_pairs z_from_1 z_then_10 z_tryAt_12) H := hP
                            have hD : va_D A (W_X9z cI cZ cII qz qz_text qz_t qz_draft qz_s qz_kept qz_isKept qz_times qz_w qz_at qz_pulled qz_best qz_cartRow qz_tryRow qz_pairs qz_from qz_then qz_tryAt z_thrown z_typed z_next z_token z_place z_value z_figures z_fault z_faultAt z_timeMany z_eaten_12 z_half z_bestMinutes z_bestOats z_isDue z_text z_t z_draft z_s z_kept z_isKept z_times z_w_12 z_at_13 z_pulled_12 (upd (upd z_best_15 (y8_15).toNatClampNeg (z_at_13 (y8_15).toNatClampNeg)) (((3 : Int32) + y8_15)).toNatClampNeg (z_tryAt_12 (y8_15).toNatClampNeg)) z_cartRow z_tryRow z_pairs z_from_1 z_then_10 z_tryAt_12) := hD
                            refine lv_iinc (v := (y8_15 + (1 : Int32))) (lv' := [(8, .int (y8_15 + (1 : Int32))), (0, .ref qz), (1, .int n1), (2, .int (z_eaten_5 + r_12)), (3, .int y3_3)]) hx hb dX9_both_211 hl (k := 4) rfl rfl (by decide) rfl (fun ls hl => ?_)
                            refine lv_goto (tgt := 175) hx hb dX9_both_214 (by decide) ?_
                            exact ih _ _ _ _ _ hP hD hS (lv_sub hl [1, 2, 3, 4, 0] rfl) (hrec15 _ _ hf)
                      exact WL15 fu _ _ _ _ _ hP hD hS (lv_sub hl [3, 4, 1, 5, 0] rfl) hf
                  refine lv_icmp_ne (tgt := 144) hx hb dX9_both_137 (by decide) (fun h9 => ?_) (fun h9 => ?_)
                  · have hf := pg_f h9 hf
                    refine lv_iload_n hx hb dX9_both_144 rfl (lv_at hl 2 rfl) ?_
                    refine lv_iload hx hb dX9_both_145 (lv_at hl 4 rfl) ?_
                    refine lv_isub hx hb dX9_both_147 ?_
                    exact WJ148_11 _ _ _ _ hP hD hS hl hf
                  · have hf := pg_t h9 hf
                    refine lv_iconst (v := (-1 : Int32)) hx hb dX9_both_140 (by decide) ?_
                    refine lv_goto (tgt := 148) hx hb dX9_both_141 (by decide) ?_
                    exact WJ148_11 _ _ _ _ hP hD hS hl hf
                obtain ⟨B19, hB19, hf⟩ := lq2_n hf
                have WL19 : ∀ (n9 : Nat) (y7_19 : Int32) (z_then_19 : Nat → Int32) (H : Heap) (locs : List Loc) (ls : Array Slot), va_P (dC, dI) vwCl (W_X9z cI cZ cII qz qz_text qz_t qz_draft qz_s qz_kept qz_isKept qz_times qz_w qz_at qz_pulled qz_best qz_cartRow qz_tryRow qz_pairs qz_from qz_then qz_tryAt z_thrown z_typed z_next z_token z_place z_value z_figures z_fault z_faultAt z_timeMany z_eaten_5 z_half z_bestMinutes z_bestOats z_isDue z_text z_t z_draft z_s z_kept z_isKept z_times z_w_9 z_at_4 z_pulled_5 z_best_3 z_cartRow z_tryRow z_pairs z_from_1 z_then_19 z_tryAt_3) H → va_D A (W_X9z cI cZ cII qz qz_text qz_t qz_draft qz_s qz_kept qz_isKept qz_times qz_w qz_at qz_pulled qz_best qz_cartRow qz_tryRow qz_pairs qz_from qz_then qz_tryAt z_thrown z_typed z_next z_token z_place z_value z_figures z_fault z_faultAt z_timeMany z_eaten_5 z_half z_bestMinutes z_bestOats z_isDue z_text z_t z_draft z_s z_kept z_isKept z_times z_w_9 z_at_4 z_pulled_5 z_best_3 z_cartRow z_tryRow z_pairs z_from_1 z_then_19 z_tryAt_3) → va_S A s.heap H locs → lv_has ls 9 [(0, .ref qz), (1, .int n1), (2, .int y2_3), (3, .int y3_3), (6, .int z_eaten_5), (7, .int y7_19)] → lq2 B19 n9 y7_19 z_then_19 = some (rr, z_eaten', z_w', z_at', z_pulled', z_best', z_from', z_then', z_tryAt') → W p l e rm_X9_both s m args below meth c H locs 0 0 Q (F0 m 97 ls []) := by
                  intro n9
                  induction n9 with
                  | zero => intro y7_19 z_then_19 H locs ls hP hD hS hl hf; cases hf
                  | succ n9 ih =>
                    intro y7_19 z_then_19 H locs ls hP hD hS hl hf
                    obtain ⟨rec19, hrec19, hf⟩ := lq2_s hf
                    have hf := hB19 rec19 _ _ hf
                    refine lv_iload hx hb dX9_both_97 (lv_at hl 5 rfl) ?_
                    refine lv_bipush (v := (6 : Int32)) hx hb dX9_both_99 (by decide) ?_
                    refine lv_icmp_ge (tgt := 124) hx hb dX9_both_101 (by decide) (fun h9 => ?_) (fun h9 => ?_)
                    · have hf := pg_t h9 hf
                      exact WK124_10 _ _ _ _ hP hD hS (lv_sub hl [0, 1, 2, 3, 4] rfl) hf
                    · have hf := pg_f h9 hf
                      refine lv_aload_n hx hb dX9_both_104 rfl (lv_at hl 0 rfl) ?_
                      refine va_get (D := (dC, dI)) (ci := 9) (v := .ref qz_then) (C := RX9) (T := TX9) (N := 32) hx hb hw inlX9 hown hK hP 0 rfl rfl 30 (by decide) (hw _ mw_6_17) (fun _ h9 => h9) rfl dX9_both_105 ?_
                      refine lv_iload hx hb dX9_both_108 (lv_at hl 5 rfl) ?_
                      refine lv_aload_n hx hb dX9_both_110 rfl (lv_at hl 0 rfl) ?_
                      refine va_get (D := (dC, dI)) (ci := 9) (v := .ref qz_w) (C := RX9) (T := TX9) (N := 32) hx hb hw inlX9 hown hK hP 0 rfl rfl 17 (by decide) (hw _ mw_6_8) (fun _ h9 => h9) rfl dX9_both_111 ?_
                      refine lv_iload hx hb dX9_both_114 (lv_at hl 5 rfl) ?_
                      obtain ⟨hi20, hf⟩ := pg_chk hf
                      refine va_iald hx hb hK hP 8 0 rfl rfl hi20 dX9_both_116 ?_
                      refine va_iast hx hb hK hP hD hS 16 0 rfl rfl hi20 dX9_both_117 (fun H locs hP hD hS => ?_)
                      have hP : va_P (dC, dI) vwCl (W_X9z cI cZ cII qz qz_text qz_t qz_draft qz_s qz_kept qz_isKept qz_times qz_w qz_at qz_pulled qz_best qz_cartRow qz_tryRow qz_pairs qz_from qz_then qz_tryAt z_thrown z_typed z_next z_token z_place z_value z_figures z_fault z_faultAt z_timeMany z_eaten_5 z_half z_bestMinutes z_bestOats z_isDue z_text z_t z_draft z_s z_kept z_isKept z_times z_w_9 z_at_4 z_pulled_5 z_best_3 z_cartRow z_tryRow z_pairs z_from_1 (upd z_then_19 (y7_19).toNatClampNeg (z_w_9 (y7_19).toNatClampNeg)) z_tryAt_3) H := hP
                      have hD : va_D A (W_X9z cI cZ cII qz qz_text qz_t qz_draft qz_s qz_kept qz_isKept qz_times qz_w qz_at qz_pulled qz_best qz_cartRow qz_tryRow qz_pairs qz_from qz_then qz_tryAt z_thrown z_typed z_next z_token z_place z_value z_figures z_fault z_faultAt z_timeMany z_eaten_5 z_half z_bestMinutes z_bestOats z_isDue z_text z_t z_draft z_s z_kept z_isKept z_times z_w_9 z_at_4 z_pulled_5 z_best_3 z_cartRow z_tryRow z_pairs z_from_1 (upd z_then_19 (y7_19).toNatClampNeg (z_w_9 (y7_19).toNatClampNeg)) z_tryAt_3) := hD
                      refine lv_iinc (v := (y7_19 + (1 : Int32))) (lv' := [(7, .int (y7_19 + (1 : Int32))), (0, .ref qz), (1, .int n1), (2, .int y2_3), (3, .int y3_3), (6, .int z_eaten_5)]) hx hb dX9_both_118 hl (k := 5) rfl rfl (by decide) rfl (fun ls hl => ?_)
                      refine lv_goto (tgt := 97) hx hb dX9_both_121 (by decide) ?_
                      exact ih _ _ _ _ _ hP hD hS (lv_sub hl [1, 2, 3, 4, 5, 0] rfl) (hrec19 _ _ hf)
                exact WL19 fu _ _ _ _ _ hP hD hS (lv_sub hl [2, 3, 4, 5, 1, 0] rfl) hf
              refine lv_icmp_eq (tgt := 82) hx hb dX9_both_71 (by decide) (fun h9 => ?_) (fun h9 => ?_)
              · have hf := pg_t h9 hf
                exact WJ82_8 _ _ _ _ hP hD hS (lv_sub hl [0, 1, 2, 3] rfl) hf
              · have hf := pg_f h9 hf
                refine lv_aload_n hx hb dX9_both_74 rfl (lv_at hl 0 rfl) ?_
                refine va_get (D := (dC, dI)) (ci := 9) (v := .int z_eaten_5) (C := RX9) (T := TX9) (N := 32) hx hb hw inlX9 hown hK hP 0 rfl rfl 20 (by decide) (hw _ mw_30_23) (fun _ h9 => h9) rfl dX9_both_75 ?_
                refine lv_iload_n hx hb dX9_both_78 rfl (lv_at hl 2 rfl) ?_
                refine lv_icmp_ge (tgt := 217) hx hb dX9_both_79 (by decide) (fun h9 => ?_) (fun h9 => ?_)
                · have hf := pg_t h9 hf
                  exact WJ217_6 _ _ _ _ _ _ _ _ _ _ _ hP hD hS (lv_sub hl [0, 1, 2, 3] rfl) hf
                · have hf := pg_f h9 hf
                  exact WJ82_8 _ _ _ _ hP hD hS (lv_sub hl [0, 1, 2, 3] rfl) hf
        refine lv_if_eq (tgt := 49) hx hb dX9_both_28 (by decide) (fun h9 => ?_) (fun h9 => ?_)
        · have hf := pg_t h9 hf
          exact WJ49_5 _ _ _ _ _ _ _ hP hD hS (lv_sub hl [2, 3, 4, 5, 1, 0] rfl) hf
        · have hf := pg_f h9 hf
          refine lv_aload_n hx hb dX9_both_31 rfl (lv_at hl 2 rfl) ?_
          obtain ⟨z_w_21, hc, hf⟩ := bn1_s hf
          refine pg_cVv (As := []) (rest := []) (wf := (W_X9z cI cZ cII qz qz_text qz_t qz_draft qz_s qz_kept qz_isKept qz_times qz_w qz_at qz_pulled qz_best qz_cartRow qz_tryRow qz_pairs qz_from qz_then qz_tryAt z_thrown z_typed z_next z_token z_place z_value z_figures z_fault z_faultAt z_timeMany z_eaten_3 z_half z_bestMinutes z_bestOats z_isDue z_text z_t z_draft z_s z_kept z_isKept z_times z_w_21 z_at_4 z_pulled_3 z_best_3 z_cartRow z_tryRow z_pairs z_from_1 z_then_3 z_tryAt_3)) ⟨hx, hb, hml, hown, hw⟩ (c_X9_strong l dC dI cI cZ cII qz qz_text qz_t qz_draft qz_s qz_kept qz_isKept qz_times qz_w qz_at qz_pulled qz_best qz_cartRow qz_tryRow qz_pairs qz_from qz_then qz_tryAt H.size z_thrown z_typed z_next z_token z_place z_value z_figures z_fault z_faultAt z_timeMany z_eaten_3 z_half z_bestMinutes z_bestOats z_isDue z_text z_t z_draft z_s z_kept z_isKept z_times z_w_3 z_at_4 z_pulled_3 z_best_3 z_cartRow z_tryRow z_pairs z_from_1 z_then_3 z_tryAt_3  z_w_21 hc) (cwV 0 hts (wM_V mw_36_4 mw_36_5 mw_36_6 mw_1_5 mw_36_7) rfl rfl rfl dk_X9_strong ⟨Nat.le_of_ble_eq_true rfl, Nat.le_of_ble_eq_true rfl⟩) hK hP hD hS hA 9 0 rfl rfl rfl [0, 1, 2, 3, 4, 5, 6, 7, 8, 9, 10, 11, 12, 13, 14, 15, 16, 17] [] [0, 1, 2, 3, 4, 5, 6, 7, 8, 9, 10, 11, 12, 13, 14, 15, 16, 17] (plC_64 cI cZ cII qz qz_text qz_t qz_draft qz_s qz_kept qz_isKept qz_times qz_w qz_at qz_pulled qz_best qz_cartRow qz_tryRow qz_pairs qz_from qz_then qz_tryAt z_thrown z_typed z_next z_token z_place z_value z_figures z_fault z_faultAt z_timeMany z_eaten_3 z_half z_bestMinutes z_bestOats z_isDue z_text z_t z_draft z_s z_kept z_isKept z_times z_w_3 z_at_4 z_pulled_3 z_best_3 z_cartRow z_tryRow z_pairs z_from_1 z_then_3 z_tryAt_3) rfl (plF_64 cI cZ cII qz qz_text qz_t qz_draft qz_s qz_kept qz_isKept qz_times qz_w qz_at qz_pulled qz_best qz_cartRow qz_tryRow qz_pairs qz_from qz_then qz_tryAt z_thrown z_typed z_next z_token z_place z_value z_figures z_fault z_faultAt z_timeMany z_eaten_3 z_half z_bestMinutes z_bestOats z_isDue z_text z_t z_draft z_s z_kept z_isKept z_times z_w_3 z_at_4 z_pulled_3 z_best_3 z_cartRow z_tryRow z_pairs z_from_1 z_then_3 z_tryAt_3 z_thrown z_typed z_next z_token z_place z_value z_figures z_fault z_faultAt z_timeMany z_eaten_3 z_half z_bestMinutes z_bestOats z_isDue z_text z_t z_draft z_s z_kept z_isKept z_times z_w_21 z_at_4 z_pulled_3 z_best_3 z_cartRow z_tryRow z_pairs z_from_1 z_then_3 z_tryAt_3) (by decide) rfl hl.1 rfl (Nat.le_of_ble_eq_true rfl) dX9_both_32 ⟨Nat.zero_le _, Nat.zero_le _⟩ (fun H locs hP hD hS => ?_)
          refine lv_aload_n hx hb dX9_both_35 rfl (lv_at hl 2 rfl) ?_
          refine lv_aload_n hx hb dX9_both_36 rfl (lv_at hl 2 rfl) ?_
          refine va_get (D := (dC, dI)) (ci := 9) (v := .ref qz_s) (C := RX9) (T := TX9) (N := 32) hx hb hw inlX9 hown hK hP 0 rfl rfl 12 (by decide) (hw _ mw_6_3) (fun _ h9 => h9) rfl dX9_both_37 ?_
          refine lv_bipush (v := (9 : Int32)) hx hb dX9_both_40 (by decide) ?_
          refine va_iald hx hb hK hP 4 0 rfl rfl (pg_lit (by decide)) dX9_both_42 ?_
          refine lv_iload_n hx hb dX9_both_43 rfl (lv_at hl 3 rfl) ?_
          obtain ⟨r_22, z_eaten_22, z_w_22, z_pulled_22, hc, hf⟩ := bn4_s hf
          refine pg_cVi (As := [.int (z_s ((9 : Int32)).toNatClampNeg), .int n1]) (rest := []) (wf := (W_X9z cI cZ cII qz qz_text qz_t qz_draft qz_s qz_kept qz_isKept qz_times qz_w qz_at qz_pulled qz_best qz_cartRow qz_tryRow qz_pairs qz_from qz_then qz_tryAt z_thrown z_typed z_next z_token z_place z_value z_figures z_fault z_faultAt z_timeMany z_eaten_22 z_half z_bestMinutes z_bestOats z_isDue z_text z_t z_draft z_s z_kept z_isKept z_times z_w_22 z_at_4 z_pulled_22 z_best_3 z_cartRow z_tryRow z_pairs z_from_1 z_then_3 z_tryAt_3)) ⟨hx, hb, hml, hown, hw⟩ (c_X9_crosses l dC dI cI cZ cII qz qz_text qz_t qz_draft qz_s qz_kept qz_isKept qz_times qz_w qz_at qz_pulled qz_best qz_cartRow qz_tryRow qz_pairs qz_from qz_then qz_tryAt H.size z_thrown z_typed z_next z_token z_place z_value z_figures z_fault z_faultAt z_timeMany z_eaten_3 z_half z_bestMinutes z_bestOats z_isDue z_text z_t z_draft z_s z_kept z_isKept z_times z_w_21 z_at_4 z_pulled_3 z_best_3 z_cartRow z_tryRow z_pairs z_from_1 z_then_3 z_tryAt_3 (z_s ((9 : Int32)).toNatClampNeg) n1 r_22 z_eaten_22 z_w_22 z_pulled_22 hc) (cwV 2 hts (wM_V mw_31_1 mw_31_2 mw_31_3 mw_1_5 mw_31_4) rfl rfl rfl dk_X9_crosses ⟨Nat.le_of_ble_eq_true rfl, Nat.le_of_ble_eq_true rfl⟩) hK hP hD hS hA 9 0 rfl rfl rfl [0, 1, 2, 3, 4, 5, 6, 7, 8, 9, 10, 11, 12, 13, 14, 15, 16, 17] [] [0, 1, 2, 3, 4, 5, 6, 7, 8, 9, 10, 11, 12, 13, 14, 15, 16, 17] (plC_64 cI cZ cII qz qz_text qz_t qz_draft qz_s qz_kept qz_isKept qz_times qz_w qz_at qz_pulled qz_best qz_cartRow qz_tryRow qz_pairs qz_from qz_then qz_tryAt z_thrown z_typed z_next z_token z_place z_value z_figures z_fault z_faultAt z_timeMany z_eaten_3 z_half z_bestMinutes z_bestOats z_isDue z_text z_t z_draft z_s z_kept z_isKept z_times z_w_21 z_at_4 z_pulled_3 z_best_3 z_cartRow z_tryRow z_pairs z_from_1 z_then_3 z_tryAt_3) rfl (plF_64 cI cZ cII qz qz_text qz_t qz_draft qz_s qz_kept qz_isKept qz_times qz_w qz_at qz_pulled qz_best qz_cartRow qz_tryRow qz_pairs qz_from qz_then qz_tryAt z_thrown z_typed z_next z_token z_place z_value z_figures z_fault z_faultAt z_timeMany z_eaten_3 z_half z_bestMinutes z_bestOats z_isDue z_text z_t z_draft z_s z_kept z_isKept z_times z_w_21 z_at_4 z_pulled_3 z_best_3 z_cartRow z_tryRow z_pairs z_from_1 z_then_3 z_tryAt_3 z_thrown z_typed z_next z_token z_place z_value z_figures z_fault z_faultAt z_timeMany z_eaten_22 z_half z_bestMinutes z_bestOats z_isDue z_text z_t z_draft z_s z_kept z_isKept z_times z_w_22 z_at_4 z_pulled_22 z_best_3 z_cartRow z_tryRow z_pairs z_from_1 z_then_3 z_tryAt_3) (by decide) rfl hl.1 rfl (Nat.le_of_ble_eq_true rfl) dX9_both_44 ⟨Nat.zero_le _, Nat.zero_le _⟩ (fun H locs hP hD hS => ?_)
          refine lv_istore (lv' := [(5, .int r_22), (4, .int r_4), (0, .ref qz), (1, .int n1), (2, .int y2_3), (3, .int y3_3)]) hx hb dX9_both_47 hl (by decide) rfl (fun ls hl => ?_)
          exact WJ49_5 _ _ _ _ _ _ _ hP hD hS (lv_sub hl [2, 3, 4, 5, 1, 0] rfl) hf
  exact WL3 fu _ _ _ _ _ _ _ _ _ _ _ _ hP hD hS (lv_sub hl [2, 3, 1, 0] rfl) hf
def f_X9_twice (n1 : Int32) (n2 : Int32) (n3 : Int32) (z_thrown : Int32) (z_eaten : Int32) (z_half : Int32) (z_t : Nat → Int32) (z_s : Nat → Int32) (z_w : Nat → Int32) (z_at : Nat → Int32) (z_pulled : Nat → Int32) (z_best : Nat → Int32) (z_from : Nat → Int32) (z_then : Nat → Int32) (z_tryAt : Nat → Int32) : Option (Int32 × Int32 × Int32 × (Nat → Int32) × (Nat → Int32) × (Nat → Int32) × (Nat → Int32) × (Nat → Int32) × (Nat → Int32) × (Nat → Int32)) :=
  bn1 (f_X9_isAsked n3 (-1 : Int32) z_t) (fun (r_1 : Int32) =>
    if r_1 = 0 then
      some ((-1000000001 : Int32), (0 : Int32), z_eaten, z_w, z_at, z_pulled, z_best, z_from, z_then, z_tryAt)
    else
      bn1 (f_X9_in n1 (0 : Int32) (240 : Int32)) (fun (r_2 : Int32) =>
        if r_2 = 0 then
          some ((-1000000002 : Int32), (0 : Int32), z_eaten, z_w, z_at, z_pulled, z_best, z_from, z_then, z_tryAt)
        else
          bn1 (f_X9_in n2 (0 : Int32) (1 : Int32)) (fun (r_3 : Int32) =>
            if r_3 = 0 then
              some ((-1000000002 : Int32), (0 : Int32), z_eaten, z_w, z_at, z_pulled, z_best, z_from, z_then, z_tryAt)
            else
              bn9 (f_X9_both n1 z_eaten z_half z_t z_s z_w z_at z_pulled z_best z_from z_then z_tryAt) (fun (r_4 : Int32) (z_eaten_4 : Int32) (z_w_4 : Nat → Int32) (z_at_4 : Nat → Int32) (z_pulled_4 : Nat → Int32) (z_best_4 : Nat → Int32) (z_from_4 : Nat → Int32) (z_then_4 : Nat → Int32) (z_tryAt_4 : Nat → Int32) =>
                if r_4 = (-1 : Int32) then
                  some (r_4, (0 : Int32), z_eaten_4, z_w_4, z_at_4, z_pulled_4, z_best_4, z_from_4, z_then_4, z_tryAt_4)
                else
                  if n3 = (-1 : Int32) then
                    some (r_4, (0 : Int32), z_eaten_4, z_w_4, z_at_4, z_pulled_4, z_best_4, z_from_4, z_then_4, z_tryAt_4)
                  else
                    if (((3 : Int32) * n2) + n3) < 0 ∨ 6 ≤ ((((3 : Int32) * n2) + n3)).toNatClampNeg then none else
                    some ((z_best_4 ((((3 : Int32) * n2) + n3)).toNatClampNeg), (0 : Int32), z_eaten_4, z_w_4, z_at_4, z_pulled_4, z_best_4, z_from_4, z_then_4, z_tryAt_4)
              )
          )
      )
  )
abbrev rm_X9_twice : Room := { frames := 7, cells := 0, slots := 0, locals := 170 }
theorem dk_X9_twice : yX9_twice.cls = RX9 ∧ yX9_twice.cls ≠ "java/lang/invoke/MethodHandle" ∧ yX9_twice.cls ≠ "java/lang/invoke/VarHandle" ∧ (parseMethodDescriptor yX9_twice.desc).map (fun d => d.parameters.length) = some 3 := by decide +kernel
set_option maxHeartbeats 4000000 in
set_option maxRecDepth 100000 in
theorem c_X9_twice (l : Launch) (dC : Nat → ClassId) (dI : Nat → Nat → Nat) (cI cZ cII : ClassId) (qz qz_text qz_t qz_draft qz_s qz_kept qz_isKept qz_times qz_w qz_at qz_pulled qz_best qz_cartRow qz_tryRow qz_pairs qz_from qz_then qz_tryAt : Nat) (sz : Nat) (z_thrown : Int32) (z_typed : Int32) (z_next : Int32) (z_token : Int32) (z_place : Int32) (z_value : Int32) (z_figures : Int32) (z_fault : Int32) (z_faultAt : Int32) (z_timeMany : Int32) (z_eaten : Int32) (z_half : Int32) (z_bestMinutes : Int32) (z_bestOats : Int32) (z_isDue : Int32) (z_text : Nat → Int32) (z_t : Nat → Int32) (z_draft : Nat → Int32) (z_s : Nat → Int32) (z_kept : Nat → Int32) (z_isKept : Nat → Int32) (z_times : Nat → Int32) (z_w : Nat → Int32) (z_at : Nat → Int32) (z_pulled : Nat → Int32) (z_best : Nat → Int32) (z_cartRow : Nat → Int32) (z_tryRow : Nat → Int32) (z_pairs : Nat → Int32) (z_from : Nat → Int32) (z_then : Nat → Int32) (z_tryAt : Nat → Int32) (n1 : Int32) (n2 : Int32) (n3 : Int32) (rr : Int32) (z_thrown' : Int32) (z_eaten' : Int32) (z_w' : Nat → Int32) (z_at' : Nat → Int32) (z_pulled' : Nat → Int32) (z_best' : Nat → Int32) (z_from' : Nat → Int32) (z_then' : Nat → Int32) (z_tryAt' : Nat → Int32) (hf : f_X9_twice n1 n2 n3 z_thrown z_eaten z_half z_t z_s z_w z_at z_pulled z_best z_from z_then z_tryAt = some (rr, z_thrown', z_eaten', z_w', z_at', z_pulled', z_best', z_from', z_then', z_tryAt')) : Met l yX9_twice (wM yX9_twice cX9_twice 5 (some .int)) rm_X9_twice (PreW (dC, dI) (tyA cI cZ cII) (W_X9z cI cZ cII qz qz_text qz_t qz_draft qz_s qz_kept qz_isKept qz_times qz_w qz_at qz_pulled qz_best qz_cartRow qz_tryRow qz_pairs qz_from qz_then qz_tryAt z_thrown z_typed z_next z_token z_place z_value z_figures z_fault z_faultAt z_timeMany z_eaten z_half z_bestMinutes z_bestOats z_isDue z_text z_t z_draft z_s z_kept z_isKept z_times z_w z_at z_pulled z_best z_cartRow z_tryRow z_pairs z_from z_then z_tryAt) sz [.ref qz, .int n1, .int n2, .int n3]) (PostI (dC, dI) (tyA cI cZ cII) rr (W_X9z cI cZ cII qz qz_text qz_t qz_draft qz_s qz_kept qz_isKept qz_times qz_w qz_at qz_pulled qz_best qz_cartRow qz_tryRow qz_pairs qz_from qz_then qz_tryAt z_thrown z_typed z_next z_token z_place z_value z_figures z_fault z_faultAt z_timeMany z_eaten z_half z_bestMinutes z_bestOats z_isDue z_text z_t z_draft z_s z_kept z_isKept z_times z_w z_at z_pulled z_best z_cartRow z_tryRow z_pairs z_from z_then z_tryAt) (W_X9z cI cZ cII qz qz_text qz_t qz_draft qz_s qz_kept qz_isKept qz_times qz_w qz_at qz_pulled qz_best qz_cartRow qz_tryRow qz_pairs qz_from qz_then qz_tryAt z_thrown' z_typed z_next z_token z_place z_value z_figures z_fault z_faultAt z_timeMany z_eaten' z_half z_bestMinutes z_bestOats z_isDue z_text z_t z_draft z_s z_kept z_isKept z_times z_w' z_at' z_pulled' z_best' z_cartRow z_tryRow z_pairs z_from' z_then' z_tryAt') sz) 0 0 (va_A (W_X9z cI cZ cII qz qz_text qz_t qz_draft qz_s qz_kept qz_isKept qz_times qz_w qz_at qz_pulled qz_best qz_cartRow qz_tryRow qz_pairs qz_from qz_then qz_tryAt z_thrown z_typed z_next z_token z_place z_value z_figures z_fault z_faultAt z_timeMany z_eaten z_half z_bestMinutes z_bestOats z_isDue z_text z_t z_draft z_s z_kept z_isKept z_times z_w z_at z_pulled z_best z_cartRow z_tryRow z_pairs z_from z_then z_tryAt) sz) := by
  refine Met.ofW (cc := cX9_twice) (maxL := 5) (ret := (some .int)) (by decide) rfl ?_
  intro p e s m args below meth c s₁ B hml hv
  obtain ⟨rfl, hsz, hP, hK, hD0⟩ := hv
  have hx := B.exec
  have hb := B.bytes
  have hr := B.returns
  have hts := atoms_spec (ws := wM yX9_twice cX9_twice 5 (some .int)) B.pre
  have hown : s.vm.findClass RX9 = some m.cls := findClass_of_methodNamed B.named
  have hlocks := B.notSynchronized
  subst hsz
  have hD := hD0.self (sz := s.heap.size)
  obtain ⟨A, hAe⟩ : ∃ A, A = va_A (W_X9z cI cZ cII qz qz_text qz_t qz_draft qz_s qz_kept qz_isKept qz_times qz_w qz_at qz_pulled qz_best qz_cartRow qz_tryRow qz_pairs qz_from qz_then qz_tryAt z_thrown z_typed z_next z_token z_place z_value z_figures z_fault z_faultAt z_timeMany z_eaten z_half z_bestMinutes z_bestOats z_isDue z_text z_t z_draft z_s z_kept z_isKept z_times z_w z_at z_pulled z_best z_cartRow z_tryRow z_pairs z_from z_then z_tryAt) s.heap.size := ⟨_, rfl⟩
  rw [← hAe] at hD
  have hA : ∀ q : Nat, s.heap.size ≤ q → A q := fun q h => by rw [hAe]; exact Or.inr h
  have hS : va_S A s.heap s.heap [] := va_S.rf
  have hl := lv_entry ([.ref qz, .int n1, .int n2, .int n3]) (n := 5) (Nat.le_of_ble_eq_true rfl)
  rw [lg_entry_eq]
  generalize (lg_sl ([.ref qz, .int n1, .int n2, .int n3]) ++ List.replicate (5 - (lg_sl ([.ref qz, .int n1, .int n2, .int n3])).length) Slot.unset).toArray = ls at hl ⊢
  have hl : lv_has ls 5 [(0, .ref qz), (1, .int n1), (2, .int n2), (3, .int n3)] := hl
  generalize ([.ref qz, .int n1, .int n2, .int n3] : List Value).toArray = args at hts ⊢
  have hw : ∀ w ∈ wsL_law, w.before args s = true := fun w h => hts w (List.mem_cons_of_mem _ h)
  refine pg_start (fun Q hQ => ?_)
  have RET : ∀ (H : Heap) (locs : List Loc) (ls : Array Slot) (pc : Nat) (v : Int32) (x0 : Int32) (x1 : Int32) (x2 : Nat → Int32) (x3 : Nat → Int32) (x4 : Nat → Int32) (x5 : Nat → Int32) (x6 : Nat → Int32) (x7 : Nat → Int32) (x8 : Nat → Int32) , decode cX9_twice pc = .ok (.ireturn, 1) → va_P (dC, dI) vwCl (W_X9z cI cZ cII qz qz_text qz_t qz_draft qz_s qz_kept qz_isKept qz_times qz_w qz_at qz_pulled qz_best qz_cartRow qz_tryRow qz_pairs qz_from qz_then qz_tryAt x0 z_typed z_next z_token z_place z_value z_figures z_fault z_faultAt z_timeMany x1 z_half z_bestMinutes z_bestOats z_isDue z_text z_t z_draft z_s z_kept z_isKept z_times x2 x3 x4 x5 z_cartRow z_tryRow z_pairs x6 x7 x8) H → va_D A (W_X9z cI cZ cII qz qz_text qz_t qz_draft qz_s qz_kept qz_isKept qz_times qz_w qz_at qz_pulled qz_best qz_cartRow qz_tryRow qz_pairs qz_from qz_then qz_tryAt x0 z_typed z_next z_token z_place z_value z_figures z_fault z_faultAt z_timeMany x1 z_half z_bestMinutes z_bestOats z_isDue z_text z_t z_draft z_s z_kept z_isKept z_times x2 x3 x4 x5 z_cartRow z_tryRow z_pairs x6 x7 x8) → va_S A s.heap H locs → (some (v, x0, x1, x2, x3, x4, x5, x6, x7, x8) : Option (Int32 × Int32 × Int32 × (Nat → Int32) × (Nat → Int32) × (Nat → Int32) × (Nat → Int32) × (Nat → Int32) × (Nat → Int32) × (Nat → Int32))) = some (rr, z_thrown', z_eaten', z_w', z_at', z_pulled', z_best', z_from', z_then', z_tryAt') → W p l e rm_X9_twice s m args below meth c H locs 0 0 Q (F0 m pc ls [.int v]) := by
    intro H locs ls pc v x0 x1 x2 x3 x4 x5 x6 x7 x8 hd hP hD hS he
    subst hAe; subst hQ
    simp only [Option.some.injEq, Prod.mk.injEq] at he
    obtain ⟨rfl, rfl, rfl, rfl, rfl, rfl, rfl, rfl, rfl, rfl⟩ := he
    exact pg_iret hx hb hr hlocks hK hP hD hS hd
  unfold f_X9_twice at hf
  refine lv_aload_n hx hb dX9_twice_0 rfl (lv_at hl 0 rfl) ?_
  refine lv_iconst (v := (0 : Int32)) hx hb dX9_twice_1 (by decide) ?_
  refine va_put (D := (dC, dI)) (ci := 9) (v := .int (0 : Int32)) (ty := .int) (C := RX9) (T := TX9) (N := 32) hx hb hw inlX9 tyX9 tyX9_ok nmX9 hown hK hP hD hS 0 rfl rfl 0 (by decide) (hw _ mw_7_19) (fun _ h9 => h9) rfl (by decide +kernel) rfl rfl (Nat.le_of_ble_eq_true rfl) dX9_twice_2 (fun H locs hP hD hS => ?_)
  have hP : va_P (dC, dI) vwCl (W_X9z cI cZ cII qz qz_text qz_t qz_draft qz_s qz_kept qz_isKept qz_times qz_w qz_at qz_pulled qz_best qz_cartRow qz_tryRow qz_pairs qz_from qz_then qz_tryAt (0 : Int32) z_typed z_next z_token z_place z_value z_figures z_fault z_faultAt z_timeMany z_eaten z_half z_bestMinutes z_bestOats z_isDue z_text z_t z_draft z_s z_kept z_isKept z_times z_w z_at z_pulled z_best z_cartRow z_tryRow z_pairs z_from z_then z_tryAt) H := hP
  have hD : va_D A (W_X9z cI cZ cII qz qz_text qz_t qz_draft qz_s qz_kept qz_isKept qz_times qz_w qz_at qz_pulled qz_best qz_cartRow qz_tryRow qz_pairs qz_from qz_then qz_tryAt (0 : Int32) z_typed z_next z_token z_place z_value z_figures z_fault z_faultAt z_timeMany z_eaten z_half z_bestMinutes z_bestOats z_isDue z_text z_t z_draft z_s z_kept z_isKept z_times z_w z_at z_pulled z_best z_cartRow z_tryRow z_pairs z_from z_then z_tryAt) := hD
  refine lv_aload_n hx hb dX9_twice_5 rfl (lv_at hl 0 rfl) ?_
  refine lv_iload_n hx hb dX9_twice_6 rfl (lv_at hl 3 rfl) ?_
  refine lv_iconst (v := (-1 : Int32)) hx hb dX9_twice_7 (by decide) ?_
  obtain ⟨r_1, hc, hf⟩ := bn1_s hf
  refine pg_cVi (As := [.int n3, .int (-1 : Int32)]) (rest := []) (wf := (W_X9z cI cZ cII qz qz_text qz_t qz_draft qz_s qz_kept qz_isKept qz_times qz_w qz_at qz_pulled qz_best qz_cartRow qz_tryRow qz_pairs qz_from qz_then qz_tryAt (0 : Int32) z_typed z_next z_token z_place z_value z_figures z_fault z_faultAt z_timeMany z_eaten z_half z_bestMinutes z_bestOats z_isDue z_text z_t z_draft z_s z_kept z_isKept z_times z_w z_at z_pulled z_best z_cartRow z_tryRow z_pairs z_from z_then z_tryAt)) ⟨hx, hb, hml, hown, hw⟩ (c_X9_isAsked l dC dI cI cZ cII qz qz_text qz_t qz_draft qz_s qz_kept qz_isKept qz_times qz_w qz_at qz_pulled qz_best qz_cartRow qz_tryRow qz_pairs qz_from qz_then qz_tryAt H.size (0 : Int32) z_typed z_next z_token z_place z_value z_figures z_fault z_faultAt z_timeMany z_eaten z_half z_bestMinutes z_bestOats z_isDue z_text z_t z_draft z_s z_kept z_isKept z_times z_w z_at z_pulled z_best z_cartRow z_tryRow z_pairs z_from z_then z_tryAt n3 (-1 : Int32) r_1 hc) (cwV 2 hts (wM_V mw_35_12 mw_35_13 mw_35_14 mw_1_5 mw_35_15) rfl rfl rfl dk_X9_isAsked ⟨Nat.le_of_ble_eq_true rfl, Nat.le_of_ble_eq_true rfl⟩) hK hP hD hS hA 9 0 rfl rfl rfl [0, 1, 2, 3, 4, 5, 6, 7, 8, 9, 10, 11, 12, 13, 14, 15, 16, 17] [] [0, 1, 2, 3, 4, 5, 6, 7, 8, 9, 10, 11, 12, 13, 14, 15, 16, 17] (plC_64 cI cZ cII qz qz_text qz_t qz_draft qz_s qz_kept qz_isKept qz_times qz_w qz_at qz_pulled qz_best qz_cartRow qz_tryRow qz_pairs qz_from qz_then qz_tryAt (0 : Int32) z_typed z_next z_token z_place z_value z_figures z_fault z_faultAt z_timeMany z_eaten z_half z_bestMinutes z_bestOats z_isDue z_text z_t z_draft z_s z_kept z_isKept z_times z_w z_at z_pulled z_best z_cartRow z_tryRow z_pairs z_from z_then z_tryAt) rfl (plF_64 cI cZ cII qz qz_text qz_t qz_draft qz_s qz_kept qz_isKept qz_times qz_w qz_at qz_pulled qz_best qz_cartRow qz_tryRow qz_pairs qz_from qz_then qz_tryAt (0 : Int32) z_typed z_next z_token z_place z_value z_figures z_fault z_faultAt z_timeMany z_eaten z_half z_bestMinutes z_bestOats z_isDue z_text z_t z_draft z_s z_kept z_isKept z_times z_w z_at z_pulled z_best z_cartRow z_tryRow z_pairs z_from z_then z_tryAt (0 : Int32) z_typed z_next z_token z_place z_value z_figures z_fault z_faultAt z_timeMany z_eaten z_half z_bestMinutes z_bestOats z_isDue z_text z_t z_draft z_s z_kept z_isKept z_times z_w z_at z_pulled z_best z_cartRow z_tryRow z_pairs z_from z_then z_tryAt) (by decide) rfl hl.1 rfl (Nat.le_of_ble_eq_true rfl) dX9_twice_8 ⟨Nat.zero_le _, Nat.zero_le _⟩ (fun H locs hP hD hS => ?_)
  refine lv_if_ne (tgt := 17) hx hb dX9_twice_11 (by decide) (fun h9 => ?_) (fun h9 => ?_)
  · have hf := pg_f h9 hf
    refine lv_iload_n hx hb dX9_twice_17 rfl (lv_at hl 1 rfl) ?_
    refine lv_iconst (v := (0 : Int32)) hx hb dX9_twice_18 (by decide) ?_
    refine lv_sipush (v := (240 : Int32)) hx hb dX9_twice_19 (by decide) ?_
    obtain ⟨r_2, hc, hf⟩ := bn1_s hf
    refine pg_cSi (As := [.int n1, .int (0 : Int32), .int (240 : Int32)]) (rest := []) (wf := (W_X9z cI cZ cII qz qz_text qz_t qz_draft qz_s qz_kept qz_isKept qz_times qz_w qz_at qz_pulled qz_best qz_cartRow qz_tryRow qz_pairs qz_from qz_then qz_tryAt (0 : Int32) z_typed z_next z_token z_place z_value z_figures z_fault z_faultAt z_timeMany z_eaten z_half z_bestMinutes z_bestOats z_isDue z_text z_t z_draft z_s z_kept z_isKept z_times z_w z_at z_pulled z_best z_cartRow z_tryRow z_pairs z_from z_then z_tryAt)) ⟨hx, hb, hml, hown, hw⟩ (c_X9_in l dC dI cI cZ cII  H.size  n1 (0 : Int32) (240 : Int32) r_2 hc) (va_cwS 3 hts (wM_S mw_8_0 mw_8_1 mw_1_5 mw_8_2) rfl rfl rfl dk_X9_in ⟨Nat.le_of_ble_eq_true rfl, Nat.le_of_ble_eq_true rfl⟩) hK hP hD hS hA [] [0, 1, 2, 3, 4, 5, 6, 7, 8, 9, 10, 11, 12, 13, 14, 15, 16, 17] [0, 1, 2, 3, 4, 5, 6, 7, 8, 9, 10, 11, 12, 13, 14, 15, 16, 17] (plC_62 cI cZ cII qz qz_text qz_t qz_draft qz_s qz_kept qz_isKept qz_times qz_w qz_at qz_pulled qz_best qz_cartRow qz_tryRow qz_pairs qz_from qz_then qz_tryAt (0 : Int32) z_typed z_next z_token z_place z_value z_figures z_fault z_faultAt z_timeMany z_eaten z_half z_bestMinutes z_bestOats z_isDue z_text z_t z_draft z_s z_kept z_isKept z_times z_w z_at z_pulled z_best z_cartRow z_tryRow z_pairs z_from z_then z_tryAt) rfl (plF_62 cI cZ cII qz qz_text qz_t qz_draft qz_s qz_kept qz_isKept qz_times qz_w qz_at qz_pulled qz_best qz_cartRow qz_tryRow qz_pairs qz_from qz_then qz_tryAt (0 : Int32) z_typed z_next z_token z_place z_value z_figures z_fault z_faultAt z_timeMany z_eaten z_half z_bestMinutes z_bestOats z_isDue z_text z_t z_draft z_s z_kept z_isKept z_times z_w z_at z_pulled z_best z_cartRow z_tryRow z_pairs z_from z_then z_tryAt ) (by decide) rfl hl.1 rfl (Nat.le_of_ble_eq_true rfl) dX9_twice_22 ⟨Nat.zero_le _, Nat.zero_le _⟩ (fun H locs hP hD hS => ?_)
    refine lv_if_eq (tgt := 37) hx hb dX9_twice_25 (by decide) (fun h9 => ?_) (fun h9 => ?_)
    · have hf := pg_t h9 hf
      refine lv_ldc (v := (-1000000002 : Int32)) hx hb hown (hw _ mw_7_20) dX9_twice_37 ?_
      exact RET _ _ _ _ _ _ _ _ _ _ _ _ _ _ dX9_twice_39 hP hD hS hf
    · have hf := pg_f h9 hf
      refine lv_iload_n hx hb dX9_twice_28 rfl (lv_at hl 2 rfl) ?_
      refine lv_iconst (v := (0 : Int32)) hx hb dX9_twice_29 (by decide) ?_
      refine lv_iconst (v := (1 : Int32)) hx hb dX9_twice_30 (by decide) ?_
      obtain ⟨r_3, hc, hf⟩ := bn1_s hf
      refine pg_cSi (As := [.int n2, .int (0 : Int32), .int (1 : Int32)]) (rest := []) (wf := (W_X9z cI cZ cII qz qz_text qz_t qz_draft qz_s qz_kept qz_isKept qz_times qz_w qz_at qz_pulled qz_best qz_cartRow qz_tryRow qz_pairs qz_from qz_then qz_tryAt (0 : Int32) z_typed z_next z_token z_place z_value z_figures z_fault z_faultAt z_timeMany z_eaten z_half z_bestMinutes z_bestOats z_isDue z_text z_t z_draft z_s z_kept z_isKept z_times z_w z_at z_pulled z_best z_cartRow z_tryRow z_pairs z_from z_then z_tryAt)) ⟨hx, hb, hml, hown, hw⟩ (c_X9_in l dC dI cI cZ cII  H.size  n2 (0 : Int32) (1 : Int32) r_3 hc) (va_cwS 3 hts (wM_S mw_8_0 mw_8_1 mw_1_5 mw_8_2) rfl rfl rfl dk_X9_in ⟨Nat.le_of_ble_eq_true rfl, Nat.le_of_ble_eq_true rfl⟩) hK hP hD hS hA [] [0, 1, 2, 3, 4, 5, 6, 7, 8, 9, 10, 11, 12, 13, 14, 15, 16, 17] [0, 1, 2, 3, 4, 5, 6, 7, 8, 9, 10, 11, 12, 13, 14, 15, 16, 17] (plC_62 cI cZ cII qz qz_text qz_t qz_draft qz_s qz_kept qz_isKept qz_times qz_w qz_at qz_pulled qz_best qz_cartRow qz_tryRow qz_pairs qz_from qz_then qz_tryAt (0 : Int32) z_typed z_next z_token z_place z_value z_figures z_fault z_faultAt z_timeMany z_eaten z_half z_bestMinutes z_bestOats z_isDue z_text z_t z_draft z_s z_kept z_isKept z_times z_w z_at z_pulled z_best z_cartRow z_tryRow z_pairs z_from z_then z_tryAt) rfl (plF_62 cI cZ cII qz qz_text qz_t qz_draft qz_s qz_kept qz_isKept qz_times qz_w qz_at qz_pulled qz_best qz_cartRow qz_tryRow qz_pairs qz_from qz_then qz_tryAt (0 : Int32) z_typed z_next z_token z_place z_value z_figures z_fault z_faultAt z_timeMany z_eaten z_half z_bestMinutes z_bestOats z_isDue z_text z_t z_draft z_s z_kept z_isKept z_times z_w z_at z_pulled z_best z_cartRow z_tryRow z_pairs z_from z_then z_tryAt ) (by decide) rfl hl.1 rfl (Nat.le_of_ble_eq_true rfl) dX9_twice_31 ⟨Nat.zero_le _, Nat.zero_le _⟩ (fun H locs hP hD hS => ?_)
      refine lv_if_ne (tgt := 40) hx hb dX9_twice_34 (by decide) (fun h9 => ?_) (fun h9 => ?_)
      · have hf := pg_f h9 hf
        refine lv_aload_n hx hb dX9_twice_40 rfl (lv_at hl 0 rfl) ?_
        refine lv_iload_n hx hb dX9_twice_41 rfl (lv_at hl 1 rfl) ?_
        obtain ⟨r_4, z_eaten_4, z_w_4, z_at_4, z_pulled_4, z_best_4, z_from_4, z_then_4, z_tryAt_4, hc, hf⟩ := bn9_s hf
        refine pg_cVi (As := [.int n1]) (rest := []) (wf := (W_X9z cI cZ cII qz qz_text qz_t qz_draft qz_s qz_kept qz_isKept qz_times qz_w qz_at qz_pulled qz_best qz_cartRow qz_tryRow qz_pairs qz_from qz_then qz_tryAt (0 : Int32) z_typed z_next z_token z_place z_value z_figures z_fault z_faultAt z_timeMany z_eaten_4 z_half z_bestMinutes z_bestOats z_isDue z_text z_t z_draft z_s z_kept z_isKept z_times z_w_4 z_at_4 z_pulled_4 z_best_4 z_cartRow z_tryRow z_pairs z_from_4 z_then_4 z_tryAt_4)) ⟨hx, hb, hml, hown, hw⟩ (c_X9_both l dC dI cI cZ cII qz qz_text qz_t qz_draft qz_s qz_kept qz_isKept qz_times qz_w qz_at qz_pulled qz_best qz_cartRow qz_tryRow qz_pairs qz_from qz_then qz_tryAt H.size (0 : Int32) z_typed z_next z_token z_place z_value z_figures z_fault z_faultAt z_timeMany z_eaten z_half z_bestMinutes z_bestOats z_isDue z_text z_t z_draft z_s z_kept z_isKept z_times z_w z_at z_pulled z_best z_cartRow z_tryRow z_pairs z_from z_then z_tryAt n1 r_4 z_eaten_4 z_w_4 z_at_4 z_pulled_4 z_best_4 z_from_4 z_then_4 z_tryAt_4 hc) (cwV 1 hts (wM_V mw_38_11 mw_38_12 mw_38_13 mw_1_5 mw_38_14) rfl rfl rfl dk_X9_both ⟨Nat.le_of_ble_eq_true rfl, Nat.le_of_ble_eq_true rfl⟩) hK hP hD hS hA 9 0 rfl rfl rfl [0, 1, 2, 3, 4, 5, 6, 7, 8, 9, 10, 11, 12, 13, 14, 15, 16, 17] [] [0, 1, 2, 3, 4, 5, 6, 7, 8, 9, 10, 11, 12, 13, 14, 15, 16, 17] (plC_64 cI cZ cII qz qz_text qz_t qz_draft qz_s qz_kept qz_isKept qz_times qz_w qz_at qz_pulled qz_best qz_cartRow qz_tryRow qz_pairs qz_from qz_then qz_tryAt (0 : Int32) z_typed z_next z_token z_place z_value z_figures z_fault z_faultAt z_timeMany z_eaten z_half z_bestMinutes z_bestOats z_isDue z_text z_t z_draft z_s z_kept z_isKept z_times z_w z_at z_pulled z_best z_cartRow z_tryRow z_pairs z_from z_then z_tryAt) rfl (plF_64 cI cZ cII qz qz_text qz_t qz_draft qz_s qz_kept qz_isKept qz_times qz_w qz_at qz_pulled qz_best qz_cartRow qz_tryRow qz_pairs qz_from qz_then qz_tryAt (0 : Int32) z_typed z_next z_token z_place z_value z_figures z_fault z_faultAt z_timeMany z_eaten z_half z_bestMinutes z_bestOats z_isDue z_text z_t z_draft z_s z_kept z_isKept z_times z_w z_at z_pulled z_best z_cartRow z_tryRow z_pairs z_from z_then z_tryAt (0 : Int32) z_typed z_next z_token z_place z_value z_figures z_fault z_faultAt z_timeMany z_eaten_4 z_half z_bestMinutes z_bestOats z_isDue z_text z_t z_draft z_s z_kept z_isKept z_times z_w_4 z_at_4 z_pulled_4 z_best_4 z_cartRow z_tryRow z_pairs z_from_4 z_then_4 z_tryAt_4) (by decide) rfl hl.1 rfl (Nat.le_of_ble_eq_true rfl) dX9_twice_42 ⟨Nat.zero_le _, Nat.zero_le _⟩ (fun H locs hP hD hS => ?_)
        refine lv_istore (lv' := [(4, .int r_4), (0, .ref qz), (1, .int n1), (2, .int n2), (3, .int n3)]) hx hb dX9_twice_45 hl (by decide) rfl (fun ls hl => ?_)
        refine lv_iload hx hb dX9_twice_47 (lv_at hl 0 rfl) ?_
        refine lv_iconst (v := (-1 : Int32)) hx hb dX9_twice_49 (by decide) ?_
        refine lv_icmp_eq (tgt := 58) hx hb dX9_twice_50 (by decide) (fun h9 => ?_) (fun h9 => ?_)
        · have hf := pg_t h9 hf
          refine lv_iload hx hb dX9_twice_58 (lv_at hl 0 rfl) ?_
          refine lv_goto (tgt := 73) hx hb dX9_twice_60 (by decide) ?_
          exact RET _ _ _ _ _ _ _ _ _ _ _ _ _ _ dX9_twice_73 hP hD hS hf
        · have hf := pg_f h9 hf
          refine lv_iload_n hx hb dX9_twice_53 rfl (lv_at hl 4 rfl) ?_
          refine lv_iconst (v := (-1 : Int32)) hx hb dX9_twice_54 (by decide) ?_
          refine lv_icmp_ne (tgt := 63) hx hb dX9_twice_55 (by decide) (fun h9 => ?_) (fun h9 => ?_)
          · have hf := pg_f h9 hf
            refine lv_aload_n hx hb dX9_twice_63 rfl (lv_at hl 1 rfl) ?_
            refine va_get (D := (dC, dI)) (ci := 9) (v := .ref qz_best) (C := RX9) (T := TX9) (N := 32) hx hb hw inlX9 hown hK hP 0 rfl rfl 22 (by decide) (hw _ mw_6_12) (fun _ h9 => h9) rfl dX9_twice_64 ?_
            refine lv_iconst (v := (3 : Int32)) hx hb dX9_twice_67 (by decide) ?_
            refine lv_iload_n hx hb dX9_twice_68 rfl (lv_at hl 3 rfl) ?_
            refine lv_imul hx hb dX9_twice_69 ?_
            refine lv_iload_n hx hb dX9_twice_70 rfl (lv_at hl 4 rfl) ?_
            refine lv_iadd hx hb dX9_twice_71 ?_
            obtain ⟨hi5, hf⟩ := pg_chk hf
            refine va_iald hx hb hK hP 11 0 rfl rfl hi5 dX9_twice_72 ?_
            exact RET _ _ _ _ _ _ _ _ _ _ _ _ _ _ dX9_twice_73 hP hD hS hf
          · have hf := pg_t h9 hf
            refine lv_iload hx hb dX9_twice_58 (lv_at hl 0 rfl) ?_
            refine lv_goto (tgt := 73) hx hb dX9_twice_60 (by decide) ?_
            exact RET _ _ _ _ _ _ _ _ _ _ _ _ _ _ dX9_twice_73 hP hD hS hf
      · have hf := pg_t h9 hf
        refine lv_ldc (v := (-1000000002 : Int32)) hx hb hown (hw _ mw_7_20) dX9_twice_37 ?_
        exact RET _ _ _ _ _ _ _ _ _ _ _ _ _ _ dX9_twice_39 hP hD hS hf
  · have hf := pg_t h9 hf
    refine lv_ldc (v := (-1000000001 : Int32)) hx hb hown (hw _ mw_25_12) dX9_twice_14 ?_
    exact RET _ _ _ _ _ _ _ _ _ _ _ _ _ _ dX9_twice_16 hP hD hS hf
def f_X9_best (n1 : Int32) (n2 : Int32) (z_thrown : Int32) (z_eaten : Int32) (z_half : Int32) (z_bestMinutes : Int32) (z_bestOats : Int32) (z_t : Nat → Int32) (z_s : Nat → Int32) (z_w : Nat → Int32) (z_at : Nat → Int32) (z_pulled : Nat → Int32) (z_best : Nat → Int32) (z_from : Nat → Int32) : Option (Int32 × Int32 × Int32 × Int32 × Int32 × (Nat → Int32) × (Nat → Int32) × (Nat → Int32) × (Nat → Int32) × (Nat → Int32)) :=
  bn1 (f_X9_in n1 (0 : Int32) (240 : Int32)) (fun (r_1 : Int32) =>
    if r_1 = 0 then
      some ((-1000000002 : Int32), (0 : Int32), z_eaten, z_bestMinutes, z_bestOats, z_w, z_at, z_pulled, z_best, z_from)
    else
      bn1 (f_X9_in n2 (0 : Int32) (1 : Int32)) (fun (r_2 : Int32) =>
        if r_2 = 0 then
          some ((-1000000002 : Int32), (0 : Int32), z_eaten, z_bestMinutes, z_bestOats, z_w, z_at, z_pulled, z_best, z_from)
        else
          jn10 (fun (y3_3 : Int32) (y4_3 : Int32) (z_eaten_3 : Int32) (z_bestMinutes_3 : Int32) (z_bestOats_3 : Int32) (z_w_3 : Nat → Int32) (z_at_3 : Nat → Int32) (z_pulled_3 : Nat → Int32) (z_best_3 : Nat → Int32) (z_from_3 : Nat → Int32) =>
            if n2 = 0 then
              some (y3_3, (0 : Int32), z_eaten_3, z_bestMinutes_3, z_bestOats_3, z_w_3, z_at_3, z_pulled_3, z_best_3, z_from_3)
            else
              some (y4_3, (0 : Int32), z_eaten_3, z_bestMinutes_3, z_bestOats_3, z_w_3, z_at_3, z_pulled_3, z_best_3, z_from_3)
          ) (fun K134_3 =>
          lq11 (fun rec4 (y3_4 : Int32) (y4_4 : Int32) (y5_4 : Int32) (z_eaten_4 : Int32) (z_bestMinutes_4 : Int32) (z_bestOats_4 : Int32) (z_w_4 : Nat → Int32) (z_at_4 : Nat → Int32) (z_pulled_4 : Nat → Int32) (z_best_4 : Nat → Int32) (z_from_4 : Nat → Int32) =>
            if (12 : Int32) ≤ y5_4 then
              K134_3 y3_4 y4_4 z_eaten_4 z_bestMinutes_4 z_bestOats_4 z_w_4 z_at_4 z_pulled_4 z_best_4 z_from_4
            else
              bn2 (f_X9_asNow z_s z_w_4 z_at_4) (fun (z_w_5 : Nat → Int32) (z_at_5 : Nat → Int32) =>
                bn1 (f_X9_rests y5_4 (1 : Int32) z_t z_w_5 z_at_5) (fun (z_w_6 : Nat → Int32) =>
                  jn1 (fun (z_from_7 : Nat → Int32) =>
                    bn8 (f_X9_finds ((z_s ((9 : Int32)).toNatClampNeg) + y5_4) n1 (-1 : Int32) (0 : Int32) z_eaten_4 z_half z_bestMinutes_4 z_bestOats_4 z_t z_w_6 z_at_5 z_pulled_4 z_best_4 z_from_7) (fun (r_8 : Int32) (z_eaten_8 : Int32) (z_bestMinutes_8 : Int32) (z_bestOats_8 : Int32) (z_w_8 : Nat → Int32) (z_at_8 : Nat → Int32) (z_pulled_8 : Nat → Int32) (z_best_8 : Nat → Int32) =>
                      jn2 (fun (y3_9 : Int32) (y4_9 : Int32) =>
                        rec4 y3_9 y4_9 (y5_4 + (1 : Int32)) z_eaten_8 z_bestMinutes_8 z_bestOats_8 z_w_8 z_at_8 z_pulled_8 z_best_8 z_from_7
                      ) (fun J128_9 =>
                      if r_8 = 0 then
                        J128_9 y3_4 y4_4
                      else
                        jn1 (fun (u_10 : Unit) =>
                          J128_9 y5_4 z_bestMinutes_8
                        ) (fun J119_10 =>
                        if y4_4 = (-1 : Int32) then
                          J119_10 ()
                        else
                          if y4_4 ≤ z_bestMinutes_8 then
                            J128_9 y3_4 y4_4
                          else
                            J119_10 ()
                        )
                      )
                    )
                  ) (fun K84_7 =>
                  lq2 (fun rec11 (y6_11 : Int32) (z_from_11 : Nat → Int32) =>
                    if (6 : Int32) ≤ y6_11 then
                      K84_7 z_from_11
                    else
                      if y6_11 < 0 ∨ 6 ≤ (y6_11).toNatClampNeg then none else
                      rec11 (y6_11 + (1 : Int32)) (upd z_from_11 (y6_11).toNatClampNeg (z_w_6 (y6_11).toNatClampNeg))
                  ) fu (0 : Int32) z_from_4
                  )
                )
              )
          ) fu (-1 : Int32) (-1 : Int32) (0 : Int32) z_eaten z_bestMinutes z_bestOats z_w z_at z_pulled z_best z_from
          )
      )
  )
abbrev rm_X9_best : Room := { frames := 6, cells := 0, slots := 0, locals := 145 }
theorem dk_X9_best : yX9_best.cls = RX9 ∧ yX9_best.cls ≠ "java/lang/invoke/MethodHandle" ∧ yX9_best.cls ≠ "java/lang/invoke/VarHandle" ∧ (parseMethodDescriptor yX9_best.desc).map (fun d => d.parameters.length) = some 2 := by decide +kernel
set_option maxHeartbeats 4000000 in
set_option maxRecDepth 100000 in
theorem c_X9_best (l : Launch) (dC : Nat → ClassId) (dI : Nat → Nat → Nat) (cI cZ cII : ClassId) (qz qz_text qz_t qz_draft qz_s qz_kept qz_isKept qz_times qz_w qz_at qz_pulled qz_best qz_cartRow qz_tryRow qz_pairs qz_from qz_then qz_tryAt : Nat) (sz : Nat) (z_thrown : Int32) (z_typed : Int32) (z_next : Int32) (z_token : Int32) (z_place : Int32) (z_value : Int32) (z_figures : Int32) (z_fault : Int32) (z_faultAt : Int32) (z_timeMany : Int32) (z_eaten : Int32) (z_half : Int32) (z_bestMinutes : Int32) (z_bestOats : Int32) (z_isDue : Int32) (z_text : Nat → Int32) (z_t : Nat → Int32) (z_draft : Nat → Int32) (z_s : Nat → Int32) (z_kept : Nat → Int32) (z_isKept : Nat → Int32) (z_times : Nat → Int32) (z_w : Nat → Int32) (z_at : Nat → Int32) (z_pulled : Nat → Int32) (z_best : Nat → Int32) (z_cartRow : Nat → Int32) (z_tryRow : Nat → Int32) (z_pairs : Nat → Int32) (z_from : Nat → Int32) (z_then : Nat → Int32) (z_tryAt : Nat → Int32) (n1 : Int32) (n2 : Int32) (rr : Int32) (z_thrown' : Int32) (z_eaten' : Int32) (z_bestMinutes' : Int32) (z_bestOats' : Int32) (z_w' : Nat → Int32) (z_at' : Nat → Int32) (z_pulled' : Nat → Int32) (z_best' : Nat → Int32) (z_from' : Nat → Int32) (hf : f_X9_best n1 n2 z_thrown z_eaten z_half z_bestMinutes z_bestOats z_t z_s z_w z_at z_pulled z_best z_from = some (rr, z_thrown', z_eaten', z_bestMinutes', z_bestOats', z_w', z_at', z_pulled', z_best', z_from')) : Met l yX9_best (wM yX9_best cX9_best 7 (some .int)) rm_X9_best (PreW (dC, dI) (tyA cI cZ cII) (W_X9z cI cZ cII qz qz_text qz_t qz_draft qz_s qz_kept qz_isKept qz_times qz_w qz_at qz_pulled qz_best qz_cartRow qz_tryRow qz_pairs qz_from qz_then qz_tryAt z_thrown z_typed z_next z_token z_place z_value z_figures z_fault z_faultAt z_timeMany z_eaten z_half z_bestMinutes z_bestOats z_isDue z_text z_t z_draft z_s z_kept z_isKept z_times z_w z_at z_pulled z_best z_cartRow z_tryRow z_pairs z_from z_then z_tryAt) sz [.ref qz, .int n1, .int n2]) (PostI (dC, dI) (tyA cI cZ cII) rr (W_X9z cI cZ cII qz qz_text qz_t qz_draft qz_s qz_kept qz_isKept qz_times qz_w qz_at qz_pulled qz_best qz_cartRow qz_tryRow qz_pairs qz_from qz_then qz_tryAt z_thrown z_typed z_next z_token z_place z_value z_figures z_fault z_faultAt z_timeMany z_eaten z_half z_bestMinutes z_bestOats z_isDue z_text z_t z_draft z_s z_kept z_isKept z_times z_w z_at z_pulled z_best z_cartRow z_tryRow z_pairs z_from z_then z_tryAt) (W_X9z cI cZ cII qz qz_text qz_t qz_draft qz_s qz_kept qz_isKept qz_times qz_w qz_at qz_pulled qz_best qz_cartRow qz_tryRow qz_pairs qz_from qz_then qz_tryAt z_thrown' z_typed z_next z_token z_place z_value z_figures z_fault z_faultAt z_timeMany z_eaten' z_half z_bestMinutes' z_bestOats' z_isDue z_text z_t z_draft z_s z_kept z_isKept z_times z_w' z_at' z_pulled' z_best' z_cartRow z_tryRow z_pairs z_from' z_then z_tryAt) sz) 0 0 (va_A (W_X9z cI cZ cII qz qz_text qz_t qz_draft qz_s qz_kept qz_isKept qz_times qz_w qz_at qz_pulled qz_best qz_cartRow qz_tryRow qz_pairs qz_from qz_then qz_tryAt z_thrown z_typed z_next z_token z_place z_value z_figures z_fault z_faultAt z_timeMany z_eaten z_half z_bestMinutes z_bestOats z_isDue z_text z_t z_draft z_s z_kept z_isKept z_times z_w z_at z_pulled z_best z_cartRow z_tryRow z_pairs z_from z_then z_tryAt) sz) := by
  refine Met.ofW (cc := cX9_best) (maxL := 7) (ret := (some .int)) (by decide) rfl ?_
  intro p e s m args below meth c s₁ B hml hv
  obtain ⟨rfl, hsz, hP, hK, hD0⟩ := hv
  have hx := B.exec
  have hb := B.bytes
  have hr := B.returns
  have hts := atoms_spec (ws := wM yX9_best cX9_best 7 (some .int)) B.pre
  have hown : s.vm.findClass RX9 = some m.cls := findClass_of_methodNamed B.named
  have hlocks := B.notSynchronized
  subst hsz
  have hD := hD0.self (sz := s.heap.size)
  obtain ⟨A, hAe⟩ : ∃ A, A = va_A (W_X9z cI cZ cII qz qz_text qz_t qz_draft qz_s qz_kept qz_isKept qz_times qz_w qz_at qz_pulled qz_best qz_cartRow qz_tryRow qz_pairs qz_from qz_then qz_tryAt z_thrown z_typed z_next z_token z_place z_value z_figures z_fault z_faultAt z_timeMany z_eaten z_half z_bestMinutes z_bestOats z_isDue z_text z_t z_draft z_s z_kept z_isKept z_times z_w z_at z_pulled z_best z_cartRow z_tryRow z_pairs z_from z_then z_tryAt) s.heap.size := ⟨_, rfl⟩
  rw [← hAe] at hD
  have hA : ∀ q : Nat, s.heap.size ≤ q → A q := fun q h => by rw [hAe]; exact Or.inr h
  have hS : va_S A s.heap s.heap [] := va_S.rf
  have hl := lv_entry ([.ref qz, .int n1, .int n2]) (n := 7) (Nat.le_of_ble_eq_true rfl)
  rw [lg_entry_eq]
  generalize (lg_sl ([.ref qz, .int n1, .int n2]) ++ List.replicate (7 - (lg_sl ([.ref qz, .int n1, .int n2])).length) Slot.unset).toArray = ls at hl ⊢
  have hl : lv_has ls 7 [(0, .ref qz), (1, .int n1), (2, .int n2)] := hl
  generalize ([.ref qz, .int n1, .int n2] : List Value).toArray = args at hts ⊢
  have hw : ∀ w ∈ wsL_law, w.before args s = true := fun w h => hts w (List.mem_cons_of_mem _ h)
  refine pg_start (fun Q hQ => ?_)
  have RET : ∀ (H : Heap) (locs : List Loc) (ls : Array Slot) (pc : Nat) (v : Int32) (x0 : Int32) (x1 : Int32) (x2 : Int32) (x3 : Int32) (x4 : Nat → Int32) (x5 : Nat → Int32) (x6 : Nat → Int32) (x7 : Nat → Int32) (x8 : Nat → Int32) , decode cX9_best pc = .ok (.ireturn, 1) → va_P (dC, dI) vwCl (W_X9z cI cZ cII qz qz_text qz_t qz_draft qz_s qz_kept qz_isKept qz_times qz_w qz_at qz_pulled qz_best qz_cartRow qz_tryRow qz_pairs qz_from qz_then qz_tryAt x0 z_typed z_next z_token z_place z_value z_figures z_fault z_faultAt z_timeMany x1 z_half x2 x3 z_isDue z_text z_t z_draft z_s z_kept z_isKept z_times x4 x5 x6 x7 z_cartRow z_tryRow z_pairs x8 z_then z_tryAt) H → va_D A (W_X9z cI cZ cII qz qz_text qz_t qz_draft qz_s qz_kept qz_isKept qz_times qz_w qz_at qz_pulled qz_best qz_cartRow qz_tryRow qz_pairs qz_from qz_then qz_tryAt x0 z_typed z_next z_token z_place z_value z_figures z_fault z_faultAt z_timeMany x1 z_half x2 x3 z_isDue z_text z_t z_draft z_s z_kept z_isKept z_times x4 x5 x6 x7 z_cartRow z_tryRow z_pairs x8 z_then z_tryAt) → va_S A s.heap H locs → (some (v, x0, x1, x2, x3, x4, x5, x6, x7, x8) : Option (Int32 × Int32 × Int32 × Int32 × Int32 × (Nat → Int32) × (Nat → Int32) × (Nat → Int32) × (Nat → Int32) × (Nat → Int32))) = some (rr, z_thrown', z_eaten', z_bestMinutes', z_bestOats', z_w', z_at', z_pulled', z_best', z_from') → W p l e rm_X9_best s m args below meth c H locs 0 0 Q (F0 m pc ls [.int v]) := by
    intro H locs ls pc v x0 x1 x2 x3 x4 x5 x6 x7 x8 hd hP hD hS he
    subst hAe; subst hQ
    simp only [Option.some.injEq, Prod.mk.injEq] at he
    obtain ⟨rfl, rfl, rfl, rfl, rfl, rfl, rfl, rfl, rfl, rfl⟩ := he
    exact pg_iret hx hb hr hlocks hK hP hD hS hd
  unfold f_X9_best at hf
  refine lv_aload_n hx hb dX9_best_0 rfl (lv_at hl 0 rfl) ?_
  refine lv_iconst (v := (0 : Int32)) hx hb dX9_best_1 (by decide) ?_
  refine va_put (D := (dC, dI)) (ci := 9) (v := .int (0 : Int32)) (ty := .int) (C := RX9) (T := TX9) (N := 32) hx hb hw inlX9 tyX9 tyX9_ok nmX9 hown hK hP hD hS 0 rfl rfl 0 (by decide) (hw _ mw_7_19) (fun _ h9 => h9) rfl (by decide +kernel) rfl rfl (Nat.le_of_ble_eq_true rfl) dX9_best_2 (fun H locs hP hD hS => ?_)
  have hP : va_P (dC, dI) vwCl (W_X9z cI cZ cII qz qz_text qz_t qz_draft qz_s qz_kept qz_isKept qz_times qz_w qz_at qz_pulled qz_best qz_cartRow qz_tryRow qz_pairs qz_from qz_then qz_tryAt (0 : Int32) z_typed z_next z_token z_place z_value z_figures z_fault z_faultAt z_timeMany z_eaten z_half z_bestMinutes z_bestOats z_isDue z_text z_t z_draft z_s z_kept z_isKept z_times z_w z_at z_pulled z_best z_cartRow z_tryRow z_pairs z_from z_then z_tryAt) H := hP
  have hD : va_D A (W_X9z cI cZ cII qz qz_text qz_t qz_draft qz_s qz_kept qz_isKept qz_times qz_w qz_at qz_pulled qz_best qz_cartRow qz_tryRow qz_pairs qz_from qz_then qz_tryAt (0 : Int32) z_typed z_next z_token z_place z_value z_figures z_fault z_faultAt z_timeMany z_eaten z_half z_bestMinutes z_bestOats z_isDue z_text z_t z_draft z_s z_kept z_isKept z_times z_w z_at z_pulled z_best z_cartRow z_tryRow z_pairs z_from z_then z_tryAt) := hD
  refine lv_iload_n hx hb dX9_best_5 rfl (lv_at hl 1 rfl) ?_
  refine lv_iconst (v := (0 : Int32)) hx hb dX9_best_6 (by decide) ?_
  refine lv_sipush (v := (240 : Int32)) hx hb dX9_best_7 (by decide) ?_
  obtain ⟨r_1, hc, hf⟩ := bn1_s hf
  refine pg_cSi (As := [.int n1, .int (0 : Int32), .int (240 : Int32)]) (rest := []) (wf := (W_X9z cI cZ cII qz qz_text qz_t qz_draft qz_s qz_kept qz_isKept qz_times qz_w qz_at qz_pulled qz_best qz_cartRow qz_tryRow qz_pairs qz_from qz_then qz_tryAt (0 : Int32) z_typed z_next z_token z_place z_value z_figures z_fault z_faultAt z_timeMany z_eaten z_half z_bestMinutes z_bestOats z_isDue z_text z_t z_draft z_s z_kept z_isKept z_times z_w z_at z_pulled z_best z_cartRow z_tryRow z_pairs z_from z_then z_tryAt)) ⟨hx, hb, hml, hown, hw⟩ (c_X9_in l dC dI cI cZ cII  H.size  n1 (0 : Int32) (240 : Int32) r_1 hc) (va_cwS 3 hts (wM_S mw_8_0 mw_8_1 mw_1_5 mw_8_2) rfl rfl rfl dk_X9_in ⟨Nat.le_of_ble_eq_true rfl, Nat.le_of_ble_eq_true rfl⟩) hK hP hD hS hA [] [0, 1, 2, 3, 4, 5, 6, 7, 8, 9, 10, 11, 12, 13, 14, 15, 16, 17] [0, 1, 2, 3, 4, 5, 6, 7, 8, 9, 10, 11, 12, 13, 14, 15, 16, 17] (plC_62 cI cZ cII qz qz_text qz_t qz_draft qz_s qz_kept qz_isKept qz_times qz_w qz_at qz_pulled qz_best qz_cartRow qz_tryRow qz_pairs qz_from qz_then qz_tryAt (0 : Int32) z_typed z_next z_token z_place z_value z_figures z_fault z_faultAt z_timeMany z_eaten z_half z_bestMinutes z_bestOats z_isDue z_text z_t z_draft z_s z_kept z_isKept z_times z_w z_at z_pulled z_best z_cartRow z_tryRow z_pairs z_from z_then z_tryAt) rfl (plF_62 cI cZ cII qz qz_text qz_t qz_draft qz_s qz_kept qz_isKept qz_times qz_w qz_at qz_pulled qz_best qz_cartRow qz_tryRow qz_pairs qz_from qz_then qz_tryAt (0 : Int32) z_typed z_next z_token z_place z_value z_figures z_fault z_faultAt z_timeMany z_eaten z_half z_bestMinutes z_bestOats z_isDue z_text z_t z_draft z_s z_kept z_isKept z_times z_w z_at z_pulled z_best z_cartRow z_tryRow z_pairs z_from z_then z_tryAt ) (by decide) rfl hl.1 rfl (Nat.le_of_ble_eq_true rfl) dX9_best_10 ⟨Nat.zero_le _, Nat.zero_le _⟩ (fun H locs hP hD hS => ?_)
  refine lv_if_eq (tgt := 25) hx hb dX9_best_13 (by decide) (fun h9 => ?_) (fun h9 => ?_)
  · have hf := pg_t h9 hf
    refine lv_ldc (v := (-1000000002 : Int32)) hx hb hown (hw _ mw_7_20) dX9_best_25 ?_
    exact RET _ _ _ _ _ _ _ _ _ _ _ _ _ _ dX9_best_27 hP hD hS hf
  · have hf := pg_f h9 hf
    refine lv_iload_n hx hb dX9_best_16 rfl (lv_at hl 2 rfl) ?_
    refine lv_iconst (v := (0 : Int32)) hx hb dX9_best_17 (by decide) ?_
    refine lv_iconst (v := (1 : Int32)) hx hb dX9_best_18 (by decide) ?_
    obtain ⟨r_2, hc, hf⟩ := bn1_s hf
    refine pg_cSi (As := [.int n2, .int (0 : Int32), .int (1 : Int32)]) (rest := []) (wf := (W_X9z cI cZ cII qz qz_text qz_t qz_draft qz_s qz_kept qz_isKept qz_times qz_w qz_at qz_pulled qz_best qz_cartRow qz_tryRow qz_pairs qz_from qz_then qz_tryAt (0 : Int32) z_typed z_next z_token z_place z_value z_figures z_fault z_faultAt z_timeMany z_eaten z_half z_bestMinutes z_bestOats z_isDue z_text z_t z_draft z_s z_kept z_isKept z_times z_w z_at z_pulled z_best z_cartRow z_tryRow z_pairs z_from z_then z_tryAt)) ⟨hx, hb, hml, hown, hw⟩ (c_X9_in l dC dI cI cZ cII  H.size  n2 (0 : Int32) (1 : Int32) r_2 hc) (va_cwS 3 hts (wM_S mw_8_0 mw_8_1 mw_1_5 mw_8_2) rfl rfl rfl dk_X9_in ⟨Nat.le_of_ble_eq_true rfl, Nat.le_of_ble_eq_true rfl⟩) hK hP hD hS hA [] [0, 1, 2, 3, 4, 5, 6, 7, 8, 9, 10, 11, 12, 13, 14, 15, 16, 17] [0, 1, 2, 3, 4, 5, 6, 7, 8, 9, 10, 11, 12, 13, 14, 15, 16, 17] (plC_62 cI cZ cII qz qz_text qz_t qz_draft qz_s qz_kept qz_isKept qz_times qz_w qz_at qz_pulled qz_best qz_cartRow qz_tryRow qz_pairs qz_from qz_then qz_tryAt (0 : Int32) z_typed z_next z_token z_place z_value z_figures z_fault z_faultAt z_timeMany z_eaten z_half z_bestMinutes z_bestOats z_isDue z_text z_t z_draft z_s z_kept z_isKept z_times z_w z_at z_pulled z_best z_cartRow z_tryRow z_pairs z_from z_then z_tryAt) rfl (plF_62 cI cZ cII qz qz_text qz_t qz_draft qz_s qz_kept qz_isKept qz_times qz_w qz_at qz_pulled qz_best qz_cartRow qz_tryRow qz_pairs qz_from qz_then qz_tryAt (0 : Int32) z_typed z_next z_token z_place z_value z_figures z_fault z_faultAt z_timeMany z_eaten z_half z_bestMinutes z_bestOats z_isDue z_text z_t z_draft z_s z_kept z_isKept z_times z_w z_at z_pulled z_best z_cartRow z_tryRow z_pairs z_from z_then z_tryAt ) (by decide) rfl hl.1 rfl (Nat.le_of_ble_eq_true rfl) dX9_best_19 ⟨Nat.zero_le _, Nat.zero_le _⟩ (fun H locs hP hD hS => ?_)
    refine lv_if_ne (tgt := 28) hx hb dX9_best_22 (by decide) (fun h9 => ?_) (fun h9 => ?_)
    · have hf := pg_f h9 hf
      refine lv_iconst (v := (-1 : Int32)) hx hb dX9_best_28 (by decide) ?_
      refine lv_istore_n (lv' := [(3, .int (-1 : Int32)), (0, .ref qz), (1, .int n1), (2, .int n2)]) hx hb dX9_best_29 rfl hl (by decide) rfl (fun ls hl => ?_)
      refine lv_iconst (v := (-1 : Int32)) hx hb dX9_best_30 (by decide) ?_
      refine lv_istore (lv' := [(4, .int (-1 : Int32)), (3, .int (-1 : Int32)), (0, .ref qz), (1, .int n1), (2, .int n2)]) hx hb dX9_best_31 hl (by decide) rfl (fun ls hl => ?_)
      refine lv_iconst (v := (0 : Int32)) hx hb dX9_best_33 (by decide) ?_
      refine lv_istore (lv' := [(5, .int (0 : Int32)), (4, .int (-1 : Int32)), (3, .int (-1 : Int32)), (0, .ref qz), (1, .int n1), (2, .int n2)]) hx hb dX9_best_34 hl (by decide) rfl (fun ls hl => ?_)
      obtain ⟨K134_3, hK134_3, hf⟩ := jn10_s hf
      have WK134_3 : ∀ (y3_3 : Int32) (y4_3 : Int32) (z_eaten_3 : Int32) (z_bestMinutes_3 : Int32) (z_bestOats_3 : Int32) (z_w_3 : Nat → Int32) (z_at_3 : Nat → Int32) (z_pulled_3 : Nat → Int32) (z_best_3 : Nat → Int32) (z_from_3 : Nat → Int32) (H : Heap) (locs : List Loc) (ls : Array Slot), va_P (dC, dI) vwCl (W_X9z cI cZ cII qz qz_text qz_t qz_draft qz_s qz_kept qz_isKept qz_times qz_w qz_at qz_pulled qz_best qz_cartRow qz_tryRow qz_pairs qz_from qz_then qz_tryAt (0 : Int32) z_typed z_next z_token z_place z_value z_figures z_fault z_faultAt z_timeMany z_eaten_3 z_half z_bestMinutes_3 z_bestOats_3 z_isDue z_text z_t z_draft z_s z_kept z_isKept z_times z_w_3 z_at_3 z_pulled_3 z_best_3 z_cartRow z_tryRow z_pairs z_from_3 z_then z_tryAt) H → va_D A (W_X9z cI cZ cII qz qz_text qz_t qz_draft qz_s qz_kept qz_isKept qz_times qz_w qz_at qz_pulled qz_best qz_cartRow qz_tryRow qz_pairs qz_from qz_then qz_tryAt (0 : Int32) z_typed z_next z_token z_place z_value z_figures z_fault z_faultAt z_timeMany z_eaten_3 z_half z_bestMinutes_3 z_bestOats_3 z_isDue z_text z_t z_draft z_s z_kept z_isKept z_times z_w_3 z_at_3 z_pulled_3 z_best_3 z_cartRow z_tryRow z_pairs z_from_3 z_then z_tryAt) → va_S A s.heap H locs → lv_has ls 7 [(2, .int n2), (3, .int y3_3), (4, .int y4_3)] → K134_3 y3_3 y4_3 z_eaten_3 z_bestMinutes_3 z_bestOats_3 z_w_3 z_at_3 z_pulled_3 z_best_3 z_from_3 = some (rr, z_thrown', z_eaten', z_bestMinutes', z_bestOats', z_w', z_at', z_pulled', z_best', z_from') → W p l e rm_X9_best s m args below meth c H locs 0 0 Q (F0 m 134 ls []) := by
        intro y3_3 y4_3 z_eaten_3 z_bestMinutes_3 z_bestOats_3 z_w_3 z_at_3 z_pulled_3 z_best_3 z_from_3 H locs ls hP hD hS hl hf
        have hf := hK134_3 _ _ _ _ _ _ _ _ _ _ hf
        refine lv_iload_n hx hb dX9_best_134 rfl (lv_at hl 0 rfl) ?_
        refine lv_if_ne (tgt := 142) hx hb dX9_best_135 (by decide) (fun h9 => ?_) (fun h9 => ?_)
        · have hf := pg_f h9 hf
          refine lv_iload hx hb dX9_best_142 (lv_at hl 2 rfl) ?_
          exact RET _ _ _ _ _ _ _ _ _ _ _ _ _ _ dX9_best_144 hP hD hS hf
        · have hf := pg_t h9 hf
          refine lv_iload_n hx hb dX9_best_138 rfl (lv_at hl 1 rfl) ?_
          refine lv_goto (tgt := 144) hx hb dX9_best_139 (by decide) ?_
          exact RET _ _ _ _ _ _ _ _ _ _ _ _ _ _ dX9_best_144 hP hD hS hf
      obtain ⟨B4, hB4, hf⟩ := lq11_n hf
      have WL4 : ∀ (n9 : Nat) (y3_4 : Int32) (y4_4 : Int32) (y5_4 : Int32) (z_eaten_4 : Int32) (z_bestMinutes_4 : Int32) (z_bestOats_4 : Int32) (z_w_4 : Nat → Int32) (z_at_4 : Nat → Int32) (z_pulled_4 : Nat → Int32) (z_best_4 : Nat → Int32) (z_from_4 : Nat → Int32) (H : Heap) (locs : List Loc) (ls : Array Slot), va_P (dC, dI) vwCl (W_X9z cI cZ cII qz qz_text qz_t qz_draft qz_s qz_kept qz_isKept qz_times qz_w qz_at qz_pulled qz_best qz_cartRow qz_tryRow qz_pairs qz_from qz_then qz_tryAt (0 : Int32) z_typed z_next z_token z_place z_value z_figures z_fault z_faultAt z_timeMany z_eaten_4 z_half z_bestMinutes_4 z_bestOats_4 z_isDue z_text z_t z_draft z_s z_kept z_isKept z_times z_w_4 z_at_4 z_pulled_4 z_best_4 z_cartRow z_tryRow z_pairs z_from_4 z_then z_tryAt) H → va_D A (W_X9z cI cZ cII qz qz_text qz_t qz_draft qz_s qz_kept qz_isKept qz_times qz_w qz_at qz_pulled qz_best qz_cartRow qz_tryRow qz_pairs qz_from qz_then qz_tryAt (0 : Int32) z_typed z_next z_token z_place z_value z_figures z_fault z_faultAt z_timeMany z_eaten_4 z_half z_bestMinutes_4 z_bestOats_4 z_isDue z_text z_t z_draft z_s z_kept z_isKept z_times z_w_4 z_at_4 z_pulled_4 z_best_4 z_cartRow z_tryRow z_pairs z_from_4 z_then z_tryAt) → va_S A s.heap H locs → lv_has ls 7 [(0, .ref qz), (1, .int n1), (2, .int n2), (3, .int y3_4), (4, .int y4_4), (5, .int y5_4)] → lq11 B4 n9 y3_4 y4_4 y5_4 z_eaten_4 z_bestMinutes_4 z_bestOats_4 z_w_4 z_at_4 z_pulled_4 z_best_4 z_from_4 = some (rr, z_thrown', z_eaten', z_bestMinutes', z_bestOats', z_w', z_at', z_pulled', z_best', z_from') → W p l e rm_X9_best s m args below meth c H locs 0 0 Q (F0 m 36 ls []) := by
        intro n9
        induction n9 with
        | zero => intro y3_4 y4_4 y5_4 z_eaten_4 z_bestMinutes_4 z_bestOats_4 z_w_4 z_at_4 z_pulled_4 z_best_4 z_from_4 H locs ls hP hD hS hl hf; cases hf
        | succ n9 ih =>
          intro y3_4 y4_4 y5_4 z_eaten_4 z_bestMinutes_4 z_bestOats_4 z_w_4 z_at_4 z_pulled_4 z_best_4 z_from_4 H locs ls hP hD hS hl hf
          obtain ⟨rec4, hrec4, hf⟩ := lq11_s hf
          have hf := hB4 rec4 _ _ _ _ _ _ _ _ _ _ _ hf
          refine lv_iload hx hb dX9_best_36 (lv_at hl 5 rfl) ?_
          refine lv_bipush (v := (12 : Int32)) hx hb dX9_best_38 (by decide) ?_
          refine lv_icmp_ge (tgt := 134) hx hb dX9_best_40 (by decide) (fun h9 => ?_) (fun h9 => ?_)
          · have hf := pg_t h9 hf
            exact WK134_3 _ _ _ _ _ _ _ _ _ _ _ _ _ hP hD hS (lv_sub hl [2, 3, 4] rfl) hf
          · have hf := pg_f h9 hf
            refine lv_aload_n hx hb dX9_best_43 rfl (lv_at hl 0 rfl) ?_
            obtain ⟨z_w_5, z_at_5, hc, hf⟩ := bn2_s hf
            refine pg_cVv (As := []) (rest := []) (wf := (W_X9z cI cZ cII qz qz_text qz_t qz_draft qz_s qz_kept qz_isKept qz_times qz_w qz_at qz_pulled qz_best qz_cartRow qz_tryRow qz_pairs qz_from qz_then qz_tryAt (0 : Int32) z_typed z_next z_token z_place z_value z_figures z_fault z_faultAt z_timeMany z_eaten_4 z_half z_bestMinutes_4 z_bestOats_4 z_isDue z_text z_t z_draft z_s z_kept z_isKept z_times z_w_5 z_at_5 z_pulled_4 z_best_4 z_cartRow z_tryRow z_pairs z_from_4 z_then z_tryAt)) ⟨hx, hb, hml, hown, hw⟩ (c_X9_asNow l dC dI cI cZ cII qz qz_text qz_t qz_draft qz_s qz_kept qz_isKept qz_times qz_w qz_at qz_pulled qz_best qz_cartRow qz_tryRow qz_pairs qz_from qz_then qz_tryAt H.size (0 : Int32) z_typed z_next z_token z_place z_value z_figures z_fault z_faultAt z_timeMany z_eaten_4 z_half z_bestMinutes_4 z_bestOats_4 z_isDue z_text z_t z_draft z_s z_kept z_isKept z_times z_w_4 z_at_4 z_pulled_4 z_best_4 z_cartRow z_tryRow z_pairs z_from_4 z_then z_tryAt  z_w_5 z_at_5 hc) (cwV 0 hts (wM_V mw_25_21 mw_25_22 mw_25_23 mw_1_5 mw_26_0) rfl rfl rfl dk_X9_asNow ⟨Nat.le_of_ble_eq_true rfl, Nat.le_of_ble_eq_true rfl⟩) hK hP hD hS hA 9 0 rfl rfl rfl [0, 1, 2, 3, 4, 5, 6, 7, 8, 9, 10, 11, 12, 13, 14, 15, 16, 17] [] [0, 1, 2, 3, 4, 5, 6, 7, 8, 9, 10, 11, 12, 13, 14, 15, 16, 17] (plC_64 cI cZ cII qz qz_text qz_t qz_draft qz_s qz_kept qz_isKept qz_times qz_w qz_at qz_pulled qz_best qz_cartRow qz_tryRow qz_pairs qz_from qz_then qz_tryAt (0 : Int32) z_typed z_next z_token z_place z_value z_figures z_fault z_faultAt z_timeMany z_eaten_4 z_half z_bestMinutes_4 z_bestOats_4 z_isDue z_text z_t z_draft z_s z_kept z_isKept z_times z_w_4 z_at_4 z_pulled_4 z_best_4 z_cartRow z_tryRow z_pairs z_from_4 z_then z_tryAt) rfl (plF_64 cI cZ cII qz qz_text qz_t qz_draft qz_s qz_kept qz_isKept qz_times qz_w qz_at qz_pulled qz_best qz_cartRow qz_tryRow qz_pairs qz_from qz_then qz_tryAt (0 : Int32) z_typed z_next z_token z_place z_value z_figures z_fault z_faultAt z_timeMany z_eaten_4 z_half z_bestMinutes_4 z_bestOats_4 z_isDue z_text z_t z_draft z_s z_kept z_isKept z_times z_w_4 z_at_4 z_pulled_4 z_best_4 z_cartRow z_tryRow z_pairs z_from_4 z_then z_tryAt (0 : Int32) z_typed z_next z_token z_place z_value z_figures z_fault z_faultAt z_timeMany z_eaten_4 z_half z_bestMinutes_4 z_bestOats_4 z_isDue z_text z_t z_draft z_s z_kept z_isKept z_times z_w_5 z_at_5 z_pulled_4 z_best_4 z_cartRow z_tryRow z_pairs z_from_4 z_then z_tryAt) (by decide) rfl hl.1 rfl (Nat.le_of_ble_eq_true rfl) dX9_best_44 ⟨Nat.zero_le _, Nat.zero_le _⟩ (fun H locs hP hD hS => ?_)
            refine lv_aload_n hx hb dX9_best_47 rfl (lv_at hl 0 rfl) ?_
            refine lv_iload hx hb dX9_best_48 (lv_at hl 5 rfl) ?_
            refine lv_iconst (v := (1 : Int32)) hx hb dX9_best_50 (by decide) ?_
            obtain ⟨z_w_6, hc, hf⟩ := bn1_s hf
            refine pg_cVv (As := [.int y5_4, .int (1 : Int32)]) (rest := []) (wf := (W_X9z cI cZ cII qz qz_text qz_t qz_draft qz_s qz_kept qz_isKept qz_times qz_w qz_at qz_pulled qz_best qz_cartRow qz_tryRow qz_pairs qz_from qz_then qz_tryAt (0 : Int32) z_typed z_next z_token z_place z_value z_figures z_fault z_faultAt z_timeMany z_eaten_4 z_half z_bestMinutes_4 z_bestOats_4 z_isDue z_text z_t z_draft z_s z_kept z_isKept z_times z_w_6 z_at_5 z_pulled_4 z_best_4 z_cartRow z_tryRow z_pairs z_from_4 z_then z_tryAt)) ⟨hx, hb, hml, hown, hw⟩ (c_X9_rests l dC dI cI cZ cII qz qz_text qz_t qz_draft qz_s qz_kept qz_isKept qz_times qz_w qz_at qz_pulled qz_best qz_cartRow qz_tryRow qz_pairs qz_from qz_then qz_tryAt H.size (0 : Int32) z_typed z_next z_token z_place z_value z_figures z_fault z_faultAt z_timeMany z_eaten_4 z_half z_bestMinutes_4 z_bestOats_4 z_isDue z_text z_t z_draft z_s z_kept z_isKept z_times z_w_5 z_at_5 z_pulled_4 z_best_4 z_cartRow z_tryRow z_pairs z_from_4 z_then z_tryAt y5_4 (1 : Int32) z_w_6 hc) (cwV 2 hts (wM_V mw_31_9 mw_31_10 mw_31_11 mw_1_5 mw_31_12) rfl rfl rfl dk_X9_rests ⟨Nat.le_of_ble_eq_true rfl, Nat.le_of_ble_eq_true rfl⟩) hK hP hD hS hA 9 0 rfl rfl rfl [0, 1, 2, 3, 4, 5, 6, 7, 8, 9, 10, 11, 12, 13, 14, 15, 16, 17] [] [0, 1, 2, 3, 4, 5, 6, 7, 8, 9, 10, 11, 12, 13, 14, 15, 16, 17] (plC_64 cI cZ cII qz qz_text qz_t qz_draft qz_s qz_kept qz_isKept qz_times qz_w qz_at qz_pulled qz_best qz_cartRow qz_tryRow qz_pairs qz_from qz_then qz_tryAt (0 : Int32) z_typed z_next z_token z_place z_value z_figures z_fault z_faultAt z_timeMany z_eaten_4 z_half z_bestMinutes_4 z_bestOats_4 z_isDue z_text z_t z_draft z_s z_kept z_isKept z_times z_w_5 z_at_5 z_pulled_4 z_best_4 z_cartRow z_tryRow z_pairs z_from_4 z_then z_tryAt) rfl (plF_64 cI cZ cII qz qz_text qz_t qz_draft qz_s qz_kept qz_isKept qz_times qz_w qz_at qz_pulled qz_best qz_cartRow qz_tryRow qz_pairs qz_from qz_then qz_tryAt (0 : Int32) z_typed z_next z_token z_place z_value z_figures z_fault z_faultAt z_timeMany z_eaten_4 z_half z_bestMinutes_4 z_bestOats_4 z_isDue z_text z_t z_draft z_s z_kept z_isKept z_times z_w_5 z_at_5 z_pulled_4 z_best_4 z_cartRow z_tryRow z_pairs z_from_4 z_then z_tryAt (0 : Int32) z_typed z_next z_token z_place z_value z_figures z_fault z_faultAt z_timeMany z_eaten_4 z_half z_bestMinutes_4 z_bestOats_4 z_isDue z_text z_t z_draft z_s z_kept z_isKept z_times z_w_6 z_at_5 z_pulled_4 z_best_4 z_cartRow z_tryRow z_pairs z_from_4 z_then z_tryAt) (by decide) rfl hl.1 rfl (Nat.le_of_ble_eq_true rfl) dX9_best_51 ⟨Nat.zero_le _, Nat.zero_le _⟩ (fun H locs hP hD hS => ?_)
            refine lv_iconst (v := (0 : Int32)) hx hb dX9_best_54 (by decide) ?_
            refine lv_istore (lv' := [(6, .int (0 : Int32)), (0, .ref qz), (1, .int n1), (2, .int n2), (3, .int y3_4), (4, .int y4_4), (5, .int y5_4)]) hx hb dX9_best_55 hl (by decide) rfl (fun ls hl => ?_)
            obtain ⟨K84_7, hK84_7, hf⟩ := jn1_s hf
            have WK84_7 : ∀ (z_from_7 : Nat → Int32) (H : Heap) (locs : List Loc) (ls : Array Slot), va_P (dC, dI) vwCl (W_X9z cI cZ cII qz qz_text qz_t qz_draft qz_s qz_kept qz_isKept qz_times qz_w qz_at qz_pulled qz_best qz_cartRow qz_tryRow qz_pairs qz_from qz_then qz_tryAt (0 : Int32) z_typed z_next z_token z_place z_value z_figures z_fault z_faultAt z_timeMany z_eaten_4 z_half z_bestMinutes_4 z_bestOats_4 z_isDue z_text z_t z_draft z_s z_kept z_isKept z_times z_w_6 z_at_5 z_pulled_4 z_best_4 z_cartRow z_tryRow z_pairs z_from_7 z_then z_tryAt) H → va_D A (W_X9z cI cZ cII qz qz_text qz_t qz_draft qz_s qz_kept qz_isKept qz_times qz_w qz_at qz_pulled qz_best qz_cartRow qz_tryRow qz_pairs qz_from qz_then qz_tryAt (0 : Int32) z_typed z_next z_token z_place z_value z_figures z_fault z_faultAt z_timeMany z_eaten_4 z_half z_bestMinutes_4 z_bestOats_4 z_isDue z_text z_t z_draft z_s z_kept z_isKept z_times z_w_6 z_at_5 z_pulled_4 z_best_4 z_cartRow z_tryRow z_pairs z_from_7 z_then z_tryAt) → va_S A s.heap H locs → lv_has ls 7 [(0, .ref qz), (1, .int n1), (2, .int n2), (3, .int y3_4), (4, .int y4_4), (5, .int y5_4)] → K84_7 z_from_7 = some (rr, z_thrown', z_eaten', z_bestMinutes', z_bestOats', z_w', z_at', z_pulled', z_best', z_from') → W p l e rm_X9_best s m args below meth c H locs 0 0 Q (F0 m 84 ls []) := by
              intro z_from_7 H locs ls hP hD hS hl hf
              have hf := hK84_7 _ hf
              refine lv_aload_n hx hb dX9_best_84 rfl (lv_at hl 0 rfl) ?_
              refine lv_aload_n hx hb dX9_best_85 rfl (lv_at hl 0 rfl) ?_
              refine va_get (D := (dC, dI)) (ci := 9) (v := .ref qz_s) (C := RX9) (T := TX9) (N := 32) hx hb hw inlX9 hown hK hP 0 rfl rfl 12 (by decide) (hw _ mw_6_3) (fun _ h9 => h9) rfl dX9_best_86 ?_
              refine lv_bipush (v := (9 : Int32)) hx hb dX9_best_89 (by decide) ?_
              refine va_iald hx hb hK hP 4 0 rfl rfl (pg_lit (by decide)) dX9_best_91 ?_
              refine lv_iload hx hb dX9_best_92 (lv_at hl 5 rfl) ?_
              refine lv_iadd hx hb dX9_best_94 ?_
              refine lv_iload_n hx hb dX9_best_95 rfl (lv_at hl 1 rfl) ?_
              refine lv_iconst (v := (-1 : Int32)) hx hb dX9_best_96 (by decide) ?_
              refine lv_iconst (v := (0 : Int32)) hx hb dX9_best_97 (by decide) ?_
              obtain ⟨r_8, z_eaten_8, z_bestMinutes_8, z_bestOats_8, z_w_8, z_at_8, z_pulled_8, z_best_8, hc, hf⟩ := bn8_s hf
              refine pg_cVi (As := [.int ((z_s ((9 : Int32)).toNatClampNeg) + y5_4), .int n1, .int (-1 : Int32), .int (0 : Int32)]) (rest := []) (wf := (W_X9z cI cZ cII qz qz_text qz_t qz_draft qz_s qz_kept qz_isKept qz_times qz_w qz_at qz_pulled qz_best qz_cartRow qz_tryRow qz_pairs qz_from qz_then qz_tryAt (0 : Int32) z_typed z_next z_token z_place z_value z_figures z_fault z_faultAt z_timeMany z_eaten_8 z_half z_bestMinutes_8 z_bestOats_8 z_isDue z_text z_t z_draft z_s z_kept z_isKept z_times z_w_8 z_at_8 z_pulled_8 z_best_8 z_cartRow z_tryRow z_pairs z_from_7 z_then z_tryAt)) ⟨hx, hb, hml, hown, hw⟩ (c_X9_finds l dC dI cI cZ cII qz qz_text qz_t qz_draft qz_s qz_kept qz_isKept qz_times qz_w qz_at qz_pulled qz_best qz_cartRow qz_tryRow qz_pairs qz_from qz_then qz_tryAt H.size (0 : Int32) z_typed z_next z_token z_place z_value z_figures z_fault z_faultAt z_timeMany z_eaten_4 z_half z_bestMinutes_4 z_bestOats_4 z_isDue z_text z_t z_draft z_s z_kept z_isKept z_times z_w_6 z_at_5 z_pulled_4 z_best_4 z_cartRow z_tryRow z_pairs z_from_7 z_then z_tryAt ((z_s ((9 : Int32)).toNatClampNeg) + y5_4) n1 (-1 : Int32) (0 : Int32) r_8 z_eaten_8 z_bestMinutes_8 z_bestOats_8 z_w_8 z_at_8 z_pulled_8 z_best_8 hc) (cwV 4 hts (wM_V mw_35_20 mw_35_21 mw_35_22 mw_1_5 mw_35_23) rfl rfl rfl dk_X9_finds ⟨Nat.le_of_ble_eq_true rfl, Nat.le_of_ble_eq_true rfl⟩) hK hP hD hS hA 9 0 rfl rfl rfl [0, 1, 2, 3, 4, 5, 6, 7, 8, 9, 10, 11, 12, 13, 14, 15, 16, 17] [] [0, 1, 2, 3, 4, 5, 6, 7, 8, 9, 10, 11, 12, 13, 14, 15, 16, 17] (plC_64 cI cZ cII qz qz_text qz_t qz_draft qz_s qz_kept qz_isKept qz_times qz_w qz_at qz_pulled qz_best qz_cartRow qz_tryRow qz_pairs qz_from qz_then qz_tryAt (0 : Int32) z_typed z_next z_token z_place z_value z_figures z_fault z_faultAt z_timeMany z_eaten_4 z_half z_bestMinutes_4 z_bestOats_4 z_isDue z_text z_t z_draft z_s z_kept z_isKept z_times z_w_6 z_at_5 z_pulled_4 z_best_4 z_cartRow z_tryRow z_pairs z_from_7 z_then z_tryAt) rfl (plF_64 cI cZ cII qz qz_text qz_t qz_draft qz_s qz_kept qz_isKept qz_times qz_w qz_at qz_pulled qz_best qz_cartRow qz_tryRow qz_pairs qz_from qz_then qz_tryAt (0 : Int32) z_typed z_next z_token z_place z_value z_figures z_fault z_faultAt z_timeMany z_eaten_4 z_half z_bestMinutes_4 z_bestOats_4 z_isDue z_text z_t z_draft z_s z_kept z_isKept z_times z_w_6 z_at_5 z_pulled_4 z_best_4 z_cartRow z_tryRow z_pairs z_from_7 z_then z_tryAt (0 : Int32) z_typed z_next z_token z_place z_value z_figures z_fault z_faultAt z_timeMany z_eaten_8 z_half z_bestMinutes_8 z_bestOats_8 z_isDue z_text z_t z_draft z_s z_kept z_isKept z_times z_w_8 z_at_8 z_pulled_8 z_best_8 z_cartRow z_tryRow z_pairs z_from_7 z_then z_tryAt) (by decide) rfl hl.1 rfl (Nat.le_of_ble_eq_true rfl) dX9_best_98 ⟨Nat.zero_le _, Nat.zero_le _⟩ (fun H locs hP hD hS => ?_)
              obtain ⟨J128_9, hJ128_9, hf⟩ := jn2_s hf
              have WJ128_9 : ∀ (y3_9 : Int32) (y4_9 : Int32) (H : Heap) (locs : List Loc) (ls : Array Slot), va_P (dC, dI) vwCl (W_X9z cI cZ cII qz qz_text qz_t qz_draft qz_s qz_kept qz_isKept qz_times qz_w qz_at qz_pulled qz_best qz_cartRow qz_tryRow qz_pairs qz_from qz_then qz_tryAt (0 : Int32) z_typed z_next z_token z_place z_value z_figures z_fault z_faultAt z_timeMany z_eaten_8 z_half z_bestMinutes_8 z_bestOats_8 z_isDue z_text z_t z_draft z_s z_kept z_isKept z_times z_w_8 z_at_8 z_pulled_8 z_best_8 z_cartRow z_tryRow z_pairs z_from_7 z_then z_tryAt) H → va_D A (W_X9z cI cZ cII qz qz_text qz_t qz_draft qz_s qz_kept qz_isKept qz_times qz_w qz_at qz_pulled qz_best qz_cartRow qz_tryRow qz_pairs qz_from qz_then qz_tryAt (0 : Int32) z_typed z_next z_token z_place z_value z_figures z_fault z_faultAt z_timeMany z_eaten_8 z_half z_bestMinutes_8 z_bestOats_8 z_isDue z_text z_t z_draft z_s z_kept z_isKept z_times z_w_8 z_at_8 z_pulled_8 z_best_8 z_cartRow z_tryRow z_pairs z_from_7 z_then z_tryAt) → va_S A s.heap H locs → lv_has ls 7 [(0, .ref qz), (1, .int n1), (2, .int n2), (3, .int y3_9), (4, .int y4_9), (5, .int y5_4)] → J128_9 y3_9 y4_9 = some (rr, z_thrown', z_eaten', z_bestMinutes', z_bestOats', z_w', z_at', z_pulled', z_best', z_from') → W p l e rm_X9_best s m args below meth c H locs 0 0 Q (F0 m 128 ls []) := by
                intro y3_9 y4_9 H locs ls hP hD hS hl hf
                have hf := hJ128_9 _ _ hf
                refine lv_iinc (v := (y5_4 + (1 : Int32))) (lv' := [(5, .int (y5_4 + (1 : Int32))), (0, .ref qz), (1, .int n1), (2, .int n2), (3, .int y3_9), (4, .int y4_9)]) hx hb dX9_best_128 hl (k := 5) rfl rfl (by decide) rfl (fun ls hl => ?_)
                refine lv_goto (tgt := 36) hx hb dX9_best_131 (by decide) ?_
                exact ih _ _ _ _ _ _ _ _ _ _ _ _ _ _ hP hD hS (lv_sub hl [1, 2, 3, 4, 5, 0] rfl) (hrec4 _ _ _ _ _ _ _ _ _ _ _ hf)
              refine lv_if_eq (tgt := 128) hx hb dX9_best_101 (by decide) (fun h9 => ?_) (fun h9 => ?_)
              · have hf := pg_t h9 hf
                exact WJ128_9 _ _ _ _ _ hP hD hS hl hf
              · have hf := pg_f h9 hf
                refine lv_iload hx hb dX9_best_104 (lv_at hl 4 rfl) ?_
                refine lv_iconst (v := (-1 : Int32)) hx hb dX9_best_106 (by decide) ?_
                obtain ⟨J119_10, hJ119_10, hf⟩ := jn1_s hf
                have WJ119_10 : ∀ (u_10 : Unit) (H : Heap) (locs : List Loc) (ls : Array Slot), va_P (dC, dI) vwCl (W_X9z cI cZ cII qz qz_text qz_t qz_draft qz_s qz_kept qz_isKept qz_times qz_w qz_at qz_pulled qz_best qz_cartRow qz_tryRow qz_pairs qz_from qz_then qz_tryAt (0 : Int32) z_typed z_next z_token z_place z_value z_figures z_fault z_faultAt z_timeMany z_eaten_8 z_half z_bestMinutes_8 z_bestOats_8 z_isDue z_text z_t z_draft z_s z_kept z_isKept z_times z_w_8 z_at_8 z_pulled_8 z_best_8 z_cartRow z_tryRow z_pairs z_from_7 z_then z_tryAt) H → va_D A (W_X9z cI cZ cII qz qz_text qz_t qz_draft qz_s qz_kept qz_isKept qz_times qz_w qz_at qz_pulled qz_best qz_cartRow qz_tryRow qz_pairs qz_from qz_then qz_tryAt (0 : Int32) z_typed z_next z_token z_place z_value z_figures z_fault z_faultAt z_timeMany z_eaten_8 z_half z_bestMinutes_8 z_bestOats_8 z_isDue z_text z_t z_draft z_s z_kept z_isKept z_times z_w_8 z_at_8 z_pulled_8 z_best_8 z_cartRow z_tryRow z_pairs z_from_7 z_then z_tryAt) → va_S A s.heap H locs → lv_has ls 7 [(0, .ref qz), (1, .int n1), (2, .int n2), (5, .int y5_4)] → J119_10 u_10 = some (rr, z_thrown', z_eaten', z_bestMinutes', z_bestOats', z_w', z_at', z_pulled', z_best', z_from') → W p l e rm_X9_best s m args below meth c H locs 0 0 Q (F0 m 119 ls []) := by
                  intro u_10 H locs ls hP hD hS hl hf
                  have hf := hJ119_10 _ hf
                  refine lv_iload hx hb dX9_best_119 (lv_at hl 3 rfl) ?_
                  refine lv_istore_n (lv' := [(3, .int y5_4), (0, .ref qz), (1, .int n1), (2, .int n2), (5, .int y5_4)]) hx hb dX9_best_121 rfl hl (by decide) rfl (fun ls hl => ?_)
                  refine lv_aload_n hx hb dX9_best_122 rfl (lv_at hl 1 rfl) ?_
                  refine va_get (D := (dC, dI)) (ci := 9) (v := .int z_bestMinutes_8) (C := RX9) (T := TX9) (N := 32) hx hb hw inlX9 hown hK hP 0 rfl rfl 23 (by decide) (hw _ mw_35_10) (fun _ h9 => h9) rfl dX9_best_123 ?_
                  refine lv_istore (lv' := [(4, .int z_bestMinutes_8), (3, .int y5_4), (0, .ref qz), (1, .int n1), (2, .int n2), (5, .int y5_4)]) hx hb dX9_best_126 hl (by decide) rfl (fun ls hl => ?_)
                  exact WJ128_9 _ _ _ _ _ hP hD hS (lv_sub hl [2, 3, 4, 1, 0, 5] rfl) hf
                refine lv_icmp_eq (tgt := 119) hx hb dX9_best_107 (by decide) (fun h9 => ?_) (fun h9 => ?_)
                · have hf := pg_t h9 hf
                  exact WJ119_10 _ _ _ _ hP hD hS (lv_sub hl [0, 1, 2, 5] rfl) hf
                · have hf := pg_f h9 hf
                  refine lv_aload_n hx hb dX9_best_110 rfl (lv_at hl 0 rfl) ?_
                  refine va_get (D := (dC, dI)) (ci := 9) (v := .int z_bestMinutes_8) (C := RX9) (T := TX9) (N := 32) hx hb hw inlX9 hown hK hP 0 rfl rfl 23 (by decide) (hw _ mw_35_10) (fun _ h9 => h9) rfl dX9_best_111 ?_
                  refine lv_iload hx hb dX9_best_114 (lv_at hl 4 rfl) ?_
                  refine lv_icmp_ge (tgt := 128) hx hb dX9_best_116 (by decide) (fun h9 => ?_) (fun h9 => ?_)
                  · have hf := pg_t h9 hf
                    exact WJ128_9 _ _ _ _ _ hP hD hS hl hf
                  · have hf := pg_f h9 hf
                    exact WJ119_10 _ _ _ _ hP hD hS (lv_sub hl [0, 1, 2, 5] rfl) hf
            obtain ⟨B11, hB11, hf⟩ := lq2_n hf
            have WL11 : ∀ (n9 : Nat) (y6_11 : Int32) (z_from_11 : Nat → Int32) (H : Heap) (locs : List Loc) (ls : Array Slot), va_P (dC, dI) vwCl (W_X9z cI cZ cII qz qz_text qz_t qz_draft qz_s qz_kept qz_isKept qz_times qz_w qz_at qz_pulled qz_best qz_cartRow qz_tryRow qz_pairs qz_from qz_then qz_tryAt (0 : Int32) z_typed z_next z_token z_place z_value z_figures z_fault z_faultAt z_timeMany z_eaten_4 z_half z_bestMinutes_4 z_bestOats_4 z_isDue z_text z_t z_draft z_s z_kept z_isKept z_times z_w_6 z_at_5 z_pulled_4 z_best_4 z_cartRow z_tryRow z_pairs z_from_11 z_then z_tryAt) H → va_D A (W_X9z cI cZ cII qz qz_text qz_t qz_draft qz_s qz_kept qz_isKept qz_times qz_w qz_at qz_pulled qz_best qz_cartRow qz_tryRow qz_pairs qz_from qz_then qz_tryAt (0 : Int32) z_typed z_next z_token z_place z_value z_figures z_fault z_faultAt z_timeMany z_eaten_4 z_half z_bestMinutes_4 z_bestOats_4 z_isDue z_text z_t z_draft z_s z_kept z_isKept z_times z_w_6 z_at_5 z_pulled_4 z_best_4 z_cartRow z_tryRow z_pairs z_from_11 z_then z_tryAt) → va_S A s.heap H locs → lv_has ls 7 [(0, .ref qz), (1, .int n1), (2, .int n2), (3, .int y3_4), (4, .int y4_4), (5, .int y5_4), (6, .int y6_11)] → lq2 B11 n9 y6_11 z_from_11 = some (rr, z_thrown', z_eaten', z_bestMinutes', z_bestOats', z_w', z_at', z_pulled', z_best', z_from') → W p l e rm_X9_best s m args below meth c H locs 0 0 Q (F0 m 57 ls []) := by
              intro n9
              induction n9 with
              | zero => intro y6_11 z_from_11 H locs ls hP hD hS hl hf; cases hf
              | succ n9 ih =>
                intro y6_11 z_from_11 H locs ls hP hD hS hl hf
                obtain ⟨rec11, hrec11, hf⟩ := lq2_s hf
                have hf := hB11 rec11 _ _ hf
                refine lv_iload hx hb dX9_best_57 (lv_at hl 6 rfl) ?_
                refine lv_bipush (v := (6 : Int32)) hx hb dX9_best_59 (by decide) ?_
                refine lv_icmp_ge (tgt := 84) hx hb dX9_best_61 (by decide) (fun h9 => ?_) (fun h9 => ?_)
                · have hf := pg_t h9 hf
                  exact WK84_7 _ _ _ _ hP hD hS (lv_sub hl [0, 1, 2, 3, 4, 5] rfl) hf
                · have hf := pg_f h9 hf
                  refine lv_aload_n hx hb dX9_best_64 rfl (lv_at hl 0 rfl) ?_
                  refine va_get (D := (dC, dI)) (ci := 9) (v := .ref qz_from) (C := RX9) (T := TX9) (N := 32) hx hb hw inlX9 hown hK hP 0 rfl rfl 29 (by decide) (hw _ mw_6_16) (fun _ h9 => h9) rfl dX9_best_65 ?_
                  refine lv_iload hx hb dX9_best_68 (lv_at hl 6 rfl) ?_
                  refine lv_aload_n hx hb dX9_best_70 rfl (lv_at hl 0 rfl) ?_
                  refine va_get (D := (dC, dI)) (ci := 9) (v := .ref qz_w) (C := RX9) (T := TX9) (N := 32) hx hb hw inlX9 hown hK hP 0 rfl rfl 17 (by decide) (hw _ mw_6_8) (fun _ h9 => h9) rfl dX9_best_71 ?_
                  refine lv_iload hx hb dX9_best_74 (lv_at hl 6 rfl) ?_
                  obtain ⟨hi12, hf⟩ := pg_chk hf
                  refine va_iald hx hb hK hP 8 0 rfl rfl hi12 dX9_best_76 ?_
                  refine va_iast hx hb hK hP hD hS 15 0 rfl rfl hi12 dX9_best_77 (fun H locs hP hD hS => ?_)
                  have hP : va_P (dC, dI) vwCl (W_X9z cI cZ cII qz qz_text qz_t qz_draft qz_s qz_kept qz_isKept qz_times qz_w qz_at qz_pulled qz_best qz_cartRow qz_tryRow qz_pairs qz_from qz_then qz_tryAt (0 : Int32) z_typed z_next z_token z_place z_value z_figures z_fault z_faultAt z_timeMany z_eaten_4 z_half z_bestMinutes_4 z_bestOats_4 z_isDue z_text z_t z_draft z_s z_kept z_isKept z_times z_w_6 z_at_5 z_pulled_4 z_best_4 z_cartRow z_tryRow z_pairs (upd z_from_11 (y6_11).toNatClampNeg (z_w_6 (y6_11).toNatClampNeg)) z_then z_tryAt) H := hP
                  have hD : va_D A (W_X9z cI cZ cII qz qz_text qz_t qz_draft qz_s qz_kept qz_isKept qz_times qz_w qz_at qz_pulled qz_best qz_cartRow qz_tryRow qz_pairs qz_from qz_then qz_tryAt (0 : Int32) z_typed z_next z_token z_place z_value z_figures z_fault z_faultAt z_timeMany z_eaten_4 z_half z_bestMinutes_4 z_bestOats_4 z_isDue z_text z_t z_draft z_s z_kept z_isKept z_times z_w_6 z_at_5 z_pulled_4 z_best_4 z_cartRow z_tryRow z_pairs (upd z_from_11 (y6_11).toNatClampNeg (z_w_6 (y6_11).toNatClampNeg)) z_then z_tryAt) := hD
                  refine lv_iinc (v := (y6_11 + (1 : Int32))) (lv' := [(6, .int (y6_11 + (1 : Int32))), (0, .ref qz), (1, .int n1), (2, .int n2), (3, .int y3_4), (4, .int y4_4), (5, .int y5_4)]) hx hb dX9_best_78 hl (k := 6) rfl rfl (by decide) rfl (fun ls hl => ?_)
                  refine lv_goto (tgt := 57) hx hb dX9_best_81 (by decide) ?_
                  exact ih _ _ _ _ _ hP hD hS (lv_sub hl [1, 2, 3, 4, 5, 6, 0] rfl) (hrec11 _ _ hf)
            exact WL11 fu _ _ _ _ _ hP hD hS (lv_sub hl [1, 2, 3, 4, 5, 6, 0] rfl) hf
      exact WL4 fu _ _ _ _ _ _ _ _ _ _ _ _ _ _ hP hD hS (lv_sub hl [3, 4, 5, 2, 1, 0] rfl) hf
    · have hf := pg_t h9 hf
      refine lv_ldc (v := (-1000000002 : Int32)) hx hb hown (hw _ mw_7_20) dX9_best_25 ?_
      exact RET _ _ _ _ _ _ _ _ _ _ _ _ _ _ dX9_best_27 hP hD hS hf
def f_X9_worth (n1 : Int32) (n2 : Int32) (z_thrown : Int32) (z_eaten : Int32) (z_half : Int32) (z_bestMinutes : Int32) (z_bestOats : Int32) (z_t : Nat → Int32) (z_s : Nat → Int32) (z_w : Nat → Int32) (z_at : Nat → Int32) (z_pulled : Nat → Int32) (z_best : Nat → Int32) (z_from : Nat → Int32) : Option (Int32 × Int32 × Int32 × Int32 × Int32 × (Nat → Int32) × (Nat → Int32) × (Nat → Int32) × (Nat → Int32) × (Nat → Int32)) :=
  bn1 (f_X9_isHorse n2 z_t) (fun (r_1 : Int32) =>
    if r_1 = 0 then
      some ((-1000000001 : Int32), (0 : Int32), z_eaten, z_bestMinutes, z_bestOats, z_w, z_at, z_pulled, z_best, z_from)
    else
      bn1 (f_X9_in n1 (0 : Int32) (240 : Int32)) (fun (r_2 : Int32) =>
        if r_2 = 0 then
          some ((-1000000002 : Int32), (0 : Int32), z_eaten, z_bestMinutes, z_bestOats, z_w, z_at, z_pulled, z_best, z_from)
        else
          bn1 (f_X9_fromNow z_s z_from) (fun (z_from_3 : Nat → Int32) =>
            bn8 (f_X9_finds (z_s ((9 : Int32)).toNatClampNeg) n1 (-1 : Int32) (0 : Int32) z_eaten z_half z_bestMinutes z_bestOats z_t z_w z_at z_pulled z_best z_from_3) (fun (r_4 : Int32) (z_eaten_4 : Int32) (z_bestMinutes_4 : Int32) (z_bestOats_4 : Int32) (z_w_4 : Nat → Int32) (z_at_4 : Nat → Int32) (z_pulled_4 : Nat → Int32) (z_best_4 : Nat → Int32) =>
              jn1 (fun (z0_5 : Int32) =>
                bn8 (f_X9_finds (z_s ((9 : Int32)).toNatClampNeg) n1 n2 (0 : Int32) z_eaten_4 z_half z_bestMinutes_4 z_bestOats_4 z_t z_w_4 z_at_4 z_pulled_4 z_best_4 z_from_3) (fun (r_6 : Int32) (z_eaten_6 : Int32) (z_bestMinutes_6 : Int32) (z_bestOats_6 : Int32) (z_w_6 : Nat → Int32) (z_at_6 : Nat → Int32) (z_pulled_6 : Nat → Int32) (z_best_6 : Nat → Int32) =>
                  jn1 (fun (z0_7 : Int32) =>
                    some ((z0_7 - z0_5), (0 : Int32), z_eaten_6, z_bestMinutes_6, z_bestOats_6, z_w_6, z_at_6, z_pulled_6, z_best_6, z_from_3)
                  ) (fun J87_7 =>
                  if r_6 = 0 then
                    J87_7 (121 : Int32)
                  else
                    J87_7 z_bestMinutes_6
                  )
                )
              ) (fun J60_5 =>
              if r_4 = 0 then
                J60_5 (121 : Int32)
              else
                J60_5 z_bestMinutes_4
              )
            )
          )
      )
  )
abbrev rm_X9_worth : Room := { frames := 6, cells := 0, slots := 0, locals := 145 }
theorem dk_X9_worth : yX9_worth.cls = RX9 ∧ yX9_worth.cls ≠ "java/lang/invoke/MethodHandle" ∧ yX9_worth.cls ≠ "java/lang/invoke/VarHandle" ∧ (parseMethodDescriptor yX9_worth.desc).map (fun d => d.parameters.length) = some 2 := by decide +kernel
set_option maxHeartbeats 4000000 in
set_option maxRecDepth 100000 in
theorem c_X9_worth (l : Launch) (dC : Nat → ClassId) (dI : Nat → Nat → Nat) (cI cZ cII : ClassId) (qz qz_text qz_t qz_draft qz_s qz_kept qz_isKept qz_times qz_w qz_at qz_pulled qz_best qz_cartRow qz_tryRow qz_pairs qz_from qz_then qz_tryAt : Nat) (sz : Nat) (z_thrown : Int32) (z_typed : Int32) (z_next : Int32) (z_token : Int32) (z_place : Int32) (z_value : Int32) (z_figures : Int32) (z_fault : Int32) (z_faultAt : Int32) (z_timeMany : Int32) (z_eaten : Int32) (z_half : Int32) (z_bestMinutes : Int32) (z_bestOats : Int32) (z_isDue : Int32) (z_text : Nat → Int32) (z_t : Nat → Int32) (z_draft : Nat → Int32) (z_s : Nat → Int32) (z_kept : Nat → Int32) (z_isKept : Nat → Int32) (z_times : Nat → Int32) (z_w : Nat → Int32) (z_at : Nat → Int32) (z_pulled : Nat → Int32) (z_best : Nat → Int32) (z_cartRow : Nat → Int32) (z_tryRow : Nat → Int32) (z_pairs : Nat → Int32) (z_from : Nat → Int32) (z_then : Nat → Int32) (z_tryAt : Nat → Int32) (n1 : Int32) (n2 : Int32) (rr : Int32) (z_thrown' : Int32) (z_eaten' : Int32) (z_bestMinutes' : Int32) (z_bestOats' : Int32) (z_w' : Nat → Int32) (z_at' : Nat → Int32) (z_pulled' : Nat → Int32) (z_best' : Nat → Int32) (z_from' : Nat → Int32) (hf : f_X9_worth n1 n2 z_thrown z_eaten z_half z_bestMinutes z_bestOats z_t z_s z_w z_at z_pulled z_best z_from = some (rr, z_thrown', z_eaten', z_bestMinutes', z_bestOats', z_w', z_at', z_pulled', z_best', z_from')) : Met l yX9_worth (wM yX9_worth cX9_worth 5 (some .int)) rm_X9_worth (PreW (dC, dI) (tyA cI cZ cII) (W_X9z cI cZ cII qz qz_text qz_t qz_draft qz_s qz_kept qz_isKept qz_times qz_w qz_at qz_pulled qz_best qz_cartRow qz_tryRow qz_pairs qz_from qz_then qz_tryAt z_thrown z_typed z_next z_token z_place z_value z_figures z_fault z_faultAt z_timeMany z_eaten z_half z_bestMinutes z_bestOats z_isDue z_text z_t z_draft z_s z_kept z_isKept z_times z_w z_at z_pulled z_best z_cartRow z_tryRow z_pairs z_from z_then z_tryAt) sz [.ref qz, .int n1, .int n2]) (PostI (dC, dI) (tyA cI cZ cII) rr (W_X9z cI cZ cII qz qz_text qz_t qz_draft qz_s qz_kept qz_isKept qz_times qz_w qz_at qz_pulled qz_best qz_cartRow qz_tryRow qz_pairs qz_from qz_then qz_tryAt z_thrown z_typed z_next z_token z_place z_value z_figures z_fault z_faultAt z_timeMany z_eaten z_half z_bestMinutes z_bestOats z_isDue z_text z_t z_draft z_s z_kept z_isKept z_times z_w z_at z_pulled z_best z_cartRow z_tryRow z_pairs z_from z_then z_tryAt) (W_X9z cI cZ cII qz qz_text qz_t qz_draft qz_s qz_kept qz_isKept qz_times qz_w qz_at qz_pulled qz_best qz_cartRow qz_tryRow qz_pairs qz_from qz_then qz_tryAt z_thrown' z_typed z_next z_token z_place z_value z_figures z_fault z_faultAt z_timeMany z_eaten' z_half z_bestMinutes' z_bestOats' z_isDue z_text z_t z_draft z_s z_kept z_isKept z_times z_w' z_at' z_pulled' z_best' z_cartRow z_tryRow z_pairs z_from' z_then z_tryAt) sz) 0 0 (va_A (W_X9z cI cZ cII qz qz_text qz_t qz_draft qz_s qz_kept qz_isKept qz_times qz_w qz_at qz_pulled qz_best qz_cartRow qz_tryRow qz_pairs qz_from qz_then qz_tryAt z_thrown z_typed z_next z_token z_place z_value z_figures z_fault z_faultAt z_timeMany z_eaten z_half z_bestMinutes z_bestOats z_isDue z_text z_t z_draft z_s z_kept z_isKept z_times z_w z_at z_pulled z_best z_cartRow z_tryRow z_pairs z_from z_then z_tryAt) sz) := by
  refine Met.ofW (cc := cX9_worth) (maxL := 5) (ret := (some .int)) (by decide) rfl ?_
  intro p e s m args below meth c s₁ B hml hv
  obtain ⟨rfl, hsz, hP, hK, hD0⟩ := hv
  have hx := B.exec
  have hb := B.bytes
  have hr := B.returns
  have hts := atoms_spec (ws := wM yX9_worth cX9_worth 5 (some .int)) B.pre
  have hown : s.vm.findClass RX9 = some m.cls := findClass_of_methodNamed B.named
  have hlocks := B.notSynchronized
  subst hsz
  have hD := hD0.self (sz := s.heap.size)
  obtain ⟨A, hAe⟩ : ∃ A, A = va_A (W_X9z cI cZ cII qz qz_text qz_t qz_draft qz_s qz_kept qz_isKept qz_times qz_w qz_at qz_pulled qz_best qz_cartRow qz_tryRow qz_pairs qz_from qz_then qz_tryAt z_thrown z_typed z_next z_token z_place z_value z_figures z_fault z_faultAt z_timeMany z_eaten z_half z_bestMinutes z_bestOats z_isDue z_text z_t z_draft z_s z_kept z_isKept z_times z_w z_at z_pulled z_best z_cartRow z_tryRow z_pairs z_from z_then z_tryAt) s.heap.size := ⟨_, rfl⟩
  rw [← hAe] at hD
  have hA : ∀ q : Nat, s.heap.size ≤ q → A q := fun q h => by rw [hAe]; exact Or.inr h
  have hS : va_S A s.heap s.heap [] := va_S.rf
  have hl := lv_entry ([.ref qz, .int n1, .int n2]) (n := 5) (Nat.le_of_ble_eq_true rfl)
  rw [lg_entry_eq]
  generalize (lg_sl ([.ref qz, .int n1, .int n2]) ++ List.replicate (5 - (lg_sl ([.ref qz, .int n1, .int n2])).length) Slot.unset).toArray = ls at hl ⊢
  have hl : lv_has ls 5 [(0, .ref qz), (1, .int n1), (2, .int n2)] := hl
  generalize ([.ref qz, .int n1, .int n2] : List Value).toArray = args at hts ⊢
  have hw : ∀ w ∈ wsL_law, w.before args s = true := fun w h => hts w (List.mem_cons_of_mem _ h)
  refine pg_start (fun Q hQ => ?_)
  have RET : ∀ (H : Heap) (locs : List Loc) (ls : Array Slot) (pc : Nat) (v : Int32) (x0 : Int32) (x1 : Int32) (x2 : Int32) (x3 : Int32) (x4 : Nat → Int32) (x5 : Nat → Int32) (x6 : Nat → Int32) (x7 : Nat → Int32) (x8 : Nat → Int32) , decode cX9_worth pc = .ok (.ireturn, 1) → va_P (dC, dI) vwCl (W_X9z cI cZ cII qz qz_text qz_t qz_draft qz_s qz_kept qz_isKept qz_times qz_w qz_at qz_pulled qz_best qz_cartRow qz_tryRow qz_pairs qz_from qz_then qz_tryAt x0 z_typed z_next z_token z_place z_value z_figures z_fault z_faultAt z_timeMany x1 z_half x2 x3 z_isDue z_text z_t z_draft z_s z_kept z_isKept z_times x4 x5 x6 x7 z_cartRow z_tryRow z_pairs x8 z_then z_tryAt) H → va_D A (W_X9z cI cZ cII qz qz_text qz_t qz_draft qz_s qz_kept qz_isKept qz_times qz_w qz_at qz_pulled qz_best qz_cartRow qz_tryRow qz_pairs qz_from qz_then qz_tryAt x0 z_typed z_next z_token z_place z_value z_figures z_fault z_faultAt z_timeMany x1 z_half x2 x3 z_isDue z_text z_t z_draft z_s z_kept z_isKept z_times x4 x5 x6 x7 z_cartRow z_tryRow z_pairs x8 z_then z_tryAt) → va_S A s.heap H locs → (some (v, x0, x1, x2, x3, x4, x5, x6, x7, x8) : Option (Int32 × Int32 × Int32 × Int32 × Int32 × (Nat → Int32) × (Nat → Int32) × (Nat → Int32) × (Nat → Int32) × (Nat → Int32))) = some (rr, z_thrown', z_eaten', z_bestMinutes', z_bestOats', z_w', z_at', z_pulled', z_best', z_from') → W p l e rm_X9_worth s m args below meth c H locs 0 0 Q (F0 m pc ls [.int v]) := by
    intro H locs ls pc v x0 x1 x2 x3 x4 x5 x6 x7 x8 hd hP hD hS he
    subst hAe; subst hQ
    simp only [Option.some.injEq, Prod.mk.injEq] at he
    obtain ⟨rfl, rfl, rfl, rfl, rfl, rfl, rfl, rfl, rfl, rfl⟩ := he
    exact pg_iret hx hb hr hlocks hK hP hD hS hd
  unfold f_X9_worth at hf
  refine lv_aload_n hx hb dX9_worth_0 rfl (lv_at hl 0 rfl) ?_
  refine lv_iconst (v := (0 : Int32)) hx hb dX9_worth_1 (by decide) ?_
  refine va_put (D := (dC, dI)) (ci := 9) (v := .int (0 : Int32)) (ty := .int) (C := RX9) (T := TX9) (N := 32) hx hb hw inlX9 tyX9 tyX9_ok nmX9 hown hK hP hD hS 0 rfl rfl 0 (by decide) (hw _ mw_7_19) (fun _ h9 => h9) rfl (by decide +kernel) rfl rfl (Nat.le_of_ble_eq_true rfl) dX9_worth_2 (fun H locs hP hD hS => ?_)
  have hP : va_P (dC, dI) vwCl (W_X9z cI cZ cII qz qz_text qz_t qz_draft qz_s qz_kept qz_isKept qz_times qz_w qz_at qz_pulled qz_best qz_cartRow qz_tryRow qz_pairs qz_from qz_then qz_tryAt (0 : Int32) z_typed z_next z_token z_place z_value z_figures z_fault z_faultAt z_timeMany z_eaten z_half z_bestMinutes z_bestOats z_isDue z_text z_t z_draft z_s z_kept z_isKept z_times z_w z_at z_pulled z_best z_cartRow z_tryRow z_pairs z_from z_then z_tryAt) H := hP
  have hD : va_D A (W_X9z cI cZ cII qz qz_text qz_t qz_draft qz_s qz_kept qz_isKept qz_times qz_w qz_at qz_pulled qz_best qz_cartRow qz_tryRow qz_pairs qz_from qz_then qz_tryAt (0 : Int32) z_typed z_next z_token z_place z_value z_figures z_fault z_faultAt z_timeMany z_eaten z_half z_bestMinutes z_bestOats z_isDue z_text z_t z_draft z_s z_kept z_isKept z_times z_w z_at z_pulled z_best z_cartRow z_tryRow z_pairs z_from z_then z_tryAt) := hD
  refine lv_aload_n hx hb dX9_worth_5 rfl (lv_at hl 0 rfl) ?_
  refine lv_iload_n hx hb dX9_worth_6 rfl (lv_at hl 2 rfl) ?_
  obtain ⟨r_1, hc, hf⟩ := bn1_s hf
  refine pg_cVi (As := [.int n2]) (rest := []) (wf := (W_X9z cI cZ cII qz qz_text qz_t qz_draft qz_s qz_kept qz_isKept qz_times qz_w qz_at qz_pulled qz_best qz_cartRow qz_tryRow qz_pairs qz_from qz_then qz_tryAt (0 : Int32) z_typed z_next z_token z_place z_value z_figures z_fault z_faultAt z_timeMany z_eaten z_half z_bestMinutes z_bestOats z_isDue z_text z_t z_draft z_s z_kept z_isKept z_times z_w z_at z_pulled z_best z_cartRow z_tryRow z_pairs z_from z_then z_tryAt)) ⟨hx, hb, hml, hown, hw⟩ (c_X9_isHorse l dC dI cI cZ cII qz qz_text qz_t qz_draft qz_s qz_kept qz_isKept qz_times qz_w qz_at qz_pulled qz_best qz_cartRow qz_tryRow qz_pairs qz_from qz_then qz_tryAt H.size (0 : Int32) z_typed z_next z_token z_place z_value z_figures z_fault z_faultAt z_timeMany z_eaten z_half z_bestMinutes z_bestOats z_isDue z_text z_t z_draft z_s z_kept z_isKept z_times z_w z_at z_pulled z_best z_cartRow z_tryRow z_pairs z_from z_then z_tryAt n2 r_1 hc) (cwV 1 hts (wM_V mw_25_13 mw_25_14 mw_25_15 mw_1_5 mw_25_16) rfl rfl rfl dk_X9_isHorse ⟨Nat.le_of_ble_eq_true rfl, Nat.le_of_ble_eq_true rfl⟩) hK hP hD hS hA 9 0 rfl rfl rfl [0, 1, 2, 3, 4, 5, 6, 7, 8, 9, 10, 11, 12, 13, 14, 15, 16, 17] [] [0, 1, 2, 3, 4, 5, 6, 7, 8, 9, 10, 11, 12, 13, 14, 15, 16, 17] (plC_64 cI cZ cII qz qz_text qz_t qz_draft qz_s qz_kept qz_isKept qz_times qz_w qz_at qz_pulled qz_best qz_cartRow qz_tryRow qz_pairs qz_from qz_then qz_tryAt (0 : Int32) z_typed z_next z_token z_place z_value z_figures z_fault z_faultAt z_timeMany z_eaten z_half z_bestMinutes z_bestOats z_isDue z_text z_t z_draft z_s z_kept z_isKept z_times z_w z_at z_pulled z_best z_cartRow z_tryRow z_pairs z_from z_then z_tryAt) rfl (plF_64 cI cZ cII qz qz_text qz_t qz_draft qz_s qz_kept qz_isKept qz_times qz_w qz_at qz_pulled qz_best qz_cartRow qz_tryRow qz_pairs qz_from qz_then qz_tryAt (0 : Int32) z_typed z_next z_token z_place z_value z_figures z_fault z_faultAt z_timeMany z_eaten z_half z_bestMinutes z_bestOats z_isDue z_text z_t z_draft z_s z_kept z_isKept z_times z_w z_at z_pulled z_best z_cartRow z_tryRow z_pairs z_from z_then z_tryAt (0 : Int32) z_typed z_next z_token z_place z_value z_figures z_fault z_faultAt z_timeMany z_eaten z_half z_bestMinutes z_bestOats z_isDue z_text z_t z_draft z_s z_kept z_isKept z_times z_w z_at z_pulled z_best z_cartRow z_tryRow z_pairs z_from z_then z_tryAt) (by decide) rfl hl.1 rfl (Nat.le_of_ble_eq_true rfl) dX9_worth_7 ⟨Nat.zero_le _, Nat.zero_le _⟩ (fun H locs hP hD hS => ?_)
  refine lv_if_ne (tgt := 16) hx hb dX9_worth_10 (by decide) (fun h9 => ?_) (fun h9 => ?_)
  · have hf := pg_f h9 hf
    refine lv_iload_n hx hb dX9_worth_16 rfl (lv_at hl 1 rfl) ?_
    refine lv_iconst (v := (0 : Int32)) hx hb dX9_worth_17 (by decide) ?_
    refine lv_sipush (v := (240 : Int32)) hx hb dX9_worth_18 (by decide) ?_
    obtain ⟨r_2, hc, hf⟩ := bn1_s hf
    refine pg_cSi (As := [.int n1, .int (0 : Int32), .int (240 : Int32)]) (rest := []) (wf := (W_X9z cI cZ cII qz qz_text qz_t qz_draft qz_s qz_kept qz_isKept qz_times qz_w qz_at qz_pulled qz_best qz_cartRow qz_tryRow qz_pairs qz_from qz_then qz_tryAt (0 : Int32) z_typed z_next z_token z_place z_value z_figures z_fault z_faultAt z_timeMany z_eaten z_half z_bestMinutes z_bestOats z_isDue z_text z_t z_draft z_s z_kept z_isKept z_times z_w z_at z_pulled z_best z_cartRow z_tryRow z_pairs z_from z_then z_tryAt)) ⟨hx, hb, hml, hown, hw⟩ (c_X9_in l dC dI cI cZ cII  H.size  n1 (0 : Int32) (240 : Int32) r_2 hc) (va_cwS 3 hts (wM_S mw_8_0 mw_8_1 mw_1_5 mw_8_2) rfl rfl rfl dk_X9_in ⟨Nat.le_of_ble_eq_true rfl, Nat.le_of_ble_eq_true rfl⟩) hK hP hD hS hA [] [0, 1, 2, 3, 4, 5, 6, 7, 8, 9, 10, 11, 12, 13, 14, 15, 16, 17] [0, 1, 2, 3, 4, 5, 6, 7, 8, 9, 10, 11, 12, 13, 14, 15, 16, 17] (plC_62 cI cZ cII qz qz_text qz_t qz_draft qz_s qz_kept qz_isKept qz_times qz_w qz_at qz_pulled qz_best qz_cartRow qz_tryRow qz_pairs qz_from qz_then qz_tryAt (0 : Int32) z_typed z_next z_token z_place z_value z_figures z_fault z_faultAt z_timeMany z_eaten z_half z_bestMinutes z_bestOats z_isDue z_text z_t z_draft z_s z_kept z_isKept z_times z_w z_at z_pulled z_best z_cartRow z_tryRow z_pairs z_from z_then z_tryAt) rfl (plF_62 cI cZ cII qz qz_text qz_t qz_draft qz_s qz_kept qz_isKept qz_times qz_w qz_at qz_pulled qz_best qz_cartRow qz_tryRow qz_pairs qz_from qz_then qz_tryAt (0 : Int32) z_typed z_next z_token z_place z_value z_figures z_fault z_faultAt z_timeMany z_eaten z_half z_bestMinutes z_bestOats z_isDue z_text z_t z_draft z_s z_kept z_isKept z_times z_w z_at z_pulled z_best z_cartRow z_tryRow z_pairs z_from z_then z_tryAt ) (by decide) rfl hl.1 rfl (Nat.le_of_ble_eq_true rfl) dX9_worth_21 ⟨Nat.zero_le _, Nat.zero_le _⟩ (fun H locs hP hD hS => ?_)
    refine lv_if_ne (tgt := 30) hx hb dX9_worth_24 (by decide) (fun h9 => ?_) (fun h9 => ?_)
    · have hf := pg_f h9 hf
      refine lv_aload_n hx hb dX9_worth_30 rfl (lv_at hl 0 rfl) ?_
      obtain ⟨z_from_3, hc, hf⟩ := bn1_s hf
      refine pg_cVv (As := []) (rest := []) (wf := (W_X9z cI cZ cII qz qz_text qz_t qz_draft qz_s qz_kept qz_isKept qz_times qz_w qz_at qz_pulled qz_best qz_cartRow qz_tryRow qz_pairs qz_from qz_then qz_tryAt (0 : Int32) z_typed z_next z_token z_place z_value z_figures z_fault z_faultAt z_timeMany z_eaten z_half z_bestMinutes z_bestOats z_isDue z_text z_t z_draft z_s z_kept z_isKept z_times z_w z_at z_pulled z_best z_cartRow z_tryRow z_pairs z_from_3 z_then z_tryAt)) ⟨hx, hb, hml, hown, hw⟩ (c_X9_fromNow l dC dI cI cZ cII qz qz_text qz_t qz_draft qz_s qz_kept qz_isKept qz_times qz_w qz_at qz_pulled qz_best qz_cartRow qz_tryRow qz_pairs qz_from qz_then qz_tryAt H.size (0 : Int32) z_typed z_next z_token z_place z_value z_figures z_fault z_faultAt z_timeMany z_eaten z_half z_bestMinutes z_bestOats z_isDue z_text z_t z_draft z_s z_kept z_isKept z_times z_w z_at z_pulled z_best z_cartRow z_tryRow z_pairs z_from z_then z_tryAt  z_from_3 hc) (cwV 0 hts (wM_V mw_35_16 mw_35_17 mw_35_18 mw_1_5 mw_35_19) rfl rfl rfl dk_X9_fromNow ⟨Nat.le_of_ble_eq_true rfl, Nat.le_of_ble_eq_true rfl⟩) hK hP hD hS hA 9 0 rfl rfl rfl [0, 1, 2, 3, 4, 5, 6, 7, 8, 9, 10, 11, 12, 13, 14, 15, 16, 17] [] [0, 1, 2, 3, 4, 5, 6, 7, 8, 9, 10, 11, 12, 13, 14, 15, 16, 17] (plC_64 cI cZ cII qz qz_text qz_t qz_draft qz_s qz_kept qz_isKept qz_times qz_w qz_at qz_pulled qz_best qz_cartRow qz_tryRow qz_pairs qz_from qz_then qz_tryAt (0 : Int32) z_typed z_next z_token z_place z_value z_figures z_fault z_faultAt z_timeMany z_eaten z_half z_bestMinutes z_bestOats z_isDue z_text z_t z_draft z_s z_kept z_isKept z_times z_w z_at z_pulled z_best z_cartRow z_tryRow z_pairs z_from z_then z_tryAt) rfl (plF_64 cI cZ cII qz qz_text qz_t qz_draft qz_s qz_kept qz_isKept qz_times qz_w qz_at qz_pulled qz_best qz_cartRow qz_tryRow qz_pairs qz_from qz_then qz_tryAt (0 : Int32) z_typed z_next z_token z_place z_value z_figures z_fault z_faultAt z_timeMany z_eaten z_half z_bestMinutes z_bestOats z_isDue z_text z_t z_draft z_s z_kept z_isKept z_times z_w z_at z_pulled z_best z_cartRow z_tryRow z_pairs z_from z_then z_tryAt (0 : Int32) z_typed z_next z_token z_place z_value z_figures z_fault z_faultAt z_timeMany z_eaten z_half z_bestMinutes z_bestOats z_isDue z_text z_t z_draft z_s z_kept z_isKept z_times z_w z_at z_pulled z_best z_cartRow z_tryRow z_pairs z_from_3 z_then z_tryAt) (by decide) rfl hl.1 rfl (Nat.le_of_ble_eq_true rfl) dX9_worth_31 ⟨Nat.zero_le _, Nat.zero_le _⟩ (fun H locs hP hD hS => ?_)
      refine lv_aload_n hx hb dX9_worth_34 rfl (lv_at hl 0 rfl) ?_
      refine lv_aload_n hx hb dX9_worth_35 rfl (lv_at hl 0 rfl) ?_
      refine va_get (D := (dC, dI)) (ci := 9) (v := .ref qz_s) (C := RX9) (T := TX9) (N := 32) hx hb hw inlX9 hown hK hP 0 rfl rfl 12 (by decide) (hw _ mw_6_3) (fun _ h9 => h9) rfl dX9_worth_36 ?_
      refine lv_bipush (v := (9 : Int32)) hx hb dX9_worth_39 (by decide) ?_
      refine va_iald hx hb hK hP 4 0 rfl rfl (pg_lit (by decide)) dX9_worth_41 ?_
      refine lv_iload_n hx hb dX9_worth_42 rfl (lv_at hl 1 rfl) ?_
      refine lv_iconst (v := (-1 : Int32)) hx hb dX9_worth_43 (by decide) ?_
      refine lv_iconst (v := (0 : Int32)) hx hb dX9_worth_44 (by decide) ?_
      obtain ⟨r_4, z_eaten_4, z_bestMinutes_4, z_bestOats_4, z_w_4, z_at_4, z_pulled_4, z_best_4, hc, hf⟩ := bn8_s hf
      refine pg_cVi (As := [.int (z_s ((9 : Int32)).toNatClampNeg), .int n1, .int (-1 : Int32), .int (0 : Int32)]) (rest := []) (wf := (W_X9z cI cZ cII qz qz_text qz_t qz_draft qz_s qz_kept qz_isKept qz_times qz_w qz_at qz_pulled qz_best qz_cartRow qz_tryRow qz_pairs qz_from qz_then qz_tryAt (0 : Int32) z_typed z_next z_token z_place z_value z_figures z_fault z_faultAt z_timeMany z_eaten_4 z_half z_bestMinutes_4 z_bestOats_4 z_isDue z_text z_t z_draft z_s z_kept z_isKept z_times z_w_4 z_at_4 z_pulled_4 z_best_4 z_cartRow z_tryRow z_pairs z_from_3 z_then z_tryAt)) ⟨hx, hb, hml, hown, hw⟩ (c_X9_finds l dC dI cI cZ cII qz qz_text qz_t qz_draft qz_s qz_kept qz_isKept qz_times qz_w qz_at qz_pulled qz_best qz_cartRow qz_tryRow qz_pairs qz_from qz_then qz_tryAt H.size (0 : Int32) z_typed z_next z_token z_place z_value z_figures z_fault z_faultAt z_timeMany z_eaten z_half z_bestMinutes z_bestOats z_isDue z_text z_t z_draft z_s z_kept z_isKept z_times z_w z_at z_pulled z_best z_cartRow z_tryRow z_pairs z_from_3 z_then z_tryAt (z_s ((9 : Int32)).toNatClampNeg) n1 (-1 : Int32) (0 : Int32) r_4 z_eaten_4 z_bestMinutes_4 z_bestOats_4 z_w_4 z_at_4 z_pulled_4 z_best_4 hc) (cwV 4 hts (wM_V mw_35_20 mw_35_21 mw_35_22 mw_1_5 mw_35_23) rfl rfl rfl dk_X9_finds ⟨Nat.le_of_ble_eq_true rfl, Nat.le_of_ble_eq_true rfl⟩) hK hP hD hS hA 9 0 rfl rfl rfl [0, 1, 2, 3, 4, 5, 6, 7, 8, 9, 10, 11, 12, 13, 14, 15, 16, 17] [] [0, 1, 2, 3, 4, 5, 6, 7, 8, 9, 10, 11, 12, 13, 14, 15, 16, 17] (plC_64 cI cZ cII qz qz_text qz_t qz_draft qz_s qz_kept qz_isKept qz_times qz_w qz_at qz_pulled qz_best qz_cartRow qz_tryRow qz_pairs qz_from qz_then qz_tryAt (0 : Int32) z_typed z_next z_token z_place z_value z_figures z_fault z_faultAt z_timeMany z_eaten z_half z_bestMinutes z_bestOats z_isDue z_text z_t z_draft z_s z_kept z_isKept z_times z_w z_at z_pulled z_best z_cartRow z_tryRow z_pairs z_from_3 z_then z_tryAt) rfl (plF_64 cI cZ cII qz qz_text qz_t qz_draft qz_s qz_kept qz_isKept qz_times qz_w qz_at qz_pulled qz_best qz_cartRow qz_tryRow qz_pairs qz_from qz_then qz_tryAt (0 : Int32) z_typed z_next z_token z_place z_value z_figures z_fault z_faultAt z_timeMany z_eaten z_half z_bestMinutes z_bestOats z_isDue z_text z_t z_draft z_s z_kept z_isKept z_times z_w z_at z_pulled z_best z_cartRow z_tryRow z_pairs z_from_3 z_then z_tryAt (0 : Int32) z_typed z_next z_token z_place z_value z_figures z_fault z_faultAt z_timeMany z_eaten_4 z_half z_bestMinutes_4 z_bestOats_4 z_isDue z_text z_t z_draft z_s z_kept z_isKept z_times z_w_4 z_at_4 z_pulled_4 z_best_4 z_cartRow z_tryRow z_pairs z_from_3 z_then z_tryAt) (by decide) rfl hl.1 rfl (Nat.le_of_ble_eq_true rfl) dX9_worth_45 ⟨Nat.zero_le _, Nat.zero_le _⟩ (fun H locs hP hD hS => ?_)
      obtain ⟨J60_5, hJ60_5, hf⟩ := jn1_s hf
      have WJ60_5 : ∀ (z0_5 : Int32) (H : Heap) (locs : List Loc) (ls : Array Slot), va_P (dC, dI) vwCl (W_X9z cI cZ cII qz qz_text qz_t qz_draft qz_s qz_kept qz_isKept qz_times qz_w qz_at qz_pulled qz_best qz_cartRow qz_tryRow qz_pairs qz_from qz_then qz_tryAt (0 : Int32) z_typed z_next z_token z_place z_value z_figures z_fault z_faultAt z_timeMany z_eaten_4 z_half z_bestMinutes_4 z_bestOats_4 z_isDue z_text z_t z_draft z_s z_kept z_isKept z_times z_w_4 z_at_4 z_pulled_4 z_best_4 z_cartRow z_tryRow z_pairs z_from_3 z_then z_tryAt) H → va_D A (W_X9z cI cZ cII qz qz_text qz_t qz_draft qz_s qz_kept qz_isKept qz_times qz_w qz_at qz_pulled qz_best qz_cartRow qz_tryRow qz_pairs qz_from qz_then qz_tryAt (0 : Int32) z_typed z_next z_token z_place z_value z_figures z_fault z_faultAt z_timeMany z_eaten_4 z_half z_bestMinutes_4 z_bestOats_4 z_isDue z_text z_t z_draft z_s z_kept z_isKept z_times z_w_4 z_at_4 z_pulled_4 z_best_4 z_cartRow z_tryRow z_pairs z_from_3 z_then z_tryAt) → va_S A s.heap H locs → lv_has ls 5 [(0, .ref qz), (1, .int n1), (2, .int n2)] → J60_5 z0_5 = some (rr, z_thrown', z_eaten', z_bestMinutes', z_bestOats', z_w', z_at', z_pulled', z_best', z_from') → W p l e rm_X9_worth s m args below meth c H locs 0 0 Q (F0 m 60 ls [.int z0_5]) := by
        intro z0_5 H locs ls hP hD hS hl hf
        have hf := hJ60_5 _ hf
        refine lv_istore_n (lv' := [(3, .int z0_5), (0, .ref qz), (1, .int n1), (2, .int n2)]) hx hb dX9_worth_60 rfl hl (by decide) rfl (fun ls hl => ?_)
        refine lv_aload_n hx hb dX9_worth_61 rfl (lv_at hl 1 rfl) ?_
        refine lv_aload_n hx hb dX9_worth_62 rfl (lv_at hl 1 rfl) ?_
        refine va_get (D := (dC, dI)) (ci := 9) (v := .ref qz_s) (C := RX9) (T := TX9) (N := 32) hx hb hw inlX9 hown hK hP 0 rfl rfl 12 (by decide) (hw _ mw_6_3) (fun _ h9 => h9) rfl dX9_worth_63 ?_
        refine lv_bipush (v := (9 : Int32)) hx hb dX9_worth_66 (by decide) ?_
        refine va_iald hx hb hK hP 4 0 rfl rfl (pg_lit (by decide)) dX9_worth_68 ?_
        refine lv_iload_n hx hb dX9_worth_69 rfl (lv_at hl 2 rfl) ?_
        refine lv_iload_n hx hb dX9_worth_70 rfl (lv_at hl 3 rfl) ?_
        refine lv_iconst (v := (0 : Int32)) hx hb dX9_worth_71 (by decide) ?_
        obtain ⟨r_6, z_eaten_6, z_bestMinutes_6, z_bestOats_6, z_w_6, z_at_6, z_pulled_6, z_best_6, hc, hf⟩ := bn8_s hf
        refine pg_cVi (As := [.int (z_s ((9 : Int32)).toNatClampNeg), .int n1, .int n2, .int (0 : Int32)]) (rest := []) (wf := (W_X9z cI cZ cII qz qz_text qz_t qz_draft qz_s qz_kept qz_isKept qz_times qz_w qz_at qz_pulled qz_best qz_cartRow qz_tryRow qz_pairs qz_from qz_then qz_tryAt (0 : Int32) z_typed z_next z_token z_place z_value z_figures z_fault z_faultAt z_timeMany z_eaten_6 z_half z_bestMinutes_6 z_bestOats_6 z_isDue z_text z_t z_draft z_s z_kept z_isKept z_times z_w_6 z_at_6 z_pulled_6 z_best_6 z_cartRow z_tryRow z_pairs z_from_3 z_then z_tryAt)) ⟨hx, hb, hml, hown, hw⟩ (c_X9_finds l dC dI cI cZ cII qz qz_text qz_t qz_draft qz_s qz_kept qz_isKept qz_times qz_w qz_at qz_pulled qz_best qz_cartRow qz_tryRow qz_pairs qz_from qz_then qz_tryAt H.size (0 : Int32) z_typed z_next z_token z_place z_value z_figures z_fault z_faultAt z_timeMany z_eaten_4 z_half z_bestMinutes_4 z_bestOats_4 z_isDue z_text z_t z_draft z_s z_kept z_isKept z_times z_w_4 z_at_4 z_pulled_4 z_best_4 z_cartRow z_tryRow z_pairs z_from_3 z_then z_tryAt (z_s ((9 : Int32)).toNatClampNeg) n1 n2 (0 : Int32) r_6 z_eaten_6 z_bestMinutes_6 z_bestOats_6 z_w_6 z_at_6 z_pulled_6 z_best_6 hc) (cwV 4 hts (wM_V mw_35_20 mw_35_21 mw_35_22 mw_1_5 mw_35_23) rfl rfl rfl dk_X9_finds ⟨Nat.le_of_ble_eq_true rfl, Nat.le_of_ble_eq_true rfl⟩) hK hP hD hS hA 9 0 rfl rfl rfl [0, 1, 2, 3, 4, 5, 6, 7, 8, 9, 10, 11, 12, 13, 14, 15, 16, 17] [] [0, 1, 2, 3, 4, 5, 6, 7, 8, 9, 10, 11, 12, 13, 14, 15, 16, 17] (plC_64 cI cZ cII qz qz_text qz_t qz_draft qz_s qz_kept qz_isKept qz_times qz_w qz_at qz_pulled qz_best qz_cartRow qz_tryRow qz_pairs qz_from qz_then qz_tryAt (0 : Int32) z_typed z_next z_token z_place z_value z_figures z_fault z_faultAt z_timeMany z_eaten_4 z_half z_bestMinutes_4 z_bestOats_4 z_isDue z_text z_t z_draft z_s z_kept z_isKept z_times z_w_4 z_at_4 z_pulled_4 z_best_4 z_cartRow z_tryRow z_pairs z_from_3 z_then z_tryAt) rfl (plF_64 cI cZ cII qz qz_text qz_t qz_draft qz_s qz_kept qz_isKept qz_times qz_w qz_at qz_pulled qz_best qz_cartRow qz_tryRow qz_pairs qz_from qz_then qz_tryAt (0 : Int32) z_typed z_next z_token z_place z_value z_figures z_fault z_faultAt z_timeMany z_eaten_4 z_half z_bestMinutes_4 z_bestOats_4 z_isDue z_text z_t z_draft z_s z_kept z_isKept z_times z_w_4 z_at_4 z_pulled_4 z_best_4 z_cartRow z_tryRow z_pairs z_from_3 z_then z_tryAt (0 : Int32) z_typed z_next z_token z_place z_value z_figures z_fault z_faultAt z_timeMany z_eaten_6 z_half z_bestMinutes_6 z_bestOats_6 z_isDue z_text z_t z_draft z_s z_kept z_isKept z_times z_w_6 z_at_6 z_pulled_6 z_best_6 z_cartRow z_tryRow z_pairs z_from_3 z_then z_tryAt) (by decide) rfl hl.1 rfl (Nat.le_of_ble_eq_true rfl) dX9_worth_72 ⟨Nat.zero_le _, Nat.zero_le _⟩ (fun H locs hP hD hS => ?_)
        obtain ⟨J87_7, hJ87_7, hf⟩ := jn1_s hf
        have WJ87_7 : ∀ (z0_7 : Int32) (H : Heap) (locs : List Loc) (ls : Array Slot), va_P (dC, dI) vwCl (W_X9z cI cZ cII qz qz_text qz_t qz_draft qz_s qz_kept qz_isKept qz_times qz_w qz_at qz_pulled qz_best qz_cartRow qz_tryRow qz_pairs qz_from qz_then qz_tryAt (0 : Int32) z_typed z_next z_token z_place z_value z_figures z_fault z_faultAt z_timeMany z_eaten_6 z_half z_bestMinutes_6 z_bestOats_6 z_isDue z_text z_t z_draft z_s z_kept z_isKept z_times z_w_6 z_at_6 z_pulled_6 z_best_6 z_cartRow z_tryRow z_pairs z_from_3 z_then z_tryAt) H → va_D A (W_X9z cI cZ cII qz qz_text qz_t qz_draft qz_s qz_kept qz_isKept qz_times qz_w qz_at qz_pulled qz_best qz_cartRow qz_tryRow qz_pairs qz_from qz_then qz_tryAt (0 : Int32) z_typed z_next z_token z_place z_value z_figures z_fault z_faultAt z_timeMany z_eaten_6 z_half z_bestMinutes_6 z_bestOats_6 z_isDue z_text z_t z_draft z_s z_kept z_isKept z_times z_w_6 z_at_6 z_pulled_6 z_best_6 z_cartRow z_tryRow z_pairs z_from_3 z_then z_tryAt) → va_S A s.heap H locs → lv_has ls 5 [(3, .int z0_5)] → J87_7 z0_7 = some (rr, z_thrown', z_eaten', z_bestMinutes', z_bestOats', z_w', z_at', z_pulled', z_best', z_from') → W p l e rm_X9_worth s m args below meth c H locs 0 0 Q (F0 m 87 ls [.int z0_7]) := by
          intro z0_7 H locs ls hP hD hS hl hf
          have hf := hJ87_7 _ hf
          refine lv_istore (lv' := [(4, .int z0_7), (3, .int z0_5)]) hx hb dX9_worth_87 hl (by decide) rfl (fun ls hl => ?_)
          refine lv_iload hx hb dX9_worth_89 (lv_at hl 0 rfl) ?_
          refine lv_iload_n hx hb dX9_worth_91 rfl (lv_at hl 1 rfl) ?_
          refine lv_isub hx hb dX9_worth_92 ?_
          exact RET _ _ _ _ _ _ _ _ _ _ _ _ _ _ dX9_worth_93 hP hD hS hf
        refine lv_if_eq (tgt := 85) hx hb dX9_worth_75 (by decide) (fun h9 => ?_) (fun h9 => ?_)
        · have hf := pg_t h9 hf
          refine lv_bipush (v := (121 : Int32)) hx hb dX9_worth_85 (by decide) ?_
          exact WJ87_7 _ _ _ _ hP hD hS (lv_sub hl [0] rfl) hf
        · have hf := pg_f h9 hf
          refine lv_aload_n hx hb dX9_worth_78 rfl (lv_at hl 1 rfl) ?_
          refine va_get (D := (dC, dI)) (ci := 9) (v := .int z_bestMinutes_6) (C := RX9) (T := TX9) (N := 32) hx hb hw inlX9 hown hK hP 0 rfl rfl 23 (by decide) (hw _ mw_35_10) (fun _ h9 => h9) rfl dX9_worth_79 ?_
          refine lv_goto (tgt := 87) hx hb dX9_worth_82 (by decide) ?_
          exact WJ87_7 _ _ _ _ hP hD hS (lv_sub hl [0] rfl) hf
      refine lv_if_eq (tgt := 58) hx hb dX9_worth_48 (by decide) (fun h9 => ?_) (fun h9 => ?_)
      · have hf := pg_t h9 hf
        refine lv_bipush (v := (121 : Int32)) hx hb dX9_worth_58 (by decide) ?_
        exact WJ60_5 _ _ _ _ hP hD hS hl hf
      · have hf := pg_f h9 hf
        refine lv_aload_n hx hb dX9_worth_51 rfl (lv_at hl 0 rfl) ?_
        refine va_get (D := (dC, dI)) (ci := 9) (v := .int z_bestMinutes_4) (C := RX9) (T := TX9) (N := 32) hx hb hw inlX9 hown hK hP 0 rfl rfl 23 (by decide) (hw _ mw_35_10) (fun _ h9 => h9) rfl dX9_worth_52 ?_
        refine lv_goto (tgt := 60) hx hb dX9_worth_55 (by decide) ?_
        exact WJ60_5 _ _ _ _ hP hD hS hl hf
    · have hf := pg_t h9 hf
      refine lv_ldc (v := (-1000000002 : Int32)) hx hb hown (hw _ mw_7_20) dX9_worth_27 ?_
      exact RET _ _ _ _ _ _ _ _ _ _ _ _ _ _ dX9_worth_29 hP hD hS hf
  · have hf := pg_t h9 hf
    refine lv_ldc (v := (-1000000001 : Int32)) hx hb hown (hw _ mw_25_12) dX9_worth_13 ?_
    exact RET _ _ _ _ _ _ _ _ _ _ _ _ _ _ dX9_worth_15 hP hD hS hf
def f_X9_isRow (n1 : Int32) (n2 : Int32) (z_t : Nat → Int32) (z_tryRow : Nat → Int32) : Option (Int32 × (Nat → Int32)) :=
  jn1 (fun (z_tryRow_1 : Nat → Int32) =>
    jn1 (fun (z_tryRow_2 : Nat → Int32) =>
      jn1 (fun (y4_3 : Int32) =>
        if y4_3 = 0 ∨ y4_3 = 1 then
        some (y4_3, z_tryRow_2)
        else none
      ) (fun K101_3 =>
      lq2 (fun rec4 (y4_4 : Int32) (y5_4 : Int32) =>
        if n2 ≤ y5_4 then
          K101_3 y4_4
        else
          jn1 (fun (z0_5 : Int32) =>
            rec4 z0_5 (y5_4 + (1 : Int32))
          ) (fun J93_5 =>
          jn1 (fun (u_6 : Unit) =>
            J93_5 (0 : Int32)
          ) (fun J92_6 =>
          if y4_4 = 0 then
            J92_6 ()
          else
            if y5_4 < 0 ∨ 4 ≤ (y5_4).toNatClampNeg then none else
            if (z_tryRow_2 (y5_4).toNatClampNeg) = 0 then
              J92_6 ()
            else
              J93_5 (1 : Int32)
          )
          )
      ) fu (1 : Int32) (0 : Int32)
      )
    ) (fun K61_2 =>
    lq3 (fun rec8 (y3_8 : Int32) (y4_8 : Int32) (z_tryRow_8 : Nat → Int32) =>
      if (z_t ((4 : Int32)).toNatClampNeg) ≤ y4_8 then
        K61_2 z_tryRow_8
      else
        if n2 = 0 then none else
        if (y3_8 - y3_8 / n2 * n2) < 0 ∨ 4 ≤ ((y3_8 - y3_8 / n2 * n2)).toNatClampNeg then none else
        rec8 (y3_8 / n2) (y4_8 + (1 : Int32)) (upd z_tryRow_8 ((y3_8 - y3_8 / n2 * n2)).toNatClampNeg ((z_tryRow_8 ((y3_8 - y3_8 / n2 * n2)).toNatClampNeg) ||| ((1 : Int32) <<< (y4_8 &&& 31))))
    ) fu n1 (0 : Int32) z_tryRow_1
    )
  ) (fun K20_1 =>
  lq2 (fun rec11 (y3_11 : Int32) (z_tryRow_11 : Nat → Int32) =>
    if n2 ≤ y3_11 then
      K20_1 z_tryRow_11
    else
      if y3_11 < 0 ∨ 4 ≤ (y3_11).toNatClampNeg then none else
      rec11 (y3_11 + (1 : Int32)) (upd z_tryRow_11 (y3_11).toNatClampNeg (0 : Int32))
  ) fu (0 : Int32) z_tryRow
  )
abbrev rm_X9_isRow : Room := { frames := 0, cells := 0, slots := 0, locals := 0 }
theorem dk_X9_isRow : yX9_isRow.cls = RX9 ∧ yX9_isRow.cls ≠ "java/lang/invoke/MethodHandle" ∧ yX9_isRow.cls ≠ "java/lang/invoke/VarHandle" ∧ (parseMethodDescriptor yX9_isRow.desc).map (fun d => d.parameters.length) = some 2 := by decide +kernel
set_option maxHeartbeats 4000000 in
set_option maxRecDepth 100000 in
theorem c_X9_isRow (l : Launch) (dC : Nat → ClassId) (dI : Nat → Nat → Nat) (cI cZ cII : ClassId) (qz qz_text qz_t qz_draft qz_s qz_kept qz_isKept qz_times qz_w qz_at qz_pulled qz_best qz_cartRow qz_tryRow qz_pairs qz_from qz_then qz_tryAt : Nat) (sz : Nat) (z_thrown : Int32) (z_typed : Int32) (z_next : Int32) (z_token : Int32) (z_place : Int32) (z_value : Int32) (z_figures : Int32) (z_fault : Int32) (z_faultAt : Int32) (z_timeMany : Int32) (z_eaten : Int32) (z_half : Int32) (z_bestMinutes : Int32) (z_bestOats : Int32) (z_isDue : Int32) (z_text : Nat → Int32) (z_t : Nat → Int32) (z_draft : Nat → Int32) (z_s : Nat → Int32) (z_kept : Nat → Int32) (z_isKept : Nat → Int32) (z_times : Nat → Int32) (z_w : Nat → Int32) (z_at : Nat → Int32) (z_pulled : Nat → Int32) (z_best : Nat → Int32) (z_cartRow : Nat → Int32) (z_tryRow : Nat → Int32) (z_pairs : Nat → Int32) (z_from : Nat → Int32) (z_then : Nat → Int32) (z_tryAt : Nat → Int32) (n1 : Int32) (n2 : Int32) (rr : Int32) (z_tryRow' : Nat → Int32) (hf : f_X9_isRow n1 n2 z_t z_tryRow = some (rr, z_tryRow')) : Met l yX9_isRow (wM yX9_isRow cX9_isRow 6 (some .boolean)) rm_X9_isRow (PreW (dC, dI) (tyA cI cZ cII) (W_X9z cI cZ cII qz qz_text qz_t qz_draft qz_s qz_kept qz_isKept qz_times qz_w qz_at qz_pulled qz_best qz_cartRow qz_tryRow qz_pairs qz_from qz_then qz_tryAt z_thrown z_typed z_next z_token z_place z_value z_figures z_fault z_faultAt z_timeMany z_eaten z_half z_bestMinutes z_bestOats z_isDue z_text z_t z_draft z_s z_kept z_isKept z_times z_w z_at z_pulled z_best z_cartRow z_tryRow z_pairs z_from z_then z_tryAt) sz [.ref qz, .int n1, .int n2]) (PostI (dC, dI) (tyA cI cZ cII) rr (W_X9z cI cZ cII qz qz_text qz_t qz_draft qz_s qz_kept qz_isKept qz_times qz_w qz_at qz_pulled qz_best qz_cartRow qz_tryRow qz_pairs qz_from qz_then qz_tryAt z_thrown z_typed z_next z_token z_place z_value z_figures z_fault z_faultAt z_timeMany z_eaten z_half z_bestMinutes z_bestOats z_isDue z_text z_t z_draft z_s z_kept z_isKept z_times z_w z_at z_pulled z_best z_cartRow z_tryRow z_pairs z_from z_then z_tryAt) (W_X9z cI cZ cII qz qz_text qz_t qz_draft qz_s qz_kept qz_isKept qz_times qz_w qz_at qz_pulled qz_best qz_cartRow qz_tryRow qz_pairs qz_from qz_then qz_tryAt z_thrown z_typed z_next z_token z_place z_value z_figures z_fault z_faultAt z_timeMany z_eaten z_half z_bestMinutes z_bestOats z_isDue z_text z_t z_draft z_s z_kept z_isKept z_times z_w z_at z_pulled z_best z_cartRow z_tryRow' z_pairs z_from z_then z_tryAt) sz) 0 0 (va_A (W_X9z cI cZ cII qz qz_text qz_t qz_draft qz_s qz_kept qz_isKept qz_times qz_w qz_at qz_pulled qz_best qz_cartRow qz_tryRow qz_pairs qz_from qz_then qz_tryAt z_thrown z_typed z_next z_token z_place z_value z_figures z_fault z_faultAt z_timeMany z_eaten z_half z_bestMinutes z_bestOats z_isDue z_text z_t z_draft z_s z_kept z_isKept z_times z_w z_at z_pulled z_best z_cartRow z_tryRow z_pairs z_from z_then z_tryAt) sz) := by
  refine Met.ofW (cc := cX9_isRow) (maxL := 6) (ret := (some .boolean)) (by decide) rfl ?_
  intro p e s m args below meth c s₁ B hml hv
  obtain ⟨rfl, hsz, hP, hK, hD0⟩ := hv
  have hx := B.exec
  have hb := B.bytes
  have hr := B.returns
  have hts := atoms_spec (ws := wM yX9_isRow cX9_isRow 6 (some .boolean)) B.pre
  have hown : s.vm.findClass RX9 = some m.cls := findClass_of_methodNamed B.named
  have hlocks := B.notSynchronized
  subst hsz
  have hD := hD0.self (sz := s.heap.size)
  obtain ⟨A, hAe⟩ : ∃ A, A = va_A (W_X9z cI cZ cII qz qz_text qz_t qz_draft qz_s qz_kept qz_isKept qz_times qz_w qz_at qz_pulled qz_best qz_cartRow qz_tryRow qz_pairs qz_from qz_then qz_tryAt z_thrown z_typed z_next z_token z_place z_value z_figures z_fault z_faultAt z_timeMany z_eaten z_half z_bestMinutes z_bestOats z_isDue z_text z_t z_draft z_s z_kept z_isKept z_times z_w z_at z_pulled z_best z_cartRow z_tryRow z_pairs z_from z_then z_tryAt) s.heap.size := ⟨_, rfl⟩
  rw [← hAe] at hD
  have hA : ∀ q : Nat, s.heap.size ≤ q → A q := fun q h => by rw [hAe]; exact Or.inr h
  have hS : va_S A s.heap s.heap [] := va_S.rf
  have hl := lv_entry ([.ref qz, .int n1, .int n2]) (n := 6) (Nat.le_of_ble_eq_true rfl)
  rw [lg_entry_eq]
  generalize (lg_sl ([.ref qz, .int n1, .int n2]) ++ List.replicate (6 - (lg_sl ([.ref qz, .int n1, .int n2])).length) Slot.unset).toArray = ls at hl ⊢
  have hl : lv_has ls 6 [(0, .ref qz), (1, .int n1), (2, .int n2)] := hl
  generalize ([.ref qz, .int n1, .int n2] : List Value).toArray = args at hts ⊢
  have hw : ∀ w ∈ wsL_law, w.before args s = true := fun w h => hts w (List.mem_cons_of_mem _ h)
  refine pg_start (fun Q hQ => ?_)
  have RET : ∀ (H : Heap) (locs : List Loc) (ls : Array Slot) (pc : Nat) (v : Int32) (x0 : Nat → Int32) , decode cX9_isRow pc = .ok (.ireturn, 1) → (v = 0 ∨ v = 1) → va_P (dC, dI) vwCl (W_X9z cI cZ cII qz qz_text qz_t qz_draft qz_s qz_kept qz_isKept qz_times qz_w qz_at qz_pulled qz_best qz_cartRow qz_tryRow qz_pairs qz_from qz_then qz_tryAt z_thrown z_typed z_next z_token z_place z_value z_figures z_fault z_faultAt z_timeMany z_eaten z_half z_bestMinutes z_bestOats z_isDue z_text z_t z_draft z_s z_kept z_isKept z_times z_w z_at z_pulled z_best z_cartRow x0 z_pairs z_from z_then z_tryAt) H → va_D A (W_X9z cI cZ cII qz qz_text qz_t qz_draft qz_s qz_kept qz_isKept qz_times qz_w qz_at qz_pulled qz_best qz_cartRow qz_tryRow qz_pairs qz_from qz_then qz_tryAt z_thrown z_typed z_next z_token z_place z_value z_figures z_fault z_faultAt z_timeMany z_eaten z_half z_bestMinutes z_bestOats z_isDue z_text z_t z_draft z_s z_kept z_isKept z_times z_w z_at z_pulled z_best z_cartRow x0 z_pairs z_from z_then z_tryAt) → va_S A s.heap H locs → (some (v, x0) : Option (Int32 × (Nat → Int32))) = some (rr, z_tryRow') → W p l e rm_X9_isRow s m args below meth c H locs 0 0 Q (F0 m pc ls [.int v]) := by
    intro H locs ls pc v x0 hd hz hP hD hS he
    subst hAe; subst hQ
    simp only [Option.some.injEq, Prod.mk.injEq] at he
    obtain ⟨rfl, rfl⟩ := he
    exact pg_zret hx hb hr hlocks hz hK hP hD hS hd
  unfold f_X9_isRow at hf
  refine lv_iconst (v := (0 : Int32)) hx hb dX9_isRow_0 (by decide) ?_
  refine lv_istore_n (lv' := [(3, .int (0 : Int32)), (0, .ref qz), (1, .int n1), (2, .int n2)]) hx hb dX9_isRow_1 rfl hl (by decide) rfl (fun ls hl => ?_)
  obtain ⟨K20_1, hK20_1, hf⟩ := jn1_s hf
  have WK20_1 : ∀ (z_tryRow_1 : Nat → Int32) (H : Heap) (locs : List Loc) (ls : Array Slot), va_P (dC, dI) vwCl (W_X9z cI cZ cII qz qz_text qz_t qz_draft qz_s qz_kept qz_isKept qz_times qz_w qz_at qz_pulled qz_best qz_cartRow qz_tryRow qz_pairs qz_from qz_then qz_tryAt z_thrown z_typed z_next z_token z_place z_value z_figures z_fault z_faultAt z_timeMany z_eaten z_half z_bestMinutes z_bestOats z_isDue z_text z_t z_draft z_s z_kept z_isKept z_times z_w z_at z_pulled z_best z_cartRow z_tryRow_1 z_pairs z_from z_then z_tryAt) H → va_D A (W_X9z cI cZ cII qz qz_text qz_t qz_draft qz_s qz_kept qz_isKept qz_times qz_w qz_at qz_pulled qz_best qz_cartRow qz_tryRow qz_pairs qz_from qz_then qz_tryAt z_thrown z_typed z_next z_token z_place z_value z_figures z_fault z_faultAt z_timeMany z_eaten z_half z_bestMinutes z_bestOats z_isDue z_text z_t z_draft z_s z_kept z_isKept z_times z_w z_at z_pulled z_best z_cartRow z_tryRow_1 z_pairs z_from z_then z_tryAt) → va_S A s.heap H locs → lv_has ls 6 [(0, .ref qz), (1, .int n1), (2, .int n2)] → K20_1 z_tryRow_1 = some (rr, z_tryRow') → W p l e rm_X9_isRow s m args below meth c H locs 0 0 Q (F0 m 20 ls []) := by
    intro z_tryRow_1 H locs ls hP hD hS hl hf
    have hf := hK20_1 _ hf
    refine lv_iload_n hx hb dX9_isRow_20 rfl (lv_at hl 1 rfl) ?_
    refine lv_istore_n (lv' := [(3, .int n1), (0, .ref qz), (1, .int n1), (2, .int n2)]) hx hb dX9_isRow_21 rfl hl (by decide) rfl (fun ls hl => ?_)
    refine lv_iconst (v := (0 : Int32)) hx hb dX9_isRow_22 (by decide) ?_
    refine lv_istore (lv' := [(4, .int (0 : Int32)), (3, .int n1), (0, .ref qz), (1, .int n1), (2, .int n2)]) hx hb dX9_isRow_23 hl (by decide) rfl (fun ls hl => ?_)
    obtain ⟨K61_2, hK61_2, hf⟩ := jn1_s hf
    have WK61_2 : ∀ (z_tryRow_2 : Nat → Int32) (H : Heap) (locs : List Loc) (ls : Array Slot), va_P (dC, dI) vwCl (W_X9z cI cZ cII qz qz_text qz_t qz_draft qz_s qz_kept qz_isKept qz_times qz_w qz_at qz_pulled qz_best qz_cartRow qz_tryRow qz_pairs qz_from qz_then qz_tryAt z_thrown z_typed z_next z_token z_place z_value z_figures z_fault z_faultAt z_timeMany z_eaten z_half z_bestMinutes z_bestOats z_isDue z_text z_t z_draft z_s z_kept z_isKept z_times z_w z_at z_pulled z_best z_cartRow z_tryRow_2 z_pairs z_from z_then z_tryAt) H → va_D A (W_X9z cI cZ cII qz qz_text qz_t qz_draft qz_s qz_kept qz_isKept qz_times qz_w qz_at qz_pulled qz_best qz_cartRow qz_tryRow qz_pairs qz_from qz_then qz_tryAt z_thrown z_typed z_next z_token z_place z_value z_figures z_fault z_faultAt z_timeMany z_eaten z_half z_bestMinutes z_bestOats z_isDue z_text z_t z_draft z_s z_kept z_isKept z_times z_w z_at z_pulled z_best z_cartRow z_tryRow_2 z_pairs z_from z_then z_tryAt) → va_S A s.heap H locs → lv_has ls 6 [(0, .ref qz), (2, .int n2)] → K61_2 z_tryRow_2 = some (rr, z_tryRow') → W p l e rm_X9_isRow s m args below meth c H locs 0 0 Q (F0 m 61 ls []) := by
      intro z_tryRow_2 H locs ls hP hD hS hl hf
      have hf := hK61_2 _ hf
      refine lv_iconst (v := (1 : Int32)) hx hb dX9_isRow_61 (by decide) ?_
      refine lv_istore (lv' := [(4, .int (1 : Int32)), (0, .ref qz), (2, .int n2)]) hx hb dX9_isRow_62 hl (by decide) rfl (fun ls hl => ?_)
      refine lv_iconst (v := (0 : Int32)) hx hb dX9_isRow_64 (by decide) ?_
      refine lv_istore (lv' := [(5, .int (0 : Int32)), (4, .int (1 : Int32)), (0, .ref qz), (2, .int n2)]) hx hb dX9_isRow_65 hl (by decide) rfl (fun ls hl => ?_)
      obtain ⟨K101_3, hK101_3, hf⟩ := jn1_s hf
      have WK101_3 : ∀ (y4_3 : Int32) (H : Heap) (locs : List Loc) (ls : Array Slot), va_P (dC, dI) vwCl (W_X9z cI cZ cII qz qz_text qz_t qz_draft qz_s qz_kept qz_isKept qz_times qz_w qz_at qz_pulled qz_best qz_cartRow qz_tryRow qz_pairs qz_from qz_then qz_tryAt z_thrown z_typed z_next z_token z_place z_value z_figures z_fault z_faultAt z_timeMany z_eaten z_half z_bestMinutes z_bestOats z_isDue z_text z_t z_draft z_s z_kept z_isKept z_times z_w z_at z_pulled z_best z_cartRow z_tryRow_2 z_pairs z_from z_then z_tryAt) H → va_D A (W_X9z cI cZ cII qz qz_text qz_t qz_draft qz_s qz_kept qz_isKept qz_times qz_w qz_at qz_pulled qz_best qz_cartRow qz_tryRow qz_pairs qz_from qz_then qz_tryAt z_thrown z_typed z_next z_token z_place z_value z_figures z_fault z_faultAt z_timeMany z_eaten z_half z_bestMinutes z_bestOats z_isDue z_text z_t z_draft z_s z_kept z_isKept z_times z_w z_at z_pulled z_best z_cartRow z_tryRow_2 z_pairs z_from z_then z_tryAt) → va_S A s.heap H locs → lv_has ls 6 [(4, .int y4_3)] → K101_3 y4_3 = some (rr, z_tryRow') → W p l e rm_X9_isRow s m args below meth c H locs 0 0 Q (F0 m 101 ls []) := by
        intro y4_3 H locs ls hP hD hS hl hf
        have hf := hK101_3 _ hf
        refine lv_iload hx hb dX9_isRow_101 (lv_at hl 0 rfl) ?_
        obtain ⟨h8, hf⟩ := pg_chq hf
        exact RET _ _ _ _ _ _ dX9_isRow_103 h8 hP hD hS hf
      obtain ⟨B4, hB4, hf⟩ := lq2_n hf
      have WL4 : ∀ (n9 : Nat) (y4_4 : Int32) (y5_4 : Int32) (H : Heap) (locs : List Loc) (ls : Array Slot), va_P (dC, dI) vwCl (W_X9z cI cZ cII qz qz_text qz_t qz_draft qz_s qz_kept qz_isKept qz_times qz_w qz_at qz_pulled qz_best qz_cartRow qz_tryRow qz_pairs qz_from qz_then qz_tryAt z_thrown z_typed z_next z_token z_place z_value z_figures z_fault z_faultAt z_timeMany z_eaten z_half z_bestMinutes z_bestOats z_isDue z_text z_t z_draft z_s z_kept z_isKept z_times z_w z_at z_pulled z_best z_cartRow z_tryRow_2 z_pairs z_from z_then z_tryAt) H → va_D A (W_X9z cI cZ cII qz qz_text qz_t qz_draft qz_s qz_kept qz_isKept qz_times qz_w qz_at qz_pulled qz_best qz_cartRow qz_tryRow qz_pairs qz_from qz_then qz_tryAt z_thrown z_typed z_next z_token z_place z_value z_figures z_fault z_faultAt z_timeMany z_eaten z_half z_bestMinutes z_bestOats z_isDue z_text z_t z_draft z_s z_kept z_isKept z_times z_w z_at z_pulled z_best z_cartRow z_tryRow_2 z_pairs z_from z_then z_tryAt) → va_S A s.heap H locs → lv_has ls 6 [(0, .ref qz), (2, .int n2), (4, .int y4_4), (5, .int y5_4)] → lq2 B4 n9 y4_4 y5_4 = some (rr, z_tryRow') → W p l e rm_X9_isRow s m args below meth c H locs 0 0 Q (F0 m 67 ls []) := by
        intro n9
        induction n9 with
        | zero => intro y4_4 y5_4 H locs ls hP hD hS hl hf; cases hf
        | succ n9 ih =>
          intro y4_4 y5_4 H locs ls hP hD hS hl hf
          obtain ⟨rec4, hrec4, hf⟩ := lq2_s hf
          have hf := hB4 rec4 _ _ hf
          refine lv_iload hx hb dX9_isRow_67 (lv_at hl 3 rfl) ?_
          refine lv_iload_n hx hb dX9_isRow_69 rfl (lv_at hl 1 rfl) ?_
          refine lv_icmp_ge (tgt := 101) hx hb dX9_isRow_70 (by decide) (fun h9 => ?_) (fun h9 => ?_)
          · have hf := pg_t h9 hf
            exact WK101_3 _ _ _ _ hP hD hS (lv_sub hl [2] rfl) hf
          · have hf := pg_f h9 hf
            refine lv_iload hx hb dX9_isRow_73 (lv_at hl 2 rfl) ?_
            obtain ⟨J93_5, hJ93_5, hf⟩ := jn1_s hf
            have WJ93_5 : ∀ (z0_5 : Int32) (H : Heap) (locs : List Loc) (ls : Array Slot), va_P (dC, dI) vwCl (W_X9z cI cZ cII qz qz_text qz_t qz_draft qz_s qz_kept qz_isKept qz_times qz_w qz_at qz_pulled qz_best qz_cartRow qz_tryRow qz_pairs qz_from qz_then qz_tryAt z_thrown z_typed z_next z_token z_place z_value z_figures z_fault z_faultAt z_timeMany z_eaten z_half z_bestMinutes z_bestOats z_isDue z_text z_t z_draft z_s z_kept z_isKept z_times z_w z_at z_pulled z_best z_cartRow z_tryRow_2 z_pairs z_from z_then z_tryAt) H → va_D A (W_X9z cI cZ cII qz qz_text qz_t qz_draft qz_s qz_kept qz_isKept qz_times qz_w qz_at qz_pulled qz_best qz_cartRow qz_tryRow qz_pairs qz_from qz_then qz_tryAt z_thrown z_typed z_next z_token z_place z_value z_figures z_fault z_faultAt z_timeMany z_eaten z_half z_bestMinutes z_bestOats z_isDue z_text z_t z_draft z_s z_kept z_isKept z_times z_w z_at z_pulled z_best z_cartRow z_tryRow_2 z_pairs z_from z_then z_tryAt) → va_S A s.heap H locs → lv_has ls 6 [(0, .ref qz), (2, .int n2), (5, .int y5_4)] → J93_5 z0_5 = some (rr, z_tryRow') → W p l e rm_X9_isRow s m args below meth c H locs 0 0 Q (F0 m 93 ls [.int z0_5]) := by
              intro z0_5 H locs ls hP hD hS hl hf
              have hf := hJ93_5 _ hf
              refine lv_istore (lv' := [(4, .int z0_5), (0, .ref qz), (2, .int n2), (5, .int y5_4)]) hx hb dX9_isRow_93 hl (by decide) rfl (fun ls hl => ?_)
              refine lv_iinc (v := (y5_4 + (1 : Int32))) (lv' := [(5, .int (y5_4 + (1 : Int32))), (4, .int z0_5), (0, .ref qz), (2, .int n2)]) hx hb dX9_isRow_95 hl (k := 3) rfl rfl (by decide) rfl (fun ls hl => ?_)
              refine lv_goto (tgt := 67) hx hb dX9_isRow_98 (by decide) ?_
              exact ih _ _ _ _ _ hP hD hS (lv_sub hl [2, 3, 1, 0] rfl) (hrec4 _ _ hf)
            obtain ⟨J92_6, hJ92_6, hf⟩ := jn1_s hf
            have WJ92_6 : ∀ (u_6 : Unit) (H : Heap) (locs : List Loc) (ls : Array Slot), va_P (dC, dI) vwCl (W_X9z cI cZ cII qz qz_text qz_t qz_draft qz_s qz_kept qz_isKept qz_times qz_w qz_at qz_pulled qz_best qz_cartRow qz_tryRow qz_pairs qz_from qz_then qz_tryAt z_thrown z_typed z_next z_token z_place z_value z_figures z_fault z_faultAt z_timeMany z_eaten z_half z_bestMinutes z_bestOats z_isDue z_text z_t z_draft z_s z_kept z_isKept z_times z_w z_at z_pulled z_best z_cartRow z_tryRow_2 z_pairs z_from z_then z_tryAt) H → va_D A (W_X9z cI cZ cII qz qz_text qz_t qz_draft qz_s qz_kept qz_isKept qz_times qz_w qz_at qz_pulled qz_best qz_cartRow qz_tryRow qz_pairs qz_from qz_then qz_tryAt z_thrown z_typed z_next z_token z_place z_value z_figures z_fault z_faultAt z_timeMany z_eaten z_half z_bestMinutes z_bestOats z_isDue z_text z_t z_draft z_s z_kept z_isKept z_times z_w z_at z_pulled z_best z_cartRow z_tryRow_2 z_pairs z_from z_then z_tryAt) → va_S A s.heap H locs → lv_has ls 6 [(0, .ref qz), (2, .int n2), (5, .int y5_4)] → J92_6 u_6 = some (rr, z_tryRow') → W p l e rm_X9_isRow s m args below meth c H locs 0 0 Q (F0 m 92 ls []) := by
              intro u_6 H locs ls hP hD hS hl hf
              have hf := hJ92_6 _ hf
              refine lv_iconst (v := (0 : Int32)) hx hb dX9_isRow_92 (by decide) ?_
              exact WJ93_5 _ _ _ _ hP hD hS hl hf
            refine lv_if_eq (tgt := 92) hx hb dX9_isRow_75 (by decide) (fun h9 => ?_) (fun h9 => ?_)
            · have hf := pg_t h9 hf
              exact WJ92_6 _ _ _ _ hP hD hS (lv_sub hl [0, 1, 3] rfl) hf
            · have hf := pg_f h9 hf
              refine lv_aload_n hx hb dX9_isRow_78 rfl (lv_at hl 0 rfl) ?_
              refine va_get (D := (dC, dI)) (ci := 9) (v := .ref qz_tryRow) (C := RX9) (T := TX9) (N := 32) hx hb hw inlX9 hown hK hP 0 rfl rfl 26 (by decide) (hw _ mw_6_14) (fun _ h9 => h9) rfl dX9_isRow_79 ?_
              refine lv_iload hx hb dX9_isRow_82 (lv_at hl 3 rfl) ?_
              obtain ⟨hi7, hf⟩ := pg_chk hf
              refine va_iald hx hb hK hP 13 0 rfl rfl hi7 dX9_isRow_84 ?_
              refine lv_if_eq (tgt := 92) hx hb dX9_isRow_85 (by decide) (fun h9 => ?_) (fun h9 => ?_)
              · have hf := pg_t h9 hf
                exact WJ92_6 _ _ _ _ hP hD hS (lv_sub hl [0, 1, 3] rfl) hf
              · have hf := pg_f h9 hf
                refine lv_iconst (v := (1 : Int32)) hx hb dX9_isRow_88 (by decide) ?_
                refine lv_goto (tgt := 93) hx hb dX9_isRow_89 (by decide) ?_
                exact WJ93_5 _ _ _ _ hP hD hS (lv_sub hl [0, 1, 3] rfl) hf
      exact WL4 fu _ _ _ _ _ hP hD hS (lv_sub hl [2, 3, 1, 0] rfl) hf
    obtain ⟨B8, hB8, hf⟩ := lq3_n hf
    have WL8 : ∀ (n9 : Nat) (y3_8 : Int32) (y4_8 : Int32) (z_tryRow_8 : Nat → Int32) (H : Heap) (locs : List Loc) (ls : Array Slot), va_P (dC, dI) vwCl (W_X9z cI cZ cII qz qz_text qz_t qz_draft qz_s qz_kept qz_isKept qz_times qz_w qz_at qz_pulled qz_best qz_cartRow qz_tryRow qz_pairs qz_from qz_then qz_tryAt z_thrown z_typed z_next z_token z_place z_value z_figures z_fault z_faultAt z_timeMany z_eaten z_half z_bestMinutes z_bestOats z_isDue z_text z_t z_draft z_s z_kept z_isKept z_times z_w z_at z_pulled z_best z_cartRow z_tryRow_8 z_pairs z_from z_then z_tryAt) H → va_D A (W_X9z cI cZ cII qz qz_text qz_t qz_draft qz_s qz_kept qz_isKept qz_times qz_w qz_at qz_pulled qz_best qz_cartRow qz_tryRow qz_pairs qz_from qz_then qz_tryAt z_thrown z_typed z_next z_token z_place z_value z_figures z_fault z_faultAt z_timeMany z_eaten z_half z_bestMinutes z_bestOats z_isDue z_text z_t z_draft z_s z_kept z_isKept z_times z_w z_at z_pulled z_best z_cartRow z_tryRow_8 z_pairs z_from z_then z_tryAt) → va_S A s.heap H locs → lv_has ls 6 [(0, .ref qz), (2, .int n2), (3, .int y3_8), (4, .int y4_8)] → lq3 B8 n9 y3_8 y4_8 z_tryRow_8 = some (rr, z_tryRow') → W p l e rm_X9_isRow s m args below meth c H locs 0 0 Q (F0 m 25 ls []) := by
      intro n9
      induction n9 with
      | zero => intro y3_8 y4_8 z_tryRow_8 H locs ls hP hD hS hl hf; cases hf
      | succ n9 ih =>
        intro y3_8 y4_8 z_tryRow_8 H locs ls hP hD hS hl hf
        obtain ⟨rec8, hrec8, hf⟩ := lq3_s hf
        have hf := hB8 rec8 _ _ _ hf
        refine lv_iload hx hb dX9_isRow_25 (lv_at hl 3 rfl) ?_
        refine lv_aload_n hx hb dX9_isRow_27 rfl (lv_at hl 0 rfl) ?_
        refine va_get (D := (dC, dI)) (ci := 9) (v := .ref qz_t) (C := RX9) (T := TX9) (N := 32) hx hb hw inlX9 hown hK hP 0 rfl rfl 10 (by decide) (hw _ mw_6_1) (fun _ h9 => h9) rfl dX9_isRow_28 ?_
        refine lv_iconst (v := (4 : Int32)) hx hb dX9_isRow_31 (by decide) ?_
        refine va_iald hx hb hK hP 2 0 rfl rfl (pg_lit (by decide)) dX9_isRow_32 ?_
        refine lv_icmp_ge (tgt := 61) hx hb dX9_isRow_33 (by decide) (fun h9 => ?_) (fun h9 => ?_)
        · have hf := pg_t h9 hf
          exact WK61_2 _ _ _ _ hP hD hS (lv_sub hl [0, 1] rfl) hf
        · have hf := pg_f h9 hf
          refine lv_aload_n hx hb dX9_isRow_36 rfl (lv_at hl 0 rfl) ?_
          refine va_get (D := (dC, dI)) (ci := 9) (v := .ref qz_tryRow) (C := RX9) (T := TX9) (N := 32) hx hb hw inlX9 hown hK hP 0 rfl rfl 26 (by decide) (hw _ mw_6_14) (fun _ h9 => h9) rfl dX9_isRow_37 ?_
          refine lv_iload_n hx hb dX9_isRow_40 rfl (lv_at hl 2 rfl) ?_
          refine lv_iload_n hx hb dX9_isRow_41 rfl (lv_at hl 1 rfl) ?_
          obtain ⟨hi9, hf⟩ := pg_chk hf
          refine lv_irem hx hb dX9_isRow_42 hi9 ?_
          refine lv_dup2_11 hx hb dX9_isRow_43 rfl rfl ?_
          obtain ⟨hi10, hf⟩ := pg_chk hf
          refine va_iald hx hb hK hP 13 0 rfl rfl hi10 dX9_isRow_44 ?_
          refine lv_iconst (v := (1 : Int32)) hx hb dX9_isRow_45 (by decide) ?_
          refine lv_iload hx hb dX9_isRow_46 (lv_at hl 3 rfl) ?_
          refine lv_ishl hx hb dX9_isRow_48 ?_
          refine lv_ior hx hb dX9_isRow_49 ?_
          refine va_iast hx hb hK hP hD hS 13 0 rfl rfl hi10 dX9_isRow_50 (fun H locs hP hD hS => ?_)
          have hP : va_P (dC, dI) vwCl (W_X9z cI cZ cII qz qz_text qz_t qz_draft qz_s qz_kept qz_isKept qz_times qz_w qz_at qz_pulled qz_best qz_cartRow qz_tryRow qz_pairs qz_from qz_then qz_tryAt z_thrown z_typed z_next z_token z_place z_value z_figures z_fault z_faultAt z_timeMany z_eaten z_half z_bestMinutes z_bestOats z_isDue z_text z_t z_draft z_s z_kept z_isKept z_times z_w z_at z_pulled z_best z_cartRow (upd z_tryRow_8 ((y3_8 - y3_8 / n2 * n2)).toNatClampNeg ((z_tryRow_8 ((y3_8 - y3_8 / n2 * n2)).toNatClampNeg) ||| ((1 : Int32) <<< (y4_8 &&& 31)))) z_pairs z_from z_then z_tryAt) H := hP
          have hD : va_D A (W_X9z cI cZ cII qz qz_text qz_t qz_draft qz_s qz_kept qz_isKept qz_times qz_w qz_at qz_pulled qz_best qz_cartRow qz_tryRow qz_pairs qz_from qz_then qz_tryAt z_thrown z_typed z_next z_token z_place z_value z_figures z_fault z_faultAt z_timeMany z_eaten z_half z_bestMinutes z_bestOats z_isDue z_text z_t z_draft z_s z_kept z_isKept z_times z_w z_at z_pulled z_best z_cartRow (upd z_tryRow_8 ((y3_8 - y3_8 / n2 * n2)).toNatClampNeg ((z_tryRow_8 ((y3_8 - y3_8 / n2 * n2)).toNatClampNeg) ||| ((1 : Int32) <<< (y4_8 &&& 31)))) z_pairs z_from z_then z_tryAt) := hD
          refine lv_iload_n hx hb dX9_isRow_51 rfl (lv_at hl 2 rfl) ?_
          refine lv_iload_n hx hb dX9_isRow_52 rfl (lv_at hl 1 rfl) ?_
          refine lv_idiv hx hb dX9_isRow_53 hi9 ?_
          refine lv_istore_n (lv' := [(3, .int (y3_8 / n2)), (0, .ref qz), (2, .int n2), (4, .int y4_8)]) hx hb dX9_isRow_54 rfl hl (by decide) rfl (fun ls hl => ?_)
          refine lv_iinc (v := (y4_8 + (1 : Int32))) (lv' := [(4, .int (y4_8 + (1 : Int32))), (3, .int (y3_8 / n2)), (0, .ref qz), (2, .int n2)]) hx hb dX9_isRow_55 hl (k := 3) rfl rfl (by decide) rfl (fun ls hl => ?_)
          refine lv_goto (tgt := 25) hx hb dX9_isRow_58 (by decide) ?_
          exact ih _ _ _ _ _ _ hP hD hS (lv_sub hl [2, 3, 1, 0] rfl) (hrec8 _ _ _ hf)
    exact WL8 fu _ _ _ _ _ _ hP hD hS (lv_sub hl [2, 4, 1, 0] rfl) hf
  obtain ⟨B11, hB11, hf⟩ := lq2_n hf
  have WL11 : ∀ (n9 : Nat) (y3_11 : Int32) (z_tryRow_11 : Nat → Int32) (H : Heap) (locs : List Loc) (ls : Array Slot), va_P (dC, dI) vwCl (W_X9z cI cZ cII qz qz_text qz_t qz_draft qz_s qz_kept qz_isKept qz_times qz_w qz_at qz_pulled qz_best qz_cartRow qz_tryRow qz_pairs qz_from qz_then qz_tryAt z_thrown z_typed z_next z_token z_place z_value z_figures z_fault z_faultAt z_timeMany z_eaten z_half z_bestMinutes z_bestOats z_isDue z_text z_t z_draft z_s z_kept z_isKept z_times z_w z_at z_pulled z_best z_cartRow z_tryRow_11 z_pairs z_from z_then z_tryAt) H → va_D A (W_X9z cI cZ cII qz qz_text qz_t qz_draft qz_s qz_kept qz_isKept qz_times qz_w qz_at qz_pulled qz_best qz_cartRow qz_tryRow qz_pairs qz_from qz_then qz_tryAt z_thrown z_typed z_next z_token z_place z_value z_figures z_fault z_faultAt z_timeMany z_eaten z_half z_bestMinutes z_bestOats z_isDue z_text z_t z_draft z_s z_kept z_isKept z_times z_w z_at z_pulled z_best z_cartRow z_tryRow_11 z_pairs z_from z_then z_tryAt) → va_S A s.heap H locs → lv_has ls 6 [(0, .ref qz), (1, .int n1), (2, .int n2), (3, .int y3_11)] → lq2 B11 n9 y3_11 z_tryRow_11 = some (rr, z_tryRow') → W p l e rm_X9_isRow s m args below meth c H locs 0 0 Q (F0 m 2 ls []) := by
    intro n9
    induction n9 with
    | zero => intro y3_11 z_tryRow_11 H locs ls hP hD hS hl hf; cases hf
    | succ n9 ih =>
      intro y3_11 z_tryRow_11 H locs ls hP hD hS hl hf
      obtain ⟨rec11, hrec11, hf⟩ := lq2_s hf
      have hf := hB11 rec11 _ _ hf
      refine lv_iload_n hx hb dX9_isRow_2 rfl (lv_at hl 3 rfl) ?_
      refine lv_iload_n hx hb dX9_isRow_3 rfl (lv_at hl 2 rfl) ?_
      refine lv_icmp_ge (tgt := 20) hx hb dX9_isRow_4 (by decide) (fun h9 => ?_) (fun h9 => ?_)
      · have hf := pg_t h9 hf
        exact WK20_1 _ _ _ _ hP hD hS (lv_sub hl [0, 1, 2] rfl) hf
      · have hf := pg_f h9 hf
        refine lv_aload_n hx hb dX9_isRow_7 rfl (lv_at hl 0 rfl) ?_
        refine va_get (D := (dC, dI)) (ci := 9) (v := .ref qz_tryRow) (C := RX9) (T := TX9) (N := 32) hx hb hw inlX9 hown hK hP 0 rfl rfl 26 (by decide) (hw _ mw_6_14) (fun _ h9 => h9) rfl dX9_isRow_8 ?_
        refine lv_iload_n hx hb dX9_isRow_11 rfl (lv_at hl 3 rfl) ?_
        refine lv_iconst (v := (0 : Int32)) hx hb dX9_isRow_12 (by decide) ?_
        obtain ⟨hi12, hf⟩ := pg_chk hf
        refine va_iast hx hb hK hP hD hS 13 0 rfl rfl hi12 dX9_isRow_13 (fun H locs hP hD hS => ?_)
        have hP : va_P (dC, dI) vwCl (W_X9z cI cZ cII qz qz_text qz_t qz_draft qz_s qz_kept qz_isKept qz_times qz_w qz_at qz_pulled qz_best qz_cartRow qz_tryRow qz_pairs qz_from qz_then qz_tryAt z_thrown z_typed z_next z_token z_place z_value z_figures z_fault z_faultAt z_timeMany z_eaten z_half z_bestMinutes z_bestOats z_isDue z_text z_t z_draft z_s z_kept z_isKept z_times z_w z_at z_pulled z_best z_cartRow (upd z_tryRow_11 (y3_11).toNatClampNeg (0 : Int32)) z_pairs z_from z_then z_tryAt) H := hP
        have hD : va_D A (W_X9z cI cZ cII qz qz_text qz_t qz_draft qz_s qz_kept qz_isKept qz_times qz_w qz_at qz_pulled qz_best qz_cartRow qz_tryRow qz_pairs qz_from qz_then qz_tryAt z_thrown z_typed z_next z_token z_place z_value z_figures z_fault z_faultAt z_timeMany z_eaten z_half z_bestMinutes z_bestOats z_isDue z_text z_t z_draft z_s z_kept z_isKept z_times z_w z_at z_pulled z_best z_cartRow (upd z_tryRow_11 (y3_11).toNatClampNeg (0 : Int32)) z_pairs z_from z_then z_tryAt) := hD
        refine lv_iinc (v := (y3_11 + (1 : Int32))) (lv' := [(3, .int (y3_11 + (1 : Int32))), (0, .ref qz), (1, .int n1), (2, .int n2)]) hx hb dX9_isRow_14 hl (k := 3) rfl rfl (by decide) rfl (fun ls hl => ?_)
        refine lv_goto (tgt := 2) hx hb dX9_isRow_17 (by decide) ?_
        exact ih _ _ _ _ _ hP hD hS (lv_sub hl [1, 2, 3, 0] rfl) (hrec11 _ _ hf)
  exact WL11 fu _ _ _ _ _ hP hD hS (lv_sub hl [1, 2, 3, 0] rfl) hf
def f_X9_isAhead (n1 : Int32) (z_cartRow : Nat → Int32) (z_tryRow : Nat → Int32) : Option (Int32) :=
  jn1 (fun (y2_1 : Int32) =>
    if n1 ≤ y2_1 then
      some ((0 : Int32))
    else
      if y2_1 < 0 ∨ 4 ≤ (y2_1).toNatClampNeg then none else
      if (z_cartRow (y2_1).toNatClampNeg) ≤ (z_tryRow (y2_1).toNatClampNeg) then
        some ((0 : Int32))
      else
        some ((1 : Int32))
  ) (fun K28_1 =>
  lq1 (fun rec3 (y2_3 : Int32) =>
    if n1 ≤ y2_3 then
      K28_1 y2_3
    else
      if y2_3 < 0 ∨ 4 ≤ (y2_3).toNatClampNeg then none else
      if (z_tryRow (y2_3).toNatClampNeg) = (z_cartRow (y2_3).toNatClampNeg) then
        rec3 (y2_3 + (1 : Int32))
      else
        K28_1 y2_3
  ) fu (0 : Int32)
  )
abbrev rm_X9_isAhead : Room := { frames := 0, cells := 0, slots := 0, locals := 0 }
theorem dk_X9_isAhead : yX9_isAhead.cls = RX9 ∧ yX9_isAhead.cls ≠ "java/lang/invoke/MethodHandle" ∧ yX9_isAhead.cls ≠ "java/lang/invoke/VarHandle" ∧ (parseMethodDescriptor yX9_isAhead.desc).map (fun d => d.parameters.length) = some 1 := by decide +kernel
set_option maxHeartbeats 4000000 in
set_option maxRecDepth 100000 in
theorem c_X9_isAhead (l : Launch) (dC : Nat → ClassId) (dI : Nat → Nat → Nat) (cI cZ cII : ClassId) (qz qz_text qz_t qz_draft qz_s qz_kept qz_isKept qz_times qz_w qz_at qz_pulled qz_best qz_cartRow qz_tryRow qz_pairs qz_from qz_then qz_tryAt : Nat) (sz : Nat) (z_thrown : Int32) (z_typed : Int32) (z_next : Int32) (z_token : Int32) (z_place : Int32) (z_value : Int32) (z_figures : Int32) (z_fault : Int32) (z_faultAt : Int32) (z_timeMany : Int32) (z_eaten : Int32) (z_half : Int32) (z_bestMinutes : Int32) (z_bestOats : Int32) (z_isDue : Int32) (z_text : Nat → Int32) (z_t : Nat → Int32) (z_draft : Nat → Int32) (z_s : Nat → Int32) (z_kept : Nat → Int32) (z_isKept : Nat → Int32) (z_times : Nat → Int32) (z_w : Nat → Int32) (z_at : Nat → Int32) (z_pulled : Nat → Int32) (z_best : Nat → Int32) (z_cartRow : Nat → Int32) (z_tryRow : Nat → Int32) (z_pairs : Nat → Int32) (z_from : Nat → Int32) (z_then : Nat → Int32) (z_tryAt : Nat → Int32) (n1 : Int32) (rr : Int32) (hf : f_X9_isAhead n1 z_cartRow z_tryRow = some (rr)) : Met l yX9_isAhead (wM yX9_isAhead cX9_isAhead 3 (some .boolean)) rm_X9_isAhead (PreW (dC, dI) (tyA cI cZ cII) (W_X9z cI cZ cII qz qz_text qz_t qz_draft qz_s qz_kept qz_isKept qz_times qz_w qz_at qz_pulled qz_best qz_cartRow qz_tryRow qz_pairs qz_from qz_then qz_tryAt z_thrown z_typed z_next z_token z_place z_value z_figures z_fault z_faultAt z_timeMany z_eaten z_half z_bestMinutes z_bestOats z_isDue z_text z_t z_draft z_s z_kept z_isKept z_times z_w z_at z_pulled z_best z_cartRow z_tryRow z_pairs z_from z_then z_tryAt) sz [.ref qz, .int n1]) (PostI (dC, dI) (tyA cI cZ cII) rr (W_X9z cI cZ cII qz qz_text qz_t qz_draft qz_s qz_kept qz_isKept qz_times qz_w qz_at qz_pulled qz_best qz_cartRow qz_tryRow qz_pairs qz_from qz_then qz_tryAt z_thrown z_typed z_next z_token z_place z_value z_figures z_fault z_faultAt z_timeMany z_eaten z_half z_bestMinutes z_bestOats z_isDue z_text z_t z_draft z_s z_kept z_isKept z_times z_w z_at z_pulled z_best z_cartRow z_tryRow z_pairs z_from z_then z_tryAt) (W_X9z cI cZ cII qz qz_text qz_t qz_draft qz_s qz_kept qz_isKept qz_times qz_w qz_at qz_pulled qz_best qz_cartRow qz_tryRow qz_pairs qz_from qz_then qz_tryAt z_thrown z_typed z_next z_token z_place z_value z_figures z_fault z_faultAt z_timeMany z_eaten z_half z_bestMinutes z_bestOats z_isDue z_text z_t z_draft z_s z_kept z_isKept z_times z_w z_at z_pulled z_best z_cartRow z_tryRow z_pairs z_from z_then z_tryAt) sz) 0 0 (va_A (W_X9z cI cZ cII qz qz_text qz_t qz_draft qz_s qz_kept qz_isKept qz_times qz_w qz_at qz_pulled qz_best qz_cartRow qz_tryRow qz_pairs qz_from qz_then qz_tryAt z_thrown z_typed z_next z_token z_place z_value z_figures z_fault z_faultAt z_timeMany z_eaten z_half z_bestMinutes z_bestOats z_isDue z_text z_t z_draft z_s z_kept z_isKept z_times z_w z_at z_pulled z_best z_cartRow z_tryRow z_pairs z_from z_then z_tryAt) sz) := by
  refine Met.ofW (cc := cX9_isAhead) (maxL := 3) (ret := (some .boolean)) (by decide) rfl ?_
  intro p e s m args below meth c s₁ B hml hv
  obtain ⟨rfl, hsz, hP, hK, hD0⟩ := hv
  have hx := B.exec
  have hb := B.bytes
  have hr := B.returns
  have hts := atoms_spec (ws := wM yX9_isAhead cX9_isAhead 3 (some .boolean)) B.pre
  have hown : s.vm.findClass RX9 = some m.cls := findClass_of_methodNamed B.named
  have hlocks := B.notSynchronized
  subst hsz
  have hD := hD0.self (sz := s.heap.size)
  obtain ⟨A, hAe⟩ : ∃ A, A = va_A (W_X9z cI cZ cII qz qz_text qz_t qz_draft qz_s qz_kept qz_isKept qz_times qz_w qz_at qz_pulled qz_best qz_cartRow qz_tryRow qz_pairs qz_from qz_then qz_tryAt z_thrown z_typed z_next z_token z_place z_value z_figures z_fault z_faultAt z_timeMany z_eaten z_half z_bestMinutes z_bestOats z_isDue z_text z_t z_draft z_s z_kept z_isKept z_times z_w z_at z_pulled z_best z_cartRow z_tryRow z_pairs z_from z_then z_tryAt) s.heap.size := ⟨_, rfl⟩
  rw [← hAe] at hD
  have hA : ∀ q : Nat, s.heap.size ≤ q → A q := fun q h => by rw [hAe]; exact Or.inr h
  have hS : va_S A s.heap s.heap [] := va_S.rf
  have hl := lv_entry ([.ref qz, .int n1]) (n := 3) (Nat.le_of_ble_eq_true rfl)
  rw [lg_entry_eq]
  generalize (lg_sl ([.ref qz, .int n1]) ++ List.replicate (3 - (lg_sl ([.ref qz, .int n1])).length) Slot.unset).toArray = ls at hl ⊢
  have hl : lv_has ls 3 [(0, .ref qz), (1, .int n1)] := hl
  generalize ([.ref qz, .int n1] : List Value).toArray = args at hts ⊢
  have hw : ∀ w ∈ wsL_law, w.before args s = true := fun w h => hts w (List.mem_cons_of_mem _ h)
  refine pg_start (fun Q hQ => ?_)
  have RET : ∀ (H : Heap) (locs : List Loc) (ls : Array Slot) (pc : Nat) (v : Int32) , decode cX9_isAhead pc = .ok (.ireturn, 1) → (v = 0 ∨ v = 1) → va_P (dC, dI) vwCl (W_X9z cI cZ cII qz qz_text qz_t qz_draft qz_s qz_kept qz_isKept qz_times qz_w qz_at qz_pulled qz_best qz_cartRow qz_tryRow qz_pairs qz_from qz_then qz_tryAt z_thrown z_typed z_next z_token z_place z_value z_figures z_fault z_faultAt z_timeMany z_eaten z_half z_bestMinutes z_bestOats z_isDue z_text z_t z_draft z_s z_kept z_isKept z_times z_w z_at z_pulled z_best z_cartRow z_tryRow z_pairs z_from z_then z_tryAt) H → va_D A (W_X9z cI cZ cII qz qz_text qz_t qz_draft qz_s qz_kept qz_isKept qz_times qz_w qz_at qz_pulled qz_best qz_cartRow qz_tryRow qz_pairs qz_from qz_then qz_tryAt z_thrown z_typed z_next z_token z_place z_value z_figures z_fault z_faultAt z_timeMany z_eaten z_half z_bestMinutes z_bestOats z_isDue z_text z_t z_draft z_s z_kept z_isKept z_times z_w z_at z_pulled z_best z_cartRow z_tryRow z_pairs z_from z_then z_tryAt) → va_S A s.heap H locs → (some (v) : Option (Int32)) = some (rr) → W p l e rm_X9_isAhead s m args below meth c H locs 0 0 Q (F0 m pc ls [.int v]) := by
    intro H locs ls pc v hd hz hP hD hS he
    subst hAe; subst hQ
    obtain rfl := Option.some.inj he
    exact pg_zret hx hb hr hlocks hz hK hP hD hS hd
  unfold f_X9_isAhead at hf
  refine lv_iconst (v := (0 : Int32)) hx hb dX9_isAhead_0 (by decide) ?_
  refine lv_istore_n (lv' := [(2, .int (0 : Int32)), (0, .ref qz), (1, .int n1)]) hx hb dX9_isAhead_1 rfl hl (by decide) rfl (fun ls hl => ?_)
  obtain ⟨K28_1, hK28_1, hf⟩ := jn1_s hf
  have WK28_1 : ∀ (y2_1 : Int32) (H : Heap) (locs : List Loc) (ls : Array Slot), va_P (dC, dI) vwCl (W_X9z cI cZ cII qz qz_text qz_t qz_draft qz_s qz_kept qz_isKept qz_times qz_w qz_at qz_pulled qz_best qz_cartRow qz_tryRow qz_pairs qz_from qz_then qz_tryAt z_thrown z_typed z_next z_token z_place z_value z_figures z_fault z_faultAt z_timeMany z_eaten z_half z_bestMinutes z_bestOats z_isDue z_text z_t z_draft z_s z_kept z_isKept z_times z_w z_at z_pulled z_best z_cartRow z_tryRow z_pairs z_from z_then z_tryAt) H → va_D A (W_X9z cI cZ cII qz qz_text qz_t qz_draft qz_s qz_kept qz_isKept qz_times qz_w qz_at qz_pulled qz_best qz_cartRow qz_tryRow qz_pairs qz_from qz_then qz_tryAt z_thrown z_typed z_next z_token z_place z_value z_figures z_fault z_faultAt z_timeMany z_eaten z_half z_bestMinutes z_bestOats z_isDue z_text z_t z_draft z_s z_kept z_isKept z_times z_w z_at z_pulled z_best z_cartRow z_tryRow z_pairs z_from z_then z_tryAt) → va_S A s.heap H locs → lv_has ls 3 [(0, .ref qz), (1, .int n1), (2, .int y2_1)] → K28_1 y2_1 = some (rr) → W p l e rm_X9_isAhead s m args below meth c H locs 0 0 Q (F0 m 28 ls []) := by
    intro y2_1 H locs ls hP hD hS hl hf
    have hf := hK28_1 _ hf
    refine lv_iload_n hx hb dX9_isAhead_28 rfl (lv_at hl 2 rfl) ?_
    refine lv_iload_n hx hb dX9_isAhead_29 rfl (lv_at hl 1 rfl) ?_
    refine lv_icmp_ge (tgt := 52) hx hb dX9_isAhead_30 (by decide) (fun h9 => ?_) (fun h9 => ?_)
    · have hf := pg_t h9 hf
      refine lv_iconst (v := (0 : Int32)) hx hb dX9_isAhead_52 (by decide) ?_
      exact RET _ _ _ _ _ dX9_isAhead_53 (by decide) hP hD hS hf
    · have hf := pg_f h9 hf
      refine lv_aload_n hx hb dX9_isAhead_33 rfl (lv_at hl 0 rfl) ?_
      refine va_get (D := (dC, dI)) (ci := 9) (v := .ref qz_tryRow) (C := RX9) (T := TX9) (N := 32) hx hb hw inlX9 hown hK hP 0 rfl rfl 26 (by decide) (hw _ mw_6_14) (fun _ h9 => h9) rfl dX9_isAhead_34 ?_
      refine lv_iload_n hx hb dX9_isAhead_37 rfl (lv_at hl 2 rfl) ?_
      obtain ⟨hi2, hf⟩ := pg_chk hf
      refine va_iald hx hb hK hP 13 0 rfl rfl hi2 dX9_isAhead_38 ?_
      refine lv_aload_n hx hb dX9_isAhead_39 rfl (lv_at hl 0 rfl) ?_
      refine va_get (D := (dC, dI)) (ci := 9) (v := .ref qz_cartRow) (C := RX9) (T := TX9) (N := 32) hx hb hw inlX9 hown hK hP 0 rfl rfl 25 (by decide) (hw _ mw_6_13) (fun _ h9 => h9) rfl dX9_isAhead_40 ?_
      refine lv_iload_n hx hb dX9_isAhead_43 rfl (lv_at hl 2 rfl) ?_
      refine va_iald hx hb hK hP 12 0 rfl rfl hi2 dX9_isAhead_44 ?_
      refine lv_icmp_ge (tgt := 52) hx hb dX9_isAhead_45 (by decide) (fun h9 => ?_) (fun h9 => ?_)
      · have hf := pg_t h9 hf
        refine lv_iconst (v := (0 : Int32)) hx hb dX9_isAhead_52 (by decide) ?_
        exact RET _ _ _ _ _ dX9_isAhead_53 (by decide) hP hD hS hf
      · have hf := pg_f h9 hf
        refine lv_iconst (v := (1 : Int32)) hx hb dX9_isAhead_48 (by decide) ?_
        refine lv_goto (tgt := 53) hx hb dX9_isAhead_49 (by decide) ?_
        exact RET _ _ _ _ _ dX9_isAhead_53 (by decide) hP hD hS hf
  obtain ⟨B3, hB3, hf⟩ := lq1_n hf
  have WL3 : ∀ (n9 : Nat) (y2_3 : Int32) (H : Heap) (locs : List Loc) (ls : Array Slot), va_P (dC, dI) vwCl (W_X9z cI cZ cII qz qz_text qz_t qz_draft qz_s qz_kept qz_isKept qz_times qz_w qz_at qz_pulled qz_best qz_cartRow qz_tryRow qz_pairs qz_from qz_then qz_tryAt z_thrown z_typed z_next z_token z_place z_value z_figures z_fault z_faultAt z_timeMany z_eaten z_half z_bestMinutes z_bestOats z_isDue z_text z_t z_draft z_s z_kept z_isKept z_times z_w z_at z_pulled z_best z_cartRow z_tryRow z_pairs z_from z_then z_tryAt) H → va_D A (W_X9z cI cZ cII qz qz_text qz_t qz_draft qz_s qz_kept qz_isKept qz_times qz_w qz_at qz_pulled qz_best qz_cartRow qz_tryRow qz_pairs qz_from qz_then qz_tryAt z_thrown z_typed z_next z_token z_place z_value z_figures z_fault z_faultAt z_timeMany z_eaten z_half z_bestMinutes z_bestOats z_isDue z_text z_t z_draft z_s z_kept z_isKept z_times z_w z_at z_pulled z_best z_cartRow z_tryRow z_pairs z_from z_then z_tryAt) → va_S A s.heap H locs → lv_has ls 3 [(0, .ref qz), (1, .int n1), (2, .int y2_3)] → lq1 B3 n9 y2_3 = some (rr) → W p l e rm_X9_isAhead s m args below meth c H locs 0 0 Q (F0 m 2 ls []) := by
    intro n9
    induction n9 with
    | zero => intro y2_3 H locs ls hP hD hS hl hf; cases hf
    | succ n9 ih =>
      intro y2_3 H locs ls hP hD hS hl hf
      obtain ⟨rec3, hrec3, hf⟩ := lq1_s hf
      have hf := hB3 rec3 _ hf
      refine lv_iload_n hx hb dX9_isAhead_2 rfl (lv_at hl 2 rfl) ?_
      refine lv_iload_n hx hb dX9_isAhead_3 rfl (lv_at hl 1 rfl) ?_
      refine lv_icmp_ge (tgt := 28) hx hb dX9_isAhead_4 (by decide) (fun h9 => ?_) (fun h9 => ?_)
      · have hf := pg_t h9 hf
        exact WK28_1 _ _ _ _ hP hD hS hl hf
      · have hf := pg_f h9 hf
        refine lv_aload_n hx hb dX9_isAhead_7 rfl (lv_at hl 0 rfl) ?_
        refine va_get (D := (dC, dI)) (ci := 9) (v := .ref qz_tryRow) (C := RX9) (T := TX9) (N := 32) hx hb hw inlX9 hown hK hP 0 rfl rfl 26 (by decide) (hw _ mw_6_14) (fun _ h9 => h9) rfl dX9_isAhead_8 ?_
        refine lv_iload_n hx hb dX9_isAhead_11 rfl (lv_at hl 2 rfl) ?_
        obtain ⟨hi4, hf⟩ := pg_chk hf
        refine va_iald hx hb hK hP 13 0 rfl rfl hi4 dX9_isAhead_12 ?_
        refine lv_aload_n hx hb dX9_isAhead_13 rfl (lv_at hl 0 rfl) ?_
        refine va_get (D := (dC, dI)) (ci := 9) (v := .ref qz_cartRow) (C := RX9) (T := TX9) (N := 32) hx hb hw inlX9 hown hK hP 0 rfl rfl 25 (by decide) (hw _ mw_6_13) (fun _ h9 => h9) rfl dX9_isAhead_14 ?_
        refine lv_iload_n hx hb dX9_isAhead_17 rfl (lv_at hl 2 rfl) ?_
        refine va_iald hx hb hK hP 12 0 rfl rfl hi4 dX9_isAhead_18 ?_
        refine lv_icmp_ne (tgt := 28) hx hb dX9_isAhead_19 (by decide) (fun h9 => ?_) (fun h9 => ?_)
        · have hf := pg_f h9 hf
          exact WK28_1 _ _ _ _ hP hD hS hl hf
        · have hf := pg_t h9 hf
          refine lv_iinc (v := (y2_3 + (1 : Int32))) (lv' := [(2, .int (y2_3 + (1 : Int32))), (0, .ref qz), (1, .int n1)]) hx hb dX9_isAhead_22 hl (k := 2) rfl rfl (by decide) rfl (fun ls hl => ?_)
          refine lv_goto (tgt := 2) hx hb dX9_isAhead_25 (by decide) ?_
          exact ih _ _ _ _ hP hD hS (lv_sub hl [1, 2, 0] rfl) (hrec3 _ hf)
  exact WL3 fu _ _ _ _ hP hD hS (lv_sub hl [1, 2, 0] rfl) hf
def f_X9_loadOf (n1 : Int32) (z_t : Nat → Int32) : Option (Int32) :=
  jn1 (fun (y2_1 : Int32) =>
    some (y2_1)
  ) (fun K45_1 =>
  lq2 (fun rec2 (y2_2 : Int32) (y3_2 : Int32) =>
    if (z_t ((4 : Int32)).toNatClampNeg) ≤ y3_2 then
      K45_1 y2_2
    else
      jn1 (fun (z1_3 : Int32) =>
        rec2 (y2_2 + z1_3) (y3_2 + (1 : Int32))
      ) (fun J37_3 =>
      if ((n1 >>> (y3_2 &&& 31)) &&& (1 : Int32)) = (1 : Int32) then
        if ((80 : Int32) + y3_2) < 0 ∨ 84 ≤ (((80 : Int32) + y3_2)).toNatClampNeg then none else
        J37_3 (z_t (((80 : Int32) + y3_2)).toNatClampNeg)
      else
        J37_3 (0 : Int32)
      )
  ) fu (0 : Int32) (0 : Int32)
  )
abbrev rm_X9_loadOf : Room := { frames := 0, cells := 0, slots := 0, locals := 0 }
theorem dk_X9_loadOf : yX9_loadOf.cls = RX9 ∧ yX9_loadOf.cls ≠ "java/lang/invoke/MethodHandle" ∧ yX9_loadOf.cls ≠ "java/lang/invoke/VarHandle" ∧ (parseMethodDescriptor yX9_loadOf.desc).map (fun d => d.parameters.length) = some 1 := by decide +kernel
set_option maxHeartbeats 4000000 in
set_option maxRecDepth 100000 in
theorem c_X9_loadOf (l : Launch) (dC : Nat → ClassId) (dI : Nat → Nat → Nat) (cI cZ cII : ClassId) (qz qz_text qz_t qz_draft qz_s qz_kept qz_isKept qz_times qz_w qz_at qz_pulled qz_best qz_cartRow qz_tryRow qz_pairs qz_from qz_then qz_tryAt : Nat) (sz : Nat) (z_thrown : Int32) (z_typed : Int32) (z_next : Int32) (z_token : Int32) (z_place : Int32) (z_value : Int32) (z_figures : Int32) (z_fault : Int32) (z_faultAt : Int32) (z_timeMany : Int32) (z_eaten : Int32) (z_half : Int32) (z_bestMinutes : Int32) (z_bestOats : Int32) (z_isDue : Int32) (z_text : Nat → Int32) (z_t : Nat → Int32) (z_draft : Nat → Int32) (z_s : Nat → Int32) (z_kept : Nat → Int32) (z_isKept : Nat → Int32) (z_times : Nat → Int32) (z_w : Nat → Int32) (z_at : Nat → Int32) (z_pulled : Nat → Int32) (z_best : Nat → Int32) (z_cartRow : Nat → Int32) (z_tryRow : Nat → Int32) (z_pairs : Nat → Int32) (z_from : Nat → Int32) (z_then : Nat → Int32) (z_tryAt : Nat → Int32) (n1 : Int32) (rr : Int32) (hf : f_X9_loadOf n1 z_t = some (rr)) : Met l yX9_loadOf (wM yX9_loadOf cX9_loadOf 4 (some .int)) rm_X9_loadOf (PreW (dC, dI) (tyA cI cZ cII) (W_X9z cI cZ cII qz qz_text qz_t qz_draft qz_s qz_kept qz_isKept qz_times qz_w qz_at qz_pulled qz_best qz_cartRow qz_tryRow qz_pairs qz_from qz_then qz_tryAt z_thrown z_typed z_next z_token z_place z_value z_figures z_fault z_faultAt z_timeMany z_eaten z_half z_bestMinutes z_bestOats z_isDue z_text z_t z_draft z_s z_kept z_isKept z_times z_w z_at z_pulled z_best z_cartRow z_tryRow z_pairs z_from z_then z_tryAt) sz [.ref qz, .int n1]) (PostI (dC, dI) (tyA cI cZ cII) rr (W_X9z cI cZ cII qz qz_text qz_t qz_draft qz_s qz_kept qz_isKept qz_times qz_w qz_at qz_pulled qz_best qz_cartRow qz_tryRow qz_pairs qz_from qz_then qz_tryAt z_thrown z_typed z_next z_token z_place z_value z_figures z_fault z_faultAt z_timeMany z_eaten z_half z_bestMinutes z_bestOats z_isDue z_text z_t z_draft z_s z_kept z_isKept z_times z_w z_at z_pulled z_best z_cartRow z_tryRow z_pairs z_from z_then z_tryAt) (W_X9z cI cZ cII qz qz_text qz_t qz_draft qz_s qz_kept qz_isKept qz_times qz_w qz_at qz_pulled qz_best qz_cartRow qz_tryRow qz_pairs qz_from qz_then qz_tryAt z_thrown z_typed z_next z_token z_place z_value z_figures z_fault z_faultAt z_timeMany z_eaten z_half z_bestMinutes z_bestOats z_isDue z_text z_t z_draft z_s z_kept z_isKept z_times z_w z_at z_pulled z_best z_cartRow z_tryRow z_pairs z_from z_then z_tryAt) sz) 0 0 (va_A (W_X9z cI cZ cII qz qz_text qz_t qz_draft qz_s qz_kept qz_isKept qz_times qz_w qz_at qz_pulled qz_best qz_cartRow qz_tryRow qz_pairs qz_from qz_then qz_tryAt z_thrown z_typed z_next z_token z_place z_value z_figures z_fault z_faultAt z_timeMany z_eaten z_half z_bestMinutes z_bestOats z_isDue z_text z_t z_draft z_s z_kept z_isKept z_times z_w z_at z_pulled z_best z_cartRow z_tryRow z_pairs z_from z_then z_tryAt) sz) := by
  refine Met.ofW (cc := cX9_loadOf) (maxL := 4) (ret := (some .int)) (by decide) rfl ?_
  intro p e s m args below meth c s₁ B hml hv
  obtain ⟨rfl, hsz, hP, hK, hD0⟩ := hv
  have hx := B.exec
  have hb := B.bytes
  have hr := B.returns
  have hts := atoms_spec (ws := wM yX9_loadOf cX9_loadOf 4 (some .int)) B.pre
  have hown : s.vm.findClass RX9 = some m.cls := findClass_of_methodNamed B.named
  have hlocks := B.notSynchronized
  subst hsz
  have hD := hD0.self (sz := s.heap.size)
  obtain ⟨A, hAe⟩ : ∃ A, A = va_A (W_X9z cI cZ cII qz qz_text qz_t qz_draft qz_s qz_kept qz_isKept qz_times qz_w qz_at qz_pulled qz_best qz_cartRow qz_tryRow qz_pairs qz_from qz_then qz_tryAt z_thrown z_typed z_next z_token z_place z_value z_figures z_fault z_faultAt z_timeMany z_eaten z_half z_bestMinutes z_bestOats z_isDue z_text z_t z_draft z_s z_kept z_isKept z_times z_w z_at z_pulled z_best z_cartRow z_tryRow z_pairs z_from z_then z_tryAt) s.heap.size := ⟨_, rfl⟩
  rw [← hAe] at hD
  have hA : ∀ q : Nat, s.heap.size ≤ q → A q := fun q h => by rw [hAe]; exact Or.inr h
  have hS : va_S A s.heap s.heap [] := va_S.rf
  have hl := lv_entry ([.ref qz, .int n1]) (n := 4) (Nat.le_of_ble_eq_true rfl)
  rw [lg_entry_eq]
  generalize (lg_sl ([.ref qz, .int n1]) ++ List.replicate (4 - (lg_sl ([.ref qz, .int n1])).length) Slot.unset).toArray = ls at hl ⊢
  have hl : lv_has ls 4 [(0, .ref qz), (1, .int n1)] := hl
  generalize ([.ref qz, .int n1] : List Value).toArray = args at hts ⊢
  have hw : ∀ w ∈ wsL_law, w.before args s = true := fun w h => hts w (List.mem_cons_of_mem _ h)
  refine pg_start (fun Q hQ => ?_)
  have RET : ∀ (H : Heap) (locs : List Loc) (ls : Array Slot) (pc : Nat) (v : Int32) , decode cX9_loadOf pc = .ok (.ireturn, 1) → va_P (dC, dI) vwCl (W_X9z cI cZ cII qz qz_text qz_t qz_draft qz_s qz_kept qz_isKept qz_times qz_w qz_at qz_pulled qz_best qz_cartRow qz_tryRow qz_pairs qz_from qz_then qz_tryAt z_thrown z_typed z_next z_token z_place z_value z_figures z_fault z_faultAt z_timeMany z_eaten z_half z_bestMinutes z_bestOats z_isDue z_text z_t z_draft z_s z_kept z_isKept z_times z_w z_at z_pulled z_best z_cartRow z_tryRow z_pairs z_from z_then z_tryAt) H → va_D A (W_X9z cI cZ cII qz qz_text qz_t qz_draft qz_s qz_kept qz_isKept qz_times qz_w qz_at qz_pulled qz_best qz_cartRow qz_tryRow qz_pairs qz_from qz_then qz_tryAt z_thrown z_typed z_next z_token z_place z_value z_figures z_fault z_faultAt z_timeMany z_eaten z_half z_bestMinutes z_bestOats z_isDue z_text z_t z_draft z_s z_kept z_isKept z_times z_w z_at z_pulled z_best z_cartRow z_tryRow z_pairs z_from z_then z_tryAt) → va_S A s.heap H locs → (some (v) : Option (Int32)) = some (rr) → W p l e rm_X9_loadOf s m args below meth c H locs 0 0 Q (F0 m pc ls [.int v]) := by
    intro H locs ls pc v hd hP hD hS he
    subst hAe; subst hQ
    obtain rfl := Option.some.inj he
    exact pg_iret hx hb hr hlocks hK hP hD hS hd
  unfold f_X9_loadOf at hf
  refine lv_iconst (v := (0 : Int32)) hx hb dX9_loadOf_0 (by decide) ?_
  refine lv_istore_n (lv' := [(2, .int (0 : Int32)), (0, .ref qz), (1, .int n1)]) hx hb dX9_loadOf_1 rfl hl (by decide) rfl (fun ls hl => ?_)
  refine lv_iconst (v := (0 : Int32)) hx hb dX9_loadOf_2 (by decide) ?_
  refine lv_istore_n (lv' := [(3, .int (0 : Int32)), (2, .int (0 : Int32)), (0, .ref qz), (1, .int n1)]) hx hb dX9_loadOf_3 rfl hl (by decide) rfl (fun ls hl => ?_)
  obtain ⟨K45_1, hK45_1, hf⟩ := jn1_s hf
  have WK45_1 : ∀ (y2_1 : Int32) (H : Heap) (locs : List Loc) (ls : Array Slot), va_P (dC, dI) vwCl (W_X9z cI cZ cII qz qz_text qz_t qz_draft qz_s qz_kept qz_isKept qz_times qz_w qz_at qz_pulled qz_best qz_cartRow qz_tryRow qz_pairs qz_from qz_then qz_tryAt z_thrown z_typed z_next z_token z_place z_value z_figures z_fault z_faultAt z_timeMany z_eaten z_half z_bestMinutes z_bestOats z_isDue z_text z_t z_draft z_s z_kept z_isKept z_times z_w z_at z_pulled z_best z_cartRow z_tryRow z_pairs z_from z_then z_tryAt) H → va_D A (W_X9z cI cZ cII qz qz_text qz_t qz_draft qz_s qz_kept qz_isKept qz_times qz_w qz_at qz_pulled qz_best qz_cartRow qz_tryRow qz_pairs qz_from qz_then qz_tryAt z_thrown z_typed z_next z_token z_place z_value z_figures z_fault z_faultAt z_timeMany z_eaten z_half z_bestMinutes z_bestOats z_isDue z_text z_t z_draft z_s z_kept z_isKept z_times z_w z_at z_pulled z_best z_cartRow z_tryRow z_pairs z_from z_then z_tryAt) → va_S A s.heap H locs → lv_has ls 4 [(2, .int y2_1)] → K45_1 y2_1 = some (rr) → W p l e rm_X9_loadOf s m args below meth c H locs 0 0 Q (F0 m 45 ls []) := by
    intro y2_1 H locs ls hP hD hS hl hf
    have hf := hK45_1 _ hf
    refine lv_iload_n hx hb dX9_loadOf_45 rfl (lv_at hl 0 rfl) ?_
    exact RET _ _ _ _ _ dX9_loadOf_46 hP hD hS hf
  obtain ⟨B2, hB2, hf⟩ := lq2_n hf
  have WL2 : ∀ (n9 : Nat) (y2_2 : Int32) (y3_2 : Int32) (H : Heap) (locs : List Loc) (ls : Array Slot), va_P (dC, dI) vwCl (W_X9z cI cZ cII qz qz_text qz_t qz_draft qz_s qz_kept qz_isKept qz_times qz_w qz_at qz_pulled qz_best qz_cartRow qz_tryRow qz_pairs qz_from qz_then qz_tryAt z_thrown z_typed z_next z_token z_place z_value z_figures z_fault z_faultAt z_timeMany z_eaten z_half z_bestMinutes z_bestOats z_isDue z_text z_t z_draft z_s z_kept z_isKept z_times z_w z_at z_pulled z_best z_cartRow z_tryRow z_pairs z_from z_then z_tryAt) H → va_D A (W_X9z cI cZ cII qz qz_text qz_t qz_draft qz_s qz_kept qz_isKept qz_times qz_w qz_at qz_pulled qz_best qz_cartRow qz_tryRow qz_pairs qz_from qz_then qz_tryAt z_thrown z_typed z_next z_token z_place z_value z_figures z_fault z_faultAt z_timeMany z_eaten z_half z_bestMinutes z_bestOats z_isDue z_text z_t z_draft z_s z_kept z_isKept z_times z_w z_at z_pulled z_best z_cartRow z_tryRow z_pairs z_from z_then z_tryAt) → va_S A s.heap H locs → lv_has ls 4 [(0, .ref qz), (1, .int n1), (2, .int y2_2), (3, .int y3_2)] → lq2 B2 n9 y2_2 y3_2 = some (rr) → W p l e rm_X9_loadOf s m args below meth c H locs 0 0 Q (F0 m 4 ls []) := by
    intro n9
    induction n9 with
    | zero => intro y2_2 y3_2 H locs ls hP hD hS hl hf; cases hf
    | succ n9 ih =>
      intro y2_2 y3_2 H locs ls hP hD hS hl hf
      obtain ⟨rec2, hrec2, hf⟩ := lq2_s hf
      have hf := hB2 rec2 _ _ hf
      refine lv_iload_n hx hb dX9_loadOf_4 rfl (lv_at hl 3 rfl) ?_
      refine lv_aload_n hx hb dX9_loadOf_5 rfl (lv_at hl 0 rfl) ?_
      refine va_get (D := (dC, dI)) (ci := 9) (v := .ref qz_t) (C := RX9) (T := TX9) (N := 32) hx hb hw inlX9 hown hK hP 0 rfl rfl 10 (by decide) (hw _ mw_6_1) (fun _ h9 => h9) rfl dX9_loadOf_6 ?_
      refine lv_iconst (v := (4 : Int32)) hx hb dX9_loadOf_9 (by decide) ?_
      refine va_iald hx hb hK hP 2 0 rfl rfl (pg_lit (by decide)) dX9_loadOf_10 ?_
      refine lv_icmp_ge (tgt := 45) hx hb dX9_loadOf_11 (by decide) (fun h9 => ?_) (fun h9 => ?_)
      · have hf := pg_t h9 hf
        exact WK45_1 _ _ _ _ hP hD hS (lv_sub hl [2] rfl) hf
      · have hf := pg_f h9 hf
        refine lv_iload_n hx hb dX9_loadOf_14 rfl (lv_at hl 2 rfl) ?_
        refine lv_iload_n hx hb dX9_loadOf_15 rfl (lv_at hl 1 rfl) ?_
        refine lv_iload_n hx hb dX9_loadOf_16 rfl (lv_at hl 3 rfl) ?_
        refine lv_ishr hx hb dX9_loadOf_17 ?_
        refine lv_iconst (v := (1 : Int32)) hx hb dX9_loadOf_18 (by decide) ?_
        refine lv_iand hx hb dX9_loadOf_19 ?_
        refine lv_iconst (v := (1 : Int32)) hx hb dX9_loadOf_20 (by decide) ?_
        obtain ⟨J37_3, hJ37_3, hf⟩ := jn1_s hf
        have WJ37_3 : ∀ (z1_3 : Int32) (H : Heap) (locs : List Loc) (ls : Array Slot), va_P (dC, dI) vwCl (W_X9z cI cZ cII qz qz_text qz_t qz_draft qz_s qz_kept qz_isKept qz_times qz_w qz_at qz_pulled qz_best qz_cartRow qz_tryRow qz_pairs qz_from qz_then qz_tryAt z_thrown z_typed z_next z_token z_place z_value z_figures z_fault z_faultAt z_timeMany z_eaten z_half z_bestMinutes z_bestOats z_isDue z_text z_t z_draft z_s z_kept z_isKept z_times z_w z_at z_pulled z_best z_cartRow z_tryRow z_pairs z_from z_then z_tryAt) H → va_D A (W_X9z cI cZ cII qz qz_text qz_t qz_draft qz_s qz_kept qz_isKept qz_times qz_w qz_at qz_pulled qz_best qz_cartRow qz_tryRow qz_pairs qz_from qz_then qz_tryAt z_thrown z_typed z_next z_token z_place z_value z_figures z_fault z_faultAt z_timeMany z_eaten z_half z_bestMinutes z_bestOats z_isDue z_text z_t z_draft z_s z_kept z_isKept z_times z_w z_at z_pulled z_best z_cartRow z_tryRow z_pairs z_from z_then z_tryAt) → va_S A s.heap H locs → lv_has ls 4 [(0, .ref qz), (1, .int n1), (3, .int y3_2)] → J37_3 z1_3 = some (rr) → W p l e rm_X9_loadOf s m args below meth c H locs 0 0 Q (F0 m 37 ls [.int z1_3, .int y2_2]) := by
          intro z1_3 H locs ls hP hD hS hl hf
          have hf := hJ37_3 _ hf
          refine lv_iadd hx hb dX9_loadOf_37 ?_
          refine lv_istore_n (lv' := [(2, .int (y2_2 + z1_3)), (0, .ref qz), (1, .int n1), (3, .int y3_2)]) hx hb dX9_loadOf_38 rfl hl (by decide) rfl (fun ls hl => ?_)
          refine lv_iinc (v := (y3_2 + (1 : Int32))) (lv' := [(3, .int (y3_2 + (1 : Int32))), (2, .int (y2_2 + z1_3)), (0, .ref qz), (1, .int n1)]) hx hb dX9_loadOf_39 hl (k := 3) rfl rfl (by decide) rfl (fun ls hl => ?_)
          refine lv_goto (tgt := 4) hx hb dX9_loadOf_42 (by decide) ?_
          exact ih _ _ _ _ _ hP hD hS (lv_sub hl [2, 3, 1, 0] rfl) (hrec2 _ _ hf)
        refine lv_icmp_ne (tgt := 36) hx hb dX9_loadOf_21 (by decide) (fun h9 => ?_) (fun h9 => ?_)
        · have hf := pg_f h9 hf
          refine lv_iconst (v := (0 : Int32)) hx hb dX9_loadOf_36 (by decide) ?_
          exact WJ37_3 _ _ _ _ hP hD hS (lv_sub hl [0, 1, 3] rfl) hf
        · have hf := pg_t h9 hf
          refine lv_aload_n hx hb dX9_loadOf_24 rfl (lv_at hl 0 rfl) ?_
          refine va_get (D := (dC, dI)) (ci := 9) (v := .ref qz_t) (C := RX9) (T := TX9) (N := 32) hx hb hw inlX9 hown hK hP 0 rfl rfl 10 (by decide) (hw _ mw_6_1) (fun _ h9 => h9) rfl dX9_loadOf_25 ?_
          refine lv_bipush (v := (80 : Int32)) hx hb dX9_loadOf_28 (by decide) ?_
          refine lv_iload_n hx hb dX9_loadOf_30 rfl (lv_at hl 3 rfl) ?_
          refine lv_iadd hx hb dX9_loadOf_31 ?_
          obtain ⟨hi4, hf⟩ := pg_chk hf
          refine va_iald hx hb hK hP 2 0 rfl rfl hi4 dX9_loadOf_32 ?_
          refine lv_goto (tgt := 37) hx hb dX9_loadOf_33 (by decide) ?_
          exact WJ37_3 _ _ _ _ hP hD hS (lv_sub hl [0, 1, 3] rfl) hf
  exact WL2 fu _ _ _ _ _ hP hD hS (lv_sub hl [2, 3, 1, 0] rfl) hf
def f_X9_isOver (n1 : Int32) (z_eaten : Int32) (z_half : Int32) (z_bestMinutes : Int32) (z_bestOats : Int32) (z_t : Nat → Int32) (z_s : Nat → Int32) (z_w : Nat → Int32) (z_at : Nat → Int32) (z_pulled : Nat → Int32) (z_best : Nat → Int32) (z_tryRow : Nat → Int32) (z_from : Nat → Int32) : Option (Int32 × Int32 × Int32 × Int32 × (Nat → Int32) × (Nat → Int32) × (Nat → Int32) × (Nat → Int32) × (Nat → Int32)) :=
  bn1 (f_X9_fromNow z_s z_from) (fun (z_from_1 : Nat → Int32) =>
    jn9 (fun (y2_2 : Int32) (z_eaten_2 : Int32) (z_bestMinutes_2 : Int32) (z_bestOats_2 : Int32) (z_w_2 : Nat → Int32) (z_at_2 : Nat → Int32) (z_pulled_2 : Nat → Int32) (z_best_2 : Nat → Int32) (z_from_2 : Nat → Int32) =>
      if y2_2 = 0 ∨ y2_2 = 1 then
      some (y2_2, z_eaten_2, z_bestMinutes_2, z_bestOats_2, z_w_2, z_at_2, z_pulled_2, z_best_2, z_from_2)
      else none
    ) (fun K149_2 =>
    lq10 (fun rec3 (y2_3 : Int32) (y3_3 : Int32) (z_eaten_3 : Int32) (z_bestMinutes_3 : Int32) (z_bestOats_3 : Int32) (z_w_3 : Nat → Int32) (z_at_3 : Nat → Int32) (z_pulled_3 : Nat → Int32) (z_best_3 : Nat → Int32) (z_from_3 : Nat → Int32) =>
      if n1 ≤ y3_3 then
        K149_2 y2_3 z_eaten_3 z_bestMinutes_3 z_bestOats_3 z_w_3 z_at_3 z_pulled_3 z_best_3 z_from_3
      else
        if y2_3 = 0 then
          K149_2 y2_3 z_eaten_3 z_bestMinutes_3 z_bestOats_3 z_w_3 z_at_3 z_pulled_3 z_best_3 z_from_3
        else
          if y3_3 < 0 ∨ 4 ≤ (y3_3).toNatClampNeg then none else
          bn1 (f_X9_loadOf (z_tryRow (y3_3).toNatClampNeg) z_t) (fun (r_5 : Int32) =>
            bn8 (f_X9_finds ((z_s ((9 : Int32)).toNatClampNeg) + y3_3) r_5 (-1 : Int32) (0 : Int32) z_eaten_3 z_half z_bestMinutes_3 z_bestOats_3 z_t z_w_3 z_at_3 z_pulled_3 z_best_3 z_from_3) (fun (r_6 : Int32) (z_eaten_6 : Int32) (z_bestMinutes_6 : Int32) (z_bestOats_6 : Int32) (z_w_6 : Nat → Int32) (z_at_6 : Nat → Int32) (z_pulled_6 : Nat → Int32) (z_best_6 : Nat → Int32) =>
              jn5 (fun (z_eaten_7 : Int32) (z_w_7 : Nat → Int32) (z_at_7 : Nat → Int32) (z_pulled_7 : Nat → Int32) (z_from_7 : Nat → Int32) =>
                rec3 r_6 (y3_3 + (1 : Int32)) z_eaten_7 z_bestMinutes_6 z_bestOats_6 z_w_7 z_at_7 z_pulled_7 z_best_6 z_from_7
              ) (fun J143_7 =>
              if r_6 = 0 then
                J143_7 z_eaten_6 z_w_6 z_at_6 z_pulled_6 z_from_3
              else
                bn1 (f_X9_strong z_w_6 z_from_3) (fun (z_w_8 : Nat → Int32) =>
                  bn4 (f_X9_crosses ((z_s ((9 : Int32)).toNatClampNeg) + y3_3) r_5 z_eaten_6 z_half z_t z_w_8 (upd (upd (upd z_at_6 ((0 : Int32)).toNatClampNeg (z_best_6 ((0 : Int32)).toNatClampNeg)) ((1 : Int32)).toNatClampNeg (z_best_6 ((1 : Int32)).toNatClampNeg)) ((2 : Int32)).toNatClampNeg (z_best_6 ((2 : Int32)).toNatClampNeg)) z_pulled_6) (fun (r_9 : Int32) (z_eaten_9 : Int32) (z_w_9 : Nat → Int32) (z_pulled_9 : Nat → Int32) =>
                    bn1 (f_X9_rests (1 : Int32) (0 : Int32) z_t z_w_9 (upd (upd (upd z_at_6 ((0 : Int32)).toNatClampNeg (z_best_6 ((0 : Int32)).toNatClampNeg)) ((1 : Int32)).toNatClampNeg (z_best_6 ((1 : Int32)).toNatClampNeg)) ((2 : Int32)).toNatClampNeg (z_best_6 ((2 : Int32)).toNatClampNeg))) (fun (z_w_10 : Nat → Int32) =>
                      lq2 (fun rec12 (y5_12 : Int32) (z_from_12 : Nat → Int32) =>
                        if (6 : Int32) ≤ y5_12 then
                          J143_7 z_eaten_9 z_w_10 (upd (upd (upd z_at_6 ((0 : Int32)).toNatClampNeg (z_best_6 ((0 : Int32)).toNatClampNeg)) ((1 : Int32)).toNatClampNeg (z_best_6 ((1 : Int32)).toNatClampNeg)) ((2 : Int32)).toNatClampNeg (z_best_6 ((2 : Int32)).toNatClampNeg)) z_pulled_9 z_from_12
                        else
                          if y5_12 < 0 ∨ 6 ≤ (y5_12).toNatClampNeg then none else
                          rec12 (y5_12 + (1 : Int32)) (upd z_from_12 (y5_12).toNatClampNeg (z_w_10 (y5_12).toNatClampNeg))
                      ) fu (0 : Int32) z_from_3
                    )
                  )
                )
              )
            )
          )
    ) fu (1 : Int32) (0 : Int32) z_eaten z_bestMinutes z_bestOats z_w z_at z_pulled z_best z_from_1
    )
  )
abbrev rm_X9_isOver : Room := { frames := 6, cells := 0, slots := 0, locals := 145 }
theorem dk_X9_isOver : yX9_isOver.cls = RX9 ∧ yX9_isOver.cls ≠ "java/lang/invoke/MethodHandle" ∧ yX9_isOver.cls ≠ "java/lang/invoke/VarHandle" ∧ (parseMethodDescriptor yX9_isOver.desc).map (fun d => d.parameters.length) = some 1 := by decide +kernel
set_option maxHeartbeats 4000000 in
set_option maxRecDepth 100000 in
theorem c_X9_isOver (l : Launch) (dC : Nat → ClassId) (dI : Nat → Nat → Nat) (cI cZ cII : ClassId) (qz qz_text qz_t qz_draft qz_s qz_kept qz_isKept qz_times qz_w qz_at qz_pulled qz_best qz_cartRow qz_tryRow qz_pairs qz_from qz_then qz_tryAt : Nat) (sz : Nat) (z_thrown : Int32) (z_typed : Int32) (z_next : Int32) (z_token : Int32) (z_place : Int32) (z_value : Int32) (z_figures : Int32) (z_fault : Int32) (z_faultAt : Int32) (z_timeMany : Int32) (z_eaten : Int32) (z_half : Int32) (z_bestMinutes : Int32) (z_bestOats : Int32) (z_isDue : Int32) (z_text : Nat → Int32) (z_t : Nat → Int32) (z_draft : Nat → Int32) (z_s : Nat → Int32) (z_kept : Nat → Int32) (z_isKept : Nat → Int32) (z_times : Nat → Int32) (z_w : Nat → Int32) (z_at : Nat → Int32) (z_pulled : Nat → Int32) (z_best : Nat → Int32) (z_cartRow : Nat → Int32) (z_tryRow : Nat → Int32) (z_pairs : Nat → Int32) (z_from : Nat → Int32) (z_then : Nat → Int32) (z_tryAt : Nat → Int32) (n1 : Int32) (rr : Int32) (z_eaten' : Int32) (z_bestMinutes' : Int32) (z_bestOats' : Int32) (z_w' : Nat → Int32) (z_at' : Nat → Int32) (z_pulled' : Nat → Int32) (z_best' : Nat → Int32) (z_from' : Nat → Int32) (hf : f_X9_isOver n1 z_eaten z_half z_bestMinutes z_bestOats z_t z_s z_w z_at z_pulled z_best z_tryRow z_from = some (rr, z_eaten', z_bestMinutes', z_bestOats', z_w', z_at', z_pulled', z_best', z_from')) : Met l yX9_isOver (wM yX9_isOver cX9_isOver 6 (some .boolean)) rm_X9_isOver (PreW (dC, dI) (tyA cI cZ cII) (W_X9z cI cZ cII qz qz_text qz_t qz_draft qz_s qz_kept qz_isKept qz_times qz_w qz_at qz_pulled qz_best qz_cartRow qz_tryRow qz_pairs qz_from qz_then qz_tryAt z_thrown z_typed z_next z_token z_place z_value z_figures z_fault z_faultAt z_timeMany z_eaten z_half z_bestMinutes z_bestOats z_isDue z_text z_t z_draft z_s z_kept z_isKept z_times z_w z_at z_pulled z_best z_cartRow z_tryRow z_pairs z_from z_then z_tryAt) sz [.ref qz, .int n1]) (PostI (dC, dI) (tyA cI cZ cII) rr (W_X9z cI cZ cII qz qz_text qz_t qz_draft qz_s qz_kept qz_isKept qz_times qz_w qz_at qz_pulled qz_best qz_cartRow qz_tryRow qz_pairs qz_from qz_then qz_tryAt z_thrown z_typed z_next z_token z_place z_value z_figures z_fault z_faultAt z_timeMany z_eaten z_half z_bestMinutes z_bestOats z_isDue z_text z_t z_draft z_s z_kept z_isKept z_times z_w z_at z_pulled z_best z_cartRow z_tryRow z_pairs z_from z_then z_tryAt) (W_X9z cI cZ cII qz qz_text qz_t qz_draft qz_s qz_kept qz_isKept qz_times qz_w qz_at qz_pulled qz_best qz_cartRow qz_tryRow qz_pairs qz_from qz_then qz_tryAt z_thrown z_typed z_next z_token z_place z_value z_figures z_fault z_faultAt z_timeMany z_eaten' z_half z_bestMinutes' z_bestOats' z_isDue z_text z_t z_draft z_s z_kept z_isKept z_times z_w' z_at' z_pulled' z_best' z_cartRow z_tryRow z_pairs z_from' z_then z_tryAt) sz) 0 0 (va_A (W_X9z cI cZ cII qz qz_text qz_t qz_draft qz_s qz_kept qz_isKept qz_times qz_w qz_at qz_pulled qz_best qz_cartRow qz_tryRow qz_pairs qz_from qz_then qz_tryAt z_thrown z_typed z_next z_token z_place z_value z_figures z_fault z_faultAt z_timeMany z_eaten z_half z_bestMinutes z_bestOats z_isDue z_text z_t z_draft z_s z_kept z_isKept z_times z_w z_at z_pulled z_best z_cartRow z_tryRow z_pairs z_from z_then z_tryAt) sz) := by
  refine Met.ofW (cc := cX9_isOver) (maxL := 6) (ret := (some .boolean)) (by decide) rfl ?_
  intro p e s m args below meth c s₁ B hml hv
  obtain ⟨rfl, hsz, hP, hK, hD0⟩ := hv
  have hx := B.exec
  have hb := B.bytes
  have hr := B.returns
  have hts := atoms_spec (ws := wM yX9_isOver cX9_isOver 6 (some .boolean)) B.pre
  have hown : s.vm.findClass RX9 = some m.cls := findClass_of_methodNamed B.named
  have hlocks := B.notSynchronized
  subst hsz
  have hD := hD0.self (sz := s.heap.size)
  obtain ⟨A, hAe⟩ : ∃ A, A = va_A (W_X9z cI cZ cII qz qz_text qz_t qz_draft qz_s qz_kept qz_isKept qz_times qz_w qz_at qz_pulled qz_best qz_cartRow qz_tryRow qz_pairs qz_from qz_then qz_tryAt z_thrown z_typed z_next z_token z_place z_value z_figures z_fault z_faultAt z_timeMany z_eaten z_half z_bestMinutes z_bestOats z_isDue z_text z_t z_draft z_s z_kept z_isKept z_times z_w z_at z_pulled z_best z_cartRow z_tryRow z_pairs z_from z_then z_tryAt) s.heap.size := ⟨_, rfl⟩
  rw [← hAe] at hD
  have hA : ∀ q : Nat, s.heap.size ≤ q → A q := fun q h => by rw [hAe]; exact Or.inr h
  have hS : va_S A s.heap s.heap [] := va_S.rf
  have hl := lv_entry ([.ref qz, .int n1]) (n := 6) (Nat.le_of_ble_eq_true rfl)
  rw [lg_entry_eq]
  generalize (lg_sl ([.ref qz, .int n1]) ++ List.replicate (6 - (lg_sl ([.ref qz, .int n1])).length) Slot.unset).toArray = ls at hl ⊢
  have hl : lv_has ls 6 [(0, .ref qz), (1, .int n1)] := hl
  generalize ([.ref qz, .int n1] : List Value).toArray = args at hts ⊢
  have hw : ∀ w ∈ wsL_law, w.before args s = true := fun w h => hts w (List.mem_cons_of_mem _ h)
  refine pg_start (fun Q hQ => ?_)
  have RET : ∀ (H : Heap) (locs : List Loc) (ls : Array Slot) (pc : Nat) (v : Int32) (x0 : Int32) (x1 : Int32) (x2 : Int32) (x3 : Nat → Int32) (x4 : Nat → Int32) (x5 : Nat → Int32) (x6 : Nat → Int32) (x7 : Nat → Int32) , decode cX9_isOver pc = .ok (.ireturn, 1) → (v = 0 ∨ v = 1) → va_P (dC, dI) vwCl (W_X9z cI cZ cII qz qz_text qz_t qz_draft qz_s qz_kept qz_isKept qz_times qz_w qz_at qz_pulled qz_best qz_cartRow qz_tryRow qz_pairs qz_from qz_then qz_tryAt z_thrown z_typed z_next z_token z_place z_value z_figures z_fault z_faultAt z_timeMany x0 z_half x1 x2 z_isDue z_text z_t z_draft z_s z_kept z_isKept z_times x3 x4 x5 x6 z_cartRow z_tryRow z_pairs x7 z_then z_tryAt) H → va_D A (W_X9z cI cZ cII qz qz_text qz_t qz_draft qz_s qz_kept qz_isKept qz_times qz_w qz_at qz_pulled qz_best qz_cartRow qz_tryRow qz_pairs qz_from qz_then qz_tryAt z_thrown z_typed z_next z_token z_place z_value z_figures z_fault z_faultAt z_timeMany x0 z_half x1 x2 z_isDue z_text z_t z_draft z_s z_kept z_isKept z_times x3 x4 x5 x6 z_cartRow z_tryRow z_pairs x7 z_then z_tryAt) → va_S A s.heap H locs → (some (v, x0, x1, x2, x3, x4, x5, x6, x7) : Option (Int32 × Int32 × Int32 × Int32 × (Nat → Int32) × (Nat → Int32) × (Nat → Int32) × (Nat → Int32) × (Nat → Int32))) = some (rr, z_eaten', z_bestMinutes', z_bestOats', z_w', z_at', z_pulled', z_best', z_from') → W p l e rm_X9_isOver s m args below meth c H locs 0 0 Q (F0 m pc ls [.int v]) := by
    intro H locs ls pc v x0 x1 x2 x3 x4 x5 x6 x7 hd hz hP hD hS he
    subst hAe; subst hQ
    simp only [Option.some.injEq, Prod.mk.injEq] at he
    obtain ⟨rfl, rfl, rfl, rfl, rfl, rfl, rfl, rfl, rfl⟩ := he
    exact pg_zret hx hb hr hlocks hz hK hP hD hS hd
  unfold f_X9_isOver at hf
  refine lv_aload_n hx hb dX9_isOver_0 rfl (lv_at hl 0 rfl) ?_
  obtain ⟨z_from_1, hc, hf⟩ := bn1_s hf
  refine pg_cVv (As := []) (rest := []) (wf := (W_X9z cI cZ cII qz qz_text qz_t qz_draft qz_s qz_kept qz_isKept qz_times qz_w qz_at qz_pulled qz_best qz_cartRow qz_tryRow qz_pairs qz_from qz_then qz_tryAt z_thrown z_typed z_next z_token z_place z_value z_figures z_fault z_faultAt z_timeMany z_eaten z_half z_bestMinutes z_bestOats z_isDue z_text z_t z_draft z_s z_kept z_isKept z_times z_w z_at z_pulled z_best z_cartRow z_tryRow z_pairs z_from_1 z_then z_tryAt)) ⟨hx, hb, hml, hown, hw⟩ (c_X9_fromNow l dC dI cI cZ cII qz qz_text qz_t qz_draft qz_s qz_kept qz_isKept qz_times qz_w qz_at qz_pulled qz_best qz_cartRow qz_tryRow qz_pairs qz_from qz_then qz_tryAt s.heap.size z_thrown z_typed z_next z_token z_place z_value z_figures z_fault z_faultAt z_timeMany z_eaten z_half z_bestMinutes z_bestOats z_isDue z_text z_t z_draft z_s z_kept z_isKept z_times z_w z_at z_pulled z_best z_cartRow z_tryRow z_pairs z_from z_then z_tryAt  z_from_1 hc) (cwV 0 hts (wM_V mw_35_16 mw_35_17 mw_35_18 mw_1_5 mw_35_19) rfl rfl rfl dk_X9_fromNow ⟨Nat.le_of_ble_eq_true rfl, Nat.le_of_ble_eq_true rfl⟩) hK hP hD hS hA 9 0 rfl rfl rfl [0, 1, 2, 3, 4, 5, 6, 7, 8, 9, 10, 11, 12, 13, 14, 15, 16, 17] [] [0, 1, 2, 3, 4, 5, 6, 7, 8, 9, 10, 11, 12, 13, 14, 15, 16, 17] (plC_64 cI cZ cII qz qz_text qz_t qz_draft qz_s qz_kept qz_isKept qz_times qz_w qz_at qz_pulled qz_best qz_cartRow qz_tryRow qz_pairs qz_from qz_then qz_tryAt z_thrown z_typed z_next z_token z_place z_value z_figures z_fault z_faultAt z_timeMany z_eaten z_half z_bestMinutes z_bestOats z_isDue z_text z_t z_draft z_s z_kept z_isKept z_times z_w z_at z_pulled z_best z_cartRow z_tryRow z_pairs z_from z_then z_tryAt) rfl (plF_64 cI cZ cII qz qz_text qz_t qz_draft qz_s qz_kept qz_isKept qz_times qz_w qz_at qz_pulled qz_best qz_cartRow qz_tryRow qz_pairs qz_from qz_then qz_tryAt z_thrown z_typed z_next z_token z_place z_value z_figures z_fault z_faultAt z_timeMany z_eaten z_half z_bestMinutes z_bestOats z_isDue z_text z_t z_draft z_s z_kept z_isKept z_times z_w z_at z_pulled z_best z_cartRow z_tryRow z_pairs z_from z_then z_tryAt z_thrown z_typed z_next z_token z_place z_value z_figures z_fault z_faultAt z_timeMany z_eaten z_half z_bestMinutes z_bestOats z_isDue z_text z_t z_draft z_s z_kept z_isKept z_times z_w z_at z_pulled z_best z_cartRow z_tryRow z_pairs z_from_1 z_then z_tryAt) (by decide) rfl hl.1 rfl (Nat.le_of_ble_eq_true rfl) dX9_isOver_1 ⟨Nat.zero_le _, Nat.zero_le _⟩ (fun H locs hP hD hS => ?_)
  refine lv_iconst (v := (1 : Int32)) hx hb dX9_isOver_4 (by decide) ?_
  refine lv_istore_n (lv' := [(2, .int (1 : Int32)), (0, .ref qz), (1, .int n1)]) hx hb dX9_isOver_5 rfl hl (by decide) rfl (fun ls hl => ?_)
  refine lv_iconst (v := (0 : Int32)) hx hb dX9_isOver_6 (by decide) ?_
  refine lv_istore_n (lv' := [(3, .int (0 : Int32)), (2, .int (1 : Int32)), (0, .ref qz), (1, .int n1)]) hx hb dX9_isOver_7 rfl hl (by decide) rfl (fun ls hl => ?_)
  obtain ⟨K149_2, hK149_2, hf⟩ := jn9_s hf
  have WK149_2 : ∀ (y2_2 : Int32) (z_eaten_2 : Int32) (z_bestMinutes_2 : Int32) (z_bestOats_2 : Int32) (z_w_2 : Nat → Int32) (z_at_2 : Nat → Int32) (z_pulled_2 : Nat → Int32) (z_best_2 : Nat → Int32) (z_from_2 : Nat → Int32) (H : Heap) (locs : List Loc) (ls : Array Slot), va_P (dC, dI) vwCl (W_X9z cI cZ cII qz qz_text qz_t qz_draft qz_s qz_kept qz_isKept qz_times qz_w qz_at qz_pulled qz_best qz_cartRow qz_tryRow qz_pairs qz_from qz_then qz_tryAt z_thrown z_typed z_next z_token z_place z_value z_figures z_fault z_faultAt z_timeMany z_eaten_2 z_half z_bestMinutes_2 z_bestOats_2 z_isDue z_text z_t z_draft z_s z_kept z_isKept z_times z_w_2 z_at_2 z_pulled_2 z_best_2 z_cartRow z_tryRow z_pairs z_from_2 z_then z_tryAt) H → va_D A (W_X9z cI cZ cII qz qz_text qz_t qz_draft qz_s qz_kept qz_isKept qz_times qz_w qz_at qz_pulled qz_best qz_cartRow qz_tryRow qz_pairs qz_from qz_then qz_tryAt z_thrown z_typed z_next z_token z_place z_value z_figures z_fault z_faultAt z_timeMany z_eaten_2 z_half z_bestMinutes_2 z_bestOats_2 z_isDue z_text z_t z_draft z_s z_kept z_isKept z_times z_w_2 z_at_2 z_pulled_2 z_best_2 z_cartRow z_tryRow z_pairs z_from_2 z_then z_tryAt) → va_S A s.heap H locs → lv_has ls 6 [(2, .int y2_2)] → K149_2 y2_2 z_eaten_2 z_bestMinutes_2 z_bestOats_2 z_w_2 z_at_2 z_pulled_2 z_best_2 z_from_2 = some (rr, z_eaten', z_bestMinutes', z_bestOats', z_w', z_at', z_pulled', z_best', z_from') → W p l e rm_X9_isOver s m args below meth c H locs 0 0 Q (F0 m 149 ls []) := by
    intro y2_2 z_eaten_2 z_bestMinutes_2 z_bestOats_2 z_w_2 z_at_2 z_pulled_2 z_best_2 z_from_2 H locs ls hP hD hS hl hf
    have hf := hK149_2 _ _ _ _ _ _ _ _ _ hf
    refine lv_iload_n hx hb dX9_isOver_149 rfl (lv_at hl 0 rfl) ?_
    obtain ⟨h8, hf⟩ := pg_chq hf
    exact RET _ _ _ _ _ _ _ _ _ _ _ _ _ dX9_isOver_150 h8 hP hD hS hf
  obtain ⟨B3, hB3, hf⟩ := lq10_n hf
  have WL3 : ∀ (n9 : Nat) (y2_3 : Int32) (y3_3 : Int32) (z_eaten_3 : Int32) (z_bestMinutes_3 : Int32) (z_bestOats_3 : Int32) (z_w_3 : Nat → Int32) (z_at_3 : Nat → Int32) (z_pulled_3 : Nat → Int32) (z_best_3 : Nat → Int32) (z_from_3 : Nat → Int32) (H : Heap) (locs : List Loc) (ls : Array Slot), va_P (dC, dI) vwCl (W_X9z cI cZ cII qz qz_text qz_t qz_draft qz_s qz_kept qz_isKept qz_times qz_w qz_at qz_pulled qz_best qz_cartRow qz_tryRow qz_pairs qz_from qz_then qz_tryAt z_thrown z_typed z_next z_token z_place z_value z_figures z_fault z_faultAt z_timeMany z_eaten_3 z_half z_bestMinutes_3 z_bestOats_3 z_isDue z_text z_t z_draft z_s z_kept z_isKept z_times z_w_3 z_at_3 z_pulled_3 z_best_3 z_cartRow z_tryRow z_pairs z_from_3 z_then z_tryAt) H → va_D A (W_X9z cI cZ cII qz qz_text qz_t qz_draft qz_s qz_kept qz_isKept qz_times qz_w qz_at qz_pulled qz_best qz_cartRow qz_tryRow qz_pairs qz_from qz_then qz_tryAt z_thrown z_typed z_next z_token z_place z_value z_figures z_fault z_faultAt z_timeMany z_eaten_3 z_half z_bestMinutes_3 z_bestOats_3 z_isDue z_text z_t z_draft z_s z_kept z_isKept z_times z_w_3 z_at_3 z_pulled_3 z_best_3 z_cartRow z_tryRow z_pairs z_from_3 z_then z_tryAt) → va_S A s.heap H locs → lv_has ls 6 [(0, .ref qz), (1, .int n1), (2, .int y2_3), (3, .int y3_3)] → lq10 B3 n9 y2_3 y3_3 z_eaten_3 z_bestMinutes_3 z_bestOats_3 z_w_3 z_at_3 z_pulled_3 z_best_3 z_from_3 = some (rr, z_eaten', z_bestMinutes', z_bestOats', z_w', z_at', z_pulled', z_best', z_from') → W p l e rm_X9_isOver s m args below meth c H locs 0 0 Q (F0 m 8 ls []) := by
    intro n9
    induction n9 with
    | zero => intro y2_3 y3_3 z_eaten_3 z_bestMinutes_3 z_bestOats_3 z_w_3 z_at_3 z_pulled_3 z_best_3 z_from_3 H locs ls hP hD hS hl hf; cases hf
    | succ n9 ih =>
      intro y2_3 y3_3 z_eaten_3 z_bestMinutes_3 z_bestOats_3 z_w_3 z_at_3 z_pulled_3 z_best_3 z_from_3 H locs ls hP hD hS hl hf
      obtain ⟨rec3, hrec3, hf⟩ := lq10_s hf
      have hf := hB3 rec3 _ _ _ _ _ _ _ _ _ _ hf
      refine lv_iload_n hx hb dX9_isOver_8 rfl (lv_at hl 3 rfl) ?_
      refine lv_iload_n hx hb dX9_isOver_9 rfl (lv_at hl 1 rfl) ?_
      refine lv_icmp_ge (tgt := 149) hx hb dX9_isOver_10 (by decide) (fun h9 => ?_) (fun h9 => ?_)
      · have hf := pg_t h9 hf
        exact WK149_2 _ _ _ _ _ _ _ _ _ _ _ _ hP hD hS (lv_sub hl [2] rfl) hf
      · have hf := pg_f h9 hf
        refine lv_iload_n hx hb dX9_isOver_13 rfl (lv_at hl 2 rfl) ?_
        refine lv_if_eq (tgt := 149) hx hb dX9_isOver_14 (by decide) (fun h9 => ?_) (fun h9 => ?_)
        · have hf := pg_t h9 hf
          exact WK149_2 _ _ _ _ _ _ _ _ _ _ _ _ hP hD hS (lv_sub hl [2] rfl) hf
        · have hf := pg_f h9 hf
          refine lv_aload_n hx hb dX9_isOver_17 rfl (lv_at hl 0 rfl) ?_
          refine lv_aload_n hx hb dX9_isOver_18 rfl (lv_at hl 0 rfl) ?_
          refine va_get (D := (dC, dI)) (ci := 9) (v := .ref qz_tryRow) (C := RX9) (T := TX9) (N := 32) hx hb hw inlX9 hown hK hP 0 rfl rfl 26 (by decide) (hw _ mw_6_14) (fun _ h9 => h9) rfl dX9_isOver_19 ?_
          refine lv_iload_n hx hb dX9_isOver_22 rfl (lv_at hl 3 rfl) ?_
          obtain ⟨hi4, hf⟩ := pg_chk hf
          refine va_iald hx hb hK hP 13 0 rfl rfl hi4 dX9_isOver_23 ?_
          obtain ⟨r_5, hc, hf⟩ := bn1_s hf
          refine pg_cVi (As := [.int (z_tryRow (y3_3).toNatClampNeg)]) (rest := []) (wf := (W_X9z cI cZ cII qz qz_text qz_t qz_draft qz_s qz_kept qz_isKept qz_times qz_w qz_at qz_pulled qz_best qz_cartRow qz_tryRow qz_pairs qz_from qz_then qz_tryAt z_thrown z_typed z_next z_token z_place z_value z_figures z_fault z_faultAt z_timeMany z_eaten_3 z_half z_bestMinutes_3 z_bestOats_3 z_isDue z_text z_t z_draft z_s z_kept z_isKept z_times z_w_3 z_at_3 z_pulled_3 z_best_3 z_cartRow z_tryRow z_pairs z_from_3 z_then z_tryAt)) ⟨hx, hb, hml, hown, hw⟩ (c_X9_loadOf l dC dI cI cZ cII qz qz_text qz_t qz_draft qz_s qz_kept qz_isKept qz_times qz_w qz_at qz_pulled qz_best qz_cartRow qz_tryRow qz_pairs qz_from qz_then qz_tryAt H.size z_thrown z_typed z_next z_token z_place z_value z_figures z_fault z_faultAt z_timeMany z_eaten_3 z_half z_bestMinutes_3 z_bestOats_3 z_isDue z_text z_t z_draft z_s z_kept z_isKept z_times z_w_3 z_at_3 z_pulled_3 z_best_3 z_cartRow z_tryRow z_pairs z_from_3 z_then z_tryAt (z_tryRow (y3_3).toNatClampNeg) r_5 hc) (cwV 1 hts (wM_V mw_42_6 mw_42_7 mw_42_8 mw_1_5 mw_42_9) rfl rfl rfl dk_X9_loadOf ⟨Nat.le_of_ble_eq_true rfl, Nat.le_of_ble_eq_true rfl⟩) hK hP hD hS hA 9 0 rfl rfl rfl [0, 1, 2, 3, 4, 5, 6, 7, 8, 9, 10, 11, 12, 13, 14, 15, 16, 17] [] [0, 1, 2, 3, 4, 5, 6, 7, 8, 9, 10, 11, 12, 13, 14, 15, 16, 17] (plC_64 cI cZ cII qz qz_text qz_t qz_draft qz_s qz_kept qz_isKept qz_times qz_w qz_at qz_pulled qz_best qz_cartRow qz_tryRow qz_pairs qz_from qz_then qz_tryAt z_thrown z_typed z_next z_token z_place z_value z_figures z_fault z_faultAt z_timeMany z_eaten_3 z_half z_bestMinutes_3 z_bestOats_3 z_isDue z_text z_t z_draft z_s z_kept z_isKept z_times z_w_3 z_at_3 z_pulled_3 z_best_3 z_cartRow z_tryRow z_pairs z_from_3 z_then z_tryAt) rfl (plF_64 cI cZ cII qz qz_text qz_t qz_draft qz_s qz_kept qz_isKept qz_times qz_w qz_at qz_pulled qz_best qz_cartRow qz_tryRow qz_pairs qz_from qz_then qz_tryAt z_thrown z_typed z_next z_token z_place z_value z_figures z_fault z_faultAt z_timeMany z_eaten_3 z_half z_bestMinutes_3 z_bestOats_3 z_isDue z_text z_t z_draft z_s z_kept z_isKept z_times z_w_3 z_at_3 z_pulled_3 z_best_3 z_cartRow z_tryRow z_pairs z_from_3 z_then z_tryAt z_thrown z_typed z_next z_token z_place z_value z_figures z_fault z_faultAt z_timeMany z_eaten_3 z_half z_bestMinutes_3 z_bestOats_3 z_isDue z_text z_t z_draft z_s z_kept z_isKept z_times z_w_3 z_at_3 z_pulled_3 z_best_3 z_cartRow z_tryRow z_pairs z_from_3 z_then z_tryAt) (by decide) rfl hl.1 rfl (Nat.le_of_ble_eq_true rfl) dX9_isOver_24 ⟨Nat.zero_le _, Nat.zero_le _⟩ (fun H locs hP hD hS => ?_)
          refine lv_istore (lv' := [(4, .int r_5), (0, .ref qz), (1, .int n1), (2, .int y2_3), (3, .int y3_3)]) hx hb dX9_isOver_27 hl (by decide) rfl (fun ls hl => ?_)
          refine lv_aload_n hx hb dX9_isOver_29 rfl (lv_at hl 1 rfl) ?_
          refine lv_aload_n hx hb dX9_isOver_30 rfl (lv_at hl 1 rfl) ?_
          refine va_get (D := (dC, dI)) (ci := 9) (v := .ref qz_s) (C := RX9) (T := TX9) (N := 32) hx hb hw inlX9 hown hK hP 0 rfl rfl 12 (by decide) (hw _ mw_6_3) (fun _ h9 => h9) rfl dX9_isOver_31 ?_
          refine lv_bipush (v := (9 : Int32)) hx hb dX9_isOver_34 (by decide) ?_
          refine va_iald hx hb hK hP 4 0 rfl rfl (pg_lit (by decide)) dX9_isOver_36 ?_
          refine lv_iload_n hx hb dX9_isOver_37 rfl (lv_at hl 4 rfl) ?_
          refine lv_iadd hx hb dX9_isOver_38 ?_
          refine lv_iload hx hb dX9_isOver_39 (lv_at hl 0 rfl) ?_
          refine lv_iconst (v := (-1 : Int32)) hx hb dX9_isOver_41 (by decide) ?_
          refine lv_iconst (v := (0 : Int32)) hx hb dX9_isOver_42 (by decide) ?_
          obtain ⟨r_6, z_eaten_6, z_bestMinutes_6, z_bestOats_6, z_w_6, z_at_6, z_pulled_6, z_best_6, hc, hf⟩ := bn8_s hf
          refine pg_cVi (As := [.int ((z_s ((9 : Int32)).toNatClampNeg) + y3_3), .int r_5, .int (-1 : Int32), .int (0 : Int32)]) (rest := []) (wf := (W_X9z cI cZ cII qz qz_text qz_t qz_draft qz_s qz_kept qz_isKept qz_times qz_w qz_at qz_pulled qz_best qz_cartRow qz_tryRow qz_pairs qz_from qz_then qz_tryAt z_thrown z_typed z_next z_token z_place z_value z_figures z_fault z_faultAt z_timeMany z_eaten_6 z_half z_bestMinutes_6 z_bestOats_6 z_isDue z_text z_t z_draft z_s z_kept z_isKept z_times z_w_6 z_at_6 z_pulled_6 z_best_6 z_cartRow z_tryRow z_pairs z_from_3 z_then z_tryAt)) ⟨hx, hb, hml, hown, hw⟩ (c_X9_finds l dC dI cI cZ cII qz qz_text qz_t qz_draft qz_s qz_kept qz_isKept qz_times qz_w qz_at qz_pulled qz_best qz_cartRow qz_tryRow qz_pairs qz_from qz_then qz_tryAt H.size z_thrown z_typed z_next z_token z_place z_value z_figures z_fault z_faultAt z_timeMany z_eaten_3 z_half z_bestMinutes_3 z_bestOats_3 z_isDue z_text z_t z_draft z_s z_kept z_isKept z_times z_w_3 z_at_3 z_pulled_3 z_best_3 z_cartRow z_tryRow z_pairs z_from_3 z_then z_tryAt ((z_s ((9 : Int32)).toNatClampNeg) + y3_3) r_5 (-1 : Int32) (0 : Int32) r_6 z_eaten_6 z_bestMinutes_6 z_bestOats_6 z_w_6 z_at_6 z_pulled_6 z_best_6 hc) (cwV 4 hts (wM_V mw_35_20 mw_35_21 mw_35_22 mw_1_5 mw_35_23) rfl rfl rfl dk_X9_finds ⟨Nat.le_of_ble_eq_true rfl, Nat.le_of_ble_eq_true rfl⟩) hK hP hD hS hA 9 0 rfl rfl rfl [0, 1, 2, 3, 4, 5, 6, 7, 8, 9, 10, 11, 12, 13, 14, 15, 16, 17] [] [0, 1, 2, 3, 4, 5, 6, 7, 8, 9, 10, 11, 12, 13, 14, 15, 16, 17] (plC_64 cI cZ cII qz qz_text qz_t qz_draft qz_s qz_kept qz_isKept qz_times qz_w qz_at qz_pulled qz_best qz_cartRow qz_tryRow qz_pairs qz_from qz_then qz_tryAt z_thrown z_typed z_next z_token z_place z_value z_figures z_fault z_faultAt z_timeMany z_eaten_3 z_half z_bestMinutes_3 z_bestOats_3 z_isDue z_text z_t z_draft z_s z_kept z_isKept z_times z_w_3 z_at_3 z_pulled_3 z_best_3 z_cartRow z_tryRow z_pairs z_from_3 z_then z_tryAt) rfl (plF_64 cI cZ cII qz qz_text qz_t qz_draft qz_s qz_kept qz_isKept qz_times qz_w qz_at qz_pulled qz_best qz_cartRow qz_tryRow qz_pairs qz_from qz_then qz_tryAt z_thrown z_typed z_next z_token z_place z_value z_figures z_fault z_faultAt z_timeMany z_eaten_3 z_half z_bestMinutes_3 z_bestOats_3 z_isDue z_text z_t z_draft z_s z_kept z_isKept z_times z_w_3 z_at_3 z_pulled_3 z_best_3 z_cartRow z_tryRow z_pairs z_from_3 z_then z_tryAt z_thrown z_typed z_next z_token z_place z_value z_figures z_fault z_faultAt z_timeMany z_eaten_6 z_half z_bestMinutes_6 z_bestOats_6 z_isDue z_text z_t z_draft z_s z_kept z_isKept z_times z_w_6 z_at_6 z_pulled_6 z_best_6 z_cartRow z_tryRow z_pairs z_from_3 z_then z_tryAt) (by decide) rfl hl.1 rfl (Nat.le_of_ble_eq_true rfl) dX9_isOver_43 ⟨Nat.zero_le _, Nat.zero_le _⟩ (fun H locs hP hD hS => ?_)
          refine lv_istore_n (lv' := [(2, .int r_6), (4, .int r_5), (0, .ref qz), (1, .int n1), (3, .int y3_3)]) hx hb dX9_isOver_46 rfl hl (by decide) rfl (fun ls hl => ?_)
          refine lv_iload_n hx hb dX9_isOver_47 rfl (lv_at hl 0 rfl) ?_
          obtain ⟨J143_7, hJ143_7, hf⟩ := jn5_s hf
          have WJ143_7 : ∀ (z_eaten_7 : Int32) (z_w_7 : Nat → Int32) (z_at_7 : Nat → Int32) (z_pulled_7 : Nat → Int32) (z_from_7 : Nat → Int32) (H : Heap) (locs : List Loc) (ls : Array Slot), va_P (dC, dI) vwCl (W_X9z cI cZ cII qz qz_text qz_t qz_draft qz_s qz_kept qz_isKept qz_times qz_w qz_at qz_pulled qz_best qz_cartRow qz_tryRow qz_pairs qz_from qz_then qz_tryAt z_thrown z_typed z_next z_token z_place z_value z_figures z_fault z_faultAt z_timeMany z_eaten_7 z_half z_bestMinutes_6 z_bestOats_6 z_isDue z_text z_t z_draft z_s z_kept z_isKept z_times z_w_7 z_at_7 z_pulled_7 z_best_6 z_cartRow z_tryRow z_pairs z_from_7 z_then z_tryAt) H → va_D A (W_X9z cI cZ cII qz qz_text qz_t qz_draft qz_s qz_kept qz_isKept qz_times qz_w qz_at qz_pulled qz_best qz_cartRow qz_tryRow qz_pairs qz_from qz_then qz_tryAt z_thrown z_typed z_next z_token z_place z_value z_figures z_fault z_faultAt z_timeMany z_eaten_7 z_half z_bestMinutes_6 z_bestOats_6 z_isDue z_text z_t z_draft z_s z_kept z_isKept z_times z_w_7 z_at_7 z_pulled_7 z_best_6 z_cartRow z_tryRow z_pairs z_from_7 z_then z_tryAt) → va_S A s.heap H locs → lv_has ls 6 [(0, .ref qz), (1, .int n1), (2, .int r_6), (3, .int y3_3)] → J143_7 z_eaten_7 z_w_7 z_at_7 z_pulled_7 z_from_7 = some (rr, z_eaten', z_bestMinutes', z_bestOats', z_w', z_at', z_pulled', z_best', z_from') → W p l e rm_X9_isOver s m args below meth c H locs 0 0 Q (F0 m 143 ls []) := by
            intro z_eaten_7 z_w_7 z_at_7 z_pulled_7 z_from_7 H locs ls hP hD hS hl hf
            have hf := hJ143_7 _ _ _ _ _ hf
            refine lv_iinc (v := (y3_3 + (1 : Int32))) (lv' := [(3, .int (y3_3 + (1 : Int32))), (0, .ref qz), (1, .int n1), (2, .int r_6)]) hx hb dX9_isOver_143 hl (k := 3) rfl rfl (by decide) rfl (fun ls hl => ?_)
            refine lv_goto (tgt := 8) hx hb dX9_isOver_146 (by decide) ?_
            exact ih _ _ _ _ _ _ _ _ _ _ _ _ _ hP hD hS (lv_sub hl [1, 2, 3, 0] rfl) (hrec3 _ _ _ _ _ _ _ _ _ _ hf)
          refine lv_if_eq (tgt := 143) hx hb dX9_isOver_48 (by decide) (fun h9 => ?_) (fun h9 => ?_)
          · have hf := pg_t h9 hf
            exact WJ143_7 _ _ _ _ _ _ _ _ hP hD hS (lv_sub hl [2, 3, 0, 4] rfl) hf
          · have hf := pg_f h9 hf
            refine lv_aload_n hx hb dX9_isOver_51 rfl (lv_at hl 2 rfl) ?_
            refine va_get (D := (dC, dI)) (ci := 9) (v := .ref qz_at) (C := RX9) (T := TX9) (N := 32) hx hb hw inlX9 hown hK hP 0 rfl rfl 18 (by decide) (hw _ mw_6_9) (fun _ h9 => h9) rfl dX9_isOver_52 ?_
            refine lv_iconst (v := (0 : Int32)) hx hb dX9_isOver_55 (by decide) ?_
            refine lv_aload_n hx hb dX9_isOver_56 rfl (lv_at hl 2 rfl) ?_
            refine va_get (D := (dC, dI)) (ci := 9) (v := .ref qz_best) (C := RX9) (T := TX9) (N := 32) hx hb hw inlX9 hown hK hP 0 rfl rfl 22 (by decide) (hw _ mw_6_12) (fun _ h9 => h9) rfl dX9_isOver_57 ?_
            refine lv_iconst (v := (0 : Int32)) hx hb dX9_isOver_60 (by decide) ?_
            refine va_iald hx hb hK hP 11 0 rfl rfl (pg_lit (by decide)) dX9_isOver_61 ?_
            refine va_iast hx hb hK hP hD hS 9 0 rfl rfl (pg_lit (by decide)) dX9_isOver_62 (fun H locs hP hD hS => ?_)
            have hP : va_P (dC, dI) vwCl (W_X9z cI cZ cII qz qz_text qz_t qz_draft qz_s qz_kept qz_isKept qz_times qz_w qz_at qz_pulled qz_best qz_cartRow qz_tryRow qz_pairs qz_from qz_then qz_tryAt z_thrown z_typed z_next z_token z_place z_value z_figures z_fault z_faultAt z_timeMany z_eaten_6 z_half z_bestMinutes_6 z_bestOats_6 z_isDue z_text z_t z_draft z_s z_kept z_isKept z_times z_w_6 (upd z_at_6 ((0 : Int32)).toNatClampNeg (z_best_6 ((0 : Int32)).toNatClampNeg)) z_pulled_6 z_best_6 z_cartRow z_tryRow z_pairs z_from_3 z_then z_tryAt) H := hP
            have hD : va_D A (W_X9z cI cZ cII qz qz_text qz_t qz_draft qz_s qz_kept qz_isKept qz_times qz_w qz_at qz_pulled qz_best qz_cartRow qz_tryRow qz_pairs qz_from qz_then qz_tryAt z_thrown z_typed z_next z_token z_place z_value z_figures z_fault z_faultAt z_timeMany z_eaten_6 z_half z_bestMinutes_6 z_bestOats_6 z_isDue z_text z_t z_draft z_s z_kept z_isKept z_times z_w_6 (upd z_at_6 ((0 : Int32)).toNatClampNeg (z_best_6 ((0 : Int32)).toNatClampNeg)) z_pulled_6 z_best_6 z_cartRow z_tryRow z_pairs z_from_3 z_then z_tryAt) := hD
            refine lv_aload_n hx hb dX9_isOver_63 rfl (lv_at hl 2 rfl) ?_
            refine va_get (D := (dC, dI)) (ci := 9) (v := .ref qz_at) (C := RX9) (T := TX9) (N := 32) hx hb hw inlX9 hown hK hP 0 rfl rfl 18 (by decide) (hw _ mw_6_9) (fun _ h9 => h9) rfl dX9_isOver_64 ?_
            refine lv_iconst (v := (1 : Int32)) hx hb dX9_isOver_67 (by decide) ?_
            refine lv_aload_n hx hb dX9_isOver_68 rfl (lv_at hl 2 rfl) ?_
            refine va_get (D := (dC, dI)) (ci := 9) (v := .ref qz_best) (C := RX9) (T := TX9) (N := 32) hx hb hw inlX9 hown hK hP 0 rfl rfl 22 (by decide) (hw _ mw_6_12) (fun _ h9 => h9) rfl dX9_isOver_69 ?_
            refine lv_iconst (v := (1 : Int32)) hx hb dX9_isOver_72 (by decide) ?_
            refine va_iald hx hb hK hP 11 0 rfl rfl (pg_lit (by decide)) dX9_isOver_73 ?_
            refine va_iast hx hb hK hP hD hS 9 0 rfl rfl (pg_lit (by decide)) dX9_isOver_74 (fun H locs hP hD hS => ?_)
            have hP : va_P (dC, dI) vwCl (W_X9z cI cZ cII qz qz_text qz_t qz_draft qz_s qz_kept qz_isKept qz_times qz_w qz_at qz_pulled qz_best qz_cartRow qz_tryRow qz_pairs qz_from qz_then qz_tryAt z_thrown z_typed z_next z_token z_place z_value z_figures z_fault z_faultAt z_timeMany z_eaten_6 z_half z_bestMinutes_6 z_bestOats_6 z_isDue z_text z_t z_draft z_s z_kept z_isKept z_times z_w_6 (upd (upd z_at_6 ((0 : Int32)).toNatClampNeg (z_best_6 ((0 : Int32)).toNatClampNeg)) ((1 : Int32)).toNatClampNeg (z_best_6 ((1 : Int32)).toNatClampNeg)) z_pulled_6 z_best_6 z_cartRow z_tryRow z_pairs z_from_3 z_then z_tryAt) H := hP
            have hD : va_D A (W_X9z cI cZ cII qz qz_text qz_t qz_draft qz_s qz_kept qz_isKept qz_times qz_w qz_at qz_pulled qz_best qz_cartRow qz_tryRow qz_pairs qz_from qz_then qz_tryAt z_thrown z_typed z_next z_token z_place z_value z_figures z_fault z_faultAt z_timeMany z_eaten_6 z_half z_bestMinutes_6 z_bestOats_6 z_isDue z_text z_t z_draft z_s z_kept z_isKept z_times z_w_6 (upd (upd z_at_6 ((0 : Int32)).toNatClampNeg (z_best_6 ((0 : Int32)).toNatClampNeg)) ((1 : Int32)).toNatClampNeg (z_best_6 ((1 : Int32)).toNatClampNeg)) z_pulled_6 z_best_6 z_cartRow z_tryRow z_pairs z_from_3 z_then z_tryAt) := hD
            refine lv_aload_n hx hb dX9_isOver_75 rfl (lv_at hl 2 rfl) ?_
            refine va_get (D := (dC, dI)) (ci := 9) (v := .ref qz_at) (C := RX9) (T := TX9) (N := 32) hx hb hw inlX9 hown hK hP 0 rfl rfl 18 (by decide) (hw _ mw_6_9) (fun _ h9 => h9) rfl dX9_isOver_76 ?_
            refine lv_iconst (v := (2 : Int32)) hx hb dX9_isOver_79 (by decide) ?_
            refine lv_aload_n hx hb dX9_isOver_80 rfl (lv_at hl 2 rfl) ?_
            refine va_get (D := (dC, dI)) (ci := 9) (v := .ref qz_best) (C := RX9) (T := TX9) (N := 32) hx hb hw inlX9 hown hK hP 0 rfl rfl 22 (by decide) (hw _ mw_6_12) (fun _ h9 => h9) rfl dX9_isOver_81 ?_
            refine lv_iconst (v := (2 : Int32)) hx hb dX9_isOver_84 (by decide) ?_
            refine va_iald hx hb hK hP 11 0 rfl rfl (pg_lit (by decide)) dX9_isOver_85 ?_
            refine va_iast hx hb hK hP hD hS 9 0 rfl rfl (pg_lit (by decide)) dX9_isOver_86 (fun H locs hP hD hS => ?_)
            have hP : va_P (dC, dI) vwCl (W_X9z cI cZ cII qz qz_text qz_t qz_draft qz_s qz_kept qz_isKept qz_times qz_w qz_at qz_pulled qz_best qz_cartRow qz_tryRow qz_pairs qz_from qz_then qz_tryAt z_thrown z_typed z_next z_token z_place z_value z_figures z_fault z_faultAt z_timeMany z_eaten_6 z_half z_bestMinutes_6 z_bestOats_6 z_isDue z_text z_t z_draft z_s z_kept z_isKept z_times z_w_6 (upd (upd (upd z_at_6 ((0 : Int32)).toNatClampNeg (z_best_6 ((0 : Int32)).toNatClampNeg)) ((1 : Int32)).toNatClampNeg (z_best_6 ((1 : Int32)).toNatClampNeg)) ((2 : Int32)).toNatClampNeg (z_best_6 ((2 : Int32)).toNatClampNeg)) z_pulled_6 z_best_6 z_cartRow z_tryRow z_pairs z_from_3 z_then z_tryAt) H := hP
            have hD : va_D A (W_X9z cI cZ cII qz qz_text qz_t qz_draft qz_s qz_kept qz_isKept qz_times qz_w qz_at qz_pulled qz_best qz_cartRow qz_tryRow qz_pairs qz_from qz_then qz_tryAt z_thrown z_typed z_next z_token z_place z_value z_figures z_fault z_faultAt z_timeMany z_eaten_6 z_half z_bestMinutes_6 z_bestOats_6 z_isDue z_text z_t z_draft z_s z_kept z_isKept z_times z_w_6 (upd (upd (upd z_at_6 ((0 : Int32)).toNatClampNeg (z_best_6 ((0 : Int32)).toNatClampNeg)) ((1 : Int32)).toNatClampNeg (z_best_6 ((1 : Int32)).toNatClampNeg)) ((2 : Int32)).toNatClampNeg (z_best_6 ((2 : Int32)).toNatClampNeg)) z_pulled_6 z_best_6 z_cartRow z_tryRow z_pairs z_from_3 z_then z_tryAt) := hD
            refine lv_aload_n hx hb dX9_isOver_87 rfl (lv_at hl 2 rfl) ?_
            obtain ⟨z_w_8, hc, hf⟩ := bn1_s hf
            refine pg_cVv (As := []) (rest := []) (wf := (W_X9z cI cZ cII qz qz_text qz_t qz_draft qz_s qz_kept qz_isKept qz_times qz_w qz_at qz_pulled qz_best qz_cartRow qz_tryRow qz_pairs qz_from qz_then qz_tryAt z_thrown z_typed z_next z_token z_place z_value z_figures z_fault z_faultAt z_timeMany z_eaten_6 z_half z_bestMinutes_6 z_bestOats_6 z_isDue z_text z_t z_draft z_s z_kept z_isKept z_times z_w_8 (upd (upd (upd z_at_6 ((0 : Int32)).toNatClampNeg (z_best_6 ((0 : Int32)).toNatClampNeg)) ((1 : Int32)).toNatClampNeg (z_best_6 ((1 : Int32)).toNatClampNeg)) ((2 : Int32)).toNatClampNeg (z_best_6 ((2 : Int32)).toNatClampNeg)) z_pulled_6 z_best_6 z_cartRow z_tryRow z_pairs z_from_3 z_then z_tryAt)) ⟨hx, hb, hml, hown, hw⟩ (c_X9_strong l dC dI cI cZ cII qz qz_text qz_t qz_draft qz_s qz_kept qz_isKept qz_times qz_w qz_at qz_pulled qz_best qz_cartRow qz_tryRow qz_pairs qz_from qz_then qz_tryAt H.size z_thrown z_typed z_next z_token z_place z_value z_figures z_fault z_faultAt z_timeMany z_eaten_6 z_half z_bestMinutes_6 z_bestOats_6 z_isDue z_text z_t z_draft z_s z_kept z_isKept z_times z_w_6 (upd (upd (upd z_at_6 ((0 : Int32)).toNatClampNeg (z_best_6 ((0 : Int32)).toNatClampNeg)) ((1 : Int32)).toNatClampNeg (z_best_6 ((1 : Int32)).toNatClampNeg)) ((2 : Int32)).toNatClampNeg (z_best_6 ((2 : Int32)).toNatClampNeg)) z_pulled_6 z_best_6 z_cartRow z_tryRow z_pairs z_from_3 z_then z_tryAt  z_w_8 hc) (cwV 0 hts (wM_V mw_36_4 mw_36_5 mw_36_6 mw_1_5 mw_36_7) rfl rfl rfl dk_X9_strong ⟨Nat.le_of_ble_eq_true rfl, Nat.le_of_ble_eq_true rfl⟩) hK hP hD hS hA 9 0 rfl rfl rfl [0, 1, 2, 3, 4, 5, 6, 7, 8, 9, 10, 11, 12, 13, 14, 15, 16, 17] [] [0, 1, 2, 3, 4, 5, 6, 7, 8, 9, 10, 11, 12, 13, 14, 15, 16, 17] (plC_64 cI cZ cII qz qz_text qz_t qz_draft qz_s qz_kept qz_isKept qz_times qz_w qz_at qz_pulled qz_best qz_cartRow qz_tryRow qz_pairs qz_from qz_then qz_tryAt z_thrown z_typed z_next z_token z_place z_value z_figures z_fault z_faultAt z_timeMany z_eaten_6 z_half z_bestMinutes_6 z_bestOats_6 z_isDue z_text z_t z_draft z_s z_kept z_isKept z_times z_w_6 (upd (upd (upd z_at_6 ((0 : Int32)).toNatClampNeg (z_best_6 ((0 : Int32)).toNatClampNeg)) ((1 : Int32)).toNatClampNeg (z_best_6 ((1 : Int32)).toNatClampNeg)) ((2 : Int32)).toNatClampNeg (z_best_6 ((2 : Int32)).toNatClampNeg)) z_pulled_6 z_best_6 z_cartRow z_tryRow z_pairs z_from_3 z_then z_tryAt) rfl (plF_64 cI cZ cII qz qz_text qz_t qz_draft qz_s qz_kept qz_isKept qz_times qz_w qz_at qz_pulled qz_best qz_cartRow qz_tryRow qz_pairs qz_from qz_then qz_tryAt z_thrown z_typed z_next z_token z_place z_value z_figures z_fault z_faultAt z_timeMany z_eaten_6 z_half z_bestMinutes_6 z_bestOats_6 z_isDue z_text z_t z_draft z_s z_kept z_isKept z_times z_w_6 (upd (upd (upd z_at_6 ((0 : Int32)).toNatClampNeg (z_best_6 ((0 : Int32)).toNatClampNeg)) ((1 : Int32)).toNatClampNeg (z_best_6 ((1 : Int32)).toNatClampNeg)) ((2 : Int32)).toNatClampNeg (z_best_6 ((2 : Int32)).toNatClampNeg)) z_pulled_6 z_best_6 z_cartRow z_tryRow z_pairs z_from_3 z_then z_tryAt z_thrown z_typed z_next z_token z_place z_value z_figures z_fault z_faultAt z_timeMany z_eaten_6 z_half z_bestMinutes_6 z_bestOats_6 z_isDue z_text z_t z_draft z_s z_kept z_isKept z_times z_w_8 (upd (upd (upd z_at_6 ((0 : Int32)).toNatClampNeg (z_best_6 ((0 : Int32)).toNatClampNeg)) ((1 : Int32)).toNatClampNeg (z_best_6 ((1 : Int32)).toNatClampNeg)) ((2 : Int32)).toNatClampNeg (z_best_6 ((2 : Int32)).toNatClampNeg)) z_pulled_6 z_best_6 z_cartRow z_tryRow z_pairs z_from_3 z_then z_tryAt) (by decide) rfl hl.1 rfl (Nat.le_of_ble_eq_true rfl) dX9_isOver_88 ⟨Nat.zero_le _, Nat.zero_le _⟩ (fun H locs hP hD hS => ?_)
            refine lv_aload_n hx hb dX9_isOver_91 rfl (lv_at hl 2 rfl) ?_
            refine lv_aload_n hx hb dX9_isOver_92 rfl (lv_at hl 2 rfl) ?_
            refine va_get (D := (dC, dI)) (ci := 9) (v := .ref qz_s) (C := RX9) (T := TX9) (N := 32) hx hb hw inlX9 hown hK hP 0 rfl rfl 12 (by decide) (hw _ mw_6_3) (fun _ h9 => h9) rfl dX9_isOver_93 ?_
            refine lv_bipush (v := (9 : Int32)) hx hb dX9_isOver_96 (by decide) ?_
            refine va_iald hx hb hK hP 4 0 rfl rfl (pg_lit (by decide)) dX9_isOver_98 ?_
            refine lv_iload_n hx hb dX9_isOver_99 rfl (lv_at hl 4 rfl) ?_
            refine lv_iadd hx hb dX9_isOver_100 ?_
            refine lv_iload hx hb dX9_isOver_101 (lv_at hl 1 rfl) ?_
            obtain ⟨r_9, z_eaten_9, z_w_9, z_pulled_9, hc, hf⟩ := bn4_s hf
            refine pg_cVi (As := [.int ((z_s ((9 : Int32)).toNatClampNeg) + y3_3), .int r_5]) (rest := []) (wf := (W_X9z cI cZ cII qz qz_text qz_t qz_draft qz_s qz_kept qz_isKept qz_times qz_w qz_at qz_pulled qz_best qz_cartRow qz_tryRow qz_pairs qz_from qz_then qz_tryAt z_thrown z_typed z_next z_token z_place z_value z_figures z_fault z_faultAt z_timeMany z_eaten_9 z_half z_bestMinutes_6 z_bestOats_6 z_isDue z_text z_t z_draft z_s z_kept z_isKept z_times z_w_9 (upd (upd (upd z_at_6 ((0 : Int32)).toNatClampNeg (z_best_6 ((0 : Int32)).toNatClampNeg)) ((1 : Int32)).toNatClampNeg (z_best_6 ((1 : Int32)).toNatClampNeg)) ((2 : Int32)).toNatClampNeg (z_best_6 ((2 : Int32)).toNatClampNeg)) z_pulled_9 z_best_6 z_cartRow z_tryRow z_pairs z_from_3 z_then z_tryAt)) ⟨hx, hb, hml, hown, hw⟩ (c_X9_crosses l dC dI cI cZ cII qz qz_text qz_t qz_draft qz_s qz_kept qz_isKept qz_times qz_w qz_at qz_pulled qz_best qz_cartRow qz_tryRow qz_pairs qz_from qz_then qz_tryAt H.size z_thrown z_typed z_next z_token z_place z_value z_figures z_fault z_faultAt z_timeMany z_eaten_6 z_half z_bestMinutes_6 z_bestOats_6 z_isDue z_text z_t z_draft z_s z_kept z_isKept z_times z_w_8 (upd (upd (upd z_at_6 ((0 : Int32)).toNatClampNeg (z_best_6 ((0 : Int32)).toNatClampNeg)) ((1 : Int32)).toNatClampNeg (z_best_6 ((1 : Int32)).toNatClampNeg)) ((2 : Int32)).toNatClampNeg (z_best_6 ((2 : Int32)).toNatClampNeg)) z_pulled_6 z_best_6 z_cartRow z_tryRow z_pairs z_from_3 z_then z_tryAt ((z_s ((9 : Int32)).toNatClampNeg) + y3_3) r_5 r_9 z_eaten_9 z_w_9 z_pulled_9 hc) (cwV 2 hts (wM_V mw_31_1 mw_31_2 mw_31_3 mw_1_5 mw_31_4) rfl rfl rfl dk_X9_crosses ⟨Nat.le_of_ble_eq_true rfl, Nat.le_of_ble_eq_true rfl⟩) hK hP hD hS hA 9 0 rfl rfl rfl [0, 1, 2, 3, 4, 5, 6, 7, 8, 9, 10, 11, 12, 13, 14, 15, 16, 17] [] [0, 1, 2, 3, 4, 5, 6, 7, 8, 9, 10, 11, 12, 13, 14, 15, 16, 17] (plC_64 cI cZ cII qz qz_text qz_t qz_draft qz_s qz_kept qz_isKept qz_times qz_w qz_at qz_pulled qz_best qz_cartRow qz_tryRow qz_pairs qz_from qz_then qz_tryAt z_thrown z_typed z_next z_token z_place z_value z_figures z_fault z_faultAt z_timeMany z_eaten_6 z_half z_bestMinutes_6 z_bestOats_6 z_isDue z_text z_t z_draft z_s z_kept z_isKept z_times z_w_8 (upd (upd (upd z_at_6 ((0 : Int32)).toNatClampNeg (z_best_6 ((0 : Int32)).toNatClampNeg)) ((1 : Int32)).toNatClampNeg (z_best_6 ((1 : Int32)).toNatClampNeg)) ((2 : Int32)).toNatClampNeg (z_best_6 ((2 : Int32)).toNatClampNeg)) z_pulled_6 z_best_6 z_cartRow z_tryRow z_pairs z_from_3 z_then z_tryAt) rfl (plF_64 cI cZ cII qz qz_text qz_t qz_draft qz_s qz_kept qz_isKept qz_times qz_w qz_at qz_pulled qz_best qz_cartRow qz_tryRow qz_pairs qz_from qz_then qz_tryAt z_thrown z_typed z_next z_token z_place z_value z_figures z_fault z_faultAt z_timeMany z_eaten_6 z_half z_bestMinutes_6 z_bestOats_6 z_isDue z_text z_t z_draft z_s z_kept z_isKept z_times z_w_8 (upd (upd (upd z_at_6 ((0 : Int32)).toNatClampNeg (z_best_6 ((0 : Int32)).toNatClampNeg)) ((1 : Int32)).toNatClampNeg (z_best_6 ((1 : Int32)).toNatClampNeg)) ((2 : Int32)).toNatClampNeg (z_best_6 ((2 : Int32)).toNatClampNeg)) z_pulled_6 z_best_6 z_cartRow z_tryRow z_pairs z_from_3 z_then z_tryAt z_thrown z_typed z_next z_token z_place z_value z_figures z_fault z_faultAt z_timeMany z_eaten_9 z_half z_bestMinutes_6 z_bestOats_6 z_isDue z_text z_t z_draft z_s z_kept z_isKept z_times z_w_9 (upd (upd (upd z_at_6 ((0 : Int32)).toNatClampNeg (z_best_6 ((0 : Int32)).toNatClampNeg)) ((1 : Int32)).toNatClampNeg (z_best_6 ((1 : Int32)).toNatClampNeg)) ((2 : Int32)).toNatClampNeg (z_best_6 ((2 : Int32)).toNatClampNeg)) z_pulled_9 z_best_6 z_cartRow z_tryRow z_pairs z_from_3 z_then z_tryAt) (by decide) rfl hl.1 rfl (Nat.le_of_ble_eq_true rfl) dX9_isOver_103 ⟨Nat.zero_le _, Nat.zero_le _⟩ (fun H locs hP hD hS => ?_)
            refine lv_pop hx hb dX9_isOver_106 rfl ?_
            refine lv_aload_n hx hb dX9_isOver_107 rfl (lv_at hl 2 rfl) ?_
            refine lv_iconst (v := (1 : Int32)) hx hb dX9_isOver_108 (by decide) ?_
            refine lv_iconst (v := (0 : Int32)) hx hb dX9_isOver_109 (by decide) ?_
            obtain ⟨z_w_10, hc, hf⟩ := bn1_s hf
            refine pg_cVv (As := [.int (1 : Int32), .int (0 : Int32)]) (rest := []) (wf := (W_X9z cI cZ cII qz qz_text qz_t qz_draft qz_s qz_kept qz_isKept qz_times qz_w qz_at qz_pulled qz_best qz_cartRow qz_tryRow qz_pairs qz_from qz_then qz_tryAt z_thrown z_typed z_next z_token z_place z_value z_figures z_fault z_faultAt z_timeMany z_eaten_9 z_half z_bestMinutes_6 z_bestOats_6 z_isDue z_text z_t z_draft z_s z_kept z_isKept z_times z_w_10 (upd (upd (upd z_at_6 ((0 : Int32)).toNatClampNeg (z_best_6 ((0 : Int32)).toNatClampNeg)) ((1 : Int32)).toNatClampNeg (z_best_6 ((1 : Int32)).toNatClampNeg)) ((2 : Int32)).toNatClampNeg (z_best_6 ((2 : Int32)).toNatClampNeg)) z_pulled_9 z_best_6 z_cartRow z_tryRow z_pairs z_from_3 z_then z_tryAt)) ⟨hx, hb, hml, hown, hw⟩ (c_X9_rests l dC dI cI cZ cII qz qz_text qz_t qz_draft qz_s qz_kept qz_isKept qz_times qz_w qz_at qz_pulled qz_best qz_cartRow qz_tryRow qz_pairs qz_from qz_then qz_tryAt H.size z_thrown z_typed z_next z_token z_place z_value z_figures z_fault z_faultAt z_timeMany z_eaten_9 z_half z_bestMinutes_6 z_bestOats_6 z_isDue z_text z_t z_draft z_s z_kept z_isKept z_times z_w_9 (upd (upd (upd z_at_6 ((0 : Int32)).toNatClampNeg (z_best_6 ((0 : Int32)).toNatClampNeg)) ((1 : Int32)).toNatClampNeg (z_best_6 ((1 : Int32)).toNatClampNeg)) ((2 : Int32)).toNatClampNeg (z_best_6 ((2 : Int32)).toNatClampNeg)) z_pulled_9 z_best_6 z_cartRow z_tryRow z_pairs z_from_3 z_then z_tryAt (1 : Int32) (0 : Int32) z_w_10 hc) (cwV 2 hts (wM_V mw_31_9 mw_31_10 mw_31_11 mw_1_5 mw_31_12) rfl rfl rfl dk_X9_rests ⟨Nat.le_of_ble_eq_true rfl, Nat.le_of_ble_eq_true rfl⟩) hK hP hD hS hA 9 0 rfl rfl rfl [0, 1, 2, 3, 4, 5, 6, 7, 8, 9, 10, 11, 12, 13, 14, 15, 16, 17] [] [0, 1, 2, 3, 4, 5, 6, 7, 8, 9, 10, 11, 12, 13, 14, 15, 16, 17] (plC_64 cI cZ cII qz qz_text qz_t qz_draft qz_s qz_kept qz_isKept qz_times qz_w qz_at qz_pulled qz_best qz_cartRow qz_tryRow qz_pairs qz_from qz_then qz_tryAt z_thrown z_typed z_next z_token z_place z_value z_figures z_fault z_faultAt z_timeMany z_eaten_9 z_half z_bestMinutes_6 z_bestOats_6 z_isDue z_text z_t z_draft z_s z_kept z_isKept z_times z_w_9 (upd (upd (upd z_at_6 ((0 : Int32)).toNatClampNeg (z_best_6 ((0 : Int32)).toNatClampNeg)) ((1 : Int32)).toNatClampNeg (z_best_6 ((1 : Int32)).toNatClampNeg)) ((2 : Int32)).toNatClampNeg (z_best_6 ((2 : Int32)).toNatClampNeg)) z_pulled_9 z_best_6 z_cartRow z_tryRow z_pairs z_from_3 z_then z_tryAt) rfl (plF_64 cI cZ cII qz qz_text qz_t qz_draft qz_s qz_kept qz_isKept qz_times qz_w qz_at qz_pulled qz_best qz_cartRow qz_tryRow qz_pairs qz_from qz_then qz_tryAt z_thrown z_typed z_next z_token z_place z_value z_figures z_fault z_faultAt z_timeMany z_eaten_9 z_half z_bestMinutes_6 z_bestOats_6 z_isDue z_text z_t z_draft z_s z_kept z_isKept z_times z_w_9 (upd (upd (upd z_at_6 ((0 : Int32)).toNatClampNeg (z_best_6 ((0 : Int32)).toNatClampNeg)) ((1 : Int32)).toNatClampNeg (z_best_6 ((1 : Int32)).toNatClampNeg)) ((2 : Int32)).toNatClampNeg (z_best_6 ((2 : Int32)).toNatClampNeg)) z_pulled_9 z_best_6 z_cartRow z_tryRow z_pairs z_from_3 z_then z_tryAt z_thrown z_typed z_next z_token z_place z_value z_figures z_fault z_faultAt z_timeMany z_eaten_9 z_half z_bestMinutes_6 z_bestOats_6 z_isDue z_text z_t z_draft z_s z_kept z_isKept z_times z_w_10 (upd (upd (upd z_at_6 ((0 : Int32)).toNatClampNeg (z_best_6 ((0 : Int32)).toNatClampNeg)) ((1 : Int32)).toNatClampNeg (z_best_6 ((1 : Int32)).toNatClampNeg)) ((2 : Int32)).toNatClampNeg (z_best_6 ((2 : Int32)).toNatClampNeg)) z_pulled_9 z_best_6 z_cartRow z_tryRow z_pairs z_from_3 z_then z_tryAt) (by decide) rfl hl.1 rfl (Nat.le_of_ble_eq_true rfl) dX9_isOver_110 ⟨Nat.zero_le _, Nat.zero_le _⟩ (fun H locs hP hD hS => ?_)
            refine lv_iconst (v := (0 : Int32)) hx hb dX9_isOver_113 (by decide) ?_
            refine lv_istore (lv' := [(5, .int (0 : Int32)), (2, .int r_6), (4, .int r_5), (0, .ref qz), (1, .int n1), (3, .int y3_3)]) hx hb dX9_isOver_114 hl (by decide) rfl (fun ls hl => ?_)
            obtain ⟨B12, hB12, hf⟩ := lq2_n hf
            have WL12 : ∀ (n9 : Nat) (y5_12 : Int32) (z_from_12 : Nat → Int32) (H : Heap) (locs : List Loc) (ls : Array Slot), va_P (dC, dI) vwCl (W_X9z cI cZ cII qz qz_text qz_t qz_draft qz_s qz_kept qz_isKept qz_times qz_w qz_at qz_pulled qz_best qz_cartRow qz_tryRow qz_pairs qz_from qz_then qz_tryAt z_thrown z_typed z_next z_token z_place z_value z_figures z_fault z_faultAt z_timeMany z_eaten_9 z_half z_bestMinutes_6 z_bestOats_6 z_isDue z_text z_t z_draft z_s z_kept z_isKept z_times z_w_10 (upd (upd (upd z_at_6 ((0 : Int32)).toNatClampNeg (z_best_6 ((0 : Int32)).toNatClampNeg)) ((1 : Int32)).toNatClampNeg (z_best_6 ((1 : Int32)).toNatClampNeg)) ((2 : Int32)).toNatClampNeg (z_best_6 ((2 : Int32)).toNatClampNeg)) z_pulled_9 z_best_6 z_cartRow z_tryRow z_pairs z_from_12 z_then z_tryAt) H → va_D A (W_X9z cI cZ cII qz qz_text qz_t qz_draft qz_s qz_kept qz_isKept qz_times qz_w qz_at qz_pulled qz_best qz_cartRow qz_tryRow qz_pairs qz_from qz_then qz_tryAt z_thrown z_typed z_next z_token z_place z_value z_figures z_fault z_faultAt z_timeMany z_eaten_9 z_half z_bestMinutes_6 z_bestOats_6 z_isDue z_text z_t z_draft z_s z_kept z_isKept z_times z_w_10 (upd (upd (upd z_at_6 ((0 : Int32)).toNatClampNeg (z_best_6 ((0 : Int32)).toNatClampNeg)) ((1 : Int32)).toNatClampNeg (z_best_6 ((1 : Int32)).toNatClampNeg)) ((2 : Int32)).toNatClampNeg (z_best_6 ((2 : Int32)).toNatClampNeg)) z_pulled_9 z_best_6 z_cartRow z_tryRow z_pairs z_from_12 z_then z_tryAt) → va_S A s.heap H locs → lv_has ls 6 [(0, .ref qz), (1, .int n1), (2, .int r_6), (3, .int y3_3), (5, .int y5_12)] → lq2 B12 n9 y5_12 z_from_12 = some (rr, z_eaten', z_bestMinutes', z_bestOats', z_w', z_at', z_pulled', z_best', z_from') → W p l e rm_X9_isOver s m args below meth c H locs 0 0 Q (F0 m 116 ls []) := by
              intro n9
              induction n9 with
              | zero => intro y5_12 z_from_12 H locs ls hP hD hS hl hf; cases hf
              | succ n9 ih =>
                intro y5_12 z_from_12 H locs ls hP hD hS hl hf
                obtain ⟨rec12, hrec12, hf⟩ := lq2_s hf
                have hf := hB12 rec12 _ _ hf
                refine lv_iload hx hb dX9_isOver_116 (lv_at hl 4 rfl) ?_
                refine lv_bipush (v := (6 : Int32)) hx hb dX9_isOver_118 (by decide) ?_
                refine lv_icmp_ge (tgt := 143) hx hb dX9_isOver_120 (by decide) (fun h9 => ?_) (fun h9 => ?_)
                · have hf := pg_t h9 hf
                  exact WJ143_7 _ _ _ _ _ _ _ _ hP hD hS (lv_sub hl [0, 1, 2, 3] rfl) hf
                · have hf := pg_f h9 hf
                  refine lv_aload_n hx hb dX9_isOver_123 rfl (lv_at hl 0 rfl) ?_
                  refine va_get (D := (dC, dI)) (ci := 9) (v := .ref qz_from) (C := RX9) (T := TX9) (N := 32) hx hb hw inlX9 hown hK hP 0 rfl rfl 29 (by decide) (hw _ mw_6_16) (fun _ h9 => h9) rfl dX9_isOver_124 ?_
                  refine lv_iload hx hb dX9_isOver_127 (lv_at hl 4 rfl) ?_
                  refine lv_aload_n hx hb dX9_isOver_129 rfl (lv_at hl 0 rfl) ?_
                  refine va_get (D := (dC, dI)) (ci := 9) (v := .ref qz_w) (C := RX9) (T := TX9) (N := 32) hx hb hw inlX9 hown hK hP 0 rfl rfl 17 (by decide) (hw _ mw_6_8) (fun _ h9 => h9) rfl dX9_isOver_130 ?_
                  refine lv_iload hx hb dX9_isOver_133 (lv_at hl 4 rfl) ?_
                  obtain ⟨hi13, hf⟩ := pg_chk hf
                  refine va_iald hx hb hK hP 8 0 rfl rfl hi13 dX9_isOver_135 ?_
                  refine va_iast hx hb hK hP hD hS 15 0 rfl rfl hi13 dX9_isOver_136 (fun H locs hP hD hS => ?_)
                  have hP : va_P (dC, dI) vwCl (W_X9z cI cZ cII qz qz_text qz_t qz_draft qz_s qz_kept qz_isKept qz_times qz_w qz_at qz_pulled qz_best qz_cartRow qz_tryRow qz_pairs qz_from qz_then qz_tryAt z_thrown z_typed z_next z_token z_place z_value z_figures z_fault z_faultAt z_timeMany z_eaten_9 z_half z_bestMinutes_6 z_bestOats_6 z_isDue z_text z_t z_draft z_s z_kept z_isKept z_times z_w_10 (upd (upd (upd z_at_6 ((0 : Int32)).toNatClampNeg (z_best_6 ((0 : Int32)).toNatClampNeg)) ((1 : Int32)).toNatClampNeg (z_best_6 ((1 : Int32)).toNatClampNeg)) ((2 : Int32)).toNatClampNeg (z_best_6 ((2 : Int32)).toNatClampNeg)) z_pulled_9 z_best_6 z_cartRow z_tryRow z_pairs (upd z_from_12 (y5_12).toNatClampNeg (z_w_10 (y5_12).toNatClampNeg)) z_then z_tryAt) H := hP
                  have hD : va_D A (W_X9z cI cZ cII qz qz_text qz_t qz_draft qz_s qz_kept qz_isKept qz_times qz_w qz_at qz_pulled qz_best qz_cartRow qz_tryRow qz_pairs qz_from qz_then qz_tryAt z_thrown z_typed z_next z_token z_place z_value z_figures z_fault z_faultAt z_timeMany z_eaten_9 z_half z_bestMinutes_6 z_bestOats_6 z_isDue z_text z_t z_draft z_s z_kept z_isKept z_times z_w_10 (upd (upd (upd z_at_6 ((0 : Int32)).toNatClampNeg (z_best_6 ((0 : Int32)).toNatClampNeg)) ((1 : Int32)).toNatClampNeg (z_best_6 ((1 : Int32)).toNatClampNeg)) ((2 : Int32)).toNatClampNeg (z_best_6 ((2 : Int32)).toNatClampNeg)) z_pulled_9 z_best_6 z_cartRow z_tryRow z_pairs (upd z_from_12 (y5_12).toNatClampNeg (z_w_10 (y5_12).toNatClampNeg)) z_then z_tryAt) := hD
                  refine lv_iinc (v := (y5_12 + (1 : Int32))) (lv' := [(5, .int (y5_12 + (1 : Int32))), (0, .ref qz), (1, .int n1), (2, .int r_6), (3, .int y3_3)]) hx hb dX9_isOver_137 hl (k := 4) rfl rfl (by decide) rfl (fun ls hl => ?_)
                  refine lv_goto (tgt := 116) hx hb dX9_isOver_140 (by decide) ?_
                  exact ih _ _ _ _ _ hP hD hS (lv_sub hl [1, 2, 3, 4, 0] rfl) (hrec12 _ _ hf)
            exact WL12 fu _ _ _ _ _ hP hD hS (lv_sub hl [3, 4, 1, 5, 0] rfl) hf
  exact WL3 fu _ _ _ _ _ _ _ _ _ _ _ _ _ hP hD hS (lv_sub hl [2, 3, 1, 0] rfl) hf
def f_X9_fewest (z_eaten : Int32) (z_half : Int32) (z_bestMinutes : Int32) (z_bestOats : Int32) (z_t : Nat → Int32) (z_s : Nat → Int32) (z_w : Nat → Int32) (z_at : Nat → Int32) (z_pulled : Nat → Int32) (z_best : Nat → Int32) (z_cartRow : Nat → Int32) (z_tryRow : Nat → Int32) (z_from : Nat → Int32) : Option (Int32 × Int32 × Int32 × Int32 × (Nat → Int32) × (Nat → Int32) × (Nat → Int32) × (Nat → Int32) × (Nat → Int32) × (Nat → Int32) × (Nat → Int32)) :=
  jn1 (fun (z0_1 : Int32) =>
    jn10 (fun (z_eaten_2 : Int32) (z_bestMinutes_2 : Int32) (z_bestOats_2 : Int32) (z_w_2 : Nat → Int32) (z_at_2 : Nat → Int32) (z_pulled_2 : Nat → Int32) (z_best_2 : Nat → Int32) (z_cartRow_2 : Nat → Int32) (z_tryRow_2 : Nat → Int32) (z_from_2 : Nat → Int32) =>
      some ((-1 : Int32), z_eaten_2, z_bestMinutes_2, z_bestOats_2, z_w_2, z_at_2, z_pulled_2, z_best_2, z_cartRow_2, z_tryRow_2, z_from_2)
    ) (fun K153_2 =>
    lq11 (fun rec3 (y1_3 : Int32) (z_eaten_3 : Int32) (z_bestMinutes_3 : Int32) (z_bestOats_3 : Int32) (z_w_3 : Nat → Int32) (z_at_3 : Nat → Int32) (z_pulled_3 : Nat → Int32) (z_best_3 : Nat → Int32) (z_cartRow_3 : Nat → Int32) (z_tryRow_3 : Nat → Int32) (z_from_3 : Nat → Int32) =>
      if (z_t ((4 : Int32)).toNatClampNeg) < y1_3 then
        K153_2 z_eaten_3 z_bestMinutes_3 z_bestOats_3 z_w_3 z_at_3 z_pulled_3 z_best_3 z_cartRow_3 z_tryRow_3 z_from_3
      else
        jn1 (fun (z0_4 : Int32) =>
          jn1 (fun (y3_5 : Int32) =>
            jn11 (fun (y2_6 : Int32) (z_eaten_6 : Int32) (z_bestMinutes_6 : Int32) (z_bestOats_6 : Int32) (z_w_6 : Nat → Int32) (z_at_6 : Nat → Int32) (z_pulled_6 : Nat → Int32) (z_best_6 : Nat → Int32) (z_cartRow_6 : Nat → Int32) (z_tryRow_6 : Nat → Int32) (z_from_6 : Nat → Int32) =>
              if y2_6 = 0 then
                rec3 (y1_3 + (1 : Int32)) z_eaten_6 z_bestMinutes_6 z_bestOats_6 z_w_6 z_at_6 z_pulled_6 z_best_6 z_cartRow_6 z_tryRow_6 z_from_6
              else
                some (y1_3, z_eaten_6, z_bestMinutes_6, z_bestOats_6, z_w_6, z_at_6, z_pulled_6, z_best_6, z_cartRow_6, z_tryRow_6, z_from_6)
            ) (fun K141_6 =>
            lq12 (fun rec7 (y2_7 : Int32) (y4_7 : Int32) (z_eaten_7 : Int32) (z_bestMinutes_7 : Int32) (z_bestOats_7 : Int32) (z_w_7 : Nat → Int32) (z_at_7 : Nat → Int32) (z_pulled_7 : Nat → Int32) (z_best_7 : Nat → Int32) (z_cartRow_7 : Nat → Int32) (z_tryRow_7 : Nat → Int32) (z_from_7 : Nat → Int32) =>
              if y3_5 ≤ y4_7 then
                K141_6 y2_7 z_eaten_7 z_bestMinutes_7 z_bestOats_7 z_w_7 z_at_7 z_pulled_7 z_best_7 z_cartRow_7 z_tryRow_7 z_from_7
              else
                if y1_3 ≤ 0 then
                  K141_6 y2_7 z_eaten_7 z_bestMinutes_7 z_bestOats_7 z_w_7 z_at_7 z_pulled_7 z_best_7 z_cartRow_7 z_tryRow_7 z_from_7
                else
                  bn2 (f_X9_isRow y4_7 y1_3 z_t z_tryRow_7) (fun (r_8 : Int32) (z_tryRow_8 : Nat → Int32) =>
                    jn10 (fun (y2_9 : Int32) (z_eaten_9 : Int32) (z_bestMinutes_9 : Int32) (z_bestOats_9 : Int32) (z_w_9 : Nat → Int32) (z_at_9 : Nat → Int32) (z_pulled_9 : Nat → Int32) (z_best_9 : Nat → Int32) (z_cartRow_9 : Nat → Int32) (z_from_9 : Nat → Int32) =>
                      rec7 y2_9 (y4_7 + (1 : Int32)) z_eaten_9 z_bestMinutes_9 z_bestOats_9 z_w_9 z_at_9 z_pulled_9 z_best_9 z_cartRow_9 z_tryRow_8 z_from_9
                    ) (fun J135_9 =>
                    if r_8 = 0 then
                      J135_9 y2_7 z_eaten_7 z_bestMinutes_7 z_bestOats_7 z_w_7 z_at_7 z_pulled_7 z_best_7 z_cartRow_7 z_from_7
                    else
                      jn1 (fun (u_10 : Unit) =>
                        bn9 (f_X9_isOver y1_3 z_eaten_7 z_half z_bestMinutes_7 z_bestOats_7 z_t z_s z_w_7 z_at_7 z_pulled_7 z_best_7 z_tryRow_8 z_from_7) (fun (r_11 : Int32) (z_eaten_11 : Int32) (z_bestMinutes_11 : Int32) (z_bestOats_11 : Int32) (z_w_11 : Nat → Int32) (z_at_11 : Nat → Int32) (z_pulled_11 : Nat → Int32) (z_best_11 : Nat → Int32) (z_from_11 : Nat → Int32) =>
                          if r_11 = 0 then
                            J135_9 y2_7 z_eaten_11 z_bestMinutes_11 z_bestOats_11 z_w_11 z_at_11 z_pulled_11 z_best_11 z_cartRow_7 z_from_11
                          else
                            lq2 (fun rec13 (y5_13 : Int32) (z_cartRow_13 : Nat → Int32) =>
                              if y1_3 ≤ y5_13 then
                                J135_9 (1 : Int32) z_eaten_11 z_bestMinutes_11 z_bestOats_11 z_w_11 z_at_11 z_pulled_11 z_best_11 z_cartRow_13 z_from_11
                              else
                                if y5_13 < 0 ∨ 4 ≤ (y5_13).toNatClampNeg then none else
                                rec13 (y5_13 + (1 : Int32)) (upd z_cartRow_13 (y5_13).toNatClampNeg (z_tryRow_8 (y5_13).toNatClampNeg))
                            ) fu (0 : Int32) z_cartRow_7
                        )
                      ) (fun J96_10 =>
                      if y2_7 = 0 then
                        J96_10 ()
                      else
                        bn1 (f_X9_isAhead y1_3 z_cartRow_7 z_tryRow_8) (fun (r_15 : Int32) =>
                          if r_15 = 0 then
                            J135_9 y2_7 z_eaten_7 z_bestMinutes_7 z_bestOats_7 z_w_7 z_at_7 z_pulled_7 z_best_7 z_cartRow_7 z_from_7
                          else
                            J96_10 ()
                        )
                      )
                    )
                  )
            ) fu z0_4 (0 : Int32) z_eaten_3 z_bestMinutes_3 z_bestOats_3 z_w_3 z_at_3 z_pulled_3 z_best_3 z_cartRow_3 z_tryRow_3 z_from_3
            )
          ) (fun K61_5 =>
          lq2 (fun rec16 (y3_16 : Int32) (y4_16 : Int32) =>
            if (z_t ((4 : Int32)).toNatClampNeg) ≤ y4_16 then
              K61_5 y3_16
            else
              rec16 (y3_16 * y1_3) (y4_16 + (1 : Int32))
          ) fu (1 : Int32) (0 : Int32)
          )
        ) (fun J34_4 =>
        if y1_3 = 0 then
          J34_4 (1 : Int32)
        else
          J34_4 (0 : Int32)
        )
    ) fu z0_1 z_eaten z_bestMinutes z_bestOats z_w z_at z_pulled z_best z_cartRow z_tryRow z_from
    )
  ) (fun J14_1 =>
  if (z_t ((4 : Int32)).toNatClampNeg) = 0 then
    J14_1 (0 : Int32)
  else
    J14_1 (1 : Int32)
  )
abbrev rm_X9_fewest : Room := { frames := 7, cells := 0, slots := 0, locals := 170 }
theorem dk_X9_fewest : yX9_fewest.cls = RX9 ∧ yX9_fewest.cls ≠ "java/lang/invoke/MethodHandle" ∧ yX9_fewest.cls ≠ "java/lang/invoke/VarHandle" ∧ (parseMethodDescriptor yX9_fewest.desc).map (fun d => d.parameters.length) = some 0 := by decide +kernel
set_option maxHeartbeats 4000000 in
set_option maxRecDepth 100000 in
theorem c_X9_fewest (l : Launch) (dC : Nat → ClassId) (dI : Nat → Nat → Nat) (cI cZ cII : ClassId) (qz qz_text qz_t qz_draft qz_s qz_kept qz_isKept qz_times qz_w qz_at qz_pulled qz_best qz_cartRow qz_tryRow qz_pairs qz_from qz_then qz_tryAt : Nat) (sz : Nat) (z_thrown : Int32) (z_typed : Int32) (z_next : Int32) (z_token : Int32) (z_place : Int32) (z_value : Int32) (z_figures : Int32) (z_fault : Int32) (z_faultAt : Int32) (z_timeMany : Int32) (z_eaten : Int32) (z_half : Int32) (z_bestMinutes : Int32) (z_bestOats : Int32) (z_isDue : Int32) (z_text : Nat → Int32) (z_t : Nat → Int32) (z_draft : Nat → Int32) (z_s : Nat → Int32) (z_kept : Nat → Int32) (z_isKept : Nat → Int32) (z_times : Nat → Int32) (z_w : Nat → Int32) (z_at : Nat → Int32) (z_pulled : Nat → Int32) (z_best : Nat → Int32) (z_cartRow : Nat → Int32) (z_tryRow : Nat → Int32) (z_pairs : Nat → Int32) (z_from : Nat → Int32) (z_then : Nat → Int32) (z_tryAt : Nat → Int32) (rr : Int32) (z_eaten' : Int32) (z_bestMinutes' : Int32) (z_bestOats' : Int32) (z_w' : Nat → Int32) (z_at' : Nat → Int32) (z_pulled' : Nat → Int32) (z_best' : Nat → Int32) (z_cartRow' : Nat → Int32) (z_tryRow' : Nat → Int32) (z_from' : Nat → Int32) (hf : f_X9_fewest z_eaten z_half z_bestMinutes z_bestOats z_t z_s z_w z_at z_pulled z_best z_cartRow z_tryRow z_from = some (rr, z_eaten', z_bestMinutes', z_bestOats', z_w', z_at', z_pulled', z_best', z_cartRow', z_tryRow', z_from')) : Met l yX9_fewest (wM yX9_fewest cX9_fewest 6 (some .int)) rm_X9_fewest (PreW (dC, dI) (tyA cI cZ cII) (W_X9z cI cZ cII qz qz_text qz_t qz_draft qz_s qz_kept qz_isKept qz_times qz_w qz_at qz_pulled qz_best qz_cartRow qz_tryRow qz_pairs qz_from qz_then qz_tryAt z_thrown z_typed z_next z_token z_place z_value z_figures z_fault z_faultAt z_timeMany z_eaten z_half z_bestMinutes z_bestOats z_isDue z_text z_t z_draft z_s z_kept z_isKept z_times z_w z_at z_pulled z_best z_cartRow z_tryRow z_pairs z_from z_then z_tryAt) sz [.ref qz]) (PostI (dC, dI) (tyA cI cZ cII) rr (W_X9z cI cZ cII qz qz_text qz_t qz_draft qz_s qz_kept qz_isKept qz_times qz_w qz_at qz_pulled qz_best qz_cartRow qz_tryRow qz_pairs qz_from qz_then qz_tryAt z_thrown z_typed z_next z_token z_place z_value z_figures z_fault z_faultAt z_timeMany z_eaten z_half z_bestMinutes z_bestOats z_isDue z_text z_t z_draft z_s z_kept z_isKept z_times z_w z_at z_pulled z_best z_cartRow z_tryRow z_pairs z_from z_then z_tryAt) (W_X9z cI cZ cII qz qz_text qz_t qz_draft qz_s qz_kept qz_isKept qz_times qz_w qz_at qz_pulled qz_best qz_cartRow qz_tryRow qz_pairs qz_from qz_then qz_tryAt z_thrown z_typed z_next z_token z_place z_value z_figures z_fault z_faultAt z_timeMany z_eaten' z_half z_bestMinutes' z_bestOats' z_isDue z_text z_t z_draft z_s z_kept z_isKept z_times z_w' z_at' z_pulled' z_best' z_cartRow' z_tryRow' z_pairs z_from' z_then z_tryAt) sz) 0 0 (va_A (W_X9z cI cZ cII qz qz_text qz_t qz_draft qz_s qz_kept qz_isKept qz_times qz_w qz_at qz_pulled qz_best qz_cartRow qz_tryRow qz_pairs qz_from qz_then qz_tryAt z_thrown z_typed z_next z_token z_place z_value z_figures z_fault z_faultAt z_timeMany z_eaten z_half z_bestMinutes z_bestOats z_isDue z_text z_t z_draft z_s z_kept z_isKept z_times z_w z_at z_pulled z_best z_cartRow z_tryRow z_pairs z_from z_then z_tryAt) sz) := by
  refine Met.ofW (cc := cX9_fewest) (maxL := 6) (ret := (some .int)) (by decide) rfl ?_
  intro p e s m args below meth c s₁ B hml hv
  obtain ⟨rfl, hsz, hP, hK, hD0⟩ := hv
  have hx := B.exec
  have hb := B.bytes
  have hr := B.returns
  have hts := atoms_spec (ws := wM yX9_fewest cX9_fewest 6 (some .int)) B.pre
  have hown : s.vm.findClass RX9 = some m.cls := findClass_of_methodNamed B.named
  have hlocks := B.notSynchronized
  subst hsz
  have hD := hD0.self (sz := s.heap.size)
  obtain ⟨A, hAe⟩ : ∃ A, A = va_A (W_X9z cI cZ cII qz qz_text qz_t qz_draft qz_s qz_kept qz_isKept qz_times qz_w qz_at qz_pulled qz_best qz_cartRow qz_tryRow qz_pairs qz_from qz_then qz_tryAt z_thrown z_typed z_next z_token z_place z_value z_figures z_fault z_faultAt z_timeMany z_eaten z_half z_bestMinutes z_bestOats z_isDue z_text z_t z_draft z_s z_kept z_isKept z_times z_w z_at z_pulled z_best z_cartRow z_tryRow z_pairs z_from z_then z_tryAt) s.heap.size := ⟨_, rfl⟩
  rw [← hAe] at hD
  have hA : ∀ q : Nat, s.heap.size ≤ q → A q := fun q h => by rw [hAe]; exact Or.inr h
  have hS : va_S A s.heap s.heap [] := va_S.rf
  have hl := lv_entry ([.ref qz]) (n := 6) (Nat.le_of_ble_eq_true rfl)
  rw [lg_entry_eq]
  generalize (lg_sl ([.ref qz]) ++ List.replicate (6 - (lg_sl ([.ref qz])).length) Slot.unset).toArray = ls at hl ⊢
  have hl : lv_has ls 6 [(0, .ref qz)] := hl
  generalize ([.ref qz] : List Value).toArray = args at hts ⊢
  have hw : ∀ w ∈ wsL_law, w.before args s = true := fun w h => hts w (List.mem_cons_of_mem _ h)
  refine pg_start (fun Q hQ => ?_)
  have RET : ∀ (H : Heap) (locs : List Loc) (ls : Array Slot) (pc : Nat) (v : Int32) (x0 : Int32) (x1 : Int32) (x2 : Int32) (x3 : Nat → Int32) (x4 : Nat → Int32) (x5 : Nat → Int32) (x6 : Nat → Int32) (x7 : Nat → Int32) (x8 : Nat → Int32) (x9 : Nat → Int32) , decode cX9_fewest pc = .ok (.ireturn, 1) → va_P (dC, dI) vwCl (W_X9z cI cZ cII qz qz_text qz_t qz_draft qz_s qz_kept qz_isKept qz_times qz_w qz_at qz_pulled qz_best qz_cartRow qz_tryRow qz_pairs qz_from qz_then qz_tryAt z_thrown z_typed z_next z_token z_place z_value z_figures z_fault z_faultAt z_timeMany x0 z_half x1 x2 z_isDue z_text z_t z_draft z_s z_kept z_isKept z_times x3 x4 x5 x6 x7 x8 z_pairs x9 z_then z_tryAt) H → va_D A (W_X9z cI cZ cII qz qz_text qz_t qz_draft qz_s qz_kept qz_isKept qz_times qz_w qz_at qz_pulled qz_best qz_cartRow qz_tryRow qz_pairs qz_from qz_then qz_tryAt z_thrown z_typed z_next z_token z_place z_value z_figures z_fault z_faultAt z_timeMany x0 z_half x1 x2 z_isDue z_text z_t z_draft z_s z_kept z_isKept z_times x3 x4 x5 x6 x7 x8 z_pairs x9 z_then z_tryAt) → va_S A s.heap H locs → (some (v, x0, x1, x2, x3, x4, x5, x6, x7, x8, x9) : Option (Int32 × Int32 × Int32 × Int32 × (Nat → Int32) × (Nat → Int32) × (Nat → Int32) × (Nat → Int32) × (Nat → Int32) × (Nat → Int32) × (Nat → Int32))) = some (rr, z_eaten', z_bestMinutes', z_bestOats', z_w', z_at', z_pulled', z_best', z_cartRow', z_tryRow', z_from') → W p l e rm_X9_fewest s m args below meth c H locs 0 0 Q (F0 m pc ls [.int v]) := by
    intro H locs ls pc v x0 x1 x2 x3 x4 x5 x6 x7 x8 x9 hd hP hD hS he
    subst hAe; subst hQ
    simp only [Option.some.injEq, Prod.mk.injEq] at he
    obtain ⟨rfl, rfl, rfl, rfl, rfl, rfl, rfl, rfl, rfl, rfl, rfl⟩ := he
    exact pg_iret hx hb hr hlocks hK hP hD hS hd
  unfold f_X9_fewest at hf
  refine lv_aload_n hx hb dX9_fewest_0 rfl (lv_at hl 0 rfl) ?_
  refine va_get (D := (dC, dI)) (ci := 9) (v := .ref qz_t) (C := RX9) (T := TX9) (N := 32) hx hb hw inlX9 hown hK hP 0 rfl rfl 10 (by decide) (hw _ mw_6_1) (fun _ h9 => h9) rfl dX9_fewest_1 ?_
  refine lv_iconst (v := (4 : Int32)) hx hb dX9_fewest_4 (by decide) ?_
  refine va_iald hx hb hK hP 2 0 rfl rfl (pg_lit (by decide)) dX9_fewest_5 ?_
  obtain ⟨J14_1, hJ14_1, hf⟩ := jn1_s hf
  have WJ14_1 : ∀ (z0_1 : Int32) (H : Heap) (locs : List Loc) (ls : Array Slot), va_P (dC, dI) vwCl (W_X9z cI cZ cII qz qz_text qz_t qz_draft qz_s qz_kept qz_isKept qz_times qz_w qz_at qz_pulled qz_best qz_cartRow qz_tryRow qz_pairs qz_from qz_then qz_tryAt z_thrown z_typed z_next z_token z_place z_value z_figures z_fault z_faultAt z_timeMany z_eaten z_half z_bestMinutes z_bestOats z_isDue z_text z_t z_draft z_s z_kept z_isKept z_times z_w z_at z_pulled z_best z_cartRow z_tryRow z_pairs z_from z_then z_tryAt) H → va_D A (W_X9z cI cZ cII qz qz_text qz_t qz_draft qz_s qz_kept qz_isKept qz_times qz_w qz_at qz_pulled qz_best qz_cartRow qz_tryRow qz_pairs qz_from qz_then qz_tryAt z_thrown z_typed z_next z_token z_place z_value z_figures z_fault z_faultAt z_timeMany z_eaten z_half z_bestMinutes z_bestOats z_isDue z_text z_t z_draft z_s z_kept z_isKept z_times z_w z_at z_pulled z_best z_cartRow z_tryRow z_pairs z_from z_then z_tryAt) → va_S A s.heap H locs → lv_has ls 6 [(0, .ref qz)] → J14_1 z0_1 = some (rr, z_eaten', z_bestMinutes', z_bestOats', z_w', z_at', z_pulled', z_best', z_cartRow', z_tryRow', z_from') → W p l e rm_X9_fewest s m args below meth c H locs 0 0 Q (F0 m 14 ls [.int z0_1]) := by
    intro z0_1 H locs ls hP hD hS hl hf
    have hf := hJ14_1 _ hf
    refine lv_istore_n (lv' := [(1, .int z0_1), (0, .ref qz)]) hx hb dX9_fewest_14 rfl hl (by decide) rfl (fun ls hl => ?_)
    obtain ⟨K153_2, hK153_2, hf⟩ := jn10_s hf
    have WK153_2 : ∀ (z_eaten_2 : Int32) (z_bestMinutes_2 : Int32) (z_bestOats_2 : Int32) (z_w_2 : Nat → Int32) (z_at_2 : Nat → Int32) (z_pulled_2 : Nat → Int32) (z_best_2 : Nat → Int32) (z_cartRow_2 : Nat → Int32) (z_tryRow_2 : Nat → Int32) (z_from_2 : Nat → Int32) (H : Heap) (locs : List Loc) (ls : Array Slot), va_P (dC, dI) vwCl (W_X9z cI cZ cII qz qz_text qz_t qz_draft qz_s qz_kept qz_isKept qz_times qz_w qz_at qz_pulled qz_best qz_cartRow qz_tryRow qz_pairs qz_from qz_then qz_tryAt z_thrown z_typed z_next z_token z_place z_value z_figures z_fault z_faultAt z_timeMany z_eaten_2 z_half z_bestMinutes_2 z_bestOats_2 z_isDue z_text z_t z_draft z_s z_kept z_isKept z_times z_w_2 z_at_2 z_pulled_2 z_best_2 z_cartRow_2 z_tryRow_2 z_pairs z_from_2 z_then z_tryAt) H → va_D A (W_X9z cI cZ cII qz qz_text qz_t qz_draft qz_s qz_kept qz_isKept qz_times qz_w qz_at qz_pulled qz_best qz_cartRow qz_tryRow qz_pairs qz_from qz_then qz_tryAt z_thrown z_typed z_next z_token z_place z_value z_figures z_fault z_faultAt z_timeMany z_eaten_2 z_half z_bestMinutes_2 z_bestOats_2 z_isDue z_text z_t z_draft z_s z_kept z_isKept z_times z_w_2 z_at_2 z_pulled_2 z_best_2 z_cartRow_2 z_tryRow_2 z_pairs z_from_2 z_then z_tryAt) → va_S A s.heap H locs → lv_has ls 6 [] → K153_2 z_eaten_2 z_bestMinutes_2 z_bestOats_2 z_w_2 z_at_2 z_pulled_2 z_best_2 z_cartRow_2 z_tryRow_2 z_from_2 = some (rr, z_eaten', z_bestMinutes', z_bestOats', z_w', z_at', z_pulled', z_best', z_cartRow', z_tryRow', z_from') → W p l e rm_X9_fewest s m args below meth c H locs 0 0 Q (F0 m 153 ls []) := by
      intro z_eaten_2 z_bestMinutes_2 z_bestOats_2 z_w_2 z_at_2 z_pulled_2 z_best_2 z_cartRow_2 z_tryRow_2 z_from_2 H locs ls hP hD hS hl hf
      have hf := hK153_2 _ _ _ _ _ _ _ _ _ _ hf
      refine lv_iconst (v := (-1 : Int32)) hx hb dX9_fewest_153 (by decide) ?_
      exact RET _ _ _ _ _ _ _ _ _ _ _ _ _ _ _ dX9_fewest_154 hP hD hS hf
    obtain ⟨B3, hB3, hf⟩ := lq11_n hf
    have WL3 : ∀ (n9 : Nat) (y1_3 : Int32) (z_eaten_3 : Int32) (z_bestMinutes_3 : Int32) (z_bestOats_3 : Int32) (z_w_3 : Nat → Int32) (z_at_3 : Nat → Int32) (z_pulled_3 : Nat → Int32) (z_best_3 : Nat → Int32) (z_cartRow_3 : Nat → Int32) (z_tryRow_3 : Nat → Int32) (z_from_3 : Nat → Int32) (H : Heap) (locs : List Loc) (ls : Array Slot), va_P (dC, dI) vwCl (W_X9z cI cZ cII qz qz_text qz_t qz_draft qz_s qz_kept qz_isKept qz_times qz_w qz_at qz_pulled qz_best qz_cartRow qz_tryRow qz_pairs qz_from qz_then qz_tryAt z_thrown z_typed z_next z_token z_place z_value z_figures z_fault z_faultAt z_timeMany z_eaten_3 z_half z_bestMinutes_3 z_bestOats_3 z_isDue z_text z_t z_draft z_s z_kept z_isKept z_times z_w_3 z_at_3 z_pulled_3 z_best_3 z_cartRow_3 z_tryRow_3 z_pairs z_from_3 z_then z_tryAt) H → va_D A (W_X9z cI cZ cII qz qz_text qz_t qz_draft qz_s qz_kept qz_isKept qz_times qz_w qz_at qz_pulled qz_best qz_cartRow qz_tryRow qz_pairs qz_from qz_then qz_tryAt z_thrown z_typed z_next z_token z_place z_value z_figures z_fault z_faultAt z_timeMany z_eaten_3 z_half z_bestMinutes_3 z_bestOats_3 z_isDue z_text z_t z_draft z_s z_kept z_isKept z_times z_w_3 z_at_3 z_pulled_3 z_best_3 z_cartRow_3 z_tryRow_3 z_pairs z_from_3 z_then z_tryAt) → va_S A s.heap H locs → lv_has ls 6 [(0, .ref qz), (1, .int y1_3)] → lq11 B3 n9 y1_3 z_eaten_3 z_bestMinutes_3 z_bestOats_3 z_w_3 z_at_3 z_pulled_3 z_best_3 z_cartRow_3 z_tryRow_3 z_from_3 = some (rr, z_eaten', z_bestMinutes', z_bestOats', z_w', z_at', z_pulled', z_best', z_cartRow', z_tryRow', z_from') → W p l e rm_X9_fewest s m args below meth c H locs 0 0 Q (F0 m 15 ls []) := by
      intro n9
      induction n9 with
      | zero => intro y1_3 z_eaten_3 z_bestMinutes_3 z_bestOats_3 z_w_3 z_at_3 z_pulled_3 z_best_3 z_cartRow_3 z_tryRow_3 z_from_3 H locs ls hP hD hS hl hf; cases hf
      | succ n9 ih =>
        intro y1_3 z_eaten_3 z_bestMinutes_3 z_bestOats_3 z_w_3 z_at_3 z_pulled_3 z_best_3 z_cartRow_3 z_tryRow_3 z_from_3 H locs ls hP hD hS hl hf
        obtain ⟨rec3, hrec3, hf⟩ := lq11_s hf
        have hf := hB3 rec3 _ _ _ _ _ _ _ _ _ _ _ hf
        refine lv_iload_n hx hb dX9_fewest_15 rfl (lv_at hl 1 rfl) ?_
        refine lv_aload_n hx hb dX9_fewest_16 rfl (lv_at hl 0 rfl) ?_
        refine va_get (D := (dC, dI)) (ci := 9) (v := .ref qz_t) (C := RX9) (T := TX9) (N := 32) hx hb hw inlX9 hown hK hP 0 rfl rfl 10 (by decide) (hw _ mw_6_1) (fun _ h9 => h9) rfl dX9_fewest_17 ?_
        refine lv_iconst (v := (4 : Int32)) hx hb dX9_fewest_20 (by decide) ?_
        refine va_iald hx hb hK hP 2 0 rfl rfl (pg_lit (by decide)) dX9_fewest_21 ?_
        refine lv_icmp_gt (tgt := 153) hx hb dX9_fewest_22 (by decide) (fun h9 => ?_) (fun h9 => ?_)
        · have hf := pg_t h9 hf
          exact WK153_2 _ _ _ _ _ _ _ _ _ _ _ _ _ hP hD hS (lv_sub hl [] rfl) hf
        · have hf := pg_f h9 hf
          refine lv_iload_n hx hb dX9_fewest_25 rfl (lv_at hl 1 rfl) ?_
          obtain ⟨J34_4, hJ34_4, hf⟩ := jn1_s hf
          have WJ34_4 : ∀ (z0_4 : Int32) (H : Heap) (locs : List Loc) (ls : Array Slot), va_P (dC, dI) vwCl (W_X9z cI cZ cII qz qz_text qz_t qz_draft qz_s qz_kept qz_isKept qz_times qz_w qz_at qz_pulled qz_best qz_cartRow qz_tryRow qz_pairs qz_from qz_then qz_tryAt z_thrown z_typed z_next z_token z_place z_value z_figures z_fault z_faultAt z_timeMany z_eaten_3 z_half z_bestMinutes_3 z_bestOats_3 z_isDue z_text z_t z_draft z_s z_kept z_isKept z_times z_w_3 z_at_3 z_pulled_3 z_best_3 z_cartRow_3 z_tryRow_3 z_pairs z_from_3 z_then z_tryAt) H → va_D A (W_X9z cI cZ cII qz qz_text qz_t qz_draft qz_s qz_kept qz_isKept qz_times qz_w qz_at qz_pulled qz_best qz_cartRow qz_tryRow qz_pairs qz_from qz_then qz_tryAt z_thrown z_typed z_next z_token z_place z_value z_figures z_fault z_faultAt z_timeMany z_eaten_3 z_half z_bestMinutes_3 z_bestOats_3 z_isDue z_text z_t z_draft z_s z_kept z_isKept z_times z_w_3 z_at_3 z_pulled_3 z_best_3 z_cartRow_3 z_tryRow_3 z_pairs z_from_3 z_then z_tryAt) → va_S A s.heap H locs → lv_has ls 6 [(0, .ref qz), (1, .int y1_3)] → J34_4 z0_4 = some (rr, z_eaten', z_bestMinutes', z_bestOats', z_w', z_at', z_pulled', z_best', z_cartRow', z_tryRow', z_from') → W p l e rm_X9_fewest s m args below meth c H locs 0 0 Q (F0 m 34 ls [.int z0_4]) := by
            intro z0_4 H locs ls hP hD hS hl hf
            have hf := hJ34_4 _ hf
            refine lv_istore_n (lv' := [(2, .int z0_4), (0, .ref qz), (1, .int y1_3)]) hx hb dX9_fewest_34 rfl hl (by decide) rfl (fun ls hl => ?_)
            refine lv_iconst (v := (1 : Int32)) hx hb dX9_fewest_35 (by decide) ?_
            refine lv_istore_n (lv' := [(3, .int (1 : Int32)), (2, .int z0_4), (0, .ref qz), (1, .int y1_3)]) hx hb dX9_fewest_36 rfl hl (by decide) rfl (fun ls hl => ?_)
            refine lv_iconst (v := (0 : Int32)) hx hb dX9_fewest_37 (by decide) ?_
            refine lv_istore (lv' := [(4, .int (0 : Int32)), (3, .int (1 : Int32)), (2, .int z0_4), (0, .ref qz), (1, .int y1_3)]) hx hb dX9_fewest_38 hl (by decide) rfl (fun ls hl => ?_)
            obtain ⟨K61_5, hK61_5, hf⟩ := jn1_s hf
            have WK61_5 : ∀ (y3_5 : Int32) (H : Heap) (locs : List Loc) (ls : Array Slot), va_P (dC, dI) vwCl (W_X9z cI cZ cII qz qz_text qz_t qz_draft qz_s qz_kept qz_isKept qz_times qz_w qz_at qz_pulled qz_best qz_cartRow qz_tryRow qz_pairs qz_from qz_then qz_tryAt z_thrown z_typed z_next z_token z_place z_value z_figures z_fault z_faultAt z_timeMany z_eaten_3 z_half z_bestMinutes_3 z_bestOats_3 z_isDue z_text z_t z_draft z_s z_kept z_isKept z_times z_w_3 z_at_3 z_pulled_3 z_best_3 z_cartRow_3 z_tryRow_3 z_pairs z_from_3 z_then z_tryAt) H → va_D A (W_X9z cI cZ cII qz qz_text qz_t qz_draft qz_s qz_kept qz_isKept qz_times qz_w qz_at qz_pulled qz_best qz_cartRow qz_tryRow qz_pairs qz_from qz_then qz_tryAt z_thrown z_typed z_next z_token z_place z_value z_figures z_fault z_faultAt z_timeMany z_eaten_3 z_half z_bestMinutes_3 z_bestOats_3 z_isDue z_text z_t z_draft z_s z_kept z_isKept z_times z_w_3 z_at_3 z_pulled_3 z_best_3 z_cartRow_3 z_tryRow_3 z_pairs z_from_3 z_then z_tryAt) → va_S A s.heap H locs → lv_has ls 6 [(0, .ref qz), (1, .int y1_3), (2, .int z0_4), (3, .int y3_5)] → K61_5 y3_5 = some (rr, z_eaten', z_bestMinutes', z_bestOats', z_w', z_at', z_pulled', z_best', z_cartRow', z_tryRow', z_from') → W p l e rm_X9_fewest s m args below meth c H locs 0 0 Q (F0 m 61 ls []) := by
              intro y3_5 H locs ls hP hD hS hl hf
              have hf := hK61_5 _ hf
              refine lv_iconst (v := (0 : Int32)) hx hb dX9_fewest_61 (by decide) ?_
              refine lv_istore (lv' := [(4, .int (0 : Int32)), (0, .ref qz), (1, .int y1_3), (2, .int z0_4), (3, .int y3_5)]) hx hb dX9_fewest_62 hl (by decide) rfl (fun ls hl => ?_)
              obtain ⟨K141_6, hK141_6, hf⟩ := jn11_s hf
              have WK141_6 : ∀ (y2_6 : Int32) (z_eaten_6 : Int32) (z_bestMinutes_6 : Int32) (z_bestOats_6 : Int32) (z_w_6 : Nat → Int32) (z_at_6 : Nat → Int32) (z_pulled_6 : Nat → Int32) (z_best_6 : Nat → Int32) (z_cartRow_6 : Nat → Int32) (z_tryRow_6 : Nat → Int32) (z_from_6 : Nat → Int32) (H : Heap) (locs : List Loc) (ls : Array Slot), va_P (dC, dI) vwCl (W_X9z cI cZ cII qz qz_text qz_t qz_draft qz_s qz_kept qz_isKept qz_times qz_w qz_at qz_pulled qz_best qz_cartRow qz_tryRow qz_pairs qz_from qz_then qz_tryAt z_thrown z_typed z_next z_token z_place z_value z_figures z_fault z_faultAt z_timeMany z_eaten_6 z_half z_bestMinutes_6 z_bestOats_6 z_isDue z_text z_t z_draft z_s z_kept z_isKept z_times z_w_6 z_at_6 z_pulled_6 z_best_6 z_cartRow_6 z_tryRow_6 z_pairs z_from_6 z_then z_tryAt) H → va_D A (W_X9z cI cZ cII qz qz_text qz_t qz_draft qz_s qz_kept qz_isKept qz_times qz_w qz_at qz_pulled qz_best qz_cartRow qz_tryRow qz_pairs qz_from qz_then qz_tryAt z_thrown z_typed z_next z_token z_place z_value z_figures z_fault z_faultAt z_timeMany z_eaten_6 z_half z_bestMinutes_6 z_bestOats_6 z_isDue z_text z_t z_draft z_s z_kept z_isKept z_times z_w_6 z_at_6 z_pulled_6 z_best_6 z_cartRow_6 z_tryRow_6 z_pairs z_from_6 z_then z_tryAt) → va_S A s.heap H locs → lv_has ls 6 [(0, .ref qz), (1, .int y1_3), (2, .int y2_6)] → K141_6 y2_6 z_eaten_6 z_bestMinutes_6 z_bestOats_6 z_w_6 z_at_6 z_pulled_6 z_best_6 z_cartRow_6 z_tryRow_6 z_from_6 = some (rr, z_eaten', z_bestMinutes', z_bestOats', z_w', z_at', z_pulled', z_best', z_cartRow', z_tryRow', z_from') → W p l e rm_X9_fewest s m args below meth c H locs 0 0 Q (F0 m 141 ls []) := by
                intro y2_6 z_eaten_6 z_bestMinutes_6 z_bestOats_6 z_w_6 z_at_6 z_pulled_6 z_best_6 z_cartRow_6 z_tryRow_6 z_from_6 H locs ls hP hD hS hl hf
                have hf := hK141_6 _ _ _ _ _ _ _ _ _ _ _ hf
                refine lv_iload_n hx hb dX9_fewest_141 rfl (lv_at hl 2 rfl) ?_
                refine lv_if_eq (tgt := 147) hx hb dX9_fewest_142 (by decide) (fun h9 => ?_) (fun h9 => ?_)
                · have hf := pg_t h9 hf
                  refine lv_iinc (v := (y1_3 + (1 : Int32))) (lv' := [(1, .int (y1_3 + (1 : Int32))), (0, .ref qz), (2, .int y2_6)]) hx hb dX9_fewest_147 hl (k := 1) rfl rfl (by decide) rfl (fun ls hl => ?_)
                  refine lv_goto (tgt := 15) hx hb dX9_fewest_150 (by decide) ?_
                  exact ih _ _ _ _ _ _ _ _ _ _ _ _ _ _ hP hD hS (lv_sub hl [1, 0] rfl) (hrec3 _ _ _ _ _ _ _ _ _ _ _ hf)
                · have hf := pg_f h9 hf
                  refine lv_iload_n hx hb dX9_fewest_145 rfl (lv_at hl 1 rfl) ?_
                  exact RET _ _ _ _ _ _ _ _ _ _ _ _ _ _ _ dX9_fewest_146 hP hD hS hf
              obtain ⟨B7, hB7, hf⟩ := lq12_n hf
              have WL7 : ∀ (n9 : Nat) (y2_7 : Int32) (y4_7 : Int32) (z_eaten_7 : Int32) (z_bestMinutes_7 : Int32) (z_bestOats_7 : Int32) (z_w_7 : Nat → Int32) (z_at_7 : Nat → Int32) (z_pulled_7 : Nat → Int32) (z_best_7 : Nat → Int32) (z_cartRow_7 : Nat → Int32) (z_tryRow_7 : Nat → Int32) (z_from_7 : Nat → Int32) (H : Heap) (locs : List Loc) (ls : Array Slot), va_P (dC, dI) vwCl (W_X9z cI cZ cII qz qz_text qz_t qz_draft qz_s qz_kept qz_isKept qz_times qz_w qz_at qz_pulled qz_best qz_cartRow qz_tryRow qz_pairs qz_from qz_then qz_tryAt z_thrown z_typed z_next z_token z_place z_value z_figures z_fault z_faultAt z_timeMany z_eaten_7 z_half z_bestMinutes_7 z_bestOats_7 z_isDue z_text z_t z_draft z_s z_kept z_isKept z_times z_w_7 z_at_7 z_pulled_7 z_best_7 z_cartRow_7 z_tryRow_7 z_pairs z_from_7 z_then z_tryAt) H → va_D A (W_X9z cI cZ cII qz qz_text qz_t qz_draft qz_s qz_kept qz_isKept qz_times qz_w qz_at qz_pulled qz_best qz_cartRow qz_tryRow qz_pairs qz_from qz_then qz_tryAt z_thrown z_typed z_next z_token z_place z_value z_figures z_fault z_faultAt z_timeMany z_eaten_7 z_half z_bestMinutes_7 z_bestOats_7 z_isDue z_text z_t z_draft z_s z_kept z_isKept z_times z_w_7 z_at_7 z_pulled_7 z_best_7 z_cartRow_7 z_tryRow_7 z_pairs z_from_7 z_then z_tryAt) → va_S A s.heap H locs → lv_has ls 6 [(0, .ref qz), (1, .int y1_3), (2, .int y2_7), (3, .int y3_5), (4, .int y4_7)] → lq12 B7 n9 y2_7 y4_7 z_eaten_7 z_bestMinutes_7 z_bestOats_7 z_w_7 z_at_7 z_pulled_7 z_best_7 z_cartRow_7 z_tryRow_7 z_from_7 = some (rr, z_eaten', z_bestMinutes', z_bestOats', z_w', z_at', z_pulled', z_best', z_cartRow', z_tryRow', z_from') → W p l e rm_X9_fewest s m args below meth c H locs 0 0 Q (F0 m 64 ls []) := by
                intro n9
                induction n9 with
                | zero => intro y2_7 y4_7 z_eaten_7 z_bestMinutes_7 z_bestOats_7 z_w_7 z_at_7 z_pulled_7 z_best_7 z_cartRow_7 z_tryRow_7 z_from_7 H locs ls hP hD hS hl hf; cases hf
                | succ n9 ih =>
                  intro y2_7 y4_7 z_eaten_7 z_bestMinutes_7 z_bestOats_7 z_w_7 z_at_7 z_pulled_7 z_best_7 z_cartRow_7 z_tryRow_7 z_from_7 H locs ls hP hD hS hl hf
                  obtain ⟨rec7, hrec7, hf⟩ := lq12_s hf
                  have hf := hB7 rec7 _ _ _ _ _ _ _ _ _ _ _ _ hf
                  refine lv_iload hx hb dX9_fewest_64 (lv_at hl 4 rfl) ?_
                  refine lv_iload_n hx hb dX9_fewest_66 rfl (lv_at hl 3 rfl) ?_
                  refine lv_icmp_ge (tgt := 141) hx hb dX9_fewest_67 (by decide) (fun h9 => ?_) (fun h9 => ?_)
                  · have hf := pg_t h9 hf
                    exact WK141_6 _ _ _ _ _ _ _ _ _ _ _ _ _ _ hP hD hS (lv_sub hl [0, 1, 2] rfl) hf
                  · have hf := pg_f h9 hf
                    refine lv_iload_n hx hb dX9_fewest_70 rfl (lv_at hl 1 rfl) ?_
                    refine lv_if_le (tgt := 141) hx hb dX9_fewest_71 (by decide) (fun h9 => ?_) (fun h9 => ?_)
                    · have hf := pg_t h9 hf
                      exact WK141_6 _ _ _ _ _ _ _ _ _ _ _ _ _ _ hP hD hS (lv_sub hl [0, 1, 2] rfl) hf
                    · have hf := pg_f h9 hf
                      refine lv_aload_n hx hb dX9_fewest_74 rfl (lv_at hl 0 rfl) ?_
                      refine lv_iload hx hb dX9_fewest_75 (lv_at hl 4 rfl) ?_
                      refine lv_iload_n hx hb dX9_fewest_77 rfl (lv_at hl 1 rfl) ?_
                      obtain ⟨r_8, z_tryRow_8, hc, hf⟩ := bn2_s hf
                      refine pg_cVi (As := [.int y4_7, .int y1_3]) (rest := []) (wf := (W_X9z cI cZ cII qz qz_text qz_t qz_draft qz_s qz_kept qz_isKept qz_times qz_w qz_at qz_pulled qz_best qz_cartRow qz_tryRow qz_pairs qz_from qz_then qz_tryAt z_thrown z_typed z_next z_token z_place z_value z_figures z_fault z_faultAt z_timeMany z_eaten_7 z_half z_bestMinutes_7 z_bestOats_7 z_isDue z_text z_t z_draft z_s z_kept z_isKept z_times z_w_7 z_at_7 z_pulled_7 z_best_7 z_cartRow_7 z_tryRow_8 z_pairs z_from_7 z_then z_tryAt)) ⟨hx, hb, hml, hown, hw⟩ (c_X9_isRow l dC dI cI cZ cII qz qz_text qz_t qz_draft qz_s qz_kept qz_isKept qz_times qz_w qz_at qz_pulled qz_best qz_cartRow qz_tryRow qz_pairs qz_from qz_then qz_tryAt H.size z_thrown z_typed z_next z_token z_place z_value z_figures z_fault z_faultAt z_timeMany z_eaten_7 z_half z_bestMinutes_7 z_bestOats_7 z_isDue z_text z_t z_draft z_s z_kept z_isKept z_times z_w_7 z_at_7 z_pulled_7 z_best_7 z_cartRow_7 z_tryRow_7 z_pairs z_from_7 z_then z_tryAt y4_7 y1_3 r_8 z_tryRow_8 hc) (cwV 2 hts (wM_V mw_41_18 mw_41_19 mw_41_20 mw_1_5 mw_41_21) rfl rfl rfl dk_X9_isRow ⟨Nat.le_of_ble_eq_true rfl, Nat.le_of_ble_eq_true rfl⟩) hK hP hD hS hA 9 0 rfl rfl rfl [0, 1, 2, 3, 4, 5, 6, 7, 8, 9, 10, 11, 12, 13, 14, 15, 16, 17] [] [0, 1, 2, 3, 4, 5, 6, 7, 8, 9, 10, 11, 12, 13, 14, 15, 16, 17] (plC_64 cI cZ cII qz qz_text qz_t qz_draft qz_s qz_kept qz_isKept qz_times qz_w qz_at qz_pulled qz_best qz_cartRow qz_tryRow qz_pairs qz_from qz_then qz_tryAt z_thrown z_typed z_next z_token z_place z_value z_figures z_fault z_faultAt z_timeMany z_eaten_7 z_half z_bestMinutes_7 z_bestOats_7 z_isDue z_text z_t z_draft z_s z_kept z_isKept z_times z_w_7 z_at_7 z_pulled_7 z_best_7 z_cartRow_7 z_tryRow_7 z_pairs z_from_7 z_then z_tryAt) rfl (plF_64 cI cZ cII qz qz_text qz_t qz_draft qz_s qz_kept qz_isKept qz_times qz_w qz_at qz_pulled qz_best qz_cartRow qz_tryRow qz_pairs qz_from qz_then qz_tryAt z_thrown z_typed z_next z_token z_place z_value z_figures z_fault z_faultAt z_timeMany z_eaten_7 z_half z_bestMinutes_7 z_bestOats_7 z_isDue z_text z_t z_draft z_s z_kept z_isKept z_times z_w_7 z_at_7 z_pulled_7 z_best_7 z_cartRow_7 z_tryRow_7 z_pairs z_from_7 z_then z_tryAt z_thrown z_typed z_next z_token z_place z_value z_figures z_fault z_faultAt z_timeMany z_eaten_7 z_half z_bestMinutes_7 z_bestOats_7 z_isDue z_text z_t z_draft z_s z_kept z_isKept z_times z_w_7 z_at_7 z_pulled_7 z_best_7 z_cartRow_7 z_tryRow_8 z_pairs z_from_7 z_then z_tryAt) (by decide) rfl hl.1 rfl (Nat.le_of_ble_eq_true rfl) dX9_fewest_78 ⟨Nat.zero_le _, Nat.zero_le _⟩ (fun H locs hP hD hS => ?_)
                      obtain ⟨J135_9, hJ135_9, hf⟩ := jn10_s hf
                      have WJ135_9 : ∀ (y2_9 : Int32) (z_eaten_9 : Int32) (z_bestMinutes_9 : Int32) (z_bestOats_9 : Int32) (z_w_9 : Nat → Int32) (z_at_9 : Nat → Int32) (z_pulled_9 : Nat → Int32) (z_best_9 : Nat → Int32) (z_cartRow_9 : Nat → Int32) (z_from_9 : Nat → Int32) (H : Heap) (locs : List Loc) (ls : Array Slot), va_P (dC, dI) vwCl (W_X9z cI cZ cII qz qz_text qz_t qz_draft qz_s qz_kept qz_isKept qz_times qz_w qz_at qz_pulled qz_best qz_cartRow qz_tryRow qz_pairs qz_from qz_then qz_tryAt z_thrown z_typed z_next z_token z_place z_value z_figures z_fault z_faultAt z_timeMany z_eaten_9 z_half z_bestMinutes_9 z_bestOats_9 z_isDue z_text z_t z_draft z_s z_kept z_isKept z_times z_w_9 z_at_9 z_pulled_9 z_best_9 z_cartRow_9 z_tryRow_8 z_pairs z_from_9 z_then z_tryAt) H → va_D A (W_X9z cI cZ cII qz qz_text qz_t qz_draft qz_s qz_kept qz_isKept qz_times qz_w qz_at qz_pulled qz_best qz_cartRow qz_tryRow qz_pairs qz_from qz_then qz_tryAt z_thrown z_typed z_next z_token z_place z_value z_figures z_fault z_faultAt z_timeMany z_eaten_9 z_half z_bestMinutes_9 z_bestOats_9 z_isDue z_text z_t z_draft z_s z_kept z_isKept z_times z_w_9 z_at_9 z_pulled_9 z_best_9 z_cartRow_9 z_tryRow_8 z_pairs z_from_9 z_then z_tryAt) → va_S A s.heap H locs → lv_has ls 6 [(0, .ref qz), (1, .int y1_3), (2, .int y2_9), (3, .int y3_5), (4, .int y4_7)] → J135_9 y2_9 z_eaten_9 z_bestMinutes_9 z_bestOats_9 z_w_9 z_at_9 z_pulled_9 z_best_9 z_cartRow_9 z_from_9 = some (rr, z_eaten', z_bestMinutes', z_bestOats', z_w', z_at', z_pulled', z_best', z_cartRow', z_tryRow', z_from') → W p l e rm_X9_fewest s m args below meth c H locs 0 0 Q (F0 m 135 ls []) := by
                        intro y2_9 z_eaten_9 z_bestMinutes_9 z_bestOats_9 z_w_9 z_at_9 z_pulled_9 z_best_9 z_cartRow_9 z_from_9 H locs ls hP hD hS hl hf
                        have hf := hJ135_9 _ _ _ _ _ _ _ _ _ _ hf
                        refine lv_iinc (v := (y4_7 + (1 : Int32))) (lv' := [(4, .int (y4_7 + (1 : Int32))), (0, .ref qz), (1, .int y1_3), (2, .int y2_9), (3, .int y3_5)]) hx hb dX9_fewest_135 hl (k := 4) rfl rfl (by decide) rfl (fun ls hl => ?_)
                        refine lv_goto (tgt := 64) hx hb dX9_fewest_138 (by decide) ?_
                        exact ih _ _ _ _ _ _ _ _ _ _ _ _ _ _ _ hP hD hS (lv_sub hl [1, 2, 3, 4, 0] rfl) (hrec7 _ _ _ _ _ _ _ _ _ _ _ _ hf)
                      refine lv_if_eq (tgt := 135) hx hb dX9_fewest_81 (by decide) (fun h9 => ?_) (fun h9 => ?_)
                      · have hf := pg_t h9 hf
                        exact WJ135_9 _ _ _ _ _ _ _ _ _ _ _ _ _ hP hD hS hl hf
                      · have hf := pg_f h9 hf
                        refine lv_iload_n hx hb dX9_fewest_84 rfl (lv_at hl 2 rfl) ?_
                        obtain ⟨J96_10, hJ96_10, hf⟩ := jn1_s hf
                        have WJ96_10 : ∀ (u_10 : Unit) (H : Heap) (locs : List Loc) (ls : Array Slot), va_P (dC, dI) vwCl (W_X9z cI cZ cII qz qz_text qz_t qz_draft qz_s qz_kept qz_isKept qz_times qz_w qz_at qz_pulled qz_best qz_cartRow qz_tryRow qz_pairs qz_from qz_then qz_tryAt z_thrown z_typed z_next z_token z_place z_value z_figures z_fault z_faultAt z_timeMany z_eaten_7 z_half z_bestMinutes_7 z_bestOats_7 z_isDue z_text z_t z_draft z_s z_kept z_isKept z_times z_w_7 z_at_7 z_pulled_7 z_best_7 z_cartRow_7 z_tryRow_8 z_pairs z_from_7 z_then z_tryAt) H → va_D A (W_X9z cI cZ cII qz qz_text qz_t qz_draft qz_s qz_kept qz_isKept qz_times qz_w qz_at qz_pulled qz_best qz_cartRow qz_tryRow qz_pairs qz_from qz_then qz_tryAt z_thrown z_typed z_next z_token z_place z_value z_figures z_fault z_faultAt z_timeMany z_eaten_7 z_half z_bestMinutes_7 z_bestOats_7 z_isDue z_text z_t z_draft z_s z_kept z_isKept z_times z_w_7 z_at_7 z_pulled_7 z_best_7 z_cartRow_7 z_tryRow_8 z_pairs z_from_7 z_then z_tryAt) → va_S A s.heap H locs → lv_has ls 6 [(0, .ref qz), (1, .int y1_3), (2, .int y2_7), (3, .int y3_5), (4, .int y4_7)] → J96_10 u_10 = some (rr, z_eaten', z_bestMinutes', z_bestOats', z_w', z_at', z_pulled', z_best', z_cartRow', z_tryRow', z_from') → W p l e rm_X9_fewest s m args below meth c H locs 0 0 Q (F0 m 96 ls []) := by
                          intro u_10 H locs ls hP hD hS hl hf
                          have hf := hJ96_10 _ hf
                          refine lv_aload_n hx hb dX9_fewest_96 rfl (lv_at hl 0 rfl) ?_
                          refine lv_iload_n hx hb dX9_fewest_97 rfl (lv_at hl 1 rfl) ?_
                          obtain ⟨r_11, z_eaten_11, z_bestMinutes_11, z_bestOats_11, z_w_11, z_at_11, z_pulled_11, z_best_11, z_from_11, hc, hf⟩ := bn9_s hf
                          refine pg_cVi (As := [.int y1_3]) (rest := []) (wf := (W_X9z cI cZ cII qz qz_text qz_t qz_draft qz_s qz_kept qz_isKept qz_times qz_w qz_at qz_pulled qz_best qz_cartRow qz_tryRow qz_pairs qz_from qz_then qz_tryAt z_thrown z_typed z_next z_token z_place z_value z_figures z_fault z_faultAt z_timeMany z_eaten_11 z_half z_bestMinutes_11 z_bestOats_11 z_isDue z_text z_t z_draft z_s z_kept z_isKept z_times z_w_11 z_at_11 z_pulled_11 z_best_11 z_cartRow_7 z_tryRow_8 z_pairs z_from_11 z_then z_tryAt)) ⟨hx, hb, hml, hown, hw⟩ (c_X9_isOver l dC dI cI cZ cII qz qz_text qz_t qz_draft qz_s qz_kept qz_isKept qz_times qz_w qz_at qz_pulled qz_best qz_cartRow qz_tryRow qz_pairs qz_from qz_then qz_tryAt H.size z_thrown z_typed z_next z_token z_place z_value z_figures z_fault z_faultAt z_timeMany z_eaten_7 z_half z_bestMinutes_7 z_bestOats_7 z_isDue z_text z_t z_draft z_s z_kept z_isKept z_times z_w_7 z_at_7 z_pulled_7 z_best_7 z_cartRow_7 z_tryRow_8 z_pairs z_from_7 z_then z_tryAt y1_3 r_11 z_eaten_11 z_bestMinutes_11 z_bestOats_11 z_w_11 z_at_11 z_pulled_11 z_best_11 z_from_11 hc) (cwV 1 hts (wM_V mw_42_2 mw_42_3 mw_42_4 mw_1_5 mw_42_5) rfl rfl rfl dk_X9_isOver ⟨Nat.le_of_ble_eq_true rfl, Nat.le_of_ble_eq_true rfl⟩) hK hP hD hS hA 9 0 rfl rfl rfl [0, 1, 2, 3, 4, 5, 6, 7, 8, 9, 10, 11, 12, 13, 14, 15, 16, 17] [] [0, 1, 2, 3, 4, 5, 6, 7, 8, 9, 10, 11, 12, 13, 14, 15, 16, 17] (plC_64 cI cZ cII qz qz_text qz_t qz_draft qz_s qz_kept qz_isKept qz_times qz_w qz_at qz_pulled qz_best qz_cartRow qz_tryRow qz_pairs qz_from qz_then qz_tryAt z_thrown z_typed z_next z_token z_place z_value z_figures z_fault z_faultAt z_timeMany z_eaten_7 z_half z_bestMinutes_7 z_bestOats_7 z_isDue z_text z_t z_draft z_s z_kept z_isKept z_times z_w_7 z_at_7 z_pulled_7 z_best_7 z_cartRow_7 z_tryRow_8 z_pairs z_from_7 z_then z_tryAt) rfl (plF_64 cI cZ cII qz qz_text qz_t qz_draft qz_s qz_kept qz_isKept qz_times qz_w qz_at qz_pulled qz_best qz_cartRow qz_tryRow qz_pairs qz_from qz_then qz_tryAt z_thrown z_typed z_next z_token z_place z_value z_figures z_fault z_faultAt z_timeMany z_eaten_7 z_half z_bestMinutes_7 z_bestOats_7 z_isDue z_text z_t z_draft z_s z_kept z_isKept z_times z_w_7 z_at_7 z_pulled_7 z_best_7 z_cartRow_7 z_tryRow_8 z_pairs z_from_7 z_then z_tryAt z_thrown z_typed z_next z_token z_place z_value z_figures z_fault z_faultAt z_timeMany z_eaten_11 z_half z_bestMinutes_11 z_bestOats_11 z_isDue z_text z_t z_draft z_s z_kept z_isKept z_times z_w_11 z_at_11 z_pulled_11 z_best_11 z_cartRow_7 z_tryRow_8 z_pairs z_from_11 z_then z_tryAt) (by decide) rfl hl.1 rfl (Nat.le_of_ble_eq_true rfl) dX9_fewest_98 ⟨Nat.zero_le _, Nat.zero_le _⟩ (fun H locs hP hD hS => ?_)
                          refine lv_if_eq (tgt := 135) hx hb dX9_fewest_101 (by decide) (fun h9 => ?_) (fun h9 => ?_)
                          · have hf := pg_t h9 hf
                            exact WJ135_9 _ _ _ _ _ _ _ _ _ _ _ _ _ hP hD hS hl hf
                          · have hf := pg_f h9 hf
                            refine lv_iconst (v := (1 : Int32)) hx hb dX9_fewest_104 (by decide) ?_
                            refine lv_istore_n (lv' := [(2, .int (1 : Int32)), (0, .ref qz), (1, .int y1_3), (3, .int y3_5), (4, .int y4_7)]) hx hb dX9_fewest_105 rfl hl (by decide) rfl (fun ls hl => ?_)
                            refine lv_iconst (v := (0 : Int32)) hx hb dX9_fewest_106 (by decide) ?_
                            refine lv_istore (lv' := [(5, .int (0 : Int32)), (2, .int (1 : Int32)), (0, .ref qz), (1, .int y1_3), (3, .int y3_5), (4, .int y4_7)]) hx hb dX9_fewest_107 hl (by decide) rfl (fun ls hl => ?_)
                            obtain ⟨B13, hB13, hf⟩ := lq2_n hf
                            have WL13 : ∀ (n9 : Nat) (y5_13 : Int32) (z_cartRow_13 : Nat → Int32) (H : Heap) (locs : List Loc) (ls : Array Slot), va_P (dC, dI) vwCl (W_X9z cI cZ cII qz qz_text qz_t qz_draft qz_s qz_kept qz_isKept qz_times qz_w qz_at qz_pulled qz_best qz_cartRow qz_tryRow qz_pairs qz_from qz_then qz_tryAt z_thrown z_typed z_next z_token z_place z_value z_figures z_fault z_faultAt z_timeMany z_eaten_11 z_half z_bestMinutes_11 z_bestOats_11 z_isDue z_text z_t z_draft z_s z_kept z_isKept z_times z_w_11 z_at_11 z_pulled_11 z_best_11 z_cartRow_13 z_tryRow_8 z_pairs z_from_11 z_then z_tryAt) H → va_D A (W_X9z cI cZ cII qz qz_text qz_t qz_draft qz_s qz_kept qz_isKept qz_times qz_w qz_at qz_pulled qz_best qz_cartRow qz_tryRow qz_pairs qz_from qz_then qz_tryAt z_thrown z_typed z_next z_token z_place z_value z_figures z_fault z_faultAt z_timeMany z_eaten_11 z_half z_bestMinutes_11 z_bestOats_11 z_isDue z_text z_t z_draft z_s z_kept z_isKept z_times z_w_11 z_at_11 z_pulled_11 z_best_11 z_cartRow_13 z_tryRow_8 z_pairs z_from_11 z_then z_tryAt) → va_S A s.heap H locs → lv_has ls 6 [(0, .ref qz), (1, .int y1_3), (2, .int (1 : Int32)), (3, .int y3_5), (4, .int y4_7), (5, .int y5_13)] → lq2 B13 n9 y5_13 z_cartRow_13 = some (rr, z_eaten', z_bestMinutes', z_bestOats', z_w', z_at', z_pulled', z_best', z_cartRow', z_tryRow', z_from') → W p l e rm_X9_fewest s m args below meth c H locs 0 0 Q (F0 m 109 ls []) := by
                              intro n9
                              induction n9 with
                              | zero => intro y5_13 z_cartRow_13 H locs ls hP hD hS hl hf; cases hf
                              | succ n9 ih =>
                                intro y5_13 z_cartRow_13 H locs ls hP hD hS hl hf
                                obtain ⟨rec13, hrec13, hf⟩ := lq2_s hf
                                have hf := hB13 rec13 _ _ hf
                                refine lv_iload hx hb dX9_fewest_109 (lv_at hl 5 rfl) ?_
                                refine lv_iload_n hx hb dX9_fewest_111 rfl (lv_at hl 1 rfl) ?_
                                refine lv_icmp_ge (tgt := 135) hx hb dX9_fewest_112 (by decide) (fun h9 => ?_) (fun h9 => ?_)
                                · have hf := pg_t h9 hf
                                  exact WJ135_9 _ _ _ _ _ _ _ _ _ _ _ _ _ hP hD hS (lv_sub hl [0, 1, 2, 3, 4] rfl) hf
                                · have hf := pg_f h9 hf
                                  refine lv_aload_n hx hb dX9_fewest_115 rfl (lv_at hl 0 rfl) ?_
                                  refine va_get (D := (dC, dI)) (ci := 9) (v := .ref qz_cartRow) (C := RX9) (T := TX9) (N := 32) hx hb hw inlX9 hown hK hP 0 rfl rfl 25 (by decide) (hw _ mw_6_13) (fun _ h9 => h9) rfl dX9_fewest_116 ?_
                                  refine lv_iload hx hb dX9_fewest_119 (lv_at hl 5 rfl) ?_
                                  refine lv_aload_n hx hb dX9_fewest_121 rfl (lv_at hl 0 rfl) ?_
                                  refine va_get (D := (dC, dI)) (ci := 9) (v := .ref qz_tryRow) (C := RX9) (T := TX9) (N := 32) hx hb hw inlX9 hown hK hP 0 rfl rfl 26 (by decide) (hw _ mw_6_14) (fun _ h9 => h9) rfl dX9_fewest_122 ?_
                                  refine lv_iload hx hb dX9_fewest_125 (lv_at hl 5 rfl) ?_
                                  obtain ⟨hi14, hf⟩ := pg_chk hf
                                  refine va_iald hx hb hK hP 13 0 rfl rfl hi14 dX9_fewest_127 ?_
                                  refine va_iast hx hb hK hP hD hS 12 0 rfl rfl hi14 dX9_fewest_128 (fun H locs hP hD hS => ?_)
                                  have hP : va_P (dC, dI) vwCl (W_X9z cI cZ cII qz qz_text qz_t qz_draft qz_s qz_kept qz_isKept qz_times qz_w qz_at qz_pulled qz_best qz_cartRow qz_tryRow qz_pairs qz_from qz_then qz_tryAt z_thrown z_typed z_next z_token z_place z_value z_figures z_fault z_faultAt z_timeMany z_eaten_11 z_half z_bestMinutes_11 z_bestOats_11 z_isDue z_text z_t z_draft z_s z_kept z_isKept z_times z_w_11 z_at_11 z_pulled_11 z_best_11 (upd z_cartRow_13 (y5_13).toNatClampNeg (z_tryRow_8 (y5_13).toNatClampNeg)) z_tryRow_8 z_pairs z_from_11 z_then z_tryAt) H := hP
                                  have hD : va_D A (W_X9z cI cZ cII qz qz_text qz_t qz_draft qz_s qz_kept qz_isKept qz_times qz_w qz_at qz_pulled qz_best qz_cartRow qz_tryRow qz_pairs qz_from qz_then qz_tryAt z_thrown z_typed z_next z_token z_place z_value z_figures z_fault z_faultAt z_timeMany z_eaten_11 z_half z_bestMinutes_11 z_bestOats_11 z_isDue z_text z_t z_draft z_s z_kept z_isKept z_times z_w_11 z_at_11 z_pulled_11 z_best_11 (upd z_cartRow_13 (y5_13).toNatClampNeg (z_tryRow_8 (y5_13).toNatClampNeg)) z_tryRow_8 z_pairs z_from_11 z_then z_tryAt) := hD
                                  refine lv_iinc (v := (y5_13 + (1 : Int32))) (lv' := [(5, .int (y5_13 + (1 : Int32))), (0, .ref qz), (1, .int y1_3), (2, .int (1 : Int32)), (3, .int y3_5), (4, .int y4_7)]) hx hb dX9_fewest_129 hl (k := 5) rfl rfl (by decide) rfl (fun ls hl => ?_)
                                  refine lv_goto (tgt := 109) hx hb dX9_fewest_132 (by decide) ?_
                                  exact ih _ _ _ _ _ hP hD hS (lv_sub hl [1, 2, 3, 4, 5, 0] rfl) (hrec13 _ _ hf)
                            exact WL13 fu _ _ _ _ _ hP hD hS (lv_sub hl [2, 3, 1, 4, 5, 0] rfl) hf
                        refine lv_if_eq (tgt := 96) hx hb dX9_fewest_85 (by decide) (fun h9 => ?_) (fun h9 => ?_)
                        · have hf := pg_t h9 hf
                          exact WJ96_10 _ _ _ _ hP hD hS hl hf
                        · have hf := pg_f h9 hf
                          refine lv_aload_n hx hb dX9_fewest_88 rfl (lv_at hl 0 rfl) ?_
                          refine lv_iload_n hx hb dX9_fewest_89 rfl (lv_at hl 1 rfl) ?_
                          obtain ⟨r_15, hc, hf⟩ := bn1_s hf
                          refine pg_cVi (As := [.int y1_3]) (rest := []) (wf := (W_X9z cI cZ cII qz qz_text qz_t qz_draft qz_s qz_kept qz_isKept qz_times qz_w qz_at qz_pulled qz_best qz_cartRow qz_tryRow qz_pairs qz_from qz_then qz_tryAt z_thrown z_typed z_next z_token z_place z_value z_figures z_fault z_faultAt z_timeMany z_eaten_7 z_half z_bestMinutes_7 z_bestOats_7 z_isDue z_text z_t z_draft z_s z_kept z_isKept z_times z_w_7 z_at_7 z_pulled_7 z_best_7 z_cartRow_7 z_tryRow_8 z_pairs z_from_7 z_then z_tryAt)) ⟨hx, hb, hml, hown, hw⟩ (c_X9_isAhead l dC dI cI cZ cII qz qz_text qz_t qz_draft qz_s qz_kept qz_isKept qz_times qz_w qz_at qz_pulled qz_best qz_cartRow qz_tryRow qz_pairs qz_from qz_then qz_tryAt H.size z_thrown z_typed z_next z_token z_place z_value z_figures z_fault z_faultAt z_timeMany z_eaten_7 z_half z_bestMinutes_7 z_bestOats_7 z_isDue z_text z_t z_draft z_s z_kept z_isKept z_times z_w_7 z_at_7 z_pulled_7 z_best_7 z_cartRow_7 z_tryRow_8 z_pairs z_from_7 z_then z_tryAt y1_3 r_15 hc) (cwV 1 hts (wM_V mw_41_22 mw_41_23 mw_42_0 mw_1_5 mw_42_1) rfl rfl rfl dk_X9_isAhead ⟨Nat.le_of_ble_eq_true rfl, Nat.le_of_ble_eq_true rfl⟩) hK hP hD hS hA 9 0 rfl rfl rfl [0, 1, 2, 3, 4, 5, 6, 7, 8, 9, 10, 11, 12, 13, 14, 15, 16, 17] [] [0, 1, 2, 3, 4, 5, 6, 7, 8, 9, 10, 11, 12, 13, 14, 15, 16, 17] (plC_64 cI cZ cII qz qz_text qz_t qz_draft qz_s qz_kept qz_isKept qz_times qz_w qz_at qz_pulled qz_best qz_cartRow qz_tryRow qz_pairs qz_from qz_then qz_tryAt z_thrown z_typed z_next z_token z_place z_value z_figures z_fault z_faultAt z_timeMany z_eaten_7 z_half z_bestMinutes_7 z_bestOats_7 z_isDue z_text z_t z_draft z_s z_kept z_isKept z_times z_w_7 z_at_7 z_pulled_7 z_best_7 z_cartRow_7 z_tryRow_8 z_pairs z_from_7 z_then z_tryAt) rfl (plF_64 cI cZ cII qz qz_text qz_t qz_draft qz_s qz_kept qz_isKept qz_times qz_w qz_at qz_pulled qz_best qz_cartRow qz_tryRow qz_pairs qz_from qz_then qz_tryAt z_thrown z_typed z_next z_token z_place z_value z_figures z_fault z_faultAt z_timeMany z_eaten_7 z_half z_bestMinutes_7 z_bestOats_7 z_isDue z_text z_t z_draft z_s z_kept z_isKept z_times z_w_7 z_at_7 z_pulled_7 z_best_7 z_cartRow_7 z_tryRow_8 z_pairs z_from_7 z_then z_tryAt z_thrown z_typed z_next z_token z_place z_value z_figures z_fault z_faultAt z_timeMany z_eaten_7 z_half z_bestMinutes_7 z_bestOats_7 z_isDue z_text z_t z_draft z_s z_kept z_isKept z_times z_w_7 z_at_7 z_pulled_7 z_best_7 z_cartRow_7 z_tryRow_8 z_pairs z_from_7 z_then z_tryAt) (by decide) rfl hl.1 rfl (Nat.le_of_ble_eq_true rfl) dX9_fewest_90 ⟨Nat.zero_le _, Nat.zero_le _⟩ (fun H locs hP hD hS => ?_)
                          refine lv_if_eq (tgt := 135) hx hb dX9_fewest_93 (by decide) (fun h9 => ?_) (fun h9 => ?_)
                          · have hf := pg_t h9 hf
                            exact WJ135_9 _ _ _ _ _ _ _ _ _ _ _ _ _ hP hD hS hl hf
                          · have hf := pg_f h9 hf
                            exact WJ96_10 _ _ _ _ hP hD hS hl hf
              exact WL7 fu _ _ _ _ _ _ _ _ _ _ _ _ _ _ _ hP hD hS (lv_sub hl [1, 2, 3, 4, 0] rfl) hf
            obtain ⟨B16, hB16, hf⟩ := lq2_n hf
            have WL16 : ∀ (n9 : Nat) (y3_16 : Int32) (y4_16 : Int32) (H : Heap) (locs : List Loc) (ls : Array Slot), va_P (dC, dI) vwCl (W_X9z cI cZ cII qz qz_text qz_t qz_draft qz_s qz_kept qz_isKept qz_times qz_w qz_at qz_pulled qz_best qz_cartRow qz_tryRow qz_pairs qz_from qz_then qz_tryAt z_thrown z_typed z_next z_token z_place z_value z_figures z_fault z_faultAt z_timeMany z_eaten_3 z_half z_bestMinutes_3 z_bestOats_3 z_isDue z_text z_t z_draft z_s z_kept z_isKept z_times z_w_3 z_at_3 z_pulled_3 z_best_3 z_cartRow_3 z_tryRow_3 z_pairs z_from_3 z_then z_tryAt) H → va_D A (W_X9z cI cZ cII qz qz_text qz_t qz_draft qz_s qz_kept qz_isKept qz_times qz_w qz_at qz_pulled qz_best qz_cartRow qz_tryRow qz_pairs qz_from qz_then qz_tryAt z_thrown z_typed z_next z_token z_place z_value z_figures z_fault z_faultAt z_timeMany z_eaten_3 z_half z_bestMinutes_3 z_bestOats_3 z_isDue z_text z_t z_draft z_s z_kept z_isKept z_times z_w_3 z_at_3 z_pulled_3 z_best_3 z_cartRow_3 z_tryRow_3 z_pairs z_from_3 z_then z_tryAt) → va_S A s.heap H locs → lv_has ls 6 [(0, .ref qz), (1, .int y1_3), (2, .int z0_4), (3, .int y3_16), (4, .int y4_16)] → lq2 B16 n9 y3_16 y4_16 = some (rr, z_eaten', z_bestMinutes', z_bestOats', z_w', z_at', z_pulled', z_best', z_cartRow', z_tryRow', z_from') → W p l e rm_X9_fewest s m args below meth c H locs 0 0 Q (F0 m 40 ls []) := by
              intro n9
              induction n9 with
              | zero => intro y3_16 y4_16 H locs ls hP hD hS hl hf; cases hf
              | succ n9 ih =>
                intro y3_16 y4_16 H locs ls hP hD hS hl hf
                obtain ⟨rec16, hrec16, hf⟩ := lq2_s hf
                have hf := hB16 rec16 _ _ hf
                refine lv_iload hx hb dX9_fewest_40 (lv_at hl 4 rfl) ?_
                refine lv_aload_n hx hb dX9_fewest_42 rfl (lv_at hl 0 rfl) ?_
                refine va_get (D := (dC, dI)) (ci := 9) (v := .ref qz_t) (C := RX9) (T := TX9) (N := 32) hx hb hw inlX9 hown hK hP 0 rfl rfl 10 (by decide) (hw _ mw_6_1) (fun _ h9 => h9) rfl dX9_fewest_43 ?_
                refine lv_iconst (v := (4 : Int32)) hx hb dX9_fewest_46 (by decide) ?_
                refine va_iald hx hb hK hP 2 0 rfl rfl (pg_lit (by decide)) dX9_fewest_47 ?_
                refine lv_icmp_ge (tgt := 61) hx hb dX9_fewest_48 (by decide) (fun h9 => ?_) (fun h9 => ?_)
                · have hf := pg_t h9 hf
                  exact WK61_5 _ _ _ _ hP hD hS (lv_sub hl [0, 1, 2, 3] rfl) hf
                · have hf := pg_f h9 hf
                  refine lv_iload_n hx hb dX9_fewest_51 rfl (lv_at hl 3 rfl) ?_
                  refine lv_iload_n hx hb dX9_fewest_52 rfl (lv_at hl 1 rfl) ?_
                  refine lv_imul hx hb dX9_fewest_53 ?_
                  refine lv_istore_n (lv' := [(3, .int (y3_16 * y1_3)), (0, .ref qz), (1, .int y1_3), (2, .int z0_4), (4, .int y4_16)]) hx hb dX9_fewest_54 rfl hl (by decide) rfl (fun ls hl => ?_)
                  refine lv_iinc (v := (y4_16 + (1 : Int32))) (lv' := [(4, .int (y4_16 + (1 : Int32))), (3, .int (y3_16 * y1_3)), (0, .ref qz), (1, .int y1_3), (2, .int z0_4)]) hx hb dX9_fewest_55 hl (k := 4) rfl rfl (by decide) rfl (fun ls hl => ?_)
                  refine lv_goto (tgt := 40) hx hb dX9_fewest_58 (by decide) ?_
                  exact ih _ _ _ _ _ hP hD hS (lv_sub hl [2, 3, 4, 1, 0] rfl) (hrec16 _ _ hf)
            exact WL16 fu _ _ _ _ _ hP hD hS (lv_sub hl [3, 4, 2, 1, 0] rfl) hf
          refine lv_if_ne (tgt := 33) hx hb dX9_fewest_26 (by decide) (fun h9 => ?_) (fun h9 => ?_)
          · have hf := pg_f h9 hf
            refine lv_iconst (v := (0 : Int32)) hx hb dX9_fewest_33 (by decide) ?_
            exact WJ34_4 _ _ _ _ hP hD hS hl hf
          · have hf := pg_t h9 hf
            refine lv_iconst (v := (1 : Int32)) hx hb dX9_fewest_29 (by decide) ?_
            refine lv_goto (tgt := 34) hx hb dX9_fewest_30 (by decide) ?_
            exact WJ34_4 _ _ _ _ hP hD hS hl hf
    exact WL3 fu _ _ _ _ _ _ _ _ _ _ _ _ _ _ hP hD hS (lv_sub hl [1, 0] rfl) hf
  refine lv_if_ne (tgt := 13) hx hb dX9_fewest_6 (by decide) (fun h9 => ?_) (fun h9 => ?_)
  · have hf := pg_f h9 hf
    refine lv_iconst (v := (1 : Int32)) hx hb dX9_fewest_13 (by decide) ?_
    exact WJ14_1 _ _ _ _ hP hD hS hl hf
  · have hf := pg_t h9 hf
    refine lv_iconst (v := (0 : Int32)) hx hb dX9_fewest_9 (by decide) ?_
    refine lv_goto (tgt := 14) hx hb dX9_fewest_10 (by decide) ?_
    exact WJ14_1 _ _ _ _ hP hD hS hl hf
def f_X9_carts (n1 : Int32) (z_thrown : Int32) (z_eaten : Int32) (z_half : Int32) (z_bestMinutes : Int32) (z_bestOats : Int32) (z_t : Nat → Int32) (z_s : Nat → Int32) (z_w : Nat → Int32) (z_at : Nat → Int32) (z_pulled : Nat → Int32) (z_best : Nat → Int32) (z_cartRow : Nat → Int32) (z_tryRow : Nat → Int32) (z_from : Nat → Int32) : Option (Int32 × Int32 × Int32 × Int32 × Int32 × (Nat → Int32) × (Nat → Int32) × (Nat → Int32) × (Nat → Int32) × (Nat → Int32) × (Nat → Int32) × (Nat → Int32)) :=
  bn11 (f_X9_fewest z_eaten z_half z_bestMinutes z_bestOats z_t z_s z_w z_at z_pulled z_best z_cartRow z_tryRow z_from) (fun (r_1 : Int32) (z_eaten_1 : Int32) (z_bestMinutes_1 : Int32) (z_bestOats_1 : Int32) (z_w_1 : Nat → Int32) (z_at_1 : Nat → Int32) (z_pulled_1 : Nat → Int32) (z_best_1 : Nat → Int32) (z_cartRow_1 : Nat → Int32) (z_tryRow_1 : Nat → Int32) (z_from_1 : Nat → Int32) =>
    if n1 = (-1 : Int32) then
      some (r_1, (0 : Int32), z_eaten_1, z_bestMinutes_1, z_bestOats_1, z_w_1, z_at_1, z_pulled_1, z_best_1, z_cartRow_1, z_tryRow_1, z_from_1)
    else
      bn1 (f_X9_in n1 (0 : Int32) (r_1 - (1 : Int32))) (fun (r_2 : Int32) =>
        if r_2 = 0 then
          some ((-1 : Int32), (0 : Int32), z_eaten_1, z_bestMinutes_1, z_bestOats_1, z_w_1, z_at_1, z_pulled_1, z_best_1, z_cartRow_1, z_tryRow_1, z_from_1)
        else
          if n1 < 0 ∨ 4 ≤ (n1).toNatClampNeg then none else
          some ((z_cartRow_1 (n1).toNatClampNeg), (0 : Int32), z_eaten_1, z_bestMinutes_1, z_bestOats_1, z_w_1, z_at_1, z_pulled_1, z_best_1, z_cartRow_1, z_tryRow_1, z_from_1)
      )
  )
abbrev rm_X9_carts : Room := { frames := 8, cells := 0, slots := 0, locals := 195 }
theorem dk_X9_carts : yX9_carts.cls = RX9 ∧ yX9_carts.cls ≠ "java/lang/invoke/MethodHandle" ∧ yX9_carts.cls ≠ "java/lang/invoke/VarHandle" ∧ (parseMethodDescriptor yX9_carts.desc).map (fun d => d.parameters.length) = some 1 := by decide +kernel
set_option maxHeartbeats 4000000 in
set_option maxRecDepth 100000 in
theorem c_X9_carts (l : Launch) (dC : Nat → ClassId) (dI : Nat → Nat → Nat) (cI cZ cII : ClassId) (qz qz_text qz_t qz_draft qz_s qz_kept qz_isKept qz_times qz_w qz_at qz_pulled qz_best qz_cartRow qz_tryRow qz_pairs qz_from qz_then qz_tryAt : Nat) (sz : Nat) (z_thrown : Int32) (z_typed : Int32) (z_next : Int32) (z_token : Int32) (z_place : Int32) (z_value : Int32) (z_figures : Int32) (z_fault : Int32) (z_faultAt : Int32) (z_timeMany : Int32) (z_eaten : Int32) (z_half : Int32) (z_bestMinutes : Int32) (z_bestOats : Int32) (z_isDue : Int32) (z_text : Nat → Int32) (z_t : Nat → Int32) (z_draft : Nat → Int32) (z_s : Nat → Int32) (z_kept : Nat → Int32) (z_isKept : Nat → Int32) (z_times : Nat → Int32) (z_w : Nat → Int32) (z_at : Nat → Int32) (z_pulled : Nat → Int32) (z_best : Nat → Int32) (z_cartRow : Nat → Int32) (z_tryRow : Nat → Int32) (z_pairs : Nat → Int32) (z_from : Nat → Int32) (z_then : Nat → Int32) (z_tryAt : Nat → Int32) (n1 : Int32) (rr : Int32) (z_thrown' : Int32) (z_eaten' : Int32) (z_bestMinutes' : Int32) (z_bestOats' : Int32) (z_w' : Nat → Int32) (z_at' : Nat → Int32) (z_pulled' : Nat → Int32) (z_best' : Nat → Int32) (z_cartRow' : Nat → Int32) (z_tryRow' : Nat → Int32) (z_from' : Nat → Int32) (hf : f_X9_carts n1 z_thrown z_eaten z_half z_bestMinutes z_bestOats z_t z_s z_w z_at z_pulled z_best z_cartRow z_tryRow z_from = some (rr, z_thrown', z_eaten', z_bestMinutes', z_bestOats', z_w', z_at', z_pulled', z_best', z_cartRow', z_tryRow', z_from')) : Met l yX9_carts (wM yX9_carts cX9_carts 3 (some .int)) rm_X9_carts (PreW (dC, dI) (tyA cI cZ cII) (W_X9z cI cZ cII qz qz_text qz_t qz_draft qz_s qz_kept qz_isKept qz_times qz_w qz_at qz_pulled qz_best qz_cartRow qz_tryRow qz_pairs qz_from qz_then qz_tryAt z_thrown z_typed z_next z_token z_place z_value z_figures z_fault z_faultAt z_timeMany z_eaten z_half z_bestMinutes z_bestOats z_isDue z_text z_t z_draft z_s z_kept z_isKept z_times z_w z_at z_pulled z_best z_cartRow z_tryRow z_pairs z_from z_then z_tryAt) sz [.ref qz, .int n1]) (PostI (dC, dI) (tyA cI cZ cII) rr (W_X9z cI cZ cII qz qz_text qz_t qz_draft qz_s qz_kept qz_isKept qz_times qz_w qz_at qz_pulled qz_best qz_cartRow qz_tryRow qz_pairs qz_from qz_then qz_tryAt z_thrown z_typed z_next z_token z_place z_value z_figures z_fault z_faultAt z_timeMany z_eaten z_half z_bestMinutes z_bestOats z_isDue z_text z_t z_draft z_s z_kept z_isKept z_times z_w z_at z_pulled z_best z_cartRow z_tryRow z_pairs z_from z_then z_tryAt) (W_X9z cI cZ cII qz qz_text qz_t qz_draft qz_s qz_kept qz_isKept qz_times qz_w qz_at qz_pulled qz_best qz_cartRow qz_tryRow qz_pairs qz_from qz_then qz_tryAt z_thrown' z_typed z_next z_token z_place z_value z_figures z_fault z_faultAt z_timeMany z_eaten' z_half z_bestMinutes' z_bestOats' z_isDue z_text z_t z_draft z_s z_kept z_isKept z_times z_w' z_at' z_pulled' z_best' z_cartRow' z_tryRow' z_pairs z_from' z_then z_tryAt) sz) 0 0 (va_A (W_X9z cI cZ cII qz qz_text qz_t qz_draft qz_s qz_kept qz_isKept qz_times qz_w qz_at qz_pulled qz_best qz_cartRow qz_tryRow qz_pairs qz_from qz_then qz_tryAt z_thrown z_typed z_next z_token z_place z_value z_figures z_fault z_faultAt z_timeMany z_eaten z_half z_bestMinutes z_bestOats z_isDue z_text z_t z_draft z_s z_kept z_isKept z_times z_w z_at z_pulled z_best z_cartRow z_tryRow z_pairs z_from z_then z_tryAt) sz) := by
  refine Met.ofW (cc := cX9_carts) (maxL := 3) (ret := (some .int)) (by decide) rfl ?_
  intro p e s m args below meth c s₁ B hml hv
  obtain ⟨rfl, hsz, hP, hK, hD0⟩ := hv
  have hx := B.exec
  have hb := B.bytes
  have hr := B.returns
  have hts := atoms_spec (ws := wM yX9_carts cX9_carts 3 (some .int)) B.pre
  have hown : s.vm.findClass RX9 = some m.cls := findClass_of_methodNamed B.named
  have hlocks := B.notSynchronized
  subst hsz
  have hD := hD0.self (sz := s.heap.size)
  obtain ⟨A, hAe⟩ : ∃ A, A = va_A (W_X9z cI cZ cII qz qz_text qz_t qz_draft qz_s qz_kept qz_isKept qz_times qz_w qz_at qz_pulled qz_best qz_cartRow qz_tryRow qz_pairs qz_from qz_then qz_tryAt z_thrown z_typed z_next z_token z_place z_value z_figures z_fault z_faultAt z_timeMany z_eaten z_half z_bestMinutes z_bestOats z_isDue z_text z_t z_draft z_s z_kept z_isKept z_times z_w z_at z_pulled z_best z_cartRow z_tryRow z_pairs z_from z_then z_tryAt) s.heap.size := ⟨_, rfl⟩
  rw [← hAe] at hD
  have hA : ∀ q : Nat, s.heap.size ≤ q → A q := fun q h => by rw [hAe]; exact Or.inr h
  have hS : va_S A s.heap s.heap [] := va_S.rf
  have hl := lv_entry ([.ref qz, .int n1]) (n := 3) (Nat.le_of_ble_eq_true rfl)
  rw [lg_entry_eq]
  generalize (lg_sl ([.ref qz, .int n1]) ++ List.replicate (3 - (lg_sl ([.ref qz, .int n1])).length) Slot.unset).toArray = ls at hl ⊢
  have hl : lv_has ls 3 [(0, .ref qz), (1, .int n1)] := hl
  generalize ([.ref qz, .int n1] : List Value).toArray = args at hts ⊢
  have hw : ∀ w ∈ wsL_law, w.before args s = true := fun w h => hts w (List.mem_cons_of_mem _ h)
  refine pg_start (fun Q hQ => ?_)
  have RET : ∀ (H : Heap) (locs : List Loc) (ls : Array Slot) (pc : Nat) (v : Int32) (x0 : Int32) (x1 : Int32) (x2 : Int32) (x3 : Int32) (x4 : Nat → Int32) (x5 : Nat → Int32) (x6 : Nat → Int32) (x7 : Nat → Int32) (x8 : Nat → Int32) (x9 : Nat → Int32) (x10 : Nat → Int32) , decode cX9_carts pc = .ok (.ireturn, 1) → va_P (dC, dI) vwCl (W_X9z cI cZ cII qz qz_text qz_t qz_draft qz_s qz_kept qz_isKept qz_times qz_w qz_at qz_pulled qz_best qz_cartRow qz_tryRow qz_pairs qz_from qz_then qz_tryAt x0 z_typed z_next z_token z_place z_value z_figures z_fault z_faultAt z_timeMany x1 z_half x2 x3 z_isDue z_text z_t z_draft z_s z_kept z_isKept z_times x4 x5 x6 x7 x8 x9 z_pairs x10 z_then z_tryAt) H → va_D A (W_X9z cI cZ cII qz qz_text qz_t qz_draft qz_s qz_kept qz_isKept qz_times qz_w qz_at qz_pulled qz_best qz_cartRow qz_tryRow qz_pairs qz_from qz_then qz_tryAt x0 z_typed z_next z_token z_place z_value z_figures z_fault z_faultAt z_timeMany x1 z_half x2 x3 z_isDue z_text z_t z_draft z_s z_kept z_isKept z_times x4 x5 x6 x7 x8 x9 z_pairs x10 z_then z_tryAt) → va_S A s.heap H locs → (some (v, x0, x1, x2, x3, x4, x5, x6, x7, x8, x9, x10) : Option (Int32 × Int32 × Int32 × Int32 × Int32 × (Nat → Int32) × (Nat → Int32) × (Nat → Int32) × (Nat → Int32) × (Nat → Int32) × (Nat → Int32) × (Nat → Int32))) = some (rr, z_thrown', z_eaten', z_bestMinutes', z_bestOats', z_w', z_at', z_pulled', z_best', z_cartRow', z_tryRow', z_from') → W p l e rm_X9_carts s m args below meth c H locs 0 0 Q (F0 m pc ls [.int v]) := by
    intro H locs ls pc v x0 x1 x2 x3 x4 x5 x6 x7 x8 x9 x10 hd hP hD hS he
    subst hAe; subst hQ
    simp only [Option.some.injEq, Prod.mk.injEq] at he
    obtain ⟨rfl, rfl, rfl, rfl, rfl, rfl, rfl, rfl, rfl, rfl, rfl, rfl⟩ := he
    exact pg_iret hx hb hr hlocks hK hP hD hS hd
  unfold f_X9_carts at hf
  refine lv_aload_n hx hb dX9_carts_0 rfl (lv_at hl 0 rfl) ?_
  refine lv_iconst (v := (0 : Int32)) hx hb dX9_carts_1 (by decide) ?_
  refine va_put (D := (dC, dI)) (ci := 9) (v := .int (0 : Int32)) (ty := .int) (C := RX9) (T := TX9) (N := 32) hx hb hw inlX9 tyX9 tyX9_ok nmX9 hown hK hP hD hS 0 rfl rfl 0 (by decide) (hw _ mw_7_19) (fun _ h9 => h9) rfl (by decide +kernel) rfl rfl (Nat.le_of_ble_eq_true rfl) dX9_carts_2 (fun H locs hP hD hS => ?_)
  have hP : va_P (dC, dI) vwCl (W_X9z cI cZ cII qz qz_text qz_t qz_draft qz_s qz_kept qz_isKept qz_times qz_w qz_at qz_pulled qz_best qz_cartRow qz_tryRow qz_pairs qz_from qz_then qz_tryAt (0 : Int32) z_typed z_next z_token z_place z_value z_figures z_fault z_faultAt z_timeMany z_eaten z_half z_bestMinutes z_bestOats z_isDue z_text z_t z_draft z_s z_kept z_isKept z_times z_w z_at z_pulled z_best z_cartRow z_tryRow z_pairs z_from z_then z_tryAt) H := hP
  have hD : va_D A (W_X9z cI cZ cII qz qz_text qz_t qz_draft qz_s qz_kept qz_isKept qz_times qz_w qz_at qz_pulled qz_best qz_cartRow qz_tryRow qz_pairs qz_from qz_then qz_tryAt (0 : Int32) z_typed z_next z_token z_place z_value z_figures z_fault z_faultAt z_timeMany z_eaten z_half z_bestMinutes z_bestOats z_isDue z_text z_t z_draft z_s z_kept z_isKept z_times z_w z_at z_pulled z_best z_cartRow z_tryRow z_pairs z_from z_then z_tryAt) := hD
  refine lv_aload_n hx hb dX9_carts_5 rfl (lv_at hl 0 rfl) ?_
  obtain ⟨r_1, z_eaten_1, z_bestMinutes_1, z_bestOats_1, z_w_1, z_at_1, z_pulled_1, z_best_1, z_cartRow_1, z_tryRow_1, z_from_1, hc, hf⟩ := bn11_s hf
  refine pg_cVi (As := []) (rest := []) (wf := (W_X9z cI cZ cII qz qz_text qz_t qz_draft qz_s qz_kept qz_isKept qz_times qz_w qz_at qz_pulled qz_best qz_cartRow qz_tryRow qz_pairs qz_from qz_then qz_tryAt (0 : Int32) z_typed z_next z_token z_place z_value z_figures z_fault z_faultAt z_timeMany z_eaten_1 z_half z_bestMinutes_1 z_bestOats_1 z_isDue z_text z_t z_draft z_s z_kept z_isKept z_times z_w_1 z_at_1 z_pulled_1 z_best_1 z_cartRow_1 z_tryRow_1 z_pairs z_from_1 z_then z_tryAt)) ⟨hx, hb, hml, hown, hw⟩ (c_X9_fewest l dC dI cI cZ cII qz qz_text qz_t qz_draft qz_s qz_kept qz_isKept qz_times qz_w qz_at qz_pulled qz_best qz_cartRow qz_tryRow qz_pairs qz_from qz_then qz_tryAt H.size (0 : Int32) z_typed z_next z_token z_place z_value z_figures z_fault z_faultAt z_timeMany z_eaten z_half z_bestMinutes z_bestOats z_isDue z_text z_t z_draft z_s z_kept z_isKept z_times z_w z_at z_pulled z_best z_cartRow z_tryRow z_pairs z_from z_then z_tryAt  r_1 z_eaten_1 z_bestMinutes_1 z_bestOats_1 z_w_1 z_at_1 z_pulled_1 z_best_1 z_cartRow_1 z_tryRow_1 z_from_1 hc) (cwV 0 hts (wM_V mw_41_14 mw_41_15 mw_41_16 mw_1_5 mw_41_17) rfl rfl rfl dk_X9_fewest ⟨Nat.le_of_ble_eq_true rfl, Nat.le_of_ble_eq_true rfl⟩) hK hP hD hS hA 9 0 rfl rfl rfl [0, 1, 2, 3, 4, 5, 6, 7, 8, 9, 10, 11, 12, 13, 14, 15, 16, 17] [] [0, 1, 2, 3, 4, 5, 6, 7, 8, 9, 10, 11, 12, 13, 14, 15, 16, 17] (plC_64 cI cZ cII qz qz_text qz_t qz_draft qz_s qz_kept qz_isKept qz_times qz_w qz_at qz_pulled qz_best qz_cartRow qz_tryRow qz_pairs qz_from qz_then qz_tryAt (0 : Int32) z_typed z_next z_token z_place z_value z_figures z_fault z_faultAt z_timeMany z_eaten z_half z_bestMinutes z_bestOats z_isDue z_text z_t z_draft z_s z_kept z_isKept z_times z_w z_at z_pulled z_best z_cartRow z_tryRow z_pairs z_from z_then z_tryAt) rfl (plF_64 cI cZ cII qz qz_text qz_t qz_draft qz_s qz_kept qz_isKept qz_times qz_w qz_at qz_pulled qz_best qz_cartRow qz_tryRow qz_pairs qz_from qz_then qz_tryAt (0 : Int32) z_typed z_next z_token z_place z_value z_figures z_fault z_faultAt z_timeMany z_eaten z_half z_bestMinutes z_bestOats z_isDue z_text z_t z_draft z_s z_kept z_isKept z_times z_w z_at z_pulled z_best z_cartRow z_tryRow z_pairs z_from z_then z_tryAt (0 : Int32) z_typed z_next z_token z_place z_value z_figures z_fault z_faultAt z_timeMany z_eaten_1 z_half z_bestMinutes_1 z_bestOats_1 z_isDue z_text z_t z_draft z_s z_kept z_isKept z_times z_w_1 z_at_1 z_pulled_1 z_best_1 z_cartRow_1 z_tryRow_1 z_pairs z_from_1 z_then z_tryAt) (by decide) rfl hl.1 rfl (Nat.le_of_ble_eq_true rfl) dX9_carts_6 ⟨Nat.zero_le _, Nat.zero_le _⟩ (fun H locs hP hD hS => ?_)
  refine lv_istore_n (lv' := [(2, .int r_1), (0, .ref qz), (1, .int n1)]) hx hb dX9_carts_9 rfl hl (by decide) rfl (fun ls hl => ?_)
  refine lv_iload_n hx hb dX9_carts_10 rfl (lv_at hl 2 rfl) ?_
  refine lv_iconst (v := (-1 : Int32)) hx hb dX9_carts_11 (by decide) ?_
  refine lv_icmp_ne (tgt := 19) hx hb dX9_carts_12 (by decide) (fun h9 => ?_) (fun h9 => ?_)
  · have hf := pg_f h9 hf
    refine lv_iload_n hx hb dX9_carts_19 rfl (lv_at hl 2 rfl) ?_
    refine lv_iconst (v := (0 : Int32)) hx hb dX9_carts_20 (by decide) ?_
    refine lv_iload_n hx hb dX9_carts_21 rfl (lv_at hl 0 rfl) ?_
    refine lv_iconst (v := (1 : Int32)) hx hb dX9_carts_22 (by decide) ?_
    refine lv_isub hx hb dX9_carts_23 ?_
    obtain ⟨r_2, hc, hf⟩ := bn1_s hf
    refine pg_cSi (As := [.int n1, .int (0 : Int32), .int (r_1 - (1 : Int32))]) (rest := []) (wf := (W_X9z cI cZ cII qz qz_text qz_t qz_draft qz_s qz_kept qz_isKept qz_times qz_w qz_at qz_pulled qz_best qz_cartRow qz_tryRow qz_pairs qz_from qz_then qz_tryAt (0 : Int32) z_typed z_next z_token z_place z_value z_figures z_fault z_faultAt z_timeMany z_eaten_1 z_half z_bestMinutes_1 z_bestOats_1 z_isDue z_text z_t z_draft z_s z_kept z_isKept z_times z_w_1 z_at_1 z_pulled_1 z_best_1 z_cartRow_1 z_tryRow_1 z_pairs z_from_1 z_then z_tryAt)) ⟨hx, hb, hml, hown, hw⟩ (c_X9_in l dC dI cI cZ cII  H.size  n1 (0 : Int32) (r_1 - (1 : Int32)) r_2 hc) (va_cwS 3 hts (wM_S mw_8_0 mw_8_1 mw_1_5 mw_8_2) rfl rfl rfl dk_X9_in ⟨Nat.le_of_ble_eq_true rfl, Nat.le_of_ble_eq_true rfl⟩) hK hP hD hS hA [] [0, 1, 2, 3, 4, 5, 6, 7, 8, 9, 10, 11, 12, 13, 14, 15, 16, 17] [0, 1, 2, 3, 4, 5, 6, 7, 8, 9, 10, 11, 12, 13, 14, 15, 16, 17] (plC_62 cI cZ cII qz qz_text qz_t qz_draft qz_s qz_kept qz_isKept qz_times qz_w qz_at qz_pulled qz_best qz_cartRow qz_tryRow qz_pairs qz_from qz_then qz_tryAt (0 : Int32) z_typed z_next z_token z_place z_value z_figures z_fault z_faultAt z_timeMany z_eaten_1 z_half z_bestMinutes_1 z_bestOats_1 z_isDue z_text z_t z_draft z_s z_kept z_isKept z_times z_w_1 z_at_1 z_pulled_1 z_best_1 z_cartRow_1 z_tryRow_1 z_pairs z_from_1 z_then z_tryAt) rfl (plF_62 cI cZ cII qz qz_text qz_t qz_draft qz_s qz_kept qz_isKept qz_times qz_w qz_at qz_pulled qz_best qz_cartRow qz_tryRow qz_pairs qz_from qz_then qz_tryAt (0 : Int32) z_typed z_next z_token z_place z_value z_figures z_fault z_faultAt z_timeMany z_eaten_1 z_half z_bestMinutes_1 z_bestOats_1 z_isDue z_text z_t z_draft z_s z_kept z_isKept z_times z_w_1 z_at_1 z_pulled_1 z_best_1 z_cartRow_1 z_tryRow_1 z_pairs z_from_1 z_then z_tryAt ) (by decide) rfl hl.1 rfl (Nat.le_of_ble_eq_true rfl) dX9_carts_24 ⟨Nat.zero_le _, Nat.zero_le _⟩ (fun H locs hP hD hS => ?_)
    refine lv_if_eq (tgt := 39) hx hb dX9_carts_27 (by decide) (fun h9 => ?_) (fun h9 => ?_)
    · have hf := pg_t h9 hf
      refine lv_iconst (v := (-1 : Int32)) hx hb dX9_carts_39 (by decide) ?_
      exact RET _ _ _ _ _ _ _ _ _ _ _ _ _ _ _ _ dX9_carts_40 hP hD hS hf
    · have hf := pg_f h9 hf
      refine lv_aload_n hx hb dX9_carts_30 rfl (lv_at hl 1 rfl) ?_
      refine va_get (D := (dC, dI)) (ci := 9) (v := .ref qz_cartRow) (C := RX9) (T := TX9) (N := 32) hx hb hw inlX9 hown hK hP 0 rfl rfl 25 (by decide) (hw _ mw_6_13) (fun _ h9 => h9) rfl dX9_carts_31 ?_
      refine lv_iload_n hx hb dX9_carts_34 rfl (lv_at hl 2 rfl) ?_
      obtain ⟨hi3, hf⟩ := pg_chk hf
      refine va_iald hx hb hK hP 12 0 rfl rfl hi3 dX9_carts_35 ?_
      refine lv_goto (tgt := 40) hx hb dX9_carts_36 (by decide) ?_
      exact RET _ _ _ _ _ _ _ _ _ _ _ _ _ _ _ _ dX9_carts_40 hP hD hS hf
  · have hf := pg_t h9 hf
    refine lv_iload_n hx hb dX9_carts_15 rfl (lv_at hl 0 rfl) ?_
    refine lv_goto (tgt := 40) hx hb dX9_carts_16 (by decide) ?_
    exact RET _ _ _ _ _ _ _ _ _ _ _ _ _ _ _ _ dX9_carts_40 hP hD hS hf
def f_X9_tell (n1 : Int32) (n2 : Int32) (n3 : Int32) (n4 : Int32) (n5 : Int32) (z_thrown : Int32) (z_timeMany : Int32) (z_t : Nat → Int32) (z_times : Nat → Int32) (z_at : Nat → Int32) : Option (Int32 × Int32 × Int32 × (Nat → Int32) × (Nat → Int32)) :=
  jn1 (fun (y6_1 : Int32) =>
    if y6_1 = 0 then
      some ((-1000000001 : Int32), (0 : Int32), z_timeMany, z_times, (upd (upd (upd z_at ((0 : Int32)).toNatClampNeg n1) ((1 : Int32)).toNatClampNeg n2) ((2 : Int32)).toNatClampNeg n3))
    else
      bn1 (f_X9_in n4 (0 : Int32) (99 : Int32)) (fun (r_2 : Int32) =>
        if r_2 = 0 then
          some ((-1000000002 : Int32), (0 : Int32), z_timeMany, z_times, (upd (upd (upd z_at ((0 : Int32)).toNatClampNeg n1) ((1 : Int32)).toNatClampNeg n2) ((2 : Int32)).toNatClampNeg n3))
        else
          bn1 (f_X9_in n5 (0 : Int32) (120 : Int32)) (fun (r_3 : Int32) =>
            if r_3 = 0 then
              some ((-1000000002 : Int32), (0 : Int32), z_timeMany, z_times, (upd (upd (upd z_at ((0 : Int32)).toNatClampNeg n1) ((1 : Int32)).toNatClampNeg n2) ((2 : Int32)).toNatClampNeg n3))
            else
              jn1 (fun (u_4 : Unit) =>
                if z_timeMany = (10 : Int32) then
                  some ((-1000000004 : Int32), (0 : Int32), z_timeMany, z_times, (upd (upd (upd z_at ((0 : Int32)).toNatClampNeg n1) ((1 : Int32)).toNatClampNeg n2) ((2 : Int32)).toNatClampNeg n3))
                else
                  if ((5 : Int32) * z_timeMany) < 0 ∨ 50 ≤ (((5 : Int32) * z_timeMany)).toNatClampNeg then none else
                  if (((5 : Int32) * z_timeMany) + (1 : Int32)) < 0 ∨ 50 ≤ ((((5 : Int32) * z_timeMany) + (1 : Int32))).toNatClampNeg then none else
                  if (((5 : Int32) * z_timeMany) + (2 : Int32)) < 0 ∨ 50 ≤ ((((5 : Int32) * z_timeMany) + (2 : Int32))).toNatClampNeg then none else
                  if (((5 : Int32) * z_timeMany) + (3 : Int32)) < 0 ∨ 50 ≤ ((((5 : Int32) * z_timeMany) + (3 : Int32))).toNatClampNeg then none else
                  if (((5 : Int32) * z_timeMany) + (4 : Int32)) < 0 ∨ 50 ≤ ((((5 : Int32) * z_timeMany) + (4 : Int32))).toNatClampNeg then none else
                  some ((z_timeMany + (1 : Int32)), (0 : Int32), (z_timeMany + (1 : Int32)), (upd (upd (upd (upd (upd z_times (((5 : Int32) * z_timeMany)).toNatClampNeg n1) ((((5 : Int32) * z_timeMany) + (1 : Int32))).toNatClampNeg n2) ((((5 : Int32) * z_timeMany) + (2 : Int32))).toNatClampNeg n3) ((((5 : Int32) * z_timeMany) + (3 : Int32))).toNatClampNeg n4) ((((5 : Int32) * z_timeMany) + (4 : Int32))).toNatClampNeg n5), (upd (upd (upd z_at ((0 : Int32)).toNatClampNeg n1) ((1 : Int32)).toNatClampNeg n2) ((2 : Int32)).toNatClampNeg n3))
              ) (fun J162_4 =>
              if n1 = (-1 : Int32) then
                if n2 = (-1 : Int32) then
                  if n3 = (-1 : Int32) then
                    some ((-1000000003 : Int32), (0 : Int32), z_timeMany, z_times, (upd (upd (upd z_at ((0 : Int32)).toNatClampNeg n1) ((1 : Int32)).toNatClampNeg n2) ((2 : Int32)).toNatClampNeg n3))
                  else
                    J162_4 ()
                else
                  J162_4 ()
              else
                J162_4 ()
              )
          )
      )
  ) (fun K111_1 =>
  lq2 (fun rec10 (y6_10 : Int32) (y7_10 : Int32) =>
    if (3 : Int32) ≤ y7_10 then
      K111_1 y6_10
    else
      jn1 (fun (z0_11 : Int32) =>
        rec10 z0_11 (y7_10 + (1 : Int32))
      ) (fun J103_11 =>
      jn1 (fun (u_12 : Unit) =>
        J103_11 (0 : Int32)
      ) (fun J102_12 =>
      if y6_10 = 0 then
        J102_12 ()
      else
        if y7_10 < 0 ∨ 3 ≤ (y7_10).toNatClampNeg then none else
        jn1 (fun (u_14 : Unit) =>
          J103_11 (1 : Int32)
        ) (fun J98_14 =>
        if ((upd (upd (upd z_at ((0 : Int32)).toNatClampNeg n1) ((1 : Int32)).toNatClampNeg n2) ((2 : Int32)).toNatClampNeg n3) (y7_10).toNatClampNeg) = (-1 : Int32) then
          J98_14 ()
        else
          bn1 (f_X9_isPlace y7_10 z_t) (fun (r_15 : Int32) =>
            if r_15 = 0 then
              J102_12 ()
            else
              bn1 (f_X9_isHorse ((upd (upd (upd z_at ((0 : Int32)).toNatClampNeg n1) ((1 : Int32)).toNatClampNeg n2) ((2 : Int32)).toNatClampNeg n3) (y7_10).toNatClampNeg) z_t) (fun (r_16 : Int32) =>
                if r_16 = 0 then
                  J102_12 ()
                else
                  if ((y7_10 + (1 : Int32)) - (y7_10 + (1 : Int32)) / (3 : Int32) * (3 : Int32)) < 0 ∨ 3 ≤ (((y7_10 + (1 : Int32)) - (y7_10 + (1 : Int32)) / (3 : Int32) * (3 : Int32))).toNatClampNeg then none else
                  if ((upd (upd (upd z_at ((0 : Int32)).toNatClampNeg n1) ((1 : Int32)).toNatClampNeg n2) ((2 : Int32)).toNatClampNeg n3) (y7_10).toNatClampNeg) = ((upd (upd (upd z_at ((0 : Int32)).toNatClampNeg n1) ((1 : Int32)).toNatClampNeg n2) ((2 : Int32)).toNatClampNeg n3) (((y7_10 + (1 : Int32)) - (y7_10 + (1 : Int32)) / (3 : Int32) * (3 : Int32))).toNatClampNeg) then
                    J102_12 ()
                  else
                    J98_14 ()
              )
          )
        )
      )
      )
  ) fu (1 : Int32) (0 : Int32)
  )
abbrev rm_X9_tell : Room := { frames := 2, cells := 0, slots := 0, locals := 43 }
theorem dk_X9_tell : yX9_tell.cls = RX9 ∧ yX9_tell.cls ≠ "java/lang/invoke/MethodHandle" ∧ yX9_tell.cls ≠ "java/lang/invoke/VarHandle" ∧ (parseMethodDescriptor yX9_tell.desc).map (fun d => d.parameters.length) = some 5 := by decide +kernel
set_option maxHeartbeats 4000000 in
set_option maxRecDepth 100000 in
theorem c_X9_tell (l : Launch) (dC : Nat → ClassId) (dI : Nat → Nat → Nat) (cI cZ cII : ClassId) (qz qz_text qz_t qz_draft qz_s qz_kept qz_isKept qz_times qz_w qz_at qz_pulled qz_best qz_cartRow qz_tryRow qz_pairs qz_from qz_then qz_tryAt : Nat) (sz : Nat) (z_thrown : Int32) (z_typed : Int32) (z_next : Int32) (z_token : Int32) (z_place : Int32) (z_value : Int32) (z_figures : Int32) (z_fault : Int32) (z_faultAt : Int32) (z_timeMany : Int32) (z_eaten : Int32) (z_half : Int32) (z_bestMinutes : Int32) (z_bestOats : Int32) (z_isDue : Int32) (z_text : Nat → Int32) (z_t : Nat → Int32) (z_draft : Nat → Int32) (z_s : Nat → Int32) (z_kept : Nat → Int32) (z_isKept : Nat → Int32) (z_times : Nat → Int32) (z_w : Nat → Int32) (z_at : Nat → Int32) (z_pulled : Nat → Int32) (z_best : Nat → Int32) (z_cartRow : Nat → Int32) (z_tryRow : Nat → Int32) (z_pairs : Nat → Int32) (z_from : Nat → Int32) (z_then : Nat → Int32) (z_tryAt : Nat → Int32) (n1 : Int32) (n2 : Int32) (n3 : Int32) (n4 : Int32) (n5 : Int32) (rr : Int32) (z_thrown' : Int32) (z_timeMany' : Int32) (z_times' : Nat → Int32) (z_at' : Nat → Int32) (hf : f_X9_tell n1 n2 n3 n4 n5 z_thrown z_timeMany z_t z_times z_at = some (rr, z_thrown', z_timeMany', z_times', z_at')) : Met l yX9_tell (wM yX9_tell cX9_tell 8 (some .int)) rm_X9_tell (PreW (dC, dI) (tyA cI cZ cII) (W_X9z cI cZ cII qz qz_text qz_t qz_draft qz_s qz_kept qz_isKept qz_times qz_w qz_at qz_pulled qz_best qz_cartRow qz_tryRow qz_pairs qz_from qz_then qz_tryAt z_thrown z_typed z_next z_token z_place z_value z_figures z_fault z_faultAt z_timeMany z_eaten z_half z_bestMinutes z_bestOats z_isDue z_text z_t z_draft z_s z_kept z_isKept z_times z_w z_at z_pulled z_best z_cartRow z_tryRow z_pairs z_from z_then z_tryAt) sz [.ref qz, .int n1, .int n2, .int n3, .int n4, .int n5]) (PostI (dC, dI) (tyA cI cZ cII) rr (W_X9z cI cZ cII qz qz_text qz_t qz_draft qz_s qz_kept qz_isKept qz_times qz_w qz_at qz_pulled qz_best qz_cartRow qz_tryRow qz_pairs qz_from qz_then qz_tryAt z_thrown z_typed z_next z_token z_place z_value z_figures z_fault z_faultAt z_timeMany z_eaten z_half z_bestMinutes z_bestOats z_isDue z_text z_t z_draft z_s z_kept z_isKept z_times z_w z_at z_pulled z_best z_cartRow z_tryRow z_pairs z_from z_then z_tryAt) (W_X9z cI cZ cII qz qz_text qz_t qz_draft qz_s qz_kept qz_isKept qz_times qz_w qz_at qz_pulled qz_best qz_cartRow qz_tryRow qz_pairs qz_from qz_then qz_tryAt z_thrown' z_typed z_next z_token z_place z_value z_figures z_fault z_faultAt z_timeMany' z_eaten z_half z_bestMinutes z_bestOats z_isDue z_text z_t z_draft z_s z_kept z_isKept z_times' z_w z_at' z_pulled z_best z_cartRow z_tryRow z_pairs z_from z_then z_tryAt) sz) 0 0 (va_A (W_X9z cI cZ cII qz qz_text qz_t qz_draft qz_s qz_kept qz_isKept qz_times qz_w qz_at qz_pulled qz_best qz_cartRow qz_tryRow qz_pairs qz_from qz_then qz_tryAt z_thrown z_typed z_next z_token z_place z_value z_figures z_fault z_faultAt z_timeMany z_eaten z_half z_bestMinutes z_bestOats z_isDue z_text z_t z_draft z_s z_kept z_isKept z_times z_w z_at z_pulled z_best z_cartRow z_tryRow z_pairs z_from z_then z_tryAt) sz) := by
  refine Met.ofW (cc := cX9_tell) (maxL := 8) (ret := (some .int)) (by decide) rfl ?_
  intro p e s m args below meth c s₁ B hml hv
  obtain ⟨rfl, hsz, hP, hK, hD0⟩ := hv
  have hx := B.exec
  have hb := B.bytes
  have hr := B.returns
  have hts := atoms_spec (ws := wM yX9_tell cX9_tell 8 (some .int)) B.pre
  have hown : s.vm.findClass RX9 = some m.cls := findClass_of_methodNamed B.named
  have hlocks := B.notSynchronized
  subst hsz
  have hD := hD0.self (sz := s.heap.size)
  obtain ⟨A, hAe⟩ : ∃ A, A = va_A (W_X9z cI cZ cII qz qz_text qz_t qz_draft qz_s qz_kept qz_isKept qz_times qz_w qz_at qz_pulled qz_best qz_cartRow qz_tryRow qz_pairs qz_from qz_then qz_tryAt z_thrown z_typed z_next z_token z_place z_value z_figures z_fault z_faultAt z_timeMany z_eaten z_half z_bestMinutes z_bestOats z_isDue z_text z_t z_draft z_s z_kept z_isKept z_times z_w z_at z_pulled z_best z_cartRow z_tryRow z_pairs z_from z_then z_tryAt) s.heap.size := ⟨_, rfl⟩
  rw [← hAe] at hD
  have hA : ∀ q : Nat, s.heap.size ≤ q → A q := fun q h => by rw [hAe]; exact Or.inr h
  have hS : va_S A s.heap s.heap [] := va_S.rf
  have hl := lv_entry ([.ref qz, .int n1, .int n2, .int n3, .int n4, .int n5]) (n := 8) (Nat.le_of_ble_eq_true rfl)
  rw [lg_entry_eq]
  generalize (lg_sl ([.ref qz, .int n1, .int n2, .int n3, .int n4, .int n5]) ++ List.replicate (8 - (lg_sl ([.ref qz, .int n1, .int n2, .int n3, .int n4, .int n5])).length) Slot.unset).toArray = ls at hl ⊢
  have hl : lv_has ls 8 [(0, .ref qz), (1, .int n1), (2, .int n2), (3, .int n3), (4, .int n4), (5, .int n5)] := hl
  generalize ([.ref qz, .int n1, .int n2, .int n3, .int n4, .int n5] : List Value).toArray = args at hts ⊢
  have hw : ∀ w ∈ wsL_law, w.before args s = true := fun w h => hts w (List.mem_cons_of_mem _ h)
  refine pg_start (fun Q hQ => ?_)
  have RET : ∀ (H : Heap) (locs : List Loc) (ls : Array Slot) (pc : Nat) (v : Int32) (x0 : Int32) (x1 : Int32) (x2 : Nat → Int32) (x3 : Nat → Int32) , decode cX9_tell pc = .ok (.ireturn, 1) → va_P (dC, dI) vwCl (W_X9z cI cZ cII qz qz_text qz_t qz_draft qz_s qz_kept qz_isKept qz_times qz_w qz_at qz_pulled qz_best qz_cartRow qz_tryRow qz_pairs qz_from qz_then qz_tryAt x0 z_typed z_next z_token z_place z_value z_figures z_fault z_faultAt x1 z_eaten z_half z_bestMinutes z_bestOats z_isDue z_text z_t z_draft z_s z_kept z_isKept x2 z_w x3 z_pulled z_best z_cartRow z_tryRow z_pairs z_from z_then z_tryAt) H → va_D A (W_X9z cI cZ cII qz qz_text qz_t qz_draft qz_s qz_kept qz_isKept qz_times qz_w qz_at qz_pulled qz_best qz_cartRow qz_tryRow qz_pairs qz_from qz_then qz_tryAt x0 z_typed z_next z_token z_place z_value z_figures z_fault z_faultAt x1 z_eaten z_half z_bestMinutes z_bestOats z_isDue z_text z_t z_draft z_s z_kept z_isKept x2 z_w x3 z_pulled z_best z_cartRow z_tryRow z_pairs z_from z_then z_tryAt) → va_S A s.heap H locs → (some (v, x0, x1, x2, x3) : Option (Int32 × Int32 × Int32 × (Nat → Int32) × (Nat → Int32))) = some (rr, z_thrown', z_timeMany', z_times', z_at') → W p l e rm_X9_tell s m args below meth c H locs 0 0 Q (F0 m pc ls [.int v]) := by
    intro H locs ls pc v x0 x1 x2 x3 hd hP hD hS he
    subst hAe; subst hQ
    simp only [Option.some.injEq, Prod.mk.injEq] at he
    obtain ⟨rfl, rfl, rfl, rfl, rfl⟩ := he
    exact pg_iret hx hb hr hlocks hK hP hD hS hd
  unfold f_X9_tell at hf
  refine lv_aload_n hx hb dX9_tell_0 rfl (lv_at hl 0 rfl) ?_
  refine lv_iconst (v := (0 : Int32)) hx hb dX9_tell_1 (by decide) ?_
  refine va_put (D := (dC, dI)) (ci := 9) (v := .int (0 : Int32)) (ty := .int) (C := RX9) (T := TX9) (N := 32) hx hb hw inlX9 tyX9 tyX9_ok nmX9 hown hK hP hD hS 0 rfl rfl 0 (by decide) (hw _ mw_7_19) (fun _ h9 => h9) rfl (by decide +kernel) rfl rfl (Nat.le_of_ble_eq_true rfl) dX9_tell_2 (fun H locs hP hD hS => ?_)
  have hP : va_P (dC, dI) vwCl (W_X9z cI cZ cII qz qz_text qz_t qz_draft qz_s qz_kept qz_isKept qz_times qz_w qz_at qz_pulled qz_best qz_cartRow qz_tryRow qz_pairs qz_from qz_then qz_tryAt (0 : Int32) z_typed z_next z_token z_place z_value z_figures z_fault z_faultAt z_timeMany z_eaten z_half z_bestMinutes z_bestOats z_isDue z_text z_t z_draft z_s z_kept z_isKept z_times z_w z_at z_pulled z_best z_cartRow z_tryRow z_pairs z_from z_then z_tryAt) H := hP
  have hD : va_D A (W_X9z cI cZ cII qz qz_text qz_t qz_draft qz_s qz_kept qz_isKept qz_times qz_w qz_at qz_pulled qz_best qz_cartRow qz_tryRow qz_pairs qz_from qz_then qz_tryAt (0 : Int32) z_typed z_next z_token z_place z_value z_figures z_fault z_faultAt z_timeMany z_eaten z_half z_bestMinutes z_bestOats z_isDue z_text z_t z_draft z_s z_kept z_isKept z_times z_w z_at z_pulled z_best z_cartRow z_tryRow z_pairs z_from z_then z_tryAt) := hD
  refine lv_aload_n hx hb dX9_tell_5 rfl (lv_at hl 0 rfl) ?_
  refine va_get (D := (dC, dI)) (ci := 9) (v := .ref qz_at) (C := RX9) (T := TX9) (N := 32) hx hb hw inlX9 hown hK hP 0 rfl rfl 18 (by decide) (hw _ mw_6_9) (fun _ h9 => h9) rfl dX9_tell_6 ?_
  refine lv_iconst (v := (0 : Int32)) hx hb dX9_tell_9 (by decide) ?_
  refine lv_iload_n hx hb dX9_tell_10 rfl (lv_at hl 1 rfl) ?_
  refine va_iast hx hb hK hP hD hS 9 0 rfl rfl (pg_lit (by decide)) dX9_tell_11 (fun H locs hP hD hS => ?_)
  have hP : va_P (dC, dI) vwCl (W_X9z cI cZ cII qz qz_text qz_t qz_draft qz_s qz_kept qz_isKept qz_times qz_w qz_at qz_pulled qz_best qz_cartRow qz_tryRow qz_pairs qz_from qz_then qz_tryAt (0 : Int32) z_typed z_next z_token z_place z_value z_figures z_fault z_faultAt z_timeMany z_eaten z_half z_bestMinutes z_bestOats z_isDue z_text z_t z_draft z_s z_kept z_isKept z_times z_w (upd z_at ((0 : Int32)).toNatClampNeg n1) z_pulled z_best z_cartRow z_tryRow z_pairs z_from z_then z_tryAt) H := hP
  have hD : va_D A (W_X9z cI cZ cII qz qz_text qz_t qz_draft qz_s qz_kept qz_isKept qz_times qz_w qz_at qz_pulled qz_best qz_cartRow qz_tryRow qz_pairs qz_from qz_then qz_tryAt (0 : Int32) z_typed z_next z_token z_place z_value z_figures z_fault z_faultAt z_timeMany z_eaten z_half z_bestMinutes z_bestOats z_isDue z_text z_t z_draft z_s z_kept z_isKept z_times z_w (upd z_at ((0 : Int32)).toNatClampNeg n1) z_pulled z_best z_cartRow z_tryRow z_pairs z_from z_then z_tryAt) := hD
  refine lv_aload_n hx hb dX9_tell_12 rfl (lv_at hl 0 rfl) ?_
  refine va_get (D := (dC, dI)) (ci := 9) (v := .ref qz_at) (C := RX9) (T := TX9) (N := 32) hx hb hw inlX9 hown hK hP 0 rfl rfl 18 (by decide) (hw _ mw_6_9) (fun _ h9 => h9) rfl dX9_tell_13 ?_
  refine lv_iconst (v := (1 : Int32)) hx hb dX9_tell_16 (by decide) ?_
  refine lv_iload_n hx hb dX9_tell_17 rfl (lv_at hl 2 rfl) ?_
  refine va_iast hx hb hK hP hD hS 9 0 rfl rfl (pg_lit (by decide)) dX9_tell_18 (fun H locs hP hD hS => ?_)
  have hP : va_P (dC, dI) vwCl (W_X9z cI cZ cII qz qz_text qz_t qz_draft qz_s qz_kept qz_isKept qz_times qz_w qz_at qz_pulled qz_best qz_cartRow qz_tryRow qz_pairs qz_from qz_then qz_tryAt (0 : Int32) z_typed z_next z_token z_place z_value z_figures z_fault z_faultAt z_timeMany z_eaten z_half z_bestMinutes z_bestOats z_isDue z_text z_t z_draft z_s z_kept z_isKept z_times z_w (upd (upd z_at ((0 : Int32)).toNatClampNeg n1) ((1 : Int32)).toNatClampNeg n2) z_pulled z_best z_cartRow z_tryRow z_pairs z_from z_then z_tryAt) H := hP
  have hD : va_D A (W_X9z cI cZ cII qz qz_text qz_t qz_draft qz_s qz_kept qz_isKept qz_times qz_w qz_at qz_pulled qz_best qz_cartRow qz_tryRow qz_pairs qz_from qz_then qz_tryAt (0 : Int32) z_typed z_next z_token z_place z_value z_figures z_fault z_faultAt z_timeMany z_eaten z_half z_bestMinutes z_bestOats z_isDue z_text z_t z_draft z_s z_kept z_isKept z_times z_w (upd (upd z_at ((0 : Int32)).toNatClampNeg n1) ((1 : Int32)).toNatClampNeg n2) z_pulled z_best z_cartRow z_tryRow z_pairs z_from z_then z_tryAt) := hD
  refine lv_aload_n hx hb dX9_tell_19 rfl (lv_at hl 0 rfl) ?_
  refine va_get (D := (dC, dI)) (ci := 9) (v := .ref qz_at) (C := RX9) (T := TX9) (N := 32) hx hb hw inlX9 hown hK hP 0 rfl rfl 18 (by decide) (hw _ mw_6_9) (fun _ h9 => h9) rfl dX9_tell_20 ?_
  refine lv_iconst (v := (2 : Int32)) hx hb dX9_tell_23 (by decide) ?_
  refine lv_iload_n hx hb dX9_tell_24 rfl (lv_at hl 3 rfl) ?_
  refine va_iast hx hb hK hP hD hS 9 0 rfl rfl (pg_lit (by decide)) dX9_tell_25 (fun H locs hP hD hS => ?_)
  have hP : va_P (dC, dI) vwCl (W_X9z cI cZ cII qz qz_text qz_t qz_draft qz_s qz_kept qz_isKept qz_times qz_w qz_at qz_pulled qz_best qz_cartRow qz_tryRow qz_pairs qz_from qz_then qz_tryAt (0 : Int32) z_typed z_next z_token z_place z_value z_figures z_fault z_faultAt z_timeMany z_eaten z_half z_bestMinutes z_bestOats z_isDue z_text z_t z_draft z_s z_kept z_isKept z_times z_w (upd (upd (upd z_at ((0 : Int32)).toNatClampNeg n1) ((1 : Int32)).toNatClampNeg n2) ((2 : Int32)).toNatClampNeg n3) z_pulled z_best z_cartRow z_tryRow z_pairs z_from z_then z_tryAt) H := hP
  have hD : va_D A (W_X9z cI cZ cII qz qz_text qz_t qz_draft qz_s qz_kept qz_isKept qz_times qz_w qz_at qz_pulled qz_best qz_cartRow qz_tryRow qz_pairs qz_from qz_then qz_tryAt (0 : Int32) z_typed z_next z_token z_place z_value z_figures z_fault z_faultAt z_timeMany z_eaten z_half z_bestMinutes z_bestOats z_isDue z_text z_t z_draft z_s z_kept z_isKept z_times z_w (upd (upd (upd z_at ((0 : Int32)).toNatClampNeg n1) ((1 : Int32)).toNatClampNeg n2) ((2 : Int32)).toNatClampNeg n3) z_pulled z_best z_cartRow z_tryRow z_pairs z_from z_then z_tryAt) := hD
  refine lv_iconst (v := (1 : Int32)) hx hb dX9_tell_26 (by decide) ?_
  refine lv_istore (lv' := [(6, .int (1 : Int32)), (0, .ref qz), (1, .int n1), (2, .int n2), (3, .int n3), (4, .int n4), (5, .int n5)]) hx hb dX9_tell_27 hl (by decide) rfl (fun ls hl => ?_)
  refine lv_iconst (v := (0 : Int32)) hx hb dX9_tell_29 (by decide) ?_
  refine lv_istore (lv' := [(7, .int (0 : Int32)), (6, .int (1 : Int32)), (0, .ref qz), (1, .int n1), (2, .int n2), (3, .int n3), (4, .int n4), (5, .int n5)]) hx hb dX9_tell_30 hl (by decide) rfl (fun ls hl => ?_)
  obtain ⟨K111_1, hK111_1, hf⟩ := jn1_s hf
  have WK111_1 : ∀ (y6_1 : Int32) (H : Heap) (locs : List Loc) (ls : Array Slot), va_P (dC, dI) vwCl (W_X9z cI cZ cII qz qz_text qz_t qz_draft qz_s qz_kept qz_isKept qz_times qz_w qz_at qz_pulled qz_best qz_cartRow qz_tryRow qz_pairs qz_from qz_then qz_tryAt (0 : Int32) z_typed z_next z_token z_place z_value z_figures z_fault z_faultAt z_timeMany z_eaten z_half z_bestMinutes z_bestOats z_isDue z_text z_t z_draft z_s z_kept z_isKept z_times z_w (upd (upd (upd z_at ((0 : Int32)).toNatClampNeg n1) ((1 : Int32)).toNatClampNeg n2) ((2 : Int32)).toNatClampNeg n3) z_pulled z_best z_cartRow z_tryRow z_pairs z_from z_then z_tryAt) H → va_D A (W_X9z cI cZ cII qz qz_text qz_t qz_draft qz_s qz_kept qz_isKept qz_times qz_w qz_at qz_pulled qz_best qz_cartRow qz_tryRow qz_pairs qz_from qz_then qz_tryAt (0 : Int32) z_typed z_next z_token z_place z_value z_figures z_fault z_faultAt z_timeMany z_eaten z_half z_bestMinutes z_bestOats z_isDue z_text z_t z_draft z_s z_kept z_isKept z_times z_w (upd (upd (upd z_at ((0 : Int32)).toNatClampNeg n1) ((1 : Int32)).toNatClampNeg n2) ((2 : Int32)).toNatClampNeg n3) z_pulled z_best z_cartRow z_tryRow z_pairs z_from z_then z_tryAt) → va_S A s.heap H locs → lv_has ls 8 [(0, .ref qz), (1, .int n1), (2, .int n2), (3, .int n3), (4, .int n4), (5, .int n5), (6, .int y6_1)] → K111_1 y6_1 = some (rr, z_thrown', z_timeMany', z_times', z_at') → W p l e rm_X9_tell s m args below meth c H locs 0 0 Q (F0 m 111 ls []) := by
    intro y6_1 H locs ls hP hD hS hl hf
    have hf := hK111_1 _ hf
    refine lv_iload hx hb dX9_tell_111 (lv_at hl 6 rfl) ?_
    refine lv_if_ne (tgt := 119) hx hb dX9_tell_113 (by decide) (fun h9 => ?_) (fun h9 => ?_)
    · have hf := pg_f h9 hf
      refine lv_iload hx hb dX9_tell_119 (lv_at hl 4 rfl) ?_
      refine lv_iconst (v := (0 : Int32)) hx hb dX9_tell_121 (by decide) ?_
      refine lv_bipush (v := (99 : Int32)) hx hb dX9_tell_122 (by decide) ?_
      obtain ⟨r_2, hc, hf⟩ := bn1_s hf
      refine pg_cSi (As := [.int n4, .int (0 : Int32), .int (99 : Int32)]) (rest := []) (wf := (W_X9z cI cZ cII qz qz_text qz_t qz_draft qz_s qz_kept qz_isKept qz_times qz_w qz_at qz_pulled qz_best qz_cartRow qz_tryRow qz_pairs qz_from qz_then qz_tryAt (0 : Int32) z_typed z_next z_token z_place z_value z_figures z_fault z_faultAt z_timeMany z_eaten z_half z_bestMinutes z_bestOats z_isDue z_text z_t z_draft z_s z_kept z_isKept z_times z_w (upd (upd (upd z_at ((0 : Int32)).toNatClampNeg n1) ((1 : Int32)).toNatClampNeg n2) ((2 : Int32)).toNatClampNeg n3) z_pulled z_best z_cartRow z_tryRow z_pairs z_from z_then z_tryAt)) ⟨hx, hb, hml, hown, hw⟩ (c_X9_in l dC dI cI cZ cII  H.size  n4 (0 : Int32) (99 : Int32) r_2 hc) (va_cwS 3 hts (wM_S mw_8_0 mw_8_1 mw_1_5 mw_8_2) rfl rfl rfl dk_X9_in ⟨Nat.le_of_ble_eq_true rfl, Nat.le_of_ble_eq_true rfl⟩) hK hP hD hS hA [] [0, 1, 2, 3, 4, 5, 6, 7, 8, 9, 10, 11, 12, 13, 14, 15, 16, 17] [0, 1, 2, 3, 4, 5, 6, 7, 8, 9, 10, 11, 12, 13, 14, 15, 16, 17] (plC_62 cI cZ cII qz qz_text qz_t qz_draft qz_s qz_kept qz_isKept qz_times qz_w qz_at qz_pulled qz_best qz_cartRow qz_tryRow qz_pairs qz_from qz_then qz_tryAt (0 : Int32) z_typed z_next z_token z_place z_value z_figures z_fault z_faultAt z_timeMany z_eaten z_half z_bestMinutes z_bestOats z_isDue z_text z_t z_draft z_s z_kept z_isKept z_times z_w (upd (upd (upd z_at ((0 : Int32)).toNatClampNeg n1) ((1 : Int32)).toNatClampNeg n2) ((2 : Int32)).toNatClampNeg n3) z_pulled z_best z_cartRow z_tryRow z_pairs z_from z_then z_tryAt) rfl (plF_62 cI cZ cII qz qz_text qz_t qz_draft qz_s qz_kept qz_isKept qz_times qz_w qz_at qz_pulled qz_best qz_cartRow qz_tryRow qz_pairs qz_from qz_then qz_tryAt (0 : Int32) z_typed z_next z_token z_place z_value z_figures z_fault z_faultAt z_timeMany z_eaten z_half z_bestMinutes z_bestOats z_isDue z_text z_t z_draft z_s z_kept z_isKept z_times z_w (upd (upd (upd z_at ((0 : Int32)).toNatClampNeg n1) ((1 : Int32)).toNatClampNeg n2) ((2 : Int32)).toNatClampNeg n3) z_pulled z_best z_cartRow z_tryRow z_pairs z_from z_then z_tryAt ) (by decide) rfl hl.1 rfl (Nat.le_of_ble_eq_true rfl) dX9_tell_124 ⟨Nat.zero_le _, Nat.zero_le _⟩ (fun H locs hP hD hS => ?_)
      refine lv_if_eq (tgt := 141) hx hb dX9_tell_127 (by decide) (fun h9 => ?_) (fun h9 => ?_)
      · have hf := pg_t h9 hf
        refine lv_ldc (v := (-1000000002 : Int32)) hx hb hown (hw _ mw_7_20) dX9_tell_141 ?_
        exact RET _ _ _ _ _ _ _ _ _ dX9_tell_143 hP hD hS hf
      · have hf := pg_f h9 hf
        refine lv_iload hx hb dX9_tell_130 (lv_at hl 5 rfl) ?_
        refine lv_iconst (v := (0 : Int32)) hx hb dX9_tell_132 (by decide) ?_
        refine lv_bipush (v := (120 : Int32)) hx hb dX9_tell_133 (by decide) ?_
        obtain ⟨r_3, hc, hf⟩ := bn1_s hf
        refine pg_cSi (As := [.int n5, .int (0 : Int32), .int (120 : Int32)]) (rest := []) (wf := (W_X9z cI cZ cII qz qz_text qz_t qz_draft qz_s qz_kept qz_isKept qz_times qz_w qz_at qz_pulled qz_best qz_cartRow qz_tryRow qz_pairs qz_from qz_then qz_tryAt (0 : Int32) z_typed z_next z_token z_place z_value z_figures z_fault z_faultAt z_timeMany z_eaten z_half z_bestMinutes z_bestOats z_isDue z_text z_t z_draft z_s z_kept z_isKept z_times z_w (upd (upd (upd z_at ((0 : Int32)).toNatClampNeg n1) ((1 : Int32)).toNatClampNeg n2) ((2 : Int32)).toNatClampNeg n3) z_pulled z_best z_cartRow z_tryRow z_pairs z_from z_then z_tryAt)) ⟨hx, hb, hml, hown, hw⟩ (c_X9_in l dC dI cI cZ cII  H.size  n5 (0 : Int32) (120 : Int32) r_3 hc) (va_cwS 3 hts (wM_S mw_8_0 mw_8_1 mw_1_5 mw_8_2) rfl rfl rfl dk_X9_in ⟨Nat.le_of_ble_eq_true rfl, Nat.le_of_ble_eq_true rfl⟩) hK hP hD hS hA [] [0, 1, 2, 3, 4, 5, 6, 7, 8, 9, 10, 11, 12, 13, 14, 15, 16, 17] [0, 1, 2, 3, 4, 5, 6, 7, 8, 9, 10, 11, 12, 13, 14, 15, 16, 17] (plC_62 cI cZ cII qz qz_text qz_t qz_draft qz_s qz_kept qz_isKept qz_times qz_w qz_at qz_pulled qz_best qz_cartRow qz_tryRow qz_pairs qz_from qz_then qz_tryAt (0 : Int32) z_typed z_next z_token z_place z_value z_figures z_fault z_faultAt z_timeMany z_eaten z_half z_bestMinutes z_bestOats z_isDue z_text z_t z_draft z_s z_kept z_isKept z_times z_w (upd (upd (upd z_at ((0 : Int32)).toNatClampNeg n1) ((1 : Int32)).toNatClampNeg n2) ((2 : Int32)).toNatClampNeg n3) z_pulled z_best z_cartRow z_tryRow z_pairs z_from z_then z_tryAt) rfl (plF_62 cI cZ cII qz qz_text qz_t qz_draft qz_s qz_kept qz_isKept qz_times qz_w qz_at qz_pulled qz_best qz_cartRow qz_tryRow qz_pairs qz_from qz_then qz_tryAt (0 : Int32) z_typed z_next z_token z_place z_value z_figures z_fault z_faultAt z_timeMany z_eaten z_half z_bestMinutes z_bestOats z_isDue z_text z_t z_draft z_s z_kept z_isKept z_times z_w (upd (upd (upd z_at ((0 : Int32)).toNatClampNeg n1) ((1 : Int32)).toNatClampNeg n2) ((2 : Int32)).toNatClampNeg n3) z_pulled z_best z_cartRow z_tryRow z_pairs z_from z_then z_tryAt ) (by decide) rfl hl.1 rfl (Nat.le_of_ble_eq_true rfl) dX9_tell_135 ⟨Nat.zero_le _, Nat.zero_le _⟩ (fun H locs hP hD hS => ?_)
        refine lv_if_ne (tgt := 144) hx hb dX9_tell_138 (by decide) (fun h9 => ?_) (fun h9 => ?_)
        · have hf := pg_f h9 hf
          refine lv_iload_n hx hb dX9_tell_144 rfl (lv_at hl 1 rfl) ?_
          refine lv_iconst (v := (-1 : Int32)) hx hb dX9_tell_145 (by decide) ?_
          obtain ⟨J162_4, hJ162_4, hf⟩ := jn1_s hf
          have WJ162_4 : ∀ (u_4 : Unit) (H : Heap) (locs : List Loc) (ls : Array Slot), va_P (dC, dI) vwCl (W_X9z cI cZ cII qz qz_text qz_t qz_draft qz_s qz_kept qz_isKept qz_times qz_w qz_at qz_pulled qz_best qz_cartRow qz_tryRow qz_pairs qz_from qz_then qz_tryAt (0 : Int32) z_typed z_next z_token z_place z_value z_figures z_fault z_faultAt z_timeMany z_eaten z_half z_bestMinutes z_bestOats z_isDue z_text z_t z_draft z_s z_kept z_isKept z_times z_w (upd (upd (upd z_at ((0 : Int32)).toNatClampNeg n1) ((1 : Int32)).toNatClampNeg n2) ((2 : Int32)).toNatClampNeg n3) z_pulled z_best z_cartRow z_tryRow z_pairs z_from z_then z_tryAt) H → va_D A (W_X9z cI cZ cII qz qz_text qz_t qz_draft qz_s qz_kept qz_isKept qz_times qz_w qz_at qz_pulled qz_best qz_cartRow qz_tryRow qz_pairs qz_from qz_then qz_tryAt (0 : Int32) z_typed z_next z_token z_place z_value z_figures z_fault z_faultAt z_timeMany z_eaten z_half z_bestMinutes z_bestOats z_isDue z_text z_t z_draft z_s z_kept z_isKept z_times z_w (upd (upd (upd z_at ((0 : Int32)).toNatClampNeg n1) ((1 : Int32)).toNatClampNeg n2) ((2 : Int32)).toNatClampNeg n3) z_pulled z_best z_cartRow z_tryRow z_pairs z_from z_then z_tryAt) → va_S A s.heap H locs → lv_has ls 8 [(0, .ref qz), (1, .int n1), (2, .int n2), (3, .int n3), (4, .int n4), (5, .int n5)] → J162_4 u_4 = some (rr, z_thrown', z_timeMany', z_times', z_at') → W p l e rm_X9_tell s m args below meth c H locs 0 0 Q (F0 m 162 ls []) := by
            intro u_4 H locs ls hP hD hS hl hf
            have hf := hJ162_4 _ hf
            refine lv_aload_n hx hb dX9_tell_162 rfl (lv_at hl 0 rfl) ?_
            refine va_get (D := (dC, dI)) (ci := 9) (v := .int z_timeMany) (C := RX9) (T := TX9) (N := 32) hx hb hw inlX9 hown hK hP 0 rfl rfl 16 (by decide) (hw _ mw_7_2) (fun _ h9 => h9) rfl dX9_tell_163 ?_
            refine lv_bipush (v := (10 : Int32)) hx hb dX9_tell_166 (by decide) ?_
            refine lv_icmp_ne (tgt := 174) hx hb dX9_tell_168 (by decide) (fun h9 => ?_) (fun h9 => ?_)
            · have hf := pg_f h9 hf
              refine lv_iconst (v := (5 : Int32)) hx hb dX9_tell_174 (by decide) ?_
              refine lv_aload_n hx hb dX9_tell_175 rfl (lv_at hl 0 rfl) ?_
              refine va_get (D := (dC, dI)) (ci := 9) (v := .int z_timeMany) (C := RX9) (T := TX9) (N := 32) hx hb hw inlX9 hown hK hP 0 rfl rfl 16 (by decide) (hw _ mw_7_2) (fun _ h9 => h9) rfl dX9_tell_176 ?_
              refine lv_imul hx hb dX9_tell_179 ?_
              refine lv_istore (lv' := [(7, .int ((5 : Int32) * z_timeMany)), (0, .ref qz), (1, .int n1), (2, .int n2), (3, .int n3), (4, .int n4), (5, .int n5)]) hx hb dX9_tell_180 hl (by decide) rfl (fun ls hl => ?_)
              refine lv_aload_n hx hb dX9_tell_182 rfl (lv_at hl 1 rfl) ?_
              refine va_get (D := (dC, dI)) (ci := 9) (v := .ref qz_times) (C := RX9) (T := TX9) (N := 32) hx hb hw inlX9 hown hK hP 0 rfl rfl 15 (by decide) (hw _ mw_6_7) (fun _ h9 => h9) rfl dX9_tell_183 ?_
              refine lv_iload hx hb dX9_tell_186 (lv_at hl 0 rfl) ?_
              refine lv_iload_n hx hb dX9_tell_188 rfl (lv_at hl 2 rfl) ?_
              obtain ⟨hi5, hf⟩ := pg_chk hf
              refine va_iast hx hb hK hP hD hS 7 0 rfl rfl hi5 dX9_tell_189 (fun H locs hP hD hS => ?_)
              have hP : va_P (dC, dI) vwCl (W_X9z cI cZ cII qz qz_text qz_t qz_draft qz_s qz_kept qz_isKept qz_times qz_w qz_at qz_pulled qz_best qz_cartRow qz_tryRow qz_pairs qz_from qz_then qz_tryAt (0 : Int32) z_typed z_next z_token z_place z_value z_figures z_fault z_faultAt z_timeMany z_eaten z_half z_bestMinutes z_bestOats z_isDue z_text z_t z_draft z_s z_kept z_isKept (upd z_times (((5 : Int32) * z_timeMany)).toNatClampNeg n1) z_w (upd (upd (upd z_at ((0 : Int32)).toNatClampNeg n1) ((1 : Int32)).toNatClampNeg n2) ((2 : Int32)).toNatClampNeg n3) z_pulled z_best z_cartRow z_tryRow z_pairs z_from z_then z_tryAt) H := hP
              have hD : va_D A (W_X9z cI cZ cII qz qz_text qz_t qz_draft qz_s qz_kept qz_isKept qz_times qz_w qz_at qz_pulled qz_best qz_cartRow qz_tryRow qz_pairs qz_from qz_then qz_tryAt (0 : Int32) z_typed z_next z_token z_place z_value z_figures z_fault z_faultAt z_timeMany z_eaten z_half z_bestMinutes z_bestOats z_isDue z_text z_t z_draft z_s z_kept z_isKept (upd z_times (((5 : Int32) * z_timeMany)).toNatClampNeg n1) z_w (upd (upd (upd z_at ((0 : Int32)).toNatClampNeg n1) ((1 : Int32)).toNatClampNeg n2) ((2 : Int32)).toNatClampNeg n3) z_pulled z_best z_cartRow z_tryRow z_pairs z_from z_then z_tryAt) := hD
              refine lv_aload_n hx hb dX9_tell_190 rfl (lv_at hl 1 rfl) ?_
              refine va_get (D := (dC, dI)) (ci := 9) (v := .ref qz_times) (C := RX9) (T := TX9) (N := 32) hx hb hw inlX9 hown hK hP 0 rfl rfl 15 (by decide) (hw _ mw_6_7) (fun _ h9 => h9) rfl dX9_tell_191 ?_
              refine lv_iload hx hb dX9_tell_194 (lv_at hl 0 rfl) ?_
              refine lv_iconst (v := (1 : Int32)) hx hb dX9_tell_196 (by decide) ?_
              refine lv_iadd hx hb dX9_tell_197 ?_
              refine lv_iload_n hx hb dX9_tell_198 rfl (lv_at hl 3 rfl) ?_
              obtain ⟨hi6, hf⟩ := pg_chk hf
              refine va_iast hx hb hK hP hD hS 7 0 rfl rfl hi6 dX9_tell_199 (fun H locs hP hD hS => ?_)
              have hP : va_P (dC, dI) vwCl (W_X9z cI cZ cII qz qz_text qz_t qz_draft qz_s qz_kept qz_isKept qz_times qz_w qz_at qz_pulled qz_best qz_cartRow qz_tryRow qz_pairs qz_from qz_then qz_tryAt (0 : Int32) z_typed z_next z_token z_place z_value z_figures z_fault z_faultAt z_timeMany z_eaten z_half z_bestMinutes z_bestOats z_isDue z_text z_t z_draft z_s z_kept z_isKept (upd (upd z_times (((5 : Int32) * z_timeMany)).toNatClampNeg n1) ((((5 : Int32) * z_timeMany) + (1 : Int32))).toNatClampNeg n2) z_w (upd (upd (upd z_at ((0 : Int32)).toNatClampNeg n1) ((1 : Int32)).toNatClampNeg n2) ((2 : Int32)).toNatClampNeg n3) z_pulled z_best z_cartRow z_tryRow z_pairs z_from z_then z_tryAt) H := hP
              have hD : va_D A (W_X9z cI cZ cII qz qz_text qz_t qz_draft qz_s qz_kept qz_isKept qz_times qz_w qz_at qz_pulled qz_best qz_cartRow qz_tryRow qz_pairs qz_from qz_then qz_tryAt (0 : Int32) z_typed z_next z_token z_place z_value z_figures z_fault z_faultAt z_timeMany z_eaten z_half z_bestMinutes z_bestOats z_isDue z_text z_t z_draft z_s z_kept z_isKept (upd (upd z_times (((5 : Int32) * z_timeMany)).toNatClampNeg n1) ((((5 : Int32) * z_timeMany) + (1 : Int32))).toNatClampNeg n2) z_w (upd (upd (upd z_at ((0 : Int32)).toNatClampNeg n1) ((1 : Int32)).toNatClampNeg n2) ((2 : Int32)).toNatClampNeg n3) z_pulled z_best z_cartRow z_tryRow z_pairs z_from z_then z_tryAt) := hD
              refine lv_aload_n hx hb dX9_tell_200 rfl (lv_at hl 1 rfl) ?_
              refine va_get (D := (dC, dI)) (ci := 9) (v := .ref qz_times) (C := RX9) (T := TX9) (N := 32) hx hb hw inlX9 hown hK hP 0 rfl rfl 15 (by decide) (hw _ mw_6_7) (fun _ h9 => h9) rfl dX9_tell_201 ?_
              refine lv_iload hx hb dX9_tell_204 (lv_at hl 0 rfl) ?_
              refine lv_iconst (v := (2 : Int32)) hx hb dX9_tell_206 (by decide) ?_
              refine lv_iadd hx hb dX9_tell_207 ?_
              refine lv_iload_n hx hb dX9_tell_208 rfl (lv_at hl 4 rfl) ?_
              obtain ⟨hi7, hf⟩ := pg_chk hf
              refine va_iast hx hb hK hP hD hS 7 0 rfl rfl hi7 dX9_tell_209 (fun H locs hP hD hS => ?_)
              have hP : va_P (dC, dI) vwCl (W_X9z cI cZ cII qz qz_text qz_t qz_draft qz_s qz_kept qz_isKept qz_times qz_w qz_at qz_pulled qz_best qz_cartRow qz_tryRow qz_pairs qz_from qz_then qz_tryAt (0 : Int32) z_typed z_next z_token z_place z_value z_figures z_fault z_faultAt z_timeMany z_eaten z_half z_bestMinutes z_bestOats z_isDue z_text z_t z_draft z_s z_kept z_isKept (upd (upd (upd z_times (((5 : Int32) * z_timeMany)).toNatClampNeg n1) ((((5 : Int32) * z_timeMany) + (1 : Int32))).toNatClampNeg n2) ((((5 : Int32) * z_timeMany) + (2 : Int32))).toNatClampNeg n3) z_w (upd (upd (upd z_at ((0 : Int32)).toNatClampNeg n1) ((1 : Int32)).toNatClampNeg n2) ((2 : Int32)).toNatClampNeg n3) z_pulled z_best z_cartRow z_tryRow z_pairs z_from z_then z_tryAt) H := hP
              have hD : va_D A (W_X9z cI cZ cII qz qz_text qz_t qz_draft qz_s qz_kept qz_isKept qz_times qz_w qz_at qz_pulled qz_best qz_cartRow qz_tryRow qz_pairs qz_from qz_then qz_tryAt (0 : Int32) z_typed z_next z_token z_place z_value z_figures z_fault z_faultAt z_timeMany z_eaten z_half z_bestMinutes z_bestOats z_isDue z_text z_t z_draft z_s z_kept z_isKept (upd (upd (upd z_times (((5 : Int32) * z_timeMany)).toNatClampNeg n1) ((((5 : Int32) * z_timeMany) + (1 : Int32))).toNatClampNeg n2) ((((5 : Int32) * z_timeMany) + (2 : Int32))).toNatClampNeg n3) z_w (upd (upd (upd z_at ((0 : Int32)).toNatClampNeg n1) ((1 : Int32)).toNatClampNeg n2) ((2 : Int32)).toNatClampNeg n3) z_pulled z_best z_cartRow z_tryRow z_pairs z_from z_then z_tryAt) := hD
              refine lv_aload_n hx hb dX9_tell_210 rfl (lv_at hl 1 rfl) ?_
              refine va_get (D := (dC, dI)) (ci := 9) (v := .ref qz_times) (C := RX9) (T := TX9) (N := 32) hx hb hw inlX9 hown hK hP 0 rfl rfl 15 (by decide) (hw _ mw_6_7) (fun _ h9 => h9) rfl dX9_tell_211 ?_
              refine lv_iload hx hb dX9_tell_214 (lv_at hl 0 rfl) ?_
              refine lv_iconst (v := (3 : Int32)) hx hb dX9_tell_216 (by decide) ?_
              refine lv_iadd hx hb dX9_tell_217 ?_
              refine lv_iload hx hb dX9_tell_218 (lv_at hl 5 rfl) ?_
              obtain ⟨hi8, hf⟩ := pg_chk hf
              refine va_iast hx hb hK hP hD hS 7 0 rfl rfl hi8 dX9_tell_220 (fun H locs hP hD hS => ?_)
              have hP : va_P (dC, dI) vwCl (W_X9z cI cZ cII qz qz_text qz_t qz_draft qz_s qz_kept qz_isKept qz_times qz_w qz_at qz_pulled qz_best qz_cartRow qz_tryRow qz_pairs qz_from qz_then qz_tryAt (0 : Int32) z_typed z_next z_token z_place z_value z_figures z_fault z_faultAt z_timeMany z_eaten z_half z_bestMinutes z_bestOats z_isDue z_text z_t z_draft z_s z_kept z_isKept (upd (upd (upd (upd z_times (((5 : Int32) * z_timeMany)).toNatClampNeg n1) ((((5 : Int32) * z_timeMany) + (1 : Int32))).toNatClampNeg n2) ((((5 : Int32) * z_timeMany) + (2 : Int32))).toNatClampNeg n3) ((((5 : Int32) * z_timeMany) + (3 : Int32))).toNatClampNeg n4) z_w (upd (upd (upd z_at ((0 : Int32)).toNatClampNeg n1) ((1 : Int32)).toNatClampNeg n2) ((2 : Int32)).toNatClampNeg n3) z_pulled z_best z_cartRow z_tryRow z_pairs z_from z_then z_tryAt) H := hP
              have hD : va_D A (W_X9z cI cZ cII qz qz_text qz_t qz_draft qz_s qz_kept qz_isKept qz_times qz_w qz_at qz_pulled qz_best qz_cartRow qz_tryRow qz_pairs qz_from qz_then qz_tryAt (0 : Int32) z_typed z_next z_token z_place z_value z_figures z_fault z_faultAt z_timeMany z_eaten z_half z_bestMinutes z_bestOats z_isDue z_text z_t z_draft z_s z_kept z_isKept (upd (upd (upd (upd z_times (((5 : Int32) * z_timeMany)).toNatClampNeg n1) ((((5 : Int32) * z_timeMany) + (1 : Int32))).toNatClampNeg n2) ((((5 : Int32) * z_timeMany) + (2 : Int32))).toNatClampNeg n3) ((((5 : Int32) * z_timeMany) + (3 : Int32))).toNatClampNeg n4) z_w (upd (upd (upd z_at ((0 : Int32)).toNatClampNeg n1) ((1 : Int32)).toNatClampNeg n2) ((2 : Int32)).toNatClampNeg n3) z_pulled z_best z_cartRow z_tryRow z_pairs z_from z_then z_tryAt) := hD
              refine lv_aload_n hx hb dX9_tell_221 rfl (lv_at hl 1 rfl) ?_
              refine va_get (D := (dC, dI)) (ci := 9) (v := .ref qz_times) (C := RX9) (T := TX9) (N := 32) hx hb hw inlX9 hown hK hP 0 rfl rfl 15 (by decide) (hw _ mw_6_7) (fun _ h9 => h9) rfl dX9_tell_222 ?_
              refine lv_iload hx hb dX9_tell_225 (lv_at hl 0 rfl) ?_
              refine lv_iconst (v := (4 : Int32)) hx hb dX9_tell_227 (by decide) ?_
              refine lv_iadd hx hb dX9_tell_228 ?_
              refine lv_iload hx hb dX9_tell_229 (lv_at hl 6 rfl) ?_
              obtain ⟨hi9, hf⟩ := pg_chk hf
              refine va_iast hx hb hK hP hD hS 7 0 rfl rfl hi9 dX9_tell_231 (fun H locs hP hD hS => ?_)
              have hP : va_P (dC, dI) vwCl (W_X9z cI cZ cII qz qz_text qz_t qz_draft qz_s qz_kept qz_isKept qz_times qz_w qz_at qz_pulled qz_best qz_cartRow qz_tryRow qz_pairs qz_from qz_then qz_tryAt (0 : Int32) z_typed z_next z_token z_place z_value z_figures z_fault z_faultAt z_timeMany z_eaten z_half z_bestMinutes z_bestOats z_isDue z_text z_t z_draft z_s z_kept z_isKept (upd (upd (upd (upd (upd z_times (((5 : Int32) * z_timeMany)).toNatClampNeg n1) ((((5 : Int32) * z_timeMany) + (1 : Int32))).toNatClampNeg n2) ((((5 : Int32) * z_timeMany) + (2 : Int32))).toNatClampNeg n3) ((((5 : Int32) * z_timeMany) + (3 : Int32))).toNatClampNeg n4) ((((5 : Int32) * z_timeMany) + (4 : Int32))).toNatClampNeg n5) z_w (upd (upd (upd z_at ((0 : Int32)).toNatClampNeg n1) ((1 : Int32)).toNatClampNeg n2) ((2 : Int32)).toNatClampNeg n3) z_pulled z_best z_cartRow z_tryRow z_pairs z_from z_then z_tryAt) H := hP
              have hD : va_D A (W_X9z cI cZ cII qz qz_text qz_t qz_draft qz_s qz_kept qz_isKept qz_times qz_w qz_at qz_pulled qz_best qz_cartRow qz_tryRow qz_pairs qz_from qz_then qz_tryAt (0 : Int32) z_typed z_next z_token z_place z_value z_figures z_fault z_faultAt z_timeMany z_eaten z_half z_bestMinutes z_bestOats z_isDue z_text z_t z_draft z_s z_kept z_isKept (upd (upd (upd (upd (upd z_times (((5 : Int32) * z_timeMany)).toNatClampNeg n1) ((((5 : Int32) * z_timeMany) + (1 : Int32))).toNatClampNeg n2) ((((5 : Int32) * z_timeMany) + (2 : Int32))).toNatClampNeg n3) ((((5 : Int32) * z_timeMany) + (3 : Int32))).toNatClampNeg n4) ((((5 : Int32) * z_timeMany) + (4 : Int32))).toNatClampNeg n5) z_w (upd (upd (upd z_at ((0 : Int32)).toNatClampNeg n1) ((1 : Int32)).toNatClampNeg n2) ((2 : Int32)).toNatClampNeg n3) z_pulled z_best z_cartRow z_tryRow z_pairs z_from z_then z_tryAt) := hD
              refine lv_aload_n hx hb dX9_tell_232 rfl (lv_at hl 1 rfl) ?_
              refine lv_dup hx hb dX9_tell_233 rfl ?_
              refine va_get (D := (dC, dI)) (ci := 9) (v := .int z_timeMany) (C := RX9) (T := TX9) (N := 32) hx hb hw inlX9 hown hK hP 0 rfl rfl 16 (by decide) (hw _ mw_7_2) (fun _ h9 => h9) rfl dX9_tell_234 ?_
              refine lv_iconst (v := (1 : Int32)) hx hb dX9_tell_237 (by decide) ?_
              refine lv_iadd hx hb dX9_tell_238 ?_
              refine va_put (D := (dC, dI)) (ci := 9) (v := .int (z_timeMany + (1 : Int32))) (ty := .int) (C := RX9) (T := TX9) (N := 32) hx hb hw inlX9 tyX9 tyX9_ok nmX9 hown hK hP hD hS 0 rfl rfl 16 (by decide) (hw _ mw_7_2) (fun _ h9 => h9) rfl (by decide +kernel) rfl rfl (Nat.le_of_ble_eq_true rfl) dX9_tell_239 (fun H locs hP hD hS => ?_)
              have hP : va_P (dC, dI) vwCl (W_X9z cI cZ cII qz qz_text qz_t qz_draft qz_s qz_kept qz_isKept qz_times qz_w qz_at qz_pulled qz_best qz_cartRow qz_tryRow qz_pairs qz_from qz_then qz_tryAt (0 : Int32) z_typed z_next z_token z_place z_value z_figures z_fault z_faultAt (z_timeMany + (1 : Int32)) z_eaten z_half z_bestMinutes z_bestOats z_isDue z_text z_t z_draft z_s z_kept z_isKept (upd (upd (upd (upd (upd z_times (((5 : Int32) * z_timeMany)).toNatClampNeg n1) ((((5 : Int32) * z_timeMany) + (1 : Int32))).toNatClampNeg n2) ((((5 : Int32) * z_timeMany) + (2 : Int32))).toNatClampNeg n3) ((((5 : Int32) * z_timeMany) + (3 : Int32))).toNatClampNeg n4) ((((5 : Int32) * z_timeMany) + (4 : Int32))).toNatClampNeg n5) z_w (upd (upd (upd z_at ((0 : Int32)).toNatClampNeg n1) ((1 : Int32)).toNatClampNeg n2) ((2 : Int32)).toNatClampNeg n3) z_pulled z_best z_cartRow z_tryRow z_pairs z_from z_then z_tryAt) H := hP
              have hD : va_D A (W_X9z cI cZ cII qz qz_text qz_t qz_draft qz_s qz_kept qz_isKept qz_times qz_w qz_at qz_pulled qz_best qz_cartRow qz_tryRow qz_pairs qz_from qz_then qz_tryAt (0 : Int32) z_typed z_next z_token z_place z_value z_figures z_fault z_faultAt (z_timeMany + (1 : Int32)) z_eaten z_half z_bestMinutes z_bestOats z_isDue z_text z_t z_draft z_s z_kept z_isKept (upd (upd (upd (upd (upd z_times (((5 : Int32) * z_timeMany)).toNatClampNeg n1) ((((5 : Int32) * z_timeMany) + (1 : Int32))).toNatClampNeg n2) ((((5 : Int32) * z_timeMany) + (2 : Int32))).toNatClampNeg n3) ((((5 : Int32) * z_timeMany) + (3 : Int32))).toNatClampNeg n4) ((((5 : Int32) * z_timeMany) + (4 : Int32))).toNatClampNeg n5) z_w (upd (upd (upd z_at ((0 : Int32)).toNatClampNeg n1) ((1 : Int32)).toNatClampNeg n2) ((2 : Int32)).toNatClampNeg n3) z_pulled z_best z_cartRow z_tryRow z_pairs z_from z_then z_tryAt) := hD
              refine lv_aload_n hx hb dX9_tell_242 rfl (lv_at hl 1 rfl) ?_
              refine va_get (D := (dC, dI)) (ci := 9) (v := .int (z_timeMany + (1 : Int32))) (C := RX9) (T := TX9) (N := 32) hx hb hw inlX9 hown hK hP 0 rfl rfl 16 (by decide) (hw _ mw_7_2) (fun _ h9 => h9) rfl dX9_tell_243 ?_
              exact RET _ _ _ _ _ _ _ _ _ dX9_tell_246 hP hD hS hf
            · have hf := pg_t h9 hf
              refine lv_ldc (v := (-1000000004 : Int32)) hx hb hown (hw _ mw_7_22) dX9_tell_171 ?_
              exact RET _ _ _ _ _ _ _ _ _ dX9_tell_173 hP hD hS hf
          refine lv_icmp_ne (tgt := 162) hx hb dX9_tell_146 (by decide) (fun h9 => ?_) (fun h9 => ?_)
          · have hf := pg_f h9 hf
            exact WJ162_4 _ _ _ _ hP hD hS (lv_sub hl [0, 1, 2, 3, 4, 5] rfl) hf
          · have hf := pg_t h9 hf
            refine lv_iload_n hx hb dX9_tell_149 rfl (lv_at hl 2 rfl) ?_
            refine lv_iconst (v := (-1 : Int32)) hx hb dX9_tell_150 (by decide) ?_
            refine lv_icmp_ne (tgt := 162) hx hb dX9_tell_151 (by decide) (fun h9 => ?_) (fun h9 => ?_)
            · have hf := pg_f h9 hf
              exact WJ162_4 _ _ _ _ hP hD hS (lv_sub hl [0, 1, 2, 3, 4, 5] rfl) hf
            · have hf := pg_t h9 hf
              refine lv_iload_n hx hb dX9_tell_154 rfl (lv_at hl 3 rfl) ?_
              refine lv_iconst (v := (-1 : Int32)) hx hb dX9_tell_155 (by decide) ?_
              refine lv_icmp_ne (tgt := 162) hx hb dX9_tell_156 (by decide) (fun h9 => ?_) (fun h9 => ?_)
              · have hf := pg_f h9 hf
                exact WJ162_4 _ _ _ _ hP hD hS (lv_sub hl [0, 1, 2, 3, 4, 5] rfl) hf
              · have hf := pg_t h9 hf
                refine lv_ldc (v := (-1000000003 : Int32)) hx hb hown (hw _ mw_27_13) dX9_tell_159 ?_
                exact RET _ _ _ _ _ _ _ _ _ dX9_tell_161 hP hD hS hf
        · have hf := pg_t h9 hf
          refine lv_ldc (v := (-1000000002 : Int32)) hx hb hown (hw _ mw_7_20) dX9_tell_141 ?_
          exact RET _ _ _ _ _ _ _ _ _ dX9_tell_143 hP hD hS hf
    · have hf := pg_t h9 hf
      refine lv_ldc (v := (-1000000001 : Int32)) hx hb hown (hw _ mw_25_12) dX9_tell_116 ?_
      exact RET _ _ _ _ _ _ _ _ _ dX9_tell_118 hP hD hS hf
  obtain ⟨B10, hB10, hf⟩ := lq2_n hf
  have WL10 : ∀ (n9 : Nat) (y6_10 : Int32) (y7_10 : Int32) (H : Heap) (locs : List Loc) (ls : Array Slot), va_P (dC, dI) vwCl (W_X9z cI cZ cII qz qz_text qz_t qz_draft qz_s qz_kept qz_isKept qz_times qz_w qz_at qz_pulled qz_best qz_cartRow qz_tryRow qz_pairs qz_from qz_then qz_tryAt (0 : Int32) z_typed z_next z_token z_place z_value z_figures z_fault z_faultAt z_timeMany z_eaten z_half z_bestMinutes z_bestOats z_isDue z_text z_t z_draft z_s z_kept z_isKept z_times z_w (upd (upd (upd z_at ((0 : Int32)).toNatClampNeg n1) ((1 : Int32)).toNatClampNeg n2) ((2 : Int32)).toNatClampNeg n3) z_pulled z_best z_cartRow z_tryRow z_pairs z_from z_then z_tryAt) H → va_D A (W_X9z cI cZ cII qz qz_text qz_t qz_draft qz_s qz_kept qz_isKept qz_times qz_w qz_at qz_pulled qz_best qz_cartRow qz_tryRow qz_pairs qz_from qz_then qz_tryAt (0 : Int32) z_typed z_next z_token z_place z_value z_figures z_fault z_faultAt z_timeMany z_eaten z_half z_bestMinutes z_bestOats z_isDue z_text z_t z_draft z_s z_kept z_isKept z_times z_w (upd (upd (upd z_at ((0 : Int32)).toNatClampNeg n1) ((1 : Int32)).toNatClampNeg n2) ((2 : Int32)).toNatClampNeg n3) z_pulled z_best z_cartRow z_tryRow z_pairs z_from z_then z_tryAt) → va_S A s.heap H locs → lv_has ls 8 [(0, .ref qz), (1, .int n1), (2, .int n2), (3, .int n3), (4, .int n4), (5, .int n5), (6, .int y6_10), (7, .int y7_10)] → lq2 B10 n9 y6_10 y7_10 = some (rr, z_thrown', z_timeMany', z_times', z_at') → W p l e rm_X9_tell s m args below meth c H locs 0 0 Q (F0 m 32 ls []) := by
    intro n9
    induction n9 with
    | zero => intro y6_10 y7_10 H locs ls hP hD hS hl hf; cases hf
    | succ n9 ih =>
      intro y6_10 y7_10 H locs ls hP hD hS hl hf
      obtain ⟨rec10, hrec10, hf⟩ := lq2_s hf
      have hf := hB10 rec10 _ _ hf
      refine lv_iload hx hb dX9_tell_32 (lv_at hl 7 rfl) ?_
      refine lv_iconst (v := (3 : Int32)) hx hb dX9_tell_34 (by decide) ?_
      refine lv_icmp_ge (tgt := 111) hx hb dX9_tell_35 (by decide) (fun h9 => ?_) (fun h9 => ?_)
      · have hf := pg_t h9 hf
        exact WK111_1 _ _ _ _ hP hD hS (lv_sub hl [0, 1, 2, 3, 4, 5, 6] rfl) hf
      · have hf := pg_f h9 hf
        refine lv_iload hx hb dX9_tell_38 (lv_at hl 6 rfl) ?_
        obtain ⟨J103_11, hJ103_11, hf⟩ := jn1_s hf
        have WJ103_11 : ∀ (z0_11 : Int32) (H : Heap) (locs : List Loc) (ls : Array Slot), va_P (dC, dI) vwCl (W_X9z cI cZ cII qz qz_text qz_t qz_draft qz_s qz_kept qz_isKept qz_times qz_w qz_at qz_pulled qz_best qz_cartRow qz_tryRow qz_pairs qz_from qz_then qz_tryAt (0 : Int32) z_typed z_next z_token z_place z_value z_figures z_fault z_faultAt z_timeMany z_eaten z_half z_bestMinutes z_bestOats z_isDue z_text z_t z_draft z_s z_kept z_isKept z_times z_w (upd (upd (upd z_at ((0 : Int32)).toNatClampNeg n1) ((1 : Int32)).toNatClampNeg n2) ((2 : Int32)).toNatClampNeg n3) z_pulled z_best z_cartRow z_tryRow z_pairs z_from z_then z_tryAt) H → va_D A (W_X9z cI cZ cII qz qz_text qz_t qz_draft qz_s qz_kept qz_isKept qz_times qz_w qz_at qz_pulled qz_best qz_cartRow qz_tryRow qz_pairs qz_from qz_then qz_tryAt (0 : Int32) z_typed z_next z_token z_place z_value z_figures z_fault z_faultAt z_timeMany z_eaten z_half z_bestMinutes z_bestOats z_isDue z_text z_t z_draft z_s z_kept z_isKept z_times z_w (upd (upd (upd z_at ((0 : Int32)).toNatClampNeg n1) ((1 : Int32)).toNatClampNeg n2) ((2 : Int32)).toNatClampNeg n3) z_pulled z_best z_cartRow z_tryRow z_pairs z_from z_then z_tryAt) → va_S A s.heap H locs → lv_has ls 8 [(0, .ref qz), (1, .int n1), (2, .int n2), (3, .int n3), (4, .int n4), (5, .int n5), (7, .int y7_10)] → J103_11 z0_11 = some (rr, z_thrown', z_timeMany', z_times', z_at') → W p l e rm_X9_tell s m args below meth c H locs 0 0 Q (F0 m 103 ls [.int z0_11]) := by
          intro z0_11 H locs ls hP hD hS hl hf
          have hf := hJ103_11 _ hf
          refine lv_istore (lv' := [(6, .int z0_11), (0, .ref qz), (1, .int n1), (2, .int n2), (3, .int n3), (4, .int n4), (5, .int n5), (7, .int y7_10)]) hx hb dX9_tell_103 hl (by decide) rfl (fun ls hl => ?_)
          refine lv_iinc (v := (y7_10 + (1 : Int32))) (lv' := [(7, .int (y7_10 + (1 : Int32))), (6, .int z0_11), (0, .ref qz), (1, .int n1), (2, .int n2), (3, .int n3), (4, .int n4), (5, .int n5)]) hx hb dX9_tell_105 hl (k := 7) rfl rfl (by decide) rfl (fun ls hl => ?_)
          refine lv_goto (tgt := 32) hx hb dX9_tell_108 (by decide) ?_
          exact ih _ _ _ _ _ hP hD hS (lv_sub hl [2, 3, 4, 5, 6, 7, 1, 0] rfl) (hrec10 _ _ hf)
        obtain ⟨J102_12, hJ102_12, hf⟩ := jn1_s hf
        have WJ102_12 : ∀ (u_12 : Unit) (H : Heap) (locs : List Loc) (ls : Array Slot), va_P (dC, dI) vwCl (W_X9z cI cZ cII qz qz_text qz_t qz_draft qz_s qz_kept qz_isKept qz_times qz_w qz_at qz_pulled qz_best qz_cartRow qz_tryRow qz_pairs qz_from qz_then qz_tryAt (0 : Int32) z_typed z_next z_token z_place z_value z_figures z_fault z_faultAt z_timeMany z_eaten z_half z_bestMinutes z_bestOats z_isDue z_text z_t z_draft z_s z_kept z_isKept z_times z_w (upd (upd (upd z_at ((0 : Int32)).toNatClampNeg n1) ((1 : Int32)).toNatClampNeg n2) ((2 : Int32)).toNatClampNeg n3) z_pulled z_best z_cartRow z_tryRow z_pairs z_from z_then z_tryAt) H → va_D A (W_X9z cI cZ cII qz qz_text qz_t qz_draft qz_s qz_kept qz_isKept qz_times qz_w qz_at qz_pulled qz_best qz_cartRow qz_tryRow qz_pairs qz_from qz_then qz_tryAt (0 : Int32) z_typed z_next z_token z_place z_value z_figures z_fault z_faultAt z_timeMany z_eaten z_half z_bestMinutes z_bestOats z_isDue z_text z_t z_draft z_s z_kept z_isKept z_times z_w (upd (upd (upd z_at ((0 : Int32)).toNatClampNeg n1) ((1 : Int32)).toNatClampNeg n2) ((2 : Int32)).toNatClampNeg n3) z_pulled z_best z_cartRow z_tryRow z_pairs z_from z_then z_tryAt) → va_S A s.heap H locs → lv_has ls 8 [(0, .ref qz), (1, .int n1), (2, .int n2), (3, .int n3), (4, .int n4), (5, .int n5), (7, .int y7_10)] → J102_12 u_12 = some (rr, z_thrown', z_timeMany', z_times', z_at') → W p l e rm_X9_tell s m args below meth c H locs 0 0 Q (F0 m 102 ls []) := by
          intro u_12 H locs ls hP hD hS hl hf
          have hf := hJ102_12 _ hf
          refine lv_iconst (v := (0 : Int32)) hx hb dX9_tell_102 (by decide) ?_
          exact WJ103_11 _ _ _ _ hP hD hS hl hf
        refine lv_if_eq (tgt := 102) hx hb dX9_tell_40 (by decide) (fun h9 => ?_) (fun h9 => ?_)
        · have hf := pg_t h9 hf
          exact WJ102_12 _ _ _ _ hP hD hS (lv_sub hl [0, 1, 2, 3, 4, 5, 7] rfl) hf
        · have hf := pg_f h9 hf
          refine lv_aload_n hx hb dX9_tell_43 rfl (lv_at hl 0 rfl) ?_
          refine va_get (D := (dC, dI)) (ci := 9) (v := .ref qz_at) (C := RX9) (T := TX9) (N := 32) hx hb hw inlX9 hown hK hP 0 rfl rfl 18 (by decide) (hw _ mw_6_9) (fun _ h9 => h9) rfl dX9_tell_44 ?_
          refine lv_iload hx hb dX9_tell_47 (lv_at hl 7 rfl) ?_
          obtain ⟨hi13, hf⟩ := pg_chk hf
          refine va_iald hx hb hK hP 9 0 rfl rfl hi13 dX9_tell_49 ?_
          refine lv_iconst (v := (-1 : Int32)) hx hb dX9_tell_50 (by decide) ?_
          obtain ⟨J98_14, hJ98_14, hf⟩ := jn1_s hf
          have WJ98_14 : ∀ (u_14 : Unit) (H : Heap) (locs : List Loc) (ls : Array Slot), va_P (dC, dI) vwCl (W_X9z cI cZ cII qz qz_text qz_t qz_draft qz_s qz_kept qz_isKept qz_times qz_w qz_at qz_pulled qz_best qz_cartRow qz_tryRow qz_pairs qz_from qz_then qz_tryAt (0 : Int32) z_typed z_next z_token z_place z_value z_figures z_fault z_faultAt z_timeMany z_eaten z_half z_bestMinutes z_bestOats z_isDue z_text z_t z_draft z_s z_kept z_isKept z_times z_w (upd (upd (upd z_at ((0 : Int32)).toNatClampNeg n1) ((1 : Int32)).toNatClampNeg n2) ((2 : Int32)).toNatClampNeg n3) z_pulled z_best z_cartRow z_tryRow z_pairs z_from z_then z_tryAt) H → va_D A (W_X9z cI cZ cII qz qz_text qz_t qz_draft qz_s qz_kept qz_isKept qz_times qz_w qz_at qz_pulled qz_best qz_cartRow qz_tryRow qz_pairs qz_from qz_then qz_tryAt (0 : Int32) z_typed z_next z_token z_place z_value z_figures z_fault z_faultAt z_timeMany z_eaten z_half z_bestMinutes z_bestOats z_isDue z_text z_t z_draft z_s z_kept z_isKept z_times z_w (upd (upd (upd z_at ((0 : Int32)).toNatClampNeg n1) ((1 : Int32)).toNatClampNeg n2) ((2 : Int32)).toNatClampNeg n3) z_pulled z_best z_cartRow z_tryRow z_pairs z_from z_then z_tryAt) → va_S A s.heap H locs → lv_has ls 8 [(0, .ref qz), (1, .int n1), (2, .int n2), (3, .int n3), (4, .int n4), (5, .int n5), (7, .int y7_10)] → J98_14 u_14 = some (rr, z_thrown', z_timeMany', z_times', z_at') → W p l e rm_X9_tell s m args below meth c H locs 0 0 Q (F0 m 98 ls []) := by
            intro u_14 H locs ls hP hD hS hl hf
            have hf := hJ98_14 _ hf
            refine lv_iconst (v := (1 : Int32)) hx hb dX9_tell_98 (by decide) ?_
            refine lv_goto (tgt := 103) hx hb dX9_tell_99 (by decide) ?_
            exact WJ103_11 _ _ _ _ hP hD hS hl hf
          refine lv_icmp_eq (tgt := 98) hx hb dX9_tell_51 (by decide) (fun h9 => ?_) (fun h9 => ?_)
          · have hf := pg_t h9 hf
            exact WJ98_14 _ _ _ _ hP hD hS (lv_sub hl [0, 1, 2, 3, 4, 5, 7] rfl) hf
          · have hf := pg_f h9 hf
            refine lv_aload_n hx hb dX9_tell_54 rfl (lv_at hl 0 rfl) ?_
            refine lv_iload hx hb dX9_tell_55 (lv_at hl 7 rfl) ?_
            obtain ⟨r_15, hc, hf⟩ := bn1_s hf
            refine pg_cVi (As := [.int y7_10]) (rest := []) (wf := (W_X9z cI cZ cII qz qz_text qz_t qz_draft qz_s qz_kept qz_isKept qz_times qz_w qz_at qz_pulled qz_best qz_cartRow qz_tryRow qz_pairs qz_from qz_then qz_tryAt (0 : Int32) z_typed z_next z_token z_place z_value z_figures z_fault z_faultAt z_timeMany z_eaten z_half z_bestMinutes z_bestOats z_isDue z_text z_t z_draft z_s z_kept z_isKept z_times z_w (upd (upd (upd z_at ((0 : Int32)).toNatClampNeg n1) ((1 : Int32)).toNatClampNeg n2) ((2 : Int32)).toNatClampNeg n3) z_pulled z_best z_cartRow z_tryRow z_pairs z_from z_then z_tryAt)) ⟨hx, hb, hml, hown, hw⟩ (c_X9_isPlace l dC dI cI cZ cII qz qz_text qz_t qz_draft qz_s qz_kept qz_isKept qz_times qz_w qz_at qz_pulled qz_best qz_cartRow qz_tryRow qz_pairs qz_from qz_then qz_tryAt H.size (0 : Int32) z_typed z_next z_token z_place z_value z_figures z_fault z_faultAt z_timeMany z_eaten z_half z_bestMinutes z_bestOats z_isDue z_text z_t z_draft z_s z_kept z_isKept z_times z_w (upd (upd (upd z_at ((0 : Int32)).toNatClampNeg n1) ((1 : Int32)).toNatClampNeg n2) ((2 : Int32)).toNatClampNeg n3) z_pulled z_best z_cartRow z_tryRow z_pairs z_from z_then z_tryAt y7_10 r_15 hc) (cwV 1 hts (wM_V mw_27_14 mw_27_15 mw_27_16 mw_1_5 mw_27_17) rfl rfl rfl dk_X9_isPlace ⟨Nat.le_of_ble_eq_true rfl, Nat.le_of_ble_eq_true rfl⟩) hK hP hD hS hA 9 0 rfl rfl rfl [0, 1, 2, 3, 4, 5, 6, 7, 8, 9, 10, 11, 12, 13, 14, 15, 16, 17] [] [0, 1, 2, 3, 4, 5, 6, 7, 8, 9, 10, 11, 12, 13, 14, 15, 16, 17] (plC_64 cI cZ cII qz qz_text qz_t qz_draft qz_s qz_kept qz_isKept qz_times qz_w qz_at qz_pulled qz_best qz_cartRow qz_tryRow qz_pairs qz_from qz_then qz_tryAt (0 : Int32) z_typed z_next z_token z_place z_value z_figures z_fault z_faultAt z_timeMany z_eaten z_half z_bestMinutes z_bestOats z_isDue z_text z_t z_draft z_s z_kept z_isKept z_times z_w (upd (upd (upd z_at ((0 : Int32)).toNatClampNeg n1) ((1 : Int32)).toNatClampNeg n2) ((2 : Int32)).toNatClampNeg n3) z_pulled z_best z_cartRow z_tryRow z_pairs z_from z_then z_tryAt) rfl (plF_64 cI cZ cII qz qz_text qz_t qz_draft qz_s qz_kept qz_isKept qz_times qz_w qz_at qz_pulled qz_best qz_cartRow qz_tryRow qz_pairs qz_from qz_then qz_tryAt (0 : Int32) z_typed z_next z_token z_place z_value z_figures z_fault z_faultAt z_timeMany z_eaten z_half z_bestMinutes z_bestOats z_isDue z_text z_t z_draft z_s z_kept z_isKept z_times z_w (upd (upd (upd z_at ((0 : Int32)).toNatClampNeg n1) ((1 : Int32)).toNatClampNeg n2) ((2 : Int32)).toNatClampNeg n3) z_pulled z_best z_cartRow z_tryRow z_pairs z_from z_then z_tryAt (0 : Int32) z_typed z_next z_token z_place z_value z_figures z_fault z_faultAt z_timeMany z_eaten z_half z_bestMinutes z_bestOats z_isDue z_text z_t z_draft z_s z_kept z_isKept z_times z_w (upd (upd (upd z_at ((0 : Int32)).toNatClampNeg n1) ((1 : Int32)).toNatClampNeg n2) ((2 : Int32)).toNatClampNeg n3) z_pulled z_best z_cartRow z_tryRow z_pairs z_from z_then z_tryAt) (by decide) rfl hl.1 rfl (Nat.le_of_ble_eq_true rfl) dX9_tell_57 ⟨Nat.zero_le _, Nat.zero_le _⟩ (fun H locs hP hD hS => ?_)
            refine lv_if_eq (tgt := 102) hx hb dX9_tell_60 (by decide) (fun h9 => ?_) (fun h9 => ?_)
            · have hf := pg_t h9 hf
              exact WJ102_12 _ _ _ _ hP hD hS (lv_sub hl [0, 1, 2, 3, 4, 5, 7] rfl) hf
            · have hf := pg_f h9 hf
              refine lv_aload_n hx hb dX9_tell_63 rfl (lv_at hl 0 rfl) ?_
              refine lv_aload_n hx hb dX9_tell_64 rfl (lv_at hl 0 rfl) ?_
              refine va_get (D := (dC, dI)) (ci := 9) (v := .ref qz_at) (C := RX9) (T := TX9) (N := 32) hx hb hw inlX9 hown hK hP 0 rfl rfl 18 (by decide) (hw _ mw_6_9) (fun _ h9 => h9) rfl dX9_tell_65 ?_
              refine lv_iload hx hb dX9_tell_68 (lv_at hl 7 rfl) ?_
              refine va_iald hx hb hK hP 9 0 rfl rfl hi13 dX9_tell_70 ?_
              obtain ⟨r_16, hc, hf⟩ := bn1_s hf
              refine pg_cVi (As := [.int ((upd (upd (upd z_at ((0 : Int32)).toNatClampNeg n1) ((1 : Int32)).toNatClampNeg n2) ((2 : Int32)).toNatClampNeg n3) (y7_10).toNatClampNeg)]) (rest := []) (wf := (W_X9z cI cZ cII qz qz_text qz_t qz_draft qz_s qz_kept qz_isKept qz_times qz_w qz_at qz_pulled qz_best qz_cartRow qz_tryRow qz_pairs qz_from qz_then qz_tryAt (0 : Int32) z_typed z_next z_token z_place z_value z_figures z_fault z_faultAt z_timeMany z_eaten z_half z_bestMinutes z_bestOats z_isDue z_text z_t z_draft z_s z_kept z_isKept z_times z_w (upd (upd (upd z_at ((0 : Int32)).toNatClampNeg n1) ((1 : Int32)).toNatClampNeg n2) ((2 : Int32)).toNatClampNeg n3) z_pulled z_best z_cartRow z_tryRow z_pairs z_from z_then z_tryAt)) ⟨hx, hb, hml, hown, hw⟩ (c_X9_isHorse l dC dI cI cZ cII qz qz_text qz_t qz_draft qz_s qz_kept qz_isKept qz_times qz_w qz_at qz_pulled qz_best qz_cartRow qz_tryRow qz_pairs qz_from qz_then qz_tryAt H.size (0 : Int32) z_typed z_next z_token z_place z_value z_figures z_fault z_faultAt z_timeMany z_eaten z_half z_bestMinutes z_bestOats z_isDue z_text z_t z_draft z_s z_kept z_isKept z_times z_w (upd (upd (upd z_at ((0 : Int32)).toNatClampNeg n1) ((1 : Int32)).toNatClampNeg n2) ((2 : Int32)).toNatClampNeg n3) z_pulled z_best z_cartRow z_tryRow z_pairs z_from z_then z_tryAt ((upd (upd (upd z_at ((0 : Int32)).toNatClampNeg n1) ((1 : Int32)).toNatClampNeg n2) ((2 : Int32)).toNatClampNeg n3) (y7_10).toNatClampNeg) r_16 hc) (cwV 1 hts (wM_V mw_25_13 mw_25_14 mw_25_15 mw_1_5 mw_25_16) rfl rfl rfl dk_X9_isHorse ⟨Nat.le_of_ble_eq_true rfl, Nat.le_of_ble_eq_true rfl⟩) hK hP hD hS hA 9 0 rfl rfl rfl [0, 1, 2, 3, 4, 5, 6, 7, 8, 9, 10, 11, 12, 13, 14, 15, 16, 17] [] [0, 1, 2, 3, 4, 5, 6, 7, 8, 9, 10, 11, 12, 13, 14, 15, 16, 17] (plC_64 cI cZ cII qz qz_text qz_t qz_draft qz_s qz_kept qz_isKept qz_times qz_w qz_at qz_pulled qz_best qz_cartRow qz_tryRow qz_pairs qz_from qz_then qz_tryAt (0 : Int32) z_typed z_next z_token z_place z_value z_figures z_fault z_faultAt z_timeMany z_eaten z_half z_bestMinutes z_bestOats z_isDue z_text z_t z_draft z_s z_kept z_isKept z_times z_w (upd (upd (upd z_at ((0 : Int32)).toNatClampNeg n1) ((1 : Int32)).toNatClampNeg n2) ((2 : Int32)).toNatClampNeg n3) z_pulled z_best z_cartRow z_tryRow z_pairs z_from z_then z_tryAt) rfl (plF_64 cI cZ cII qz qz_text qz_t qz_draft qz_s qz_kept qz_isKept qz_times qz_w qz_at qz_pulled qz_best qz_cartRow qz_tryRow qz_pairs qz_from qz_then qz_tryAt (0 : Int32) z_typed z_next z_token z_place z_value z_figures z_fault z_faultAt z_timeMany z_eaten z_half z_bestMinutes z_bestOats z_isDue z_text z_t z_draft z_s z_kept z_isKept z_times z_w (upd (upd (upd z_at ((0 : Int32)).toNatClampNeg n1) ((1 : Int32)).toNatClampNeg n2) ((2 : Int32)).toNatClampNeg n3) z_pulled z_best z_cartRow z_tryRow z_pairs z_from z_then z_tryAt (0 : Int32) z_typed z_next z_token z_place z_value z_figures z_fault z_faultAt z_timeMany z_eaten z_half z_bestMinutes z_bestOats z_isDue z_text z_t z_draft z_s z_kept z_isKept z_times z_w (upd (upd (upd z_at ((0 : Int32)).toNatClampNeg n1) ((1 : Int32)).toNatClampNeg n2) ((2 : Int32)).toNatClampNeg n3) z_pulled z_best z_cartRow z_tryRow z_pairs z_from z_then z_tryAt) (by decide) rfl hl.1 rfl (Nat.le_of_ble_eq_true rfl) dX9_tell_71 ⟨Nat.zero_le _, Nat.zero_le _⟩ (fun H locs hP hD hS => ?_)
              refine lv_if_eq (tgt := 102) hx hb dX9_tell_74 (by decide) (fun h9 => ?_) (fun h9 => ?_)
              · have hf := pg_t h9 hf
                exact WJ102_12 _ _ _ _ hP hD hS (lv_sub hl [0, 1, 2, 3, 4, 5, 7] rfl) hf
              · have hf := pg_f h9 hf
                refine lv_aload_n hx hb dX9_tell_77 rfl (lv_at hl 0 rfl) ?_
                refine va_get (D := (dC, dI)) (ci := 9) (v := .ref qz_at) (C := RX9) (T := TX9) (N := 32) hx hb hw inlX9 hown hK hP 0 rfl rfl 18 (by decide) (hw _ mw_6_9) (fun _ h9 => h9) rfl dX9_tell_78 ?_
                refine lv_iload hx hb dX9_tell_81 (lv_at hl 7 rfl) ?_
                refine va_iald hx hb hK hP 9 0 rfl rfl hi13 dX9_tell_83 ?_
                refine lv_aload_n hx hb dX9_tell_84 rfl (lv_at hl 0 rfl) ?_
                refine va_get (D := (dC, dI)) (ci := 9) (v := .ref qz_at) (C := RX9) (T := TX9) (N := 32) hx hb hw inlX9 hown hK hP 0 rfl rfl 18 (by decide) (hw _ mw_6_9) (fun _ h9 => h9) rfl dX9_tell_85 ?_
                refine lv_iload hx hb dX9_tell_88 (lv_at hl 7 rfl) ?_
                refine lv_iconst (v := (1 : Int32)) hx hb dX9_tell_90 (by decide) ?_
                refine lv_iadd hx hb dX9_tell_91 ?_
                refine lv_iconst (v := (3 : Int32)) hx hb dX9_tell_92 (by decide) ?_
                refine lv_irem hx hb dX9_tell_93 (by decide) ?_
                obtain ⟨hi17, hf⟩ := pg_chk hf
                refine va_iald hx hb hK hP 9 0 rfl rfl hi17 dX9_tell_94 ?_
                refine lv_icmp_eq (tgt := 102) hx hb dX9_tell_95 (by decide) (fun h9 => ?_) (fun h9 => ?_)
                · have hf := pg_t h9 hf
                  exact WJ102_12 _ _ _ _ hP hD hS (lv_sub hl [0, 1, 2, 3, 4, 5, 7] rfl) hf
                · have hf := pg_f h9 hf
                  exact WJ98_14 _ _ _ _ hP hD hS (lv_sub hl [0, 1, 2, 3, 4, 5, 7] rfl) hf
  exact WL10 fu _ _ _ _ _ hP hD hS (lv_sub hl [2, 3, 4, 5, 6, 7, 1, 0] rfl) hf
def f_X9_tear (z_thrown : Int32) (z_timeMany : Int32) : Option (Int32 × Int32 × Int32) :=
  some (z_timeMany, (0 : Int32), (0 : Int32))
abbrev rm_X9_tear : Room := { frames := 0, cells := 0, slots := 0, locals := 0 }
theorem dk_X9_tear : yX9_tear.cls = RX9 ∧ yX9_tear.cls ≠ "java/lang/invoke/MethodHandle" ∧ yX9_tear.cls ≠ "java/lang/invoke/VarHandle" ∧ (parseMethodDescriptor yX9_tear.desc).map (fun d => d.parameters.length) = some 0 := by decide +kernel
set_option maxHeartbeats 4000000 in
set_option maxRecDepth 100000 in
theorem c_X9_tear (l : Launch) (dC : Nat → ClassId) (dI : Nat → Nat → Nat) (cI cZ cII : ClassId) (qz qz_text qz_t qz_draft qz_s qz_kept qz_isKept qz_times qz_w qz_at qz_pulled qz_best qz_cartRow qz_tryRow qz_pairs qz_from qz_then qz_tryAt : Nat) (sz : Nat) (z_thrown : Int32) (z_typed : Int32) (z_next : Int32) (z_token : Int32) (z_place : Int32) (z_value : Int32) (z_figures : Int32) (z_fault : Int32) (z_faultAt : Int32) (z_timeMany : Int32) (z_eaten : Int32) (z_half : Int32) (z_bestMinutes : Int32) (z_bestOats : Int32) (z_isDue : Int32) (z_text : Nat → Int32) (z_t : Nat → Int32) (z_draft : Nat → Int32) (z_s : Nat → Int32) (z_kept : Nat → Int32) (z_isKept : Nat → Int32) (z_times : Nat → Int32) (z_w : Nat → Int32) (z_at : Nat → Int32) (z_pulled : Nat → Int32) (z_best : Nat → Int32) (z_cartRow : Nat → Int32) (z_tryRow : Nat → Int32) (z_pairs : Nat → Int32) (z_from : Nat → Int32) (z_then : Nat → Int32) (z_tryAt : Nat → Int32) (rr : Int32) (z_thrown' : Int32) (z_timeMany' : Int32) (hf : f_X9_tear z_thrown z_timeMany = some (rr, z_thrown', z_timeMany')) : Met l yX9_tear (wM yX9_tear cX9_tear 2 (some .int)) rm_X9_tear (PreW (dC, dI) (tyA cI cZ cII) (W_X9z cI cZ cII qz qz_text qz_t qz_draft qz_s qz_kept qz_isKept qz_times qz_w qz_at qz_pulled qz_best qz_cartRow qz_tryRow qz_pairs qz_from qz_then qz_tryAt z_thrown z_typed z_next z_token z_place z_value z_figures z_fault z_faultAt z_timeMany z_eaten z_half z_bestMinutes z_bestOats z_isDue z_text z_t z_draft z_s z_kept z_isKept z_times z_w z_at z_pulled z_best z_cartRow z_tryRow z_pairs z_from z_then z_tryAt) sz [.ref qz]) (PostI (dC, dI) (tyA cI cZ cII) rr (W_X9z cI cZ cII qz qz_text qz_t qz_draft qz_s qz_kept qz_isKept qz_times qz_w qz_at qz_pulled qz_best qz_cartRow qz_tryRow qz_pairs qz_from qz_then qz_tryAt z_thrown z_typed z_next z_token z_place z_value z_figures z_fault z_faultAt z_timeMany z_eaten z_half z_bestMinutes z_bestOats z_isDue z_text z_t z_draft z_s z_kept z_isKept z_times z_w z_at z_pulled z_best z_cartRow z_tryRow z_pairs z_from z_then z_tryAt) (W_X9z cI cZ cII qz qz_text qz_t qz_draft qz_s qz_kept qz_isKept qz_times qz_w qz_at qz_pulled qz_best qz_cartRow qz_tryRow qz_pairs qz_from qz_then qz_tryAt z_thrown' z_typed z_next z_token z_place z_value z_figures z_fault z_faultAt z_timeMany' z_eaten z_half z_bestMinutes z_bestOats z_isDue z_text z_t z_draft z_s z_kept z_isKept z_times z_w z_at z_pulled z_best z_cartRow z_tryRow z_pairs z_from z_then z_tryAt) sz) 0 0 (va_A (W_X9z cI cZ cII qz qz_text qz_t qz_draft qz_s qz_kept qz_isKept qz_times qz_w qz_at qz_pulled qz_best qz_cartRow qz_tryRow qz_pairs qz_from qz_then qz_tryAt z_thrown z_typed z_next z_token z_place z_value z_figures z_fault z_faultAt z_timeMany z_eaten z_half z_bestMinutes z_bestOats z_isDue z_text z_t z_draft z_s z_kept z_isKept z_times z_w z_at z_pulled z_best z_cartRow z_tryRow z_pairs z_from z_then z_tryAt) sz) := by
  refine Met.ofW (cc := cX9_tear) (maxL := 2) (ret := (some .int)) (by decide) rfl ?_
  intro p e s m args below meth c s₁ B hml hv
  obtain ⟨rfl, hsz, hP, hK, hD0⟩ := hv
  have hx := B.exec
  have hb := B.bytes
  have hr := B.returns
  have hts := atoms_spec (ws := wM yX9_tear cX9_tear 2 (some .int)) B.pre
  have hown : s.vm.findClass RX9 = some m.cls := findClass_of_methodNamed B.named
  have hlocks := B.notSynchronized
  subst hsz
  have hD := hD0.self (sz := s.heap.size)
  obtain ⟨A, hAe⟩ : ∃ A, A = va_A (W_X9z cI cZ cII qz qz_text qz_t qz_draft qz_s qz_kept qz_isKept qz_times qz_w qz_at qz_pulled qz_best qz_cartRow qz_tryRow qz_pairs qz_from qz_then qz_tryAt z_thrown z_typed z_next z_token z_place z_value z_figures z_fault z_faultAt z_timeMany z_eaten z_half z_bestMinutes z_bestOats z_isDue z_text z_t z_draft z_s z_kept z_isKept z_times z_w z_at z_pulled z_best z_cartRow z_tryRow z_pairs z_from z_then z_tryAt) s.heap.size := ⟨_, rfl⟩
  rw [← hAe] at hD
  have hA : ∀ q : Nat, s.heap.size ≤ q → A q := fun q h => by rw [hAe]; exact Or.inr h
  have hS : va_S A s.heap s.heap [] := va_S.rf
  have hl := lv_entry ([.ref qz]) (n := 2) (Nat.le_of_ble_eq_true rfl)
  rw [lg_entry_eq]
  generalize (lg_sl ([.ref qz]) ++ List.replicate (2 - (lg_sl ([.ref qz])).length) Slot.unset).toArray = ls at hl ⊢
  have hl : lv_has ls 2 [(0, .ref qz)] := hl
  generalize ([.ref qz] : List Value).toArray = args at hts ⊢
  have hw : ∀ w ∈ wsL_law, w.before args s = true := fun w h => hts w (List.mem_cons_of_mem _ h)
  refine pg_start (fun Q hQ => ?_)
  have RET : ∀ (H : Heap) (locs : List Loc) (ls : Array Slot) (pc : Nat) (v : Int32) (x0 : Int32) (x1 : Int32) , decode cX9_tear pc = .ok (.ireturn, 1) → va_P (dC, dI) vwCl (W_X9z cI cZ cII qz qz_text qz_t qz_draft qz_s qz_kept qz_isKept qz_times qz_w qz_at qz_pulled qz_best qz_cartRow qz_tryRow qz_pairs qz_from qz_then qz_tryAt x0 z_typed z_next z_token z_place z_value z_figures z_fault z_faultAt x1 z_eaten z_half z_bestMinutes z_bestOats z_isDue z_text z_t z_draft z_s z_kept z_isKept z_times z_w z_at z_pulled z_best z_cartRow z_tryRow z_pairs z_from z_then z_tryAt) H → va_D A (W_X9z cI cZ cII qz qz_text qz_t qz_draft qz_s qz_kept qz_isKept qz_times qz_w qz_at qz_pulled qz_best qz_cartRow qz_tryRow qz_pairs qz_from qz_then qz_tryAt x0 z_typed z_next z_token z_place z_value z_figures z_fault z_faultAt x1 z_eaten z_half z_bestMinutes z_bestOats z_isDue z_text z_t z_draft z_s z_kept z_isKept z_times z_w z_at z_pulled z_best z_cartRow z_tryRow z_pairs z_from z_then z_tryAt) → va_S A s.heap H locs → (some (v, x0, x1) : Option (Int32 × Int32 × Int32)) = some (rr, z_thrown', z_timeMany') → W p l e rm_X9_tear s m args below meth c H locs 0 0 Q (F0 m pc ls [.int v]) := by
    intro H locs ls pc v x0 x1 hd hP hD hS he
    subst hAe; subst hQ
    simp only [Option.some.injEq, Prod.mk.injEq] at he
    obtain ⟨rfl, rfl, rfl⟩ := he
    exact pg_iret hx hb hr hlocks hK hP hD hS hd
  unfold f_X9_tear at hf
  refine lv_aload_n hx hb dX9_tear_0 rfl (lv_at hl 0 rfl) ?_
  refine lv_iconst (v := (0 : Int32)) hx hb dX9_tear_1 (by decide) ?_
  refine va_put (D := (dC, dI)) (ci := 9) (v := .int (0 : Int32)) (ty := .int) (C := RX9) (T := TX9) (N := 32) hx hb hw inlX9 tyX9 tyX9_ok nmX9 hown hK hP hD hS 0 rfl rfl 0 (by decide) (hw _ mw_7_19) (fun _ h9 => h9) rfl (by decide +kernel) rfl rfl (Nat.le_of_ble_eq_true rfl) dX9_tear_2 (fun H locs hP hD hS => ?_)
  have hP : va_P (dC, dI) vwCl (W_X9z cI cZ cII qz qz_text qz_t qz_draft qz_s qz_kept qz_isKept qz_times qz_w qz_at qz_pulled qz_best qz_cartRow qz_tryRow qz_pairs qz_from qz_then qz_tryAt (0 : Int32) z_typed z_next z_token z_place z_value z_figures z_fault z_faultAt z_timeMany z_eaten z_half z_bestMinutes z_bestOats z_isDue z_text z_t z_draft z_s z_kept z_isKept z_times z_w z_at z_pulled z_best z_cartRow z_tryRow z_pairs z_from z_then z_tryAt) H := hP
  have hD : va_D A (W_X9z cI cZ cII qz qz_text qz_t qz_draft qz_s qz_kept qz_isKept qz_times qz_w qz_at qz_pulled qz_best qz_cartRow qz_tryRow qz_pairs qz_from qz_then qz_tryAt (0 : Int32) z_typed z_next z_token z_place z_value z_figures z_fault z_faultAt z_timeMany z_eaten z_half z_bestMinutes z_bestOats z_isDue z_text z_t z_draft z_s z_kept z_isKept z_times z_w z_at z_pulled z_best z_cartRow z_tryRow z_pairs z_from z_then z_tryAt) := hD
  refine lv_aload_n hx hb dX9_tear_5 rfl (lv_at hl 0 rfl) ?_
  refine va_get (D := (dC, dI)) (ci := 9) (v := .int z_timeMany) (C := RX9) (T := TX9) (N := 32) hx hb hw inlX9 hown hK hP 0 rfl rfl 16 (by decide) (hw _ mw_7_2) (fun _ h9 => h9) rfl dX9_tear_6 ?_
  refine lv_istore_n (lv' := [(1, .int z_timeMany), (0, .ref qz)]) hx hb dX9_tear_9 rfl hl (by decide) rfl (fun ls hl => ?_)
  refine lv_aload_n hx hb dX9_tear_10 rfl (lv_at hl 1 rfl) ?_
  refine lv_iconst (v := (0 : Int32)) hx hb dX9_tear_11 (by decide) ?_
  refine va_put (D := (dC, dI)) (ci := 9) (v := .int (0 : Int32)) (ty := .int) (C := RX9) (T := TX9) (N := 32) hx hb hw inlX9 tyX9 tyX9_ok nmX9 hown hK hP hD hS 0 rfl rfl 16 (by decide) (hw _ mw_7_2) (fun _ h9 => h9) rfl (by decide +kernel) rfl rfl (Nat.le_of_ble_eq_true rfl) dX9_tear_12 (fun H locs hP hD hS => ?_)
  have hP : va_P (dC, dI) vwCl (W_X9z cI cZ cII qz qz_text qz_t qz_draft qz_s qz_kept qz_isKept qz_times qz_w qz_at qz_pulled qz_best qz_cartRow qz_tryRow qz_pairs qz_from qz_then qz_tryAt (0 : Int32) z_typed z_next z_token z_place z_value z_figures z_fault z_faultAt (0 : Int32) z_eaten z_half z_bestMinutes z_bestOats z_isDue z_text z_t z_draft z_s z_kept z_isKept z_times z_w z_at z_pulled z_best z_cartRow z_tryRow z_pairs z_from z_then z_tryAt) H := hP
  have hD : va_D A (W_X9z cI cZ cII qz qz_text qz_t qz_draft qz_s qz_kept qz_isKept qz_times qz_w qz_at qz_pulled qz_best qz_cartRow qz_tryRow qz_pairs qz_from qz_then qz_tryAt (0 : Int32) z_typed z_next z_token z_place z_value z_figures z_fault z_faultAt (0 : Int32) z_eaten z_half z_bestMinutes z_bestOats z_isDue z_text z_t z_draft z_s z_kept z_isKept z_times z_w z_at z_pulled z_best z_cartRow z_tryRow z_pairs z_from z_then z_tryAt) := hD
  refine lv_iload_n hx hb dX9_tear_15 rfl (lv_at hl 0 rfl) ?_
  exact RET _ _ _ _ _ _ _ dX9_tear_16 hP hD hS hf
def f_X9_wrongOne (z_timeMany : Int32) (z_eaten : Int32) (z_half : Int32) (z_t : Nat → Int32) (z_times : Nat → Int32) (z_w : Nat → Int32) (z_at : Nat → Int32) (z_pulled : Nat → Int32) : Option (Int32 × Int32 × (Nat → Int32) × (Nat → Int32) × (Nat → Int32)) :=
  jn4 (fun (z_eaten_1 : Int32) (z_w_1 : Nat → Int32) (z_at_1 : Nat → Int32) (z_pulled_1 : Nat → Int32) =>
    some ((-1 : Int32), z_eaten_1, z_w_1, z_at_1, z_pulled_1)
  ) (fun K120_1 =>
  lq5 (fun rec2 (y1_2 : Int32) (z_eaten_2 : Int32) (z_w_2 : Nat → Int32) (z_at_2 : Nat → Int32) (z_pulled_2 : Nat → Int32) =>
    if z_timeMany ≤ y1_2 then
      K120_1 z_eaten_2 z_w_2 z_at_2 z_pulled_2
    else
      jn1 (fun (z_at_3 : Nat → Int32) =>
        jn1 (fun (z_w_4 : Nat → Int32) =>
          if (((5 : Int32) * y1_2) + (3 : Int32)) < 0 ∨ 50 ≤ ((((5 : Int32) * y1_2) + (3 : Int32))).toNatClampNeg then none else
          bn4 (f_X9_crosses (z_times ((((5 : Int32) * y1_2) + (3 : Int32))).toNatClampNeg) (0 : Int32) z_eaten_2 z_half z_t z_w_4 z_at_3 z_pulled_2) (fun (r_6 : Int32) (z_eaten_6 : Int32) (z_w_6 : Nat → Int32) (z_pulled_6 : Nat → Int32) =>
            if (((5 : Int32) * y1_2) + (4 : Int32)) < 0 ∨ 50 ≤ ((((5 : Int32) * y1_2) + (4 : Int32))).toNatClampNeg then none else
            if r_6 = (z_times ((((5 : Int32) * y1_2) + (4 : Int32))).toNatClampNeg) then
              rec2 (y1_2 + (1 : Int32)) z_eaten_6 z_w_6 z_at_3 z_pulled_6
            else
              some (y1_2, z_eaten_6, z_w_6, z_at_3, z_pulled_6)
          )
        ) (fun K88_4 =>
        lq2 (fun rec8 (y3_8 : Int32) (z_w_8 : Nat → Int32) =>
          if (6 : Int32) ≤ y3_8 then
            K88_4 z_w_8
          else
            jn1 (fun (z2_9 : Int32) =>
              if y3_8 < 0 ∨ 6 ≤ (y3_8).toNatClampNeg then none else
              rec8 (y3_8 + (1 : Int32)) (upd z_w_8 (y3_8).toNatClampNeg z2_9)
            ) (fun J81_9 =>
            if (z_t ((3 : Int32)).toNatClampNeg) ≤ y3_8 then
              J81_9 (0 : Int32)
            else
              if (((8 : Int32) + ((4 : Int32) * y3_8)) + (1 : Int32)) < 0 ∨ 84 ≤ ((((8 : Int32) + ((4 : Int32) * y3_8)) + (1 : Int32))).toNatClampNeg then none else
              J81_9 (z_t ((((8 : Int32) + ((4 : Int32) * y3_8)) + (1 : Int32))).toNatClampNeg)
            )
        ) fu (0 : Int32) z_w_2
        )
      ) (fun K41_3 =>
      lq2 (fun rec12 (y3_12 : Int32) (z_at_12 : Nat → Int32) =>
        if (3 : Int32) ≤ y3_12 then
          K41_3 z_at_12
        else
          if (((5 : Int32) * y1_2) + y3_12) < 0 ∨ 50 ≤ ((((5 : Int32) * y1_2) + y3_12)).toNatClampNeg then none else
          if y3_12 < 0 ∨ 3 ≤ (y3_12).toNatClampNeg then none else
          rec12 (y3_12 + (1 : Int32)) (upd z_at_12 (y3_12).toNatClampNeg (z_times ((((5 : Int32) * y1_2) + y3_12)).toNatClampNeg))
      ) fu (0 : Int32) z_at_2
      )
  ) fu (0 : Int32) z_eaten z_w z_at z_pulled
  )
abbrev rm_X9_wrongOne : Room := { frames := 5, cells := 0, slots := 0, locals := 116 }
theorem dk_X9_wrongOne : yX9_wrongOne.cls = RX9 ∧ yX9_wrongOne.cls ≠ "java/lang/invoke/MethodHandle" ∧ yX9_wrongOne.cls ≠ "java/lang/invoke/VarHandle" ∧ (parseMethodDescriptor yX9_wrongOne.desc).map (fun d => d.parameters.length) = some 0 := by decide +kernel
set_option maxHeartbeats 4000000 in
set_option maxRecDepth 100000 in
theorem c_X9_wrongOne (l : Launch) (dC : Nat → ClassId) (dI : Nat → Nat → Nat) (cI cZ cII : ClassId) (qz qz_text qz_t qz_draft qz_s qz_kept qz_isKept qz_times qz_w qz_at qz_pulled qz_best qz_cartRow qz_tryRow qz_pairs qz_from qz_then qz_tryAt : Nat) (sz : Nat) (z_thrown : Int32) (z_typed : Int32) (z_next : Int32) (z_token : Int32) (z_place : Int32) (z_value : Int32) (z_figures : Int32) (z_fault : Int32) (z_faultAt : Int32) (z_timeMany : Int32) (z_eaten : Int32) (z_half : Int32) (z_bestMinutes : Int32) (z_bestOats : Int32) (z_isDue : Int32) (z_text : Nat → Int32) (z_t : Nat → Int32) (z_draft : Nat → Int32) (z_s : Nat → Int32) (z_kept : Nat → Int32) (z_isKept : Nat → Int32) (z_times : Nat → Int32) (z_w : Nat → Int32) (z_at : Nat → Int32) (z_pulled : Nat → Int32) (z_best : Nat → Int32) (z_cartRow : Nat → Int32) (z_tryRow : Nat → Int32) (z_pairs : Nat → Int32) (z_from : Nat → Int32) (z_then : Nat → Int32) (z_tryAt : Nat → Int32) (rr : Int32) (z_eaten' : Int32) (z_w' : Nat → Int32) (z_at' : Nat → Int32) (z_pulled' : Nat → Int32) (hf : f_X9_wrongOne z_timeMany z_eaten z_half z_t z_times z_w z_at z_pulled = some (rr, z_eaten', z_w', z_at', z_pulled')) : Met l yX9_wrongOne (wM yX9_wrongOne cX9_wrongOne 4 (some .int)) rm_X9_wrongOne (PreW (dC, dI) (tyA cI cZ cII) (W_X9z cI cZ cII qz qz_text qz_t qz_draft qz_s qz_kept qz_isKept qz_times qz_w qz_at qz_pulled qz_best qz_cartRow qz_tryRow qz_pairs qz_from qz_then qz_tryAt z_thrown z_typed z_next z_token z_place z_value z_figures z_fault z_faultAt z_timeMany z_eaten z_half z_bestMinutes z_bestOats z_isDue z_text z_t z_draft z_s z_kept z_isKept z_times z_w z_at z_pulled z_best z_cartRow z_tryRow z_pairs z_from z_then z_tryAt) sz [.ref qz]) (PostI (dC, dI) (tyA cI cZ cII) rr (W_X9z cI cZ cII qz qz_text qz_t qz_draft qz_s qz_kept qz_isKept qz_times qz_w qz_at qz_pulled qz_best qz_cartRow qz_tryRow qz_pairs qz_from qz_then qz_tryAt z_thrown z_typed z_next z_token z_place z_value z_figures z_fault z_faultAt z_timeMany z_eaten z_half z_bestMinutes z_bestOats z_isDue z_text z_t z_draft z_s z_kept z_isKept z_times z_w z_at z_pulled z_best z_cartRow z_tryRow z_pairs z_from z_then z_tryAt) (W_X9z cI cZ cII qz qz_text qz_t qz_draft qz_s qz_kept qz_isKept qz_times qz_w qz_at qz_pulled qz_best qz_cartRow qz_tryRow qz_pairs qz_from qz_then qz_tryAt z_thrown z_typed z_next z_token z_place z_value z_figures z_fault z_faultAt z_timeMany z_eaten' z_half z_bestMinutes z_bestOats z_isDue z_text z_t z_draft z_s z_kept z_isKept z_times z_w' z_at' z_pulled' z_best z_cartRow z_tryRow z_pairs z_from z_then z_tryAt) sz) 0 0 (va_A (W_X9z cI cZ cII qz qz_text qz_t qz_draft qz_s qz_kept qz_isKept qz_times qz_w qz_at qz_pulled qz_best qz_cartRow qz_tryRow qz_pairs qz_from qz_then qz_tryAt z_thrown z_typed z_next z_token z_place z_value z_figures z_fault z_faultAt z_timeMany z_eaten z_half z_bestMinutes z_bestOats z_isDue z_text z_t z_draft z_s z_kept z_isKept z_times z_w z_at z_pulled z_best z_cartRow z_tryRow z_pairs z_from z_then z_tryAt) sz) := by
  refine Met.ofW (cc := cX9_wrongOne) (maxL := 4) (ret := (some .int)) (by decide) rfl ?_
  intro p e s m args below meth c s₁ B hml hv
  obtain ⟨rfl, hsz, hP, hK, hD0⟩ := hv
  have hx := B.exec
  have hb := B.bytes
  have hr := B.returns
  have hts := atoms_spec (ws := wM yX9_wrongOne cX9_wrongOne 4 (some .int)) B.pre
  have hown : s.vm.findClass RX9 = some m.cls := findClass_of_methodNamed B.named
  have hlocks := B.notSynchronized
  subst hsz
  have hD := hD0.self (sz := s.heap.size)
  obtain ⟨A, hAe⟩ : ∃ A, A = va_A (W_X9z cI cZ cII qz qz_text qz_t qz_draft qz_s qz_kept qz_isKept qz_times qz_w qz_at qz_pulled qz_best qz_cartRow qz_tryRow qz_pairs qz_from qz_then qz_tryAt z_thrown z_typed z_next z_token z_place z_value z_figures z_fault z_faultAt z_timeMany z_eaten z_half z_bestMinutes z_bestOats z_isDue z_text z_t z_draft z_s z_kept z_isKept z_times z_w z_at z_pulled z_best z_cartRow z_tryRow z_pairs z_from z_then z_tryAt) s.heap.size := ⟨_, rfl⟩
  rw [← hAe] at hD
  have hA : ∀ q : Nat, s.heap.size ≤ q → A q := fun q h => by rw [hAe]; exact Or.inr h
  have hS : va_S A s.heap s.heap [] := va_S.rf
  have hl := lv_entry ([.ref qz]) (n := 4) (Nat.le_of_ble_eq_true rfl)
  rw [lg_entry_eq]
  generalize (lg_sl ([.ref qz]) ++ List.replicate (4 - (lg_sl ([.ref qz])).length) Slot.unset).toArray = ls at hl ⊢
  have hl : lv_has ls 4 [(0, .ref qz)] := hl
  generalize ([.ref qz] : List Value).toArray = args at hts ⊢
  have hw : ∀ w ∈ wsL_law, w.before args s = true := fun w h => hts w (List.mem_cons_of_mem _ h)
  refine pg_start (fun Q hQ => ?_)
  have RET : ∀ (H : Heap) (locs : List Loc) (ls : Array Slot) (pc : Nat) (v : Int32) (x0 : Int32) (x1 : Nat → Int32) (x2 : Nat → Int32) (x3 : Nat → Int32) , decode cX9_wrongOne pc = .ok (.ireturn, 1) → va_P (dC, dI) vwCl (W_X9z cI cZ cII qz qz_text qz_t qz_draft qz_s qz_kept qz_isKept qz_times qz_w qz_at qz_pulled qz_best qz_cartRow qz_tryRow qz_pairs qz_from qz_then qz_tryAt z_thrown z_typed z_next z_token z_place z_value z_figures z_fault z_faultAt z_timeMany x0 z_half z_bestMinutes z_bestOats z_isDue z_text z_t z_draft z_s z_kept z_isKept z_times x1 x2 x3 z_best z_cartRow z_tryRow z_pairs z_from z_then z_tryAt) H → va_D A (W_X9z cI cZ cII qz qz_text qz_t qz_draft qz_s qz_kept qz_isKept qz_times qz_w qz_at qz_pulled qz_best qz_cartRow qz_tryRow qz_pairs qz_from qz_then qz_tryAt z_thrown z_typed z_next z_token z_place z_value z_figures z_fault z_faultAt z_timeMany x0 z_half z_bestMinutes z_bestOats z_isDue z_text z_t z_draft z_s z_kept z_isKept z_times x1 x2 x3 z_best z_cartRow z_tryRow z_pairs z_from z_then z_tryAt) → va_S A s.heap H locs → (some (v, x0, x1, x2, x3) : Option (Int32 × Int32 × (Nat → Int32) × (Nat → Int32) × (Nat → Int32))) = some (rr, z_eaten', z_w', z_at', z_pulled') → W p l e rm_X9_wrongOne s m args below meth c H locs 0 0 Q (F0 m pc ls [.int v]) := by
    intro H locs ls pc v x0 x1 x2 x3 hd hP hD hS he
    subst hAe; subst hQ
    simp only [Option.some.injEq, Prod.mk.injEq] at he
    obtain ⟨rfl, rfl, rfl, rfl, rfl⟩ := he
    exact pg_iret hx hb hr hlocks hK hP hD hS hd
  unfold f_X9_wrongOne at hf
  refine lv_iconst (v := (0 : Int32)) hx hb dX9_wrongOne_0 (by decide) ?_
  refine lv_istore_n (lv' := [(1, .int (0 : Int32)), (0, .ref qz)]) hx hb dX9_wrongOne_1 rfl hl (by decide) rfl (fun ls hl => ?_)
  obtain ⟨K120_1, hK120_1, hf⟩ := jn4_s hf
  have WK120_1 : ∀ (z_eaten_1 : Int32) (z_w_1 : Nat → Int32) (z_at_1 : Nat → Int32) (z_pulled_1 : Nat → Int32) (H : Heap) (locs : List Loc) (ls : Array Slot), va_P (dC, dI) vwCl (W_X9z cI cZ cII qz qz_text qz_t qz_draft qz_s qz_kept qz_isKept qz_times qz_w qz_at qz_pulled qz_best qz_cartRow qz_tryRow qz_pairs qz_from qz_then qz_tryAt z_thrown z_typed z_next z_token z_place z_value z_figures z_fault z_faultAt z_timeMany z_eaten_1 z_half z_bestMinutes z_bestOats z_isDue z_text z_t z_draft z_s z_kept z_isKept z_times z_w_1 z_at_1 z_pulled_1 z_best z_cartRow z_tryRow z_pairs z_from z_then z_tryAt) H → va_D A (W_X9z cI cZ cII qz qz_text qz_t qz_draft qz_s qz_kept qz_isKept qz_times qz_w qz_at qz_pulled qz_best qz_cartRow qz_tryRow qz_pairs qz_from qz_then qz_tryAt z_thrown z_typed z_next z_token z_place z_value z_figures z_fault z_faultAt z_timeMany z_eaten_1 z_half z_bestMinutes z_bestOats z_isDue z_text z_t z_draft z_s z_kept z_isKept z_times z_w_1 z_at_1 z_pulled_1 z_best z_cartRow z_tryRow z_pairs z_from z_then z_tryAt) → va_S A s.heap H locs → lv_has ls 4 [] → K120_1 z_eaten_1 z_w_1 z_at_1 z_pulled_1 = some (rr, z_eaten', z_w', z_at', z_pulled') → W p l e rm_X9_wrongOne s m args below meth c H locs 0 0 Q (F0 m 120 ls []) := by
    intro z_eaten_1 z_w_1 z_at_1 z_pulled_1 H locs ls hP hD hS hl hf
    have hf := hK120_1 _ _ _ _ hf
    refine lv_iconst (v := (-1 : Int32)) hx hb dX9_wrongOne_120 (by decide) ?_
    exact RET _ _ _ _ _ _ _ _ _ dX9_wrongOne_121 hP hD hS hf
  obtain ⟨B2, hB2, hf⟩ := lq5_n hf
  have WL2 : ∀ (n9 : Nat) (y1_2 : Int32) (z_eaten_2 : Int32) (z_w_2 : Nat → Int32) (z_at_2 : Nat → Int32) (z_pulled_2 : Nat → Int32) (H : Heap) (locs : List Loc) (ls : Array Slot), va_P (dC, dI) vwCl (W_X9z cI cZ cII qz qz_text qz_t qz_draft qz_s qz_kept qz_isKept qz_times qz_w qz_at qz_pulled qz_best qz_cartRow qz_tryRow qz_pairs qz_from qz_then qz_tryAt z_thrown z_typed z_next z_token z_place z_value z_figures z_fault z_faultAt z_timeMany z_eaten_2 z_half z_bestMinutes z_bestOats z_isDue z_text z_t z_draft z_s z_kept z_isKept z_times z_w_2 z_at_2 z_pulled_2 z_best z_cartRow z_tryRow z_pairs z_from z_then z_tryAt) H → va_D A (W_X9z cI cZ cII qz qz_text qz_t qz_draft qz_s qz_kept qz_isKept qz_times qz_w qz_at qz_pulled qz_best qz_cartRow qz_tryRow qz_pairs qz_from qz_then qz_tryAt z_thrown z_typed z_next z_token z_place z_value z_figures z_fault z_faultAt z_timeMany z_eaten_2 z_half z_bestMinutes z_bestOats z_isDue z_text z_t z_draft z_s z_kept z_isKept z_times z_w_2 z_at_2 z_pulled_2 z_best z_cartRow z_tryRow z_pairs z_from z_then z_tryAt) → va_S A s.heap H locs → lv_has ls 4 [(0, .ref qz), (1, .int y1_2)] → lq5 B2 n9 y1_2 z_eaten_2 z_w_2 z_at_2 z_pulled_2 = some (rr, z_eaten', z_w', z_at', z_pulled') → W p l e rm_X9_wrongOne s m args below meth c H locs 0 0 Q (F0 m 2 ls []) := by
    intro n9
    induction n9 with
    | zero => intro y1_2 z_eaten_2 z_w_2 z_at_2 z_pulled_2 H locs ls hP hD hS hl hf; cases hf
    | succ n9 ih =>
      intro y1_2 z_eaten_2 z_w_2 z_at_2 z_pulled_2 H locs ls hP hD hS hl hf
      obtain ⟨rec2, hrec2, hf⟩ := lq5_s hf
      have hf := hB2 rec2 _ _ _ _ _ hf
      refine lv_iload_n hx hb dX9_wrongOne_2 rfl (lv_at hl 1 rfl) ?_
      refine lv_aload_n hx hb dX9_wrongOne_3 rfl (lv_at hl 0 rfl) ?_
      refine va_get (D := (dC, dI)) (ci := 9) (v := .int z_timeMany) (C := RX9) (T := TX9) (N := 32) hx hb hw inlX9 hown hK hP 0 rfl rfl 16 (by decide) (hw _ mw_7_2) (fun _ h9 => h9) rfl dX9_wrongOne_4 ?_
      refine lv_icmp_ge (tgt := 120) hx hb dX9_wrongOne_7 (by decide) (fun h9 => ?_) (fun h9 => ?_)
      · have hf := pg_t h9 hf
        exact WK120_1 _ _ _ _ _ _ _ hP hD hS (lv_sub hl [] rfl) hf
      · have hf := pg_f h9 hf
        refine lv_iconst (v := (5 : Int32)) hx hb dX9_wrongOne_10 (by decide) ?_
        refine lv_iload_n hx hb dX9_wrongOne_11 rfl (lv_at hl 1 rfl) ?_
        refine lv_imul hx hb dX9_wrongOne_12 ?_
        refine lv_istore_n (lv' := [(2, .int ((5 : Int32) * y1_2)), (0, .ref qz), (1, .int y1_2)]) hx hb dX9_wrongOne_13 rfl hl (by decide) rfl (fun ls hl => ?_)
        refine lv_iconst (v := (0 : Int32)) hx hb dX9_wrongOne_14 (by decide) ?_
        refine lv_istore_n (lv' := [(3, .int (0 : Int32)), (2, .int ((5 : Int32) * y1_2)), (0, .ref qz), (1, .int y1_2)]) hx hb dX9_wrongOne_15 rfl hl (by decide) rfl (fun ls hl => ?_)
        obtain ⟨K41_3, hK41_3, hf⟩ := jn1_s hf
        have WK41_3 : ∀ (z_at_3 : Nat → Int32) (H : Heap) (locs : List Loc) (ls : Array Slot), va_P (dC, dI) vwCl (W_X9z cI cZ cII qz qz_text qz_t qz_draft qz_s qz_kept qz_isKept qz_times qz_w qz_at qz_pulled qz_best qz_cartRow qz_tryRow qz_pairs qz_from qz_then qz_tryAt z_thrown z_typed z_next z_token z_place z_value z_figures z_fault z_faultAt z_timeMany z_eaten_2 z_half z_bestMinutes z_bestOats z_isDue z_text z_t z_draft z_s z_kept z_isKept z_times z_w_2 z_at_3 z_pulled_2 z_best z_cartRow z_tryRow z_pairs z_from z_then z_tryAt) H → va_D A (W_X9z cI cZ cII qz qz_text qz_t qz_draft qz_s qz_kept qz_isKept qz_times qz_w qz_at qz_pulled qz_best qz_cartRow qz_tryRow qz_pairs qz_from qz_then qz_tryAt z_thrown z_typed z_next z_token z_place z_value z_figures z_fault z_faultAt z_timeMany z_eaten_2 z_half z_bestMinutes z_bestOats z_isDue z_text z_t z_draft z_s z_kept z_isKept z_times z_w_2 z_at_3 z_pulled_2 z_best z_cartRow z_tryRow z_pairs z_from z_then z_tryAt) → va_S A s.heap H locs → lv_has ls 4 [(0, .ref qz), (1, .int y1_2), (2, .int ((5 : Int32) * y1_2))] → K41_3 z_at_3 = some (rr, z_eaten', z_w', z_at', z_pulled') → W p l e rm_X9_wrongOne s m args below meth c H locs 0 0 Q (F0 m 41 ls []) := by
          intro z_at_3 H locs ls hP hD hS hl hf
          have hf := hK41_3 _ hf
          refine lv_iconst (v := (0 : Int32)) hx hb dX9_wrongOne_41 (by decide) ?_
          refine lv_istore_n (lv' := [(3, .int (0 : Int32)), (0, .ref qz), (1, .int y1_2), (2, .int ((5 : Int32) * y1_2))]) hx hb dX9_wrongOne_42 rfl hl (by decide) rfl (fun ls hl => ?_)
          obtain ⟨K88_4, hK88_4, hf⟩ := jn1_s hf
          have WK88_4 : ∀ (z_w_4 : Nat → Int32) (H : Heap) (locs : List Loc) (ls : Array Slot), va_P (dC, dI) vwCl (W_X9z cI cZ cII qz qz_text qz_t qz_draft qz_s qz_kept qz_isKept qz_times qz_w qz_at qz_pulled qz_best qz_cartRow qz_tryRow qz_pairs qz_from qz_then qz_tryAt z_thrown z_typed z_next z_token z_place z_value z_figures z_fault z_faultAt z_timeMany z_eaten_2 z_half z_bestMinutes z_bestOats z_isDue z_text z_t z_draft z_s z_kept z_isKept z_times z_w_4 z_at_3 z_pulled_2 z_best z_cartRow z_tryRow z_pairs z_from z_then z_tryAt) H → va_D A (W_X9z cI cZ cII qz qz_text qz_t qz_draft qz_s qz_kept qz_isKept qz_times qz_w qz_at qz_pulled qz_best qz_cartRow qz_tryRow qz_pairs qz_from qz_then qz_tryAt z_thrown z_typed z_next z_token z_place z_value z_figures z_fault z_faultAt z_timeMany z_eaten_2 z_half z_bestMinutes z_bestOats z_isDue z_text z_t z_draft z_s z_kept z_isKept z_times z_w_4 z_at_3 z_pulled_2 z_best z_cartRow z_tryRow z_pairs z_from z_then z_tryAt) → va_S A s.heap H locs → lv_has ls 4 [(0, .ref qz), (1, .int y1_2), (2, .int ((5 : Int32) * y1_2))] → K88_4 z_w_4 = some (rr, z_eaten', z_w', z_at', z_pulled') → W p l e rm_X9_wrongOne s m args below meth c H locs 0 0 Q (F0 m 88 ls []) := by
            intro z_w_4 H locs ls hP hD hS hl hf
            have hf := hK88_4 _ hf
            refine lv_aload_n hx hb dX9_wrongOne_88 rfl (lv_at hl 0 rfl) ?_
            refine lv_aload_n hx hb dX9_wrongOne_89 rfl (lv_at hl 0 rfl) ?_
            refine va_get (D := (dC, dI)) (ci := 9) (v := .ref qz_times) (C := RX9) (T := TX9) (N := 32) hx hb hw inlX9 hown hK hP 0 rfl rfl 15 (by decide) (hw _ mw_6_7) (fun _ h9 => h9) rfl dX9_wrongOne_90 ?_
            refine lv_iload_n hx hb dX9_wrongOne_93 rfl (lv_at hl 2 rfl) ?_
            refine lv_iconst (v := (3 : Int32)) hx hb dX9_wrongOne_94 (by decide) ?_
            refine lv_iadd hx hb dX9_wrongOne_95 ?_
            obtain ⟨hi5, hf⟩ := pg_chk hf
            refine va_iald hx hb hK hP 7 0 rfl rfl hi5 dX9_wrongOne_96 ?_
            refine lv_iconst (v := (0 : Int32)) hx hb dX9_wrongOne_97 (by decide) ?_
            obtain ⟨r_6, z_eaten_6, z_w_6, z_pulled_6, hc, hf⟩ := bn4_s hf
            refine pg_cVi (As := [.int (z_times ((((5 : Int32) * y1_2) + (3 : Int32))).toNatClampNeg), .int (0 : Int32)]) (rest := []) (wf := (W_X9z cI cZ cII qz qz_text qz_t qz_draft qz_s qz_kept qz_isKept qz_times qz_w qz_at qz_pulled qz_best qz_cartRow qz_tryRow qz_pairs qz_from qz_then qz_tryAt z_thrown z_typed z_next z_token z_place z_value z_figures z_fault z_faultAt z_timeMany z_eaten_6 z_half z_bestMinutes z_bestOats z_isDue z_text z_t z_draft z_s z_kept z_isKept z_times z_w_6 z_at_3 z_pulled_6 z_best z_cartRow z_tryRow z_pairs z_from z_then z_tryAt)) ⟨hx, hb, hml, hown, hw⟩ (c_X9_crosses l dC dI cI cZ cII qz qz_text qz_t qz_draft qz_s qz_kept qz_isKept qz_times qz_w qz_at qz_pulled qz_best qz_cartRow qz_tryRow qz_pairs qz_from qz_then qz_tryAt H.size z_thrown z_typed z_next z_token z_place z_value z_figures z_fault z_faultAt z_timeMany z_eaten_2 z_half z_bestMinutes z_bestOats z_isDue z_text z_t z_draft z_s z_kept z_isKept z_times z_w_4 z_at_3 z_pulled_2 z_best z_cartRow z_tryRow z_pairs z_from z_then z_tryAt (z_times ((((5 : Int32) * y1_2) + (3 : Int32))).toNatClampNeg) (0 : Int32) r_6 z_eaten_6 z_w_6 z_pulled_6 hc) (cwV 2 hts (wM_V mw_31_1 mw_31_2 mw_31_3 mw_1_5 mw_31_4) rfl rfl rfl dk_X9_crosses ⟨Nat.le_of_ble_eq_true rfl, Nat.le_of_ble_eq_true rfl⟩) hK hP hD hS hA 9 0 rfl rfl rfl [0, 1, 2, 3, 4, 5, 6, 7, 8, 9, 10, 11, 12, 13, 14, 15, 16, 17] [] [0, 1, 2, 3, 4, 5, 6, 7, 8, 9, 10, 11, 12, 13, 14, 15, 16, 17] (plC_64 cI cZ cII qz qz_text qz_t qz_draft qz_s qz_kept qz_isKept qz_times qz_w qz_at qz_pulled qz_best qz_cartRow qz_tryRow qz_pairs qz_from qz_then qz_tryAt z_thrown z_typed z_next z_token z_place z_value z_figures z_fault z_faultAt z_timeMany z_eaten_2 z_half z_bestMinutes z_bestOats z_isDue z_text z_t z_draft z_s z_kept z_isKept z_times z_w_4 z_at_3 z_pulled_2 z_best z_cartRow z_tryRow z_pairs z_from z_then z_tryAt) rfl (plF_64 cI cZ cII qz qz_text qz_t qz_draft qz_s qz_kept qz_isKept qz_times qz_w qz_at qz_pulled qz_best qz_cartRow qz_tryRow qz_pairs qz_from qz_then qz_tryAt z_thrown z_typed z_next z_token z_place z_value z_figures z_fault z_faultAt z_timeMany z_eaten_2 z_half z_bestMinutes z_bestOats z_isDue z_text z_t z_draft z_s z_kept z_isKept z_times z_w_4 z_at_3 z_pulled_2 z_best z_cartRow z_tryRow z_pairs z_from z_then z_tryAt z_thrown z_typed z_next z_token z_place z_value z_figures z_fault z_faultAt z_timeMany z_eaten_6 z_half z_bestMinutes z_bestOats z_isDue z_text z_t z_draft z_s z_kept z_isKept z_times z_w_6 z_at_3 z_pulled_6 z_best z_cartRow z_tryRow z_pairs z_from z_then z_tryAt) (by decide) rfl hl.1 rfl (Nat.le_of_ble_eq_true rfl) dX9_wrongOne_98 ⟨Nat.zero_le _, Nat.zero_le _⟩ (fun H locs hP hD hS => ?_)
            refine lv_aload_n hx hb dX9_wrongOne_101 rfl (lv_at hl 0 rfl) ?_
            refine va_get (D := (dC, dI)) (ci := 9) (v := .ref qz_times) (C := RX9) (T := TX9) (N := 32) hx hb hw inlX9 hown hK hP 0 rfl rfl 15 (by decide) (hw _ mw_6_7) (fun _ h9 => h9) rfl dX9_wrongOne_102 ?_
            refine lv_iload_n hx hb dX9_wrongOne_105 rfl (lv_at hl 2 rfl) ?_
            refine lv_iconst (v := (4 : Int32)) hx hb dX9_wrongOne_106 (by decide) ?_
            refine lv_iadd hx hb dX9_wrongOne_107 ?_
            obtain ⟨hi7, hf⟩ := pg_chk hf
            refine va_iald hx hb hK hP 7 0 rfl rfl hi7 dX9_wrongOne_108 ?_
            refine lv_icmp_eq (tgt := 114) hx hb dX9_wrongOne_109 (by decide) (fun h9 => ?_) (fun h9 => ?_)
            · have hf := pg_t h9 hf
              refine lv_iinc (v := (y1_2 + (1 : Int32))) (lv' := [(1, .int (y1_2 + (1 : Int32))), (0, .ref qz), (2, .int ((5 : Int32) * y1_2))]) hx hb dX9_wrongOne_114 hl (k := 1) rfl rfl (by decide) rfl (fun ls hl => ?_)
              refine lv_goto (tgt := 2) hx hb dX9_wrongOne_117 (by decide) ?_
              exact ih _ _ _ _ _ _ _ _ hP hD hS (lv_sub hl [1, 0] rfl) (hrec2 _ _ _ _ _ hf)
            · have hf := pg_f h9 hf
              refine lv_iload_n hx hb dX9_wrongOne_112 rfl (lv_at hl 1 rfl) ?_
              exact RET _ _ _ _ _ _ _ _ _ dX9_wrongOne_113 hP hD hS hf
          obtain ⟨B8, hB8, hf⟩ := lq2_n hf
          have WL8 : ∀ (n9 : Nat) (y3_8 : Int32) (z_w_8 : Nat → Int32) (H : Heap) (locs : List Loc) (ls : Array Slot), va_P (dC, dI) vwCl (W_X9z cI cZ cII qz qz_text qz_t qz_draft qz_s qz_kept qz_isKept qz_times qz_w qz_at qz_pulled qz_best qz_cartRow qz_tryRow qz_pairs qz_from qz_then qz_tryAt z_thrown z_typed z_next z_token z_place z_value z_figures z_fault z_faultAt z_timeMany z_eaten_2 z_half z_bestMinutes z_bestOats z_isDue z_text z_t z_draft z_s z_kept z_isKept z_times z_w_8 z_at_3 z_pulled_2 z_best z_cartRow z_tryRow z_pairs z_from z_then z_tryAt) H → va_D A (W_X9z cI cZ cII qz qz_text qz_t qz_draft qz_s qz_kept qz_isKept qz_times qz_w qz_at qz_pulled qz_best qz_cartRow qz_tryRow qz_pairs qz_from qz_then qz_tryAt z_thrown z_typed z_next z_token z_place z_value z_figures z_fault z_faultAt z_timeMany z_eaten_2 z_half z_bestMinutes z_bestOats z_isDue z_text z_t z_draft z_s z_kept z_isKept z_times z_w_8 z_at_3 z_pulled_2 z_best z_cartRow z_tryRow z_pairs z_from z_then z_tryAt) → va_S A s.heap H locs → lv_has ls 4 [(0, .ref qz), (1, .int y1_2), (2, .int ((5 : Int32) * y1_2)), (3, .int y3_8)] → lq2 B8 n9 y3_8 z_w_8 = some (rr, z_eaten', z_w', z_at', z_pulled') → W p l e rm_X9_wrongOne s m args below meth c H locs 0 0 Q (F0 m 43 ls []) := by
            intro n9
            induction n9 with
            | zero => intro y3_8 z_w_8 H locs ls hP hD hS hl hf; cases hf
            | succ n9 ih =>
              intro y3_8 z_w_8 H locs ls hP hD hS hl hf
              obtain ⟨rec8, hrec8, hf⟩ := lq2_s hf
              have hf := hB8 rec8 _ _ hf
              refine lv_iload_n hx hb dX9_wrongOne_43 rfl (lv_at hl 3 rfl) ?_
              refine lv_bipush (v := (6 : Int32)) hx hb dX9_wrongOne_44 (by decide) ?_
              refine lv_icmp_ge (tgt := 88) hx hb dX9_wrongOne_46 (by decide) (fun h9 => ?_) (fun h9 => ?_)
              · have hf := pg_t h9 hf
                exact WK88_4 _ _ _ _ hP hD hS (lv_sub hl [0, 1, 2] rfl) hf
              · have hf := pg_f h9 hf
                refine lv_aload_n hx hb dX9_wrongOne_49 rfl (lv_at hl 0 rfl) ?_
                refine va_get (D := (dC, dI)) (ci := 9) (v := .ref qz_w) (C := RX9) (T := TX9) (N := 32) hx hb hw inlX9 hown hK hP 0 rfl rfl 17 (by decide) (hw _ mw_6_8) (fun _ h9 => h9) rfl dX9_wrongOne_50 ?_
                refine lv_iload_n hx hb dX9_wrongOne_53 rfl (lv_at hl 3 rfl) ?_
                refine lv_iload_n hx hb dX9_wrongOne_54 rfl (lv_at hl 3 rfl) ?_
                refine lv_aload_n hx hb dX9_wrongOne_55 rfl (lv_at hl 0 rfl) ?_
                refine va_get (D := (dC, dI)) (ci := 9) (v := .ref qz_t) (C := RX9) (T := TX9) (N := 32) hx hb hw inlX9 hown hK hP 0 rfl rfl 10 (by decide) (hw _ mw_6_1) (fun _ h9 => h9) rfl dX9_wrongOne_56 ?_
                refine lv_iconst (v := (3 : Int32)) hx hb dX9_wrongOne_59 (by decide) ?_
                refine va_iald hx hb hK hP 2 0 rfl rfl (pg_lit (by decide)) dX9_wrongOne_60 ?_
                obtain ⟨J81_9, hJ81_9, hf⟩ := jn1_s hf
                have WJ81_9 : ∀ (z2_9 : Int32) (H : Heap) (locs : List Loc) (ls : Array Slot), va_P (dC, dI) vwCl (W_X9z cI cZ cII qz qz_text qz_t qz_draft qz_s qz_kept qz_isKept qz_times qz_w qz_at qz_pulled qz_best qz_cartRow qz_tryRow qz_pairs qz_from qz_then qz_tryAt z_thrown z_typed z_next z_token z_place z_value z_figures z_fault z_faultAt z_timeMany z_eaten_2 z_half z_bestMinutes z_bestOats z_isDue z_text z_t z_draft z_s z_kept z_isKept z_times z_w_8 z_at_3 z_pulled_2 z_best z_cartRow z_tryRow z_pairs z_from z_then z_tryAt) H → va_D A (W_X9z cI cZ cII qz qz_text qz_t qz_draft qz_s qz_kept qz_isKept qz_times qz_w qz_at qz_pulled qz_best qz_cartRow qz_tryRow qz_pairs qz_from qz_then qz_tryAt z_thrown z_typed z_next z_token z_place z_value z_figures z_fault z_faultAt z_timeMany z_eaten_2 z_half z_bestMinutes z_bestOats z_isDue z_text z_t z_draft z_s z_kept z_isKept z_times z_w_8 z_at_3 z_pulled_2 z_best z_cartRow z_tryRow z_pairs z_from z_then z_tryAt) → va_S A s.heap H locs → lv_has ls 4 [(0, .ref qz), (1, .int y1_2), (2, .int ((5 : Int32) * y1_2)), (3, .int y3_8)] → J81_9 z2_9 = some (rr, z_eaten', z_w', z_at', z_pulled') → W p l e rm_X9_wrongOne s m args below meth c H locs 0 0 Q (F0 m 81 ls [.int z2_9, .int y3_8, .ref qz_w]) := by
                  intro z2_9 H locs ls hP hD hS hl hf
                  have hf := hJ81_9 _ hf
                  obtain ⟨hi10, hf⟩ := pg_chk hf
                  refine va_iast hx hb hK hP hD hS 8 0 rfl rfl hi10 dX9_wrongOne_81 (fun H locs hP hD hS => ?_)
                  have hP : va_P (dC, dI) vwCl (W_X9z cI cZ cII qz qz_text qz_t qz_draft qz_s qz_kept qz_isKept qz_times qz_w qz_at qz_pulled qz_best qz_cartRow qz_tryRow qz_pairs qz_from qz_then qz_tryAt z_thrown z_typed z_next z_token z_place z_value z_figures z_fault z_faultAt z_timeMany z_eaten_2 z_half z_bestMinutes z_bestOats z_isDue z_text z_t z_draft z_s z_kept z_isKept z_times (upd z_w_8 (y3_8).toNatClampNeg z2_9) z_at_3 z_pulled_2 z_best z_cartRow z_tryRow z_pairs z_from z_then z_tryAt) H := hP
                  have hD : va_D A (W_X9z cI cZ cII qz qz_text qz_t qz_draft qz_s qz_kept qz_isKept qz_times qz_w qz_at qz_pulled qz_best qz_cartRow qz_tryRow qz_pairs qz_from qz_then qz_tryAt z_thrown z_typed z_next z_token z_place z_value z_figures z_fault z_faultAt z_timeMany z_eaten_2 z_half z_bestMinutes z_bestOats z_isDue z_text z_t z_draft z_s z_kept z_isKept z_times (upd z_w_8 (y3_8).toNatClampNeg z2_9) z_at_3 z_pulled_2 z_best z_cartRow z_tryRow z_pairs z_from z_then z_tryAt) := hD
                  refine lv_iinc (v := (y3_8 + (1 : Int32))) (lv' := [(3, .int (y3_8 + (1 : Int32))), (0, .ref qz), (1, .int y1_2), (2, .int ((5 : Int32) * y1_2))]) hx hb dX9_wrongOne_82 hl (k := 3) rfl rfl (by decide) rfl (fun ls hl => ?_)
                  refine lv_goto (tgt := 43) hx hb dX9_wrongOne_85 (by decide) ?_
                  exact ih _ _ _ _ _ hP hD hS (lv_sub hl [1, 2, 3, 0] rfl) (hrec8 _ _ hf)
                refine lv_icmp_ge (tgt := 80) hx hb dX9_wrongOne_61 (by decide) (fun h9 => ?_) (fun h9 => ?_)
                · have hf := pg_t h9 hf
                  refine lv_iconst (v := (0 : Int32)) hx hb dX9_wrongOne_80 (by decide) ?_
                  exact WJ81_9 _ _ _ _ hP hD hS hl hf
                · have hf := pg_f h9 hf
                  refine lv_aload_n hx hb dX9_wrongOne_64 rfl (lv_at hl 0 rfl) ?_
                  refine va_get (D := (dC, dI)) (ci := 9) (v := .ref qz_t) (C := RX9) (T := TX9) (N := 32) hx hb hw inlX9 hown hK hP 0 rfl rfl 10 (by decide) (hw _ mw_6_1) (fun _ h9 => h9) rfl dX9_wrongOne_65 ?_
                  refine lv_bipush (v := (8 : Int32)) hx hb dX9_wrongOne_68 (by decide) ?_
                  refine lv_iconst (v := (4 : Int32)) hx hb dX9_wrongOne_70 (by decide) ?_
                  refine lv_iload_n hx hb dX9_wrongOne_71 rfl (lv_at hl 3 rfl) ?_
                  refine lv_imul hx hb dX9_wrongOne_72 ?_
                  refine lv_iadd hx hb dX9_wrongOne_73 ?_
                  refine lv_iconst (v := (1 : Int32)) hx hb dX9_wrongOne_74 (by decide) ?_
                  refine lv_iadd hx hb dX9_wrongOne_75 ?_
                  obtain ⟨hi11, hf⟩ := pg_chk hf
                  refine va_iald hx hb hK hP 2 0 rfl rfl hi11 dX9_wrongOne_76 ?_
                  refine lv_goto (tgt := 81) hx hb dX9_wrongOne_77 (by decide) ?_
                  exact WJ81_9 _ _ _ _ hP hD hS hl hf
          exact WL8 fu _ _ _ _ _ hP hD hS (lv_sub hl [1, 2, 3, 0] rfl) hf
        obtain ⟨B12, hB12, hf⟩ := lq2_n hf
        have WL12 : ∀ (n9 : Nat) (y3_12 : Int32) (z_at_12 : Nat → Int32) (H : Heap) (locs : List Loc) (ls : Array Slot), va_P (dC, dI) vwCl (W_X9z cI cZ cII qz qz_text qz_t qz_draft qz_s qz_kept qz_isKept qz_times qz_w qz_at qz_pulled qz_best qz_cartRow qz_tryRow qz_pairs qz_from qz_then qz_tryAt z_thrown z_typed z_next z_token z_place z_value z_figures z_fault z_faultAt z_timeMany z_eaten_2 z_half z_bestMinutes z_bestOats z_isDue z_text z_t z_draft z_s z_kept z_isKept z_times z_w_2 z_at_12 z_pulled_2 z_best z_cartRow z_tryRow z_pairs z_from z_then z_tryAt) H → va_D A (W_X9z cI cZ cII qz qz_text qz_t qz_draft qz_s qz_kept qz_isKept qz_times qz_w qz_at qz_pulled qz_best qz_cartRow qz_tryRow qz_pairs qz_from qz_then qz_tryAt z_thrown z_typed z_next z_token z_place z_value z_figures z_fault z_faultAt z_timeMany z_eaten_2 z_half z_bestMinutes z_bestOats z_isDue z_text z_t z_draft z_s z_kept z_isKept z_times z_w_2 z_at_12 z_pulled_2 z_best z_cartRow z_tryRow z_pairs z_from z_then z_tryAt) → va_S A s.heap H locs → lv_has ls 4 [(0, .ref qz), (1, .int y1_2), (2, .int ((5 : Int32) * y1_2)), (3, .int y3_12)] → lq2 B12 n9 y3_12 z_at_12 = some (rr, z_eaten', z_w', z_at', z_pulled') → W p l e rm_X9_wrongOne s m args below meth c H locs 0 0 Q (F0 m 16 ls []) := by
          intro n9
          induction n9 with
          | zero => intro y3_12 z_at_12 H locs ls hP hD hS hl hf; cases hf
          | succ n9 ih =>
            intro y3_12 z_at_12 H locs ls hP hD hS hl hf
            obtain ⟨rec12, hrec12, hf⟩ := lq2_s hf
            have hf := hB12 rec12 _ _ hf
            refine lv_iload_n hx hb dX9_wrongOne_16 rfl (lv_at hl 3 rfl) ?_
            refine lv_iconst (v := (3 : Int32)) hx hb dX9_wrongOne_17 (by decide) ?_
            refine lv_icmp_ge (tgt := 41) hx hb dX9_wrongOne_18 (by decide) (fun h9 => ?_) (fun h9 => ?_)
            · have hf := pg_t h9 hf
              exact WK41_3 _ _ _ _ hP hD hS (lv_sub hl [0, 1, 2] rfl) hf
            · have hf := pg_f h9 hf
              refine lv_aload_n hx hb dX9_wrongOne_21 rfl (lv_at hl 0 rfl) ?_
              refine va_get (D := (dC, dI)) (ci := 9) (v := .ref qz_at) (C := RX9) (T := TX9) (N := 32) hx hb hw inlX9 hown hK hP 0 rfl rfl 18 (by decide) (hw _ mw_6_9) (fun _ h9 => h9) rfl dX9_wrongOne_22 ?_
              refine lv_iload_n hx hb dX9_wrongOne_25 rfl (lv_at hl 3 rfl) ?_
              refine lv_aload_n hx hb dX9_wrongOne_26 rfl (lv_at hl 0 rfl) ?_
              refine va_get (D := (dC, dI)) (ci := 9) (v := .ref qz_times) (C := RX9) (T := TX9) (N := 32) hx hb hw inlX9 hown hK hP 0 rfl rfl 15 (by decide) (hw _ mw_6_7) (fun _ h9 => h9) rfl dX9_wrongOne_27 ?_
              refine lv_iload_n hx hb dX9_wrongOne_30 rfl (lv_at hl 2 rfl) ?_
              refine lv_iload_n hx hb dX9_wrongOne_31 rfl (lv_at hl 3 rfl) ?_
              refine lv_iadd hx hb dX9_wrongOne_32 ?_
              obtain ⟨hi13, hf⟩ := pg_chk hf
              refine va_iald hx hb hK hP 7 0 rfl rfl hi13 dX9_wrongOne_33 ?_
              obtain ⟨hi14, hf⟩ := pg_chk hf
              refine va_iast hx hb hK hP hD hS 9 0 rfl rfl hi14 dX9_wrongOne_34 (fun H locs hP hD hS => ?_)
              have hP : va_P (dC, dI) vwCl (W_X9z cI cZ cII qz qz_text qz_t qz_draft qz_s qz_kept qz_isKept qz_times qz_w qz_at qz_pulled qz_best qz_cartRow qz_tryRow qz_pairs qz_from qz_then qz_tryAt z_thrown z_typed z_next z_token z_place z_value z_figures z_fault z_faultAt z_timeMany z_eaten_2 z_half z_bestMinutes z_bestOats z_isDue z_text z_t z_draft z_s z_kept z_isKept z_times z_w_2 (upd z_at_12 (y3_12).toNatClampNeg (z_times ((((5 : Int32) * y1_2) + y3_12)).toNatClampNeg)) z_pulled_2 z_best z_cartRow z_tryRow z_pairs z_from z_then z_tryAt) H := hP
              have hD : va_D A (W_X9z cI cZ cII qz qz_text qz_t qz_draft qz_s qz_kept qz_isKept qz_times qz_w qz_at qz_pulled qz_best qz_cartRow qz_tryRow qz_pairs qz_from qz_then qz_tryAt z_thrown z_typed z_next z_token z_place z_value z_figures z_fault z_faultAt z_timeMany z_eaten_2 z_half z_bestMinutes z_bestOats z_isDue z_text z_t z_draft z_s z_kept z_isKept z_times z_w_2 (upd z_at_12 (y3_12).toNatClampNeg (z_times ((((5 : Int32) * y1_2) + y3_12)).toNatClampNeg)) z_pulled_2 z_best z_cartRow z_tryRow z_pairs z_from z_then z_tryAt) := hD
              refine lv_iinc (v := (y3_12 + (1 : Int32))) (lv' := [(3, .int (y3_12 + (1 : Int32))), (0, .ref qz), (1, .int y1_2), (2, .int ((5 : Int32) * y1_2))]) hx hb dX9_wrongOne_35 hl (k := 3) rfl rfl (by decide) rfl (fun ls hl => ?_)
              refine lv_goto (tgt := 16) hx hb dX9_wrongOne_38 (by decide) ?_
              exact ih _ _ _ _ _ hP hD hS (lv_sub hl [1, 2, 3, 0] rfl) (hrec12 _ _ hf)
        exact WL12 fu _ _ _ _ _ hP hD hS (lv_sub hl [2, 3, 1, 0] rfl) hf
  exact WL2 fu _ _ _ _ _ _ _ _ hP hD hS (lv_sub hl [1, 0] rfl) hf
def f_X9_pulls (n1 : Int32) (z_thrown : Int32) (z_timeMany : Int32) (z_eaten : Int32) (z_half : Int32) (z_t : Nat → Int32) (z_times : Nat → Int32) (z_w : Nat → Int32) (z_at : Nat → Int32) (z_pulled : Nat → Int32) : Option (Int32 × Int32 × Int32 × (Nat → Int32) × (Nat → Int32) × (Nat → Int32) × (Nat → Int32)) :=
  bn1 (f_X9_isHorse n1 z_t) (fun (r_1 : Int32) =>
    if r_1 = 0 then
      some ((-1000000001 : Int32), (0 : Int32), z_eaten, z_t, z_w, z_at, z_pulled)
    else
      if ((8 : Int32) + ((4 : Int32) * n1)) < 0 ∨ 84 ≤ (((8 : Int32) + ((4 : Int32) * n1))).toNatClampNeg then none else
      jn6 (fun (y3_3 : Int32) (z_eaten_3 : Int32) (z_t_3 : Nat → Int32) (z_w_3 : Nat → Int32) (z_at_3 : Nat → Int32) (z_pulled_3 : Nat → Int32) =>
        some (y3_3, (0 : Int32), z_eaten_3, (upd z_t_3 (((8 : Int32) + ((4 : Int32) * n1))).toNatClampNeg (z_t (((8 : Int32) + ((4 : Int32) * n1))).toNatClampNeg)), z_w_3, z_at_3, z_pulled_3)
      ) (fun K80_3 =>
      lq7 (fun rec4 (y3_4 : Int32) (y4_4 : Int32) (z_eaten_4 : Int32) (z_t_4 : Nat → Int32) (z_w_4 : Nat → Int32) (z_at_4 : Nat → Int32) (z_pulled_4 : Nat → Int32) =>
        if (31 : Int32) ≤ y4_4 then
          K80_3 y3_4 z_eaten_4 z_t_4 z_w_4 z_at_4 z_pulled_4
        else
          bn5 (f_X9_wrongOne z_timeMany z_eaten_4 z_half (upd z_t_4 (((8 : Int32) + ((4 : Int32) * n1))).toNatClampNeg y4_4) z_times z_w_4 z_at_4 z_pulled_4) (fun (r_5 : Int32) (z_eaten_5 : Int32) (z_w_5 : Nat → Int32) (z_at_5 : Nat → Int32) (z_pulled_5 : Nat → Int32) =>
            jn1 (fun (z1_6 : Int32) =>
              rec4 (y3_4 ||| z1_6) (y4_4 + (1 : Int32)) z_eaten_5 (upd z_t_4 (((8 : Int32) + ((4 : Int32) * n1))).toNatClampNeg y4_4) z_w_5 z_at_5 z_pulled_5
            ) (fun J72_6 =>
            if r_5 = (-1 : Int32) then
              J72_6 ((1 : Int32) <<< ((y4_4 - (1 : Int32)) &&& 31))
            else
              J72_6 (0 : Int32)
            )
          )
      ) fu (0 : Int32) (1 : Int32) z_eaten z_t z_w z_at z_pulled
      )
  )
abbrev rm_X9_pulls : Room := { frames := 6, cells := 0, slots := 0, locals := 139 }
theorem dk_X9_pulls : yX9_pulls.cls = RX9 ∧ yX9_pulls.cls ≠ "java/lang/invoke/MethodHandle" ∧ yX9_pulls.cls ≠ "java/lang/invoke/VarHandle" ∧ (parseMethodDescriptor yX9_pulls.desc).map (fun d => d.parameters.length) = some 1 := by decide +kernel
set_option maxHeartbeats 4000000 in
set_option maxRecDepth 100000 in
theorem c_X9_pulls (l : Launch) (dC : Nat → ClassId) (dI : Nat → Nat → Nat) (cI cZ cII : ClassId) (qz qz_text qz_t qz_draft qz_s qz_kept qz_isKept qz_times qz_w qz_at qz_pulled qz_best qz_cartRow qz_tryRow qz_pairs qz_from qz_then qz_tryAt : Nat) (sz : Nat) (z_thrown : Int32) (z_typed : Int32) (z_next : Int32) (z_token : Int32) (z_place : Int32) (z_value : Int32) (z_figures : Int32) (z_fault : Int32) (z_faultAt : Int32) (z_timeMany : Int32) (z_eaten : Int32) (z_half : Int32) (z_bestMinutes : Int32) (z_bestOats : Int32) (z_isDue : Int32) (z_text : Nat → Int32) (z_t : Nat → Int32) (z_draft : Nat → Int32) (z_s : Nat → Int32) (z_kept : Nat → Int32) (z_isKept : Nat → Int32) (z_times : Nat → Int32) (z_w : Nat → Int32) (z_at : Nat → Int32) (z_pulled : Nat → Int32) (z_best : Nat → Int32) (z_cartRow : Nat → Int32) (z_tryRow : Nat → Int32) (z_pairs : Nat → Int32) (z_from : Nat → Int32) (z_then : Nat → Int32) (z_tryAt : Nat → Int32) (n1 : Int32) (rr : Int32) (z_thrown' : Int32) (z_eaten' : Int32) (z_t' : Nat → Int32) (z_w' : Nat → Int32) (z_at' : Nat → Int32) (z_pulled' : Nat → Int32) (hf : f_X9_pulls n1 z_thrown z_timeMany z_eaten z_half z_t z_times z_w z_at z_pulled = some (rr, z_thrown', z_eaten', z_t', z_w', z_at', z_pulled')) : Met l yX9_pulls (wM yX9_pulls cX9_pulls 5 (some .int)) rm_X9_pulls (PreW (dC, dI) (tyA cI cZ cII) (W_X9z cI cZ cII qz qz_text qz_t qz_draft qz_s qz_kept qz_isKept qz_times qz_w qz_at qz_pulled qz_best qz_cartRow qz_tryRow qz_pairs qz_from qz_then qz_tryAt z_thrown z_typed z_next z_token z_place z_value z_figures z_fault z_faultAt z_timeMany z_eaten z_half z_bestMinutes z_bestOats z_isDue z_text z_t z_draft z_s z_kept z_isKept z_times z_w z_at z_pulled z_best z_cartRow z_tryRow z_pairs z_from z_then z_tryAt) sz [.ref qz, .int n1]) (PostI (dC, dI) (tyA cI cZ cII) rr (W_X9z cI cZ cII qz qz_text qz_t qz_draft qz_s qz_kept qz_isKept qz_times qz_w qz_at qz_pulled qz_best qz_cartRow qz_tryRow qz_pairs qz_from qz_then qz_tryAt z_thrown z_typed z_next z_token z_place z_value z_figures z_fault z_faultAt z_timeMany z_eaten z_half z_bestMinutes z_bestOats z_isDue z_text z_t z_draft z_s z_kept z_isKept z_times z_w z_at z_pulled z_best z_cartRow z_tryRow z_pairs z_from z_then z_tryAt) (W_X9z cI cZ cII qz qz_text qz_t qz_draft qz_s qz_kept qz_isKept qz_times qz_w qz_at qz_pulled qz_best qz_cartRow qz_tryRow qz_pairs qz_from qz_then qz_tryAt z_thrown' z_typed z_next z_token z_place z_value z_figures z_fault z_faultAt z_timeMany z_eaten' z_half z_bestMinutes z_bestOats z_isDue z_text z_t' z_draft z_s z_kept z_isKept z_times z_w' z_at' z_pulled' z_best z_cartRow z_tryRow z_pairs z_from z_then z_tryAt) sz) 0 0 (va_A (W_X9z cI cZ cII qz qz_text qz_t qz_draft qz_s qz_kept qz_isKept qz_times qz_w qz_at qz_pulled qz_best qz_cartRow qz_tryRow qz_pairs qz_from qz_then qz_tryAt z_thrown z_typed z_next z_token z_place z_value z_figures z_fault z_faultAt z_timeMany z_eaten z_half z_bestMinutes z_bestOats z_isDue z_text z_t z_draft z_s z_kept z_isKept z_times z_w z_at z_pulled z_best z_cartRow z_tryRow z_pairs z_from z_then z_tryAt) sz) := by
  refine Met.ofW (cc := cX9_pulls) (maxL := 5) (ret := (some .int)) (by decide) rfl ?_
  intro p e s m args below meth c s₁ B hml hv
  obtain ⟨rfl, hsz, hP, hK, hD0⟩ := hv
  have hx := B.exec
  have hb := B.bytes
  have hr := B.returns
  have hts := atoms_spec (ws := wM yX9_pulls cX9_pulls 5 (some .int)) B.pre
  have hown : s.vm.findClass RX9 = some m.cls := findClass_of_methodNamed B.named
  have hlocks := B.notSynchronized
  subst hsz
  have hD := hD0.self (sz := s.heap.size)
  obtain ⟨A, hAe⟩ : ∃ A, A = va_A (W_X9z cI cZ cII qz qz_text qz_t qz_draft qz_s qz_kept qz_isKept qz_times qz_w qz_at qz_pulled qz_best qz_cartRow qz_tryRow qz_pairs qz_from qz_then qz_tryAt z_thrown z_typed z_next z_token z_place z_value z_figures z_fault z_faultAt z_timeMany z_eaten z_half z_bestMinutes z_bestOats z_isDue z_text z_t z_draft z_s z_kept z_isKept z_times z_w z_at z_pulled z_best z_cartRow z_tryRow z_pairs z_from z_then z_tryAt) s.heap.size := ⟨_, rfl⟩
  rw [← hAe] at hD
  have hA : ∀ q : Nat, s.heap.size ≤ q → A q := fun q h => by rw [hAe]; exact Or.inr h
  have hS : va_S A s.heap s.heap [] := va_S.rf
  have hl := lv_entry ([.ref qz, .int n1]) (n := 5) (Nat.le_of_ble_eq_true rfl)
  rw [lg_entry_eq]
  generalize (lg_sl ([.ref qz, .int n1]) ++ List.replicate (5 - (lg_sl ([.ref qz, .int n1])).length) Slot.unset).toArray = ls at hl ⊢
  have hl : lv_has ls 5 [(0, .ref qz), (1, .int n1)] := hl
  generalize ([.ref qz, .int n1] : List Value).toArray = args at hts ⊢
  have hw : ∀ w ∈ wsL_law, w.before args s = true := fun w h => hts w (List.mem_cons_of_mem _ h)
  refine pg_start (fun Q hQ => ?_)
  have RET : ∀ (H : Heap) (locs : List Loc) (ls : Array Slot) (pc : Nat) (v : Int32) (x0 : Int32) (x1 : Int32) (x2 : Nat → Int32) (x3 : Nat → Int32) (x4 : Nat → Int32) (x5 : Nat → Int32) , decode cX9_pulls pc = .ok (.ireturn, 1) → va_P (dC, dI) vwCl (W_X9z cI cZ cII qz qz_text qz_t qz_draft qz_s qz_kept qz_isKept qz_times qz_w qz_at qz_pulled qz_best qz_cartRow qz_tryRow qz_pairs qz_from qz_then qz_tryAt x0 z_typed z_next z_token z_place z_value z_figures z_fault z_faultAt z_timeMany x1 z_half z_bestMinutes z_bestOats z_isDue z_text x2 z_draft z_s z_kept z_isKept z_times x3 x4 x5 z_best z_cartRow z_tryRow z_pairs z_from z_then z_tryAt) H → va_D A (W_X9z cI cZ cII qz qz_text qz_t qz_draft qz_s qz_kept qz_isKept qz_times qz_w qz_at qz_pulled qz_best qz_cartRow qz_tryRow qz_pairs qz_from qz_then qz_tryAt x0 z_typed z_next z_token z_place z_value z_figures z_fault z_faultAt z_timeMany x1 z_half z_bestMinutes z_bestOats z_isDue z_text x2 z_draft z_s z_kept z_isKept z_times x3 x4 x5 z_best z_cartRow z_tryRow z_pairs z_from z_then z_tryAt) → va_S A s.heap H locs → (some (v, x0, x1, x2, x3, x4, x5) : Option (Int32 × Int32 × Int32 × (Nat → Int32) × (Nat → Int32) × (Nat → Int32) × (Nat → Int32))) = some (rr, z_thrown', z_eaten', z_t', z_w', z_at', z_pulled') → W p l e rm_X9_pulls s m args below meth c H locs 0 0 Q (F0 m pc ls [.int v]) := by
    intro H locs ls pc v x0 x1 x2 x3 x4 x5 hd hP hD hS he
    subst hAe; subst hQ
    simp only [Option.some.injEq, Prod.mk.injEq] at he
    obtain ⟨rfl, rfl, rfl, rfl, rfl, rfl, rfl⟩ := he
    exact pg_iret hx hb hr hlocks hK hP hD hS hd
  unfold f_X9_pulls at hf
  refine lv_aload_n hx hb dX9_pulls_0 rfl (lv_at hl 0 rfl) ?_
  refine lv_iconst (v := (0 : Int32)) hx hb dX9_pulls_1 (by decide) ?_
  refine va_put (D := (dC, dI)) (ci := 9) (v := .int (0 : Int32)) (ty := .int) (C := RX9) (T := TX9) (N := 32) hx hb hw inlX9 tyX9 tyX9_ok nmX9 hown hK hP hD hS 0 rfl rfl 0 (by decide) (hw _ mw_7_19) (fun _ h9 => h9) rfl (by decide +kernel) rfl rfl (Nat.le_of_ble_eq_true rfl) dX9_pulls_2 (fun H locs hP hD hS => ?_)
  have hP : va_P (dC, dI) vwCl (W_X9z cI cZ cII qz qz_text qz_t qz_draft qz_s qz_kept qz_isKept qz_times qz_w qz_at qz_pulled qz_best qz_cartRow qz_tryRow qz_pairs qz_from qz_then qz_tryAt (0 : Int32) z_typed z_next z_token z_place z_value z_figures z_fault z_faultAt z_timeMany z_eaten z_half z_bestMinutes z_bestOats z_isDue z_text z_t z_draft z_s z_kept z_isKept z_times z_w z_at z_pulled z_best z_cartRow z_tryRow z_pairs z_from z_then z_tryAt) H := hP
  have hD : va_D A (W_X9z cI cZ cII qz qz_text qz_t qz_draft qz_s qz_kept qz_isKept qz_times qz_w qz_at qz_pulled qz_best qz_cartRow qz_tryRow qz_pairs qz_from qz_then qz_tryAt (0 : Int32) z_typed z_next z_token z_place z_value z_figures z_fault z_faultAt z_timeMany z_eaten z_half z_bestMinutes z_bestOats z_isDue z_text z_t z_draft z_s z_kept z_isKept z_times z_w z_at z_pulled z_best z_cartRow z_tryRow z_pairs z_from z_then z_tryAt) := hD
  refine lv_aload_n hx hb dX9_pulls_5 rfl (lv_at hl 0 rfl) ?_
  refine lv_iload_n hx hb dX9_pulls_6 rfl (lv_at hl 1 rfl) ?_
  obtain ⟨r_1, hc, hf⟩ := bn1_s hf
  refine pg_cVi (As := [.int n1]) (rest := []) (wf := (W_X9z cI cZ cII qz qz_text qz_t qz_draft qz_s qz_kept qz_isKept qz_times qz_w qz_at qz_pulled qz_best qz_cartRow qz_tryRow qz_pairs qz_from qz_then qz_tryAt (0 : Int32) z_typed z_next z_token z_place z_value z_figures z_fault z_faultAt z_timeMany z_eaten z_half z_bestMinutes z_bestOats z_isDue z_text z_t z_draft z_s z_kept z_isKept z_times z_w z_at z_pulled z_best z_cartRow z_tryRow z_pairs z_from z_then z_tryAt)) ⟨hx, hb, hml, hown, hw⟩ (c_X9_isHorse l dC dI cI cZ cII qz qz_text qz_t qz_draft qz_s qz_kept qz_isKept qz_times qz_w qz_at qz_pulled qz_best qz_cartRow qz_tryRow qz_pairs qz_from qz_then qz_tryAt H.size (0 : Int32) z_typed z_next z_token z_place z_value z_figures z_fault z_faultAt z_timeMany z_eaten z_half z_bestMinutes z_bestOats z_isDue z_text z_t z_draft z_s z_kept z_isKept z_times z_w z_at z_pulled z_best z_cartRow z_tryRow z_pairs z_from z_then z_tryAt n1 r_1 hc) (cwV 1 hts (wM_V mw_25_13 mw_25_14 mw_25_15 mw_1_5 mw_25_16) rfl rfl rfl dk_X9_isHorse ⟨Nat.le_of_ble_eq_true rfl, Nat.le_of_ble_eq_true rfl⟩) hK hP hD hS hA 9 0 rfl rfl rfl [0, 1, 2, 3, 4, 5, 6, 7, 8, 9, 10, 11, 12, 13, 14, 15, 16, 17] [] [0, 1, 2, 3, 4, 5, 6, 7, 8, 9, 10, 11, 12, 13, 14, 15, 16, 17] (plC_64 cI cZ cII qz qz_text qz_t qz_draft qz_s qz_kept qz_isKept qz_times qz_w qz_at qz_pulled qz_best qz_cartRow qz_tryRow qz_pairs qz_from qz_then qz_tryAt (0 : Int32) z_typed z_next z_token z_place z_value z_figures z_fault z_faultAt z_timeMany z_eaten z_half z_bestMinutes z_bestOats z_isDue z_text z_t z_draft z_s z_kept z_isKept z_times z_w z_at z_pulled z_best z_cartRow z_tryRow z_pairs z_from z_then z_tryAt) rfl (plF_64 cI cZ cII qz qz_text qz_t qz_draft qz_s qz_kept qz_isKept qz_times qz_w qz_at qz_pulled qz_best qz_cartRow qz_tryRow qz_pairs qz_from qz_then qz_tryAt (0 : Int32) z_typed z_next z_token z_place z_value z_figures z_fault z_faultAt z_timeMany z_eaten z_half z_bestMinutes z_bestOats z_isDue z_text z_t z_draft z_s z_kept z_isKept z_times z_w z_at z_pulled z_best z_cartRow z_tryRow z_pairs z_from z_then z_tryAt (0 : Int32) z_typed z_next z_token z_place z_value z_figures z_fault z_faultAt z_timeMany z_eaten z_half z_bestMinutes z_bestOats z_isDue z_text z_t z_draft z_s z_kept z_isKept z_times z_w z_at z_pulled z_best z_cartRow z_tryRow z_pairs z_from z_then z_tryAt) (by decide) rfl hl.1 rfl (Nat.le_of_ble_eq_true rfl) dX9_pulls_7 ⟨Nat.zero_le _, Nat.zero_le _⟩ (fun H locs hP hD hS => ?_)
  refine lv_if_ne (tgt := 16) hx hb dX9_pulls_10 (by decide) (fun h9 => ?_) (fun h9 => ?_)
  · have hf := pg_f h9 hf
    refine lv_aload_n hx hb dX9_pulls_16 rfl (lv_at hl 0 rfl) ?_
    refine va_get (D := (dC, dI)) (ci := 9) (v := .ref qz_t) (C := RX9) (T := TX9) (N := 32) hx hb hw inlX9 hown hK hP 0 rfl rfl 10 (by decide) (hw _ mw_6_1) (fun _ h9 => h9) rfl dX9_pulls_17 ?_
    refine lv_bipush (v := (8 : Int32)) hx hb dX9_pulls_20 (by decide) ?_
    refine lv_iconst (v := (4 : Int32)) hx hb dX9_pulls_22 (by decide) ?_
    refine lv_iload_n hx hb dX9_pulls_23 rfl (lv_at hl 1 rfl) ?_
    refine lv_imul hx hb dX9_pulls_24 ?_
    refine lv_iadd hx hb dX9_pulls_25 ?_
    obtain ⟨hi2, hf⟩ := pg_chk hf
    refine va_iald hx hb hK hP 2 0 rfl rfl hi2 dX9_pulls_26 ?_
    refine lv_istore_n (lv' := [(2, .int (z_t (((8 : Int32) + ((4 : Int32) * n1))).toNatClampNeg)), (0, .ref qz), (1, .int n1)]) hx hb dX9_pulls_27 rfl hl (by decide) rfl (fun ls hl => ?_)
    refine lv_iconst (v := (0 : Int32)) hx hb dX9_pulls_28 (by decide) ?_
    refine lv_istore_n (lv' := [(3, .int (0 : Int32)), (2, .int (z_t (((8 : Int32) + ((4 : Int32) * n1))).toNatClampNeg)), (0, .ref qz), (1, .int n1)]) hx hb dX9_pulls_29 rfl hl (by decide) rfl (fun ls hl => ?_)
    refine lv_iconst (v := (1 : Int32)) hx hb dX9_pulls_30 (by decide) ?_
    refine lv_istore (lv' := [(4, .int (1 : Int32)), (3, .int (0 : Int32)), (2, .int (z_t (((8 : Int32) + ((4 : Int32) * n1))).toNatClampNeg)), (0, .ref qz), (1, .int n1)]) hx hb dX9_pulls_31 hl (by decide) rfl (fun ls hl => ?_)
    obtain ⟨K80_3, hK80_3, hf⟩ := jn6_s hf
    have WK80_3 : ∀ (y3_3 : Int32) (z_eaten_3 : Int32) (z_t_3 : Nat → Int32) (z_w_3 : Nat → Int32) (z_at_3 : Nat → Int32) (z_pulled_3 : Nat → Int32) (H : Heap) (locs : List Loc) (ls : Array Slot), va_P (dC, dI) vwCl (W_X9z cI cZ cII qz qz_text qz_t qz_draft qz_s qz_kept qz_isKept qz_times qz_w qz_at qz_pulled qz_best qz_cartRow qz_tryRow qz_pairs qz_from qz_then qz_tryAt (0 : Int32) z_typed z_next z_token z_place z_value z_figures z_fault z_faultAt z_timeMany z_eaten_3 z_half z_bestMinutes z_bestOats z_isDue z_text z_t_3 z_draft z_s z_kept z_isKept z_times z_w_3 z_at_3 z_pulled_3 z_best z_cartRow z_tryRow z_pairs z_from z_then z_tryAt) H → va_D A (W_X9z cI cZ cII qz qz_text qz_t qz_draft qz_s qz_kept qz_isKept qz_times qz_w qz_at qz_pulled qz_best qz_cartRow qz_tryRow qz_pairs qz_from qz_then qz_tryAt (0 : Int32) z_typed z_next z_token z_place z_value z_figures z_fault z_faultAt z_timeMany z_eaten_3 z_half z_bestMinutes z_bestOats z_isDue z_text z_t_3 z_draft z_s z_kept z_isKept z_times z_w_3 z_at_3 z_pulled_3 z_best z_cartRow z_tryRow z_pairs z_from z_then z_tryAt) → va_S A s.heap H locs → lv_has ls 5 [(0, .ref qz), (1, .int n1), (2, .int (z_t (((8 : Int32) + ((4 : Int32) * n1))).toNatClampNeg)), (3, .int y3_3)] → K80_3 y3_3 z_eaten_3 z_t_3 z_w_3 z_at_3 z_pulled_3 = some (rr, z_thrown', z_eaten', z_t', z_w', z_at', z_pulled') → W p l e rm_X9_pulls s m args below meth c H locs 0 0 Q (F0 m 80 ls []) := by
      intro y3_3 z_eaten_3 z_t_3 z_w_3 z_at_3 z_pulled_3 H locs ls hP hD hS hl hf
      have hf := hK80_3 _ _ _ _ _ _ hf
      refine lv_aload_n hx hb dX9_pulls_80 rfl (lv_at hl 0 rfl) ?_
      refine va_get (D := (dC, dI)) (ci := 9) (v := .ref qz_t) (C := RX9) (T := TX9) (N := 32) hx hb hw inlX9 hown hK hP 0 rfl rfl 10 (by decide) (hw _ mw_6_1) (fun _ h9 => h9) rfl dX9_pulls_81 ?_
      refine lv_bipush (v := (8 : Int32)) hx hb dX9_pulls_84 (by decide) ?_
      refine lv_iconst (v := (4 : Int32)) hx hb dX9_pulls_86 (by decide) ?_
      refine lv_iload_n hx hb dX9_pulls_87 rfl (lv_at hl 1 rfl) ?_
      refine lv_imul hx hb dX9_pulls_88 ?_
      refine lv_iadd hx hb dX9_pulls_89 ?_
      refine lv_iload_n hx hb dX9_pulls_90 rfl (lv_at hl 2 rfl) ?_
      refine va_iast hx hb hK hP hD hS 2 0 rfl rfl hi2 dX9_pulls_91 (fun H locs hP hD hS => ?_)
      have hP : va_P (dC, dI) vwCl (W_X9z cI cZ cII qz qz_text qz_t qz_draft qz_s qz_kept qz_isKept qz_times qz_w qz_at qz_pulled qz_best qz_cartRow qz_tryRow qz_pairs qz_from qz_then qz_tryAt (0 : Int32) z_typed z_next z_token z_place z_value z_figures z_fault z_faultAt z_timeMany z_eaten_3 z_half z_bestMinutes z_bestOats z_isDue z_text (upd z_t_3 (((8 : Int32) + ((4 : Int32) * n1))).toNatClampNeg (z_t (((8 : Int32) + ((4 : Int32) * n1))).toNatClampNeg)) z_draft z_s z_kept z_isKept z_times z_w_3 z_at_3 z_pulled_3 z_best z_cartRow z_tryRow z_pairs z_from z_then z_tryAt) H := hP
      have hD : va_D A (W_X9z cI cZ cII qz qz_text qz_t qz_draft qz_s qz_kept qz_isKept qz_times qz_w qz_at qz_pulled qz_best qz_cartRow qz_tryRow qz_pairs qz_from qz_then qz_tryAt (0 : Int32) z_typed z_next z_token z_place z_value z_figures z_fault z_faultAt z_timeMany z_eaten_3 z_half z_bestMinutes z_bestOats z_isDue z_text (upd z_t_3 (((8 : Int32) + ((4 : Int32) * n1))).toNatClampNeg (z_t (((8 : Int32) + ((4 : Int32) * n1))).toNatClampNeg)) z_draft z_s z_kept z_isKept z_times z_w_3 z_at_3 z_pulled_3 z_best z_cartRow z_tryRow z_pairs z_from z_then z_tryAt) := hD
      refine lv_iload_n hx hb dX9_pulls_92 rfl (lv_at hl 3 rfl) ?_
      exact RET _ _ _ _ _ _ _ _ _ _ _ dX9_pulls_93 hP hD hS hf
    obtain ⟨B4, hB4, hf⟩ := lq7_n hf
    have WL4 : ∀ (n9 : Nat) (y3_4 : Int32) (y4_4 : Int32) (z_eaten_4 : Int32) (z_t_4 : Nat → Int32) (z_w_4 : Nat → Int32) (z_at_4 : Nat → Int32) (z_pulled_4 : Nat → Int32) (H : Heap) (locs : List Loc) (ls : Array Slot), va_P (dC, dI) vwCl (W_X9z cI cZ cII qz qz_text qz_t qz_draft qz_s qz_kept qz_isKept qz_times qz_w qz_at qz_pulled qz_best qz_cartRow qz_tryRow qz_pairs qz_from qz_then qz_tryAt (0 : Int32) z_typed z_next z_token z_place z_value z_figures z_fault z_faultAt z_timeMany z_eaten_4 z_half z_bestMinutes z_bestOats z_isDue z_text z_t_4 z_draft z_s z_kept z_isKept z_times z_w_4 z_at_4 z_pulled_4 z_best z_cartRow z_tryRow z_pairs z_from z_then z_tryAt) H → va_D A (W_X9z cI cZ cII qz qz_text qz_t qz_draft qz_s qz_kept qz_isKept qz_times qz_w qz_at qz_pulled qz_best qz_cartRow qz_tryRow qz_pairs qz_from qz_then qz_tryAt (0 : Int32) z_typed z_next z_token z_place z_value z_figures z_fault z_faultAt z_timeMany z_eaten_4 z_half z_bestMinutes z_bestOats z_isDue z_text z_t_4 z_draft z_s z_kept z_isKept z_times z_w_4 z_at_4 z_pulled_4 z_best z_cartRow z_tryRow z_pairs z_from z_then z_tryAt) → va_S A s.heap H locs → lv_has ls 5 [(0, .ref qz), (1, .int n1), (2, .int (z_t (((8 : Int32) + ((4 : Int32) * n1))).toNatClampNeg)), (3, .int y3_4), (4, .int y4_4)] → lq7 B4 n9 y3_4 y4_4 z_eaten_4 z_t_4 z_w_4 z_at_4 z_pulled_4 = some (rr, z_thrown', z_eaten', z_t', z_w', z_at', z_pulled') → W p l e rm_X9_pulls s m args below meth c H locs 0 0 Q (F0 m 33 ls []) := by
      intro n9
      induction n9 with
      | zero => intro y3_4 y4_4 z_eaten_4 z_t_4 z_w_4 z_at_4 z_pulled_4 H locs ls hP hD hS hl hf; cases hf
      | succ n9 ih =>
        intro y3_4 y4_4 z_eaten_4 z_t_4 z_w_4 z_at_4 z_pulled_4 H locs ls hP hD hS hl hf
        obtain ⟨rec4, hrec4, hf⟩ := lq7_s hf
        have hf := hB4 rec4 _ _ _ _ _ _ _ hf
        refine lv_iload hx hb dX9_pulls_33 (lv_at hl 4 rfl) ?_
        refine lv_bipush (v := (31 : Int32)) hx hb dX9_pulls_35 (by decide) ?_
        refine lv_icmp_ge (tgt := 80) hx hb dX9_pulls_37 (by decide) (fun h9 => ?_) (fun h9 => ?_)
        · have hf := pg_t h9 hf
          exact WK80_3 _ _ _ _ _ _ _ _ _ hP hD hS (lv_sub hl [0, 1, 2, 3] rfl) hf
        · have hf := pg_f h9 hf
          refine lv_aload_n hx hb dX9_pulls_40 rfl (lv_at hl 0 rfl) ?_
          refine va_get (D := (dC, dI)) (ci := 9) (v := .ref qz_t) (C := RX9) (T := TX9) (N := 32) hx hb hw inlX9 hown hK hP 0 rfl rfl 10 (by decide) (hw _ mw_6_1) (fun _ h9 => h9) rfl dX9_pulls_41 ?_
          refine lv_bipush (v := (8 : Int32)) hx hb dX9_pulls_44 (by decide) ?_
          refine lv_iconst (v := (4 : Int32)) hx hb dX9_pulls_46 (by decide) ?_
          refine lv_iload_n hx hb dX9_pulls_47 rfl (lv_at hl 1 rfl) ?_
          refine lv_imul hx hb dX9_pulls_48 ?_
          refine lv_iadd hx hb dX9_pulls_49 ?_
          refine lv_iload hx hb dX9_pulls_50 (lv_at hl 4 rfl) ?_
          refine va_iast hx hb hK hP hD hS 2 0 rfl rfl hi2 dX9_pulls_52 (fun H locs hP hD hS => ?_)
          have hP : va_P (dC, dI) vwCl (W_X9z cI cZ cII qz qz_text qz_t qz_draft qz_s qz_kept qz_isKept qz_times qz_w qz_at qz_pulled qz_best qz_cartRow qz_tryRow qz_pairs qz_from qz_then qz_tryAt (0 : Int32) z_typed z_next z_token z_place z_value z_figures z_fault z_faultAt z_timeMany z_eaten_4 z_half z_bestMinutes z_bestOats z_isDue z_text (upd z_t_4 (((8 : Int32) + ((4 : Int32) * n1))).toNatClampNeg y4_4) z_draft z_s z_kept z_isKept z_times z_w_4 z_at_4 z_pulled_4 z_best z_cartRow z_tryRow z_pairs z_from z_then z_tryAt) H := hP
          have hD : va_D A (W_X9z cI cZ cII qz qz_text qz_t qz_draft qz_s qz_kept qz_isKept qz_times qz_w qz_at qz_pulled qz_best qz_cartRow qz_tryRow qz_pairs qz_from qz_then qz_tryAt (0 : Int32) z_typed z_next z_token z_place z_value z_figures z_fault z_faultAt z_timeMany z_eaten_4 z_half z_bestMinutes z_bestOats z_isDue z_text (upd z_t_4 (((8 : Int32) + ((4 : Int32) * n1))).toNatClampNeg y4_4) z_draft z_s z_kept z_isKept z_times z_w_4 z_at_4 z_pulled_4 z_best z_cartRow z_tryRow z_pairs z_from z_then z_tryAt) := hD
          refine lv_iload_n hx hb dX9_pulls_53 rfl (lv_at hl 3 rfl) ?_
          refine lv_aload_n hx hb dX9_pulls_54 rfl (lv_at hl 0 rfl) ?_
          obtain ⟨r_5, z_eaten_5, z_w_5, z_at_5, z_pulled_5, hc, hf⟩ := bn5_s hf
          refine pg_cVi (As := []) (rest := [.int y3_4]) (wf := (W_X9z cI cZ cII qz qz_text qz_t qz_draft qz_s qz_kept qz_isKept qz_times qz_w qz_at qz_pulled qz_best qz_cartRow qz_tryRow qz_pairs qz_from qz_then qz_tryAt (0 : Int32) z_typed z_next z_token z_place z_value z_figures z_fault z_faultAt z_timeMany z_eaten_5 z_half z_bestMinutes z_bestOats z_isDue z_text (upd z_t_4 (((8 : Int32) + ((4 : Int32) * n1))).toNatClampNeg y4_4) z_draft z_s z_kept z_isKept z_times z_w_5 z_at_5 z_pulled_5 z_best z_cartRow z_tryRow z_pairs z_from z_then z_tryAt)) ⟨hx, hb, hml, hown, hw⟩ (c_X9_wrongOne l dC dI cI cZ cII qz qz_text qz_t qz_draft qz_s qz_kept qz_isKept qz_times qz_w qz_at qz_pulled qz_best qz_cartRow qz_tryRow qz_pairs qz_from qz_then qz_tryAt H.size (0 : Int32) z_typed z_next z_token z_place z_value z_figures z_fault z_faultAt z_timeMany z_eaten_4 z_half z_bestMinutes z_bestOats z_isDue z_text (upd z_t_4 (((8 : Int32) + ((4 : Int32) * n1))).toNatClampNeg y4_4) z_draft z_s z_kept z_isKept z_times z_w_4 z_at_4 z_pulled_4 z_best z_cartRow z_tryRow z_pairs z_from z_then z_tryAt  r_5 z_eaten_5 z_w_5 z_at_5 z_pulled_5 hc) (cwV 0 hts (wM_V mw_44_16 mw_44_17 mw_44_18 mw_1_5 mw_44_19) rfl rfl rfl dk_X9_wrongOne ⟨Nat.le_of_ble_eq_true rfl, Nat.le_of_ble_eq_true rfl⟩) hK hP hD hS hA 9 0 rfl rfl rfl [0, 1, 2, 3, 4, 5, 6, 7, 8, 9, 10, 11, 12, 13, 14, 15, 16, 17] [] [0, 1, 2, 3, 4, 5, 6, 7, 8, 9, 10, 11, 12, 13, 14, 15, 16, 17] (plC_64 cI cZ cII qz qz_text qz_t qz_draft qz_s qz_kept qz_isKept qz_times qz_w qz_at qz_pulled qz_best qz_cartRow qz_tryRow qz_pairs qz_from qz_then qz_tryAt (0 : Int32) z_typed z_next z_token z_place z_value z_figures z_fault z_faultAt z_timeMany z_eaten_4 z_half z_bestMinutes z_bestOats z_isDue z_text (upd z_t_4 (((8 : Int32) + ((4 : Int32) * n1))).toNatClampNeg y4_4) z_draft z_s z_kept z_isKept z_times z_w_4 z_at_4 z_pulled_4 z_best z_cartRow z_tryRow z_pairs z_from z_then z_tryAt) rfl (plF_64 cI cZ cII qz qz_text qz_t qz_draft qz_s qz_kept qz_isKept qz_times qz_w qz_at qz_pulled qz_best qz_cartRow qz_tryRow qz_pairs qz_from qz_then qz_tryAt (0 : Int32) z_typed z_next z_token z_place z_value z_figures z_fault z_faultAt z_timeMany z_eaten_4 z_half z_bestMinutes z_bestOats z_isDue z_text (upd z_t_4 (((8 : Int32) + ((4 : Int32) * n1))).toNatClampNeg y4_4) z_draft z_s z_kept z_isKept z_times z_w_4 z_at_4 z_pulled_4 z_best z_cartRow z_tryRow z_pairs z_from z_then z_tryAt (0 : Int32) z_typed z_next z_token z_place z_value z_figures z_fault z_faultAt z_timeMany z_eaten_5 z_half z_bestMinutes z_bestOats z_isDue z_text (upd z_t_4 (((8 : Int32) + ((4 : Int32) * n1))).toNatClampNeg y4_4) z_draft z_s z_kept z_isKept z_times z_w_5 z_at_5 z_pulled_5 z_best z_cartRow z_tryRow z_pairs z_from z_then z_tryAt) (by decide) rfl hl.1 rfl (Nat.le_of_ble_eq_true rfl) dX9_pulls_55 ⟨Nat.zero_le _, Nat.zero_le _⟩ (fun H locs hP hD hS => ?_)
          refine lv_iconst (v := (-1 : Int32)) hx hb dX9_pulls_58 (by decide) ?_
          obtain ⟨J72_6, hJ72_6, hf⟩ := jn1_s hf
          have WJ72_6 : ∀ (z1_6 : Int32) (H : Heap) (locs : List Loc) (ls : Array Slot), va_P (dC, dI) vwCl (W_X9z cI cZ cII qz qz_text qz_t qz_draft qz_s qz_kept qz_isKept qz_times qz_w qz_at qz_pulled qz_best qz_cartRow qz_tryRow qz_pairs qz_from qz_then qz_tryAt (0 : Int32) z_typed z_next z_token z_place z_value z_figures z_fault z_faultAt z_timeMany z_eaten_5 z_half z_bestMinutes z_bestOats z_isDue z_text (upd z_t_4 (((8 : Int32) + ((4 : Int32) * n1))).toNatClampNeg y4_4) z_draft z_s z_kept z_isKept z_times z_w_5 z_at_5 z_pulled_5 z_best z_cartRow z_tryRow z_pairs z_from z_then z_tryAt) H → va_D A (W_X9z cI cZ cII qz qz_text qz_t qz_draft qz_s qz_kept qz_isKept qz_times qz_w qz_at qz_pulled qz_best qz_cartRow qz_tryRow qz_pairs qz_from qz_then qz_tryAt (0 : Int32) z_typed z_next z_token z_place z_value z_figures z_fault z_faultAt z_timeMany z_eaten_5 z_half z_bestMinutes z_bestOats z_isDue z_text (upd z_t_4 (((8 : Int32) + ((4 : Int32) * n1))).toNatClampNeg y4_4) z_draft z_s z_kept z_isKept z_times z_w_5 z_at_5 z_pulled_5 z_best z_cartRow z_tryRow z_pairs z_from z_then z_tryAt) → va_S A s.heap H locs → lv_has ls 5 [(0, .ref qz), (1, .int n1), (2, .int (z_t (((8 : Int32) + ((4 : Int32) * n1))).toNatClampNeg)), (4, .int y4_4)] → J72_6 z1_6 = some (rr, z_thrown', z_eaten', z_t', z_w', z_at', z_pulled') → W p l e rm_X9_pulls s m args below meth c H locs 0 0 Q (F0 m 72 ls [.int z1_6, .int y3_4]) := by
            intro z1_6 H locs ls hP hD hS hl hf
            have hf := hJ72_6 _ hf
            refine lv_ior hx hb dX9_pulls_72 ?_
            refine lv_istore_n (lv' := [(3, .int (y3_4 ||| z1_6)), (0, .ref qz), (1, .int n1), (2, .int (z_t (((8 : Int32) + ((4 : Int32) * n1))).toNatClampNeg)), (4, .int y4_4)]) hx hb dX9_pulls_73 rfl hl (by decide) rfl (fun ls hl => ?_)
            refine lv_iinc (v := (y4_4 + (1 : Int32))) (lv' := [(4, .int (y4_4 + (1 : Int32))), (3, .int (y3_4 ||| z1_6)), (0, .ref qz), (1, .int n1), (2, .int (z_t (((8 : Int32) + ((4 : Int32) * n1))).toNatClampNeg))]) hx hb dX9_pulls_74 hl (k := 4) rfl rfl (by decide) rfl (fun ls hl => ?_)
            refine lv_goto (tgt := 33) hx hb dX9_pulls_77 (by decide) ?_
            exact ih _ _ _ _ _ _ _ _ _ _ hP hD hS (lv_sub hl [2, 3, 4, 1, 0] rfl) (hrec4 _ _ _ _ _ _ _ hf)
          refine lv_icmp_ne (tgt := 71) hx hb dX9_pulls_59 (by decide) (fun h9 => ?_) (fun h9 => ?_)
          · have hf := pg_f h9 hf
            refine lv_iconst (v := (0 : Int32)) hx hb dX9_pulls_71 (by decide) ?_
            exact WJ72_6 _ _ _ _ hP hD hS (lv_sub hl [0, 1, 2, 4] rfl) hf
          · have hf := pg_t h9 hf
            refine lv_iconst (v := (1 : Int32)) hx hb dX9_pulls_62 (by decide) ?_
            refine lv_iload hx hb dX9_pulls_63 (lv_at hl 4 rfl) ?_
            refine lv_iconst (v := (1 : Int32)) hx hb dX9_pulls_65 (by decide) ?_
            refine lv_isub hx hb dX9_pulls_66 ?_
            refine lv_ishl hx hb dX9_pulls_67 ?_
            refine lv_goto (tgt := 72) hx hb dX9_pulls_68 (by decide) ?_
            exact WJ72_6 _ _ _ _ hP hD hS (lv_sub hl [0, 1, 2, 4] rfl) hf
    exact WL4 fu _ _ _ _ _ _ _ _ _ _ hP hD hS (lv_sub hl [3, 4, 2, 1, 0] rfl) hf
  · have hf := pg_t h9 hf
    refine lv_ldc (v := (-1000000001 : Int32)) hx hb hown (hw _ mw_25_12) dX9_pulls_13 ?_
    exact RET _ _ _ _ _ _ _ _ _ _ _ dX9_pulls_15 hP hD hS hf
def f_X9_sham (z_thrown : Int32) (z_timeMany : Int32) (z_eaten : Int32) (z_half : Int32) (z_t : Nat → Int32) (z_times : Nat → Int32) (z_w : Nat → Int32) (z_at : Nat → Int32) (z_pulled : Nat → Int32) : Option (Int32 × Int32 × Int32 × Int32 × (Nat → Int32) × (Nat → Int32) × (Nat → Int32)) :=
  jn6 (fun (y1_1 : Int32) (z_eaten_1 : Int32) (z_half_1 : Int32) (z_w_1 : Nat → Int32) (z_at_1 : Nat → Int32) (z_pulled_1 : Nat → Int32) =>
    some (y1_1, (0 : Int32), z_eaten_1, (-1 : Int32), z_w_1, z_at_1, z_pulled_1)
  ) (fun K48_1 =>
  lq7 (fun rec2 (y1_2 : Int32) (y2_2 : Int32) (z_eaten_2 : Int32) (z_half_2 : Int32) (z_w_2 : Nat → Int32) (z_at_2 : Nat → Int32) (z_pulled_2 : Nat → Int32) =>
    if (z_t ((3 : Int32)).toNatClampNeg) ≤ y2_2 then
      K48_1 y1_2 z_eaten_2 z_half_2 z_w_2 z_at_2 z_pulled_2
    else
      bn5 (f_X9_wrongOne z_timeMany z_eaten_2 y2_2 z_t z_times z_w_2 z_at_2 z_pulled_2) (fun (r_3 : Int32) (z_eaten_3 : Int32) (z_w_3 : Nat → Int32) (z_at_3 : Nat → Int32) (z_pulled_3 : Nat → Int32) =>
        jn1 (fun (z1_4 : Int32) =>
          rec2 (y1_2 ||| z1_4) (y2_2 + (1 : Int32)) z_eaten_3 y2_2 z_w_3 z_at_3 z_pulled_3
        ) (fun J40_4 =>
        if r_3 = (-1 : Int32) then
          J40_4 ((1 : Int32) <<< (y2_2 &&& 31))
        else
          J40_4 (0 : Int32)
        )
      )
  ) fu (0 : Int32) (0 : Int32) z_eaten z_half z_w z_at z_pulled
  )
abbrev rm_X9_sham : Room := { frames := 6, cells := 0, slots := 0, locals := 139 }
theorem dk_X9_sham : yX9_sham.cls = RX9 ∧ yX9_sham.cls ≠ "java/lang/invoke/MethodHandle" ∧ yX9_sham.cls ≠ "java/lang/invoke/VarHandle" ∧ (parseMethodDescriptor yX9_sham.desc).map (fun d => d.parameters.length) = some 0 := by decide +kernel
set_option maxHeartbeats 4000000 in
set_option maxRecDepth 100000 in
theorem c_X9_sham (l : Launch) (dC : Nat → ClassId) (dI : Nat → Nat → Nat) (cI cZ cII : ClassId) (qz qz_text qz_t qz_draft qz_s qz_kept qz_isKept qz_times qz_w qz_at qz_pulled qz_best qz_cartRow qz_tryRow qz_pairs qz_from qz_then qz_tryAt : Nat) (sz : Nat) (z_thrown : Int32) (z_typed : Int32) (z_next : Int32) (z_token : Int32) (z_place : Int32) (z_value : Int32) (z_figures : Int32) (z_fault : Int32) (z_faultAt : Int32) (z_timeMany : Int32) (z_eaten : Int32) (z_half : Int32) (z_bestMinutes : Int32) (z_bestOats : Int32) (z_isDue : Int32) (z_text : Nat → Int32) (z_t : Nat → Int32) (z_draft : Nat → Int32) (z_s : Nat → Int32) (z_kept : Nat → Int32) (z_isKept : Nat → Int32) (z_times : Nat → Int32) (z_w : Nat → Int32) (z_at : Nat → Int32) (z_pulled : Nat → Int32) (z_best : Nat → Int32) (z_cartRow : Nat → Int32) (z_tryRow : Nat → Int32) (z_pairs : Nat → Int32) (z_from : Nat → Int32) (z_then : Nat → Int32) (z_tryAt : Nat → Int32) (rr : Int32) (z_thrown' : Int32) (z_eaten' : Int32) (z_half' : Int32) (z_w' : Nat → Int32) (z_at' : Nat → Int32) (z_pulled' : Nat → Int32) (hf : f_X9_sham z_thrown z_timeMany z_eaten z_half z_t z_times z_w z_at z_pulled = some (rr, z_thrown', z_eaten', z_half', z_w', z_at', z_pulled')) : Met l yX9_sham (wM yX9_sham cX9_sham 3 (some .int)) rm_X9_sham (PreW (dC, dI) (tyA cI cZ cII) (W_X9z cI cZ cII qz qz_text qz_t qz_draft qz_s qz_kept qz_isKept qz_times qz_w qz_at qz_pulled qz_best qz_cartRow qz_tryRow qz_pairs qz_from qz_then qz_tryAt z_thrown z_typed z_next z_token z_place z_value z_figures z_fault z_faultAt z_timeMany z_eaten z_half z_bestMinutes z_bestOats z_isDue z_text z_t z_draft z_s z_kept z_isKept z_times z_w z_at z_pulled z_best z_cartRow z_tryRow z_pairs z_from z_then z_tryAt) sz [.ref qz]) (PostI (dC, dI) (tyA cI cZ cII) rr (W_X9z cI cZ cII qz qz_text qz_t qz_draft qz_s qz_kept qz_isKept qz_times qz_w qz_at qz_pulled qz_best qz_cartRow qz_tryRow qz_pairs qz_from qz_then qz_tryAt z_thrown z_typed z_next z_token z_place z_value z_figures z_fault z_faultAt z_timeMany z_eaten z_half z_bestMinutes z_bestOats z_isDue z_text z_t z_draft z_s z_kept z_isKept z_times z_w z_at z_pulled z_best z_cartRow z_tryRow z_pairs z_from z_then z_tryAt) (W_X9z cI cZ cII qz qz_text qz_t qz_draft qz_s qz_kept qz_isKept qz_times qz_w qz_at qz_pulled qz_best qz_cartRow qz_tryRow qz_pairs qz_from qz_then qz_tryAt z_thrown' z_typed z_next z_token z_place z_value z_figures z_fault z_faultAt z_timeMany z_eaten' z_half' z_bestMinutes z_bestOats z_isDue z_text z_t z_draft z_s z_kept z_isKept z_times z_w' z_at' z_pulled' z_best z_cartRow z_tryRow z_pairs z_from z_then z_tryAt) sz) 0 0 (va_A (W_X9z cI cZ cII qz qz_text qz_t qz_draft qz_s qz_kept qz_isKept qz_times qz_w qz_at qz_pulled qz_best qz_cartRow qz_tryRow qz_pairs qz_from qz_then qz_tryAt z_thrown z_typed z_next z_token z_place z_value z_figures z_fault z_faultAt z_timeMany z_eaten z_half z_bestMinutes z_bestOats z_isDue z_text z_t z_draft z_s z_kept z_isKept z_times z_w z_at z_pulled z_best z_cartRow z_tryRow z_pairs z_from z_then z_tryAt) sz) := by
  refine Met.ofW (cc := cX9_sham) (maxL := 3) (ret := (some .int)) (by decide) rfl ?_
  intro p e s m args below meth c s₁ B hml hv
  obtain ⟨rfl, hsz, hP, hK, hD0⟩ := hv
  have hx := B.exec
  have hb := B.bytes
  have hr := B.returns
  have hts := atoms_spec (ws := wM yX9_sham cX9_sham 3 (some .int)) B.pre
  have hown : s.vm.findClass RX9 = some m.cls := findClass_of_methodNamed B.named
  have hlocks := B.notSynchronized
  subst hsz
  have hD := hD0.self (sz := s.heap.size)
  obtain ⟨A, hAe⟩ : ∃ A, A = va_A (W_X9z cI cZ cII qz qz_text qz_t qz_draft qz_s qz_kept qz_isKept qz_times qz_w qz_at qz_pulled qz_best qz_cartRow qz_tryRow qz_pairs qz_from qz_then qz_tryAt z_thrown z_typed z_next z_token z_place z_value z_figures z_fault z_faultAt z_timeMany z_eaten z_half z_bestMinutes z_bestOats z_isDue z_text z_t z_draft z_s z_kept z_isKept z_times z_w z_at z_pulled z_best z_cartRow z_tryRow z_pairs z_from z_then z_tryAt) s.heap.size := ⟨_, rfl⟩
  rw [← hAe] at hD
  have hA : ∀ q : Nat, s.heap.size ≤ q → A q := fun q h => by rw [hAe]; exact Or.inr h
  have hS : va_S A s.heap s.heap [] := va_S.rf
  have hl := lv_entry ([.ref qz]) (n := 3) (Nat.le_of_ble_eq_true rfl)
  rw [lg_entry_eq]
  generalize (lg_sl ([.ref qz]) ++ List.replicate (3 - (lg_sl ([.ref qz])).length) Slot.unset).toArray = ls at hl ⊢
  have hl : lv_has ls 3 [(0, .ref qz)] := hl
  generalize ([.ref qz] : List Value).toArray = args at hts ⊢
  have hw : ∀ w ∈ wsL_law, w.before args s = true := fun w h => hts w (List.mem_cons_of_mem _ h)
  refine pg_start (fun Q hQ => ?_)
  have RET : ∀ (H : Heap) (locs : List Loc) (ls : Array Slot) (pc : Nat) (v : Int32) (x0 : Int32) (x1 : Int32) (x2 : Int32) (x3 : Nat → Int32) (x4 : Nat → Int32) (x5 : Nat → Int32) , decode cX9_sham pc = .ok (.ireturn, 1) → va_P (dC, dI) vwCl (W_X9z cI cZ cII qz qz_text qz_t qz_draft qz_s qz_kept qz_isKept qz_times qz_w qz_at qz_pulled qz_best qz_cartRow qz_tryRow qz_pairs qz_from qz_then qz_tryAt x0 z_typed z_next z_token z_place z_value z_figures z_fault z_faultAt z_timeMany x1 x2 z_bestMinutes z_bestOats z_isDue z_text z_t z_draft z_s z_kept z_isKept z_times x3 x4 x5 z_best z_cartRow z_tryRow z_pairs z_from z_then z_tryAt) H → va_D A (W_X9z cI cZ cII qz qz_text qz_t qz_draft qz_s qz_kept qz_isKept qz_times qz_w qz_at qz_pulled qz_best qz_cartRow qz_tryRow qz_pairs qz_from qz_then qz_tryAt x0 z_typed z_next z_token z_place z_value z_figures z_fault z_faultAt z_timeMany x1 x2 z_bestMinutes z_bestOats z_isDue z_text z_t z_draft z_s z_kept z_isKept z_times x3 x4 x5 z_best z_cartRow z_tryRow z_pairs z_from z_then z_tryAt) → va_S A s.heap H locs → (some (v, x0, x1, x2, x3, x4, x5) : Option (Int32 × Int32 × Int32 × Int32 × (Nat → Int32) × (Nat → Int32) × (Nat → Int32))) = some (rr, z_thrown', z_eaten', z_half', z_w', z_at', z_pulled') → W p l e rm_X9_sham s m args below meth c H locs 0 0 Q (F0 m pc ls [.int v]) := by
    intro H locs ls pc v x0 x1 x2 x3 x4 x5 hd hP hD hS he
    subst hAe; subst hQ
    simp only [Option.some.injEq, Prod.mk.injEq] at he
    obtain ⟨rfl, rfl, rfl, rfl, rfl, rfl, rfl⟩ := he
    exact pg_iret hx hb hr hlocks hK hP hD hS hd
  unfold f_X9_sham at hf
  refine lv_aload_n hx hb dX9_sham_0 rfl (lv_at hl 0 rfl) ?_
  refine lv_iconst (v := (0 : Int32)) hx hb dX9_sham_1 (by decide) ?_
  refine va_put (D := (dC, dI)) (ci := 9) (v := .int (0 : Int32)) (ty := .int) (C := RX9) (T := TX9) (N := 32) hx hb hw inlX9 tyX9 tyX9_ok nmX9 hown hK hP hD hS 0 rfl rfl 0 (by decide) (hw _ mw_7_19) (fun _ h9 => h9) rfl (by decide +kernel) rfl rfl (Nat.le_of_ble_eq_true rfl) dX9_sham_2 (fun H locs hP hD hS => ?_)
  have hP : va_P (dC, dI) vwCl (W_X9z cI cZ cII qz qz_text qz_t qz_draft qz_s qz_kept qz_isKept qz_times qz_w qz_at qz_pulled qz_best qz_cartRow qz_tryRow qz_pairs qz_from qz_then qz_tryAt (0 : Int32) z_typed z_next z_token z_place z_value z_figures z_fault z_faultAt z_timeMany z_eaten z_half z_bestMinutes z_bestOats z_isDue z_text z_t z_draft z_s z_kept z_isKept z_times z_w z_at z_pulled z_best z_cartRow z_tryRow z_pairs z_from z_then z_tryAt) H := hP
  have hD : va_D A (W_X9z cI cZ cII qz qz_text qz_t qz_draft qz_s qz_kept qz_isKept qz_times qz_w qz_at qz_pulled qz_best qz_cartRow qz_tryRow qz_pairs qz_from qz_then qz_tryAt (0 : Int32) z_typed z_next z_token z_place z_value z_figures z_fault z_faultAt z_timeMany z_eaten z_half z_bestMinutes z_bestOats z_isDue z_text z_t z_draft z_s z_kept z_isKept z_times z_w z_at z_pulled z_best z_cartRow z_tryRow z_pairs z_from z_then z_tryAt) := hD
  refine lv_iconst (v := (0 : Int32)) hx hb dX9_sham_5 (by decide) ?_
  refine lv_istore_n (lv' := [(1, .int (0 : Int32)), (0, .ref qz)]) hx hb dX9_sham_6 rfl hl (by decide) rfl (fun ls hl => ?_)
  refine lv_iconst (v := (0 : Int32)) hx hb dX9_sham_7 (by decide) ?_
  refine lv_istore_n (lv' := [(2, .int (0 : Int32)), (1, .int (0 : Int32)), (0, .ref qz)]) hx hb dX9_sham_8 rfl hl (by decide) rfl (fun ls hl => ?_)
  obtain ⟨K48_1, hK48_1, hf⟩ := jn6_s hf
  have WK48_1 : ∀ (y1_1 : Int32) (z_eaten_1 : Int32) (z_half_1 : Int32) (z_w_1 : Nat → Int32) (z_at_1 : Nat → Int32) (z_pulled_1 : Nat → Int32) (H : Heap) (locs : List Loc) (ls : Array Slot), va_P (dC, dI) vwCl (W_X9z cI cZ cII qz qz_text qz_t qz_draft qz_s qz_kept qz_isKept qz_times qz_w qz_at qz_pulled qz_best qz_cartRow qz_tryRow qz_pairs qz_from qz_then qz_tryAt (0 : Int32) z_typed z_next z_token z_place z_value z_figures z_fault z_faultAt z_timeMany z_eaten_1 z_half_1 z_bestMinutes z_bestOats z_isDue z_text z_t z_draft z_s z_kept z_isKept z_times z_w_1 z_at_1 z_pulled_1 z_best z_cartRow z_tryRow z_pairs z_from z_then z_tryAt) H → va_D A (W_X9z cI cZ cII qz qz_text qz_t qz_draft qz_s qz_kept qz_isKept qz_times qz_w qz_at qz_pulled qz_best qz_cartRow qz_tryRow qz_pairs qz_from qz_then qz_tryAt (0 : Int32) z_typed z_next z_token z_place z_value z_figures z_fault z_faultAt z_timeMany z_eaten_1 z_half_1 z_bestMinutes z_bestOats z_isDue z_text z_t z_draft z_s z_kept z_isKept z_times z_w_1 z_at_1 z_pulled_1 z_best z_cartRow z_tryRow z_pairs z_from z_then z_tryAt) → va_S A s.heap H locs → lv_has ls 3 [(0, .ref qz), (1, .int y1_1)] → K48_1 y1_1 z_eaten_1 z_half_1 z_w_1 z_at_1 z_pulled_1 = some (rr, z_thrown', z_eaten', z_half', z_w', z_at', z_pulled') → W p l e rm_X9_sham s m args below meth c H locs 0 0 Q (F0 m 48 ls []) := by
    intro y1_1 z_eaten_1 z_half_1 z_w_1 z_at_1 z_pulled_1 H locs ls hP hD hS hl hf
    have hf := hK48_1 _ _ _ _ _ _ hf
    refine lv_aload_n hx hb dX9_sham_48 rfl (lv_at hl 0 rfl) ?_
    refine lv_iconst (v := (-1 : Int32)) hx hb dX9_sham_49 (by decide) ?_
    refine va_put (D := (dC, dI)) (ci := 9) (v := .int (-1 : Int32)) (ty := .int) (C := RX9) (T := TX9) (N := 32) hx hb hw inlX9 tyX9 tyX9_ok nmX9 hown hK hP hD hS 0 rfl rfl 21 (by decide) (hw _ mw_6_11) (fun _ h9 => h9) rfl (by decide +kernel) rfl rfl (Nat.le_of_ble_eq_true rfl) dX9_sham_50 (fun H locs hP hD hS => ?_)
    have hP : va_P (dC, dI) vwCl (W_X9z cI cZ cII qz qz_text qz_t qz_draft qz_s qz_kept qz_isKept qz_times qz_w qz_at qz_pulled qz_best qz_cartRow qz_tryRow qz_pairs qz_from qz_then qz_tryAt (0 : Int32) z_typed z_next z_token z_place z_value z_figures z_fault z_faultAt z_timeMany z_eaten_1 (-1 : Int32) z_bestMinutes z_bestOats z_isDue z_text z_t z_draft z_s z_kept z_isKept z_times z_w_1 z_at_1 z_pulled_1 z_best z_cartRow z_tryRow z_pairs z_from z_then z_tryAt) H := hP
    have hD : va_D A (W_X9z cI cZ cII qz qz_text qz_t qz_draft qz_s qz_kept qz_isKept qz_times qz_w qz_at qz_pulled qz_best qz_cartRow qz_tryRow qz_pairs qz_from qz_then qz_tryAt (0 : Int32) z_typed z_next z_token z_place z_value z_figures z_fault z_faultAt z_timeMany z_eaten_1 (-1 : Int32) z_bestMinutes z_bestOats z_isDue z_text z_t z_draft z_s z_kept z_isKept z_times z_w_1 z_at_1 z_pulled_1 z_best z_cartRow z_tryRow z_pairs z_from z_then z_tryAt) := hD
    refine lv_iload_n hx hb dX9_sham_53 rfl (lv_at hl 1 rfl) ?_
    exact RET _ _ _ _ _ _ _ _ _ _ _ dX9_sham_54 hP hD hS hf
  obtain ⟨B2, hB2, hf⟩ := lq7_n hf
  have WL2 : ∀ (n9 : Nat) (y1_2 : Int32) (y2_2 : Int32) (z_eaten_2 : Int32) (z_half_2 : Int32) (z_w_2 : Nat → Int32) (z_at_2 : Nat → Int32) (z_pulled_2 : Nat → Int32) (H : Heap) (locs : List Loc) (ls : Array Slot), va_P (dC, dI) vwCl (W_X9z cI cZ cII qz qz_text qz_t qz_draft qz_s qz_kept qz_isKept qz_times qz_w qz_at qz_pulled qz_best qz_cartRow qz_tryRow qz_pairs qz_from qz_then qz_tryAt (0 : Int32) z_typed z_next z_token z_place z_value z_figures z_fault z_faultAt z_timeMany z_eaten_2 z_half_2 z_bestMinutes z_bestOats z_isDue z_text z_t z_draft z_s z_kept z_isKept z_times z_w_2 z_at_2 z_pulled_2 z_best z_cartRow z_tryRow z_pairs z_from z_then z_tryAt) H → va_D A (W_X9z cI cZ cII qz qz_text qz_t qz_draft qz_s qz_kept qz_isKept qz_times qz_w qz_at qz_pulled qz_best qz_cartRow qz_tryRow qz_pairs qz_from qz_then qz_tryAt (0 : Int32) z_typed z_next z_token z_place z_value z_figures z_fault z_faultAt z_timeMany z_eaten_2 z_half_2 z_bestMinutes z_bestOats z_isDue z_text z_t z_draft z_s z_kept z_isKept z_times z_w_2 z_at_2 z_pulled_2 z_best z_cartRow z_tryRow z_pairs z_from z_then z_tryAt) → va_S A s.heap H locs → lv_has ls 3 [(0, .ref qz), (1, .int y1_2), (2, .int y2_2)] → lq7 B2 n9 y1_2 y2_2 z_eaten_2 z_half_2 z_w_2 z_at_2 z_pulled_2 = some (rr, z_thrown', z_eaten', z_half', z_w', z_at', z_pulled') → W p l e rm_X9_sham s m args below meth c H locs 0 0 Q (F0 m 9 ls []) := by
    intro n9
    induction n9 with
    | zero => intro y1_2 y2_2 z_eaten_2 z_half_2 z_w_2 z_at_2 z_pulled_2 H locs ls hP hD hS hl hf; cases hf
    | succ n9 ih =>
      intro y1_2 y2_2 z_eaten_2 z_half_2 z_w_2 z_at_2 z_pulled_2 H locs ls hP hD hS hl hf
      obtain ⟨rec2, hrec2, hf⟩ := lq7_s hf
      have hf := hB2 rec2 _ _ _ _ _ _ _ hf
      refine lv_iload_n hx hb dX9_sham_9 rfl (lv_at hl 2 rfl) ?_
      refine lv_aload_n hx hb dX9_sham_10 rfl (lv_at hl 0 rfl) ?_
      refine va_get (D := (dC, dI)) (ci := 9) (v := .ref qz_t) (C := RX9) (T := TX9) (N := 32) hx hb hw inlX9 hown hK hP 0 rfl rfl 10 (by decide) (hw _ mw_6_1) (fun _ h9 => h9) rfl dX9_sham_11 ?_
      refine lv_iconst (v := (3 : Int32)) hx hb dX9_sham_14 (by decide) ?_
      refine va_iald hx hb hK hP 2 0 rfl rfl (pg_lit (by decide)) dX9_sham_15 ?_
      refine lv_icmp_ge (tgt := 48) hx hb dX9_sham_16 (by decide) (fun h9 => ?_) (fun h9 => ?_)
      · have hf := pg_t h9 hf
        exact WK48_1 _ _ _ _ _ _ _ _ _ hP hD hS (lv_sub hl [0, 1] rfl) hf
      · have hf := pg_f h9 hf
        refine lv_aload_n hx hb dX9_sham_19 rfl (lv_at hl 0 rfl) ?_
        refine lv_iload_n hx hb dX9_sham_20 rfl (lv_at hl 2 rfl) ?_
        refine va_put (D := (dC, dI)) (ci := 9) (v := .int y2_2) (ty := .int) (C := RX9) (T := TX9) (N := 32) hx hb hw inlX9 tyX9 tyX9_ok nmX9 hown hK hP hD hS 0 rfl rfl 21 (by decide) (hw _ mw_6_11) (fun _ h9 => h9) rfl (by decide +kernel) rfl rfl (Nat.le_of_ble_eq_true rfl) dX9_sham_21 (fun H locs hP hD hS => ?_)
        have hP : va_P (dC, dI) vwCl (W_X9z cI cZ cII qz qz_text qz_t qz_draft qz_s qz_kept qz_isKept qz_times qz_w qz_at qz_pulled qz_best qz_cartRow qz_tryRow qz_pairs qz_from qz_then qz_tryAt (0 : Int32) z_typed z_next z_token z_place z_value z_figures z_fault z_faultAt z_timeMany z_eaten_2 y2_2 z_bestMinutes z_bestOats z_isDue z_text z_t z_draft z_s z_kept z_isKept z_times z_w_2 z_at_2 z_pulled_2 z_best z_cartRow z_tryRow z_pairs z_from z_then z_tryAt) H := hP
        have hD : va_D A (W_X9z cI cZ cII qz qz_text qz_t qz_draft qz_s qz_kept qz_isKept qz_times qz_w qz_at qz_pulled qz_best qz_cartRow qz_tryRow qz_pairs qz_from qz_then qz_tryAt (0 : Int32) z_typed z_next z_token z_place z_value z_figures z_fault z_faultAt z_timeMany z_eaten_2 y2_2 z_bestMinutes z_bestOats z_isDue z_text z_t z_draft z_s z_kept z_isKept z_times z_w_2 z_at_2 z_pulled_2 z_best z_cartRow z_tryRow z_pairs z_from z_then z_tryAt) := hD
        refine lv_iload_n hx hb dX9_sham_24 rfl (lv_at hl 1 rfl) ?_
        refine lv_aload_n hx hb dX9_sham_25 rfl (lv_at hl 0 rfl) ?_
        obtain ⟨r_3, z_eaten_3, z_w_3, z_at_3, z_pulled_3, hc, hf⟩ := bn5_s hf
        refine pg_cVi (As := []) (rest := [.int y1_2]) (wf := (W_X9z cI cZ cII qz qz_text qz_t qz_draft qz_s qz_kept qz_isKept qz_times qz_w qz_at qz_pulled qz_best qz_cartRow qz_tryRow qz_pairs qz_from qz_then qz_tryAt (0 : Int32) z_typed z_next z_token z_place z_value z_figures z_fault z_faultAt z_timeMany z_eaten_3 y2_2 z_bestMinutes z_bestOats z_isDue z_text z_t z_draft z_s z_kept z_isKept z_times z_w_3 z_at_3 z_pulled_3 z_best z_cartRow z_tryRow z_pairs z_from z_then z_tryAt)) ⟨hx, hb, hml, hown, hw⟩ (c_X9_wrongOne l dC dI cI cZ cII qz qz_text qz_t qz_draft qz_s qz_kept qz_isKept qz_times qz_w qz_at qz_pulled qz_best qz_cartRow qz_tryRow qz_pairs qz_from qz_then qz_tryAt H.size (0 : Int32) z_typed z_next z_token z_place z_value z_figures z_fault z_faultAt z_timeMany z_eaten_2 y2_2 z_bestMinutes z_bestOats z_isDue z_text z_t z_draft z_s z_kept z_isKept z_times z_w_2 z_at_2 z_pulled_2 z_best z_cartRow z_tryRow z_pairs z_from z_then z_tryAt  r_3 z_eaten_3 z_w_3 z_at_3 z_pulled_3 hc) (cwV 0 hts (wM_V mw_44_16 mw_44_17 mw_44_18 mw_1_5 mw_44_19) rfl rfl rfl dk_X9_wrongOne ⟨Nat.le_of_ble_eq_true rfl, Nat.le_of_ble_eq_true rfl⟩) hK hP hD hS hA 9 0 rfl rfl rfl [0, 1, 2, 3, 4, 5, 6, 7, 8, 9, 10, 11, 12, 13, 14, 15, 16, 17] [] [0, 1, 2, 3, 4, 5, 6, 7, 8, 9, 10, 11, 12, 13, 14, 15, 16, 17] (plC_64 cI cZ cII qz qz_text qz_t qz_draft qz_s qz_kept qz_isKept qz_times qz_w qz_at qz_pulled qz_best qz_cartRow qz_tryRow qz_pairs qz_from qz_then qz_tryAt (0 : Int32) z_typed z_next z_token z_place z_value z_figures z_fault z_faultAt z_timeMany z_eaten_2 y2_2 z_bestMinutes z_bestOats z_isDue z_text z_t z_draft z_s z_kept z_isKept z_times z_w_2 z_at_2 z_pulled_2 z_best z_cartRow z_tryRow z_pairs z_from z_then z_tryAt) rfl (plF_64 cI cZ cII qz qz_text qz_t qz_draft qz_s qz_kept qz_isKept qz_times qz_w qz_at qz_pulled qz_best qz_cartRow qz_tryRow qz_pairs qz_from qz_then qz_tryAt (0 : Int32) z_typed z_next z_token z_place z_value z_figures z_fault z_faultAt z_timeMany z_eaten_2 y2_2 z_bestMinutes z_bestOats z_isDue z_text z_t z_draft z_s z_kept z_isKept z_times z_w_2 z_at_2 z_pulled_2 z_best z_cartRow z_tryRow z_pairs z_from z_then z_tryAt (0 : Int32) z_typed z_next z_token z_place z_value z_figures z_fault z_faultAt z_timeMany z_eaten_3 y2_2 z_bestMinutes z_bestOats z_isDue z_text z_t z_draft z_s z_kept z_isKept z_times z_w_3 z_at_3 z_pulled_3 z_best z_cartRow z_tryRow z_pairs z_from z_then z_tryAt) (by decide) rfl hl.1 rfl (Nat.le_of_ble_eq_true rfl) dX9_sham_26 ⟨Nat.zero_le _, Nat.zero_le _⟩ (fun H locs hP hD hS => ?_)
        refine lv_iconst (v := (-1 : Int32)) hx hb dX9_sham_29 (by decide) ?_
        obtain ⟨J40_4, hJ40_4, hf⟩ := jn1_s hf
        have WJ40_4 : ∀ (z1_4 : Int32) (H : Heap) (locs : List Loc) (ls : Array Slot), va_P (dC, dI) vwCl (W_X9z cI cZ cII qz qz_text qz_t qz_draft qz_s qz_kept qz_isKept qz_times qz_w qz_at qz_pulled qz_best qz_cartRow qz_tryRow qz_pairs qz_from qz_then qz_tryAt (0 : Int32) z_typed z_next z_token z_place z_value z_figures z_fault z_faultAt z_timeMany z_eaten_3 y2_2 z_bestMinutes z_bestOats z_isDue z_text z_t z_draft z_s z_kept z_isKept z_times z_w_3 z_at_3 z_pulled_3 z_best z_cartRow z_tryRow z_pairs z_from z_then z_tryAt) H → va_D A (W_X9z cI cZ cII qz qz_text qz_t qz_draft qz_s qz_kept qz_isKept qz_times qz_w qz_at qz_pulled qz_best qz_cartRow qz_tryRow qz_pairs qz_from qz_then qz_tryAt (0 : Int32) z_typed z_next z_token z_place z_value z_figures z_fault z_faultAt z_timeMany z_eaten_3 y2_2 z_bestMinutes z_bestOats z_isDue z_text z_t z_draft z_s z_kept z_isKept z_times z_w_3 z_at_3 z_pulled_3 z_best z_cartRow z_tryRow z_pairs z_from z_then z_tryAt) → va_S A s.heap H locs → lv_has ls 3 [(0, .ref qz), (2, .int y2_2)] → J40_4 z1_4 = some (rr, z_thrown', z_eaten', z_half', z_w', z_at', z_pulled') → W p l e rm_X9_sham s m args below meth c H locs 0 0 Q (F0 m 40 ls [.int z1_4, .int y1_2]) := by
          intro z1_4 H locs ls hP hD hS hl hf
          have hf := hJ40_4 _ hf
          refine lv_ior hx hb dX9_sham_40 ?_
          refine lv_istore_n (lv' := [(1, .int (y1_2 ||| z1_4)), (0, .ref qz), (2, .int y2_2)]) hx hb dX9_sham_41 rfl hl (by decide) rfl (fun ls hl => ?_)
          refine lv_iinc (v := (y2_2 + (1 : Int32))) (lv' := [(2, .int (y2_2 + (1 : Int32))), (1, .int (y1_2 ||| z1_4)), (0, .ref qz)]) hx hb dX9_sham_42 hl (k := 2) rfl rfl (by decide) rfl (fun ls hl => ?_)
          refine lv_goto (tgt := 9) hx hb dX9_sham_45 (by decide) ?_
          exact ih _ _ _ _ _ _ _ _ _ _ hP hD hS (lv_sub hl [2, 1, 0] rfl) (hrec2 _ _ _ _ _ _ _ hf)
        refine lv_icmp_ne (tgt := 39) hx hb dX9_sham_30 (by decide) (fun h9 => ?_) (fun h9 => ?_)
        · have hf := pg_f h9 hf
          refine lv_iconst (v := (0 : Int32)) hx hb dX9_sham_39 (by decide) ?_
          exact WJ40_4 _ _ _ _ hP hD hS (lv_sub hl [0, 2] rfl) hf
        · have hf := pg_t h9 hf
          refine lv_iconst (v := (1 : Int32)) hx hb dX9_sham_33 (by decide) ?_
          refine lv_iload_n hx hb dX9_sham_34 rfl (lv_at hl 2 rfl) ?_
          refine lv_ishl hx hb dX9_sham_35 ?_
          refine lv_goto (tgt := 40) hx hb dX9_sham_36 (by decide) ?_
          exact WJ40_4 _ _ _ _ hP hD hS (lv_sub hl [0, 2] rfl) hf
  exact WL2 fu _ _ _ _ _ _ _ _ _ _ hP hD hS (lv_sub hl [2, 1, 0] rfl) hf
def f_X9_judge (z_thrown : Int32) (z_timeMany : Int32) (z_eaten : Int32) (z_half : Int32) (z_t : Nat → Int32) (z_times : Nat → Int32) (z_w : Nat → Int32) (z_at : Nat → Int32) (z_pulled : Nat → Int32) : Option (Int32 × Int32 × Int32 × (Nat → Int32) × (Nat → Int32) × (Nat → Int32)) :=
  bn5 (f_X9_wrongOne z_timeMany z_eaten z_half z_t z_times z_w z_at z_pulled) (fun (r_1 : Int32) (z_eaten_1 : Int32) (z_w_1 : Nat → Int32) (z_at_1 : Nat → Int32) (z_pulled_1 : Nat → Int32) =>
    some (r_1, (0 : Int32), z_eaten_1, z_w_1, z_at_1, z_pulled_1)
  )
abbrev rm_X9_judge : Room := { frames := 6, cells := 0, slots := 0, locals := 139 }
theorem dk_X9_judge : yX9_judge.cls = RX9 ∧ yX9_judge.cls ≠ "java/lang/invoke/MethodHandle" ∧ yX9_judge.cls ≠ "java/lang/invoke/VarHandle" ∧ (parseMethodDescriptor yX9_judge.desc).map (fun d => d.parameters.length) = some 0 := by decide +kernel
set_option maxHeartbeats 4000000 in
set_option maxRecDepth 100000 in
theorem c_X9_judge (l : Launch) (dC : Nat → ClassId) (dI : Nat → Nat → Nat) (cI cZ cII : ClassId) (qz qz_text qz_t qz_draft qz_s qz_kept qz_isKept qz_times qz_w qz_at qz_pulled qz_best qz_cartRow qz_tryRow qz_pairs qz_from qz_then qz_tryAt : Nat) (sz : Nat) (z_thrown : Int32) (z_typed : Int32) (z_next : Int32) (z_token : Int32) (z_place : Int32) (z_value : Int32) (z_figures : Int32) (z_fault : Int32) (z_faultAt : Int32) (z_timeMany : Int32) (z_eaten : Int32) (z_half : Int32) (z_bestMinutes : Int32) (z_bestOats : Int32) (z_isDue : Int32) (z_text : Nat → Int32) (z_t : Nat → Int32) (z_draft : Nat → Int32) (z_s : Nat → Int32) (z_kept : Nat → Int32) (z_isKept : Nat → Int32) (z_times : Nat → Int32) (z_w : Nat → Int32) (z_at : Nat → Int32) (z_pulled : Nat → Int32) (z_best : Nat → Int32) (z_cartRow : Nat → Int32) (z_tryRow : Nat → Int32) (z_pairs : Nat → Int32) (z_from : Nat → Int32) (z_then : Nat → Int32) (z_tryAt : Nat → Int32) (rr : Int32) (z_thrown' : Int32) (z_eaten' : Int32) (z_w' : Nat → Int32) (z_at' : Nat → Int32) (z_pulled' : Nat → Int32) (hf : f_X9_judge z_thrown z_timeMany z_eaten z_half z_t z_times z_w z_at z_pulled = some (rr, z_thrown', z_eaten', z_w', z_at', z_pulled')) : Met l yX9_judge (wM yX9_judge cX9_judge 1 (some .int)) rm_X9_judge (PreW (dC, dI) (tyA cI cZ cII) (W_X9z cI cZ cII qz qz_text qz_t qz_draft qz_s qz_kept qz_isKept qz_times qz_w qz_at qz_pulled qz_best qz_cartRow qz_tryRow qz_pairs qz_from qz_then qz_tryAt z_thrown z_typed z_next z_token z_place z_value z_figures z_fault z_faultAt z_timeMany z_eaten z_half z_bestMinutes z_bestOats z_isDue z_text z_t z_draft z_s z_kept z_isKept z_times z_w z_at z_pulled z_best z_cartRow z_tryRow z_pairs z_from z_then z_tryAt) sz [.ref qz]) (PostI (dC, dI) (tyA cI cZ cII) rr (W_X9z cI cZ cII qz qz_text qz_t qz_draft qz_s qz_kept qz_isKept qz_times qz_w qz_at qz_pulled qz_best qz_cartRow qz_tryRow qz_pairs qz_from qz_then qz_tryAt z_thrown z_typed z_next z_token z_place z_value z_figures z_fault z_faultAt z_timeMany z_eaten z_half z_bestMinutes z_bestOats z_isDue z_text z_t z_draft z_s z_kept z_isKept z_times z_w z_at z_pulled z_best z_cartRow z_tryRow z_pairs z_from z_then z_tryAt) (W_X9z cI cZ cII qz qz_text qz_t qz_draft qz_s qz_kept qz_isKept qz_times qz_w qz_at qz_pulled qz_best qz_cartRow qz_tryRow qz_pairs qz_from qz_then qz_tryAt z_thrown' z_typed z_next z_token z_place z_value z_figures z_fault z_faultAt z_timeMany z_eaten' z_half z_bestMinutes z_bestOats z_isDue z_text z_t z_draft z_s z_kept z_isKept z_times z_w' z_at' z_pulled' z_best z_cartRow z_tryRow z_pairs z_from z_then z_tryAt) sz) 0 0 (va_A (W_X9z cI cZ cII qz qz_text qz_t qz_draft qz_s qz_kept qz_isKept qz_times qz_w qz_at qz_pulled qz_best qz_cartRow qz_tryRow qz_pairs qz_from qz_then qz_tryAt z_thrown z_typed z_next z_token z_place z_value z_figures z_fault z_faultAt z_timeMany z_eaten z_half z_bestMinutes z_bestOats z_isDue z_text z_t z_draft z_s z_kept z_isKept z_times z_w z_at z_pulled z_best z_cartRow z_tryRow z_pairs z_from z_then z_tryAt) sz) := by
  refine Met.ofW (cc := cX9_judge) (maxL := 1) (ret := (some .int)) (by decide) rfl ?_
  intro p e s m args below meth c s₁ B hml hv
  obtain ⟨rfl, hsz, hP, hK, hD0⟩ := hv
  have hx := B.exec
  have hb := B.bytes
  have hr := B.returns
  have hts := atoms_spec (ws := wM yX9_judge cX9_judge 1 (some .int)) B.pre
  have hown : s.vm.findClass RX9 = some m.cls := findClass_of_methodNamed B.named
  have hlocks := B.notSynchronized
  subst hsz
  have hD := hD0.self (sz := s.heap.size)
  obtain ⟨A, hAe⟩ : ∃ A, A = va_A (W_X9z cI cZ cII qz qz_text qz_t qz_draft qz_s qz_kept qz_isKept qz_times qz_w qz_at qz_pulled qz_best qz_cartRow qz_tryRow qz_pairs qz_from qz_then qz_tryAt z_thrown z_typed z_next z_token z_place z_value z_figures z_fault z_faultAt z_timeMany z_eaten z_half z_bestMinutes z_bestOats z_isDue z_text z_t z_draft z_s z_kept z_isKept z_times z_w z_at z_pulled z_best z_cartRow z_tryRow z_pairs z_from z_then z_tryAt) s.heap.size := ⟨_, rfl⟩
  rw [← hAe] at hD
  have hA : ∀ q : Nat, s.heap.size ≤ q → A q := fun q h => by rw [hAe]; exact Or.inr h
  have hS : va_S A s.heap s.heap [] := va_S.rf
  have hl := lv_entry ([.ref qz]) (n := 1) (Nat.le_of_ble_eq_true rfl)
  rw [lg_entry_eq]
  generalize (lg_sl ([.ref qz]) ++ List.replicate (1 - (lg_sl ([.ref qz])).length) Slot.unset).toArray = ls at hl ⊢
  have hl : lv_has ls 1 [(0, .ref qz)] := hl
  generalize ([.ref qz] : List Value).toArray = args at hts ⊢
  have hw : ∀ w ∈ wsL_law, w.before args s = true := fun w h => hts w (List.mem_cons_of_mem _ h)
  refine pg_start (fun Q hQ => ?_)
  have RET : ∀ (H : Heap) (locs : List Loc) (ls : Array Slot) (pc : Nat) (v : Int32) (x0 : Int32) (x1 : Int32) (x2 : Nat → Int32) (x3 : Nat → Int32) (x4 : Nat → Int32) , decode cX9_judge pc = .ok (.ireturn, 1) → va_P (dC, dI) vwCl (W_X9z cI cZ cII qz qz_text qz_t qz_draft qz_s qz_kept qz_isKept qz_times qz_w qz_at qz_pulled qz_best qz_cartRow qz_tryRow qz_pairs qz_from qz_then qz_tryAt x0 z_typed z_next z_token z_place z_value z_figures z_fault z_faultAt z_timeMany x1 z_half z_bestMinutes z_bestOats z_isDue z_text z_t z_draft z_s z_kept z_isKept z_times x2 x3 x4 z_best z_cartRow z_tryRow z_pairs z_from z_then z_tryAt) H → va_D A (W_X9z cI cZ cII qz qz_text qz_t qz_draft qz_s qz_kept qz_isKept qz_times qz_w qz_at qz_pulled qz_best qz_cartRow qz_tryRow qz_pairs qz_from qz_then qz_tryAt x0 z_typed z_next z_token z_place z_value z_figures z_fault z_faultAt z_timeMany x1 z_half z_bestMinutes z_bestOats z_isDue z_text z_t z_draft z_s z_kept z_isKept z_times x2 x3 x4 z_best z_cartRow z_tryRow z_pairs z_from z_then z_tryAt) → va_S A s.heap H locs → (some (v, x0, x1, x2, x3, x4) : Option (Int32 × Int32 × Int32 × (Nat → Int32) × (Nat → Int32) × (Nat → Int32))) = some (rr, z_thrown', z_eaten', z_w', z_at', z_pulled') → W p l e rm_X9_judge s m args below meth c H locs 0 0 Q (F0 m pc ls [.int v]) := by
    intro H locs ls pc v x0 x1 x2 x3 x4 hd hP hD hS he
    subst hAe; subst hQ
    simp only [Option.some.injEq, Prod.mk.injEq] at he
    obtain ⟨rfl, rfl, rfl, rfl, rfl, rfl⟩ := he
    exact pg_iret hx hb hr hlocks hK hP hD hS hd
  unfold f_X9_judge at hf
  refine lv_aload_n hx hb dX9_judge_0 rfl (lv_at hl 0 rfl) ?_
  refine lv_iconst (v := (0 : Int32)) hx hb dX9_judge_1 (by decide) ?_
  refine va_put (D := (dC, dI)) (ci := 9) (v := .int (0 : Int32)) (ty := .int) (C := RX9) (T := TX9) (N := 32) hx hb hw inlX9 tyX9 tyX9_ok nmX9 hown hK hP hD hS 0 rfl rfl 0 (by decide) (hw _ mw_7_19) (fun _ h9 => h9) rfl (by decide +kernel) rfl rfl (Nat.le_of_ble_eq_true rfl) dX9_judge_2 (fun H locs hP hD hS => ?_)
  have hP : va_P (dC, dI) vwCl (W_X9z cI cZ cII qz qz_text qz_t qz_draft qz_s qz_kept qz_isKept qz_times qz_w qz_at qz_pulled qz_best qz_cartRow qz_tryRow qz_pairs qz_from qz_then qz_tryAt (0 : Int32) z_typed z_next z_token z_place z_value z_figures z_fault z_faultAt z_timeMany z_eaten z_half z_bestMinutes z_bestOats z_isDue z_text z_t z_draft z_s z_kept z_isKept z_times z_w z_at z_pulled z_best z_cartRow z_tryRow z_pairs z_from z_then z_tryAt) H := hP
  have hD : va_D A (W_X9z cI cZ cII qz qz_text qz_t qz_draft qz_s qz_kept qz_isKept qz_times qz_w qz_at qz_pulled qz_best qz_cartRow qz_tryRow qz_pairs qz_from qz_then qz_tryAt (0 : Int32) z_typed z_next z_token z_place z_value z_figures z_fault z_faultAt z_timeMany z_eaten z_half z_bestMinutes z_bestOats z_isDue z_text z_t z_draft z_s z_kept z_isKept z_times z_w z_at z_pulled z_best z_cartRow z_tryRow z_pairs z_from z_then z_tryAt) := hD
  refine lv_aload_n hx hb dX9_judge_5 rfl (lv_at hl 0 rfl) ?_
  obtain ⟨r_1, z_eaten_1, z_w_1, z_at_1, z_pulled_1, hc, hf⟩ := bn5_s hf
  refine pg_cVi (As := []) (rest := []) (wf := (W_X9z cI cZ cII qz qz_text qz_t qz_draft qz_s qz_kept qz_isKept qz_times qz_w qz_at qz_pulled qz_best qz_cartRow qz_tryRow qz_pairs qz_from qz_then qz_tryAt (0 : Int32) z_typed z_next z_token z_place z_value z_figures z_fault z_faultAt z_timeMany z_eaten_1 z_half z_bestMinutes z_bestOats z_isDue z_text z_t z_draft z_s z_kept z_isKept z_times z_w_1 z_at_1 z_pulled_1 z_best z_cartRow z_tryRow z_pairs z_from z_then z_tryAt)) ⟨hx, hb, hml, hown, hw⟩ (c_X9_wrongOne l dC dI cI cZ cII qz qz_text qz_t qz_draft qz_s qz_kept qz_isKept qz_times qz_w qz_at qz_pulled qz_best qz_cartRow qz_tryRow qz_pairs qz_from qz_then qz_tryAt H.size (0 : Int32) z_typed z_next z_token z_place z_value z_figures z_fault z_faultAt z_timeMany z_eaten z_half z_bestMinutes z_bestOats z_isDue z_text z_t z_draft z_s z_kept z_isKept z_times z_w z_at z_pulled z_best z_cartRow z_tryRow z_pairs z_from z_then z_tryAt  r_1 z_eaten_1 z_w_1 z_at_1 z_pulled_1 hc) (cwV 0 hts (wM_V mw_44_16 mw_44_17 mw_44_18 mw_1_5 mw_44_19) rfl rfl rfl dk_X9_wrongOne ⟨Nat.le_of_ble_eq_true rfl, Nat.le_of_ble_eq_true rfl⟩) hK hP hD hS hA 9 0 rfl rfl rfl [0, 1, 2, 3, 4, 5, 6, 7, 8, 9, 10, 11, 12, 13, 14, 15, 16, 17] [] [0, 1, 2, 3, 4, 5, 6, 7, 8, 9, 10, 11, 12, 13, 14, 15, 16, 17] (plC_64 cI cZ cII qz qz_text qz_t qz_draft qz_s qz_kept qz_isKept qz_times qz_w qz_at qz_pulled qz_best qz_cartRow qz_tryRow qz_pairs qz_from qz_then qz_tryAt (0 : Int32) z_typed z_next z_token z_place z_value z_figures z_fault z_faultAt z_timeMany z_eaten z_half z_bestMinutes z_bestOats z_isDue z_text z_t z_draft z_s z_kept z_isKept z_times z_w z_at z_pulled z_best z_cartRow z_tryRow z_pairs z_from z_then z_tryAt) rfl (plF_64 cI cZ cII qz qz_text qz_t qz_draft qz_s qz_kept qz_isKept qz_times qz_w qz_at qz_pulled qz_best qz_cartRow qz_tryRow qz_pairs qz_from qz_then qz_tryAt (0 : Int32) z_typed z_next z_token z_place z_value z_figures z_fault z_faultAt z_timeMany z_eaten z_half z_bestMinutes z_bestOats z_isDue z_text z_t z_draft z_s z_kept z_isKept z_times z_w z_at z_pulled z_best z_cartRow z_tryRow z_pairs z_from z_then z_tryAt (0 : Int32) z_typed z_next z_token z_place z_value z_figures z_fault z_faultAt z_timeMany z_eaten_1 z_half z_bestMinutes z_bestOats z_isDue z_text z_t z_draft z_s z_kept z_isKept z_times z_w_1 z_at_1 z_pulled_1 z_best z_cartRow z_tryRow z_pairs z_from z_then z_tryAt) (by decide) rfl hl.1 rfl (Nat.le_of_ble_eq_true rfl) dX9_judge_6 ⟨Nat.zero_le _, Nat.zero_le _⟩ (fun H locs hP hD hS => ?_)
  exact RET _ _ _ _ _ _ _ _ _ _ dX9_judge_9 hP hD hS hf
def f_X9_seed (n1 : Int32) (z_thrown : Int32) (z_s : Nat → Int32) : Option (Int32 × Int32 × (Nat → Int32)) :=
  if 0 ≤ n1 then
    some ((z_s ((12 : Int32)).toNatClampNeg), (0 : Int32), (upd z_s ((12 : Int32)).toNatClampNeg n1))
  else
    some ((-1000000002 : Int32), (0 : Int32), z_s)
abbrev rm_X9_seed : Room := { frames := 0, cells := 0, slots := 0, locals := 0 }
theorem dk_X9_seed : yX9_seed.cls = RX9 ∧ yX9_seed.cls ≠ "java/lang/invoke/MethodHandle" ∧ yX9_seed.cls ≠ "java/lang/invoke/VarHandle" ∧ (parseMethodDescriptor yX9_seed.desc).map (fun d => d.parameters.length) = some 1 := by decide +kernel
set_option maxHeartbeats 4000000 in
set_option maxRecDepth 100000 in
theorem c_X9_seed (l : Launch) (dC : Nat → ClassId) (dI : Nat → Nat → Nat) (cI cZ cII : ClassId) (qz qz_text qz_t qz_draft qz_s qz_kept qz_isKept qz_times qz_w qz_at qz_pulled qz_best qz_cartRow qz_tryRow qz_pairs qz_from qz_then qz_tryAt : Nat) (sz : Nat) (z_thrown : Int32) (z_typed : Int32) (z_next : Int32) (z_token : Int32) (z_place : Int32) (z_value : Int32) (z_figures : Int32) (z_fault : Int32) (z_faultAt : Int32) (z_timeMany : Int32) (z_eaten : Int32) (z_half : Int32) (z_bestMinutes : Int32) (z_bestOats : Int32) (z_isDue : Int32) (z_text : Nat → Int32) (z_t : Nat → Int32) (z_draft : Nat → Int32) (z_s : Nat → Int32) (z_kept : Nat → Int32) (z_isKept : Nat → Int32) (z_times : Nat → Int32) (z_w : Nat → Int32) (z_at : Nat → Int32) (z_pulled : Nat → Int32) (z_best : Nat → Int32) (z_cartRow : Nat → Int32) (z_tryRow : Nat → Int32) (z_pairs : Nat → Int32) (z_from : Nat → Int32) (z_then : Nat → Int32) (z_tryAt : Nat → Int32) (n1 : Int32) (rr : Int32) (z_thrown' : Int32) (z_s' : Nat → Int32) (hf : f_X9_seed n1 z_thrown z_s = some (rr, z_thrown', z_s')) : Met l yX9_seed (wM yX9_seed cX9_seed 3 (some .int)) rm_X9_seed (PreW (dC, dI) (tyA cI cZ cII) (W_X9z cI cZ cII qz qz_text qz_t qz_draft qz_s qz_kept qz_isKept qz_times qz_w qz_at qz_pulled qz_best qz_cartRow qz_tryRow qz_pairs qz_from qz_then qz_tryAt z_thrown z_typed z_next z_token z_place z_value z_figures z_fault z_faultAt z_timeMany z_eaten z_half z_bestMinutes z_bestOats z_isDue z_text z_t z_draft z_s z_kept z_isKept z_times z_w z_at z_pulled z_best z_cartRow z_tryRow z_pairs z_from z_then z_tryAt) sz [.ref qz, .int n1]) (PostI (dC, dI) (tyA cI cZ cII) rr (W_X9z cI cZ cII qz qz_text qz_t qz_draft qz_s qz_kept qz_isKept qz_times qz_w qz_at qz_pulled qz_best qz_cartRow qz_tryRow qz_pairs qz_from qz_then qz_tryAt z_thrown z_typed z_next z_token z_place z_value z_figures z_fault z_faultAt z_timeMany z_eaten z_half z_bestMinutes z_bestOats z_isDue z_text z_t z_draft z_s z_kept z_isKept z_times z_w z_at z_pulled z_best z_cartRow z_tryRow z_pairs z_from z_then z_tryAt) (W_X9z cI cZ cII qz qz_text qz_t qz_draft qz_s qz_kept qz_isKept qz_times qz_w qz_at qz_pulled qz_best qz_cartRow qz_tryRow qz_pairs qz_from qz_then qz_tryAt z_thrown' z_typed z_next z_token z_place z_value z_figures z_fault z_faultAt z_timeMany z_eaten z_half z_bestMinutes z_bestOats z_isDue z_text z_t z_draft z_s' z_kept z_isKept z_times z_w z_at z_pulled z_best z_cartRow z_tryRow z_pairs z_from z_then z_tryAt) sz) 0 0 (va_A (W_X9z cI cZ cII qz qz_text qz_t qz_draft qz_s qz_kept qz_isKept qz_times qz_w qz_at qz_pulled qz_best qz_cartRow qz_tryRow qz_pairs qz_from qz_then qz_tryAt z_thrown z_typed z_next z_token z_place z_value z_figures z_fault z_faultAt z_timeMany z_eaten z_half z_bestMinutes z_bestOats z_isDue z_text z_t z_draft z_s z_kept z_isKept z_times z_w z_at z_pulled z_best z_cartRow z_tryRow z_pairs z_from z_then z_tryAt) sz) := by
  refine Met.ofW (cc := cX9_seed) (maxL := 3) (ret := (some .int)) (by decide) rfl ?_
  intro p e s m args below meth c s₁ B hml hv
  obtain ⟨rfl, hsz, hP, hK, hD0⟩ := hv
  have hx := B.exec
  have hb := B.bytes
  have hr := B.returns
  have hts := atoms_spec (ws := wM yX9_seed cX9_seed 3 (some .int)) B.pre
  have hown : s.vm.findClass RX9 = some m.cls := findClass_of_methodNamed B.named
  have hlocks := B.notSynchronized
  subst hsz
  have hD := hD0.self (sz := s.heap.size)
  obtain ⟨A, hAe⟩ : ∃ A, A = va_A (W_X9z cI cZ cII qz qz_text qz_t qz_draft qz_s qz_kept qz_isKept qz_times qz_w qz_at qz_pulled qz_best qz_cartRow qz_tryRow qz_pairs qz_from qz_then qz_tryAt z_thrown z_typed z_next z_token z_place z_value z_figures z_fault z_faultAt z_timeMany z_eaten z_half z_bestMinutes z_bestOats z_isDue z_text z_t z_draft z_s z_kept z_isKept z_times z_w z_at z_pulled z_best z_cartRow z_tryRow z_pairs z_from z_then z_tryAt) s.heap.size := ⟨_, rfl⟩
  rw [← hAe] at hD
  have hA : ∀ q : Nat, s.heap.size ≤ q → A q := fun q h => by rw [hAe]; exact Or.inr h
  have hS : va_S A s.heap s.heap [] := va_S.rf
  have hl := lv_entry ([.ref qz, .int n1]) (n := 3) (Nat.le_of_ble_eq_true rfl)
  rw [lg_entry_eq]
  generalize (lg_sl ([.ref qz, .int n1]) ++ List.replicate (3 - (lg_sl ([.ref qz, .int n1])).length) Slot.unset).toArray = ls at hl ⊢
  have hl : lv_has ls 3 [(0, .ref qz), (1, .int n1)] := hl
  generalize ([.ref qz, .int n1] : List Value).toArray = args at hts ⊢
  have hw : ∀ w ∈ wsL_law, w.before args s = true := fun w h => hts w (List.mem_cons_of_mem _ h)
  refine pg_start (fun Q hQ => ?_)
  have RET : ∀ (H : Heap) (locs : List Loc) (ls : Array Slot) (pc : Nat) (v : Int32) (x0 : Int32) (x1 : Nat → Int32) , decode cX9_seed pc = .ok (.ireturn, 1) → va_P (dC, dI) vwCl (W_X9z cI cZ cII qz qz_text qz_t qz_draft qz_s qz_kept qz_isKept qz_times qz_w qz_at qz_pulled qz_best qz_cartRow qz_tryRow qz_pairs qz_from qz_then qz_tryAt x0 z_typed z_next z_token z_place z_value z_figures z_fault z_faultAt z_timeMany z_eaten z_half z_bestMinutes z_bestOats z_isDue z_text z_t z_draft x1 z_kept z_isKept z_times z_w z_at z_pulled z_best z_cartRow z_tryRow z_pairs z_from z_then z_tryAt) H → va_D A (W_X9z cI cZ cII qz qz_text qz_t qz_draft qz_s qz_kept qz_isKept qz_times qz_w qz_at qz_pulled qz_best qz_cartRow qz_tryRow qz_pairs qz_from qz_then qz_tryAt x0 z_typed z_next z_token z_place z_value z_figures z_fault z_faultAt z_timeMany z_eaten z_half z_bestMinutes z_bestOats z_isDue z_text z_t z_draft x1 z_kept z_isKept z_times z_w z_at z_pulled z_best z_cartRow z_tryRow z_pairs z_from z_then z_tryAt) → va_S A s.heap H locs → (some (v, x0, x1) : Option (Int32 × Int32 × (Nat → Int32))) = some (rr, z_thrown', z_s') → W p l e rm_X9_seed s m args below meth c H locs 0 0 Q (F0 m pc ls [.int v]) := by
    intro H locs ls pc v x0 x1 hd hP hD hS he
    subst hAe; subst hQ
    simp only [Option.some.injEq, Prod.mk.injEq] at he
    obtain ⟨rfl, rfl, rfl⟩ := he
    exact pg_iret hx hb hr hlocks hK hP hD hS hd
  unfold f_X9_seed at hf
  refine lv_aload_n hx hb dX9_seed_0 rfl (lv_at hl 0 rfl) ?_
  refine lv_iconst (v := (0 : Int32)) hx hb dX9_seed_1 (by decide) ?_
  refine va_put (D := (dC, dI)) (ci := 9) (v := .int (0 : Int32)) (ty := .int) (C := RX9) (T := TX9) (N := 32) hx hb hw inlX9 tyX9 tyX9_ok nmX9 hown hK hP hD hS 0 rfl rfl 0 (by decide) (hw _ mw_7_19) (fun _ h9 => h9) rfl (by decide +kernel) rfl rfl (Nat.le_of_ble_eq_true rfl) dX9_seed_2 (fun H locs hP hD hS => ?_)
  have hP : va_P (dC, dI) vwCl (W_X9z cI cZ cII qz qz_text qz_t qz_draft qz_s qz_kept qz_isKept qz_times qz_w qz_at qz_pulled qz_best qz_cartRow qz_tryRow qz_pairs qz_from qz_then qz_tryAt (0 : Int32) z_typed z_next z_token z_place z_value z_figures z_fault z_faultAt z_timeMany z_eaten z_half z_bestMinutes z_bestOats z_isDue z_text z_t z_draft z_s z_kept z_isKept z_times z_w z_at z_pulled z_best z_cartRow z_tryRow z_pairs z_from z_then z_tryAt) H := hP
  have hD : va_D A (W_X9z cI cZ cII qz qz_text qz_t qz_draft qz_s qz_kept qz_isKept qz_times qz_w qz_at qz_pulled qz_best qz_cartRow qz_tryRow qz_pairs qz_from qz_then qz_tryAt (0 : Int32) z_typed z_next z_token z_place z_value z_figures z_fault z_faultAt z_timeMany z_eaten z_half z_bestMinutes z_bestOats z_isDue z_text z_t z_draft z_s z_kept z_isKept z_times z_w z_at z_pulled z_best z_cartRow z_tryRow z_pairs z_from z_then z_tryAt) := hD
  refine lv_iload_n hx hb dX9_seed_5 rfl (lv_at hl 1 rfl) ?_
  refine lv_if_ge (tgt := 12) hx hb dX9_seed_6 (by decide) (fun h9 => ?_) (fun h9 => ?_)
  · have hf := pg_t h9 hf
    refine lv_aload_n hx hb dX9_seed_12 rfl (lv_at hl 0 rfl) ?_
    refine va_get (D := (dC, dI)) (ci := 9) (v := .ref qz_s) (C := RX9) (T := TX9) (N := 32) hx hb hw inlX9 hown hK hP 0 rfl rfl 12 (by decide) (hw _ mw_6_3) (fun _ h9 => h9) rfl dX9_seed_13 ?_
    refine lv_bipush (v := (12 : Int32)) hx hb dX9_seed_16 (by decide) ?_
    refine va_iald hx hb hK hP 4 0 rfl rfl (pg_lit (by decide)) dX9_seed_18 ?_
    refine lv_istore_n (lv' := [(2, .int (z_s ((12 : Int32)).toNatClampNeg)), (0, .ref qz), (1, .int n1)]) hx hb dX9_seed_19 rfl hl (by decide) rfl (fun ls hl => ?_)
    refine lv_aload_n hx hb dX9_seed_20 rfl (lv_at hl 1 rfl) ?_
    refine va_get (D := (dC, dI)) (ci := 9) (v := .ref qz_s) (C := RX9) (T := TX9) (N := 32) hx hb hw inlX9 hown hK hP 0 rfl rfl 12 (by decide) (hw _ mw_6_3) (fun _ h9 => h9) rfl dX9_seed_21 ?_
    refine lv_bipush (v := (12 : Int32)) hx hb dX9_seed_24 (by decide) ?_
    refine lv_iload_n hx hb dX9_seed_26 rfl (lv_at hl 2 rfl) ?_
    refine va_iast hx hb hK hP hD hS 4 0 rfl rfl (pg_lit (by decide)) dX9_seed_27 (fun H locs hP hD hS => ?_)
    have hP : va_P (dC, dI) vwCl (W_X9z cI cZ cII qz qz_text qz_t qz_draft qz_s qz_kept qz_isKept qz_times qz_w qz_at qz_pulled qz_best qz_cartRow qz_tryRow qz_pairs qz_from qz_then qz_tryAt (0 : Int32) z_typed z_next z_token z_place z_value z_figures z_fault z_faultAt z_timeMany z_eaten z_half z_bestMinutes z_bestOats z_isDue z_text z_t z_draft (upd z_s ((12 : Int32)).toNatClampNeg n1) z_kept z_isKept z_times z_w z_at z_pulled z_best z_cartRow z_tryRow z_pairs z_from z_then z_tryAt) H := hP
    have hD : va_D A (W_X9z cI cZ cII qz qz_text qz_t qz_draft qz_s qz_kept qz_isKept qz_times qz_w qz_at qz_pulled qz_best qz_cartRow qz_tryRow qz_pairs qz_from qz_then qz_tryAt (0 : Int32) z_typed z_next z_token z_place z_value z_figures z_fault z_faultAt z_timeMany z_eaten z_half z_bestMinutes z_bestOats z_isDue z_text z_t z_draft (upd z_s ((12 : Int32)).toNatClampNeg n1) z_kept z_isKept z_times z_w z_at z_pulled z_best z_cartRow z_tryRow z_pairs z_from z_then z_tryAt) := hD
    refine lv_iload_n hx hb dX9_seed_28 rfl (lv_at hl 0 rfl) ?_
    exact RET _ _ _ _ _ _ _ dX9_seed_29 hP hD hS hf
  · have hf := pg_f h9 hf
    refine lv_ldc (v := (-1000000002 : Int32)) hx hb hown (hw _ mw_7_20) dX9_seed_9 ?_
    exact RET _ _ _ _ _ _ _ dX9_seed_11 hP hD hS hf
def f_X9_keep (n1 : Int32) (z_thrown : Int32) (z_s : Nat → Int32) (z_kept : Nat → Int32) (z_isKept : Nat → Int32) : Option (Int32 × Int32 × (Nat → Int32) × (Nat → Int32)) :=
  bn1 (f_X9_in n1 (0 : Int32) (1 : Int32)) (fun (r_1 : Int32) =>
    if r_1 = 0 then
      some ((-1000000001 : Int32), (0 : Int32), z_kept, z_isKept)
    else
      jn1 (fun (z_kept_2 : Nat → Int32) =>
        if n1 < 0 ∨ 2 ≤ (n1).toNatClampNeg then none else
        some ((1 : Int32), (0 : Int32), z_kept_2, (upd z_isKept (n1).toNatClampNeg (vp_nar .boolean (1 : Int32))))
      ) (fun K48_2 =>
      lq2 (fun rec4 (y2_4 : Int32) (z_kept_4 : Nat → Int32) =>
        if (13 : Int32) ≤ y2_4 then
          K48_2 z_kept_4
        else
          if y2_4 < 0 ∨ 13 ≤ (y2_4).toNatClampNeg then none else
          if (((13 : Int32) * n1) + y2_4) < 0 ∨ 26 ≤ ((((13 : Int32) * n1) + y2_4)).toNatClampNeg then none else
          rec4 (y2_4 + (1 : Int32)) (upd z_kept_4 ((((13 : Int32) * n1) + y2_4)).toNatClampNeg (z_s (y2_4).toNatClampNeg))
      ) fu (0 : Int32) z_kept
      )
  )
abbrev rm_X9_keep : Room := { frames := 1, cells := 0, slots := 0, locals := 22 }
theorem dk_X9_keep : yX9_keep.cls = RX9 ∧ yX9_keep.cls ≠ "java/lang/invoke/MethodHandle" ∧ yX9_keep.cls ≠ "java/lang/invoke/VarHandle" ∧ (parseMethodDescriptor yX9_keep.desc).map (fun d => d.parameters.length) = some 1 := by decide +kernel
set_option maxHeartbeats 4000000 in
set_option maxRecDepth 100000 in
theorem c_X9_keep (l : Launch) (dC : Nat → ClassId) (dI : Nat → Nat → Nat) (cI cZ cII : ClassId) (qz qz_text qz_t qz_draft qz_s qz_kept qz_isKept qz_times qz_w qz_at qz_pulled qz_best qz_cartRow qz_tryRow qz_pairs qz_from qz_then qz_tryAt : Nat) (sz : Nat) (z_thrown : Int32) (z_typed : Int32) (z_next : Int32) (z_token : Int32) (z_place : Int32) (z_value : Int32) (z_figures : Int32) (z_fault : Int32) (z_faultAt : Int32) (z_timeMany : Int32) (z_eaten : Int32) (z_half : Int32) (z_bestMinutes : Int32) (z_bestOats : Int32) (z_isDue : Int32) (z_text : Nat → Int32) (z_t : Nat → Int32) (z_draft : Nat → Int32) (z_s : Nat → Int32) (z_kept : Nat → Int32) (z_isKept : Nat → Int32) (z_times : Nat → Int32) (z_w : Nat → Int32) (z_at : Nat → Int32) (z_pulled : Nat → Int32) (z_best : Nat → Int32) (z_cartRow : Nat → Int32) (z_tryRow : Nat → Int32) (z_pairs : Nat → Int32) (z_from : Nat → Int32) (z_then : Nat → Int32) (z_tryAt : Nat → Int32) (n1 : Int32) (rr : Int32) (z_thrown' : Int32) (z_kept' : Nat → Int32) (z_isKept' : Nat → Int32) (hf : f_X9_keep n1 z_thrown z_s z_kept z_isKept = some (rr, z_thrown', z_kept', z_isKept')) : Met l yX9_keep (wM yX9_keep cX9_keep 3 (some .int)) rm_X9_keep (PreW (dC, dI) (tyA cI cZ cII) (W_X9z cI cZ cII qz qz_text qz_t qz_draft qz_s qz_kept qz_isKept qz_times qz_w qz_at qz_pulled qz_best qz_cartRow qz_tryRow qz_pairs qz_from qz_then qz_tryAt z_thrown z_typed z_next z_token z_place z_value z_figures z_fault z_faultAt z_timeMany z_eaten z_half z_bestMinutes z_bestOats z_isDue z_text z_t z_draft z_s z_kept z_isKept z_times z_w z_at z_pulled z_best z_cartRow z_tryRow z_pairs z_from z_then z_tryAt) sz [.ref qz, .int n1]) (PostI (dC, dI) (tyA cI cZ cII) rr (W_X9z cI cZ cII qz qz_text qz_t qz_draft qz_s qz_kept qz_isKept qz_times qz_w qz_at qz_pulled qz_best qz_cartRow qz_tryRow qz_pairs qz_from qz_then qz_tryAt z_thrown z_typed z_next z_token z_place z_value z_figures z_fault z_faultAt z_timeMany z_eaten z_half z_bestMinutes z_bestOats z_isDue z_text z_t z_draft z_s z_kept z_isKept z_times z_w z_at z_pulled z_best z_cartRow z_tryRow z_pairs z_from z_then z_tryAt) (W_X9z cI cZ cII qz qz_text qz_t qz_draft qz_s qz_kept qz_isKept qz_times qz_w qz_at qz_pulled qz_best qz_cartRow qz_tryRow qz_pairs qz_from qz_then qz_tryAt z_thrown' z_typed z_next z_token z_place z_value z_figures z_fault z_faultAt z_timeMany z_eaten z_half z_bestMinutes z_bestOats z_isDue z_text z_t z_draft z_s z_kept' z_isKept' z_times z_w z_at z_pulled z_best z_cartRow z_tryRow z_pairs z_from z_then z_tryAt) sz) 0 0 (va_A (W_X9z cI cZ cII qz qz_text qz_t qz_draft qz_s qz_kept qz_isKept qz_times qz_w qz_at qz_pulled qz_best qz_cartRow qz_tryRow qz_pairs qz_from qz_then qz_tryAt z_thrown z_typed z_next z_token z_place z_value z_figures z_fault z_faultAt z_timeMany z_eaten z_half z_bestMinutes z_bestOats z_isDue z_text z_t z_draft z_s z_kept z_isKept z_times z_w z_at z_pulled z_best z_cartRow z_tryRow z_pairs z_from z_then z_tryAt) sz) := by
  refine Met.ofW (cc := cX9_keep) (maxL := 3) (ret := (some .int)) (by decide) rfl ?_
  intro p e s m args below meth c s₁ B hml hv
  obtain ⟨rfl, hsz, hP, hK, hD0⟩ := hv
  have hx := B.exec
  have hb := B.bytes
  have hr := B.returns
  have hts := atoms_spec (ws := wM yX9_keep cX9_keep 3 (some .int)) B.pre
  have hown : s.vm.findClass RX9 = some m.cls := findClass_of_methodNamed B.named
  have hlocks := B.notSynchronized
  subst hsz
  have hD := hD0.self (sz := s.heap.size)
  obtain ⟨A, hAe⟩ : ∃ A, A = va_A (W_X9z cI cZ cII qz qz_text qz_t qz_draft qz_s qz_kept qz_isKept qz_times qz_w qz_at qz_pulled qz_best qz_cartRow qz_tryRow qz_pairs qz_from qz_then qz_tryAt z_thrown z_typed z_next z_token z_place z_value z_figures z_fault z_faultAt z_timeMany z_eaten z_half z_bestMinutes z_bestOats z_isDue z_text z_t z_draft z_s z_kept z_isKept z_times z_w z_at z_pulled z_best z_cartRow z_tryRow z_pairs z_from z_then z_tryAt) s.heap.size := ⟨_, rfl⟩
  rw [← hAe] at hD
  have hA : ∀ q : Nat, s.heap.size ≤ q → A q := fun q h => by rw [hAe]; exact Or.inr h
  have hS : va_S A s.heap s.heap [] := va_S.rf
  have hl := lv_entry ([.ref qz, .int n1]) (n := 3) (Nat.le_of_ble_eq_true rfl)
  rw [lg_entry_eq]
  generalize (lg_sl ([.ref qz, .int n1]) ++ List.replicate (3 - (lg_sl ([.ref qz, .int n1])).length) Slot.unset).toArray = ls at hl ⊢
  have hl : lv_has ls 3 [(0, .ref qz), (1, .int n1)] := hl
  generalize ([.ref qz, .int n1] : List Value).toArray = args at hts ⊢
  have hw : ∀ w ∈ wsL_law, w.before args s = true := fun w h => hts w (List.mem_cons_of_mem _ h)
  refine pg_start (fun Q hQ => ?_)
  have RET : ∀ (H : Heap) (locs : List Loc) (ls : Array Slot) (pc : Nat) (v : Int32) (x0 : Int32) (x1 : Nat → Int32) (x2 : Nat → Int32) , decode cX9_keep pc = .ok (.ireturn, 1) → va_P (dC, dI) vwCl (W_X9z cI cZ cII qz qz_text qz_t qz_draft qz_s qz_kept qz_isKept qz_times qz_w qz_at qz_pulled qz_best qz_cartRow qz_tryRow qz_pairs qz_from qz_then qz_tryAt x0 z_typed z_next z_token z_place z_value z_figures z_fault z_faultAt z_timeMany z_eaten z_half z_bestMinutes z_bestOats z_isDue z_text z_t z_draft z_s x1 x2 z_times z_w z_at z_pulled z_best z_cartRow z_tryRow z_pairs z_from z_then z_tryAt) H → va_D A (W_X9z cI cZ cII qz qz_text qz_t qz_draft qz_s qz_kept qz_isKept qz_times qz_w qz_at qz_pulled qz_best qz_cartRow qz_tryRow qz_pairs qz_from qz_then qz_tryAt x0 z_typed z_next z_token z_place z_value z_figures z_fault z_faultAt z_timeMany z_eaten z_half z_bestMinutes z_bestOats z_isDue z_text z_t z_draft z_s x1 x2 z_times z_w z_at z_pulled z_best z_cartRow z_tryRow z_pairs z_from z_then z_tryAt) → va_S A s.heap H locs → (some (v, x0, x1, x2) : Option (Int32 × Int32 × (Nat → Int32) × (Nat → Int32))) = some (rr, z_thrown', z_kept', z_isKept') → W p l e rm_X9_keep s m args below meth c H locs 0 0 Q (F0 m pc ls [.int v]) := by
    intro H locs ls pc v x0 x1 x2 hd hP hD hS he
    subst hAe; subst hQ
    simp only [Option.some.injEq, Prod.mk.injEq] at he
    obtain ⟨rfl, rfl, rfl, rfl⟩ := he
    exact pg_iret hx hb hr hlocks hK hP hD hS hd
  unfold f_X9_keep at hf
  refine lv_aload_n hx hb dX9_keep_0 rfl (lv_at hl 0 rfl) ?_
  refine lv_iconst (v := (0 : Int32)) hx hb dX9_keep_1 (by decide) ?_
  refine va_put (D := (dC, dI)) (ci := 9) (v := .int (0 : Int32)) (ty := .int) (C := RX9) (T := TX9) (N := 32) hx hb hw inlX9 tyX9 tyX9_ok nmX9 hown hK hP hD hS 0 rfl rfl 0 (by decide) (hw _ mw_7_19) (fun _ h9 => h9) rfl (by decide +kernel) rfl rfl (Nat.le_of_ble_eq_true rfl) dX9_keep_2 (fun H locs hP hD hS => ?_)
  have hP : va_P (dC, dI) vwCl (W_X9z cI cZ cII qz qz_text qz_t qz_draft qz_s qz_kept qz_isKept qz_times qz_w qz_at qz_pulled qz_best qz_cartRow qz_tryRow qz_pairs qz_from qz_then qz_tryAt (0 : Int32) z_typed z_next z_token z_place z_value z_figures z_fault z_faultAt z_timeMany z_eaten z_half z_bestMinutes z_bestOats z_isDue z_text z_t z_draft z_s z_kept z_isKept z_times z_w z_at z_pulled z_best z_cartRow z_tryRow z_pairs z_from z_then z_tryAt) H := hP
  have hD : va_D A (W_X9z cI cZ cII qz qz_text qz_t qz_draft qz_s qz_kept qz_isKept qz_times qz_w qz_at qz_pulled qz_best qz_cartRow qz_tryRow qz_pairs qz_from qz_then qz_tryAt (0 : Int32) z_typed z_next z_token z_place z_value z_figures z_fault z_faultAt z_timeMany z_eaten z_half z_bestMinutes z_bestOats z_isDue z_text z_t z_draft z_s z_kept z_isKept z_times z_w z_at z_pulled z_best z_cartRow z_tryRow z_pairs z_from z_then z_tryAt) := hD
  refine lv_iload_n hx hb dX9_keep_5 rfl (lv_at hl 1 rfl) ?_
  refine lv_iconst (v := (0 : Int32)) hx hb dX9_keep_6 (by decide) ?_
  refine lv_iconst (v := (1 : Int32)) hx hb dX9_keep_7 (by decide) ?_
  obtain ⟨r_1, hc, hf⟩ := bn1_s hf
  refine pg_cSi (As := [.int n1, .int (0 : Int32), .int (1 : Int32)]) (rest := []) (wf := (W_X9z cI cZ cII qz qz_text qz_t qz_draft qz_s qz_kept qz_isKept qz_times qz_w qz_at qz_pulled qz_best qz_cartRow qz_tryRow qz_pairs qz_from qz_then qz_tryAt (0 : Int32) z_typed z_next z_token z_place z_value z_figures z_fault z_faultAt z_timeMany z_eaten z_half z_bestMinutes z_bestOats z_isDue z_text z_t z_draft z_s z_kept z_isKept z_times z_w z_at z_pulled z_best z_cartRow z_tryRow z_pairs z_from z_then z_tryAt)) ⟨hx, hb, hml, hown, hw⟩ (c_X9_in l dC dI cI cZ cII  H.size  n1 (0 : Int32) (1 : Int32) r_1 hc) (va_cwS 3 hts (wM_S mw_8_0 mw_8_1 mw_1_5 mw_8_2) rfl rfl rfl dk_X9_in ⟨Nat.le_of_ble_eq_true rfl, Nat.le_of_ble_eq_true rfl⟩) hK hP hD hS hA [] [0, 1, 2, 3, 4, 5, 6, 7, 8, 9, 10, 11, 12, 13, 14, 15, 16, 17] [0, 1, 2, 3, 4, 5, 6, 7, 8, 9, 10, 11, 12, 13, 14, 15, 16, 17] (plC_62 cI cZ cII qz qz_text qz_t qz_draft qz_s qz_kept qz_isKept qz_times qz_w qz_at qz_pulled qz_best qz_cartRow qz_tryRow qz_pairs qz_from qz_then qz_tryAt (0 : Int32) z_typed z_next z_token z_place z_value z_figures z_fault z_faultAt z_timeMany z_eaten z_half z_bestMinutes z_bestOats z_isDue z_text z_t z_draft z_s z_kept z_isKept z_times z_w z_at z_pulled z_best z_cartRow z_tryRow z_pairs z_from z_then z_tryAt) rfl (plF_62 cI cZ cII qz qz_text qz_t qz_draft qz_s qz_kept qz_isKept qz_times qz_w qz_at qz_pulled qz_best qz_cartRow qz_tryRow qz_pairs qz_from qz_then qz_tryAt (0 : Int32) z_typed z_next z_token z_place z_value z_figures z_fault z_faultAt z_timeMany z_eaten z_half z_bestMinutes z_bestOats z_isDue z_text z_t z_draft z_s z_kept z_isKept z_times z_w z_at z_pulled z_best z_cartRow z_tryRow z_pairs z_from z_then z_tryAt ) (by decide) rfl hl.1 rfl (Nat.le_of_ble_eq_true rfl) dX9_keep_8 ⟨Nat.zero_le _, Nat.zero_le _⟩ (fun H locs hP hD hS => ?_)
  refine lv_if_ne (tgt := 17) hx hb dX9_keep_11 (by decide) (fun h9 => ?_) (fun h9 => ?_)
  · have hf := pg_f h9 hf
    refine lv_iconst (v := (0 : Int32)) hx hb dX9_keep_17 (by decide) ?_
    refine lv_istore_n (lv' := [(2, .int (0 : Int32)), (0, .ref qz), (1, .int n1)]) hx hb dX9_keep_18 rfl hl (by decide) rfl (fun ls hl => ?_)
    obtain ⟨K48_2, hK48_2, hf⟩ := jn1_s hf
    have WK48_2 : ∀ (z_kept_2 : Nat → Int32) (H : Heap) (locs : List Loc) (ls : Array Slot), va_P (dC, dI) vwCl (W_X9z cI cZ cII qz qz_text qz_t qz_draft qz_s qz_kept qz_isKept qz_times qz_w qz_at qz_pulled qz_best qz_cartRow qz_tryRow qz_pairs qz_from qz_then qz_tryAt (0 : Int32) z_typed z_next z_token z_place z_value z_figures z_fault z_faultAt z_timeMany z_eaten z_half z_bestMinutes z_bestOats z_isDue z_text z_t z_draft z_s z_kept_2 z_isKept z_times z_w z_at z_pulled z_best z_cartRow z_tryRow z_pairs z_from z_then z_tryAt) H → va_D A (W_X9z cI cZ cII qz qz_text qz_t qz_draft qz_s qz_kept qz_isKept qz_times qz_w qz_at qz_pulled qz_best qz_cartRow qz_tryRow qz_pairs qz_from qz_then qz_tryAt (0 : Int32) z_typed z_next z_token z_place z_value z_figures z_fault z_faultAt z_timeMany z_eaten z_half z_bestMinutes z_bestOats z_isDue z_text z_t z_draft z_s z_kept_2 z_isKept z_times z_w z_at z_pulled z_best z_cartRow z_tryRow z_pairs z_from z_then z_tryAt) → va_S A s.heap H locs → lv_has ls 3 [(0, .ref qz), (1, .int n1)] → K48_2 z_kept_2 = some (rr, z_thrown', z_kept', z_isKept') → W p l e rm_X9_keep s m args below meth c H locs 0 0 Q (F0 m 48 ls []) := by
      intro z_kept_2 H locs ls hP hD hS hl hf
      have hf := hK48_2 _ hf
      refine lv_aload_n hx hb dX9_keep_48 rfl (lv_at hl 0 rfl) ?_
      refine va_get (D := (dC, dI)) (ci := 9) (v := .ref qz_isKept) (C := RX9) (T := TX9) (N := 32) hx hb hw inlX9 hown hK hP 0 rfl rfl 14 (by decide) (hw _ mw_6_6) (fun _ h9 => h9) rfl dX9_keep_49 ?_
      refine lv_iload_n hx hb dX9_keep_52 rfl (lv_at hl 1 rfl) ?_
      refine lv_iconst (v := (1 : Int32)) hx hb dX9_keep_53 (by decide) ?_
      obtain ⟨hi3, hf⟩ := pg_chk hf
      refine va_zast hx hb hK hP hD hS 6 1 rfl rfl hi3 dX9_keep_54 (fun H locs hP hD hS => ?_)
      have hP : va_P (dC, dI) vwCl (W_X9z cI cZ cII qz qz_text qz_t qz_draft qz_s qz_kept qz_isKept qz_times qz_w qz_at qz_pulled qz_best qz_cartRow qz_tryRow qz_pairs qz_from qz_then qz_tryAt (0 : Int32) z_typed z_next z_token z_place z_value z_figures z_fault z_faultAt z_timeMany z_eaten z_half z_bestMinutes z_bestOats z_isDue z_text z_t z_draft z_s z_kept_2 (upd z_isKept (n1).toNatClampNeg (vp_nar .boolean (1 : Int32))) z_times z_w z_at z_pulled z_best z_cartRow z_tryRow z_pairs z_from z_then z_tryAt) H := hP
      have hD : va_D A (W_X9z cI cZ cII qz qz_text qz_t qz_draft qz_s qz_kept qz_isKept qz_times qz_w qz_at qz_pulled qz_best qz_cartRow qz_tryRow qz_pairs qz_from qz_then qz_tryAt (0 : Int32) z_typed z_next z_token z_place z_value z_figures z_fault z_faultAt z_timeMany z_eaten z_half z_bestMinutes z_bestOats z_isDue z_text z_t z_draft z_s z_kept_2 (upd z_isKept (n1).toNatClampNeg (vp_nar .boolean (1 : Int32))) z_times z_w z_at z_pulled z_best z_cartRow z_tryRow z_pairs z_from z_then z_tryAt) := hD
      refine lv_iconst (v := (1 : Int32)) hx hb dX9_keep_55 (by decide) ?_
      exact RET _ _ _ _ _ _ _ _ dX9_keep_56 hP hD hS hf
    obtain ⟨B4, hB4, hf⟩ := lq2_n hf
    have WL4 : ∀ (n9 : Nat) (y2_4 : Int32) (z_kept_4 : Nat → Int32) (H : Heap) (locs : List Loc) (ls : Array Slot), va_P (dC, dI) vwCl (W_X9z cI cZ cII qz qz_text qz_t qz_draft qz_s qz_kept qz_isKept qz_times qz_w qz_at qz_pulled qz_best qz_cartRow qz_tryRow qz_pairs qz_from qz_then qz_tryAt (0 : Int32) z_typed z_next z_token z_place z_value z_figures z_fault z_faultAt z_timeMany z_eaten z_half z_bestMinutes z_bestOats z_isDue z_text z_t z_draft z_s z_kept_4 z_isKept z_times z_w z_at z_pulled z_best z_cartRow z_tryRow z_pairs z_from z_then z_tryAt) H → va_D A (W_X9z cI cZ cII qz qz_text qz_t qz_draft qz_s qz_kept qz_isKept qz_times qz_w qz_at qz_pulled qz_best qz_cartRow qz_tryRow qz_pairs qz_from qz_then qz_tryAt (0 : Int32) z_typed z_next z_token z_place z_value z_figures z_fault z_faultAt z_timeMany z_eaten z_half z_bestMinutes z_bestOats z_isDue z_text z_t z_draft z_s z_kept_4 z_isKept z_times z_w z_at z_pulled z_best z_cartRow z_tryRow z_pairs z_from z_then z_tryAt) → va_S A s.heap H locs → lv_has ls 3 [(0, .ref qz), (1, .int n1), (2, .int y2_4)] → lq2 B4 n9 y2_4 z_kept_4 = some (rr, z_thrown', z_kept', z_isKept') → W p l e rm_X9_keep s m args below meth c H locs 0 0 Q (F0 m 19 ls []) := by
      intro n9
      induction n9 with
      | zero => intro y2_4 z_kept_4 H locs ls hP hD hS hl hf; cases hf
      | succ n9 ih =>
        intro y2_4 z_kept_4 H locs ls hP hD hS hl hf
        obtain ⟨rec4, hrec4, hf⟩ := lq2_s hf
        have hf := hB4 rec4 _ _ hf
        refine lv_iload_n hx hb dX9_keep_19 rfl (lv_at hl 2 rfl) ?_
        refine lv_bipush (v := (13 : Int32)) hx hb dX9_keep_20 (by decide) ?_
        refine lv_icmp_ge (tgt := 48) hx hb dX9_keep_22 (by decide) (fun h9 => ?_) (fun h9 => ?_)
        · have hf := pg_t h9 hf
          exact WK48_2 _ _ _ _ hP hD hS (lv_sub hl [0, 1] rfl) hf
        · have hf := pg_f h9 hf
          refine lv_aload_n hx hb dX9_keep_25 rfl (lv_at hl 0 rfl) ?_
          refine va_get (D := (dC, dI)) (ci := 9) (v := .ref qz_kept) (C := RX9) (T := TX9) (N := 32) hx hb hw inlX9 hown hK hP 0 rfl rfl 13 (by decide) (hw _ mw_6_4) (fun _ h9 => h9) rfl dX9_keep_26 ?_
          refine lv_bipush (v := (13 : Int32)) hx hb dX9_keep_29 (by decide) ?_
          refine lv_iload_n hx hb dX9_keep_31 rfl (lv_at hl 1 rfl) ?_
          refine lv_imul hx hb dX9_keep_32 ?_
          refine lv_iload_n hx hb dX9_keep_33 rfl (lv_at hl 2 rfl) ?_
          refine lv_iadd hx hb dX9_keep_34 ?_
          refine lv_aload_n hx hb dX9_keep_35 rfl (lv_at hl 0 rfl) ?_
          refine va_get (D := (dC, dI)) (ci := 9) (v := .ref qz_s) (C := RX9) (T := TX9) (N := 32) hx hb hw inlX9 hown hK hP 0 rfl rfl 12 (by decide) (hw _ mw_6_3) (fun _ h9 => h9) rfl dX9_keep_36 ?_
          refine lv_iload_n hx hb dX9_keep_39 rfl (lv_at hl 2 rfl) ?_
          obtain ⟨hi5, hf⟩ := pg_chk hf
          refine va_iald hx hb hK hP 4 0 rfl rfl hi5 dX9_keep_40 ?_
          obtain ⟨hi6, hf⟩ := pg_chk hf
          refine va_iast hx hb hK hP hD hS 5 0 rfl rfl hi6 dX9_keep_41 (fun H locs hP hD hS => ?_)
          have hP : va_P (dC, dI) vwCl (W_X9z cI cZ cII qz qz_text qz_t qz_draft qz_s qz_kept qz_isKept qz_times qz_w qz_at qz_pulled qz_best qz_cartRow qz_tryRow qz_pairs qz_from qz_then qz_tryAt (0 : Int32) z_typed z_next z_token z_place z_value z_figures z_fault z_faultAt z_timeMany z_eaten z_half z_bestMinutes z_bestOats z_isDue z_text z_t z_draft z_s (upd z_kept_4 ((((13 : Int32) * n1) + y2_4)).toNatClampNeg (z_s (y2_4).toNatClampNeg)) z_isKept z_times z_w z_at z_pulled z_best z_cartRow z_tryRow z_pairs z_from z_then z_tryAt) H := hP
          have hD : va_D A (W_X9z cI cZ cII qz qz_text qz_t qz_draft qz_s qz_kept qz_isKept qz_times qz_w qz_at qz_pulled qz_best qz_cartRow qz_tryRow qz_pairs qz_from qz_then qz_tryAt (0 : Int32) z_typed z_next z_token z_place z_value z_figures z_fault z_faultAt z_timeMany z_eaten z_half z_bestMinutes z_bestOats z_isDue z_text z_t z_draft z_s (upd z_kept_4 ((((13 : Int32) * n1) + y2_4)).toNatClampNeg (z_s (y2_4).toNatClampNeg)) z_isKept z_times z_w z_at z_pulled z_best z_cartRow z_tryRow z_pairs z_from z_then z_tryAt) := hD
          refine lv_iinc (v := (y2_4 + (1 : Int32))) (lv' := [(2, .int (y2_4 + (1 : Int32))), (0, .ref qz), (1, .int n1)]) hx hb dX9_keep_42 hl (k := 2) rfl rfl (by decide) rfl (fun ls hl => ?_)
          refine lv_goto (tgt := 19) hx hb dX9_keep_45 (by decide) ?_
          exact ih _ _ _ _ _ hP hD hS (lv_sub hl [1, 2, 0] rfl) (hrec4 _ _ hf)
    exact WL4 fu _ _ _ _ _ hP hD hS (lv_sub hl [1, 2, 0] rfl) hf
  · have hf := pg_t h9 hf
    refine lv_ldc (v := (-1000000001 : Int32)) hx hb hown (hw _ mw_25_12) dX9_keep_14 ?_
    exact RET _ _ _ _ _ _ _ _ dX9_keep_16 hP hD hS hf
def f_X9_goBack (n1 : Int32) (z_thrown : Int32) (z_s : Nat → Int32) (z_kept : Nat → Int32) (z_isKept : Nat → Int32) : Option (Int32 × Int32 × (Nat → Int32)) :=
  bn1 (f_X9_in n1 (0 : Int32) (1 : Int32)) (fun (r_1 : Int32) =>
    if r_1 = 0 then
      some ((-1000000001 : Int32), (0 : Int32), z_s)
    else
      if n1 < 0 ∨ 2 ≤ (n1).toNatClampNeg then none else
      if (z_isKept (n1).toNatClampNeg) = 0 then
        some ((-1000000003 : Int32), (0 : Int32), z_s)
      else
        jn1 (fun (z_s_3 : Nat → Int32) =>
          some ((1 : Int32), (0 : Int32), z_s_3)
        ) (fun K60_3 =>
        lq2 (fun rec4 (y2_4 : Int32) (z_s_4 : Nat → Int32) =>
          if (13 : Int32) ≤ y2_4 then
            K60_3 z_s_4
          else
            if (((13 : Int32) * n1) + y2_4) < 0 ∨ 26 ≤ ((((13 : Int32) * n1) + y2_4)).toNatClampNeg then none else
            if y2_4 < 0 ∨ 13 ≤ (y2_4).toNatClampNeg then none else
            rec4 (y2_4 + (1 : Int32)) (upd z_s_4 (y2_4).toNatClampNeg (z_kept ((((13 : Int32) * n1) + y2_4)).toNatClampNeg))
        ) fu (0 : Int32) z_s
        )
  )
abbrev rm_X9_goBack : Room := { frames := 1, cells := 0, slots := 0, locals := 22 }
theorem dk_X9_goBack : yX9_goBack.cls = RX9 ∧ yX9_goBack.cls ≠ "java/lang/invoke/MethodHandle" ∧ yX9_goBack.cls ≠ "java/lang/invoke/VarHandle" ∧ (parseMethodDescriptor yX9_goBack.desc).map (fun d => d.parameters.length) = some 1 := by decide +kernel
set_option maxHeartbeats 4000000 in
set_option maxRecDepth 100000 in
theorem c_X9_goBack (l : Launch) (dC : Nat → ClassId) (dI : Nat → Nat → Nat) (cI cZ cII : ClassId) (qz qz_text qz_t qz_draft qz_s qz_kept qz_isKept qz_times qz_w qz_at qz_pulled qz_best qz_cartRow qz_tryRow qz_pairs qz_from qz_then qz_tryAt : Nat) (sz : Nat) (z_thrown : Int32) (z_typed : Int32) (z_next : Int32) (z_token : Int32) (z_place : Int32) (z_value : Int32) (z_figures : Int32) (z_fault : Int32) (z_faultAt : Int32) (z_timeMany : Int32) (z_eaten : Int32) (z_half : Int32) (z_bestMinutes : Int32) (z_bestOats : Int32) (z_isDue : Int32) (z_text : Nat → Int32) (z_t : Nat → Int32) (z_draft : Nat → Int32) (z_s : Nat → Int32) (z_kept : Nat → Int32) (z_isKept : Nat → Int32) (z_times : Nat → Int32) (z_w : Nat → Int32) (z_at : Nat → Int32) (z_pulled : Nat → Int32) (z_best : Nat → Int32) (z_cartRow : Nat → Int32) (z_tryRow : Nat → Int32) (z_pairs : Nat → Int32) (z_from : Nat → Int32) (z_then : Nat → Int32) (z_tryAt : Nat → Int32) (n1 : Int32) (rr : Int32) (z_thrown' : Int32) (z_s' : Nat → Int32) (hf : f_X9_goBack n1 z_thrown z_s z_kept z_isKept = some (rr, z_thrown', z_s')) : Met l yX9_goBack (wM yX9_goBack cX9_goBack 3 (some .int)) rm_X9_goBack (PreW (dC, dI) (tyA cI cZ cII) (W_X9z cI cZ cII qz qz_text qz_t qz_draft qz_s qz_kept qz_isKept qz_times qz_w qz_at qz_pulled qz_best qz_cartRow qz_tryRow qz_pairs qz_from qz_then qz_tryAt z_thrown z_typed z_next z_token z_place z_value z_figures z_fault z_faultAt z_timeMany z_eaten z_half z_bestMinutes z_bestOats z_isDue z_text z_t z_draft z_s z_kept z_isKept z_times z_w z_at z_pulled z_best z_cartRow z_tryRow z_pairs z_from z_then z_tryAt) sz [.ref qz, .int n1]) (PostI (dC, dI) (tyA cI cZ cII) rr (W_X9z cI cZ cII qz qz_text qz_t qz_draft qz_s qz_kept qz_isKept qz_times qz_w qz_at qz_pulled qz_best qz_cartRow qz_tryRow qz_pairs qz_from qz_then qz_tryAt z_thrown z_typed z_next z_token z_place z_value z_figures z_fault z_faultAt z_timeMany z_eaten z_half z_bestMinutes z_bestOats z_isDue z_text z_t z_draft z_s z_kept z_isKept z_times z_w z_at z_pulled z_best z_cartRow z_tryRow z_pairs z_from z_then z_tryAt) (W_X9z cI cZ cII qz qz_text qz_t qz_draft qz_s qz_kept qz_isKept qz_times qz_w qz_at qz_pulled qz_best qz_cartRow qz_tryRow qz_pairs qz_from qz_then qz_tryAt z_thrown' z_typed z_next z_token z_place z_value z_figures z_fault z_faultAt z_timeMany z_eaten z_half z_bestMinutes z_bestOats z_isDue z_text z_t z_draft z_s' z_kept z_isKept z_times z_w z_at z_pulled z_best z_cartRow z_tryRow z_pairs z_from z_then z_tryAt) sz) 0 0 (va_A (W_X9z cI cZ cII qz qz_text qz_t qz_draft qz_s qz_kept qz_isKept qz_times qz_w qz_at qz_pulled qz_best qz_cartRow qz_tryRow qz_pairs qz_from qz_then qz_tryAt z_thrown z_typed z_next z_token z_place z_value z_figures z_fault z_faultAt z_timeMany z_eaten z_half z_bestMinutes z_bestOats z_isDue z_text z_t z_draft z_s z_kept z_isKept z_times z_w z_at z_pulled z_best z_cartRow z_tryRow z_pairs z_from z_then z_tryAt) sz) := by
  refine Met.ofW (cc := cX9_goBack) (maxL := 3) (ret := (some .int)) (by decide) rfl ?_
  intro p e s m args below meth c s₁ B hml hv
  obtain ⟨rfl, hsz, hP, hK, hD0⟩ := hv
  have hx := B.exec
  have hb := B.bytes
  have hr := B.returns
  have hts := atoms_spec (ws := wM yX9_goBack cX9_goBack 3 (some .int)) B.pre
  have hown : s.vm.findClass RX9 = some m.cls := findClass_of_methodNamed B.named
  have hlocks := B.notSynchronized
  subst hsz
  have hD := hD0.self (sz := s.heap.size)
  obtain ⟨A, hAe⟩ : ∃ A, A = va_A (W_X9z cI cZ cII qz qz_text qz_t qz_draft qz_s qz_kept qz_isKept qz_times qz_w qz_at qz_pulled qz_best qz_cartRow qz_tryRow qz_pairs qz_from qz_then qz_tryAt z_thrown z_typed z_next z_token z_place z_value z_figures z_fault z_faultAt z_timeMany z_eaten z_half z_bestMinutes z_bestOats z_isDue z_text z_t z_draft z_s z_kept z_isKept z_times z_w z_at z_pulled z_best z_cartRow z_tryRow z_pairs z_from z_then z_tryAt) s.heap.size := ⟨_, rfl⟩
  rw [← hAe] at hD
  have hA : ∀ q : Nat, s.heap.size ≤ q → A q := fun q h => by rw [hAe]; exact Or.inr h
  have hS : va_S A s.heap s.heap [] := va_S.rf
  have hl := lv_entry ([.ref qz, .int n1]) (n := 3) (Nat.le_of_ble_eq_true rfl)
  rw [lg_entry_eq]
  generalize (lg_sl ([.ref qz, .int n1]) ++ List.replicate (3 - (lg_sl ([.ref qz, .int n1])).length) Slot.unset).toArray = ls at hl ⊢
  have hl : lv_has ls 3 [(0, .ref qz), (1, .int n1)] := hl
  generalize ([.ref qz, .int n1] : List Value).toArray = args at hts ⊢
  have hw : ∀ w ∈ wsL_law, w.before args s = true := fun w h => hts w (List.mem_cons_of_mem _ h)
  refine pg_start (fun Q hQ => ?_)
  have RET : ∀ (H : Heap) (locs : List Loc) (ls : Array Slot) (pc : Nat) (v : Int32) (x0 : Int32) (x1 : Nat → Int32) , decode cX9_goBack pc = .ok (.ireturn, 1) → va_P (dC, dI) vwCl (W_X9z cI cZ cII qz qz_text qz_t qz_draft qz_s qz_kept qz_isKept qz_times qz_w qz_at qz_pulled qz_best qz_cartRow qz_tryRow qz_pairs qz_from qz_then qz_tryAt x0 z_typed z_next z_token z_place z_value z_figures z_fault z_faultAt z_timeMany z_eaten z_half z_bestMinutes z_bestOats z_isDue z_text z_t z_draft x1 z_kept z_isKept z_times z_w z_at z_pulled z_best z_cartRow z_tryRow z_pairs z_from z_then z_tryAt) H → va_D A (W_X9z cI cZ cII qz qz_text qz_t qz_draft qz_s qz_kept qz_isKept qz_times qz_w qz_at qz_pulled qz_best qz_cartRow qz_tryRow qz_pairs qz_from qz_then qz_tryAt x0 z_typed z_next z_token z_place z_value z_figures z_fault z_faultAt z_timeMany z_eaten z_half z_bestMinutes z_bestOats z_isDue z_text z_t z_draft x1 z_kept z_isKept z_times z_w z_at z_pulled z_best z_cartRow z_tryRow z_pairs z_from z_then z_tryAt) → va_S A s.heap H locs → (some (v, x0, x1) : Option (Int32 × Int32 × (Nat → Int32))) = some (rr, z_thrown', z_s') → W p l e rm_X9_goBack s m args below meth c H locs 0 0 Q (F0 m pc ls [.int v]) := by
    intro H locs ls pc v x0 x1 hd hP hD hS he
    subst hAe; subst hQ
    simp only [Option.some.injEq, Prod.mk.injEq] at he
    obtain ⟨rfl, rfl, rfl⟩ := he
    exact pg_iret hx hb hr hlocks hK hP hD hS hd
  unfold f_X9_goBack at hf
  refine lv_aload_n hx hb dX9_goBack_0 rfl (lv_at hl 0 rfl) ?_
  refine lv_iconst (v := (0 : Int32)) hx hb dX9_goBack_1 (by decide) ?_
  refine va_put (D := (dC, dI)) (ci := 9) (v := .int (0 : Int32)) (ty := .int) (C := RX9) (T := TX9) (N := 32) hx hb hw inlX9 tyX9 tyX9_ok nmX9 hown hK hP hD hS 0 rfl rfl 0 (by decide) (hw _ mw_7_19) (fun _ h9 => h9) rfl (by decide +kernel) rfl rfl (Nat.le_of_ble_eq_true rfl) dX9_goBack_2 (fun H locs hP hD hS => ?_)
  have hP : va_P (dC, dI) vwCl (W_X9z cI cZ cII qz qz_text qz_t qz_draft qz_s qz_kept qz_isKept qz_times qz_w qz_at qz_pulled qz_best qz_cartRow qz_tryRow qz_pairs qz_from qz_then qz_tryAt (0 : Int32) z_typed z_next z_token z_place z_value z_figures z_fault z_faultAt z_timeMany z_eaten z_half z_bestMinutes z_bestOats z_isDue z_text z_t z_draft z_s z_kept z_isKept z_times z_w z_at z_pulled z_best z_cartRow z_tryRow z_pairs z_from z_then z_tryAt) H := hP
  have hD : va_D A (W_X9z cI cZ cII qz qz_text qz_t qz_draft qz_s qz_kept qz_isKept qz_times qz_w qz_at qz_pulled qz_best qz_cartRow qz_tryRow qz_pairs qz_from qz_then qz_tryAt (0 : Int32) z_typed z_next z_token z_place z_value z_figures z_fault z_faultAt z_timeMany z_eaten z_half z_bestMinutes z_bestOats z_isDue z_text z_t z_draft z_s z_kept z_isKept z_times z_w z_at z_pulled z_best z_cartRow z_tryRow z_pairs z_from z_then z_tryAt) := hD
  refine lv_iload_n hx hb dX9_goBack_5 rfl (lv_at hl 1 rfl) ?_
  refine lv_iconst (v := (0 : Int32)) hx hb dX9_goBack_6 (by decide) ?_
  refine lv_iconst (v := (1 : Int32)) hx hb dX9_goBack_7 (by decide) ?_
  obtain ⟨r_1, hc, hf⟩ := bn1_s hf
  refine pg_cSi (As := [.int n1, .int (0 : Int32), .int (1 : Int32)]) (rest := []) (wf := (W_X9z cI cZ cII qz qz_text qz_t qz_draft qz_s qz_kept qz_isKept qz_times qz_w qz_at qz_pulled qz_best qz_cartRow qz_tryRow qz_pairs qz_from qz_then qz_tryAt (0 : Int32) z_typed z_next z_token z_place z_value z_figures z_fault z_faultAt z_timeMany z_eaten z_half z_bestMinutes z_bestOats z_isDue z_text z_t z_draft z_s z_kept z_isKept z_times z_w z_at z_pulled z_best z_cartRow z_tryRow z_pairs z_from z_then z_tryAt)) ⟨hx, hb, hml, hown, hw⟩ (c_X9_in l dC dI cI cZ cII  H.size  n1 (0 : Int32) (1 : Int32) r_1 hc) (va_cwS 3 hts (wM_S mw_8_0 mw_8_1 mw_1_5 mw_8_2) rfl rfl rfl dk_X9_in ⟨Nat.le_of_ble_eq_true rfl, Nat.le_of_ble_eq_true rfl⟩) hK hP hD hS hA [] [0, 1, 2, 3, 4, 5, 6, 7, 8, 9, 10, 11, 12, 13, 14, 15, 16, 17] [0, 1, 2, 3, 4, 5, 6, 7, 8, 9, 10, 11, 12, 13, 14, 15, 16, 17] (plC_62 cI cZ cII qz qz_text qz_t qz_draft qz_s qz_kept qz_isKept qz_times qz_w qz_at qz_pulled qz_best qz_cartRow qz_tryRow qz_pairs qz_from qz_then qz_tryAt (0 : Int32) z_typed z_next z_token z_place z_value z_figures z_fault z_faultAt z_timeMany z_eaten z_half z_bestMinutes z_bestOats z_isDue z_text z_t z_draft z_s z_kept z_isKept z_times z_w z_at z_pulled z_best z_cartRow z_tryRow z_pairs z_from z_then z_tryAt) rfl (plF_62 cI cZ cII qz qz_text qz_t qz_draft qz_s qz_kept qz_isKept qz_times qz_w qz_at qz_pulled qz_best qz_cartRow qz_tryRow qz_pairs qz_from qz_then qz_tryAt (0 : Int32) z_typed z_next z_token z_place z_value z_figures z_fault z_faultAt z_timeMany z_eaten z_half z_bestMinutes z_bestOats z_isDue z_text z_t z_draft z_s z_kept z_isKept z_times z_w z_at z_pulled z_best z_cartRow z_tryRow z_pairs z_from z_then z_tryAt ) (by decide) rfl hl.1 rfl (Nat.le_of_ble_eq_true rfl) dX9_goBack_8 ⟨Nat.zero_le _, Nat.zero_le _⟩ (fun H locs hP hD hS => ?_)
  refine lv_if_ne (tgt := 17) hx hb dX9_goBack_11 (by decide) (fun h9 => ?_) (fun h9 => ?_)
  · have hf := pg_f h9 hf
    refine lv_aload_n hx hb dX9_goBack_17 rfl (lv_at hl 0 rfl) ?_
    refine va_get (D := (dC, dI)) (ci := 9) (v := .ref qz_isKept) (C := RX9) (T := TX9) (N := 32) hx hb hw inlX9 hown hK hP 0 rfl rfl 14 (by decide) (hw _ mw_6_6) (fun _ h9 => h9) rfl dX9_goBack_18 ?_
    refine lv_iload_n hx hb dX9_goBack_21 rfl (lv_at hl 1 rfl) ?_
    obtain ⟨hi2, hf⟩ := pg_chk hf
    refine va_zald hx hb hK hP 6 1 rfl rfl hi2 dX9_goBack_22 ?_
    refine lv_if_ne (tgt := 29) hx hb dX9_goBack_23 (by decide) (fun h9 => ?_) (fun h9 => ?_)
    · have hf := pg_f h9 hf
      refine lv_iconst (v := (0 : Int32)) hx hb dX9_goBack_29 (by decide) ?_
      refine lv_istore_n (lv' := [(2, .int (0 : Int32)), (0, .ref qz), (1, .int n1)]) hx hb dX9_goBack_30 rfl hl (by decide) rfl (fun ls hl => ?_)
      obtain ⟨K60_3, hK60_3, hf⟩ := jn1_s hf
      have WK60_3 : ∀ (z_s_3 : Nat → Int32) (H : Heap) (locs : List Loc) (ls : Array Slot), va_P (dC, dI) vwCl (W_X9z cI cZ cII qz qz_text qz_t qz_draft qz_s qz_kept qz_isKept qz_times qz_w qz_at qz_pulled qz_best qz_cartRow qz_tryRow qz_pairs qz_from qz_then qz_tryAt (0 : Int32) z_typed z_next z_token z_place z_value z_figures z_fault z_faultAt z_timeMany z_eaten z_half z_bestMinutes z_bestOats z_isDue z_text z_t z_draft z_s_3 z_kept z_isKept z_times z_w z_at z_pulled z_best z_cartRow z_tryRow z_pairs z_from z_then z_tryAt) H → va_D A (W_X9z cI cZ cII qz qz_text qz_t qz_draft qz_s qz_kept qz_isKept qz_times qz_w qz_at qz_pulled qz_best qz_cartRow qz_tryRow qz_pairs qz_from qz_then qz_tryAt (0 : Int32) z_typed z_next z_token z_place z_value z_figures z_fault z_faultAt z_timeMany z_eaten z_half z_bestMinutes z_bestOats z_isDue z_text z_t z_draft z_s_3 z_kept z_isKept z_times z_w z_at z_pulled z_best z_cartRow z_tryRow z_pairs z_from z_then z_tryAt) → va_S A s.heap H locs → lv_has ls 3 [] → K60_3 z_s_3 = some (rr, z_thrown', z_s') → W p l e rm_X9_goBack s m args below meth c H locs 0 0 Q (F0 m 60 ls []) := by
        intro z_s_3 H locs ls hP hD hS hl hf
        have hf := hK60_3 _ hf
        refine lv_iconst (v := (1 : Int32)) hx hb dX9_goBack_60 (by decide) ?_
        exact RET _ _ _ _ _ _ _ dX9_goBack_61 hP hD hS hf
      obtain ⟨B4, hB4, hf⟩ := lq2_n hf
      have WL4 : ∀ (n9 : Nat) (y2_4 : Int32) (z_s_4 : Nat → Int32) (H : Heap) (locs : List Loc) (ls : Array Slot), va_P (dC, dI) vwCl (W_X9z cI cZ cII qz qz_text qz_t qz_draft qz_s qz_kept qz_isKept qz_times qz_w qz_at qz_pulled qz_best qz_cartRow qz_tryRow qz_pairs qz_from qz_then qz_tryAt (0 : Int32) z_typed z_next z_token z_place z_value z_figures z_fault z_faultAt z_timeMany z_eaten z_half z_bestMinutes z_bestOats z_isDue z_text z_t z_draft z_s_4 z_kept z_isKept z_times z_w z_at z_pulled z_best z_cartRow z_tryRow z_pairs z_from z_then z_tryAt) H → va_D A (W_X9z cI cZ cII qz qz_text qz_t qz_draft qz_s qz_kept qz_isKept qz_times qz_w qz_at qz_pulled qz_best qz_cartRow qz_tryRow qz_pairs qz_from qz_then qz_tryAt (0 : Int32) z_typed z_next z_token z_place z_value z_figures z_fault z_faultAt z_timeMany z_eaten z_half z_bestMinutes z_bestOats z_isDue z_text z_t z_draft z_s_4 z_kept z_isKept z_times z_w z_at z_pulled z_best z_cartRow z_tryRow z_pairs z_from z_then z_tryAt) → va_S A s.heap H locs → lv_has ls 3 [(0, .ref qz), (1, .int n1), (2, .int y2_4)] → lq2 B4 n9 y2_4 z_s_4 = some (rr, z_thrown', z_s') → W p l e rm_X9_goBack s m args below meth c H locs 0 0 Q (F0 m 31 ls []) := by
        intro n9
        induction n9 with
        | zero => intro y2_4 z_s_4 H locs ls hP hD hS hl hf; cases hf
        | succ n9 ih =>
          intro y2_4 z_s_4 H locs ls hP hD hS hl hf
          obtain ⟨rec4, hrec4, hf⟩ := lq2_s hf
          have hf := hB4 rec4 _ _ hf
          refine lv_iload_n hx hb dX9_goBack_31 rfl (lv_at hl 2 rfl) ?_
          refine lv_bipush (v := (13 : Int32)) hx hb dX9_goBack_32 (by decide) ?_
          refine lv_icmp_ge (tgt := 60) hx hb dX9_goBack_34 (by decide) (fun h9 => ?_) (fun h9 => ?_)
          · have hf := pg_t h9 hf
            exact WK60_3 _ _ _ _ hP hD hS (lv_sub hl [] rfl) hf
          · have hf := pg_f h9 hf
            refine lv_aload_n hx hb dX9_goBack_37 rfl (lv_at hl 0 rfl) ?_
            refine va_get (D := (dC, dI)) (ci := 9) (v := .ref qz_s) (C := RX9) (T := TX9) (N := 32) hx hb hw inlX9 hown hK hP 0 rfl rfl 12 (by decide) (hw _ mw_6_3) (fun _ h9 => h9) rfl dX9_goBack_38 ?_
            refine lv_iload_n hx hb dX9_goBack_41 rfl (lv_at hl 2 rfl) ?_
            refine lv_aload_n hx hb dX9_goBack_42 rfl (lv_at hl 0 rfl) ?_
            refine va_get (D := (dC, dI)) (ci := 9) (v := .ref qz_kept) (C := RX9) (T := TX9) (N := 32) hx hb hw inlX9 hown hK hP 0 rfl rfl 13 (by decide) (hw _ mw_6_4) (fun _ h9 => h9) rfl dX9_goBack_43 ?_
            refine lv_bipush (v := (13 : Int32)) hx hb dX9_goBack_46 (by decide) ?_
            refine lv_iload_n hx hb dX9_goBack_48 rfl (lv_at hl 1 rfl) ?_
            refine lv_imul hx hb dX9_goBack_49 ?_
            refine lv_iload_n hx hb dX9_goBack_50 rfl (lv_at hl 2 rfl) ?_
            refine lv_iadd hx hb dX9_goBack_51 ?_
            obtain ⟨hi5, hf⟩ := pg_chk hf
            refine va_iald hx hb hK hP 5 0 rfl rfl hi5 dX9_goBack_52 ?_
            obtain ⟨hi6, hf⟩ := pg_chk hf
            refine va_iast hx hb hK hP hD hS 4 0 rfl rfl hi6 dX9_goBack_53 (fun H locs hP hD hS => ?_)
            have hP : va_P (dC, dI) vwCl (W_X9z cI cZ cII qz qz_text qz_t qz_draft qz_s qz_kept qz_isKept qz_times qz_w qz_at qz_pulled qz_best qz_cartRow qz_tryRow qz_pairs qz_from qz_then qz_tryAt (0 : Int32) z_typed z_next z_token z_place z_value z_figures z_fault z_faultAt z_timeMany z_eaten z_half z_bestMinutes z_bestOats z_isDue z_text z_t z_draft (upd z_s_4 (y2_4).toNatClampNeg (z_kept ((((13 : Int32) * n1) + y2_4)).toNatClampNeg)) z_kept z_isKept z_times z_w z_at z_pulled z_best z_cartRow z_tryRow z_pairs z_from z_then z_tryAt) H := hP
            have hD : va_D A (W_X9z cI cZ cII qz qz_text qz_t qz_draft qz_s qz_kept qz_isKept qz_times qz_w qz_at qz_pulled qz_best qz_cartRow qz_tryRow qz_pairs qz_from qz_then qz_tryAt (0 : Int32) z_typed z_next z_token z_place z_value z_figures z_fault z_faultAt z_timeMany z_eaten z_half z_bestMinutes z_bestOats z_isDue z_text z_t z_draft (upd z_s_4 (y2_4).toNatClampNeg (z_kept ((((13 : Int32) * n1) + y2_4)).toNatClampNeg)) z_kept z_isKept z_times z_w z_at z_pulled z_best z_cartRow z_tryRow z_pairs z_from z_then z_tryAt) := hD
            refine lv_iinc (v := (y2_4 + (1 : Int32))) (lv' := [(2, .int (y2_4 + (1 : Int32))), (0, .ref qz), (1, .int n1)]) hx hb dX9_goBack_54 hl (k := 2) rfl rfl (by decide) rfl (fun ls hl => ?_)
            refine lv_goto (tgt := 31) hx hb dX9_goBack_57 (by decide) ?_
            exact ih _ _ _ _ _ hP hD hS (lv_sub hl [1, 2, 0] rfl) (hrec4 _ _ hf)
      exact WL4 fu _ _ _ _ _ hP hD hS (lv_sub hl [1, 2, 0] rfl) hf
    · have hf := pg_t h9 hf
      refine lv_ldc (v := (-1000000003 : Int32)) hx hb hown (hw _ mw_27_13) dX9_goBack_26 ?_
      exact RET _ _ _ _ _ _ _ dX9_goBack_28 hP hD hS hf
  · have hf := pg_t h9 hf
    refine lv_ldc (v := (-1000000001 : Int32)) hx hb hown (hw _ mw_25_12) dX9_goBack_14 ?_
    exact RET _ _ _ _ _ _ _ dX9_goBack_16 hP hD hS hf
