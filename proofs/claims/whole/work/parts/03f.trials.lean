def f_X7_take (n1 : Int32) (n2 : Int32) (n3 : Int32) (t_crew : Int32) (t_minutes : Int32) (t_oats : Int32) : Option (Int32 × Int32 × Int32) :=
  some (n1, n2, n3)
abbrev rm_X7_take : Room := { frames := 0, cells := 0, slots := 0, locals := 0 }
theorem dk_X7_take : yX7_take.cls = RX7 ∧ yX7_take.cls ≠ "java/lang/invoke/MethodHandle" ∧ yX7_take.cls ≠ "java/lang/invoke/VarHandle" ∧ (parseMethodDescriptor yX7_take.desc).map (fun d => d.parameters.length) = some 3 := by decide +kernel
set_option maxHeartbeats 4000000 in
set_option maxRecDepth 100000 in
theorem c_X7_take (l : Launch) (dC : Nat → ClassId) (dI : Nat → Nat → Nat) (cI cZ cII : ClassId) (qt qt_rested qc qc_who qc_pull qb qb_pull qb_strength qb_back qb_moods qb_tides qb_carts : Nat) (sz : Nat) (t_crew : Int32) (t_minutes : Int32) (t_oats : Int32) (t_waitHours : Int32) (t_waitMinutes : Int32) (t_rested : Nat → Int32) (c_last : Int32) (c_who : Nat → Int32) (c_pull : Nat → Int32) (b_law : Int32) (b_places : Int32) (b_broad : Int32) (b_horses : Int32) (b_blinds : Int32) (b_besides : Int32) (b_tideCount : Int32) (b_cartCount : Int32) (b_due : Int32) (b_pairs : Int64) (b_pull : Nat → Int32) (b_strength : Nat → Int32) (b_back : Nat → Int32) (b_moods : Nat → Int32) (b_tides : Nat → Int32) (b_carts : Nat → Int32) (n1 : Int32) (n2 : Int32) (n3 : Int32) (t_crew' : Int32) (t_minutes' : Int32) (t_oats' : Int32) (hf : f_X7_take n1 n2 n3 t_crew t_minutes t_oats = some (t_crew', t_minutes', t_oats')) : Met l yX7_take (wM yX7_take cX7_take 4 none) rm_X7_take (PreW (dC, dI) (tyA cI cZ cII) (W_X7t_X2c_X0b cI cZ cII qt qt_rested qc qc_who qc_pull qb qb_pull qb_strength qb_back qb_moods qb_tides qb_carts t_crew t_minutes t_oats t_waitHours t_waitMinutes t_rested c_last c_who c_pull b_law b_places b_broad b_horses b_blinds b_besides b_tideCount b_cartCount b_due b_pairs b_pull b_strength b_back b_moods b_tides b_carts) sz [.ref qt, .int n1, .int n2, .int n3]) (PostV (dC, dI) (tyA cI cZ cII) (W_X7t_X2c_X0b cI cZ cII qt qt_rested qc qc_who qc_pull qb qb_pull qb_strength qb_back qb_moods qb_tides qb_carts t_crew t_minutes t_oats t_waitHours t_waitMinutes t_rested c_last c_who c_pull b_law b_places b_broad b_horses b_blinds b_besides b_tideCount b_cartCount b_due b_pairs b_pull b_strength b_back b_moods b_tides b_carts) (W_X7t_X2c_X0b cI cZ cII qt qt_rested qc qc_who qc_pull qb qb_pull qb_strength qb_back qb_moods qb_tides qb_carts t_crew' t_minutes' t_oats' t_waitHours t_waitMinutes t_rested c_last c_who c_pull b_law b_places b_broad b_horses b_blinds b_besides b_tideCount b_cartCount b_due b_pairs b_pull b_strength b_back b_moods b_tides b_carts) sz) 0 0 (va_A (W_X7t_X2c_X0b cI cZ cII qt qt_rested qc qc_who qc_pull qb qb_pull qb_strength qb_back qb_moods qb_tides qb_carts t_crew t_minutes t_oats t_waitHours t_waitMinutes t_rested c_last c_who c_pull b_law b_places b_broad b_horses b_blinds b_besides b_tideCount b_cartCount b_due b_pairs b_pull b_strength b_back b_moods b_tides b_carts) sz) := by
  refine Met.ofW (cc := cX7_take) (maxL := 4) (ret := none) (by decide) rfl ?_
  intro p e s m args below meth c s₁ B hml hv
  obtain ⟨rfl, hsz, hP, hK, hD0⟩ := hv
  have hx := B.exec
  have hb := B.bytes
  have hr := B.returns
  have hts := atoms_spec (ws := wM yX7_take cX7_take 4 none) B.pre
  have hown : s.vm.findClass RX7 = some m.cls := findClass_of_methodNamed B.named
  have hlocks := B.notSynchronized
  subst hsz
  have hD := hD0.self (sz := s.heap.size)
  obtain ⟨A, hAe⟩ : ∃ A, A = va_A (W_X7t_X2c_X0b cI cZ cII qt qt_rested qc qc_who qc_pull qb qb_pull qb_strength qb_back qb_moods qb_tides qb_carts t_crew t_minutes t_oats t_waitHours t_waitMinutes t_rested c_last c_who c_pull b_law b_places b_broad b_horses b_blinds b_besides b_tideCount b_cartCount b_due b_pairs b_pull b_strength b_back b_moods b_tides b_carts) s.heap.size := ⟨_, rfl⟩
  rw [← hAe] at hD
  have hA : ∀ q : Nat, s.heap.size ≤ q → A q := fun q h => by rw [hAe]; exact Or.inr h
  have hS : va_S A s.heap s.heap [] := va_S.rf
  have hl := lv_entry ([.ref qt, .int n1, .int n2, .int n3]) (n := 4) (Nat.le_of_ble_eq_true rfl)
  rw [lg_entry_eq]
  generalize (lg_sl ([.ref qt, .int n1, .int n2, .int n3]) ++ List.replicate (4 - (lg_sl ([.ref qt, .int n1, .int n2, .int n3])).length) Slot.unset).toArray = ls at hl ⊢
  have hl : lv_has ls 4 [(0, .ref qt), (1, .int n1), (2, .int n2), (3, .int n3)] := hl
  generalize ([.ref qt, .int n1, .int n2, .int n3] : List Value).toArray = args at hts ⊢
  have hw : ∀ w ∈ wsL_law, w.before args s = true := fun w h => hts w (List.mem_cons_of_mem _ h)
  refine pg_start (fun Q hQ => ?_)
  have RET : ∀ (H : Heap) (locs : List Loc) (ls : Array Slot) (pc : Nat) (x0 : Int32) (x1 : Int32) (x2 : Int32) , decode cX7_take pc = .ok (.return_, 1) → va_P (dC, dI) vwCl (W_X7t_X2c_X0b cI cZ cII qt qt_rested qc qc_who qc_pull qb qb_pull qb_strength qb_back qb_moods qb_tides qb_carts x0 x1 x2 t_waitHours t_waitMinutes t_rested c_last c_who c_pull b_law b_places b_broad b_horses b_blinds b_besides b_tideCount b_cartCount b_due b_pairs b_pull b_strength b_back b_moods b_tides b_carts) H → va_D A (W_X7t_X2c_X0b cI cZ cII qt qt_rested qc qc_who qc_pull qb qb_pull qb_strength qb_back qb_moods qb_tides qb_carts x0 x1 x2 t_waitHours t_waitMinutes t_rested c_last c_who c_pull b_law b_places b_broad b_horses b_blinds b_besides b_tideCount b_cartCount b_due b_pairs b_pull b_strength b_back b_moods b_tides b_carts) → va_S A s.heap H locs → (some (x0, x1, x2) : Option (Int32 × Int32 × Int32)) = some (t_crew', t_minutes', t_oats') → W p l e rm_X7_take s m args below meth c H locs 0 0 Q (F0 m pc ls []) := by
    intro H locs ls pc x0 x1 x2 hd hP hD hS he
    subst hAe; subst hQ
    simp only [Option.some.injEq, Prod.mk.injEq] at he
    obtain ⟨rfl, rfl, rfl⟩ := he
    exact pg_vret hx hb hr hlocks hK hP hD hS hd
  unfold f_X7_take at hf
  refine lv_aload_n hx hb dX7_take_0 rfl (lv_at hl 0 rfl) ?_
  refine lv_iload_n hx hb dX7_take_1 rfl (lv_at hl 1 rfl) ?_
  refine va_put (D := (dC, dI)) (ci := 7) (v := .int n1) (ty := .int) (C := RX7) (T := TX7) (N := 8) hx hb hw inlX7 tyX7 tyX7_ok nmX7 hown hK hP hD hS 0 rfl rfl 0 (by decide) (hw _ mw_34_18) (fun _ h9 => h9) rfl (by decide +kernel) rfl rfl (Nat.le_of_ble_eq_true rfl) dX7_take_2 (fun H locs hP hD hS => ?_)
  have hP : va_P (dC, dI) vwCl (W_X7t_X2c_X0b cI cZ cII qt qt_rested qc qc_who qc_pull qb qb_pull qb_strength qb_back qb_moods qb_tides qb_carts n1 t_minutes t_oats t_waitHours t_waitMinutes t_rested c_last c_who c_pull b_law b_places b_broad b_horses b_blinds b_besides b_tideCount b_cartCount b_due b_pairs b_pull b_strength b_back b_moods b_tides b_carts) H := hP
  have hD : va_D A (W_X7t_X2c_X0b cI cZ cII qt qt_rested qc qc_who qc_pull qb qb_pull qb_strength qb_back qb_moods qb_tides qb_carts n1 t_minutes t_oats t_waitHours t_waitMinutes t_rested c_last c_who c_pull b_law b_places b_broad b_horses b_blinds b_besides b_tideCount b_cartCount b_due b_pairs b_pull b_strength b_back b_moods b_tides b_carts) := hD
  refine lv_aload_n hx hb dX7_take_5 rfl (lv_at hl 0 rfl) ?_
  refine lv_iload_n hx hb dX7_take_6 rfl (lv_at hl 2 rfl) ?_
  refine va_put (D := (dC, dI)) (ci := 7) (v := .int n2) (ty := .int) (C := RX7) (T := TX7) (N := 8) hx hb hw inlX7 tyX7 tyX7_ok nmX7 hown hK hP hD hS 0 rfl rfl 1 (by decide) (hw _ mw_34_20) (fun _ h9 => h9) rfl (by decide +kernel) rfl rfl (Nat.le_of_ble_eq_true rfl) dX7_take_7 (fun H locs hP hD hS => ?_)
  have hP : va_P (dC, dI) vwCl (W_X7t_X2c_X0b cI cZ cII qt qt_rested qc qc_who qc_pull qb qb_pull qb_strength qb_back qb_moods qb_tides qb_carts n1 n2 t_oats t_waitHours t_waitMinutes t_rested c_last c_who c_pull b_law b_places b_broad b_horses b_blinds b_besides b_tideCount b_cartCount b_due b_pairs b_pull b_strength b_back b_moods b_tides b_carts) H := hP
  have hD : va_D A (W_X7t_X2c_X0b cI cZ cII qt qt_rested qc qc_who qc_pull qb qb_pull qb_strength qb_back qb_moods qb_tides qb_carts n1 n2 t_oats t_waitHours t_waitMinutes t_rested c_last c_who c_pull b_law b_places b_broad b_horses b_blinds b_besides b_tideCount b_cartCount b_due b_pairs b_pull b_strength b_back b_moods b_tides b_carts) := hD
  refine lv_aload_n hx hb dX7_take_10 rfl (lv_at hl 0 rfl) ?_
  refine lv_iload_n hx hb dX7_take_11 rfl (lv_at hl 3 rfl) ?_
  refine va_put (D := (dC, dI)) (ci := 7) (v := .int n3) (ty := .int) (C := RX7) (T := TX7) (N := 8) hx hb hw inlX7 tyX7 tyX7_ok nmX7 hown hK hP hD hS 0 rfl rfl 2 (by decide) (hw _ mw_34_21) (fun _ h9 => h9) rfl (by decide +kernel) rfl rfl (Nat.le_of_ble_eq_true rfl) dX7_take_12 (fun H locs hP hD hS => ?_)
  have hP : va_P (dC, dI) vwCl (W_X7t_X2c_X0b cI cZ cII qt qt_rested qc qc_who qc_pull qb qb_pull qb_strength qb_back qb_moods qb_tides qb_carts n1 n2 n3 t_waitHours t_waitMinutes t_rested c_last c_who c_pull b_law b_places b_broad b_horses b_blinds b_besides b_tideCount b_cartCount b_due b_pairs b_pull b_strength b_back b_moods b_tides b_carts) H := hP
  have hD : va_D A (W_X7t_X2c_X0b cI cZ cII qt qt_rested qc qc_who qc_pull qb qb_pull qb_strength qb_back qb_moods qb_tides qb_carts n1 n2 n3 t_waitHours t_waitMinutes t_rested c_last c_who c_pull b_law b_places b_broad b_horses b_blinds b_besides b_tideCount b_cartCount b_due b_pairs b_pull b_strength b_back b_moods b_tides b_carts) := hD
  exact RET _ _ _ _ _ _ _ dX7_take_15 hP hD hS hf
def f_X7_findSoonest (n2 : Int32) (n3 : Int32) (t_crew : Int32) (t_minutes : Int32) (t_oats : Int32) (c_last : Int32) (c_who : Nat → Int32) (c_pull : Nat → Int32) (b_law : Int32) (b_broad : Int32) (u : Nat → Int32) : Option (Int32 × Int32 × Int32 × Int32) :=
  jn3 (fun (t_crew_1 : Int32) (t_minutes_1 : Int32) (t_oats_1 : Int32) =>
    if t_crew_1 = (-1 : Int32) then
      some ((0 : Int32), t_crew_1, t_minutes_1, t_oats_1)
    else
      some ((1 : Int32), t_crew_1, t_minutes_1, t_oats_1)
  ) (fun K133_1 =>
  lq4 (fun rec2 (y4_2 : Int32) (t_crew_2 : Int32) (t_minutes_2 : Int32) (t_oats_2 : Int32) =>
    if c_last < y4_2 then
      K133_1 t_crew_2 t_minutes_2 t_oats_2
    else
      jn1 (fun (z0_3 : Int32) =>
        bn1 (f_X2_takes y4_2 n3 c_who) (fun (r_4 : Int32) =>
          jn1 (fun (z0_5 : Int32) =>
            jn3 (fun (t_crew_6 : Int32) (t_minutes_6 : Int32) (t_oats_6 : Int32) =>
              rec2 (y4_2 + (1 : Int32)) t_crew_6 t_minutes_6 t_oats_6
            ) (fun J127_6 =>
            if z0_5 = (-1 : Int32) then
              J127_6 t_crew_2 t_minutes_2 t_oats_2
            else
              bn1 (f_X2_oats y4_2 z0_5 c_who c_pull u) (fun (r_7 : Int32) =>
                jn1 (fun (u_8 : Unit) =>
                  bn3 (f_X7_take y4_2 z0_5 r_7 t_crew_2 t_minutes_2 t_oats_2) (fun (t_crew_9 : Int32) (t_minutes_9 : Int32) (t_oats_9 : Int32) =>
                    J127_6 t_crew_9 t_minutes_9 t_oats_9
                  )
                ) (fun J117_8 =>
                if t_crew_2 = (-1 : Int32) then
                  J117_8 ()
                else
                  if z0_5 < t_minutes_2 then
                    J117_8 ()
                  else
                    if t_oats_2 ≤ r_7 then
                      J127_6 t_crew_2 t_minutes_2 t_oats_2
                    else
                      J117_8 ()
                )
              )
            )
          ) (fun J69_5 =>
          if r_4 = 0 then
            bn1 (f_X2_minutes y4_2 n2 z0_3 c_who c_pull b_law b_broad u) (fun (r_10 : Int32) =>
              J69_5 r_10
            )
          else
            J69_5 (-1 : Int32)
          )
        )
      ) (fun J37_3 =>
      if t_crew_2 = (-1 : Int32) then
        J37_3 (120 : Int32)
      else
        J37_3 t_minutes_2
      )
  ) fu (1 : Int32) (-1 : Int32) t_minutes t_oats
  )
abbrev rm_X7_findSoonest : Room := { frames := 3, cells := 0, slots := 0, locals := 100 }
theorem dk_X7_findSoonest : yX7_findSoonest.cls = RX7 ∧ yX7_findSoonest.cls ≠ "java/lang/invoke/MethodHandle" ∧ yX7_findSoonest.cls ≠ "java/lang/invoke/VarHandle" ∧ (parseMethodDescriptor yX7_findSoonest.desc).map (fun d => d.parameters.length) = some 3 := by decide +kernel
set_option maxHeartbeats 4000000 in
set_option maxRecDepth 100000 in
theorem c_X7_findSoonest (l : Launch) (dC : Nat → ClassId) (dI : Nat → Nat → Nat) (cI cZ cII : ClassId) (qt qt_rested qc qc_who qc_pull qb qb_pull qb_strength qb_back qb_moods qb_tides qb_carts qu : Nat) (sz : Nat) (t_crew : Int32) (t_minutes : Int32) (t_oats : Int32) (t_waitHours : Int32) (t_waitMinutes : Int32) (t_rested : Nat → Int32) (c_last : Int32) (c_who : Nat → Int32) (c_pull : Nat → Int32) (b_law : Int32) (b_places : Int32) (b_broad : Int32) (b_horses : Int32) (b_blinds : Int32) (b_besides : Int32) (b_tideCount : Int32) (b_cartCount : Int32) (b_due : Int32) (b_pairs : Int64) (b_pull : Nat → Int32) (b_strength : Nat → Int32) (b_back : Nat → Int32) (b_moods : Nat → Int32) (b_tides : Nat → Int32) (b_carts : Nat → Int32) (u : Nat → Int32) (n2 : Int32) (n3 : Int32) (rr : Int32) (t_crew' : Int32) (t_minutes' : Int32) (t_oats' : Int32) (hf : f_X7_findSoonest n2 n3 t_crew t_minutes t_oats c_last c_who c_pull b_law b_broad u = some (rr, t_crew', t_minutes', t_oats')) : Met l yX7_findSoonest (wM yX7_findSoonest cX7_findSoonest 8 (some .boolean)) rm_X7_findSoonest (PreW (dC, dI) (tyA cI cZ cII) (W_X7t_X2c_X0b_au6 cI cZ cII qt qt_rested qc qc_who qc_pull qb qb_pull qb_strength qb_back qb_moods qb_tides qb_carts qu t_crew t_minutes t_oats t_waitHours t_waitMinutes t_rested c_last c_who c_pull b_law b_places b_broad b_horses b_blinds b_besides b_tideCount b_cartCount b_due b_pairs b_pull b_strength b_back b_moods b_tides b_carts u) sz [.ref qt, .ref qu, .int n2, .int n3]) (PostI (dC, dI) (tyA cI cZ cII) rr (W_X7t_X2c_X0b_au6 cI cZ cII qt qt_rested qc qc_who qc_pull qb qb_pull qb_strength qb_back qb_moods qb_tides qb_carts qu t_crew t_minutes t_oats t_waitHours t_waitMinutes t_rested c_last c_who c_pull b_law b_places b_broad b_horses b_blinds b_besides b_tideCount b_cartCount b_due b_pairs b_pull b_strength b_back b_moods b_tides b_carts u) (W_X7t_X2c_X0b_au6 cI cZ cII qt qt_rested qc qc_who qc_pull qb qb_pull qb_strength qb_back qb_moods qb_tides qb_carts qu t_crew' t_minutes' t_oats' t_waitHours t_waitMinutes t_rested c_last c_who c_pull b_law b_places b_broad b_horses b_blinds b_besides b_tideCount b_cartCount b_due b_pairs b_pull b_strength b_back b_moods b_tides b_carts u) sz) 0 0 (va_A (W_X7t_X2c_X0b_au6 cI cZ cII qt qt_rested qc qc_who qc_pull qb qb_pull qb_strength qb_back qb_moods qb_tides qb_carts qu t_crew t_minutes t_oats t_waitHours t_waitMinutes t_rested c_last c_who c_pull b_law b_places b_broad b_horses b_blinds b_besides b_tideCount b_cartCount b_due b_pairs b_pull b_strength b_back b_moods b_tides b_carts u) sz) := by
  refine Met.ofW (cc := cX7_findSoonest) (maxL := 8) (ret := (some .boolean)) (by decide) rfl ?_
  intro p e s m args below meth c s₁ B hml hv
  obtain ⟨rfl, hsz, hP, hK, hD0⟩ := hv
  have hx := B.exec
  have hb := B.bytes
  have hr := B.returns
  have hts := atoms_spec (ws := wM yX7_findSoonest cX7_findSoonest 8 (some .boolean)) B.pre
  have hown : s.vm.findClass RX7 = some m.cls := findClass_of_methodNamed B.named
  have hlocks := B.notSynchronized
  subst hsz
  have hD := hD0.self (sz := s.heap.size)
  obtain ⟨A, hAe⟩ : ∃ A, A = va_A (W_X7t_X2c_X0b_au6 cI cZ cII qt qt_rested qc qc_who qc_pull qb qb_pull qb_strength qb_back qb_moods qb_tides qb_carts qu t_crew t_minutes t_oats t_waitHours t_waitMinutes t_rested c_last c_who c_pull b_law b_places b_broad b_horses b_blinds b_besides b_tideCount b_cartCount b_due b_pairs b_pull b_strength b_back b_moods b_tides b_carts u) s.heap.size := ⟨_, rfl⟩
  rw [← hAe] at hD
  have hA : ∀ q : Nat, s.heap.size ≤ q → A q := fun q h => by rw [hAe]; exact Or.inr h
  have hS : va_S A s.heap s.heap [] := va_S.rf
  have hl := lv_entry ([.ref qt, .ref qu, .int n2, .int n3]) (n := 8) (Nat.le_of_ble_eq_true rfl)
  rw [lg_entry_eq]
  generalize (lg_sl ([.ref qt, .ref qu, .int n2, .int n3]) ++ List.replicate (8 - (lg_sl ([.ref qt, .ref qu, .int n2, .int n3])).length) Slot.unset).toArray = ls at hl ⊢
  have hl : lv_has ls 8 [(0, .ref qt), (1, .ref qu), (2, .int n2), (3, .int n3)] := hl
  generalize ([.ref qt, .ref qu, .int n2, .int n3] : List Value).toArray = args at hts ⊢
  have hw : ∀ w ∈ wsL_law, w.before args s = true := fun w h => hts w (List.mem_cons_of_mem _ h)
  refine pg_start (fun Q hQ => ?_)
  have RET : ∀ (H : Heap) (locs : List Loc) (ls : Array Slot) (pc : Nat) (v : Int32) (x0 : Int32) (x1 : Int32) (x2 : Int32) , decode cX7_findSoonest pc = .ok (.ireturn, 1) → (v = 0 ∨ v = 1) → va_P (dC, dI) vwCl (W_X7t_X2c_X0b_au6 cI cZ cII qt qt_rested qc qc_who qc_pull qb qb_pull qb_strength qb_back qb_moods qb_tides qb_carts qu x0 x1 x2 t_waitHours t_waitMinutes t_rested c_last c_who c_pull b_law b_places b_broad b_horses b_blinds b_besides b_tideCount b_cartCount b_due b_pairs b_pull b_strength b_back b_moods b_tides b_carts u) H → va_D A (W_X7t_X2c_X0b_au6 cI cZ cII qt qt_rested qc qc_who qc_pull qb qb_pull qb_strength qb_back qb_moods qb_tides qb_carts qu x0 x1 x2 t_waitHours t_waitMinutes t_rested c_last c_who c_pull b_law b_places b_broad b_horses b_blinds b_besides b_tideCount b_cartCount b_due b_pairs b_pull b_strength b_back b_moods b_tides b_carts u) → va_S A s.heap H locs → (some (v, x0, x1, x2) : Option (Int32 × Int32 × Int32 × Int32)) = some (rr, t_crew', t_minutes', t_oats') → W p l e rm_X7_findSoonest s m args below meth c H locs 0 0 Q (F0 m pc ls [.int v]) := by
    intro H locs ls pc v x0 x1 x2 hd hz hP hD hS he
    subst hAe; subst hQ
    simp only [Option.some.injEq, Prod.mk.injEq] at he
    obtain ⟨rfl, rfl, rfl, rfl⟩ := he
    exact pg_zret hx hb hr hlocks hz hK hP hD hS hd
  unfold f_X7_findSoonest at hf
  refine lv_aload_n hx hb dX7_findSoonest_0 rfl (lv_at hl 0 rfl) ?_
  refine lv_iconst (v := (-1 : Int32)) hx hb dX7_findSoonest_1 (by decide) ?_
  refine va_put (D := (dC, dI)) (ci := 7) (v := .int (-1 : Int32)) (ty := .int) (C := RX7) (T := TX7) (N := 8) hx hb hw inlX7 tyX7 tyX7_ok nmX7 hown hK hP hD hS 0 rfl rfl 0 (by decide) (hw _ mw_34_18) (fun _ h9 => h9) rfl (by decide +kernel) rfl rfl (Nat.le_of_ble_eq_true rfl) dX7_findSoonest_2 (fun H locs hP hD hS => ?_)
  have hP : va_P (dC, dI) vwCl (W_X7t_X2c_X0b_au6 cI cZ cII qt qt_rested qc qc_who qc_pull qb qb_pull qb_strength qb_back qb_moods qb_tides qb_carts qu (-1 : Int32) t_minutes t_oats t_waitHours t_waitMinutes t_rested c_last c_who c_pull b_law b_places b_broad b_horses b_blinds b_besides b_tideCount b_cartCount b_due b_pairs b_pull b_strength b_back b_moods b_tides b_carts u) H := hP
  have hD : va_D A (W_X7t_X2c_X0b_au6 cI cZ cII qt qt_rested qc qc_who qc_pull qb qb_pull qb_strength qb_back qb_moods qb_tides qb_carts qu (-1 : Int32) t_minutes t_oats t_waitHours t_waitMinutes t_rested c_last c_who c_pull b_law b_places b_broad b_horses b_blinds b_besides b_tideCount b_cartCount b_due b_pairs b_pull b_strength b_back b_moods b_tides b_carts u) := hD
  refine lv_iconst (v := (1 : Int32)) hx hb dX7_findSoonest_5 (by decide) ?_
  refine lv_istore (lv' := [(4, .int (1 : Int32)), (0, .ref qt), (1, .ref qu), (2, .int n2), (3, .int n3)]) hx hb dX7_findSoonest_6 hl (by decide) rfl (fun ls hl => ?_)
  obtain ⟨K133_1, hK133_1, hf⟩ := jn3_s hf
  have WK133_1 : ∀ (t_crew_1 : Int32) (t_minutes_1 : Int32) (t_oats_1 : Int32) (H : Heap) (locs : List Loc) (ls : Array Slot), va_P (dC, dI) vwCl (W_X7t_X2c_X0b_au6 cI cZ cII qt qt_rested qc qc_who qc_pull qb qb_pull qb_strength qb_back qb_moods qb_tides qb_carts qu t_crew_1 t_minutes_1 t_oats_1 t_waitHours t_waitMinutes t_rested c_last c_who c_pull b_law b_places b_broad b_horses b_blinds b_besides b_tideCount b_cartCount b_due b_pairs b_pull b_strength b_back b_moods b_tides b_carts u) H → va_D A (W_X7t_X2c_X0b_au6 cI cZ cII qt qt_rested qc qc_who qc_pull qb qb_pull qb_strength qb_back qb_moods qb_tides qb_carts qu t_crew_1 t_minutes_1 t_oats_1 t_waitHours t_waitMinutes t_rested c_last c_who c_pull b_law b_places b_broad b_horses b_blinds b_besides b_tideCount b_cartCount b_due b_pairs b_pull b_strength b_back b_moods b_tides b_carts u) → va_S A s.heap H locs → lv_has ls 8 [(0, .ref qt)] → K133_1 t_crew_1 t_minutes_1 t_oats_1 = some (rr, t_crew', t_minutes', t_oats') → W p l e rm_X7_findSoonest s m args below meth c H locs 0 0 Q (F0 m 133 ls []) := by
    intro t_crew_1 t_minutes_1 t_oats_1 H locs ls hP hD hS hl hf
    have hf := hK133_1 _ _ _ hf
    refine lv_aload_n hx hb dX7_findSoonest_133 rfl (lv_at hl 0 rfl) ?_
    refine va_get (D := (dC, dI)) (ci := 7) (v := .int t_crew_1) (C := RX7) (T := TX7) (N := 8) hx hb hw inlX7 hown hK hP 0 rfl rfl 0 (by decide) (hw _ mw_34_18) (fun _ h9 => h9) rfl dX7_findSoonest_134 ?_
    refine lv_iconst (v := (-1 : Int32)) hx hb dX7_findSoonest_137 (by decide) ?_
    refine lv_icmp_eq (tgt := 145) hx hb dX7_findSoonest_138 (by decide) (fun h9 => ?_) (fun h9 => ?_)
    · have hf := pg_t h9 hf
      refine lv_iconst (v := (0 : Int32)) hx hb dX7_findSoonest_145 (by decide) ?_
      exact RET _ _ _ _ _ _ _ _ dX7_findSoonest_146 (by decide) hP hD hS hf
    · have hf := pg_f h9 hf
      refine lv_iconst (v := (1 : Int32)) hx hb dX7_findSoonest_141 (by decide) ?_
      refine lv_goto (tgt := 146) hx hb dX7_findSoonest_142 (by decide) ?_
      exact RET _ _ _ _ _ _ _ _ dX7_findSoonest_146 (by decide) hP hD hS hf
  obtain ⟨B2, hB2, hf⟩ := lq4_n hf
  have WL2 : ∀ (n9 : Nat) (y4_2 : Int32) (t_crew_2 : Int32) (t_minutes_2 : Int32) (t_oats_2 : Int32) (H : Heap) (locs : List Loc) (ls : Array Slot), va_P (dC, dI) vwCl (W_X7t_X2c_X0b_au6 cI cZ cII qt qt_rested qc qc_who qc_pull qb qb_pull qb_strength qb_back qb_moods qb_tides qb_carts qu t_crew_2 t_minutes_2 t_oats_2 t_waitHours t_waitMinutes t_rested c_last c_who c_pull b_law b_places b_broad b_horses b_blinds b_besides b_tideCount b_cartCount b_due b_pairs b_pull b_strength b_back b_moods b_tides b_carts u) H → va_D A (W_X7t_X2c_X0b_au6 cI cZ cII qt qt_rested qc qc_who qc_pull qb qb_pull qb_strength qb_back qb_moods qb_tides qb_carts qu t_crew_2 t_minutes_2 t_oats_2 t_waitHours t_waitMinutes t_rested c_last c_who c_pull b_law b_places b_broad b_horses b_blinds b_besides b_tideCount b_cartCount b_due b_pairs b_pull b_strength b_back b_moods b_tides b_carts u) → va_S A s.heap H locs → lv_has ls 8 [(0, .ref qt), (1, .ref qu), (2, .int n2), (3, .int n3), (4, .int y4_2)] → lq4 B2 n9 y4_2 t_crew_2 t_minutes_2 t_oats_2 = some (rr, t_crew', t_minutes', t_oats') → W p l e rm_X7_findSoonest s m args below meth c H locs 0 0 Q (F0 m 8 ls []) := by
    intro n9
    induction n9 with
    | zero => intro y4_2 t_crew_2 t_minutes_2 t_oats_2 H locs ls hP hD hS hl hf; cases hf
    | succ n9 ih =>
      intro y4_2 t_crew_2 t_minutes_2 t_oats_2 H locs ls hP hD hS hl hf
      obtain ⟨rec2, hrec2, hf⟩ := lq4_s hf
      have hf := hB2 rec2 _ _ _ _ hf
      refine lv_iload hx hb dX7_findSoonest_8 (lv_at hl 4 rfl) ?_
      refine lv_aload_n hx hb dX7_findSoonest_10 rfl (lv_at hl 0 rfl) ?_
      refine va_get (D := (dC, dI)) (ci := 7) (v := .ref qc) (C := RX7) (T := TX7) (N := 8) hx hb hw inlX7 hown hK hP 0 rfl rfl 6 (by decide) (hw _ mw_4_15) (fun _ h9 => h9) rfl dX7_findSoonest_11 ?_
      refine va_get (D := (dC, dI)) (ci := 2) (v := .int c_last) (C := RX2) (T := TX2) (N := 4) hx hb hw inlX2 hown hK hP 2 rfl rfl 0 (by decide) (hw _ mw_34_19) (fun _ h9 => h9) rfl dX7_findSoonest_14 ?_
      refine lv_icmp_gt (tgt := 133) hx hb dX7_findSoonest_17 (by decide) (fun h9 => ?_) (fun h9 => ?_)
      · have hf := pg_t h9 hf
        exact WK133_1 _ _ _ _ _ _ hP hD hS (lv_sub hl [0] rfl) hf
      · have hf := pg_f h9 hf
        refine lv_aload_n hx hb dX7_findSoonest_20 rfl (lv_at hl 0 rfl) ?_
        refine va_get (D := (dC, dI)) (ci := 7) (v := .int t_crew_2) (C := RX7) (T := TX7) (N := 8) hx hb hw inlX7 hown hK hP 0 rfl rfl 0 (by decide) (hw _ mw_34_18) (fun _ h9 => h9) rfl dX7_findSoonest_21 ?_
        refine lv_iconst (v := (-1 : Int32)) hx hb dX7_findSoonest_24 (by decide) ?_
        obtain ⟨J37_3, hJ37_3, hf⟩ := jn1_s hf
        have WJ37_3 : ∀ (z0_3 : Int32) (H : Heap) (locs : List Loc) (ls : Array Slot), va_P (dC, dI) vwCl (W_X7t_X2c_X0b_au6 cI cZ cII qt qt_rested qc qc_who qc_pull qb qb_pull qb_strength qb_back qb_moods qb_tides qb_carts qu t_crew_2 t_minutes_2 t_oats_2 t_waitHours t_waitMinutes t_rested c_last c_who c_pull b_law b_places b_broad b_horses b_blinds b_besides b_tideCount b_cartCount b_due b_pairs b_pull b_strength b_back b_moods b_tides b_carts u) H → va_D A (W_X7t_X2c_X0b_au6 cI cZ cII qt qt_rested qc qc_who qc_pull qb qb_pull qb_strength qb_back qb_moods qb_tides qb_carts qu t_crew_2 t_minutes_2 t_oats_2 t_waitHours t_waitMinutes t_rested c_last c_who c_pull b_law b_places b_broad b_horses b_blinds b_besides b_tideCount b_cartCount b_due b_pairs b_pull b_strength b_back b_moods b_tides b_carts u) → va_S A s.heap H locs → lv_has ls 8 [(0, .ref qt), (1, .ref qu), (2, .int n2), (3, .int n3), (4, .int y4_2)] → J37_3 z0_3 = some (rr, t_crew', t_minutes', t_oats') → W p l e rm_X7_findSoonest s m args below meth c H locs 0 0 Q (F0 m 37 ls [.int z0_3]) := by
          intro z0_3 H locs ls hP hD hS hl hf
          have hf := hJ37_3 _ hf
          refine lv_istore (lv' := [(5, .int z0_3), (0, .ref qt), (1, .ref qu), (2, .int n2), (3, .int n3), (4, .int y4_2)]) hx hb dX7_findSoonest_37 hl (by decide) rfl (fun ls hl => ?_)
          refine lv_aload_n hx hb dX7_findSoonest_39 rfl (lv_at hl 1 rfl) ?_
          refine va_get (D := (dC, dI)) (ci := 7) (v := .ref qc) (C := RX7) (T := TX7) (N := 8) hx hb hw inlX7 hown hK hP 0 rfl rfl 6 (by decide) (hw _ mw_4_15) (fun _ h9 => h9) rfl dX7_findSoonest_40 ?_
          refine lv_iload hx hb dX7_findSoonest_43 (lv_at hl 5 rfl) ?_
          refine lv_iload_n hx hb dX7_findSoonest_45 rfl (lv_at hl 4 rfl) ?_
          obtain ⟨r_4, hc, hf⟩ := bn1_s hf
          refine pg_cVi (As := [.int y4_2, .int n3]) (rest := []) (wf := (W_X7t_X2c_X0b_au6 cI cZ cII qt qt_rested qc qc_who qc_pull qb qb_pull qb_strength qb_back qb_moods qb_tides qb_carts qu t_crew_2 t_minutes_2 t_oats_2 t_waitHours t_waitMinutes t_rested c_last c_who c_pull b_law b_places b_broad b_horses b_blinds b_besides b_tideCount b_cartCount b_due b_pairs b_pull b_strength b_back b_moods b_tides b_carts u)) ⟨hx, hb, hml, hown, hw⟩ (c_X2_takes l dC dI cI cZ cII qc qc_who qc_pull qb qb_pull qb_strength qb_back qb_moods qb_tides qb_carts H.size c_last c_who c_pull b_law b_places b_broad b_horses b_blinds b_besides b_tideCount b_cartCount b_due b_pairs b_pull b_strength b_back b_moods b_tides b_carts y4_2 n3 r_4 hc) (cwV 2 hts (wM_V mw_34_22 mw_30_4 mw_30_5 mw_2_0 mw_30_6) rfl rfl rfl dk_X2_takes ⟨Nat.le_of_ble_eq_true rfl, Nat.le_of_ble_eq_true rfl⟩) hK hP hD hS hA 2 0 rfl rfl rfl [2, 3, 4, 5, 6, 7, 8, 9, 10, 11] [0, 1, 12] [0, 1, 3, 4, 5, 6, 7, 8, 9, 10, 11, 12, 2] rfl rfl rfl (by decide) rfl hl.1 rfl (Nat.le_of_ble_eq_true rfl) dX7_findSoonest_46 ⟨Nat.zero_le _, Nat.zero_le _⟩ (fun H locs hP hD hS => ?_)
          obtain ⟨J69_5, hJ69_5, hf⟩ := jn1_s hf
          have WJ69_5 : ∀ (z0_5 : Int32) (H : Heap) (locs : List Loc) (ls : Array Slot), va_P (dC, dI) vwCl (W_X7t_X2c_X0b_au6 cI cZ cII qt qt_rested qc qc_who qc_pull qb qb_pull qb_strength qb_back qb_moods qb_tides qb_carts qu t_crew_2 t_minutes_2 t_oats_2 t_waitHours t_waitMinutes t_rested c_last c_who c_pull b_law b_places b_broad b_horses b_blinds b_besides b_tideCount b_cartCount b_due b_pairs b_pull b_strength b_back b_moods b_tides b_carts u) H → va_D A (W_X7t_X2c_X0b_au6 cI cZ cII qt qt_rested qc qc_who qc_pull qb qb_pull qb_strength qb_back qb_moods qb_tides qb_carts qu t_crew_2 t_minutes_2 t_oats_2 t_waitHours t_waitMinutes t_rested c_last c_who c_pull b_law b_places b_broad b_horses b_blinds b_besides b_tideCount b_cartCount b_due b_pairs b_pull b_strength b_back b_moods b_tides b_carts u) → va_S A s.heap H locs → lv_has ls 8 [(0, .ref qt), (1, .ref qu), (2, .int n2), (3, .int n3), (4, .int y4_2)] → J69_5 z0_5 = some (rr, t_crew', t_minutes', t_oats') → W p l e rm_X7_findSoonest s m args below meth c H locs 0 0 Q (F0 m 69 ls [.int z0_5]) := by
            intro z0_5 H locs ls hP hD hS hl hf
            have hf := hJ69_5 _ hf
            refine lv_istore (lv' := [(6, .int z0_5), (0, .ref qt), (1, .ref qu), (2, .int n2), (3, .int n3), (4, .int y4_2)]) hx hb dX7_findSoonest_69 hl (by decide) rfl (fun ls hl => ?_)
            refine lv_iload hx hb dX7_findSoonest_71 (lv_at hl 0 rfl) ?_
            refine lv_iconst (v := (-1 : Int32)) hx hb dX7_findSoonest_73 (by decide) ?_
            obtain ⟨J127_6, hJ127_6, hf⟩ := jn3_s hf
            have WJ127_6 : ∀ (t_crew_6 : Int32) (t_minutes_6 : Int32) (t_oats_6 : Int32) (H : Heap) (locs : List Loc) (ls : Array Slot), va_P (dC, dI) vwCl (W_X7t_X2c_X0b_au6 cI cZ cII qt qt_rested qc qc_who qc_pull qb qb_pull qb_strength qb_back qb_moods qb_tides qb_carts qu t_crew_6 t_minutes_6 t_oats_6 t_waitHours t_waitMinutes t_rested c_last c_who c_pull b_law b_places b_broad b_horses b_blinds b_besides b_tideCount b_cartCount b_due b_pairs b_pull b_strength b_back b_moods b_tides b_carts u) H → va_D A (W_X7t_X2c_X0b_au6 cI cZ cII qt qt_rested qc qc_who qc_pull qb qb_pull qb_strength qb_back qb_moods qb_tides qb_carts qu t_crew_6 t_minutes_6 t_oats_6 t_waitHours t_waitMinutes t_rested c_last c_who c_pull b_law b_places b_broad b_horses b_blinds b_besides b_tideCount b_cartCount b_due b_pairs b_pull b_strength b_back b_moods b_tides b_carts u) → va_S A s.heap H locs → lv_has ls 8 [(0, .ref qt), (1, .ref qu), (2, .int n2), (3, .int n3), (4, .int y4_2)] → J127_6 t_crew_6 t_minutes_6 t_oats_6 = some (rr, t_crew', t_minutes', t_oats') → W p l e rm_X7_findSoonest s m args below meth c H locs 0 0 Q (F0 m 127 ls []) := by
              intro t_crew_6 t_minutes_6 t_oats_6 H locs ls hP hD hS hl hf
              have hf := hJ127_6 _ _ _ hf
              refine lv_iinc (v := (y4_2 + (1 : Int32))) (lv' := [(4, .int (y4_2 + (1 : Int32))), (0, .ref qt), (1, .ref qu), (2, .int n2), (3, .int n3)]) hx hb dX7_findSoonest_127 hl (k := 4) rfl rfl (by decide) rfl (fun ls hl => ?_)
              refine lv_goto (tgt := 8) hx hb dX7_findSoonest_130 (by decide) ?_
              exact ih _ _ _ _ _ _ _ hP hD hS (lv_sub hl [1, 2, 3, 4, 0] rfl) (hrec2 _ _ _ _ hf)
            refine lv_icmp_eq (tgt := 127) hx hb dX7_findSoonest_74 (by decide) (fun h9 => ?_) (fun h9 => ?_)
            · have hf := pg_t h9 hf
              exact WJ127_6 _ _ _ _ _ _ hP hD hS (lv_sub hl [1, 2, 3, 4, 5] rfl) hf
            · have hf := pg_f h9 hf
              refine lv_aload_n hx hb dX7_findSoonest_77 rfl (lv_at hl 1 rfl) ?_
              refine va_get (D := (dC, dI)) (ci := 7) (v := .ref qc) (C := RX7) (T := TX7) (N := 8) hx hb hw inlX7 hown hK hP 0 rfl rfl 6 (by decide) (hw _ mw_4_15) (fun _ h9 => h9) rfl dX7_findSoonest_78 ?_
              refine lv_iload hx hb dX7_findSoonest_81 (lv_at hl 5 rfl) ?_
              refine lv_aload_n hx hb dX7_findSoonest_83 rfl (lv_at hl 2 rfl) ?_
              refine lv_iload hx hb dX7_findSoonest_84 (lv_at hl 0 rfl) ?_
              obtain ⟨r_7, hc, hf⟩ := bn1_s hf
              refine pg_cVi (As := [.int y4_2, .ref qu, .int z0_5]) (rest := []) (wf := (W_X7t_X2c_X0b_au6 cI cZ cII qt qt_rested qc qc_who qc_pull qb qb_pull qb_strength qb_back qb_moods qb_tides qb_carts qu t_crew_2 t_minutes_2 t_oats_2 t_waitHours t_waitMinutes t_rested c_last c_who c_pull b_law b_places b_broad b_horses b_blinds b_besides b_tideCount b_cartCount b_due b_pairs b_pull b_strength b_back b_moods b_tides b_carts u)) ⟨hx, hb, hml, hown, hw⟩ (c_X2_oats l dC dI cI cZ cII qc qc_who qc_pull qb qb_pull qb_strength qb_back qb_moods qb_tides qb_carts qu H.size c_last c_who c_pull b_law b_places b_broad b_horses b_blinds b_besides b_tideCount b_cartCount b_due b_pairs b_pull b_strength b_back b_moods b_tides b_carts u y4_2 z0_5 r_7 hc) (cwV 3 hts (wM_V mw_35_0 mw_29_17 mw_29_18 mw_2_0 mw_29_19) rfl rfl rfl dk_X2_oats ⟨Nat.le_of_ble_eq_true rfl, Nat.le_of_ble_eq_true rfl⟩) hK hP hD hS hA 2 0 rfl rfl rfl [2, 3, 4, 5, 6, 7, 8, 9, 10, 11, 12] [0, 1] [0, 1, 2, 3, 4, 5, 6, 7, 8, 9, 10, 11, 12] rfl rfl rfl (by decide) rfl hl.1 rfl (Nat.le_of_ble_eq_true rfl) dX7_findSoonest_86 ⟨Nat.zero_le _, Nat.zero_le _⟩ (fun H locs hP hD hS => ?_)
              refine lv_istore (lv' := [(7, .int r_7), (6, .int z0_5), (0, .ref qt), (1, .ref qu), (2, .int n2), (3, .int n3), (4, .int y4_2)]) hx hb dX7_findSoonest_89 hl (by decide) rfl (fun ls hl => ?_)
              refine lv_aload_n hx hb dX7_findSoonest_91 rfl (lv_at hl 2 rfl) ?_
              refine va_get (D := (dC, dI)) (ci := 7) (v := .int t_crew_2) (C := RX7) (T := TX7) (N := 8) hx hb hw inlX7 hown hK hP 0 rfl rfl 0 (by decide) (hw _ mw_34_18) (fun _ h9 => h9) rfl dX7_findSoonest_92 ?_
              refine lv_iconst (v := (-1 : Int32)) hx hb dX7_findSoonest_95 (by decide) ?_
              obtain ⟨J117_8, hJ117_8, hf⟩ := jn1_s hf
              have WJ117_8 : ∀ (u_8 : Unit) (H : Heap) (locs : List Loc) (ls : Array Slot), va_P (dC, dI) vwCl (W_X7t_X2c_X0b_au6 cI cZ cII qt qt_rested qc qc_who qc_pull qb qb_pull qb_strength qb_back qb_moods qb_tides qb_carts qu t_crew_2 t_minutes_2 t_oats_2 t_waitHours t_waitMinutes t_rested c_last c_who c_pull b_law b_places b_broad b_horses b_blinds b_besides b_tideCount b_cartCount b_due b_pairs b_pull b_strength b_back b_moods b_tides b_carts u) H → va_D A (W_X7t_X2c_X0b_au6 cI cZ cII qt qt_rested qc qc_who qc_pull qb qb_pull qb_strength qb_back qb_moods qb_tides qb_carts qu t_crew_2 t_minutes_2 t_oats_2 t_waitHours t_waitMinutes t_rested c_last c_who c_pull b_law b_places b_broad b_horses b_blinds b_besides b_tideCount b_cartCount b_due b_pairs b_pull b_strength b_back b_moods b_tides b_carts u) → va_S A s.heap H locs → lv_has ls 8 [(0, .ref qt), (1, .ref qu), (2, .int n2), (3, .int n3), (4, .int y4_2), (6, .int z0_5), (7, .int r_7)] → J117_8 u_8 = some (rr, t_crew', t_minutes', t_oats') → W p l e rm_X7_findSoonest s m args below meth c H locs 0 0 Q (F0 m 117 ls []) := by
                intro u_8 H locs ls hP hD hS hl hf
                have hf := hJ117_8 _ hf
                refine lv_aload_n hx hb dX7_findSoonest_117 rfl (lv_at hl 0 rfl) ?_
                refine lv_iload hx hb dX7_findSoonest_118 (lv_at hl 4 rfl) ?_
                refine lv_iload hx hb dX7_findSoonest_120 (lv_at hl 5 rfl) ?_
                refine lv_iload hx hb dX7_findSoonest_122 (lv_at hl 6 rfl) ?_
                obtain ⟨t_crew_9, t_minutes_9, t_oats_9, hc, hf⟩ := bn3_s hf
                refine pg_cVv (As := [.int y4_2, .int z0_5, .int r_7]) (rest := []) (wf := (W_X7t_X2c_X0b_au6 cI cZ cII qt qt_rested qc qc_who qc_pull qb qb_pull qb_strength qb_back qb_moods qb_tides qb_carts qu t_crew_9 t_minutes_9 t_oats_9 t_waitHours t_waitMinutes t_rested c_last c_who c_pull b_law b_places b_broad b_horses b_blinds b_besides b_tideCount b_cartCount b_due b_pairs b_pull b_strength b_back b_moods b_tides b_carts u)) ⟨hx, hb, hml, hown, hw⟩ (c_X7_take l dC dI cI cZ cII qt qt_rested qc qc_who qc_pull qb qb_pull qb_strength qb_back qb_moods qb_tides qb_carts H.size t_crew_2 t_minutes_2 t_oats_2 t_waitHours t_waitMinutes t_rested c_last c_who c_pull b_law b_places b_broad b_horses b_blinds b_besides b_tideCount b_cartCount b_due b_pairs b_pull b_strength b_back b_moods b_tides b_carts y4_2 z0_5 r_7 t_crew_9 t_minutes_9 t_oats_9 hc) (cwV 3 hts (wM_V mw_35_1 mw_35_2 mw_35_3 mw_2_10 mw_35_4) rfl rfl rfl dk_X7_take ⟨Nat.le_of_ble_eq_true rfl, Nat.le_of_ble_eq_true rfl⟩) hK hP hD hS hA 7 0 rfl rfl rfl [0, 1, 2, 3, 4, 5, 6, 7, 8, 9, 10, 11] [12] [1, 2, 3, 4, 5, 6, 7, 8, 9, 10, 11, 12, 0] rfl rfl rfl (by decide) rfl hl.1 rfl (Nat.le_of_ble_eq_true rfl) dX7_findSoonest_124 ⟨Nat.zero_le _, Nat.zero_le _⟩ (fun H locs hP hD hS => ?_)
                exact WJ127_6 _ _ _ _ _ _ hP hD hS (lv_sub hl [0, 1, 2, 3, 4] rfl) hf
              refine lv_icmp_eq (tgt := 117) hx hb dX7_findSoonest_96 (by decide) (fun h9 => ?_) (fun h9 => ?_)
              · have hf := pg_t h9 hf
                exact WJ117_8 _ _ _ _ hP hD hS (lv_sub hl [2, 3, 4, 5, 6, 1, 0] rfl) hf
              · have hf := pg_f h9 hf
                refine lv_iload hx hb dX7_findSoonest_99 (lv_at hl 1 rfl) ?_
                refine lv_aload_n hx hb dX7_findSoonest_101 rfl (lv_at hl 2 rfl) ?_
                refine va_get (D := (dC, dI)) (ci := 7) (v := .int t_minutes_2) (C := RX7) (T := TX7) (N := 8) hx hb hw inlX7 hown hK hP 0 rfl rfl 1 (by decide) (hw _ mw_34_20) (fun _ h9 => h9) rfl dX7_findSoonest_102 ?_
                refine lv_icmp_lt (tgt := 117) hx hb dX7_findSoonest_105 (by decide) (fun h9 => ?_) (fun h9 => ?_)
                · have hf := pg_t h9 hf
                  exact WJ117_8 _ _ _ _ hP hD hS (lv_sub hl [2, 3, 4, 5, 6, 1, 0] rfl) hf
                · have hf := pg_f h9 hf
                  refine lv_iload hx hb dX7_findSoonest_108 (lv_at hl 0 rfl) ?_
                  refine lv_aload_n hx hb dX7_findSoonest_110 rfl (lv_at hl 2 rfl) ?_
                  refine va_get (D := (dC, dI)) (ci := 7) (v := .int t_oats_2) (C := RX7) (T := TX7) (N := 8) hx hb hw inlX7 hown hK hP 0 rfl rfl 2 (by decide) (hw _ mw_34_21) (fun _ h9 => h9) rfl dX7_findSoonest_111 ?_
                  refine lv_icmp_ge (tgt := 127) hx hb dX7_findSoonest_114 (by decide) (fun h9 => ?_) (fun h9 => ?_)
                  · have hf := pg_t h9 hf
                    exact WJ127_6 _ _ _ _ _ _ hP hD hS (lv_sub hl [2, 3, 4, 5, 6] rfl) hf
                  · have hf := pg_f h9 hf
                    exact WJ117_8 _ _ _ _ hP hD hS (lv_sub hl [2, 3, 4, 5, 6, 1, 0] rfl) hf
          refine lv_if_eq (tgt := 56) hx hb dX7_findSoonest_49 (by decide) (fun h9 => ?_) (fun h9 => ?_)
          · have hf := pg_t h9 hf
            refine lv_aload_n hx hb dX7_findSoonest_56 rfl (lv_at hl 1 rfl) ?_
            refine va_get (D := (dC, dI)) (ci := 7) (v := .ref qc) (C := RX7) (T := TX7) (N := 8) hx hb hw inlX7 hown hK hP 0 rfl rfl 6 (by decide) (hw _ mw_4_15) (fun _ h9 => h9) rfl dX7_findSoonest_57 ?_
            refine lv_iload hx hb dX7_findSoonest_60 (lv_at hl 5 rfl) ?_
            refine lv_aload_n hx hb dX7_findSoonest_62 rfl (lv_at hl 2 rfl) ?_
            refine lv_iload_n hx hb dX7_findSoonest_63 rfl (lv_at hl 3 rfl) ?_
            refine lv_iload hx hb dX7_findSoonest_64 (lv_at hl 0 rfl) ?_
            obtain ⟨r_10, hc, hf⟩ := bn1_s hf
            refine pg_cVi (As := [.int y4_2, .ref qu, .int n2, .int z0_3]) (rest := []) (wf := (W_X7t_X2c_X0b_au6 cI cZ cII qt qt_rested qc qc_who qc_pull qb qb_pull qb_strength qb_back qb_moods qb_tides qb_carts qu t_crew_2 t_minutes_2 t_oats_2 t_waitHours t_waitMinutes t_rested c_last c_who c_pull b_law b_places b_broad b_horses b_blinds b_besides b_tideCount b_cartCount b_due b_pairs b_pull b_strength b_back b_moods b_tides b_carts u)) ⟨hx, hb, hml, hown, hw⟩ (c_X2_minutes l dC dI cI cZ cII qc qc_who qc_pull qb qb_pull qb_strength qb_back qb_moods qb_tides qb_carts qu H.size c_last c_who c_pull b_law b_places b_broad b_horses b_blinds b_besides b_tideCount b_cartCount b_due b_pairs b_pull b_strength b_back b_moods b_tides b_carts u y4_2 n2 z0_3 r_10 hc) (cwV 4 hts (wM_V mw_34_23 mw_29_2 mw_29_3 mw_2_0 mw_29_4) rfl rfl rfl dk_X2_minutes ⟨Nat.le_of_ble_eq_true rfl, Nat.le_of_ble_eq_true rfl⟩) hK hP hD hS hA 2 0 rfl rfl rfl [2, 3, 4, 5, 6, 7, 8, 9, 10, 11, 12] [0, 1] [0, 1, 2, 3, 4, 5, 6, 7, 8, 9, 10, 11, 12] rfl rfl rfl (by decide) rfl hl.1 rfl (Nat.le_of_ble_eq_true rfl) dX7_findSoonest_66 ⟨Nat.zero_le _, Nat.zero_le _⟩ (fun H locs hP hD hS => ?_)
            exact WJ69_5 _ _ _ _ hP hD hS (lv_sub hl [1, 2, 3, 4, 5] rfl) hf
          · have hf := pg_f h9 hf
            refine lv_iconst (v := (-1 : Int32)) hx hb dX7_findSoonest_52 (by decide) ?_
            refine lv_goto (tgt := 69) hx hb dX7_findSoonest_53 (by decide) ?_
            exact WJ69_5 _ _ _ _ hP hD hS (lv_sub hl [1, 2, 3, 4, 5] rfl) hf
        refine lv_icmp_ne (tgt := 33) hx hb dX7_findSoonest_25 (by decide) (fun h9 => ?_) (fun h9 => ?_)
        · have hf := pg_f h9 hf
          refine lv_aload_n hx hb dX7_findSoonest_33 rfl (lv_at hl 0 rfl) ?_
          refine va_get (D := (dC, dI)) (ci := 7) (v := .int t_minutes_2) (C := RX7) (T := TX7) (N := 8) hx hb hw inlX7 hown hK hP 0 rfl rfl 1 (by decide) (hw _ mw_34_20) (fun _ h9 => h9) rfl dX7_findSoonest_34 ?_
          exact WJ37_3 _ _ _ _ hP hD hS hl hf
        · have hf := pg_t h9 hf
          refine lv_bipush (v := (120 : Int32)) hx hb dX7_findSoonest_28 (by decide) ?_
          refine lv_goto (tgt := 37) hx hb dX7_findSoonest_30 (by decide) ?_
          exact WJ37_3 _ _ _ _ hP hD hS hl hf
  exact WL2 fu _ _ _ _ _ _ _ hP hD hS (lv_sub hl [1, 2, 3, 4, 0] rfl) hf
def f_X7_findCheapest (n2 : Int32) (t_crew : Int32) (t_minutes : Int32) (t_oats : Int32) (c_last : Int32) (c_who : Nat → Int32) (c_pull : Nat → Int32) (b_law : Int32) (b_broad : Int32) (b_due : Int32) (u : Nat → Int32) : Option (Int32 × Int32 × Int32 × Int32) :=
  jn3 (fun (t_crew_1 : Int32) (t_minutes_1 : Int32) (t_oats_1 : Int32) =>
    if t_crew_1 = (-1 : Int32) then
      some ((0 : Int32), t_crew_1, t_minutes_1, t_oats_1)
    else
      some ((1 : Int32), t_crew_1, t_minutes_1, t_oats_1)
  ) (fun K106_1 =>
  lq4 (fun rec2 (y3_2 : Int32) (t_crew_2 : Int32) (t_minutes_2 : Int32) (t_oats_2 : Int32) =>
    if c_last < y3_2 then
      K106_1 t_crew_2 t_minutes_2 t_oats_2
    else
      bn1 (f_X0_dueMinutes b_due) (fun (r_3 : Int32) =>
        bn1 (f_X2_minutes y3_2 n2 r_3 c_who c_pull b_law b_broad u) (fun (r_4 : Int32) =>
          jn3 (fun (t_crew_5 : Int32) (t_minutes_5 : Int32) (t_oats_5 : Int32) =>
            rec2 (y3_2 + (1 : Int32)) t_crew_5 t_minutes_5 t_oats_5
          ) (fun J100_5 =>
          if r_4 = (-1 : Int32) then
            J100_5 t_crew_2 t_minutes_2 t_oats_2
          else
            bn1 (f_X2_oats y3_2 r_4 c_who c_pull u) (fun (r_6 : Int32) =>
              jn1 (fun (u_7 : Unit) =>
                bn3 (f_X7_take y3_2 r_4 r_6 t_crew_2 t_minutes_2 t_oats_2) (fun (t_crew_8 : Int32) (t_minutes_8 : Int32) (t_oats_8 : Int32) =>
                  J100_5 t_crew_8 t_minutes_8 t_oats_8
                )
              ) (fun J91_7 =>
              if t_crew_2 = (-1 : Int32) then
                J91_7 ()
              else
                if r_6 < t_oats_2 then
                  J91_7 ()
                else
                  if r_6 = t_oats_2 then
                    if t_minutes_2 ≤ r_4 then
                      J100_5 t_crew_2 t_minutes_2 t_oats_2
                    else
                      J91_7 ()
                  else
                    J100_5 t_crew_2 t_minutes_2 t_oats_2
              )
            )
          )
        )
      )
  ) fu (1 : Int32) (-1 : Int32) t_minutes t_oats
  )
abbrev rm_X7_findCheapest : Room := { frames := 3, cells := 0, slots := 0, locals := 100 }
theorem dk_X7_findCheapest : yX7_findCheapest.cls = RX7 ∧ yX7_findCheapest.cls ≠ "java/lang/invoke/MethodHandle" ∧ yX7_findCheapest.cls ≠ "java/lang/invoke/VarHandle" ∧ (parseMethodDescriptor yX7_findCheapest.desc).map (fun d => d.parameters.length) = some 2 := by decide +kernel
set_option maxHeartbeats 4000000 in
set_option maxRecDepth 100000 in
theorem c_X7_findCheapest (l : Launch) (dC : Nat → ClassId) (dI : Nat → Nat → Nat) (cI cZ cII : ClassId) (qt qt_rested qc qc_who qc_pull qb qb_pull qb_strength qb_back qb_moods qb_tides qb_carts qu : Nat) (sz : Nat) (t_crew : Int32) (t_minutes : Int32) (t_oats : Int32) (t_waitHours : Int32) (t_waitMinutes : Int32) (t_rested : Nat → Int32) (c_last : Int32) (c_who : Nat → Int32) (c_pull : Nat → Int32) (b_law : Int32) (b_places : Int32) (b_broad : Int32) (b_horses : Int32) (b_blinds : Int32) (b_besides : Int32) (b_tideCount : Int32) (b_cartCount : Int32) (b_due : Int32) (b_pairs : Int64) (b_pull : Nat → Int32) (b_strength : Nat → Int32) (b_back : Nat → Int32) (b_moods : Nat → Int32) (b_tides : Nat → Int32) (b_carts : Nat → Int32) (u : Nat → Int32) (n2 : Int32) (rr : Int32) (t_crew' : Int32) (t_minutes' : Int32) (t_oats' : Int32) (hf : f_X7_findCheapest n2 t_crew t_minutes t_oats c_last c_who c_pull b_law b_broad b_due u = some (rr, t_crew', t_minutes', t_oats')) : Met l yX7_findCheapest (wM yX7_findCheapest cX7_findCheapest 6 (some .boolean)) rm_X7_findCheapest (PreW (dC, dI) (tyA cI cZ cII) (W_X7t_X2c_X0b_au6 cI cZ cII qt qt_rested qc qc_who qc_pull qb qb_pull qb_strength qb_back qb_moods qb_tides qb_carts qu t_crew t_minutes t_oats t_waitHours t_waitMinutes t_rested c_last c_who c_pull b_law b_places b_broad b_horses b_blinds b_besides b_tideCount b_cartCount b_due b_pairs b_pull b_strength b_back b_moods b_tides b_carts u) sz [.ref qt, .ref qu, .int n2]) (PostI (dC, dI) (tyA cI cZ cII) rr (W_X7t_X2c_X0b_au6 cI cZ cII qt qt_rested qc qc_who qc_pull qb qb_pull qb_strength qb_back qb_moods qb_tides qb_carts qu t_crew t_minutes t_oats t_waitHours t_waitMinutes t_rested c_last c_who c_pull b_law b_places b_broad b_horses b_blinds b_besides b_tideCount b_cartCount b_due b_pairs b_pull b_strength b_back b_moods b_tides b_carts u) (W_X7t_X2c_X0b_au6 cI cZ cII qt qt_rested qc qc_who qc_pull qb qb_pull qb_strength qb_back qb_moods qb_tides qb_carts qu t_crew' t_minutes' t_oats' t_waitHours t_waitMinutes t_rested c_last c_who c_pull b_law b_places b_broad b_horses b_blinds b_besides b_tideCount b_cartCount b_due b_pairs b_pull b_strength b_back b_moods b_tides b_carts u) sz) 0 0 (va_A (W_X7t_X2c_X0b_au6 cI cZ cII qt qt_rested qc qc_who qc_pull qb qb_pull qb_strength qb_back qb_moods qb_tides qb_carts qu t_crew t_minutes t_oats t_waitHours t_waitMinutes t_rested c_last c_who c_pull b_law b_places b_broad b_horses b_blinds b_besides b_tideCount b_cartCount b_due b_pairs b_pull b_strength b_back b_moods b_tides b_carts u) sz) := by
  refine Met.ofW (cc := cX7_findCheapest) (maxL := 6) (ret := (some .boolean)) (by decide) rfl ?_
  intro p e s m args below meth c s₁ B hml hv
  obtain ⟨rfl, hsz, hP, hK, hD0⟩ := hv
  have hx := B.exec
  have hb := B.bytes
  have hr := B.returns
  have hts := atoms_spec (ws := wM yX7_findCheapest cX7_findCheapest 6 (some .boolean)) B.pre
  have hown : s.vm.findClass RX7 = some m.cls := findClass_of_methodNamed B.named
  have hlocks := B.notSynchronized
  subst hsz
  have hD := hD0.self (sz := s.heap.size)
  obtain ⟨A, hAe⟩ : ∃ A, A = va_A (W_X7t_X2c_X0b_au6 cI cZ cII qt qt_rested qc qc_who qc_pull qb qb_pull qb_strength qb_back qb_moods qb_tides qb_carts qu t_crew t_minutes t_oats t_waitHours t_waitMinutes t_rested c_last c_who c_pull b_law b_places b_broad b_horses b_blinds b_besides b_tideCount b_cartCount b_due b_pairs b_pull b_strength b_back b_moods b_tides b_carts u) s.heap.size := ⟨_, rfl⟩
  rw [← hAe] at hD
  have hA : ∀ q : Nat, s.heap.size ≤ q → A q := fun q h => by rw [hAe]; exact Or.inr h
  have hS : va_S A s.heap s.heap [] := va_S.rf
  have hl := lv_entry ([.ref qt, .ref qu, .int n2]) (n := 6) (Nat.le_of_ble_eq_true rfl)
  rw [lg_entry_eq]
  generalize (lg_sl ([.ref qt, .ref qu, .int n2]) ++ List.replicate (6 - (lg_sl ([.ref qt, .ref qu, .int n2])).length) Slot.unset).toArray = ls at hl ⊢
  have hl : lv_has ls 6 [(0, .ref qt), (1, .ref qu), (2, .int n2)] := hl
  generalize ([.ref qt, .ref qu, .int n2] : List Value).toArray = args at hts ⊢
  have hw : ∀ w ∈ wsL_law, w.before args s = true := fun w h => hts w (List.mem_cons_of_mem _ h)
  refine pg_start (fun Q hQ => ?_)
  have RET : ∀ (H : Heap) (locs : List Loc) (ls : Array Slot) (pc : Nat) (v : Int32) (x0 : Int32) (x1 : Int32) (x2 : Int32) , decode cX7_findCheapest pc = .ok (.ireturn, 1) → (v = 0 ∨ v = 1) → va_P (dC, dI) vwCl (W_X7t_X2c_X0b_au6 cI cZ cII qt qt_rested qc qc_who qc_pull qb qb_pull qb_strength qb_back qb_moods qb_tides qb_carts qu x0 x1 x2 t_waitHours t_waitMinutes t_rested c_last c_who c_pull b_law b_places b_broad b_horses b_blinds b_besides b_tideCount b_cartCount b_due b_pairs b_pull b_strength b_back b_moods b_tides b_carts u) H → va_D A (W_X7t_X2c_X0b_au6 cI cZ cII qt qt_rested qc qc_who qc_pull qb qb_pull qb_strength qb_back qb_moods qb_tides qb_carts qu x0 x1 x2 t_waitHours t_waitMinutes t_rested c_last c_who c_pull b_law b_places b_broad b_horses b_blinds b_besides b_tideCount b_cartCount b_due b_pairs b_pull b_strength b_back b_moods b_tides b_carts u) → va_S A s.heap H locs → (some (v, x0, x1, x2) : Option (Int32 × Int32 × Int32 × Int32)) = some (rr, t_crew', t_minutes', t_oats') → W p l e rm_X7_findCheapest s m args below meth c H locs 0 0 Q (F0 m pc ls [.int v]) := by
    intro H locs ls pc v x0 x1 x2 hd hz hP hD hS he
    subst hAe; subst hQ
    simp only [Option.some.injEq, Prod.mk.injEq] at he
    obtain ⟨rfl, rfl, rfl, rfl⟩ := he
    exact pg_zret hx hb hr hlocks hz hK hP hD hS hd
  unfold f_X7_findCheapest at hf
  refine lv_aload_n hx hb dX7_findCheapest_0 rfl (lv_at hl 0 rfl) ?_
  refine lv_iconst (v := (-1 : Int32)) hx hb dX7_findCheapest_1 (by decide) ?_
  refine va_put (D := (dC, dI)) (ci := 7) (v := .int (-1 : Int32)) (ty := .int) (C := RX7) (T := TX7) (N := 8) hx hb hw inlX7 tyX7 tyX7_ok nmX7 hown hK hP hD hS 0 rfl rfl 0 (by decide) (hw _ mw_34_18) (fun _ h9 => h9) rfl (by decide +kernel) rfl rfl (Nat.le_of_ble_eq_true rfl) dX7_findCheapest_2 (fun H locs hP hD hS => ?_)
  have hP : va_P (dC, dI) vwCl (W_X7t_X2c_X0b_au6 cI cZ cII qt qt_rested qc qc_who qc_pull qb qb_pull qb_strength qb_back qb_moods qb_tides qb_carts qu (-1 : Int32) t_minutes t_oats t_waitHours t_waitMinutes t_rested c_last c_who c_pull b_law b_places b_broad b_horses b_blinds b_besides b_tideCount b_cartCount b_due b_pairs b_pull b_strength b_back b_moods b_tides b_carts u) H := hP
  have hD : va_D A (W_X7t_X2c_X0b_au6 cI cZ cII qt qt_rested qc qc_who qc_pull qb qb_pull qb_strength qb_back qb_moods qb_tides qb_carts qu (-1 : Int32) t_minutes t_oats t_waitHours t_waitMinutes t_rested c_last c_who c_pull b_law b_places b_broad b_horses b_blinds b_besides b_tideCount b_cartCount b_due b_pairs b_pull b_strength b_back b_moods b_tides b_carts u) := hD
  refine lv_iconst (v := (1 : Int32)) hx hb dX7_findCheapest_5 (by decide) ?_
  refine lv_istore_n (lv' := [(3, .int (1 : Int32)), (0, .ref qt), (1, .ref qu), (2, .int n2)]) hx hb dX7_findCheapest_6 rfl hl (by decide) rfl (fun ls hl => ?_)
  obtain ⟨K106_1, hK106_1, hf⟩ := jn3_s hf
  have WK106_1 : ∀ (t_crew_1 : Int32) (t_minutes_1 : Int32) (t_oats_1 : Int32) (H : Heap) (locs : List Loc) (ls : Array Slot), va_P (dC, dI) vwCl (W_X7t_X2c_X0b_au6 cI cZ cII qt qt_rested qc qc_who qc_pull qb qb_pull qb_strength qb_back qb_moods qb_tides qb_carts qu t_crew_1 t_minutes_1 t_oats_1 t_waitHours t_waitMinutes t_rested c_last c_who c_pull b_law b_places b_broad b_horses b_blinds b_besides b_tideCount b_cartCount b_due b_pairs b_pull b_strength b_back b_moods b_tides b_carts u) H → va_D A (W_X7t_X2c_X0b_au6 cI cZ cII qt qt_rested qc qc_who qc_pull qb qb_pull qb_strength qb_back qb_moods qb_tides qb_carts qu t_crew_1 t_minutes_1 t_oats_1 t_waitHours t_waitMinutes t_rested c_last c_who c_pull b_law b_places b_broad b_horses b_blinds b_besides b_tideCount b_cartCount b_due b_pairs b_pull b_strength b_back b_moods b_tides b_carts u) → va_S A s.heap H locs → lv_has ls 6 [(0, .ref qt)] → K106_1 t_crew_1 t_minutes_1 t_oats_1 = some (rr, t_crew', t_minutes', t_oats') → W p l e rm_X7_findCheapest s m args below meth c H locs 0 0 Q (F0 m 106 ls []) := by
    intro t_crew_1 t_minutes_1 t_oats_1 H locs ls hP hD hS hl hf
    have hf := hK106_1 _ _ _ hf
    refine lv_aload_n hx hb dX7_findCheapest_106 rfl (lv_at hl 0 rfl) ?_
    refine va_get (D := (dC, dI)) (ci := 7) (v := .int t_crew_1) (C := RX7) (T := TX7) (N := 8) hx hb hw inlX7 hown hK hP 0 rfl rfl 0 (by decide) (hw _ mw_34_18) (fun _ h9 => h9) rfl dX7_findCheapest_107 ?_
    refine lv_iconst (v := (-1 : Int32)) hx hb dX7_findCheapest_110 (by decide) ?_
    refine lv_icmp_eq (tgt := 118) hx hb dX7_findCheapest_111 (by decide) (fun h9 => ?_) (fun h9 => ?_)
    · have hf := pg_t h9 hf
      refine lv_iconst (v := (0 : Int32)) hx hb dX7_findCheapest_118 (by decide) ?_
      exact RET _ _ _ _ _ _ _ _ dX7_findCheapest_119 (by decide) hP hD hS hf
    · have hf := pg_f h9 hf
      refine lv_iconst (v := (1 : Int32)) hx hb dX7_findCheapest_114 (by decide) ?_
      refine lv_goto (tgt := 119) hx hb dX7_findCheapest_115 (by decide) ?_
      exact RET _ _ _ _ _ _ _ _ dX7_findCheapest_119 (by decide) hP hD hS hf
  obtain ⟨B2, hB2, hf⟩ := lq4_n hf
  have WL2 : ∀ (n9 : Nat) (y3_2 : Int32) (t_crew_2 : Int32) (t_minutes_2 : Int32) (t_oats_2 : Int32) (H : Heap) (locs : List Loc) (ls : Array Slot), va_P (dC, dI) vwCl (W_X7t_X2c_X0b_au6 cI cZ cII qt qt_rested qc qc_who qc_pull qb qb_pull qb_strength qb_back qb_moods qb_tides qb_carts qu t_crew_2 t_minutes_2 t_oats_2 t_waitHours t_waitMinutes t_rested c_last c_who c_pull b_law b_places b_broad b_horses b_blinds b_besides b_tideCount b_cartCount b_due b_pairs b_pull b_strength b_back b_moods b_tides b_carts u) H → va_D A (W_X7t_X2c_X0b_au6 cI cZ cII qt qt_rested qc qc_who qc_pull qb qb_pull qb_strength qb_back qb_moods qb_tides qb_carts qu t_crew_2 t_minutes_2 t_oats_2 t_waitHours t_waitMinutes t_rested c_last c_who c_pull b_law b_places b_broad b_horses b_blinds b_besides b_tideCount b_cartCount b_due b_pairs b_pull b_strength b_back b_moods b_tides b_carts u) → va_S A s.heap H locs → lv_has ls 6 [(0, .ref qt), (1, .ref qu), (2, .int n2), (3, .int y3_2)] → lq4 B2 n9 y3_2 t_crew_2 t_minutes_2 t_oats_2 = some (rr, t_crew', t_minutes', t_oats') → W p l e rm_X7_findCheapest s m args below meth c H locs 0 0 Q (F0 m 7 ls []) := by
    intro n9
    induction n9 with
    | zero => intro y3_2 t_crew_2 t_minutes_2 t_oats_2 H locs ls hP hD hS hl hf; cases hf
    | succ n9 ih =>
      intro y3_2 t_crew_2 t_minutes_2 t_oats_2 H locs ls hP hD hS hl hf
      obtain ⟨rec2, hrec2, hf⟩ := lq4_s hf
      have hf := hB2 rec2 _ _ _ _ hf
      refine lv_iload_n hx hb dX7_findCheapest_7 rfl (lv_at hl 3 rfl) ?_
      refine lv_aload_n hx hb dX7_findCheapest_8 rfl (lv_at hl 0 rfl) ?_
      refine va_get (D := (dC, dI)) (ci := 7) (v := .ref qc) (C := RX7) (T := TX7) (N := 8) hx hb hw inlX7 hown hK hP 0 rfl rfl 6 (by decide) (hw _ mw_4_15) (fun _ h9 => h9) rfl dX7_findCheapest_9 ?_
      refine va_get (D := (dC, dI)) (ci := 2) (v := .int c_last) (C := RX2) (T := TX2) (N := 4) hx hb hw inlX2 hown hK hP 2 rfl rfl 0 (by decide) (hw _ mw_34_19) (fun _ h9 => h9) rfl dX7_findCheapest_12 ?_
      refine lv_icmp_gt (tgt := 106) hx hb dX7_findCheapest_15 (by decide) (fun h9 => ?_) (fun h9 => ?_)
      · have hf := pg_t h9 hf
        exact WK106_1 _ _ _ _ _ _ hP hD hS (lv_sub hl [0] rfl) hf
      · have hf := pg_f h9 hf
        refine lv_aload_n hx hb dX7_findCheapest_18 rfl (lv_at hl 0 rfl) ?_
        refine va_get (D := (dC, dI)) (ci := 7) (v := .ref qc) (C := RX7) (T := TX7) (N := 8) hx hb hw inlX7 hown hK hP 0 rfl rfl 6 (by decide) (hw _ mw_4_15) (fun _ h9 => h9) rfl dX7_findCheapest_19 ?_
        refine lv_iload_n hx hb dX7_findCheapest_22 rfl (lv_at hl 3 rfl) ?_
        refine lv_aload_n hx hb dX7_findCheapest_23 rfl (lv_at hl 1 rfl) ?_
        refine lv_iload_n hx hb dX7_findCheapest_24 rfl (lv_at hl 2 rfl) ?_
        refine lv_aload_n hx hb dX7_findCheapest_25 rfl (lv_at hl 0 rfl) ?_
        refine va_get (D := (dC, dI)) (ci := 7) (v := .ref qb) (C := RX7) (T := TX7) (N := 8) hx hb hw inlX7 hown hK hP 0 rfl rfl 5 (by decide) (hw _ mw_4_14) (fun _ h9 => h9) rfl dX7_findCheapest_26 ?_
        obtain ⟨r_3, hc, hf⟩ := bn1_s hf
        refine pg_cVi (As := []) (rest := [.int n2, .ref qu, .int y3_2, .ref qc]) (wf := (W_X7t_X2c_X0b_au6 cI cZ cII qt qt_rested qc qc_who qc_pull qb qb_pull qb_strength qb_back qb_moods qb_tides qb_carts qu t_crew_2 t_minutes_2 t_oats_2 t_waitHours t_waitMinutes t_rested c_last c_who c_pull b_law b_places b_broad b_horses b_blinds b_besides b_tideCount b_cartCount b_due b_pairs b_pull b_strength b_back b_moods b_tides b_carts u)) ⟨hx, hb, hml, hown, hw⟩ (c_X0_dueMinutes l dC dI cI cZ cII qb qb_pull qb_strength qb_back qb_moods qb_tides qb_carts H.size b_law b_places b_broad b_horses b_blinds b_besides b_tideCount b_cartCount b_due b_pairs b_pull b_strength b_back b_moods b_tides b_carts  r_3 hc) (cwV 0 hts (wM_V mw_36_20 mw_23_8 mw_23_9 mw_1_15 mw_23_10) rfl rfl rfl dk_X0_dueMinutes ⟨Nat.le_of_ble_eq_true rfl, Nat.le_of_ble_eq_true rfl⟩) hK hP hD hS hA 0 0 rfl rfl rfl [5, 6, 7, 8, 9, 10, 11] [0, 1, 2, 3, 4, 12] [0, 1, 2, 3, 4, 6, 7, 8, 9, 10, 11, 12, 5] rfl rfl rfl (by decide) rfl hl.1 rfl (Nat.le_of_ble_eq_true rfl) dX7_findCheapest_29 ⟨Nat.zero_le _, Nat.zero_le _⟩ (fun H locs hP hD hS => ?_)
        obtain ⟨r_4, hc, hf⟩ := bn1_s hf
        refine pg_cVi (As := [.int y3_2, .ref qu, .int n2, .int r_3]) (rest := []) (wf := (W_X7t_X2c_X0b_au6 cI cZ cII qt qt_rested qc qc_who qc_pull qb qb_pull qb_strength qb_back qb_moods qb_tides qb_carts qu t_crew_2 t_minutes_2 t_oats_2 t_waitHours t_waitMinutes t_rested c_last c_who c_pull b_law b_places b_broad b_horses b_blinds b_besides b_tideCount b_cartCount b_due b_pairs b_pull b_strength b_back b_moods b_tides b_carts u)) ⟨hx, hb, hml, hown, hw⟩ (c_X2_minutes l dC dI cI cZ cII qc qc_who qc_pull qb qb_pull qb_strength qb_back qb_moods qb_tides qb_carts qu H.size c_last c_who c_pull b_law b_places b_broad b_horses b_blinds b_besides b_tideCount b_cartCount b_due b_pairs b_pull b_strength b_back b_moods b_tides b_carts u y3_2 n2 r_3 r_4 hc) (cwV 4 hts (wM_V mw_34_23 mw_29_2 mw_29_3 mw_2_0 mw_29_4) rfl rfl rfl dk_X2_minutes ⟨Nat.le_of_ble_eq_true rfl, Nat.le_of_ble_eq_true rfl⟩) hK hP hD hS hA 2 0 rfl rfl rfl [2, 3, 4, 5, 6, 7, 8, 9, 10, 11, 12] [0, 1] [0, 1, 2, 3, 4, 5, 6, 7, 8, 9, 10, 11, 12] rfl rfl rfl (by decide) rfl hl.1 rfl (Nat.le_of_ble_eq_true rfl) dX7_findCheapest_32 ⟨Nat.zero_le _, Nat.zero_le _⟩ (fun H locs hP hD hS => ?_)
        refine lv_istore (lv' := [(4, .int r_4), (0, .ref qt), (1, .ref qu), (2, .int n2), (3, .int y3_2)]) hx hb dX7_findCheapest_35 hl (by decide) rfl (fun ls hl => ?_)
        refine lv_iload hx hb dX7_findCheapest_37 (lv_at hl 0 rfl) ?_
        refine lv_iconst (v := (-1 : Int32)) hx hb dX7_findCheapest_39 (by decide) ?_
        obtain ⟨J100_5, hJ100_5, hf⟩ := jn3_s hf
        have WJ100_5 : ∀ (t_crew_5 : Int32) (t_minutes_5 : Int32) (t_oats_5 : Int32) (H : Heap) (locs : List Loc) (ls : Array Slot), va_P (dC, dI) vwCl (W_X7t_X2c_X0b_au6 cI cZ cII qt qt_rested qc qc_who qc_pull qb qb_pull qb_strength qb_back qb_moods qb_tides qb_carts qu t_crew_5 t_minutes_5 t_oats_5 t_waitHours t_waitMinutes t_rested c_last c_who c_pull b_law b_places b_broad b_horses b_blinds b_besides b_tideCount b_cartCount b_due b_pairs b_pull b_strength b_back b_moods b_tides b_carts u) H → va_D A (W_X7t_X2c_X0b_au6 cI cZ cII qt qt_rested qc qc_who qc_pull qb qb_pull qb_strength qb_back qb_moods qb_tides qb_carts qu t_crew_5 t_minutes_5 t_oats_5 t_waitHours t_waitMinutes t_rested c_last c_who c_pull b_law b_places b_broad b_horses b_blinds b_besides b_tideCount b_cartCount b_due b_pairs b_pull b_strength b_back b_moods b_tides b_carts u) → va_S A s.heap H locs → lv_has ls 6 [(0, .ref qt), (1, .ref qu), (2, .int n2), (3, .int y3_2)] → J100_5 t_crew_5 t_minutes_5 t_oats_5 = some (rr, t_crew', t_minutes', t_oats') → W p l e rm_X7_findCheapest s m args below meth c H locs 0 0 Q (F0 m 100 ls []) := by
          intro t_crew_5 t_minutes_5 t_oats_5 H locs ls hP hD hS hl hf
          have hf := hJ100_5 _ _ _ hf
          refine lv_iinc (v := (y3_2 + (1 : Int32))) (lv' := [(3, .int (y3_2 + (1 : Int32))), (0, .ref qt), (1, .ref qu), (2, .int n2)]) hx hb dX7_findCheapest_100 hl (k := 3) rfl rfl (by decide) rfl (fun ls hl => ?_)
          refine lv_goto (tgt := 7) hx hb dX7_findCheapest_103 (by decide) ?_
          exact ih _ _ _ _ _ _ _ hP hD hS (lv_sub hl [1, 2, 3, 0] rfl) (hrec2 _ _ _ _ hf)
        refine lv_icmp_eq (tgt := 100) hx hb dX7_findCheapest_40 (by decide) (fun h9 => ?_) (fun h9 => ?_)
        · have hf := pg_t h9 hf
          exact WJ100_5 _ _ _ _ _ _ hP hD hS (lv_sub hl [1, 2, 3, 4] rfl) hf
        · have hf := pg_f h9 hf
          refine lv_aload_n hx hb dX7_findCheapest_43 rfl (lv_at hl 1 rfl) ?_
          refine va_get (D := (dC, dI)) (ci := 7) (v := .ref qc) (C := RX7) (T := TX7) (N := 8) hx hb hw inlX7 hown hK hP 0 rfl rfl 6 (by decide) (hw _ mw_4_15) (fun _ h9 => h9) rfl dX7_findCheapest_44 ?_
          refine lv_iload_n hx hb dX7_findCheapest_47 rfl (lv_at hl 4 rfl) ?_
          refine lv_aload_n hx hb dX7_findCheapest_48 rfl (lv_at hl 2 rfl) ?_
          refine lv_iload hx hb dX7_findCheapest_49 (lv_at hl 0 rfl) ?_
          obtain ⟨r_6, hc, hf⟩ := bn1_s hf
          refine pg_cVi (As := [.int y3_2, .ref qu, .int r_4]) (rest := []) (wf := (W_X7t_X2c_X0b_au6 cI cZ cII qt qt_rested qc qc_who qc_pull qb qb_pull qb_strength qb_back qb_moods qb_tides qb_carts qu t_crew_2 t_minutes_2 t_oats_2 t_waitHours t_waitMinutes t_rested c_last c_who c_pull b_law b_places b_broad b_horses b_blinds b_besides b_tideCount b_cartCount b_due b_pairs b_pull b_strength b_back b_moods b_tides b_carts u)) ⟨hx, hb, hml, hown, hw⟩ (c_X2_oats l dC dI cI cZ cII qc qc_who qc_pull qb qb_pull qb_strength qb_back qb_moods qb_tides qb_carts qu H.size c_last c_who c_pull b_law b_places b_broad b_horses b_blinds b_besides b_tideCount b_cartCount b_due b_pairs b_pull b_strength b_back b_moods b_tides b_carts u y3_2 r_4 r_6 hc) (cwV 3 hts (wM_V mw_35_0 mw_29_17 mw_29_18 mw_2_0 mw_29_19) rfl rfl rfl dk_X2_oats ⟨Nat.le_of_ble_eq_true rfl, Nat.le_of_ble_eq_true rfl⟩) hK hP hD hS hA 2 0 rfl rfl rfl [2, 3, 4, 5, 6, 7, 8, 9, 10, 11, 12] [0, 1] [0, 1, 2, 3, 4, 5, 6, 7, 8, 9, 10, 11, 12] rfl rfl rfl (by decide) rfl hl.1 rfl (Nat.le_of_ble_eq_true rfl) dX7_findCheapest_51 ⟨Nat.zero_le _, Nat.zero_le _⟩ (fun H locs hP hD hS => ?_)
          refine lv_istore (lv' := [(5, .int r_6), (4, .int r_4), (0, .ref qt), (1, .ref qu), (2, .int n2), (3, .int y3_2)]) hx hb dX7_findCheapest_54 hl (by decide) rfl (fun ls hl => ?_)
          refine lv_aload_n hx hb dX7_findCheapest_56 rfl (lv_at hl 2 rfl) ?_
          refine va_get (D := (dC, dI)) (ci := 7) (v := .int t_crew_2) (C := RX7) (T := TX7) (N := 8) hx hb hw inlX7 hown hK hP 0 rfl rfl 0 (by decide) (hw _ mw_34_18) (fun _ h9 => h9) rfl dX7_findCheapest_57 ?_
          refine lv_iconst (v := (-1 : Int32)) hx hb dX7_findCheapest_60 (by decide) ?_
          obtain ⟨J91_7, hJ91_7, hf⟩ := jn1_s hf
          have WJ91_7 : ∀ (u_7 : Unit) (H : Heap) (locs : List Loc) (ls : Array Slot), va_P (dC, dI) vwCl (W_X7t_X2c_X0b_au6 cI cZ cII qt qt_rested qc qc_who qc_pull qb qb_pull qb_strength qb_back qb_moods qb_tides qb_carts qu t_crew_2 t_minutes_2 t_oats_2 t_waitHours t_waitMinutes t_rested c_last c_who c_pull b_law b_places b_broad b_horses b_blinds b_besides b_tideCount b_cartCount b_due b_pairs b_pull b_strength b_back b_moods b_tides b_carts u) H → va_D A (W_X7t_X2c_X0b_au6 cI cZ cII qt qt_rested qc qc_who qc_pull qb qb_pull qb_strength qb_back qb_moods qb_tides qb_carts qu t_crew_2 t_minutes_2 t_oats_2 t_waitHours t_waitMinutes t_rested c_last c_who c_pull b_law b_places b_broad b_horses b_blinds b_besides b_tideCount b_cartCount b_due b_pairs b_pull b_strength b_back b_moods b_tides b_carts u) → va_S A s.heap H locs → lv_has ls 6 [(0, .ref qt), (1, .ref qu), (2, .int n2), (3, .int y3_2), (4, .int r_4), (5, .int r_6)] → J91_7 u_7 = some (rr, t_crew', t_minutes', t_oats') → W p l e rm_X7_findCheapest s m args below meth c H locs 0 0 Q (F0 m 91 ls []) := by
            intro u_7 H locs ls hP hD hS hl hf
            have hf := hJ91_7 _ hf
            refine lv_aload_n hx hb dX7_findCheapest_91 rfl (lv_at hl 0 rfl) ?_
            refine lv_iload_n hx hb dX7_findCheapest_92 rfl (lv_at hl 3 rfl) ?_
            refine lv_iload hx hb dX7_findCheapest_93 (lv_at hl 4 rfl) ?_
            refine lv_iload hx hb dX7_findCheapest_95 (lv_at hl 5 rfl) ?_
            obtain ⟨t_crew_8, t_minutes_8, t_oats_8, hc, hf⟩ := bn3_s hf
            refine pg_cVv (As := [.int y3_2, .int r_4, .int r_6]) (rest := []) (wf := (W_X7t_X2c_X0b_au6 cI cZ cII qt qt_rested qc qc_who qc_pull qb qb_pull qb_strength qb_back qb_moods qb_tides qb_carts qu t_crew_8 t_minutes_8 t_oats_8 t_waitHours t_waitMinutes t_rested c_last c_who c_pull b_law b_places b_broad b_horses b_blinds b_besides b_tideCount b_cartCount b_due b_pairs b_pull b_strength b_back b_moods b_tides b_carts u)) ⟨hx, hb, hml, hown, hw⟩ (c_X7_take l dC dI cI cZ cII qt qt_rested qc qc_who qc_pull qb qb_pull qb_strength qb_back qb_moods qb_tides qb_carts H.size t_crew_2 t_minutes_2 t_oats_2 t_waitHours t_waitMinutes t_rested c_last c_who c_pull b_law b_places b_broad b_horses b_blinds b_besides b_tideCount b_cartCount b_due b_pairs b_pull b_strength b_back b_moods b_tides b_carts y3_2 r_4 r_6 t_crew_8 t_minutes_8 t_oats_8 hc) (cwV 3 hts (wM_V mw_35_1 mw_35_2 mw_35_3 mw_2_10 mw_35_4) rfl rfl rfl dk_X7_take ⟨Nat.le_of_ble_eq_true rfl, Nat.le_of_ble_eq_true rfl⟩) hK hP hD hS hA 7 0 rfl rfl rfl [0, 1, 2, 3, 4, 5, 6, 7, 8, 9, 10, 11] [12] [1, 2, 3, 4, 5, 6, 7, 8, 9, 10, 11, 12, 0] rfl rfl rfl (by decide) rfl hl.1 rfl (Nat.le_of_ble_eq_true rfl) dX7_findCheapest_97 ⟨Nat.zero_le _, Nat.zero_le _⟩ (fun H locs hP hD hS => ?_)
            exact WJ100_5 _ _ _ _ _ _ hP hD hS (lv_sub hl [0, 1, 2, 3] rfl) hf
          refine lv_icmp_eq (tgt := 91) hx hb dX7_findCheapest_61 (by decide) (fun h9 => ?_) (fun h9 => ?_)
          · have hf := pg_t h9 hf
            exact WJ91_7 _ _ _ _ hP hD hS (lv_sub hl [2, 3, 4, 5, 1, 0] rfl) hf
          · have hf := pg_f h9 hf
            refine lv_iload hx hb dX7_findCheapest_64 (lv_at hl 0 rfl) ?_
            refine lv_aload_n hx hb dX7_findCheapest_66 rfl (lv_at hl 2 rfl) ?_
            refine va_get (D := (dC, dI)) (ci := 7) (v := .int t_oats_2) (C := RX7) (T := TX7) (N := 8) hx hb hw inlX7 hown hK hP 0 rfl rfl 2 (by decide) (hw _ mw_34_21) (fun _ h9 => h9) rfl dX7_findCheapest_67 ?_
            refine lv_icmp_lt (tgt := 91) hx hb dX7_findCheapest_70 (by decide) (fun h9 => ?_) (fun h9 => ?_)
            · have hf := pg_t h9 hf
              exact WJ91_7 _ _ _ _ hP hD hS (lv_sub hl [2, 3, 4, 5, 1, 0] rfl) hf
            · have hf := pg_f h9 hf
              refine lv_iload hx hb dX7_findCheapest_73 (lv_at hl 0 rfl) ?_
              refine lv_aload_n hx hb dX7_findCheapest_75 rfl (lv_at hl 2 rfl) ?_
              refine va_get (D := (dC, dI)) (ci := 7) (v := .int t_oats_2) (C := RX7) (T := TX7) (N := 8) hx hb hw inlX7 hown hK hP 0 rfl rfl 2 (by decide) (hw _ mw_34_21) (fun _ h9 => h9) rfl dX7_findCheapest_76 ?_
              refine lv_icmp_ne (tgt := 100) hx hb dX7_findCheapest_79 (by decide) (fun h9 => ?_) (fun h9 => ?_)
              · have hf := pg_f h9 hf
                exact WJ100_5 _ _ _ _ _ _ hP hD hS (lv_sub hl [2, 3, 4, 5] rfl) hf
              · have hf := pg_t h9 hf
                refine lv_iload hx hb dX7_findCheapest_82 (lv_at hl 1 rfl) ?_
                refine lv_aload_n hx hb dX7_findCheapest_84 rfl (lv_at hl 2 rfl) ?_
                refine va_get (D := (dC, dI)) (ci := 7) (v := .int t_minutes_2) (C := RX7) (T := TX7) (N := 8) hx hb hw inlX7 hown hK hP 0 rfl rfl 1 (by decide) (hw _ mw_34_20) (fun _ h9 => h9) rfl dX7_findCheapest_85 ?_
                refine lv_icmp_ge (tgt := 100) hx hb dX7_findCheapest_88 (by decide) (fun h9 => ?_) (fun h9 => ?_)
                · have hf := pg_t h9 hf
                  exact WJ100_5 _ _ _ _ _ _ hP hD hS (lv_sub hl [2, 3, 4, 5] rfl) hf
                · have hf := pg_f h9 hf
                  exact WJ91_7 _ _ _ _ hP hD hS (lv_sub hl [2, 3, 4, 5, 1, 0] rfl) hf
  exact WL2 fu _ _ _ _ _ _ _ hP hD hS (lv_sub hl [1, 2, 3, 0] rfl) hf
def f_X7_findSoonestBtrested (n2 : Int32) (n3 : Int32) (t_crew : Int32) (t_minutes : Int32) (t_oats : Int32) (t_rested : Nat → Int32) (c_last : Int32) (c_who : Nat → Int32) (c_pull : Nat → Int32) (b_law : Int32) (b_broad : Int32) : Option (Int32 × Int32 × Int32 × Int32) :=
  jn3 (fun (t_crew_1 : Int32) (t_minutes_1 : Int32) (t_oats_1 : Int32) =>
    if t_crew_1 = (-1 : Int32) then
      some ((0 : Int32), t_crew_1, t_minutes_1, t_oats_1)
    else
      some ((1 : Int32), t_crew_1, t_minutes_1, t_oats_1)
  ) (fun K133_1 =>
  lq4 (fun rec2 (y4_2 : Int32) (t_crew_2 : Int32) (t_minutes_2 : Int32) (t_oats_2 : Int32) =>
    if c_last < y4_2 then
      K133_1 t_crew_2 t_minutes_2 t_oats_2
    else
      jn1 (fun (z0_3 : Int32) =>
        bn1 (f_X2_takes y4_2 n3 c_who) (fun (r_4 : Int32) =>
          jn1 (fun (z0_5 : Int32) =>
            jn3 (fun (t_crew_6 : Int32) (t_minutes_6 : Int32) (t_oats_6 : Int32) =>
              rec2 (y4_2 + (1 : Int32)) t_crew_6 t_minutes_6 t_oats_6
            ) (fun J127_6 =>
            if z0_5 = (-1 : Int32) then
              J127_6 t_crew_2 t_minutes_2 t_oats_2
            else
              bn1 (f_X2_oats y4_2 z0_5 c_who c_pull t_rested) (fun (r_7 : Int32) =>
                jn1 (fun (u_8 : Unit) =>
                  bn3 (f_X7_take y4_2 z0_5 r_7 t_crew_2 t_minutes_2 t_oats_2) (fun (t_crew_9 : Int32) (t_minutes_9 : Int32) (t_oats_9 : Int32) =>
                    J127_6 t_crew_9 t_minutes_9 t_oats_9
                  )
                ) (fun J117_8 =>
                if t_crew_2 = (-1 : Int32) then
                  J117_8 ()
                else
                  if z0_5 < t_minutes_2 then
                    J117_8 ()
                  else
                    if t_oats_2 ≤ r_7 then
                      J127_6 t_crew_2 t_minutes_2 t_oats_2
                    else
                      J117_8 ()
                )
              )
            )
          ) (fun J69_5 =>
          if r_4 = 0 then
            bn1 (f_X2_minutes y4_2 n2 z0_3 c_who c_pull b_law b_broad t_rested) (fun (r_10 : Int32) =>
              J69_5 r_10
            )
          else
            J69_5 (-1 : Int32)
          )
        )
      ) (fun J37_3 =>
      if t_crew_2 = (-1 : Int32) then
        J37_3 (120 : Int32)
      else
        J37_3 t_minutes_2
      )
  ) fu (1 : Int32) (-1 : Int32) t_minutes t_oats
  )
abbrev rm_X7_findSoonestBtrested : Room := { frames := 3, cells := 0, slots := 0, locals := 100 }
set_option maxHeartbeats 4000000 in
set_option maxRecDepth 100000 in
theorem c_X7_findSoonestBtrested (l : Launch) (dC : Nat → ClassId) (dI : Nat → Nat → Nat) (cI cZ cII : ClassId) (qt qt_rested qc qc_who qc_pull qb qb_pull qb_strength qb_back qb_moods qb_tides qb_carts : Nat) (sz : Nat) (t_crew : Int32) (t_minutes : Int32) (t_oats : Int32) (t_waitHours : Int32) (t_waitMinutes : Int32) (t_rested : Nat → Int32) (c_last : Int32) (c_who : Nat → Int32) (c_pull : Nat → Int32) (b_law : Int32) (b_places : Int32) (b_broad : Int32) (b_horses : Int32) (b_blinds : Int32) (b_besides : Int32) (b_tideCount : Int32) (b_cartCount : Int32) (b_due : Int32) (b_pairs : Int64) (b_pull : Nat → Int32) (b_strength : Nat → Int32) (b_back : Nat → Int32) (b_moods : Nat → Int32) (b_tides : Nat → Int32) (b_carts : Nat → Int32) (n2 : Int32) (n3 : Int32) (rr : Int32) (t_crew' : Int32) (t_minutes' : Int32) (t_oats' : Int32) (hf : f_X7_findSoonestBtrested n2 n3 t_crew t_minutes t_oats t_rested c_last c_who c_pull b_law b_broad = some (rr, t_crew', t_minutes', t_oats')) : Met l yX7_findSoonest (wM yX7_findSoonest cX7_findSoonest 8 (some .boolean)) rm_X7_findSoonestBtrested (PreW (dC, dI) (tyA cI cZ cII) (W_X7t_X2c_X0b cI cZ cII qt qt_rested qc qc_who qc_pull qb qb_pull qb_strength qb_back qb_moods qb_tides qb_carts t_crew t_minutes t_oats t_waitHours t_waitMinutes t_rested c_last c_who c_pull b_law b_places b_broad b_horses b_blinds b_besides b_tideCount b_cartCount b_due b_pairs b_pull b_strength b_back b_moods b_tides b_carts) sz [.ref qt, .ref qt_rested, .int n2, .int n3]) (PostI (dC, dI) (tyA cI cZ cII) rr (W_X7t_X2c_X0b cI cZ cII qt qt_rested qc qc_who qc_pull qb qb_pull qb_strength qb_back qb_moods qb_tides qb_carts t_crew t_minutes t_oats t_waitHours t_waitMinutes t_rested c_last c_who c_pull b_law b_places b_broad b_horses b_blinds b_besides b_tideCount b_cartCount b_due b_pairs b_pull b_strength b_back b_moods b_tides b_carts) (W_X7t_X2c_X0b cI cZ cII qt qt_rested qc qc_who qc_pull qb qb_pull qb_strength qb_back qb_moods qb_tides qb_carts t_crew' t_minutes' t_oats' t_waitHours t_waitMinutes t_rested c_last c_who c_pull b_law b_places b_broad b_horses b_blinds b_besides b_tideCount b_cartCount b_due b_pairs b_pull b_strength b_back b_moods b_tides b_carts) sz) 0 0 (va_A (W_X7t_X2c_X0b cI cZ cII qt qt_rested qc qc_who qc_pull qb qb_pull qb_strength qb_back qb_moods qb_tides qb_carts t_crew t_minutes t_oats t_waitHours t_waitMinutes t_rested c_last c_who c_pull b_law b_places b_broad b_horses b_blinds b_besides b_tideCount b_cartCount b_due b_pairs b_pull b_strength b_back b_moods b_tides b_carts) sz) := by
  refine Met.ofW (cc := cX7_findSoonest) (maxL := 8) (ret := (some .boolean)) (by decide) rfl ?_
  intro p e s m args below meth c s₁ B hml hv
  obtain ⟨rfl, hsz, hP, hK, hD0⟩ := hv
  have hx := B.exec
  have hb := B.bytes
  have hr := B.returns
  have hts := atoms_spec (ws := wM yX7_findSoonest cX7_findSoonest 8 (some .boolean)) B.pre
  have hown : s.vm.findClass RX7 = some m.cls := findClass_of_methodNamed B.named
  have hlocks := B.notSynchronized
  subst hsz
  have hD := hD0.self (sz := s.heap.size)
  obtain ⟨A, hAe⟩ : ∃ A, A = va_A (W_X7t_X2c_X0b cI cZ cII qt qt_rested qc qc_who qc_pull qb qb_pull qb_strength qb_back qb_moods qb_tides qb_carts t_crew t_minutes t_oats t_waitHours t_waitMinutes t_rested c_last c_who c_pull b_law b_places b_broad b_horses b_blinds b_besides b_tideCount b_cartCount b_due b_pairs b_pull b_strength b_back b_moods b_tides b_carts) s.heap.size := ⟨_, rfl⟩
  rw [← hAe] at hD
  have hA : ∀ q : Nat, s.heap.size ≤ q → A q := fun q h => by rw [hAe]; exact Or.inr h
  have hS : va_S A s.heap s.heap [] := va_S.rf
  have hl := lv_entry ([.ref qt, .ref qt_rested, .int n2, .int n3]) (n := 8) (Nat.le_of_ble_eq_true rfl)
  rw [lg_entry_eq]
  generalize (lg_sl ([.ref qt, .ref qt_rested, .int n2, .int n3]) ++ List.replicate (8 - (lg_sl ([.ref qt, .ref qt_rested, .int n2, .int n3])).length) Slot.unset).toArray = ls at hl ⊢
  have hl : lv_has ls 8 [(0, .ref qt), (1, .ref qt_rested), (2, .int n2), (3, .int n3)] := hl
  generalize ([.ref qt, .ref qt_rested, .int n2, .int n3] : List Value).toArray = args at hts ⊢
  have hw : ∀ w ∈ wsL_law, w.before args s = true := fun w h => hts w (List.mem_cons_of_mem _ h)
  refine pg_start (fun Q hQ => ?_)
  have RET : ∀ (H : Heap) (locs : List Loc) (ls : Array Slot) (pc : Nat) (v : Int32) (x0 : Int32) (x1 : Int32) (x2 : Int32) , decode cX7_findSoonest pc = .ok (.ireturn, 1) → (v = 0 ∨ v = 1) → va_P (dC, dI) vwCl (W_X7t_X2c_X0b cI cZ cII qt qt_rested qc qc_who qc_pull qb qb_pull qb_strength qb_back qb_moods qb_tides qb_carts x0 x1 x2 t_waitHours t_waitMinutes t_rested c_last c_who c_pull b_law b_places b_broad b_horses b_blinds b_besides b_tideCount b_cartCount b_due b_pairs b_pull b_strength b_back b_moods b_tides b_carts) H → va_D A (W_X7t_X2c_X0b cI cZ cII qt qt_rested qc qc_who qc_pull qb qb_pull qb_strength qb_back qb_moods qb_tides qb_carts x0 x1 x2 t_waitHours t_waitMinutes t_rested c_last c_who c_pull b_law b_places b_broad b_horses b_blinds b_besides b_tideCount b_cartCount b_due b_pairs b_pull b_strength b_back b_moods b_tides b_carts) → va_S A s.heap H locs → (some (v, x0, x1, x2) : Option (Int32 × Int32 × Int32 × Int32)) = some (rr, t_crew', t_minutes', t_oats') → W p l e rm_X7_findSoonestBtrested s m args below meth c H locs 0 0 Q (F0 m pc ls [.int v]) := by
    intro H locs ls pc v x0 x1 x2 hd hz hP hD hS he
    subst hAe; subst hQ
    simp only [Option.some.injEq, Prod.mk.injEq] at he
    obtain ⟨rfl, rfl, rfl, rfl⟩ := he
    exact pg_zret hx hb hr hlocks hz hK hP hD hS hd
  unfold f_X7_findSoonestBtrested at hf
  refine lv_aload_n hx hb dX7_findSoonest_0 rfl (lv_at hl 0 rfl) ?_
  refine lv_iconst (v := (-1 : Int32)) hx hb dX7_findSoonest_1 (by decide) ?_
  refine va_put (D := (dC, dI)) (ci := 7) (v := .int (-1 : Int32)) (ty := .int) (C := RX7) (T := TX7) (N := 8) hx hb hw inlX7 tyX7 tyX7_ok nmX7 hown hK hP hD hS 0 rfl rfl 0 (by decide) (hw _ mw_34_18) (fun _ h9 => h9) rfl (by decide +kernel) rfl rfl (Nat.le_of_ble_eq_true rfl) dX7_findSoonest_2 (fun H locs hP hD hS => ?_)
  have hP : va_P (dC, dI) vwCl (W_X7t_X2c_X0b cI cZ cII qt qt_rested qc qc_who qc_pull qb qb_pull qb_strength qb_back qb_moods qb_tides qb_carts (-1 : Int32) t_minutes t_oats t_waitHours t_waitMinutes t_rested c_last c_who c_pull b_law b_places b_broad b_horses b_blinds b_besides b_tideCount b_cartCount b_due b_pairs b_pull b_strength b_back b_moods b_tides b_carts) H := hP
  have hD : va_D A (W_X7t_X2c_X0b cI cZ cII qt qt_rested qc qc_who qc_pull qb qb_pull qb_strength qb_back qb_moods qb_tides qb_carts (-1 : Int32) t_minutes t_oats t_waitHours t_waitMinutes t_rested c_last c_who c_pull b_law b_places b_broad b_horses b_blinds b_besides b_tideCount b_cartCount b_due b_pairs b_pull b_strength b_back b_moods b_tides b_carts) := hD
  refine lv_iconst (v := (1 : Int32)) hx hb dX7_findSoonest_5 (by decide) ?_
  refine lv_istore (lv' := [(4, .int (1 : Int32)), (0, .ref qt), (1, .ref qt_rested), (2, .int n2), (3, .int n3)]) hx hb dX7_findSoonest_6 hl (by decide) rfl (fun ls hl => ?_)
  obtain ⟨K133_1, hK133_1, hf⟩ := jn3_s hf
  have WK133_1 : ∀ (t_crew_1 : Int32) (t_minutes_1 : Int32) (t_oats_1 : Int32) (H : Heap) (locs : List Loc) (ls : Array Slot), va_P (dC, dI) vwCl (W_X7t_X2c_X0b cI cZ cII qt qt_rested qc qc_who qc_pull qb qb_pull qb_strength qb_back qb_moods qb_tides qb_carts t_crew_1 t_minutes_1 t_oats_1 t_waitHours t_waitMinutes t_rested c_last c_who c_pull b_law b_places b_broad b_horses b_blinds b_besides b_tideCount b_cartCount b_due b_pairs b_pull b_strength b_back b_moods b_tides b_carts) H → va_D A (W_X7t_X2c_X0b cI cZ cII qt qt_rested qc qc_who qc_pull qb qb_pull qb_strength qb_back qb_moods qb_tides qb_carts t_crew_1 t_minutes_1 t_oats_1 t_waitHours t_waitMinutes t_rested c_last c_who c_pull b_law b_places b_broad b_horses b_blinds b_besides b_tideCount b_cartCount b_due b_pairs b_pull b_strength b_back b_moods b_tides b_carts) → va_S A s.heap H locs → lv_has ls 8 [(0, .ref qt)] → K133_1 t_crew_1 t_minutes_1 t_oats_1 = some (rr, t_crew', t_minutes', t_oats') → W p l e rm_X7_findSoonestBtrested s m args below meth c H locs 0 0 Q (F0 m 133 ls []) := by
    intro t_crew_1 t_minutes_1 t_oats_1 H locs ls hP hD hS hl hf
    have hf := hK133_1 _ _ _ hf
    refine lv_aload_n hx hb dX7_findSoonest_133 rfl (lv_at hl 0 rfl) ?_
    refine va_get (D := (dC, dI)) (ci := 7) (v := .int t_crew_1) (C := RX7) (T := TX7) (N := 8) hx hb hw inlX7 hown hK hP 0 rfl rfl 0 (by decide) (hw _ mw_34_18) (fun _ h9 => h9) rfl dX7_findSoonest_134 ?_
    refine lv_iconst (v := (-1 : Int32)) hx hb dX7_findSoonest_137 (by decide) ?_
    refine lv_icmp_eq (tgt := 145) hx hb dX7_findSoonest_138 (by decide) (fun h9 => ?_) (fun h9 => ?_)
    · have hf := pg_t h9 hf
      refine lv_iconst (v := (0 : Int32)) hx hb dX7_findSoonest_145 (by decide) ?_
      exact RET _ _ _ _ _ _ _ _ dX7_findSoonest_146 (by decide) hP hD hS hf
    · have hf := pg_f h9 hf
      refine lv_iconst (v := (1 : Int32)) hx hb dX7_findSoonest_141 (by decide) ?_
      refine lv_goto (tgt := 146) hx hb dX7_findSoonest_142 (by decide) ?_
      exact RET _ _ _ _ _ _ _ _ dX7_findSoonest_146 (by decide) hP hD hS hf
  obtain ⟨B2, hB2, hf⟩ := lq4_n hf
  have WL2 : ∀ (n9 : Nat) (y4_2 : Int32) (t_crew_2 : Int32) (t_minutes_2 : Int32) (t_oats_2 : Int32) (H : Heap) (locs : List Loc) (ls : Array Slot), va_P (dC, dI) vwCl (W_X7t_X2c_X0b cI cZ cII qt qt_rested qc qc_who qc_pull qb qb_pull qb_strength qb_back qb_moods qb_tides qb_carts t_crew_2 t_minutes_2 t_oats_2 t_waitHours t_waitMinutes t_rested c_last c_who c_pull b_law b_places b_broad b_horses b_blinds b_besides b_tideCount b_cartCount b_due b_pairs b_pull b_strength b_back b_moods b_tides b_carts) H → va_D A (W_X7t_X2c_X0b cI cZ cII qt qt_rested qc qc_who qc_pull qb qb_pull qb_strength qb_back qb_moods qb_tides qb_carts t_crew_2 t_minutes_2 t_oats_2 t_waitHours t_waitMinutes t_rested c_last c_who c_pull b_law b_places b_broad b_horses b_blinds b_besides b_tideCount b_cartCount b_due b_pairs b_pull b_strength b_back b_moods b_tides b_carts) → va_S A s.heap H locs → lv_has ls 8 [(0, .ref qt), (1, .ref qt_rested), (2, .int n2), (3, .int n3), (4, .int y4_2)] → lq4 B2 n9 y4_2 t_crew_2 t_minutes_2 t_oats_2 = some (rr, t_crew', t_minutes', t_oats') → W p l e rm_X7_findSoonestBtrested s m args below meth c H locs 0 0 Q (F0 m 8 ls []) := by
    intro n9
    induction n9 with
    | zero => intro y4_2 t_crew_2 t_minutes_2 t_oats_2 H locs ls hP hD hS hl hf; cases hf
    | succ n9 ih =>
      intro y4_2 t_crew_2 t_minutes_2 t_oats_2 H locs ls hP hD hS hl hf
      obtain ⟨rec2, hrec2, hf⟩ := lq4_s hf
      have hf := hB2 rec2 _ _ _ _ hf
      refine lv_iload hx hb dX7_findSoonest_8 (lv_at hl 4 rfl) ?_
      refine lv_aload_n hx hb dX7_findSoonest_10 rfl (lv_at hl 0 rfl) ?_
      refine va_get (D := (dC, dI)) (ci := 7) (v := .ref qc) (C := RX7) (T := TX7) (N := 8) hx hb hw inlX7 hown hK hP 0 rfl rfl 6 (by decide) (hw _ mw_4_15) (fun _ h9 => h9) rfl dX7_findSoonest_11 ?_
      refine va_get (D := (dC, dI)) (ci := 2) (v := .int c_last) (C := RX2) (T := TX2) (N := 4) hx hb hw inlX2 hown hK hP 2 rfl rfl 0 (by decide) (hw _ mw_34_19) (fun _ h9 => h9) rfl dX7_findSoonest_14 ?_
      refine lv_icmp_gt (tgt := 133) hx hb dX7_findSoonest_17 (by decide) (fun h9 => ?_) (fun h9 => ?_)
      · have hf := pg_t h9 hf
        exact WK133_1 _ _ _ _ _ _ hP hD hS (lv_sub hl [0] rfl) hf
      · have hf := pg_f h9 hf
        refine lv_aload_n hx hb dX7_findSoonest_20 rfl (lv_at hl 0 rfl) ?_
        refine va_get (D := (dC, dI)) (ci := 7) (v := .int t_crew_2) (C := RX7) (T := TX7) (N := 8) hx hb hw inlX7 hown hK hP 0 rfl rfl 0 (by decide) (hw _ mw_34_18) (fun _ h9 => h9) rfl dX7_findSoonest_21 ?_
        refine lv_iconst (v := (-1 : Int32)) hx hb dX7_findSoonest_24 (by decide) ?_
        obtain ⟨J37_3, hJ37_3, hf⟩ := jn1_s hf
        have WJ37_3 : ∀ (z0_3 : Int32) (H : Heap) (locs : List Loc) (ls : Array Slot), va_P (dC, dI) vwCl (W_X7t_X2c_X0b cI cZ cII qt qt_rested qc qc_who qc_pull qb qb_pull qb_strength qb_back qb_moods qb_tides qb_carts t_crew_2 t_minutes_2 t_oats_2 t_waitHours t_waitMinutes t_rested c_last c_who c_pull b_law b_places b_broad b_horses b_blinds b_besides b_tideCount b_cartCount b_due b_pairs b_pull b_strength b_back b_moods b_tides b_carts) H → va_D A (W_X7t_X2c_X0b cI cZ cII qt qt_rested qc qc_who qc_pull qb qb_pull qb_strength qb_back qb_moods qb_tides qb_carts t_crew_2 t_minutes_2 t_oats_2 t_waitHours t_waitMinutes t_rested c_last c_who c_pull b_law b_places b_broad b_horses b_blinds b_besides b_tideCount b_cartCount b_due b_pairs b_pull b_strength b_back b_moods b_tides b_carts) → va_S A s.heap H locs → lv_has ls 8 [(0, .ref qt), (1, .ref qt_rested), (2, .int n2), (3, .int n3), (4, .int y4_2)] → J37_3 z0_3 = some (rr, t_crew', t_minutes', t_oats') → W p l e rm_X7_findSoonestBtrested s m args below meth c H locs 0 0 Q (F0 m 37 ls [.int z0_3]) := by
          intro z0_3 H locs ls hP hD hS hl hf
          have hf := hJ37_3 _ hf
          refine lv_istore (lv' := [(5, .int z0_3), (0, .ref qt), (1, .ref qt_rested), (2, .int n2), (3, .int n3), (4, .int y4_2)]) hx hb dX7_findSoonest_37 hl (by decide) rfl (fun ls hl => ?_)
          refine lv_aload_n hx hb dX7_findSoonest_39 rfl (lv_at hl 1 rfl) ?_
          refine va_get (D := (dC, dI)) (ci := 7) (v := .ref qc) (C := RX7) (T := TX7) (N := 8) hx hb hw inlX7 hown hK hP 0 rfl rfl 6 (by decide) (hw _ mw_4_15) (fun _ h9 => h9) rfl dX7_findSoonest_40 ?_
          refine lv_iload hx hb dX7_findSoonest_43 (lv_at hl 5 rfl) ?_
          refine lv_iload_n hx hb dX7_findSoonest_45 rfl (lv_at hl 4 rfl) ?_
          obtain ⟨r_4, hc, hf⟩ := bn1_s hf
          refine pg_cVi (As := [.int y4_2, .int n3]) (rest := []) (wf := (W_X7t_X2c_X0b cI cZ cII qt qt_rested qc qc_who qc_pull qb qb_pull qb_strength qb_back qb_moods qb_tides qb_carts t_crew_2 t_minutes_2 t_oats_2 t_waitHours t_waitMinutes t_rested c_last c_who c_pull b_law b_places b_broad b_horses b_blinds b_besides b_tideCount b_cartCount b_due b_pairs b_pull b_strength b_back b_moods b_tides b_carts)) ⟨hx, hb, hml, hown, hw⟩ (c_X2_takes l dC dI cI cZ cII qc qc_who qc_pull qb qb_pull qb_strength qb_back qb_moods qb_tides qb_carts H.size c_last c_who c_pull b_law b_places b_broad b_horses b_blinds b_besides b_tideCount b_cartCount b_due b_pairs b_pull b_strength b_back b_moods b_tides b_carts y4_2 n3 r_4 hc) (cwV 2 hts (wM_V mw_34_22 mw_30_4 mw_30_5 mw_2_0 mw_30_6) rfl rfl rfl dk_X2_takes ⟨Nat.le_of_ble_eq_true rfl, Nat.le_of_ble_eq_true rfl⟩) hK hP hD hS hA 2 0 rfl rfl rfl [2, 3, 4, 5, 6, 7, 8, 9, 10, 11] [0, 1] [0, 1, 2, 3, 4, 5, 6, 7, 8, 9, 10, 11] rfl rfl rfl (by decide) rfl hl.1 rfl (Nat.le_of_ble_eq_true rfl) dX7_findSoonest_46 ⟨Nat.zero_le _, Nat.zero_le _⟩ (fun H locs hP hD hS => ?_)
          obtain ⟨J69_5, hJ69_5, hf⟩ := jn1_s hf
          have WJ69_5 : ∀ (z0_5 : Int32) (H : Heap) (locs : List Loc) (ls : Array Slot), va_P (dC, dI) vwCl (W_X7t_X2c_X0b cI cZ cII qt qt_rested qc qc_who qc_pull qb qb_pull qb_strength qb_back qb_moods qb_tides qb_carts t_crew_2 t_minutes_2 t_oats_2 t_waitHours t_waitMinutes t_rested c_last c_who c_pull b_law b_places b_broad b_horses b_blinds b_besides b_tideCount b_cartCount b_due b_pairs b_pull b_strength b_back b_moods b_tides b_carts) H → va_D A (W_X7t_X2c_X0b cI cZ cII qt qt_rested qc qc_who qc_pull qb qb_pull qb_strength qb_back qb_moods qb_tides qb_carts t_crew_2 t_minutes_2 t_oats_2 t_waitHours t_waitMinutes t_rested c_last c_who c_pull b_law b_places b_broad b_horses b_blinds b_besides b_tideCount b_cartCount b_due b_pairs b_pull b_strength b_back b_moods b_tides b_carts) → va_S A s.heap H locs → lv_has ls 8 [(0, .ref qt), (1, .ref qt_rested), (2, .int n2), (3, .int n3), (4, .int y4_2)] → J69_5 z0_5 = some (rr, t_crew', t_minutes', t_oats') → W p l e rm_X7_findSoonestBtrested s m args below meth c H locs 0 0 Q (F0 m 69 ls [.int z0_5]) := by
            intro z0_5 H locs ls hP hD hS hl hf
            have hf := hJ69_5 _ hf
            refine lv_istore (lv' := [(6, .int z0_5), (0, .ref qt), (1, .ref qt_rested), (2, .int n2), (3, .int n3), (4, .int y4_2)]) hx hb dX7_findSoonest_69 hl (by decide) rfl (fun ls hl => ?_)
            refine lv_iload hx hb dX7_findSoonest_71 (lv_at hl 0 rfl) ?_
            refine lv_iconst (v := (-1 : Int32)) hx hb dX7_findSoonest_73 (by decide) ?_
            obtain ⟨J127_6, hJ127_6, hf⟩ := jn3_s hf
            have WJ127_6 : ∀ (t_crew_6 : Int32) (t_minutes_6 : Int32) (t_oats_6 : Int32) (H : Heap) (locs : List Loc) (ls : Array Slot), va_P (dC, dI) vwCl (W_X7t_X2c_X0b cI cZ cII qt qt_rested qc qc_who qc_pull qb qb_pull qb_strength qb_back qb_moods qb_tides qb_carts t_crew_6 t_minutes_6 t_oats_6 t_waitHours t_waitMinutes t_rested c_last c_who c_pull b_law b_places b_broad b_horses b_blinds b_besides b_tideCount b_cartCount b_due b_pairs b_pull b_strength b_back b_moods b_tides b_carts) H → va_D A (W_X7t_X2c_X0b cI cZ cII qt qt_rested qc qc_who qc_pull qb qb_pull qb_strength qb_back qb_moods qb_tides qb_carts t_crew_6 t_minutes_6 t_oats_6 t_waitHours t_waitMinutes t_rested c_last c_who c_pull b_law b_places b_broad b_horses b_blinds b_besides b_tideCount b_cartCount b_due b_pairs b_pull b_strength b_back b_moods b_tides b_carts) → va_S A s.heap H locs → lv_has ls 8 [(0, .ref qt), (1, .ref qt_rested), (2, .int n2), (3, .int n3), (4, .int y4_2)] → J127_6 t_crew_6 t_minutes_6 t_oats_6 = some (rr, t_crew', t_minutes', t_oats') → W p l e rm_X7_findSoonestBtrested s m args below meth c H locs 0 0 Q (F0 m 127 ls []) := by
              intro t_crew_6 t_minutes_6 t_oats_6 H locs ls hP hD hS hl hf
              have hf := hJ127_6 _ _ _ hf
              refine lv_iinc (v := (y4_2 + (1 : Int32))) (lv' := [(4, .int (y4_2 + (1 : Int32))), (0, .ref qt), (1, .ref qt_rested), (2, .int n2), (3, .int n3)]) hx hb dX7_findSoonest_127 hl (k := 4) rfl rfl (by decide) rfl (fun ls hl => ?_)
              refine lv_goto (tgt := 8) hx hb dX7_findSoonest_130 (by decide) ?_
              exact ih _ _ _ _ _ _ _ hP hD hS (lv_sub hl [1, 2, 3, 4, 0] rfl) (hrec2 _ _ _ _ hf)
            refine lv_icmp_eq (tgt := 127) hx hb dX7_findSoonest_74 (by decide) (fun h9 => ?_) (fun h9 => ?_)
            · have hf := pg_t h9 hf
              exact WJ127_6 _ _ _ _ _ _ hP hD hS (lv_sub hl [1, 2, 3, 4, 5] rfl) hf
            · have hf := pg_f h9 hf
              refine lv_aload_n hx hb dX7_findSoonest_77 rfl (lv_at hl 1 rfl) ?_
              refine va_get (D := (dC, dI)) (ci := 7) (v := .ref qc) (C := RX7) (T := TX7) (N := 8) hx hb hw inlX7 hown hK hP 0 rfl rfl 6 (by decide) (hw _ mw_4_15) (fun _ h9 => h9) rfl dX7_findSoonest_78 ?_
              refine lv_iload hx hb dX7_findSoonest_81 (lv_at hl 5 rfl) ?_
              refine lv_aload_n hx hb dX7_findSoonest_83 rfl (lv_at hl 2 rfl) ?_
              refine lv_iload hx hb dX7_findSoonest_84 (lv_at hl 0 rfl) ?_
              obtain ⟨r_7, hc, hf⟩ := bn1_s hf
              refine pg_cVi (As := [.int y4_2, .ref qt_rested, .int z0_5]) (rest := []) (wf := (W_X7t_X2c_X0b cI cZ cII qt qt_rested qc qc_who qc_pull qb qb_pull qb_strength qb_back qb_moods qb_tides qb_carts t_crew_2 t_minutes_2 t_oats_2 t_waitHours t_waitMinutes t_rested c_last c_who c_pull b_law b_places b_broad b_horses b_blinds b_besides b_tideCount b_cartCount b_due b_pairs b_pull b_strength b_back b_moods b_tides b_carts)) ⟨hx, hb, hml, hown, hw⟩ (c_X2_oats l dC dI cI cZ cII qc qc_who qc_pull qb qb_pull qb_strength qb_back qb_moods qb_tides qb_carts qt_rested H.size c_last c_who c_pull b_law b_places b_broad b_horses b_blinds b_besides b_tideCount b_cartCount b_due b_pairs b_pull b_strength b_back b_moods b_tides b_carts t_rested y4_2 z0_5 r_7 hc) (cwV 3 hts (wM_V mw_35_0 mw_29_17 mw_29_18 mw_2_0 mw_29_19) rfl rfl rfl dk_X2_oats ⟨Nat.le_of_ble_eq_true rfl, Nat.le_of_ble_eq_true rfl⟩) hK hP hD hS hA 2 0 rfl rfl rfl [2, 3, 4, 5, 6, 7, 8, 9, 10, 11, 1] [0] [0, 11, 1, 2, 3, 4, 5, 6, 7, 8, 9, 10] rfl rfl rfl (by decide) rfl hl.1 rfl (Nat.le_of_ble_eq_true rfl) dX7_findSoonest_86 ⟨Nat.zero_le _, Nat.zero_le _⟩ (fun H locs hP hD hS => ?_)
              refine lv_istore (lv' := [(7, .int r_7), (6, .int z0_5), (0, .ref qt), (1, .ref qt_rested), (2, .int n2), (3, .int n3), (4, .int y4_2)]) hx hb dX7_findSoonest_89 hl (by decide) rfl (fun ls hl => ?_)
              refine lv_aload_n hx hb dX7_findSoonest_91 rfl (lv_at hl 2 rfl) ?_
              refine va_get (D := (dC, dI)) (ci := 7) (v := .int t_crew_2) (C := RX7) (T := TX7) (N := 8) hx hb hw inlX7 hown hK hP 0 rfl rfl 0 (by decide) (hw _ mw_34_18) (fun _ h9 => h9) rfl dX7_findSoonest_92 ?_
              refine lv_iconst (v := (-1 : Int32)) hx hb dX7_findSoonest_95 (by decide) ?_
              obtain ⟨J117_8, hJ117_8, hf⟩ := jn1_s hf
              have WJ117_8 : ∀ (u_8 : Unit) (H : Heap) (locs : List Loc) (ls : Array Slot), va_P (dC, dI) vwCl (W_X7t_X2c_X0b cI cZ cII qt qt_rested qc qc_who qc_pull qb qb_pull qb_strength qb_back qb_moods qb_tides qb_carts t_crew_2 t_minutes_2 t_oats_2 t_waitHours t_waitMinutes t_rested c_last c_who c_pull b_law b_places b_broad b_horses b_blinds b_besides b_tideCount b_cartCount b_due b_pairs b_pull b_strength b_back b_moods b_tides b_carts) H → va_D A (W_X7t_X2c_X0b cI cZ cII qt qt_rested qc qc_who qc_pull qb qb_pull qb_strength qb_back qb_moods qb_tides qb_carts t_crew_2 t_minutes_2 t_oats_2 t_waitHours t_waitMinutes t_rested c_last c_who c_pull b_law b_places b_broad b_horses b_blinds b_besides b_tideCount b_cartCount b_due b_pairs b_pull b_strength b_back b_moods b_tides b_carts) → va_S A s.heap H locs → lv_has ls 8 [(0, .ref qt), (1, .ref qt_rested), (2, .int n2), (3, .int n3), (4, .int y4_2), (6, .int z0_5), (7, .int r_7)] → J117_8 u_8 = some (rr, t_crew', t_minutes', t_oats') → W p l e rm_X7_findSoonestBtrested s m args below meth c H locs 0 0 Q (F0 m 117 ls []) := by
                intro u_8 H locs ls hP hD hS hl hf
                have hf := hJ117_8 _ hf
                refine lv_aload_n hx hb dX7_findSoonest_117 rfl (lv_at hl 0 rfl) ?_
                refine lv_iload hx hb dX7_findSoonest_118 (lv_at hl 4 rfl) ?_
                refine lv_iload hx hb dX7_findSoonest_120 (lv_at hl 5 rfl) ?_
                refine lv_iload hx hb dX7_findSoonest_122 (lv_at hl 6 rfl) ?_
                obtain ⟨t_crew_9, t_minutes_9, t_oats_9, hc, hf⟩ := bn3_s hf
                refine pg_cVv (As := [.int y4_2, .int z0_5, .int r_7]) (rest := []) (wf := (W_X7t_X2c_X0b cI cZ cII qt qt_rested qc qc_who qc_pull qb qb_pull qb_strength qb_back qb_moods qb_tides qb_carts t_crew_9 t_minutes_9 t_oats_9 t_waitHours t_waitMinutes t_rested c_last c_who c_pull b_law b_places b_broad b_horses b_blinds b_besides b_tideCount b_cartCount b_due b_pairs b_pull b_strength b_back b_moods b_tides b_carts)) ⟨hx, hb, hml, hown, hw⟩ (c_X7_take l dC dI cI cZ cII qt qt_rested qc qc_who qc_pull qb qb_pull qb_strength qb_back qb_moods qb_tides qb_carts H.size t_crew_2 t_minutes_2 t_oats_2 t_waitHours t_waitMinutes t_rested c_last c_who c_pull b_law b_places b_broad b_horses b_blinds b_besides b_tideCount b_cartCount b_due b_pairs b_pull b_strength b_back b_moods b_tides b_carts y4_2 z0_5 r_7 t_crew_9 t_minutes_9 t_oats_9 hc) (cwV 3 hts (wM_V mw_35_1 mw_35_2 mw_35_3 mw_2_10 mw_35_4) rfl rfl rfl dk_X7_take ⟨Nat.le_of_ble_eq_true rfl, Nat.le_of_ble_eq_true rfl⟩) hK hP hD hS hA 7 0 rfl rfl rfl [0, 1, 2, 3, 4, 5, 6, 7, 8, 9, 10, 11] [] [0, 1, 2, 3, 4, 5, 6, 7, 8, 9, 10, 11] rfl rfl rfl (by decide) rfl hl.1 rfl (Nat.le_of_ble_eq_true rfl) dX7_findSoonest_124 ⟨Nat.zero_le _, Nat.zero_le _⟩ (fun H locs hP hD hS => ?_)
                exact WJ127_6 _ _ _ _ _ _ hP hD hS (lv_sub hl [0, 1, 2, 3, 4] rfl) hf
              refine lv_icmp_eq (tgt := 117) hx hb dX7_findSoonest_96 (by decide) (fun h9 => ?_) (fun h9 => ?_)
              · have hf := pg_t h9 hf
                exact WJ117_8 _ _ _ _ hP hD hS (lv_sub hl [2, 3, 4, 5, 6, 1, 0] rfl) hf
              · have hf := pg_f h9 hf
                refine lv_iload hx hb dX7_findSoonest_99 (lv_at hl 1 rfl) ?_
                refine lv_aload_n hx hb dX7_findSoonest_101 rfl (lv_at hl 2 rfl) ?_
                refine va_get (D := (dC, dI)) (ci := 7) (v := .int t_minutes_2) (C := RX7) (T := TX7) (N := 8) hx hb hw inlX7 hown hK hP 0 rfl rfl 1 (by decide) (hw _ mw_34_20) (fun _ h9 => h9) rfl dX7_findSoonest_102 ?_
                refine lv_icmp_lt (tgt := 117) hx hb dX7_findSoonest_105 (by decide) (fun h9 => ?_) (fun h9 => ?_)
                · have hf := pg_t h9 hf
                  exact WJ117_8 _ _ _ _ hP hD hS (lv_sub hl [2, 3, 4, 5, 6, 1, 0] rfl) hf
                · have hf := pg_f h9 hf
                  refine lv_iload hx hb dX7_findSoonest_108 (lv_at hl 0 rfl) ?_
                  refine lv_aload_n hx hb dX7_findSoonest_110 rfl (lv_at hl 2 rfl) ?_
                  refine va_get (D := (dC, dI)) (ci := 7) (v := .int t_oats_2) (C := RX7) (T := TX7) (N := 8) hx hb hw inlX7 hown hK hP 0 rfl rfl 2 (by decide) (hw _ mw_34_21) (fun _ h9 => h9) rfl dX7_findSoonest_111 ?_
                  refine lv_icmp_ge (tgt := 127) hx hb dX7_findSoonest_114 (by decide) (fun h9 => ?_) (fun h9 => ?_)
                  · have hf := pg_t h9 hf
                    exact WJ127_6 _ _ _ _ _ _ hP hD hS (lv_sub hl [2, 3, 4, 5, 6] rfl) hf
                  · have hf := pg_f h9 hf
                    exact WJ117_8 _ _ _ _ hP hD hS (lv_sub hl [2, 3, 4, 5, 6, 1, 0] rfl) hf
          refine lv_if_eq (tgt := 56) hx hb dX7_findSoonest_49 (by decide) (fun h9 => ?_) (fun h9 => ?_)
          · have hf := pg_t h9 hf
            refine lv_aload_n hx hb dX7_findSoonest_56 rfl (lv_at hl 1 rfl) ?_
            refine va_get (D := (dC, dI)) (ci := 7) (v := .ref qc) (C := RX7) (T := TX7) (N := 8) hx hb hw inlX7 hown hK hP 0 rfl rfl 6 (by decide) (hw _ mw_4_15) (fun _ h9 => h9) rfl dX7_findSoonest_57 ?_
            refine lv_iload hx hb dX7_findSoonest_60 (lv_at hl 5 rfl) ?_
            refine lv_aload_n hx hb dX7_findSoonest_62 rfl (lv_at hl 2 rfl) ?_
            refine lv_iload_n hx hb dX7_findSoonest_63 rfl (lv_at hl 3 rfl) ?_
            refine lv_iload hx hb dX7_findSoonest_64 (lv_at hl 0 rfl) ?_
            obtain ⟨r_10, hc, hf⟩ := bn1_s hf
            refine pg_cVi (As := [.int y4_2, .ref qt_rested, .int n2, .int z0_3]) (rest := []) (wf := (W_X7t_X2c_X0b cI cZ cII qt qt_rested qc qc_who qc_pull qb qb_pull qb_strength qb_back qb_moods qb_tides qb_carts t_crew_2 t_minutes_2 t_oats_2 t_waitHours t_waitMinutes t_rested c_last c_who c_pull b_law b_places b_broad b_horses b_blinds b_besides b_tideCount b_cartCount b_due b_pairs b_pull b_strength b_back b_moods b_tides b_carts)) ⟨hx, hb, hml, hown, hw⟩ (c_X2_minutes l dC dI cI cZ cII qc qc_who qc_pull qb qb_pull qb_strength qb_back qb_moods qb_tides qb_carts qt_rested H.size c_last c_who c_pull b_law b_places b_broad b_horses b_blinds b_besides b_tideCount b_cartCount b_due b_pairs b_pull b_strength b_back b_moods b_tides b_carts t_rested y4_2 n2 z0_3 r_10 hc) (cwV 4 hts (wM_V mw_34_23 mw_29_2 mw_29_3 mw_2_0 mw_29_4) rfl rfl rfl dk_X2_minutes ⟨Nat.le_of_ble_eq_true rfl, Nat.le_of_ble_eq_true rfl⟩) hK hP hD hS hA 2 0 rfl rfl rfl [2, 3, 4, 5, 6, 7, 8, 9, 10, 11, 1] [0] [0, 11, 1, 2, 3, 4, 5, 6, 7, 8, 9, 10] rfl rfl rfl (by decide) rfl hl.1 rfl (Nat.le_of_ble_eq_true rfl) dX7_findSoonest_66 ⟨Nat.zero_le _, Nat.zero_le _⟩ (fun H locs hP hD hS => ?_)
            exact WJ69_5 _ _ _ _ hP hD hS (lv_sub hl [1, 2, 3, 4, 5] rfl) hf
          · have hf := pg_f h9 hf
            refine lv_iconst (v := (-1 : Int32)) hx hb dX7_findSoonest_52 (by decide) ?_
            refine lv_goto (tgt := 69) hx hb dX7_findSoonest_53 (by decide) ?_
            exact WJ69_5 _ _ _ _ hP hD hS (lv_sub hl [1, 2, 3, 4, 5] rfl) hf
        refine lv_icmp_ne (tgt := 33) hx hb dX7_findSoonest_25 (by decide) (fun h9 => ?_) (fun h9 => ?_)
        · have hf := pg_f h9 hf
          refine lv_aload_n hx hb dX7_findSoonest_33 rfl (lv_at hl 0 rfl) ?_
          refine va_get (D := (dC, dI)) (ci := 7) (v := .int t_minutes_2) (C := RX7) (T := TX7) (N := 8) hx hb hw inlX7 hown hK hP 0 rfl rfl 1 (by decide) (hw _ mw_34_20) (fun _ h9 => h9) rfl dX7_findSoonest_34 ?_
          exact WJ37_3 _ _ _ _ hP hD hS hl hf
        · have hf := pg_t h9 hf
          refine lv_bipush (v := (120 : Int32)) hx hb dX7_findSoonest_28 (by decide) ?_
          refine lv_goto (tgt := 37) hx hb dX7_findSoonest_30 (by decide) ?_
          exact WJ37_3 _ _ _ _ hP hD hS hl hf
  exact WL2 fu _ _ _ _ _ _ _ hP hD hS (lv_sub hl [1, 2, 3, 4, 0] rfl) hf
def f_X7_findWait (n2 : Int32) (n3 : Int32) (t_crew : Int32) (t_minutes : Int32) (t_oats : Int32) (t_waitHours : Int32) (t_waitMinutes : Int32) (t_rested : Nat → Int32) (c_last : Int32) (c_who : Nat → Int32) (c_pull : Nat → Int32) (b_law : Int32) (b_broad : Int32) (b_horses : Int32) (b_tideCount : Int32) (b_strength : Nat → Int32) (b_back : Nat → Int32) (b_tides : Nat → Int32) (u : Nat → Int32) : Option (Int32 × Int32 × Int32 × Int32 × Int32 × Int32 × (Nat → Int32)) :=
  jn6 (fun (t_crew_1 : Int32) (t_minutes_1 : Int32) (t_oats_1 : Int32) (t_waitHours_1 : Int32) (t_waitMinutes_1 : Int32) (t_rested_1 : Nat → Int32) =>
    if t_waitHours_1 = (-1 : Int32) then
      some ((0 : Int32), t_crew_1, t_minutes_1, t_oats_1, t_waitHours_1, t_waitMinutes_1, t_rested_1)
    else
      some ((1 : Int32), t_crew_1, t_minutes_1, t_oats_1, t_waitHours_1, t_waitMinutes_1, t_rested_1)
  ) (fun K97_1 =>
  lq7 (fun rec2 (y4_2 : Int32) (t_crew_2 : Int32) (t_minutes_2 : Int32) (t_oats_2 : Int32) (t_waitHours_2 : Int32) (t_waitMinutes_2 : Int32) (t_rested_2 : Nat → Int32) =>
    if (11 : Int32) < y4_2 then
      K97_1 t_crew_2 t_minutes_2 t_oats_2 t_waitHours_2 t_waitMinutes_2 t_rested_2
    else
      bn1 (f_X0_refresh y4_2 b_horses b_strength b_back u t_rested_2) (fun (t_rested_3 : Nat → Int32) =>
        bn1 (f_X0_tideOf (n2 + y4_2) b_tideCount b_tides) (fun (r_4 : Int32) =>
          bn4 (f_X7_findSoonestBtrested (r_4 - n3) (-1 : Int32) t_crew_2 t_minutes_2 t_oats_2 t_rested_3 c_last c_who c_pull b_law b_broad) (fun (r_5 : Int32) (t_crew_5 : Int32) (t_minutes_5 : Int32) (t_oats_5 : Int32) =>
            jn2 (fun (t_waitHours_6 : Int32) (t_waitMinutes_6 : Int32) =>
              rec2 (y4_2 + (1 : Int32)) t_crew_5 t_minutes_5 t_oats_5 t_waitHours_6 t_waitMinutes_6 t_rested_3
            ) (fun J91_6 =>
            if r_5 = 0 then
              J91_6 t_waitHours_2 t_waitMinutes_2
            else
              jn1 (fun (u_7 : Unit) =>
                J91_6 y4_2 t_minutes_5
              ) (fun J77_7 =>
              if t_waitHours_2 = (-1 : Int32) then
                J77_7 ()
              else
                if t_waitMinutes_2 ≤ t_minutes_5 then
                  J91_6 t_waitHours_2 t_waitMinutes_2
                else
                  J77_7 ()
              )
            )
          )
        )
      )
  ) fu (0 : Int32) t_crew t_minutes t_oats (-1 : Int32) t_waitMinutes t_rested
  )
abbrev rm_X7_findWait : Room := { frames := 4, cells := 0, slots := 0, locals := 127 }
theorem dk_X7_findWait : yX7_findWait.cls = RX7 ∧ yX7_findWait.cls ≠ "java/lang/invoke/MethodHandle" ∧ yX7_findWait.cls ≠ "java/lang/invoke/VarHandle" ∧ (parseMethodDescriptor yX7_findWait.desc).map (fun d => d.parameters.length) = some 3 := by decide +kernel
set_option maxHeartbeats 4000000 in
set_option maxRecDepth 100000 in
theorem c_X7_findWait (l : Launch) (dC : Nat → ClassId) (dI : Nat → Nat → Nat) (cI cZ cII : ClassId) (qt qt_rested qc qc_who qc_pull qb qb_pull qb_strength qb_back qb_moods qb_tides qb_carts qu : Nat) (sz : Nat) (t_crew : Int32) (t_minutes : Int32) (t_oats : Int32) (t_waitHours : Int32) (t_waitMinutes : Int32) (t_rested : Nat → Int32) (c_last : Int32) (c_who : Nat → Int32) (c_pull : Nat → Int32) (b_law : Int32) (b_places : Int32) (b_broad : Int32) (b_horses : Int32) (b_blinds : Int32) (b_besides : Int32) (b_tideCount : Int32) (b_cartCount : Int32) (b_due : Int32) (b_pairs : Int64) (b_pull : Nat → Int32) (b_strength : Nat → Int32) (b_back : Nat → Int32) (b_moods : Nat → Int32) (b_tides : Nat → Int32) (b_carts : Nat → Int32) (u : Nat → Int32) (n2 : Int32) (n3 : Int32) (rr : Int32) (t_crew' : Int32) (t_minutes' : Int32) (t_oats' : Int32) (t_waitHours' : Int32) (t_waitMinutes' : Int32) (t_rested' : Nat → Int32) (hf : f_X7_findWait n2 n3 t_crew t_minutes t_oats t_waitHours t_waitMinutes t_rested c_last c_who c_pull b_law b_broad b_horses b_tideCount b_strength b_back b_tides u = some (rr, t_crew', t_minutes', t_oats', t_waitHours', t_waitMinutes', t_rested')) : Met l yX7_findWait (wM yX7_findWait cX7_findWait 6 (some .boolean)) rm_X7_findWait (PreW (dC, dI) (tyA cI cZ cII) (W_X7t_X2c_X0b_au6 cI cZ cII qt qt_rested qc qc_who qc_pull qb qb_pull qb_strength qb_back qb_moods qb_tides qb_carts qu t_crew t_minutes t_oats t_waitHours t_waitMinutes t_rested c_last c_who c_pull b_law b_places b_broad b_horses b_blinds b_besides b_tideCount b_cartCount b_due b_pairs b_pull b_strength b_back b_moods b_tides b_carts u) sz [.ref qt, .ref qu, .int n2, .int n3]) (PostI (dC, dI) (tyA cI cZ cII) rr (W_X7t_X2c_X0b_au6 cI cZ cII qt qt_rested qc qc_who qc_pull qb qb_pull qb_strength qb_back qb_moods qb_tides qb_carts qu t_crew t_minutes t_oats t_waitHours t_waitMinutes t_rested c_last c_who c_pull b_law b_places b_broad b_horses b_blinds b_besides b_tideCount b_cartCount b_due b_pairs b_pull b_strength b_back b_moods b_tides b_carts u) (W_X7t_X2c_X0b_au6 cI cZ cII qt qt_rested qc qc_who qc_pull qb qb_pull qb_strength qb_back qb_moods qb_tides qb_carts qu t_crew' t_minutes' t_oats' t_waitHours' t_waitMinutes' t_rested' c_last c_who c_pull b_law b_places b_broad b_horses b_blinds b_besides b_tideCount b_cartCount b_due b_pairs b_pull b_strength b_back b_moods b_tides b_carts u) sz) 0 0 (va_A (W_X7t_X2c_X0b_au6 cI cZ cII qt qt_rested qc qc_who qc_pull qb qb_pull qb_strength qb_back qb_moods qb_tides qb_carts qu t_crew t_minutes t_oats t_waitHours t_waitMinutes t_rested c_last c_who c_pull b_law b_places b_broad b_horses b_blinds b_besides b_tideCount b_cartCount b_due b_pairs b_pull b_strength b_back b_moods b_tides b_carts u) sz) := by
  refine Met.ofW (cc := cX7_findWait) (maxL := 6) (ret := (some .boolean)) (by decide) rfl ?_
  intro p e s m args below meth c s₁ B hml hv
  obtain ⟨rfl, hsz, hP, hK, hD0⟩ := hv
  have hx := B.exec
  have hb := B.bytes
  have hr := B.returns
  have hts := atoms_spec (ws := wM yX7_findWait cX7_findWait 6 (some .boolean)) B.pre
  have hown : s.vm.findClass RX7 = some m.cls := findClass_of_methodNamed B.named
  have hlocks := B.notSynchronized
  subst hsz
  have hD := hD0.self (sz := s.heap.size)
  obtain ⟨A, hAe⟩ : ∃ A, A = va_A (W_X7t_X2c_X0b_au6 cI cZ cII qt qt_rested qc qc_who qc_pull qb qb_pull qb_strength qb_back qb_moods qb_tides qb_carts qu t_crew t_minutes t_oats t_waitHours t_waitMinutes t_rested c_last c_who c_pull b_law b_places b_broad b_horses b_blinds b_besides b_tideCount b_cartCount b_due b_pairs b_pull b_strength b_back b_moods b_tides b_carts u) s.heap.size := ⟨_, rfl⟩
  rw [← hAe] at hD
  have hA : ∀ q : Nat, s.heap.size ≤ q → A q := fun q h => by rw [hAe]; exact Or.inr h
  have hS : va_S A s.heap s.heap [] := va_S.rf
  have hl := lv_entry ([.ref qt, .ref qu, .int n2, .int n3]) (n := 6) (Nat.le_of_ble_eq_true rfl)
  rw [lg_entry_eq]
  generalize (lg_sl ([.ref qt, .ref qu, .int n2, .int n3]) ++ List.replicate (6 - (lg_sl ([.ref qt, .ref qu, .int n2, .int n3])).length) Slot.unset).toArray = ls at hl ⊢
  have hl : lv_has ls 6 [(0, .ref qt), (1, .ref qu), (2, .int n2), (3, .int n3)] := hl
  generalize ([.ref qt, .ref qu, .int n2, .int n3] : List Value).toArray = args at hts ⊢
  have hw : ∀ w ∈ wsL_law, w.before args s = true := fun w h => hts w (List.mem_cons_of_mem _ h)
  refine pg_start (fun Q hQ => ?_)
  have RET : ∀ (H : Heap) (locs : List Loc) (ls : Array Slot) (pc : Nat) (v : Int32) (x0 : Int32) (x1 : Int32) (x2 : Int32) (x3 : Int32) (x4 : Int32) (x5 : Nat → Int32) , decode cX7_findWait pc = .ok (.ireturn, 1) → (v = 0 ∨ v = 1) → va_P (dC, dI) vwCl (W_X7t_X2c_X0b_au6 cI cZ cII qt qt_rested qc qc_who qc_pull qb qb_pull qb_strength qb_back qb_moods qb_tides qb_carts qu x0 x1 x2 x3 x4 x5 c_last c_who c_pull b_law b_places b_broad b_horses b_blinds b_besides b_tideCount b_cartCount b_due b_pairs b_pull b_strength b_back b_moods b_tides b_carts u) H → va_D A (W_X7t_X2c_X0b_au6 cI cZ cII qt qt_rested qc qc_who qc_pull qb qb_pull qb_strength qb_back qb_moods qb_tides qb_carts qu x0 x1 x2 x3 x4 x5 c_last c_who c_pull b_law b_places b_broad b_horses b_blinds b_besides b_tideCount b_cartCount b_due b_pairs b_pull b_strength b_back b_moods b_tides b_carts u) → va_S A s.heap H locs → (some (v, x0, x1, x2, x3, x4, x5) : Option (Int32 × Int32 × Int32 × Int32 × Int32 × Int32 × (Nat → Int32))) = some (rr, t_crew', t_minutes', t_oats', t_waitHours', t_waitMinutes', t_rested') → W p l e rm_X7_findWait s m args below meth c H locs 0 0 Q (F0 m pc ls [.int v]) := by
    intro H locs ls pc v x0 x1 x2 x3 x4 x5 hd hz hP hD hS he
    subst hAe; subst hQ
    simp only [Option.some.injEq, Prod.mk.injEq] at he
    obtain ⟨rfl, rfl, rfl, rfl, rfl, rfl, rfl⟩ := he
    exact pg_zret hx hb hr hlocks hz hK hP hD hS hd
  unfold f_X7_findWait at hf
  refine lv_aload_n hx hb dX7_findWait_0 rfl (lv_at hl 0 rfl) ?_
  refine lv_iconst (v := (-1 : Int32)) hx hb dX7_findWait_1 (by decide) ?_
  refine va_put (D := (dC, dI)) (ci := 7) (v := .int (-1 : Int32)) (ty := .int) (C := RX7) (T := TX7) (N := 8) hx hb hw inlX7 tyX7 tyX7_ok nmX7 hown hK hP hD hS 0 rfl rfl 3 (by decide) (hw _ mw_39_5) (fun _ h9 => h9) rfl (by decide +kernel) rfl rfl (Nat.le_of_ble_eq_true rfl) dX7_findWait_2 (fun H locs hP hD hS => ?_)
  have hP : va_P (dC, dI) vwCl (W_X7t_X2c_X0b_au6 cI cZ cII qt qt_rested qc qc_who qc_pull qb qb_pull qb_strength qb_back qb_moods qb_tides qb_carts qu t_crew t_minutes t_oats (-1 : Int32) t_waitMinutes t_rested c_last c_who c_pull b_law b_places b_broad b_horses b_blinds b_besides b_tideCount b_cartCount b_due b_pairs b_pull b_strength b_back b_moods b_tides b_carts u) H := hP
  have hD : va_D A (W_X7t_X2c_X0b_au6 cI cZ cII qt qt_rested qc qc_who qc_pull qb qb_pull qb_strength qb_back qb_moods qb_tides qb_carts qu t_crew t_minutes t_oats (-1 : Int32) t_waitMinutes t_rested c_last c_who c_pull b_law b_places b_broad b_horses b_blinds b_besides b_tideCount b_cartCount b_due b_pairs b_pull b_strength b_back b_moods b_tides b_carts u) := hD
  refine lv_iconst (v := (0 : Int32)) hx hb dX7_findWait_5 (by decide) ?_
  refine lv_istore (lv' := [(4, .int (0 : Int32)), (0, .ref qt), (1, .ref qu), (2, .int n2), (3, .int n3)]) hx hb dX7_findWait_6 hl (by decide) rfl (fun ls hl => ?_)
  obtain ⟨K97_1, hK97_1, hf⟩ := jn6_s hf
  have WK97_1 : ∀ (t_crew_1 : Int32) (t_minutes_1 : Int32) (t_oats_1 : Int32) (t_waitHours_1 : Int32) (t_waitMinutes_1 : Int32) (t_rested_1 : Nat → Int32) (H : Heap) (locs : List Loc) (ls : Array Slot), va_P (dC, dI) vwCl (W_X7t_X2c_X0b_au6 cI cZ cII qt qt_rested qc qc_who qc_pull qb qb_pull qb_strength qb_back qb_moods qb_tides qb_carts qu t_crew_1 t_minutes_1 t_oats_1 t_waitHours_1 t_waitMinutes_1 t_rested_1 c_last c_who c_pull b_law b_places b_broad b_horses b_blinds b_besides b_tideCount b_cartCount b_due b_pairs b_pull b_strength b_back b_moods b_tides b_carts u) H → va_D A (W_X7t_X2c_X0b_au6 cI cZ cII qt qt_rested qc qc_who qc_pull qb qb_pull qb_strength qb_back qb_moods qb_tides qb_carts qu t_crew_1 t_minutes_1 t_oats_1 t_waitHours_1 t_waitMinutes_1 t_rested_1 c_last c_who c_pull b_law b_places b_broad b_horses b_blinds b_besides b_tideCount b_cartCount b_due b_pairs b_pull b_strength b_back b_moods b_tides b_carts u) → va_S A s.heap H locs → lv_has ls 6 [(0, .ref qt)] → K97_1 t_crew_1 t_minutes_1 t_oats_1 t_waitHours_1 t_waitMinutes_1 t_rested_1 = some (rr, t_crew', t_minutes', t_oats', t_waitHours', t_waitMinutes', t_rested') → W p l e rm_X7_findWait s m args below meth c H locs 0 0 Q (F0 m 97 ls []) := by
    intro t_crew_1 t_minutes_1 t_oats_1 t_waitHours_1 t_waitMinutes_1 t_rested_1 H locs ls hP hD hS hl hf
    have hf := hK97_1 _ _ _ _ _ _ hf
    refine lv_aload_n hx hb dX7_findWait_97 rfl (lv_at hl 0 rfl) ?_
    refine va_get (D := (dC, dI)) (ci := 7) (v := .int t_waitHours_1) (C := RX7) (T := TX7) (N := 8) hx hb hw inlX7 hown hK hP 0 rfl rfl 3 (by decide) (hw _ mw_39_5) (fun _ h9 => h9) rfl dX7_findWait_98 ?_
    refine lv_iconst (v := (-1 : Int32)) hx hb dX7_findWait_101 (by decide) ?_
    refine lv_icmp_eq (tgt := 109) hx hb dX7_findWait_102 (by decide) (fun h9 => ?_) (fun h9 => ?_)
    · have hf := pg_t h9 hf
      refine lv_iconst (v := (0 : Int32)) hx hb dX7_findWait_109 (by decide) ?_
      exact RET _ _ _ _ _ _ _ _ _ _ _ dX7_findWait_110 (by decide) hP hD hS hf
    · have hf := pg_f h9 hf
      refine lv_iconst (v := (1 : Int32)) hx hb dX7_findWait_105 (by decide) ?_
      refine lv_goto (tgt := 110) hx hb dX7_findWait_106 (by decide) ?_
      exact RET _ _ _ _ _ _ _ _ _ _ _ dX7_findWait_110 (by decide) hP hD hS hf
  obtain ⟨B2, hB2, hf⟩ := lq7_n hf
  have WL2 : ∀ (n9 : Nat) (y4_2 : Int32) (t_crew_2 : Int32) (t_minutes_2 : Int32) (t_oats_2 : Int32) (t_waitHours_2 : Int32) (t_waitMinutes_2 : Int32) (t_rested_2 : Nat → Int32) (H : Heap) (locs : List Loc) (ls : Array Slot), va_P (dC, dI) vwCl (W_X7t_X2c_X0b_au6 cI cZ cII qt qt_rested qc qc_who qc_pull qb qb_pull qb_strength qb_back qb_moods qb_tides qb_carts qu t_crew_2 t_minutes_2 t_oats_2 t_waitHours_2 t_waitMinutes_2 t_rested_2 c_last c_who c_pull b_law b_places b_broad b_horses b_blinds b_besides b_tideCount b_cartCount b_due b_pairs b_pull b_strength b_back b_moods b_tides b_carts u) H → va_D A (W_X7t_X2c_X0b_au6 cI cZ cII qt qt_rested qc qc_who qc_pull qb qb_pull qb_strength qb_back qb_moods qb_tides qb_carts qu t_crew_2 t_minutes_2 t_oats_2 t_waitHours_2 t_waitMinutes_2 t_rested_2 c_last c_who c_pull b_law b_places b_broad b_horses b_blinds b_besides b_tideCount b_cartCount b_due b_pairs b_pull b_strength b_back b_moods b_tides b_carts u) → va_S A s.heap H locs → lv_has ls 6 [(0, .ref qt), (1, .ref qu), (2, .int n2), (3, .int n3), (4, .int y4_2)] → lq7 B2 n9 y4_2 t_crew_2 t_minutes_2 t_oats_2 t_waitHours_2 t_waitMinutes_2 t_rested_2 = some (rr, t_crew', t_minutes', t_oats', t_waitHours', t_waitMinutes', t_rested') → W p l e rm_X7_findWait s m args below meth c H locs 0 0 Q (F0 m 8 ls []) := by
    intro n9
    induction n9 with
    | zero => intro y4_2 t_crew_2 t_minutes_2 t_oats_2 t_waitHours_2 t_waitMinutes_2 t_rested_2 H locs ls hP hD hS hl hf; cases hf
    | succ n9 ih =>
      intro y4_2 t_crew_2 t_minutes_2 t_oats_2 t_waitHours_2 t_waitMinutes_2 t_rested_2 H locs ls hP hD hS hl hf
      obtain ⟨rec2, hrec2, hf⟩ := lq7_s hf
      have hf := hB2 rec2 _ _ _ _ _ _ _ hf
      refine lv_iload hx hb dX7_findWait_8 (lv_at hl 4 rfl) ?_
      refine lv_bipush (v := (11 : Int32)) hx hb dX7_findWait_10 (by decide) ?_
      refine lv_icmp_gt (tgt := 97) hx hb dX7_findWait_12 (by decide) (fun h9 => ?_) (fun h9 => ?_)
      · have hf := pg_t h9 hf
        exact WK97_1 _ _ _ _ _ _ _ _ _ hP hD hS (lv_sub hl [0] rfl) hf
      · have hf := pg_f h9 hf
        refine lv_aload_n hx hb dX7_findWait_15 rfl (lv_at hl 0 rfl) ?_
        refine va_get (D := (dC, dI)) (ci := 7) (v := .ref qb) (C := RX7) (T := TX7) (N := 8) hx hb hw inlX7 hown hK hP 0 rfl rfl 5 (by decide) (hw _ mw_4_14) (fun _ h9 => h9) rfl dX7_findWait_16 ?_
        refine lv_aload_n hx hb dX7_findWait_19 rfl (lv_at hl 1 rfl) ?_
        refine lv_iload hx hb dX7_findWait_20 (lv_at hl 4 rfl) ?_
        refine lv_aload_n hx hb dX7_findWait_22 rfl (lv_at hl 0 rfl) ?_
        refine va_get (D := (dC, dI)) (ci := 7) (v := .ref qt_rested) (C := RX7) (T := TX7) (N := 8) hx hb hw inlX7 hown hK hP 0 rfl rfl 7 (by decide) (hw _ mw_4_13) (fun _ h9 => h9) rfl dX7_findWait_23 ?_
        obtain ⟨t_rested_3, hc, hf⟩ := bn1_s hf
        refine pg_cVv (As := [.ref qu, .int y4_2, .ref qt_rested]) (rest := []) (wf := (W_X7t_X2c_X0b_au6 cI cZ cII qt qt_rested qc qc_who qc_pull qb qb_pull qb_strength qb_back qb_moods qb_tides qb_carts qu t_crew_2 t_minutes_2 t_oats_2 t_waitHours_2 t_waitMinutes_2 t_rested_3 c_last c_who c_pull b_law b_places b_broad b_horses b_blinds b_besides b_tideCount b_cartCount b_due b_pairs b_pull b_strength b_back b_moods b_tides b_carts u)) ⟨hx, hb, hml, hown, hw⟩ (c_X0_refresh l dC dI cI cZ cII qb qb_pull qb_strength qb_back qb_moods qb_tides qb_carts qu qt_rested H.size b_law b_places b_broad b_horses b_blinds b_besides b_tideCount b_cartCount b_due b_pairs b_pull b_strength b_back b_moods b_tides b_carts u t_rested_2 y4_2 t_rested_3 hc) (cwV 3 hts (wM_V mw_39_7 mw_32_14 mw_32_15 mw_1_15 mw_32_16) rfl rfl rfl dk_X0_refresh ⟨Nat.le_of_ble_eq_true rfl, Nat.le_of_ble_eq_true rfl⟩) hK hP hD hS hA 0 0 rfl rfl rfl [5, 6, 7, 8, 9, 10, 11, 12, 1] [0, 2, 3, 4] [0, 12, 1, 2, 3, 4, 5, 6, 7, 8, 9, 10, 11] rfl rfl rfl (by decide) rfl hl.1 rfl (Nat.le_of_ble_eq_true rfl) dX7_findWait_26 ⟨Nat.zero_le _, Nat.zero_le _⟩ (fun H locs hP hD hS => ?_)
        refine lv_aload_n hx hb dX7_findWait_29 rfl (lv_at hl 0 rfl) ?_
        refine lv_aload_n hx hb dX7_findWait_30 rfl (lv_at hl 0 rfl) ?_
        refine va_get (D := (dC, dI)) (ci := 7) (v := .ref qt_rested) (C := RX7) (T := TX7) (N := 8) hx hb hw inlX7 hown hK hP 0 rfl rfl 7 (by decide) (hw _ mw_4_13) (fun _ h9 => h9) rfl dX7_findWait_31 ?_
        refine lv_aload_n hx hb dX7_findWait_34 rfl (lv_at hl 0 rfl) ?_
        refine va_get (D := (dC, dI)) (ci := 7) (v := .ref qb) (C := RX7) (T := TX7) (N := 8) hx hb hw inlX7 hown hK hP 0 rfl rfl 5 (by decide) (hw _ mw_4_14) (fun _ h9 => h9) rfl dX7_findWait_35 ?_
        refine lv_iload_n hx hb dX7_findWait_38 rfl (lv_at hl 2 rfl) ?_
        refine lv_iload hx hb dX7_findWait_39 (lv_at hl 4 rfl) ?_
        refine lv_iadd hx hb dX7_findWait_41 ?_
        obtain ⟨r_4, hc, hf⟩ := bn1_s hf
        refine pg_cVi (As := [.int (n2 + y4_2)]) (rest := [.ref qt_rested, .ref qt]) (wf := (W_X7t_X2c_X0b_au6 cI cZ cII qt qt_rested qc qc_who qc_pull qb qb_pull qb_strength qb_back qb_moods qb_tides qb_carts qu t_crew_2 t_minutes_2 t_oats_2 t_waitHours_2 t_waitMinutes_2 t_rested_3 c_last c_who c_pull b_law b_places b_broad b_horses b_blinds b_besides b_tideCount b_cartCount b_due b_pairs b_pull b_strength b_back b_moods b_tides b_carts u)) ⟨hx, hb, hml, hown, hw⟩ (c_X0_tideOf l dC dI cI cZ cII qb qb_pull qb_strength qb_back qb_moods qb_tides qb_carts H.size b_law b_places b_broad b_horses b_blinds b_besides b_tideCount b_cartCount b_due b_pairs b_pull b_strength b_back b_moods b_tides b_carts (n2 + y4_2) r_4 hc) (cwV 1 hts (wM_V mw_39_8 mw_23_12 mw_23_13 mw_1_15 mw_23_14) rfl rfl rfl dk_X0_tideOf ⟨Nat.le_of_ble_eq_true rfl, Nat.le_of_ble_eq_true rfl⟩) hK hP hD hS hA 0 0 rfl rfl rfl [5, 6, 7, 8, 9, 10, 11] [0, 1, 2, 3, 4, 12] [0, 1, 2, 3, 4, 6, 7, 8, 9, 10, 11, 12, 5] rfl rfl rfl (by decide) rfl hl.1 rfl (Nat.le_of_ble_eq_true rfl) dX7_findWait_42 ⟨Nat.zero_le _, Nat.zero_le _⟩ (fun H locs hP hD hS => ?_)
        refine lv_iload_n hx hb dX7_findWait_45 rfl (lv_at hl 3 rfl) ?_
        refine lv_isub hx hb dX7_findWait_46 ?_
        refine lv_iconst (v := (-1 : Int32)) hx hb dX7_findWait_47 (by decide) ?_
        obtain ⟨r_5, t_crew_5, t_minutes_5, t_oats_5, hc, hf⟩ := bn4_s hf
        refine pg_cVi (As := [.ref qt_rested, .int (r_4 - n3), .int (-1 : Int32)]) (rest := []) (wf := (W_X7t_X2c_X0b_au6 cI cZ cII qt qt_rested qc qc_who qc_pull qb qb_pull qb_strength qb_back qb_moods qb_tides qb_carts qu t_crew_5 t_minutes_5 t_oats_5 t_waitHours_2 t_waitMinutes_2 t_rested_3 c_last c_who c_pull b_law b_places b_broad b_horses b_blinds b_besides b_tideCount b_cartCount b_due b_pairs b_pull b_strength b_back b_moods b_tides b_carts u)) ⟨hx, hb, hml, hown, hw⟩ (c_X7_findSoonestBtrested l dC dI cI cZ cII qt qt_rested qc qc_who qc_pull qb qb_pull qb_strength qb_back qb_moods qb_tides qb_carts H.size t_crew_2 t_minutes_2 t_oats_2 t_waitHours_2 t_waitMinutes_2 t_rested_3 c_last c_who c_pull b_law b_places b_broad b_horses b_blinds b_besides b_tideCount b_cartCount b_due b_pairs b_pull b_strength b_back b_moods b_tides b_carts (r_4 - n3) (-1 : Int32) r_5 t_crew_5 t_minutes_5 t_oats_5 hc) (cwV 3 hts (wM_V mw_39_9 mw_34_15 mw_34_16 mw_2_10 mw_34_17) rfl rfl rfl dk_X7_findSoonest ⟨Nat.le_of_ble_eq_true rfl, Nat.le_of_ble_eq_true rfl⟩) hK hP hD hS hA 7 0 rfl rfl rfl [0, 1, 2, 3, 4, 5, 6, 7, 8, 9, 10, 11] [12] [1, 2, 3, 4, 5, 6, 7, 8, 9, 10, 11, 12, 0] rfl rfl rfl (by decide) rfl hl.1 rfl (Nat.le_of_ble_eq_true rfl) dX7_findWait_48 ⟨Nat.zero_le _, Nat.zero_le _⟩ (fun H locs hP hD hS => ?_)
        refine lv_istore (lv' := [(5, .int r_5), (0, .ref qt), (1, .ref qu), (2, .int n2), (3, .int n3), (4, .int y4_2)]) hx hb dX7_findWait_51 hl (by decide) rfl (fun ls hl => ?_)
        refine lv_iload hx hb dX7_findWait_53 (lv_at hl 0 rfl) ?_
        obtain ⟨J91_6, hJ91_6, hf⟩ := jn2_s hf
        have WJ91_6 : ∀ (t_waitHours_6 : Int32) (t_waitMinutes_6 : Int32) (H : Heap) (locs : List Loc) (ls : Array Slot), va_P (dC, dI) vwCl (W_X7t_X2c_X0b_au6 cI cZ cII qt qt_rested qc qc_who qc_pull qb qb_pull qb_strength qb_back qb_moods qb_tides qb_carts qu t_crew_5 t_minutes_5 t_oats_5 t_waitHours_6 t_waitMinutes_6 t_rested_3 c_last c_who c_pull b_law b_places b_broad b_horses b_blinds b_besides b_tideCount b_cartCount b_due b_pairs b_pull b_strength b_back b_moods b_tides b_carts u) H → va_D A (W_X7t_X2c_X0b_au6 cI cZ cII qt qt_rested qc qc_who qc_pull qb qb_pull qb_strength qb_back qb_moods qb_tides qb_carts qu t_crew_5 t_minutes_5 t_oats_5 t_waitHours_6 t_waitMinutes_6 t_rested_3 c_last c_who c_pull b_law b_places b_broad b_horses b_blinds b_besides b_tideCount b_cartCount b_due b_pairs b_pull b_strength b_back b_moods b_tides b_carts u) → va_S A s.heap H locs → lv_has ls 6 [(0, .ref qt), (1, .ref qu), (2, .int n2), (3, .int n3), (4, .int y4_2)] → J91_6 t_waitHours_6 t_waitMinutes_6 = some (rr, t_crew', t_minutes', t_oats', t_waitHours', t_waitMinutes', t_rested') → W p l e rm_X7_findWait s m args below meth c H locs 0 0 Q (F0 m 91 ls []) := by
          intro t_waitHours_6 t_waitMinutes_6 H locs ls hP hD hS hl hf
          have hf := hJ91_6 _ _ hf
          refine lv_iinc (v := (y4_2 + (1 : Int32))) (lv' := [(4, .int (y4_2 + (1 : Int32))), (0, .ref qt), (1, .ref qu), (2, .int n2), (3, .int n3)]) hx hb dX7_findWait_91 hl (k := 4) rfl rfl (by decide) rfl (fun ls hl => ?_)
          refine lv_goto (tgt := 8) hx hb dX7_findWait_94 (by decide) ?_
          exact ih _ _ _ _ _ _ _ _ _ _ hP hD hS (lv_sub hl [1, 2, 3, 4, 0] rfl) (hrec2 _ _ _ _ _ _ _ hf)
        refine lv_if_eq (tgt := 91) hx hb dX7_findWait_55 (by decide) (fun h9 => ?_) (fun h9 => ?_)
        · have hf := pg_t h9 hf
          exact WJ91_6 _ _ _ _ _ hP hD hS (lv_sub hl [1, 2, 3, 4, 5] rfl) hf
        · have hf := pg_f h9 hf
          refine lv_aload_n hx hb dX7_findWait_58 rfl (lv_at hl 1 rfl) ?_
          refine va_get (D := (dC, dI)) (ci := 7) (v := .int t_waitHours_2) (C := RX7) (T := TX7) (N := 8) hx hb hw inlX7 hown hK hP 0 rfl rfl 3 (by decide) (hw _ mw_39_5) (fun _ h9 => h9) rfl dX7_findWait_59 ?_
          refine lv_iconst (v := (-1 : Int32)) hx hb dX7_findWait_62 (by decide) ?_
          obtain ⟨J77_7, hJ77_7, hf⟩ := jn1_s hf
          have WJ77_7 : ∀ (u_7 : Unit) (H : Heap) (locs : List Loc) (ls : Array Slot), va_P (dC, dI) vwCl (W_X7t_X2c_X0b_au6 cI cZ cII qt qt_rested qc qc_who qc_pull qb qb_pull qb_strength qb_back qb_moods qb_tides qb_carts qu t_crew_5 t_minutes_5 t_oats_5 t_waitHours_2 t_waitMinutes_2 t_rested_3 c_last c_who c_pull b_law b_places b_broad b_horses b_blinds b_besides b_tideCount b_cartCount b_due b_pairs b_pull b_strength b_back b_moods b_tides b_carts u) H → va_D A (W_X7t_X2c_X0b_au6 cI cZ cII qt qt_rested qc qc_who qc_pull qb qb_pull qb_strength qb_back qb_moods qb_tides qb_carts qu t_crew_5 t_minutes_5 t_oats_5 t_waitHours_2 t_waitMinutes_2 t_rested_3 c_last c_who c_pull b_law b_places b_broad b_horses b_blinds b_besides b_tideCount b_cartCount b_due b_pairs b_pull b_strength b_back b_moods b_tides b_carts u) → va_S A s.heap H locs → lv_has ls 6 [(0, .ref qt), (1, .ref qu), (2, .int n2), (3, .int n3), (4, .int y4_2)] → J77_7 u_7 = some (rr, t_crew', t_minutes', t_oats', t_waitHours', t_waitMinutes', t_rested') → W p l e rm_X7_findWait s m args below meth c H locs 0 0 Q (F0 m 77 ls []) := by
            intro u_7 H locs ls hP hD hS hl hf
            have hf := hJ77_7 _ hf
            refine lv_aload_n hx hb dX7_findWait_77 rfl (lv_at hl 0 rfl) ?_
            refine lv_iload hx hb dX7_findWait_78 (lv_at hl 4 rfl) ?_
            refine va_put (D := (dC, dI)) (ci := 7) (v := .int y4_2) (ty := .int) (C := RX7) (T := TX7) (N := 8) hx hb hw inlX7 tyX7 tyX7_ok nmX7 hown hK hP hD hS 0 rfl rfl 3 (by decide) (hw _ mw_39_5) (fun _ h9 => h9) rfl (by decide +kernel) rfl rfl (Nat.le_of_ble_eq_true rfl) dX7_findWait_80 (fun H locs hP hD hS => ?_)
            have hP : va_P (dC, dI) vwCl (W_X7t_X2c_X0b_au6 cI cZ cII qt qt_rested qc qc_who qc_pull qb qb_pull qb_strength qb_back qb_moods qb_tides qb_carts qu t_crew_5 t_minutes_5 t_oats_5 y4_2 t_waitMinutes_2 t_rested_3 c_last c_who c_pull b_law b_places b_broad b_horses b_blinds b_besides b_tideCount b_cartCount b_due b_pairs b_pull b_strength b_back b_moods b_tides b_carts u) H := hP
            have hD : va_D A (W_X7t_X2c_X0b_au6 cI cZ cII qt qt_rested qc qc_who qc_pull qb qb_pull qb_strength qb_back qb_moods qb_tides qb_carts qu t_crew_5 t_minutes_5 t_oats_5 y4_2 t_waitMinutes_2 t_rested_3 c_last c_who c_pull b_law b_places b_broad b_horses b_blinds b_besides b_tideCount b_cartCount b_due b_pairs b_pull b_strength b_back b_moods b_tides b_carts u) := hD
            refine lv_aload_n hx hb dX7_findWait_83 rfl (lv_at hl 0 rfl) ?_
            refine lv_aload_n hx hb dX7_findWait_84 rfl (lv_at hl 0 rfl) ?_
            refine va_get (D := (dC, dI)) (ci := 7) (v := .int t_minutes_5) (C := RX7) (T := TX7) (N := 8) hx hb hw inlX7 hown hK hP 0 rfl rfl 1 (by decide) (hw _ mw_34_20) (fun _ h9 => h9) rfl dX7_findWait_85 ?_
            refine va_put (D := (dC, dI)) (ci := 7) (v := .int t_minutes_5) (ty := .int) (C := RX7) (T := TX7) (N := 8) hx hb hw inlX7 tyX7 tyX7_ok nmX7 hown hK hP hD hS 0 rfl rfl 4 (by decide) (hw _ mw_39_6) (fun _ h9 => h9) rfl (by decide +kernel) rfl rfl (Nat.le_of_ble_eq_true rfl) dX7_findWait_88 (fun H locs hP hD hS => ?_)
            have hP : va_P (dC, dI) vwCl (W_X7t_X2c_X0b_au6 cI cZ cII qt qt_rested qc qc_who qc_pull qb qb_pull qb_strength qb_back qb_moods qb_tides qb_carts qu t_crew_5 t_minutes_5 t_oats_5 y4_2 t_minutes_5 t_rested_3 c_last c_who c_pull b_law b_places b_broad b_horses b_blinds b_besides b_tideCount b_cartCount b_due b_pairs b_pull b_strength b_back b_moods b_tides b_carts u) H := hP
            have hD : va_D A (W_X7t_X2c_X0b_au6 cI cZ cII qt qt_rested qc qc_who qc_pull qb qb_pull qb_strength qb_back qb_moods qb_tides qb_carts qu t_crew_5 t_minutes_5 t_oats_5 y4_2 t_minutes_5 t_rested_3 c_last c_who c_pull b_law b_places b_broad b_horses b_blinds b_besides b_tideCount b_cartCount b_due b_pairs b_pull b_strength b_back b_moods b_tides b_carts u) := hD
            exact WJ91_6 _ _ _ _ _ hP hD hS hl hf
          refine lv_icmp_eq (tgt := 77) hx hb dX7_findWait_63 (by decide) (fun h9 => ?_) (fun h9 => ?_)
          · have hf := pg_t h9 hf
            exact WJ77_7 _ _ _ _ hP hD hS (lv_sub hl [1, 2, 3, 4, 5] rfl) hf
          · have hf := pg_f h9 hf
            refine lv_aload_n hx hb dX7_findWait_66 rfl (lv_at hl 1 rfl) ?_
            refine va_get (D := (dC, dI)) (ci := 7) (v := .int t_minutes_5) (C := RX7) (T := TX7) (N := 8) hx hb hw inlX7 hown hK hP 0 rfl rfl 1 (by decide) (hw _ mw_34_20) (fun _ h9 => h9) rfl dX7_findWait_67 ?_
            refine lv_aload_n hx hb dX7_findWait_70 rfl (lv_at hl 1 rfl) ?_
            refine va_get (D := (dC, dI)) (ci := 7) (v := .int t_waitMinutes_2) (C := RX7) (T := TX7) (N := 8) hx hb hw inlX7 hown hK hP 0 rfl rfl 4 (by decide) (hw _ mw_39_6) (fun _ h9 => h9) rfl dX7_findWait_71 ?_
            refine lv_icmp_ge (tgt := 91) hx hb dX7_findWait_74 (by decide) (fun h9 => ?_) (fun h9 => ?_)
            · have hf := pg_t h9 hf
              exact WJ91_6 _ _ _ _ _ hP hD hS (lv_sub hl [1, 2, 3, 4, 5] rfl) hf
            · have hf := pg_f h9 hf
              exact WJ77_7 _ _ _ _ hP hD hS (lv_sub hl [1, 2, 3, 4, 5] rfl) hf
  exact WL2 fu _ _ _ _ _ _ _ _ _ _ hP hD hS (lv_sub hl [1, 2, 3, 4, 0] rfl) hf
def f_X3_searchSecond (n1 : Int32) (n2 : Int32) (n3 : Int32) (p_first : Int32) (p_second : Int32) (p_oats : Int32) (p_tired : Nat → Int32) (c_last : Int32) (c_who : Nat → Int32) (c_pull : Nat → Int32) (b_law : Int32) (b_broad : Int32) (b_due : Int32) : Option (Int32 × Int32 × Int32) :=
  jn3 (fun (p_first_1 : Int32) (p_second_1 : Int32) (p_oats_1 : Int32) =>
    some (p_first_1, p_second_1, p_oats_1)
  ) (fun K103_1 =>
  lq4 (fun rec2 (y4_2 : Int32) (p_first_2 : Int32) (p_second_2 : Int32) (p_oats_2 : Int32) =>
    if c_last < y4_2 then
      K103_1 p_first_2 p_second_2 p_oats_2
    else
      bn1 (f_X0_dueMinutes b_due) (fun (r_3 : Int32) =>
        bn1 (f_X2_minutes y4_2 n3 r_3 c_who c_pull b_law b_broad p_tired) (fun (r_4 : Int32) =>
          jn3 (fun (p_first_5 : Int32) (p_second_5 : Int32) (p_oats_5 : Int32) =>
            rec2 (y4_2 + (1 : Int32)) p_first_5 p_second_5 p_oats_5
          ) (fun J97_5 =>
          if r_4 = (-1 : Int32) then
            J97_5 p_first_2 p_second_2 p_oats_2
          else
            bn1 (f_X2_oats y4_2 r_4 c_who c_pull p_tired) (fun (r_6 : Int32) =>
              jn1 (fun (u_7 : Unit) =>
                J97_5 n1 y4_2 (n2 + r_6)
              ) (fun J80_7 =>
              if p_first_2 = (-1 : Int32) then
                J80_7 ()
              else
                if p_oats_2 ≤ (n2 + r_6) then
                  J97_5 p_first_2 p_second_2 p_oats_2
                else
                  J80_7 ()
              )
            )
          )
        )
      )
  ) fu (1 : Int32) p_first p_second p_oats
  )
abbrev rm_X3_searchSecond : Room := { frames := 3, cells := 0, slots := 0, locals := 100 }
theorem dk_X3_searchSecond : yX3_searchSecond.cls = RX3 ∧ yX3_searchSecond.cls ≠ "java/lang/invoke/MethodHandle" ∧ yX3_searchSecond.cls ≠ "java/lang/invoke/VarHandle" ∧ (parseMethodDescriptor yX3_searchSecond.desc).map (fun d => d.parameters.length) = some 3 := by decide +kernel
set_option maxHeartbeats 4000000 in
set_option maxRecDepth 100000 in
theorem c_X3_searchSecond (l : Launch) (dC : Nat → ClassId) (dI : Nat → Nat → Nat) (cI cZ cII : ClassId) (qp qp_tired qc qc_who qc_pull qb qb_pull qb_strength qb_back qb_moods qb_tides qb_carts : Nat) (sz : Nat) (p_known : Int32) (p_load : Int32) (p_first : Int32) (p_second : Int32) (p_oats : Int32) (p_tired : Nat → Int32) (c_last : Int32) (c_who : Nat → Int32) (c_pull : Nat → Int32) (b_law : Int32) (b_places : Int32) (b_broad : Int32) (b_horses : Int32) (b_blinds : Int32) (b_besides : Int32) (b_tideCount : Int32) (b_cartCount : Int32) (b_due : Int32) (b_pairs : Int64) (b_pull : Nat → Int32) (b_strength : Nat → Int32) (b_back : Nat → Int32) (b_moods : Nat → Int32) (b_tides : Nat → Int32) (b_carts : Nat → Int32) (n1 : Int32) (n2 : Int32) (n3 : Int32) (p_first' : Int32) (p_second' : Int32) (p_oats' : Int32) (hf : f_X3_searchSecond n1 n2 n3 p_first p_second p_oats p_tired c_last c_who c_pull b_law b_broad b_due = some (p_first', p_second', p_oats')) : Met l yX3_searchSecond (wM yX3_searchSecond cX3_searchSecond 7 none) rm_X3_searchSecond (PreW (dC, dI) (tyA cI cZ cII) (W_X3p_X2c_X0b cI cZ cII qp qp_tired qc qc_who qc_pull qb qb_pull qb_strength qb_back qb_moods qb_tides qb_carts p_known p_load p_first p_second p_oats p_tired c_last c_who c_pull b_law b_places b_broad b_horses b_blinds b_besides b_tideCount b_cartCount b_due b_pairs b_pull b_strength b_back b_moods b_tides b_carts) sz [.ref qp, .int n1, .int n2, .int n3]) (PostV (dC, dI) (tyA cI cZ cII) (W_X3p_X2c_X0b cI cZ cII qp qp_tired qc qc_who qc_pull qb qb_pull qb_strength qb_back qb_moods qb_tides qb_carts p_known p_load p_first p_second p_oats p_tired c_last c_who c_pull b_law b_places b_broad b_horses b_blinds b_besides b_tideCount b_cartCount b_due b_pairs b_pull b_strength b_back b_moods b_tides b_carts) (W_X3p_X2c_X0b cI cZ cII qp qp_tired qc qc_who qc_pull qb qb_pull qb_strength qb_back qb_moods qb_tides qb_carts p_known p_load p_first' p_second' p_oats' p_tired c_last c_who c_pull b_law b_places b_broad b_horses b_blinds b_besides b_tideCount b_cartCount b_due b_pairs b_pull b_strength b_back b_moods b_tides b_carts) sz) 0 0 (va_A (W_X3p_X2c_X0b cI cZ cII qp qp_tired qc qc_who qc_pull qb qb_pull qb_strength qb_back qb_moods qb_tides qb_carts p_known p_load p_first p_second p_oats p_tired c_last c_who c_pull b_law b_places b_broad b_horses b_blinds b_besides b_tideCount b_cartCount b_due b_pairs b_pull b_strength b_back b_moods b_tides b_carts) sz) := by
  refine Met.ofW (cc := cX3_searchSecond) (maxL := 7) (ret := none) (by decide) rfl ?_
  intro p e s m args below meth c s₁ B hml hv
  obtain ⟨rfl, hsz, hP, hK, hD0⟩ := hv
  have hx := B.exec
  have hb := B.bytes
  have hr := B.returns
  have hts := atoms_spec (ws := wM yX3_searchSecond cX3_searchSecond 7 none) B.pre
  have hown : s.vm.findClass RX3 = some m.cls := findClass_of_methodNamed B.named
  have hlocks := B.notSynchronized
  subst hsz
  have hD := hD0.self (sz := s.heap.size)
  obtain ⟨A, hAe⟩ : ∃ A, A = va_A (W_X3p_X2c_X0b cI cZ cII qp qp_tired qc qc_who qc_pull qb qb_pull qb_strength qb_back qb_moods qb_tides qb_carts p_known p_load p_first p_second p_oats p_tired c_last c_who c_pull b_law b_places b_broad b_horses b_blinds b_besides b_tideCount b_cartCount b_due b_pairs b_pull b_strength b_back b_moods b_tides b_carts) s.heap.size := ⟨_, rfl⟩
  rw [← hAe] at hD
  have hA : ∀ q : Nat, s.heap.size ≤ q → A q := fun q h => by rw [hAe]; exact Or.inr h
  have hS : va_S A s.heap s.heap [] := va_S.rf
  have hl := lv_entry ([.ref qp, .int n1, .int n2, .int n3]) (n := 7) (Nat.le_of_ble_eq_true rfl)
  rw [lg_entry_eq]
  generalize (lg_sl ([.ref qp, .int n1, .int n2, .int n3]) ++ List.replicate (7 - (lg_sl ([.ref qp, .int n1, .int n2, .int n3])).length) Slot.unset).toArray = ls at hl ⊢
  have hl : lv_has ls 7 [(0, .ref qp), (1, .int n1), (2, .int n2), (3, .int n3)] := hl
  generalize ([.ref qp, .int n1, .int n2, .int n3] : List Value).toArray = args at hts ⊢
  have hw : ∀ w ∈ wsL_law, w.before args s = true := fun w h => hts w (List.mem_cons_of_mem _ h)
  refine pg_start (fun Q hQ => ?_)
  have RET : ∀ (H : Heap) (locs : List Loc) (ls : Array Slot) (pc : Nat) (x0 : Int32) (x1 : Int32) (x2 : Int32) , decode cX3_searchSecond pc = .ok (.return_, 1) → va_P (dC, dI) vwCl (W_X3p_X2c_X0b cI cZ cII qp qp_tired qc qc_who qc_pull qb qb_pull qb_strength qb_back qb_moods qb_tides qb_carts p_known p_load x0 x1 x2 p_tired c_last c_who c_pull b_law b_places b_broad b_horses b_blinds b_besides b_tideCount b_cartCount b_due b_pairs b_pull b_strength b_back b_moods b_tides b_carts) H → va_D A (W_X3p_X2c_X0b cI cZ cII qp qp_tired qc qc_who qc_pull qb qb_pull qb_strength qb_back qb_moods qb_tides qb_carts p_known p_load x0 x1 x2 p_tired c_last c_who c_pull b_law b_places b_broad b_horses b_blinds b_besides b_tideCount b_cartCount b_due b_pairs b_pull b_strength b_back b_moods b_tides b_carts) → va_S A s.heap H locs → (some (x0, x1, x2) : Option (Int32 × Int32 × Int32)) = some (p_first', p_second', p_oats') → W p l e rm_X3_searchSecond s m args below meth c H locs 0 0 Q (F0 m pc ls []) := by
    intro H locs ls pc x0 x1 x2 hd hP hD hS he
    subst hAe; subst hQ
    simp only [Option.some.injEq, Prod.mk.injEq] at he
    obtain ⟨rfl, rfl, rfl⟩ := he
    exact pg_vret hx hb hr hlocks hK hP hD hS hd
  unfold f_X3_searchSecond at hf
  refine lv_iconst (v := (1 : Int32)) hx hb dX3_searchSecond_0 (by decide) ?_
  refine lv_istore (lv' := [(4, .int (1 : Int32)), (0, .ref qp), (1, .int n1), (2, .int n2), (3, .int n3)]) hx hb dX3_searchSecond_1 hl (by decide) rfl (fun ls hl => ?_)
  obtain ⟨K103_1, hK103_1, hf⟩ := jn3_s hf
  have WK103_1 : ∀ (p_first_1 : Int32) (p_second_1 : Int32) (p_oats_1 : Int32) (H : Heap) (locs : List Loc) (ls : Array Slot), va_P (dC, dI) vwCl (W_X3p_X2c_X0b cI cZ cII qp qp_tired qc qc_who qc_pull qb qb_pull qb_strength qb_back qb_moods qb_tides qb_carts p_known p_load p_first_1 p_second_1 p_oats_1 p_tired c_last c_who c_pull b_law b_places b_broad b_horses b_blinds b_besides b_tideCount b_cartCount b_due b_pairs b_pull b_strength b_back b_moods b_tides b_carts) H → va_D A (W_X3p_X2c_X0b cI cZ cII qp qp_tired qc qc_who qc_pull qb qb_pull qb_strength qb_back qb_moods qb_tides qb_carts p_known p_load p_first_1 p_second_1 p_oats_1 p_tired c_last c_who c_pull b_law b_places b_broad b_horses b_blinds b_besides b_tideCount b_cartCount b_due b_pairs b_pull b_strength b_back b_moods b_tides b_carts) → va_S A s.heap H locs → lv_has ls 7 [] → K103_1 p_first_1 p_second_1 p_oats_1 = some (p_first', p_second', p_oats') → W p l e rm_X3_searchSecond s m args below meth c H locs 0 0 Q (F0 m 103 ls []) := by
    intro p_first_1 p_second_1 p_oats_1 H locs ls hP hD hS hl hf
    have hf := hK103_1 _ _ _ hf
    exact RET _ _ _ _ _ _ _ dX3_searchSecond_103 hP hD hS hf
  obtain ⟨B2, hB2, hf⟩ := lq4_n hf
  have WL2 : ∀ (n9 : Nat) (y4_2 : Int32) (p_first_2 : Int32) (p_second_2 : Int32) (p_oats_2 : Int32) (H : Heap) (locs : List Loc) (ls : Array Slot), va_P (dC, dI) vwCl (W_X3p_X2c_X0b cI cZ cII qp qp_tired qc qc_who qc_pull qb qb_pull qb_strength qb_back qb_moods qb_tides qb_carts p_known p_load p_first_2 p_second_2 p_oats_2 p_tired c_last c_who c_pull b_law b_places b_broad b_horses b_blinds b_besides b_tideCount b_cartCount b_due b_pairs b_pull b_strength b_back b_moods b_tides b_carts) H → va_D A (W_X3p_X2c_X0b cI cZ cII qp qp_tired qc qc_who qc_pull qb qb_pull qb_strength qb_back qb_moods qb_tides qb_carts p_known p_load p_first_2 p_second_2 p_oats_2 p_tired c_last c_who c_pull b_law b_places b_broad b_horses b_blinds b_besides b_tideCount b_cartCount b_due b_pairs b_pull b_strength b_back b_moods b_tides b_carts) → va_S A s.heap H locs → lv_has ls 7 [(0, .ref qp), (1, .int n1), (2, .int n2), (3, .int n3), (4, .int y4_2)] → lq4 B2 n9 y4_2 p_first_2 p_second_2 p_oats_2 = some (p_first', p_second', p_oats') → W p l e rm_X3_searchSecond s m args below meth c H locs 0 0 Q (F0 m 3 ls []) := by
    intro n9
    induction n9 with
    | zero => intro y4_2 p_first_2 p_second_2 p_oats_2 H locs ls hP hD hS hl hf; cases hf
    | succ n9 ih =>
      intro y4_2 p_first_2 p_second_2 p_oats_2 H locs ls hP hD hS hl hf
      obtain ⟨rec2, hrec2, hf⟩ := lq4_s hf
      have hf := hB2 rec2 _ _ _ _ hf
      refine lv_iload hx hb dX3_searchSecond_3 (lv_at hl 4 rfl) ?_
      refine lv_aload_n hx hb dX3_searchSecond_5 rfl (lv_at hl 0 rfl) ?_
      refine va_get (D := (dC, dI)) (ci := 3) (v := .ref qc) (C := RX3) (T := TX3) (N := 8) hx hb hw inlX3 hown hK hP 0 rfl rfl 6 (by decide) (hw _ mw_4_22) (fun _ h9 => h9) rfl dX3_searchSecond_6 ?_
      refine va_get (D := (dC, dI)) (ci := 2) (v := .int c_last) (C := RX2) (T := TX2) (N := 4) hx hb hw inlX2 hown hK hP 2 rfl rfl 0 (by decide) (hw _ mw_37_19) (fun _ h9 => h9) rfl dX3_searchSecond_9 ?_
      refine lv_icmp_gt (tgt := 103) hx hb dX3_searchSecond_12 (by decide) (fun h9 => ?_) (fun h9 => ?_)
      · have hf := pg_t h9 hf
        exact WK103_1 _ _ _ _ _ _ hP hD hS (lv_sub hl [] rfl) hf
      · have hf := pg_f h9 hf
        refine lv_aload_n hx hb dX3_searchSecond_15 rfl (lv_at hl 0 rfl) ?_
        refine va_get (D := (dC, dI)) (ci := 3) (v := .ref qc) (C := RX3) (T := TX3) (N := 8) hx hb hw inlX3 hown hK hP 0 rfl rfl 6 (by decide) (hw _ mw_4_22) (fun _ h9 => h9) rfl dX3_searchSecond_16 ?_
        refine lv_iload hx hb dX3_searchSecond_19 (lv_at hl 4 rfl) ?_
        refine lv_aload_n hx hb dX3_searchSecond_21 rfl (lv_at hl 0 rfl) ?_
        refine va_get (D := (dC, dI)) (ci := 3) (v := .ref qp_tired) (C := RX3) (T := TX3) (N := 8) hx hb hw inlX3 hown hK hP 0 rfl rfl 7 (by decide) (hw _ mw_4_20) (fun _ h9 => h9) rfl dX3_searchSecond_22 ?_
        refine lv_iload_n hx hb dX3_searchSecond_25 rfl (lv_at hl 3 rfl) ?_
        refine lv_aload_n hx hb dX3_searchSecond_26 rfl (lv_at hl 0 rfl) ?_
        refine va_get (D := (dC, dI)) (ci := 3) (v := .ref qb) (C := RX3) (T := TX3) (N := 8) hx hb hw inlX3 hown hK hP 0 rfl rfl 5 (by decide) (hw _ mw_4_21) (fun _ h9 => h9) rfl dX3_searchSecond_27 ?_
        obtain ⟨r_3, hc, hf⟩ := bn1_s hf
        refine pg_cVi (As := []) (rest := [.int n3, .ref qp_tired, .int y4_2, .ref qc]) (wf := (W_X3p_X2c_X0b cI cZ cII qp qp_tired qc qc_who qc_pull qb qb_pull qb_strength qb_back qb_moods qb_tides qb_carts p_known p_load p_first_2 p_second_2 p_oats_2 p_tired c_last c_who c_pull b_law b_places b_broad b_horses b_blinds b_besides b_tideCount b_cartCount b_due b_pairs b_pull b_strength b_back b_moods b_tides b_carts)) ⟨hx, hb, hml, hown, hw⟩ (c_X0_dueMinutes l dC dI cI cZ cII qb qb_pull qb_strength qb_back qb_moods qb_tides qb_carts H.size b_law b_places b_broad b_horses b_blinds b_besides b_tideCount b_cartCount b_due b_pairs b_pull b_strength b_back b_moods b_tides b_carts  r_3 hc) (cwV 0 hts (wM_V mw_37_22 mw_23_8 mw_23_9 mw_1_15 mw_23_10) rfl rfl rfl dk_X0_dueMinutes ⟨Nat.le_of_ble_eq_true rfl, Nat.le_of_ble_eq_true rfl⟩) hK hP hD hS hA 0 0 rfl rfl rfl [5, 6, 7, 8, 9, 10, 11] [0, 1, 2, 3, 4] [0, 1, 2, 3, 4, 5, 6, 7, 8, 9, 10, 11] rfl rfl rfl (by decide) rfl hl.1 rfl (Nat.le_of_ble_eq_true rfl) dX3_searchSecond_30 ⟨Nat.zero_le _, Nat.zero_le _⟩ (fun H locs hP hD hS => ?_)
        obtain ⟨r_4, hc, hf⟩ := bn1_s hf
        refine pg_cVi (As := [.int y4_2, .ref qp_tired, .int n3, .int r_3]) (rest := []) (wf := (W_X3p_X2c_X0b cI cZ cII qp qp_tired qc qc_who qc_pull qb qb_pull qb_strength qb_back qb_moods qb_tides qb_carts p_known p_load p_first_2 p_second_2 p_oats_2 p_tired c_last c_who c_pull b_law b_places b_broad b_horses b_blinds b_besides b_tideCount b_cartCount b_due b_pairs b_pull b_strength b_back b_moods b_tides b_carts)) ⟨hx, hb, hml, hown, hw⟩ (c_X2_minutes l dC dI cI cZ cII qc qc_who qc_pull qb qb_pull qb_strength qb_back qb_moods qb_tides qb_carts qp_tired H.size c_last c_who c_pull b_law b_places b_broad b_horses b_blinds b_besides b_tideCount b_cartCount b_due b_pairs b_pull b_strength b_back b_moods b_tides b_carts p_tired y4_2 n3 r_3 r_4 hc) (cwV 4 hts (wM_V mw_37_23 mw_29_2 mw_29_3 mw_2_0 mw_29_4) rfl rfl rfl dk_X2_minutes ⟨Nat.le_of_ble_eq_true rfl, Nat.le_of_ble_eq_true rfl⟩) hK hP hD hS hA 2 0 rfl rfl rfl [2, 3, 4, 5, 6, 7, 8, 9, 10, 11, 1] [0] [0, 11, 1, 2, 3, 4, 5, 6, 7, 8, 9, 10] rfl rfl rfl (by decide) rfl hl.1 rfl (Nat.le_of_ble_eq_true rfl) dX3_searchSecond_33 ⟨Nat.zero_le _, Nat.zero_le _⟩ (fun H locs hP hD hS => ?_)
        refine lv_istore (lv' := [(5, .int r_4), (0, .ref qp), (1, .int n1), (2, .int n2), (3, .int n3), (4, .int y4_2)]) hx hb dX3_searchSecond_36 hl (by decide) rfl (fun ls hl => ?_)
        refine lv_iload hx hb dX3_searchSecond_38 (lv_at hl 0 rfl) ?_
        refine lv_iconst (v := (-1 : Int32)) hx hb dX3_searchSecond_40 (by decide) ?_
        obtain ⟨J97_5, hJ97_5, hf⟩ := jn3_s hf
        have WJ97_5 : ∀ (p_first_5 : Int32) (p_second_5 : Int32) (p_oats_5 : Int32) (H : Heap) (locs : List Loc) (ls : Array Slot), va_P (dC, dI) vwCl (W_X3p_X2c_X0b cI cZ cII qp qp_tired qc qc_who qc_pull qb qb_pull qb_strength qb_back qb_moods qb_tides qb_carts p_known p_load p_first_5 p_second_5 p_oats_5 p_tired c_last c_who c_pull b_law b_places b_broad b_horses b_blinds b_besides b_tideCount b_cartCount b_due b_pairs b_pull b_strength b_back b_moods b_tides b_carts) H → va_D A (W_X3p_X2c_X0b cI cZ cII qp qp_tired qc qc_who qc_pull qb qb_pull qb_strength qb_back qb_moods qb_tides qb_carts p_known p_load p_first_5 p_second_5 p_oats_5 p_tired c_last c_who c_pull b_law b_places b_broad b_horses b_blinds b_besides b_tideCount b_cartCount b_due b_pairs b_pull b_strength b_back b_moods b_tides b_carts) → va_S A s.heap H locs → lv_has ls 7 [(0, .ref qp), (1, .int n1), (2, .int n2), (3, .int n3), (4, .int y4_2)] → J97_5 p_first_5 p_second_5 p_oats_5 = some (p_first', p_second', p_oats') → W p l e rm_X3_searchSecond s m args below meth c H locs 0 0 Q (F0 m 97 ls []) := by
          intro p_first_5 p_second_5 p_oats_5 H locs ls hP hD hS hl hf
          have hf := hJ97_5 _ _ _ hf
          refine lv_iinc (v := (y4_2 + (1 : Int32))) (lv' := [(4, .int (y4_2 + (1 : Int32))), (0, .ref qp), (1, .int n1), (2, .int n2), (3, .int n3)]) hx hb dX3_searchSecond_97 hl (k := 4) rfl rfl (by decide) rfl (fun ls hl => ?_)
          refine lv_goto (tgt := 3) hx hb dX3_searchSecond_100 (by decide) ?_
          exact ih _ _ _ _ _ _ _ hP hD hS (lv_sub hl [1, 2, 3, 4, 0] rfl) (hrec2 _ _ _ _ hf)
        refine lv_icmp_eq (tgt := 97) hx hb dX3_searchSecond_41 (by decide) (fun h9 => ?_) (fun h9 => ?_)
        · have hf := pg_t h9 hf
          exact WJ97_5 _ _ _ _ _ _ hP hD hS (lv_sub hl [1, 2, 3, 4, 5] rfl) hf
        · have hf := pg_f h9 hf
          refine lv_iload_n hx hb dX3_searchSecond_44 rfl (lv_at hl 3 rfl) ?_
          refine lv_aload_n hx hb dX3_searchSecond_45 rfl (lv_at hl 1 rfl) ?_
          refine va_get (D := (dC, dI)) (ci := 3) (v := .ref qc) (C := RX3) (T := TX3) (N := 8) hx hb hw inlX3 hown hK hP 0 rfl rfl 6 (by decide) (hw _ mw_4_22) (fun _ h9 => h9) rfl dX3_searchSecond_46 ?_
          refine lv_iload hx hb dX3_searchSecond_49 (lv_at hl 5 rfl) ?_
          refine lv_aload_n hx hb dX3_searchSecond_51 rfl (lv_at hl 1 rfl) ?_
          refine va_get (D := (dC, dI)) (ci := 3) (v := .ref qp_tired) (C := RX3) (T := TX3) (N := 8) hx hb hw inlX3 hown hK hP 0 rfl rfl 7 (by decide) (hw _ mw_4_20) (fun _ h9 => h9) rfl dX3_searchSecond_52 ?_
          refine lv_iload hx hb dX3_searchSecond_55 (lv_at hl 0 rfl) ?_
          obtain ⟨r_6, hc, hf⟩ := bn1_s hf
          refine pg_cVi (As := [.int y4_2, .ref qp_tired, .int r_4]) (rest := [.int n2]) (wf := (W_X3p_X2c_X0b cI cZ cII qp qp_tired qc qc_who qc_pull qb qb_pull qb_strength qb_back qb_moods qb_tides qb_carts p_known p_load p_first_2 p_second_2 p_oats_2 p_tired c_last c_who c_pull b_law b_places b_broad b_horses b_blinds b_besides b_tideCount b_cartCount b_due b_pairs b_pull b_strength b_back b_moods b_tides b_carts)) ⟨hx, hb, hml, hown, hw⟩ (c_X2_oats l dC dI cI cZ cII qc qc_who qc_pull qb qb_pull qb_strength qb_back qb_moods qb_tides qb_carts qp_tired H.size c_last c_who c_pull b_law b_places b_broad b_horses b_blinds b_besides b_tideCount b_cartCount b_due b_pairs b_pull b_strength b_back b_moods b_tides b_carts p_tired y4_2 r_4 r_6 hc) (cwV 3 hts (wM_V mw_38_0 mw_29_17 mw_29_18 mw_2_0 mw_29_19) rfl rfl rfl dk_X2_oats ⟨Nat.le_of_ble_eq_true rfl, Nat.le_of_ble_eq_true rfl⟩) hK hP hD hS hA 2 0 rfl rfl rfl [2, 3, 4, 5, 6, 7, 8, 9, 10, 11, 1] [0] [0, 11, 1, 2, 3, 4, 5, 6, 7, 8, 9, 10] rfl rfl rfl (by decide) rfl hl.1 rfl (Nat.le_of_ble_eq_true rfl) dX3_searchSecond_57 ⟨Nat.zero_le _, Nat.zero_le _⟩ (fun H locs hP hD hS => ?_)
          refine lv_iadd hx hb dX3_searchSecond_60 ?_
          refine lv_istore (lv' := [(6, .int (n2 + r_6)), (5, .int r_4), (0, .ref qp), (1, .int n1), (2, .int n2), (3, .int n3), (4, .int y4_2)]) hx hb dX3_searchSecond_61 hl (by decide) rfl (fun ls hl => ?_)
          refine lv_aload_n hx hb dX3_searchSecond_63 rfl (lv_at hl 2 rfl) ?_
          refine va_get (D := (dC, dI)) (ci := 3) (v := .int p_first_2) (C := RX3) (T := TX3) (N := 8) hx hb hw inlX3 hown hK hP 0 rfl rfl 2 (by decide) (hw _ mw_37_14) (fun _ h9 => h9) rfl dX3_searchSecond_64 ?_
          refine lv_iconst (v := (-1 : Int32)) hx hb dX3_searchSecond_67 (by decide) ?_
          obtain ⟨J80_7, hJ80_7, hf⟩ := jn1_s hf
          have WJ80_7 : ∀ (u_7 : Unit) (H : Heap) (locs : List Loc) (ls : Array Slot), va_P (dC, dI) vwCl (W_X3p_X2c_X0b cI cZ cII qp qp_tired qc qc_who qc_pull qb qb_pull qb_strength qb_back qb_moods qb_tides qb_carts p_known p_load p_first_2 p_second_2 p_oats_2 p_tired c_last c_who c_pull b_law b_places b_broad b_horses b_blinds b_besides b_tideCount b_cartCount b_due b_pairs b_pull b_strength b_back b_moods b_tides b_carts) H → va_D A (W_X3p_X2c_X0b cI cZ cII qp qp_tired qc qc_who qc_pull qb qb_pull qb_strength qb_back qb_moods qb_tides qb_carts p_known p_load p_first_2 p_second_2 p_oats_2 p_tired c_last c_who c_pull b_law b_places b_broad b_horses b_blinds b_besides b_tideCount b_cartCount b_due b_pairs b_pull b_strength b_back b_moods b_tides b_carts) → va_S A s.heap H locs → lv_has ls 7 [(0, .ref qp), (1, .int n1), (2, .int n2), (3, .int n3), (4, .int y4_2), (6, .int (n2 + r_6))] → J80_7 u_7 = some (p_first', p_second', p_oats') → W p l e rm_X3_searchSecond s m args below meth c H locs 0 0 Q (F0 m 80 ls []) := by
            intro u_7 H locs ls hP hD hS hl hf
            have hf := hJ80_7 _ hf
            refine lv_aload_n hx hb dX3_searchSecond_80 rfl (lv_at hl 0 rfl) ?_
            refine lv_iload_n hx hb dX3_searchSecond_81 rfl (lv_at hl 1 rfl) ?_
            refine va_put (D := (dC, dI)) (ci := 3) (v := .int n1) (ty := .int) (C := RX3) (T := TX3) (N := 8) hx hb hw inlX3 tyX3 tyX3_ok nmX3 hown hK hP hD hS 0 rfl rfl 2 (by decide) (hw _ mw_37_14) (fun _ h9 => h9) rfl (by decide +kernel) rfl rfl (Nat.le_of_ble_eq_true rfl) dX3_searchSecond_82 (fun H locs hP hD hS => ?_)
            have hP : va_P (dC, dI) vwCl (W_X3p_X2c_X0b cI cZ cII qp qp_tired qc qc_who qc_pull qb qb_pull qb_strength qb_back qb_moods qb_tides qb_carts p_known p_load n1 p_second_2 p_oats_2 p_tired c_last c_who c_pull b_law b_places b_broad b_horses b_blinds b_besides b_tideCount b_cartCount b_due b_pairs b_pull b_strength b_back b_moods b_tides b_carts) H := hP
            have hD : va_D A (W_X3p_X2c_X0b cI cZ cII qp qp_tired qc qc_who qc_pull qb qb_pull qb_strength qb_back qb_moods qb_tides qb_carts p_known p_load n1 p_second_2 p_oats_2 p_tired c_last c_who c_pull b_law b_places b_broad b_horses b_blinds b_besides b_tideCount b_cartCount b_due b_pairs b_pull b_strength b_back b_moods b_tides b_carts) := hD
            refine lv_aload_n hx hb dX3_searchSecond_85 rfl (lv_at hl 0 rfl) ?_
            refine lv_iload hx hb dX3_searchSecond_86 (lv_at hl 4 rfl) ?_
            refine va_put (D := (dC, dI)) (ci := 3) (v := .int y4_2) (ty := .int) (C := RX3) (T := TX3) (N := 8) hx hb hw inlX3 tyX3 tyX3_ok nmX3 hown hK hP hD hS 0 rfl rfl 3 (by decide) (hw _ mw_38_6) (fun _ h9 => h9) rfl (by decide +kernel) rfl rfl (Nat.le_of_ble_eq_true rfl) dX3_searchSecond_88 (fun H locs hP hD hS => ?_)
            have hP : va_P (dC, dI) vwCl (W_X3p_X2c_X0b cI cZ cII qp qp_tired qc qc_who qc_pull qb qb_pull qb_strength qb_back qb_moods qb_tides qb_carts p_known p_load n1 y4_2 p_oats_2 p_tired c_last c_who c_pull b_law b_places b_broad b_horses b_blinds b_besides b_tideCount b_cartCount b_due b_pairs b_pull b_strength b_back b_moods b_tides b_carts) H := hP
            have hD : va_D A (W_X3p_X2c_X0b cI cZ cII qp qp_tired qc qc_who qc_pull qb qb_pull qb_strength qb_back qb_moods qb_tides qb_carts p_known p_load n1 y4_2 p_oats_2 p_tired c_last c_who c_pull b_law b_places b_broad b_horses b_blinds b_besides b_tideCount b_cartCount b_due b_pairs b_pull b_strength b_back b_moods b_tides b_carts) := hD
            refine lv_aload_n hx hb dX3_searchSecond_91 rfl (lv_at hl 0 rfl) ?_
            refine lv_iload hx hb dX3_searchSecond_92 (lv_at hl 5 rfl) ?_
            refine va_put (D := (dC, dI)) (ci := 3) (v := .int (n2 + r_6)) (ty := .int) (C := RX3) (T := TX3) (N := 8) hx hb hw inlX3 tyX3 tyX3_ok nmX3 hown hK hP hD hS 0 rfl rfl 4 (by decide) (hw _ mw_37_20) (fun _ h9 => h9) rfl (by decide +kernel) rfl rfl (Nat.le_of_ble_eq_true rfl) dX3_searchSecond_94 (fun H locs hP hD hS => ?_)
            have hP : va_P (dC, dI) vwCl (W_X3p_X2c_X0b cI cZ cII qp qp_tired qc qc_who qc_pull qb qb_pull qb_strength qb_back qb_moods qb_tides qb_carts p_known p_load n1 y4_2 (n2 + r_6) p_tired c_last c_who c_pull b_law b_places b_broad b_horses b_blinds b_besides b_tideCount b_cartCount b_due b_pairs b_pull b_strength b_back b_moods b_tides b_carts) H := hP
            have hD : va_D A (W_X3p_X2c_X0b cI cZ cII qp qp_tired qc qc_who qc_pull qb qb_pull qb_strength qb_back qb_moods qb_tides qb_carts p_known p_load n1 y4_2 (n2 + r_6) p_tired c_last c_who c_pull b_law b_places b_broad b_horses b_blinds b_besides b_tideCount b_cartCount b_due b_pairs b_pull b_strength b_back b_moods b_tides b_carts) := hD
            exact WJ97_5 _ _ _ _ _ _ hP hD hS (lv_sub hl [0, 1, 2, 3, 4] rfl) hf
          refine lv_icmp_eq (tgt := 80) hx hb dX3_searchSecond_68 (by decide) (fun h9 => ?_) (fun h9 => ?_)
          · have hf := pg_t h9 hf
            exact WJ80_7 _ _ _ _ hP hD hS (lv_sub hl [2, 3, 4, 5, 6, 0] rfl) hf
          · have hf := pg_f h9 hf
            refine lv_iload hx hb dX3_searchSecond_71 (lv_at hl 0 rfl) ?_
            refine lv_aload_n hx hb dX3_searchSecond_73 rfl (lv_at hl 2 rfl) ?_
            refine va_get (D := (dC, dI)) (ci := 3) (v := .int p_oats_2) (C := RX3) (T := TX3) (N := 8) hx hb hw inlX3 hown hK hP 0 rfl rfl 4 (by decide) (hw _ mw_37_20) (fun _ h9 => h9) rfl dX3_searchSecond_74 ?_
            refine lv_icmp_ge (tgt := 97) hx hb dX3_searchSecond_77 (by decide) (fun h9 => ?_) (fun h9 => ?_)
            · have hf := pg_t h9 hf
              exact WJ97_5 _ _ _ _ _ _ hP hD hS (lv_sub hl [2, 3, 4, 5, 6] rfl) hf
            · have hf := pg_f h9 hf
              exact WJ80_7 _ _ _ _ hP hD hS (lv_sub hl [2, 3, 4, 5, 6, 0] rfl) hf
  exact WL2 fu _ _ _ _ _ _ _ hP hD hS (lv_sub hl [1, 2, 3, 4, 0] rfl) hf
def f_X3_search (n2 : Int32) (n3 : Int32) (p_first : Int32) (p_second : Int32) (p_oats : Int32) (p_tired : Nat → Int32) (c_last : Int32) (c_who : Nat → Int32) (c_pull : Nat → Int32) (b_law : Int32) (b_broad : Int32) (b_horses : Int32) (b_tideCount : Int32) (b_due : Int32) (b_strength : Nat → Int32) (b_back : Nat → Int32) (b_tides : Nat → Int32) (u : Nat → Int32) : Option (Int32 × Int32 × Int32 × (Nat → Int32)) :=
  bn1 (f_X0_tideOf n2 b_tideCount b_tides) (fun (r_1 : Int32) =>
    bn1 (f_X0_tideOf (n2 + (1 : Int32)) b_tideCount b_tides) (fun (r_2 : Int32) =>
      jn4 (fun (p_first_3 : Int32) (p_second_3 : Int32) (p_oats_3 : Int32) (p_tired_3 : Nat → Int32) =>
        some (p_first_3, p_second_3, p_oats_3, p_tired_3)
      ) (fun K136_3 =>
      lq5 (fun rec4 (y6_4 : Int32) (p_first_4 : Int32) (p_second_4 : Int32) (p_oats_4 : Int32) (p_tired_4 : Nat → Int32) =>
        if c_last < y6_4 then
          K136_3 p_first_4 p_second_4 p_oats_4 p_tired_4
        else
          bn1 (f_X0_dueMinutes b_due) (fun (r_5 : Int32) =>
            bn1 (f_X2_minutes y6_4 (r_1 - n3) r_5 c_who c_pull b_law b_broad u) (fun (r_6 : Int32) =>
              jn4 (fun (p_first_7 : Int32) (p_second_7 : Int32) (p_oats_7 : Int32) (p_tired_7 : Nat → Int32) =>
                rec4 (y6_4 + (1 : Int32)) p_first_7 p_second_7 p_oats_7 p_tired_7
              ) (fun J130_7 =>
              if r_6 = (-1 : Int32) then
                J130_7 p_first_4 p_second_4 p_oats_4 p_tired_4
              else
                bn1 (f_X2_oats y6_4 r_6 c_who c_pull u) (fun (r_8 : Int32) =>
                  jn1 (fun (u_9 : Unit) =>
                    bn1 (f_X2_tire y6_4 r_6 c_who b_horses b_strength b_back u p_tired_4) (fun (p_tired_10 : Nat → Int32) =>
                      bn3 (f_X3_searchSecond y6_4 r_8 (r_2 - n3) p_first_4 p_second_4 p_oats_4 p_tired_10 c_last c_who c_pull b_law b_broad b_due) (fun (p_first_11 : Int32) (p_second_11 : Int32) (p_oats_11 : Int32) =>
                        J130_7 p_first_11 p_second_11 p_oats_11 p_tired_10
                      )
                    )
                  ) (fun J104_9 =>
                  if p_first_4 = (-1 : Int32) then
                    J104_9 ()
                  else
                    if p_oats_4 ≤ r_8 then
                      J130_7 p_first_4 p_second_4 p_oats_4 p_tired_4
                    else
                      J104_9 ()
                  )
                )
              )
            )
          )
      ) fu (1 : Int32) (-1 : Int32) p_second p_oats p_tired
      )
    )
  )
abbrev rm_X3_search : Room := { frames := 4, cells := 0, slots := 0, locals := 126 }
theorem dk_X3_search : yX3_search.cls = RX3 ∧ yX3_search.cls ≠ "java/lang/invoke/MethodHandle" ∧ yX3_search.cls ≠ "java/lang/invoke/VarHandle" ∧ (parseMethodDescriptor yX3_search.desc).map (fun d => d.parameters.length) = some 3 := by decide +kernel
set_option maxHeartbeats 4000000 in
set_option maxRecDepth 100000 in
theorem c_X3_search (l : Launch) (dC : Nat → ClassId) (dI : Nat → Nat → Nat) (cI cZ cII : ClassId) (qp qp_tired qc qc_who qc_pull qb qb_pull qb_strength qb_back qb_moods qb_tides qb_carts qu : Nat) (sz : Nat) (p_known : Int32) (p_load : Int32) (p_first : Int32) (p_second : Int32) (p_oats : Int32) (p_tired : Nat → Int32) (c_last : Int32) (c_who : Nat → Int32) (c_pull : Nat → Int32) (b_law : Int32) (b_places : Int32) (b_broad : Int32) (b_horses : Int32) (b_blinds : Int32) (b_besides : Int32) (b_tideCount : Int32) (b_cartCount : Int32) (b_due : Int32) (b_pairs : Int64) (b_pull : Nat → Int32) (b_strength : Nat → Int32) (b_back : Nat → Int32) (b_moods : Nat → Int32) (b_tides : Nat → Int32) (b_carts : Nat → Int32) (u : Nat → Int32) (n2 : Int32) (n3 : Int32) (p_first' : Int32) (p_second' : Int32) (p_oats' : Int32) (p_tired' : Nat → Int32) (hf : f_X3_search n2 n3 p_first p_second p_oats p_tired c_last c_who c_pull b_law b_broad b_horses b_tideCount b_due b_strength b_back b_tides u = some (p_first', p_second', p_oats', p_tired')) : Met l yX3_search (wM yX3_search cX3_search 9 none) rm_X3_search (PreW (dC, dI) (tyA cI cZ cII) (W_X3p_X2c_X0b_au6 cI cZ cII qp qp_tired qc qc_who qc_pull qb qb_pull qb_strength qb_back qb_moods qb_tides qb_carts qu p_known p_load p_first p_second p_oats p_tired c_last c_who c_pull b_law b_places b_broad b_horses b_blinds b_besides b_tideCount b_cartCount b_due b_pairs b_pull b_strength b_back b_moods b_tides b_carts u) sz [.ref qp, .ref qu, .int n2, .int n3]) (PostV (dC, dI) (tyA cI cZ cII) (W_X3p_X2c_X0b_au6 cI cZ cII qp qp_tired qc qc_who qc_pull qb qb_pull qb_strength qb_back qb_moods qb_tides qb_carts qu p_known p_load p_first p_second p_oats p_tired c_last c_who c_pull b_law b_places b_broad b_horses b_blinds b_besides b_tideCount b_cartCount b_due b_pairs b_pull b_strength b_back b_moods b_tides b_carts u) (W_X3p_X2c_X0b_au6 cI cZ cII qp qp_tired qc qc_who qc_pull qb qb_pull qb_strength qb_back qb_moods qb_tides qb_carts qu p_known p_load p_first' p_second' p_oats' p_tired' c_last c_who c_pull b_law b_places b_broad b_horses b_blinds b_besides b_tideCount b_cartCount b_due b_pairs b_pull b_strength b_back b_moods b_tides b_carts u) sz) 0 0 (va_A (W_X3p_X2c_X0b_au6 cI cZ cII qp qp_tired qc qc_who qc_pull qb qb_pull qb_strength qb_back qb_moods qb_tides qb_carts qu p_known p_load p_first p_second p_oats p_tired c_last c_who c_pull b_law b_places b_broad b_horses b_blinds b_besides b_tideCount b_cartCount b_due b_pairs b_pull b_strength b_back b_moods b_tides b_carts u) sz) := by
  refine Met.ofW (cc := cX3_search) (maxL := 9) (ret := none) (by decide) rfl ?_
  intro p e s m args below meth c s₁ B hml hv
  obtain ⟨rfl, hsz, hP, hK, hD0⟩ := hv
  have hx := B.exec
  have hb := B.bytes
  have hr := B.returns
  have hts := atoms_spec (ws := wM yX3_search cX3_search 9 none) B.pre
  have hown : s.vm.findClass RX3 = some m.cls := findClass_of_methodNamed B.named
  have hlocks := B.notSynchronized
  subst hsz
  have hD := hD0.self (sz := s.heap.size)
  obtain ⟨A, hAe⟩ : ∃ A, A = va_A (W_X3p_X2c_X0b_au6 cI cZ cII qp qp_tired qc qc_who qc_pull qb qb_pull qb_strength qb_back qb_moods qb_tides qb_carts qu p_known p_load p_first p_second p_oats p_tired c_last c_who c_pull b_law b_places b_broad b_horses b_blinds b_besides b_tideCount b_cartCount b_due b_pairs b_pull b_strength b_back b_moods b_tides b_carts u) s.heap.size := ⟨_, rfl⟩
  rw [← hAe] at hD
  have hA : ∀ q : Nat, s.heap.size ≤ q → A q := fun q h => by rw [hAe]; exact Or.inr h
  have hS : va_S A s.heap s.heap [] := va_S.rf
  have hl := lv_entry ([.ref qp, .ref qu, .int n2, .int n3]) (n := 9) (Nat.le_of_ble_eq_true rfl)
  rw [lg_entry_eq]
  generalize (lg_sl ([.ref qp, .ref qu, .int n2, .int n3]) ++ List.replicate (9 - (lg_sl ([.ref qp, .ref qu, .int n2, .int n3])).length) Slot.unset).toArray = ls at hl ⊢
  have hl : lv_has ls 9 [(0, .ref qp), (1, .ref qu), (2, .int n2), (3, .int n3)] := hl
  generalize ([.ref qp, .ref qu, .int n2, .int n3] : List Value).toArray = args at hts ⊢
  have hw : ∀ w ∈ wsL_law, w.before args s = true := fun w h => hts w (List.mem_cons_of_mem _ h)
  refine pg_start (fun Q hQ => ?_)
  have RET : ∀ (H : Heap) (locs : List Loc) (ls : Array Slot) (pc : Nat) (x0 : Int32) (x1 : Int32) (x2 : Int32) (x3 : Nat → Int32) , decode cX3_search pc = .ok (.return_, 1) → va_P (dC, dI) vwCl (W_X3p_X2c_X0b_au6 cI cZ cII qp qp_tired qc qc_who qc_pull qb qb_pull qb_strength qb_back qb_moods qb_tides qb_carts qu p_known p_load x0 x1 x2 x3 c_last c_who c_pull b_law b_places b_broad b_horses b_blinds b_besides b_tideCount b_cartCount b_due b_pairs b_pull b_strength b_back b_moods b_tides b_carts u) H → va_D A (W_X3p_X2c_X0b_au6 cI cZ cII qp qp_tired qc qc_who qc_pull qb qb_pull qb_strength qb_back qb_moods qb_tides qb_carts qu p_known p_load x0 x1 x2 x3 c_last c_who c_pull b_law b_places b_broad b_horses b_blinds b_besides b_tideCount b_cartCount b_due b_pairs b_pull b_strength b_back b_moods b_tides b_carts u) → va_S A s.heap H locs → (some (x0, x1, x2, x3) : Option (Int32 × Int32 × Int32 × (Nat → Int32))) = some (p_first', p_second', p_oats', p_tired') → W p l e rm_X3_search s m args below meth c H locs 0 0 Q (F0 m pc ls []) := by
    intro H locs ls pc x0 x1 x2 x3 hd hP hD hS he
    subst hAe; subst hQ
    simp only [Option.some.injEq, Prod.mk.injEq] at he
    obtain ⟨rfl, rfl, rfl, rfl⟩ := he
    exact pg_vret hx hb hr hlocks hK hP hD hS hd
  unfold f_X3_search at hf
  refine lv_aload_n hx hb dX3_search_0 rfl (lv_at hl 0 rfl) ?_
  refine va_get (D := (dC, dI)) (ci := 3) (v := .ref qb) (C := RX3) (T := TX3) (N := 8) hx hb hw inlX3 hown hK hP 0 rfl rfl 5 (by decide) (hw _ mw_4_21) (fun _ h9 => h9) rfl dX3_search_1 ?_
  refine lv_iload_n hx hb dX3_search_4 rfl (lv_at hl 2 rfl) ?_
  obtain ⟨r_1, hc, hf⟩ := bn1_s hf
  refine pg_cVi (As := [.int n2]) (rest := []) (wf := (W_X3p_X2c_X0b_au6 cI cZ cII qp qp_tired qc qc_who qc_pull qb qb_pull qb_strength qb_back qb_moods qb_tides qb_carts qu p_known p_load p_first p_second p_oats p_tired c_last c_who c_pull b_law b_places b_broad b_horses b_blinds b_besides b_tideCount b_cartCount b_due b_pairs b_pull b_strength b_back b_moods b_tides b_carts u)) ⟨hx, hb, hml, hown, hw⟩ (c_X0_tideOf l dC dI cI cZ cII qb qb_pull qb_strength qb_back qb_moods qb_tides qb_carts s.heap.size b_law b_places b_broad b_horses b_blinds b_besides b_tideCount b_cartCount b_due b_pairs b_pull b_strength b_back b_moods b_tides b_carts n2 r_1 hc) (cwV 1 hts (wM_V mw_37_21 mw_23_12 mw_23_13 mw_1_15 mw_23_14) rfl rfl rfl dk_X0_tideOf ⟨Nat.le_of_ble_eq_true rfl, Nat.le_of_ble_eq_true rfl⟩) hK hP hD hS hA 0 0 rfl rfl rfl [5, 6, 7, 8, 9, 10, 11] [0, 1, 2, 3, 4, 12] [0, 1, 2, 3, 4, 6, 7, 8, 9, 10, 11, 12, 5] rfl rfl rfl (by decide) rfl hl.1 rfl (Nat.le_of_ble_eq_true rfl) dX3_search_5 ⟨Nat.zero_le _, Nat.zero_le _⟩ (fun H locs hP hD hS => ?_)
  refine lv_iload_n hx hb dX3_search_8 rfl (lv_at hl 3 rfl) ?_
  refine lv_isub hx hb dX3_search_9 ?_
  refine lv_istore (lv' := [(4, .int (r_1 - n3)), (0, .ref qp), (1, .ref qu), (2, .int n2), (3, .int n3)]) hx hb dX3_search_10 hl (by decide) rfl (fun ls hl => ?_)
  refine lv_aload_n hx hb dX3_search_12 rfl (lv_at hl 1 rfl) ?_
  refine va_get (D := (dC, dI)) (ci := 3) (v := .ref qb) (C := RX3) (T := TX3) (N := 8) hx hb hw inlX3 hown hK hP 0 rfl rfl 5 (by decide) (hw _ mw_4_21) (fun _ h9 => h9) rfl dX3_search_13 ?_
  refine lv_iload_n hx hb dX3_search_16 rfl (lv_at hl 3 rfl) ?_
  refine lv_iconst (v := (1 : Int32)) hx hb dX3_search_17 (by decide) ?_
  refine lv_iadd hx hb dX3_search_18 ?_
  obtain ⟨r_2, hc, hf⟩ := bn1_s hf
  refine pg_cVi (As := [.int (n2 + (1 : Int32))]) (rest := []) (wf := (W_X3p_X2c_X0b_au6 cI cZ cII qp qp_tired qc qc_who qc_pull qb qb_pull qb_strength qb_back qb_moods qb_tides qb_carts qu p_known p_load p_first p_second p_oats p_tired c_last c_who c_pull b_law b_places b_broad b_horses b_blinds b_besides b_tideCount b_cartCount b_due b_pairs b_pull b_strength b_back b_moods b_tides b_carts u)) ⟨hx, hb, hml, hown, hw⟩ (c_X0_tideOf l dC dI cI cZ cII qb qb_pull qb_strength qb_back qb_moods qb_tides qb_carts H.size b_law b_places b_broad b_horses b_blinds b_besides b_tideCount b_cartCount b_due b_pairs b_pull b_strength b_back b_moods b_tides b_carts (n2 + (1 : Int32)) r_2 hc) (cwV 1 hts (wM_V mw_37_21 mw_23_12 mw_23_13 mw_1_15 mw_23_14) rfl rfl rfl dk_X0_tideOf ⟨Nat.le_of_ble_eq_true rfl, Nat.le_of_ble_eq_true rfl⟩) hK hP hD hS hA 0 0 rfl rfl rfl [5, 6, 7, 8, 9, 10, 11] [0, 1, 2, 3, 4, 12] [0, 1, 2, 3, 4, 6, 7, 8, 9, 10, 11, 12, 5] rfl rfl rfl (by decide) rfl hl.1 rfl (Nat.le_of_ble_eq_true rfl) dX3_search_19 ⟨Nat.zero_le _, Nat.zero_le _⟩ (fun H locs hP hD hS => ?_)
  refine lv_iload_n hx hb dX3_search_22 rfl (lv_at hl 4 rfl) ?_
  refine lv_isub hx hb dX3_search_23 ?_
  refine lv_istore (lv' := [(5, .int (r_2 - n3)), (4, .int (r_1 - n3)), (0, .ref qp), (1, .ref qu), (2, .int n2), (3, .int n3)]) hx hb dX3_search_24 hl (by decide) rfl (fun ls hl => ?_)
  refine lv_aload_n hx hb dX3_search_26 rfl (lv_at hl 2 rfl) ?_
  refine lv_iconst (v := (-1 : Int32)) hx hb dX3_search_27 (by decide) ?_
  refine va_put (D := (dC, dI)) (ci := 3) (v := .int (-1 : Int32)) (ty := .int) (C := RX3) (T := TX3) (N := 8) hx hb hw inlX3 tyX3 tyX3_ok nmX3 hown hK hP hD hS 0 rfl rfl 2 (by decide) (hw _ mw_37_14) (fun _ h9 => h9) rfl (by decide +kernel) rfl rfl (Nat.le_of_ble_eq_true rfl) dX3_search_28 (fun H locs hP hD hS => ?_)
  have hP : va_P (dC, dI) vwCl (W_X3p_X2c_X0b_au6 cI cZ cII qp qp_tired qc qc_who qc_pull qb qb_pull qb_strength qb_back qb_moods qb_tides qb_carts qu p_known p_load (-1 : Int32) p_second p_oats p_tired c_last c_who c_pull b_law b_places b_broad b_horses b_blinds b_besides b_tideCount b_cartCount b_due b_pairs b_pull b_strength b_back b_moods b_tides b_carts u) H := hP
  have hD : va_D A (W_X3p_X2c_X0b_au6 cI cZ cII qp qp_tired qc qc_who qc_pull qb qb_pull qb_strength qb_back qb_moods qb_tides qb_carts qu p_known p_load (-1 : Int32) p_second p_oats p_tired c_last c_who c_pull b_law b_places b_broad b_horses b_blinds b_besides b_tideCount b_cartCount b_due b_pairs b_pull b_strength b_back b_moods b_tides b_carts u) := hD
  refine lv_iconst (v := (1 : Int32)) hx hb dX3_search_31 (by decide) ?_
  refine lv_istore (lv' := [(6, .int (1 : Int32)), (5, .int (r_2 - n3)), (4, .int (r_1 - n3)), (0, .ref qp), (1, .ref qu), (2, .int n2), (3, .int n3)]) hx hb dX3_search_32 hl (by decide) rfl (fun ls hl => ?_)
  obtain ⟨K136_3, hK136_3, hf⟩ := jn4_s hf
  have WK136_3 : ∀ (p_first_3 : Int32) (p_second_3 : Int32) (p_oats_3 : Int32) (p_tired_3 : Nat → Int32) (H : Heap) (locs : List Loc) (ls : Array Slot), va_P (dC, dI) vwCl (W_X3p_X2c_X0b_au6 cI cZ cII qp qp_tired qc qc_who qc_pull qb qb_pull qb_strength qb_back qb_moods qb_tides qb_carts qu p_known p_load p_first_3 p_second_3 p_oats_3 p_tired_3 c_last c_who c_pull b_law b_places b_broad b_horses b_blinds b_besides b_tideCount b_cartCount b_due b_pairs b_pull b_strength b_back b_moods b_tides b_carts u) H → va_D A (W_X3p_X2c_X0b_au6 cI cZ cII qp qp_tired qc qc_who qc_pull qb qb_pull qb_strength qb_back qb_moods qb_tides qb_carts qu p_known p_load p_first_3 p_second_3 p_oats_3 p_tired_3 c_last c_who c_pull b_law b_places b_broad b_horses b_blinds b_besides b_tideCount b_cartCount b_due b_pairs b_pull b_strength b_back b_moods b_tides b_carts u) → va_S A s.heap H locs → lv_has ls 9 [] → K136_3 p_first_3 p_second_3 p_oats_3 p_tired_3 = some (p_first', p_second', p_oats', p_tired') → W p l e rm_X3_search s m args below meth c H locs 0 0 Q (F0 m 136 ls []) := by
    intro p_first_3 p_second_3 p_oats_3 p_tired_3 H locs ls hP hD hS hl hf
    have hf := hK136_3 _ _ _ _ hf
    exact RET _ _ _ _ _ _ _ _ dX3_search_136 hP hD hS hf
  obtain ⟨B4, hB4, hf⟩ := lq5_n hf
  have WL4 : ∀ (n9 : Nat) (y6_4 : Int32) (p_first_4 : Int32) (p_second_4 : Int32) (p_oats_4 : Int32) (p_tired_4 : Nat → Int32) (H : Heap) (locs : List Loc) (ls : Array Slot), va_P (dC, dI) vwCl (W_X3p_X2c_X0b_au6 cI cZ cII qp qp_tired qc qc_who qc_pull qb qb_pull qb_strength qb_back qb_moods qb_tides qb_carts qu p_known p_load p_first_4 p_second_4 p_oats_4 p_tired_4 c_last c_who c_pull b_law b_places b_broad b_horses b_blinds b_besides b_tideCount b_cartCount b_due b_pairs b_pull b_strength b_back b_moods b_tides b_carts u) H → va_D A (W_X3p_X2c_X0b_au6 cI cZ cII qp qp_tired qc qc_who qc_pull qb qb_pull qb_strength qb_back qb_moods qb_tides qb_carts qu p_known p_load p_first_4 p_second_4 p_oats_4 p_tired_4 c_last c_who c_pull b_law b_places b_broad b_horses b_blinds b_besides b_tideCount b_cartCount b_due b_pairs b_pull b_strength b_back b_moods b_tides b_carts u) → va_S A s.heap H locs → lv_has ls 9 [(0, .ref qp), (1, .ref qu), (4, .int (r_1 - n3)), (5, .int (r_2 - n3)), (6, .int y6_4)] → lq5 B4 n9 y6_4 p_first_4 p_second_4 p_oats_4 p_tired_4 = some (p_first', p_second', p_oats', p_tired') → W p l e rm_X3_search s m args below meth c H locs 0 0 Q (F0 m 34 ls []) := by
    intro n9
    induction n9 with
    | zero => intro y6_4 p_first_4 p_second_4 p_oats_4 p_tired_4 H locs ls hP hD hS hl hf; cases hf
    | succ n9 ih =>
      intro y6_4 p_first_4 p_second_4 p_oats_4 p_tired_4 H locs ls hP hD hS hl hf
      obtain ⟨rec4, hrec4, hf⟩ := lq5_s hf
      have hf := hB4 rec4 _ _ _ _ _ hf
      refine lv_iload hx hb dX3_search_34 (lv_at hl 4 rfl) ?_
      refine lv_aload_n hx hb dX3_search_36 rfl (lv_at hl 0 rfl) ?_
      refine va_get (D := (dC, dI)) (ci := 3) (v := .ref qc) (C := RX3) (T := TX3) (N := 8) hx hb hw inlX3 hown hK hP 0 rfl rfl 6 (by decide) (hw _ mw_4_22) (fun _ h9 => h9) rfl dX3_search_37 ?_
      refine va_get (D := (dC, dI)) (ci := 2) (v := .int c_last) (C := RX2) (T := TX2) (N := 4) hx hb hw inlX2 hown hK hP 2 rfl rfl 0 (by decide) (hw _ mw_37_19) (fun _ h9 => h9) rfl dX3_search_40 ?_
      refine lv_icmp_gt (tgt := 136) hx hb dX3_search_43 (by decide) (fun h9 => ?_) (fun h9 => ?_)
      · have hf := pg_t h9 hf
        exact WK136_3 _ _ _ _ _ _ _ hP hD hS (lv_sub hl [] rfl) hf
      · have hf := pg_f h9 hf
        refine lv_aload_n hx hb dX3_search_46 rfl (lv_at hl 0 rfl) ?_
        refine va_get (D := (dC, dI)) (ci := 3) (v := .ref qc) (C := RX3) (T := TX3) (N := 8) hx hb hw inlX3 hown hK hP 0 rfl rfl 6 (by decide) (hw _ mw_4_22) (fun _ h9 => h9) rfl dX3_search_47 ?_
        refine lv_iload hx hb dX3_search_50 (lv_at hl 4 rfl) ?_
        refine lv_aload_n hx hb dX3_search_52 rfl (lv_at hl 1 rfl) ?_
        refine lv_iload hx hb dX3_search_53 (lv_at hl 2 rfl) ?_
        refine lv_aload_n hx hb dX3_search_55 rfl (lv_at hl 0 rfl) ?_
        refine va_get (D := (dC, dI)) (ci := 3) (v := .ref qb) (C := RX3) (T := TX3) (N := 8) hx hb hw inlX3 hown hK hP 0 rfl rfl 5 (by decide) (hw _ mw_4_21) (fun _ h9 => h9) rfl dX3_search_56 ?_
        obtain ⟨r_5, hc, hf⟩ := bn1_s hf
        refine pg_cVi (As := []) (rest := [.int (r_1 - n3), .ref qu, .int y6_4, .ref qc]) (wf := (W_X3p_X2c_X0b_au6 cI cZ cII qp qp_tired qc qc_who qc_pull qb qb_pull qb_strength qb_back qb_moods qb_tides qb_carts qu p_known p_load p_first_4 p_second_4 p_oats_4 p_tired_4 c_last c_who c_pull b_law b_places b_broad b_horses b_blinds b_besides b_tideCount b_cartCount b_due b_pairs b_pull b_strength b_back b_moods b_tides b_carts u)) ⟨hx, hb, hml, hown, hw⟩ (c_X0_dueMinutes l dC dI cI cZ cII qb qb_pull qb_strength qb_back qb_moods qb_tides qb_carts H.size b_law b_places b_broad b_horses b_blinds b_besides b_tideCount b_cartCount b_due b_pairs b_pull b_strength b_back b_moods b_tides b_carts  r_5 hc) (cwV 0 hts (wM_V mw_37_22 mw_23_8 mw_23_9 mw_1_15 mw_23_10) rfl rfl rfl dk_X0_dueMinutes ⟨Nat.le_of_ble_eq_true rfl, Nat.le_of_ble_eq_true rfl⟩) hK hP hD hS hA 0 0 rfl rfl rfl [5, 6, 7, 8, 9, 10, 11] [0, 1, 2, 3, 4, 12] [0, 1, 2, 3, 4, 6, 7, 8, 9, 10, 11, 12, 5] rfl rfl rfl (by decide) rfl hl.1 rfl (Nat.le_of_ble_eq_true rfl) dX3_search_59 ⟨Nat.zero_le _, Nat.zero_le _⟩ (fun H locs hP hD hS => ?_)
        obtain ⟨r_6, hc, hf⟩ := bn1_s hf
        refine pg_cVi (As := [.int y6_4, .ref qu, .int (r_1 - n3), .int r_5]) (rest := []) (wf := (W_X3p_X2c_X0b_au6 cI cZ cII qp qp_tired qc qc_who qc_pull qb qb_pull qb_strength qb_back qb_moods qb_tides qb_carts qu p_known p_load p_first_4 p_second_4 p_oats_4 p_tired_4 c_last c_who c_pull b_law b_places b_broad b_horses b_blinds b_besides b_tideCount b_cartCount b_due b_pairs b_pull b_strength b_back b_moods b_tides b_carts u)) ⟨hx, hb, hml, hown, hw⟩ (c_X2_minutes l dC dI cI cZ cII qc qc_who qc_pull qb qb_pull qb_strength qb_back qb_moods qb_tides qb_carts qu H.size c_last c_who c_pull b_law b_places b_broad b_horses b_blinds b_besides b_tideCount b_cartCount b_due b_pairs b_pull b_strength b_back b_moods b_tides b_carts u y6_4 (r_1 - n3) r_5 r_6 hc) (cwV 4 hts (wM_V mw_37_23 mw_29_2 mw_29_3 mw_2_0 mw_29_4) rfl rfl rfl dk_X2_minutes ⟨Nat.le_of_ble_eq_true rfl, Nat.le_of_ble_eq_true rfl⟩) hK hP hD hS hA 2 0 rfl rfl rfl [2, 3, 4, 5, 6, 7, 8, 9, 10, 11, 12] [0, 1] [0, 1, 2, 3, 4, 5, 6, 7, 8, 9, 10, 11, 12] rfl rfl rfl (by decide) rfl hl.1 rfl (Nat.le_of_ble_eq_true rfl) dX3_search_62 ⟨Nat.zero_le _, Nat.zero_le _⟩ (fun H locs hP hD hS => ?_)
        refine lv_istore (lv' := [(7, .int r_6), (0, .ref qp), (1, .ref qu), (4, .int (r_1 - n3)), (5, .int (r_2 - n3)), (6, .int y6_4)]) hx hb dX3_search_65 hl (by decide) rfl (fun ls hl => ?_)
        refine lv_iload hx hb dX3_search_67 (lv_at hl 0 rfl) ?_
        refine lv_iconst (v := (-1 : Int32)) hx hb dX3_search_69 (by decide) ?_
        obtain ⟨J130_7, hJ130_7, hf⟩ := jn4_s hf
        have WJ130_7 : ∀ (p_first_7 : Int32) (p_second_7 : Int32) (p_oats_7 : Int32) (p_tired_7 : Nat → Int32) (H : Heap) (locs : List Loc) (ls : Array Slot), va_P (dC, dI) vwCl (W_X3p_X2c_X0b_au6 cI cZ cII qp qp_tired qc qc_who qc_pull qb qb_pull qb_strength qb_back qb_moods qb_tides qb_carts qu p_known p_load p_first_7 p_second_7 p_oats_7 p_tired_7 c_last c_who c_pull b_law b_places b_broad b_horses b_blinds b_besides b_tideCount b_cartCount b_due b_pairs b_pull b_strength b_back b_moods b_tides b_carts u) H → va_D A (W_X3p_X2c_X0b_au6 cI cZ cII qp qp_tired qc qc_who qc_pull qb qb_pull qb_strength qb_back qb_moods qb_tides qb_carts qu p_known p_load p_first_7 p_second_7 p_oats_7 p_tired_7 c_last c_who c_pull b_law b_places b_broad b_horses b_blinds b_besides b_tideCount b_cartCount b_due b_pairs b_pull b_strength b_back b_moods b_tides b_carts u) → va_S A s.heap H locs → lv_has ls 9 [(0, .ref qp), (1, .ref qu), (4, .int (r_1 - n3)), (5, .int (r_2 - n3)), (6, .int y6_4)] → J130_7 p_first_7 p_second_7 p_oats_7 p_tired_7 = some (p_first', p_second', p_oats', p_tired') → W p l e rm_X3_search s m args below meth c H locs 0 0 Q (F0 m 130 ls []) := by
          intro p_first_7 p_second_7 p_oats_7 p_tired_7 H locs ls hP hD hS hl hf
          have hf := hJ130_7 _ _ _ _ hf
          refine lv_iinc (v := (y6_4 + (1 : Int32))) (lv' := [(6, .int (y6_4 + (1 : Int32))), (0, .ref qp), (1, .ref qu), (4, .int (r_1 - n3)), (5, .int (r_2 - n3))]) hx hb dX3_search_130 hl (k := 4) rfl rfl (by decide) rfl (fun ls hl => ?_)
          refine lv_goto (tgt := 34) hx hb dX3_search_133 (by decide) ?_
          exact ih _ _ _ _ _ _ _ _ hP hD hS (lv_sub hl [1, 2, 3, 4, 0] rfl) (hrec4 _ _ _ _ _ hf)
        refine lv_icmp_eq (tgt := 130) hx hb dX3_search_70 (by decide) (fun h9 => ?_) (fun h9 => ?_)
        · have hf := pg_t h9 hf
          exact WJ130_7 _ _ _ _ _ _ _ hP hD hS (lv_sub hl [1, 2, 3, 4, 5] rfl) hf
        · have hf := pg_f h9 hf
          refine lv_aload_n hx hb dX3_search_73 rfl (lv_at hl 1 rfl) ?_
          refine va_get (D := (dC, dI)) (ci := 3) (v := .ref qc) (C := RX3) (T := TX3) (N := 8) hx hb hw inlX3 hown hK hP 0 rfl rfl 6 (by decide) (hw _ mw_4_22) (fun _ h9 => h9) rfl dX3_search_74 ?_
          refine lv_iload hx hb dX3_search_77 (lv_at hl 5 rfl) ?_
          refine lv_aload_n hx hb dX3_search_79 rfl (lv_at hl 2 rfl) ?_
          refine lv_iload hx hb dX3_search_80 (lv_at hl 0 rfl) ?_
          obtain ⟨r_8, hc, hf⟩ := bn1_s hf
          refine pg_cVi (As := [.int y6_4, .ref qu, .int r_6]) (rest := []) (wf := (W_X3p_X2c_X0b_au6 cI cZ cII qp qp_tired qc qc_who qc_pull qb qb_pull qb_strength qb_back qb_moods qb_tides qb_carts qu p_known p_load p_first_4 p_second_4 p_oats_4 p_tired_4 c_last c_who c_pull b_law b_places b_broad b_horses b_blinds b_besides b_tideCount b_cartCount b_due b_pairs b_pull b_strength b_back b_moods b_tides b_carts u)) ⟨hx, hb, hml, hown, hw⟩ (c_X2_oats l dC dI cI cZ cII qc qc_who qc_pull qb qb_pull qb_strength qb_back qb_moods qb_tides qb_carts qu H.size c_last c_who c_pull b_law b_places b_broad b_horses b_blinds b_besides b_tideCount b_cartCount b_due b_pairs b_pull b_strength b_back b_moods b_tides b_carts u y6_4 r_6 r_8 hc) (cwV 3 hts (wM_V mw_38_0 mw_29_17 mw_29_18 mw_2_0 mw_29_19) rfl rfl rfl dk_X2_oats ⟨Nat.le_of_ble_eq_true rfl, Nat.le_of_ble_eq_true rfl⟩) hK hP hD hS hA 2 0 rfl rfl rfl [2, 3, 4, 5, 6, 7, 8, 9, 10, 11, 12] [0, 1] [0, 1, 2, 3, 4, 5, 6, 7, 8, 9, 10, 11, 12] rfl rfl rfl (by decide) rfl hl.1 rfl (Nat.le_of_ble_eq_true rfl) dX3_search_82 ⟨Nat.zero_le _, Nat.zero_le _⟩ (fun H locs hP hD hS => ?_)
          refine lv_istore (lv' := [(8, .int r_8), (7, .int r_6), (0, .ref qp), (1, .ref qu), (4, .int (r_1 - n3)), (5, .int (r_2 - n3)), (6, .int y6_4)]) hx hb dX3_search_85 hl (by decide) rfl (fun ls hl => ?_)
          refine lv_aload_n hx hb dX3_search_87 rfl (lv_at hl 2 rfl) ?_
          refine va_get (D := (dC, dI)) (ci := 3) (v := .int p_first_4) (C := RX3) (T := TX3) (N := 8) hx hb hw inlX3 hown hK hP 0 rfl rfl 2 (by decide) (hw _ mw_37_14) (fun _ h9 => h9) rfl dX3_search_88 ?_
          refine lv_iconst (v := (-1 : Int32)) hx hb dX3_search_91 (by decide) ?_
          obtain ⟨J104_9, hJ104_9, hf⟩ := jn1_s hf
          have WJ104_9 : ∀ (u_9 : Unit) (H : Heap) (locs : List Loc) (ls : Array Slot), va_P (dC, dI) vwCl (W_X3p_X2c_X0b_au6 cI cZ cII qp qp_tired qc qc_who qc_pull qb qb_pull qb_strength qb_back qb_moods qb_tides qb_carts qu p_known p_load p_first_4 p_second_4 p_oats_4 p_tired_4 c_last c_who c_pull b_law b_places b_broad b_horses b_blinds b_besides b_tideCount b_cartCount b_due b_pairs b_pull b_strength b_back b_moods b_tides b_carts u) H → va_D A (W_X3p_X2c_X0b_au6 cI cZ cII qp qp_tired qc qc_who qc_pull qb qb_pull qb_strength qb_back qb_moods qb_tides qb_carts qu p_known p_load p_first_4 p_second_4 p_oats_4 p_tired_4 c_last c_who c_pull b_law b_places b_broad b_horses b_blinds b_besides b_tideCount b_cartCount b_due b_pairs b_pull b_strength b_back b_moods b_tides b_carts u) → va_S A s.heap H locs → lv_has ls 9 [(0, .ref qp), (1, .ref qu), (4, .int (r_1 - n3)), (5, .int (r_2 - n3)), (6, .int y6_4), (7, .int r_6), (8, .int r_8)] → J104_9 u_9 = some (p_first', p_second', p_oats', p_tired') → W p l e rm_X3_search s m args below meth c H locs 0 0 Q (F0 m 104 ls []) := by
            intro u_9 H locs ls hP hD hS hl hf
            have hf := hJ104_9 _ hf
            refine lv_aload_n hx hb dX3_search_104 rfl (lv_at hl 0 rfl) ?_
            refine va_get (D := (dC, dI)) (ci := 3) (v := .ref qc) (C := RX3) (T := TX3) (N := 8) hx hb hw inlX3 hown hK hP 0 rfl rfl 6 (by decide) (hw _ mw_4_22) (fun _ h9 => h9) rfl dX3_search_105 ?_
            refine lv_iload hx hb dX3_search_108 (lv_at hl 4 rfl) ?_
            refine lv_iload hx hb dX3_search_110 (lv_at hl 5 rfl) ?_
            refine lv_aload_n hx hb dX3_search_112 rfl (lv_at hl 1 rfl) ?_
            refine lv_aload_n hx hb dX3_search_113 rfl (lv_at hl 0 rfl) ?_
            refine va_get (D := (dC, dI)) (ci := 3) (v := .ref qp_tired) (C := RX3) (T := TX3) (N := 8) hx hb hw inlX3 hown hK hP 0 rfl rfl 7 (by decide) (hw _ mw_4_20) (fun _ h9 => h9) rfl dX3_search_114 ?_
            obtain ⟨p_tired_10, hc, hf⟩ := bn1_s hf
            refine pg_cVv (As := [.int y6_4, .int r_6, .ref qu, .ref qp_tired]) (rest := []) (wf := (W_X3p_X2c_X0b_au6 cI cZ cII qp qp_tired qc qc_who qc_pull qb qb_pull qb_strength qb_back qb_moods qb_tides qb_carts qu p_known p_load p_first_4 p_second_4 p_oats_4 p_tired_10 c_last c_who c_pull b_law b_places b_broad b_horses b_blinds b_besides b_tideCount b_cartCount b_due b_pairs b_pull b_strength b_back b_moods b_tides b_carts u)) ⟨hx, hb, hml, hown, hw⟩ (c_X2_tire l dC dI cI cZ cII qc qc_who qc_pull qb qb_pull qb_strength qb_back qb_moods qb_tides qb_carts qu qp_tired H.size c_last c_who c_pull b_law b_places b_broad b_horses b_blinds b_besides b_tideCount b_cartCount b_due b_pairs b_pull b_strength b_back b_moods b_tides b_carts u p_tired_4 y6_4 r_6 p_tired_10 hc) (cwV 4 hts (wM_V mw_38_1 mw_29_21 mw_29_22 mw_2_0 mw_29_23) rfl rfl rfl dk_X2_tire ⟨Nat.le_of_ble_eq_true rfl, Nat.le_of_ble_eq_true rfl⟩) hK hP hD hS hA 2 0 rfl rfl rfl [2, 3, 4, 5, 6, 7, 8, 9, 10, 11, 12, 1] [0] [0, 12, 1, 2, 3, 4, 5, 6, 7, 8, 9, 10, 11] rfl rfl rfl (by decide) rfl hl.1 rfl (Nat.le_of_ble_eq_true rfl) dX3_search_117 ⟨Nat.zero_le _, Nat.zero_le _⟩ (fun H locs hP hD hS => ?_)
            refine lv_aload_n hx hb dX3_search_120 rfl (lv_at hl 0 rfl) ?_
            refine lv_iload hx hb dX3_search_121 (lv_at hl 4 rfl) ?_
            refine lv_iload hx hb dX3_search_123 (lv_at hl 6 rfl) ?_
            refine lv_iload hx hb dX3_search_125 (lv_at hl 3 rfl) ?_
            obtain ⟨p_first_11, p_second_11, p_oats_11, hc, hf⟩ := bn3_s hf
            refine pg_cVv (As := [.int y6_4, .int r_8, .int (r_2 - n3)]) (rest := []) (wf := (W_X3p_X2c_X0b_au6 cI cZ cII qp qp_tired qc qc_who qc_pull qb qb_pull qb_strength qb_back qb_moods qb_tides qb_carts qu p_known p_load p_first_11 p_second_11 p_oats_11 p_tired_10 c_last c_who c_pull b_law b_places b_broad b_horses b_blinds b_besides b_tideCount b_cartCount b_due b_pairs b_pull b_strength b_back b_moods b_tides b_carts u)) ⟨hx, hb, hml, hown, hw⟩ (c_X3_searchSecond l dC dI cI cZ cII qp qp_tired qc qc_who qc_pull qb qb_pull qb_strength qb_back qb_moods qb_tides qb_carts H.size p_known p_load p_first_4 p_second_4 p_oats_4 p_tired_10 c_last c_who c_pull b_law b_places b_broad b_horses b_blinds b_besides b_tideCount b_cartCount b_due b_pairs b_pull b_strength b_back b_moods b_tides b_carts y6_4 r_8 (r_2 - n3) p_first_11 p_second_11 p_oats_11 hc) (cwV 3 hts (wM_V mw_38_2 mw_38_3 mw_38_4 mw_2_14 mw_38_5) rfl rfl rfl dk_X3_searchSecond ⟨Nat.le_of_ble_eq_true rfl, Nat.le_of_ble_eq_true rfl⟩) hK hP hD hS hA 3 0 rfl rfl rfl [0, 1, 2, 3, 4, 5, 6, 7, 8, 9, 10, 11] [12] [1, 2, 3, 4, 5, 6, 7, 8, 9, 10, 11, 12, 0] rfl rfl rfl (by decide) rfl hl.1 rfl (Nat.le_of_ble_eq_true rfl) dX3_search_127 ⟨Nat.zero_le _, Nat.zero_le _⟩ (fun H locs hP hD hS => ?_)
            exact WJ130_7 _ _ _ _ _ _ _ hP hD hS (lv_sub hl [0, 1, 2, 3, 4] rfl) hf
          refine lv_icmp_eq (tgt := 104) hx hb dX3_search_92 (by decide) (fun h9 => ?_) (fun h9 => ?_)
          · have hf := pg_t h9 hf
            exact WJ104_9 _ _ _ _ hP hD hS (lv_sub hl [2, 3, 4, 5, 6, 1, 0] rfl) hf
          · have hf := pg_f h9 hf
            refine lv_iload hx hb dX3_search_95 (lv_at hl 0 rfl) ?_
            refine lv_aload_n hx hb dX3_search_97 rfl (lv_at hl 2 rfl) ?_
            refine va_get (D := (dC, dI)) (ci := 3) (v := .int p_oats_4) (C := RX3) (T := TX3) (N := 8) hx hb hw inlX3 hown hK hP 0 rfl rfl 4 (by decide) (hw _ mw_37_20) (fun _ h9 => h9) rfl dX3_search_98 ?_
            refine lv_icmp_ge (tgt := 130) hx hb dX3_search_101 (by decide) (fun h9 => ?_) (fun h9 => ?_)
            · have hf := pg_t h9 hf
              exact WJ130_7 _ _ _ _ _ _ _ hP hD hS (lv_sub hl [2, 3, 4, 5, 6] rfl) hf
            · have hf := pg_f h9 hf
              exact WJ104_9 _ _ _ _ hP hD hS (lv_sub hl [2, 3, 4, 5, 6, 1, 0] rfl) hf
  exact WL4 fu _ _ _ _ _ _ _ _ hP hD hS (lv_sub hl [3, 4, 2, 1, 0] rfl) hf
def f_X3_find (n2 : Int32) (n3 : Int32) (p_known : Int32) (p_load : Int32) (p_first : Int32) (p_second : Int32) (p_oats : Int32) (p_tired : Nat → Int32) (c_last : Int32) (c_who : Nat → Int32) (c_pull : Nat → Int32) (b_law : Int32) (b_broad : Int32) (b_horses : Int32) (b_tideCount : Int32) (b_due : Int32) (b_strength : Nat → Int32) (b_back : Nat → Int32) (b_tides : Nat → Int32) (u : Nat → Int32) : Option (Int32 × Int32 × Int32 × Int32 × Int32 × Int32 × (Nat → Int32)) :=
  jn6 (fun (p_known_1 : Int32) (p_load_1 : Int32) (p_first_1 : Int32) (p_second_1 : Int32) (p_oats_1 : Int32) (p_tired_1 : Nat → Int32) =>
    if p_first_1 = (-1 : Int32) then
      some ((0 : Int32), p_known_1, p_load_1, p_first_1, p_second_1, p_oats_1, p_tired_1)
    else
      some ((1 : Int32), p_known_1, p_load_1, p_first_1, p_second_1, p_oats_1, p_tired_1)
  ) (fun J32_1 =>
  jn1 (fun (u_2 : Unit) =>
    bn4 (f_X3_search n2 n3 p_first p_second p_oats p_tired c_last c_who c_pull b_law b_broad b_horses b_tideCount b_due b_strength b_back b_tides u) (fun (p_first_3 : Int32) (p_second_3 : Int32) (p_oats_3 : Int32) (p_tired_3 : Nat → Int32) =>
      J32_1 (1 : Int32) n3 p_first_3 p_second_3 p_oats_3 p_tired_3
    )
  ) (fun J15_2 =>
  if p_known = 0 then
    J15_2 ()
  else
    if p_load = n3 then
      J32_1 p_known p_load p_first p_second p_oats p_tired
    else
      J15_2 ()
  )
  )
abbrev rm_X3_find : Room := { frames := 5, cells := 0, slots := 0, locals := 154 }
theorem dk_X3_find : yX3_find.cls = RX3 ∧ yX3_find.cls ≠ "java/lang/invoke/MethodHandle" ∧ yX3_find.cls ≠ "java/lang/invoke/VarHandle" ∧ (parseMethodDescriptor yX3_find.desc).map (fun d => d.parameters.length) = some 3 := by decide +kernel
set_option maxHeartbeats 4000000 in
set_option maxRecDepth 100000 in
theorem c_X3_find (l : Launch) (dC : Nat → ClassId) (dI : Nat → Nat → Nat) (cI cZ cII : ClassId) (qp qp_tired qc qc_who qc_pull qb qb_pull qb_strength qb_back qb_moods qb_tides qb_carts qu : Nat) (sz : Nat) (p_known : Int32) (p_load : Int32) (p_first : Int32) (p_second : Int32) (p_oats : Int32) (p_tired : Nat → Int32) (c_last : Int32) (c_who : Nat → Int32) (c_pull : Nat → Int32) (b_law : Int32) (b_places : Int32) (b_broad : Int32) (b_horses : Int32) (b_blinds : Int32) (b_besides : Int32) (b_tideCount : Int32) (b_cartCount : Int32) (b_due : Int32) (b_pairs : Int64) (b_pull : Nat → Int32) (b_strength : Nat → Int32) (b_back : Nat → Int32) (b_moods : Nat → Int32) (b_tides : Nat → Int32) (b_carts : Nat → Int32) (u : Nat → Int32) (n2 : Int32) (n3 : Int32) (rr : Int32) (p_known' : Int32) (p_load' : Int32) (p_first' : Int32) (p_second' : Int32) (p_oats' : Int32) (p_tired' : Nat → Int32) (hf : f_X3_find n2 n3 p_known p_load p_first p_second p_oats p_tired c_last c_who c_pull b_law b_broad b_horses b_tideCount b_due b_strength b_back b_tides u = some (rr, p_known', p_load', p_first', p_second', p_oats', p_tired')) : Met l yX3_find (wM yX3_find cX3_find 4 (some .boolean)) rm_X3_find (PreW (dC, dI) (tyA cI cZ cII) (W_X3p_X2c_X0b_au6 cI cZ cII qp qp_tired qc qc_who qc_pull qb qb_pull qb_strength qb_back qb_moods qb_tides qb_carts qu p_known p_load p_first p_second p_oats p_tired c_last c_who c_pull b_law b_places b_broad b_horses b_blinds b_besides b_tideCount b_cartCount b_due b_pairs b_pull b_strength b_back b_moods b_tides b_carts u) sz [.ref qp, .ref qu, .int n2, .int n3]) (PostI (dC, dI) (tyA cI cZ cII) rr (W_X3p_X2c_X0b_au6 cI cZ cII qp qp_tired qc qc_who qc_pull qb qb_pull qb_strength qb_back qb_moods qb_tides qb_carts qu p_known p_load p_first p_second p_oats p_tired c_last c_who c_pull b_law b_places b_broad b_horses b_blinds b_besides b_tideCount b_cartCount b_due b_pairs b_pull b_strength b_back b_moods b_tides b_carts u) (W_X3p_X2c_X0b_au6 cI cZ cII qp qp_tired qc qc_who qc_pull qb qb_pull qb_strength qb_back qb_moods qb_tides qb_carts qu p_known' p_load' p_first' p_second' p_oats' p_tired' c_last c_who c_pull b_law b_places b_broad b_horses b_blinds b_besides b_tideCount b_cartCount b_due b_pairs b_pull b_strength b_back b_moods b_tides b_carts u) sz) 0 0 (va_A (W_X3p_X2c_X0b_au6 cI cZ cII qp qp_tired qc qc_who qc_pull qb qb_pull qb_strength qb_back qb_moods qb_tides qb_carts qu p_known p_load p_first p_second p_oats p_tired c_last c_who c_pull b_law b_places b_broad b_horses b_blinds b_besides b_tideCount b_cartCount b_due b_pairs b_pull b_strength b_back b_moods b_tides b_carts u) sz) := by
  refine Met.ofW (cc := cX3_find) (maxL := 4) (ret := (some .boolean)) (by decide) rfl ?_
  intro p e s m args below meth c s₁ B hml hv
  obtain ⟨rfl, hsz, hP, hK, hD0⟩ := hv
  have hx := B.exec
  have hb := B.bytes
  have hr := B.returns
  have hts := atoms_spec (ws := wM yX3_find cX3_find 4 (some .boolean)) B.pre
  have hown : s.vm.findClass RX3 = some m.cls := findClass_of_methodNamed B.named
  have hlocks := B.notSynchronized
  subst hsz
  have hD := hD0.self (sz := s.heap.size)
  obtain ⟨A, hAe⟩ : ∃ A, A = va_A (W_X3p_X2c_X0b_au6 cI cZ cII qp qp_tired qc qc_who qc_pull qb qb_pull qb_strength qb_back qb_moods qb_tides qb_carts qu p_known p_load p_first p_second p_oats p_tired c_last c_who c_pull b_law b_places b_broad b_horses b_blinds b_besides b_tideCount b_cartCount b_due b_pairs b_pull b_strength b_back b_moods b_tides b_carts u) s.heap.size := ⟨_, rfl⟩
  rw [← hAe] at hD
  have hA : ∀ q : Nat, s.heap.size ≤ q → A q := fun q h => by rw [hAe]; exact Or.inr h
  have hS : va_S A s.heap s.heap [] := va_S.rf
  have hl := lv_entry ([.ref qp, .ref qu, .int n2, .int n3]) (n := 4) (Nat.le_of_ble_eq_true rfl)
  rw [lg_entry_eq]
  generalize (lg_sl ([.ref qp, .ref qu, .int n2, .int n3]) ++ List.replicate (4 - (lg_sl ([.ref qp, .ref qu, .int n2, .int n3])).length) Slot.unset).toArray = ls at hl ⊢
  have hl : lv_has ls 4 [(0, .ref qp), (1, .ref qu), (2, .int n2), (3, .int n3)] := hl
  generalize ([.ref qp, .ref qu, .int n2, .int n3] : List Value).toArray = args at hts ⊢
  have hw : ∀ w ∈ wsL_law, w.before args s = true := fun w h => hts w (List.mem_cons_of_mem _ h)
  refine pg_start (fun Q hQ => ?_)
  have RET : ∀ (H : Heap) (locs : List Loc) (ls : Array Slot) (pc : Nat) (v : Int32) (x0 : Int32) (x1 : Int32) (x2 : Int32) (x3 : Int32) (x4 : Int32) (x5 : Nat → Int32) , decode cX3_find pc = .ok (.ireturn, 1) → (v = 0 ∨ v = 1) → va_P (dC, dI) vwCl (W_X3p_X2c_X0b_au6 cI cZ cII qp qp_tired qc qc_who qc_pull qb qb_pull qb_strength qb_back qb_moods qb_tides qb_carts qu x0 x1 x2 x3 x4 x5 c_last c_who c_pull b_law b_places b_broad b_horses b_blinds b_besides b_tideCount b_cartCount b_due b_pairs b_pull b_strength b_back b_moods b_tides b_carts u) H → va_D A (W_X3p_X2c_X0b_au6 cI cZ cII qp qp_tired qc qc_who qc_pull qb qb_pull qb_strength qb_back qb_moods qb_tides qb_carts qu x0 x1 x2 x3 x4 x5 c_last c_who c_pull b_law b_places b_broad b_horses b_blinds b_besides b_tideCount b_cartCount b_due b_pairs b_pull b_strength b_back b_moods b_tides b_carts u) → va_S A s.heap H locs → (some (v, x0, x1, x2, x3, x4, x5) : Option (Int32 × Int32 × Int32 × Int32 × Int32 × Int32 × (Nat → Int32))) = some (rr, p_known', p_load', p_first', p_second', p_oats', p_tired') → W p l e rm_X3_find s m args below meth c H locs 0 0 Q (F0 m pc ls [.int v]) := by
    intro H locs ls pc v x0 x1 x2 x3 x4 x5 hd hz hP hD hS he
    subst hAe; subst hQ
    simp only [Option.some.injEq, Prod.mk.injEq] at he
    obtain ⟨rfl, rfl, rfl, rfl, rfl, rfl, rfl⟩ := he
    exact pg_zret hx hb hr hlocks hz hK hP hD hS hd
  unfold f_X3_find at hf
  refine lv_aload_n hx hb dX3_find_0 rfl (lv_at hl 0 rfl) ?_
  refine va_get (D := (dC, dI)) (ci := 3) (v := .int p_known) (C := RX3) (T := TX3) (N := 8) hx hb hw inlX3 hown hK hP 0 rfl rfl 0 (by decide) (hw _ mw_37_12) (fun _ h9 => h9) rfl dX3_find_1 ?_
  obtain ⟨J32_1, hJ32_1, hf⟩ := jn6_s hf
  have WJ32_1 : ∀ (p_known_1 : Int32) (p_load_1 : Int32) (p_first_1 : Int32) (p_second_1 : Int32) (p_oats_1 : Int32) (p_tired_1 : Nat → Int32) (H : Heap) (locs : List Loc) (ls : Array Slot), va_P (dC, dI) vwCl (W_X3p_X2c_X0b_au6 cI cZ cII qp qp_tired qc qc_who qc_pull qb qb_pull qb_strength qb_back qb_moods qb_tides qb_carts qu p_known_1 p_load_1 p_first_1 p_second_1 p_oats_1 p_tired_1 c_last c_who c_pull b_law b_places b_broad b_horses b_blinds b_besides b_tideCount b_cartCount b_due b_pairs b_pull b_strength b_back b_moods b_tides b_carts u) H → va_D A (W_X3p_X2c_X0b_au6 cI cZ cII qp qp_tired qc qc_who qc_pull qb qb_pull qb_strength qb_back qb_moods qb_tides qb_carts qu p_known_1 p_load_1 p_first_1 p_second_1 p_oats_1 p_tired_1 c_last c_who c_pull b_law b_places b_broad b_horses b_blinds b_besides b_tideCount b_cartCount b_due b_pairs b_pull b_strength b_back b_moods b_tides b_carts u) → va_S A s.heap H locs → lv_has ls 4 [(0, .ref qp)] → J32_1 p_known_1 p_load_1 p_first_1 p_second_1 p_oats_1 p_tired_1 = some (rr, p_known', p_load', p_first', p_second', p_oats', p_tired') → W p l e rm_X3_find s m args below meth c H locs 0 0 Q (F0 m 32 ls []) := by
    intro p_known_1 p_load_1 p_first_1 p_second_1 p_oats_1 p_tired_1 H locs ls hP hD hS hl hf
    have hf := hJ32_1 _ _ _ _ _ _ hf
    refine lv_aload_n hx hb dX3_find_32 rfl (lv_at hl 0 rfl) ?_
    refine va_get (D := (dC, dI)) (ci := 3) (v := .int p_first_1) (C := RX3) (T := TX3) (N := 8) hx hb hw inlX3 hown hK hP 0 rfl rfl 2 (by decide) (hw _ mw_37_14) (fun _ h9 => h9) rfl dX3_find_33 ?_
    refine lv_iconst (v := (-1 : Int32)) hx hb dX3_find_36 (by decide) ?_
    refine lv_icmp_eq (tgt := 44) hx hb dX3_find_37 (by decide) (fun h9 => ?_) (fun h9 => ?_)
    · have hf := pg_t h9 hf
      refine lv_iconst (v := (0 : Int32)) hx hb dX3_find_44 (by decide) ?_
      exact RET _ _ _ _ _ _ _ _ _ _ _ dX3_find_45 (by decide) hP hD hS hf
    · have hf := pg_f h9 hf
      refine lv_iconst (v := (1 : Int32)) hx hb dX3_find_40 (by decide) ?_
      refine lv_goto (tgt := 45) hx hb dX3_find_41 (by decide) ?_
      exact RET _ _ _ _ _ _ _ _ _ _ _ dX3_find_45 (by decide) hP hD hS hf
  obtain ⟨J15_2, hJ15_2, hf⟩ := jn1_s hf
  have WJ15_2 : ∀ (u_2 : Unit) (H : Heap) (locs : List Loc) (ls : Array Slot), va_P (dC, dI) vwCl (W_X3p_X2c_X0b_au6 cI cZ cII qp qp_tired qc qc_who qc_pull qb qb_pull qb_strength qb_back qb_moods qb_tides qb_carts qu p_known p_load p_first p_second p_oats p_tired c_last c_who c_pull b_law b_places b_broad b_horses b_blinds b_besides b_tideCount b_cartCount b_due b_pairs b_pull b_strength b_back b_moods b_tides b_carts u) H → va_D A (W_X3p_X2c_X0b_au6 cI cZ cII qp qp_tired qc qc_who qc_pull qb qb_pull qb_strength qb_back qb_moods qb_tides qb_carts qu p_known p_load p_first p_second p_oats p_tired c_last c_who c_pull b_law b_places b_broad b_horses b_blinds b_besides b_tideCount b_cartCount b_due b_pairs b_pull b_strength b_back b_moods b_tides b_carts u) → va_S A s.heap H locs → lv_has ls 4 [(0, .ref qp), (1, .ref qu), (2, .int n2), (3, .int n3)] → J15_2 u_2 = some (rr, p_known', p_load', p_first', p_second', p_oats', p_tired') → W p l e rm_X3_find s m args below meth c H locs 0 0 Q (F0 m 15 ls []) := by
    intro u_2 H locs ls hP hD hS hl hf
    have hf := hJ15_2 _ hf
    refine lv_aload_n hx hb dX3_find_15 rfl (lv_at hl 0 rfl) ?_
    refine lv_aload_n hx hb dX3_find_16 rfl (lv_at hl 1 rfl) ?_
    refine lv_iload_n hx hb dX3_find_17 rfl (lv_at hl 2 rfl) ?_
    refine lv_iload_n hx hb dX3_find_18 rfl (lv_at hl 3 rfl) ?_
    obtain ⟨p_first_3, p_second_3, p_oats_3, p_tired_3, hc, hf⟩ := bn4_s hf
    refine pg_cVv (As := [.ref qu, .int n2, .int n3]) (rest := []) (wf := (W_X3p_X2c_X0b_au6 cI cZ cII qp qp_tired qc qc_who qc_pull qb qb_pull qb_strength qb_back qb_moods qb_tides qb_carts qu p_known p_load p_first_3 p_second_3 p_oats_3 p_tired_3 c_last c_who c_pull b_law b_places b_broad b_horses b_blinds b_besides b_tideCount b_cartCount b_due b_pairs b_pull b_strength b_back b_moods b_tides b_carts u)) ⟨hx, hb, hml, hown, hw⟩ (c_X3_search l dC dI cI cZ cII qp qp_tired qc qc_who qc_pull qb qb_pull qb_strength qb_back qb_moods qb_tides qb_carts qu H.size p_known p_load p_first p_second p_oats p_tired c_last c_who c_pull b_law b_places b_broad b_horses b_blinds b_besides b_tideCount b_cartCount b_due b_pairs b_pull b_strength b_back b_moods b_tides b_carts u n2 n3 p_first_3 p_second_3 p_oats_3 p_tired_3 hc) (cwV 3 hts (wM_V mw_37_15 mw_37_16 mw_37_17 mw_2_14 mw_37_18) rfl rfl rfl dk_X3_search ⟨Nat.le_of_ble_eq_true rfl, Nat.le_of_ble_eq_true rfl⟩) hK hP hD hS hA 3 0 rfl rfl rfl [0, 1, 2, 3, 4, 5, 6, 7, 8, 9, 10, 11, 12] [] [0, 1, 2, 3, 4, 5, 6, 7, 8, 9, 10, 11, 12] rfl rfl rfl (by decide) rfl hl.1 rfl (Nat.le_of_ble_eq_true rfl) dX3_find_19 ⟨Nat.zero_le _, Nat.zero_le _⟩ (fun H locs hP hD hS => ?_)
    refine lv_aload_n hx hb dX3_find_22 rfl (lv_at hl 0 rfl) ?_
    refine lv_iload_n hx hb dX3_find_23 rfl (lv_at hl 3 rfl) ?_
    refine va_put (D := (dC, dI)) (ci := 3) (v := .int n3) (ty := .int) (C := RX3) (T := TX3) (N := 8) hx hb hw inlX3 tyX3 tyX3_ok nmX3 hown hK hP hD hS 0 rfl rfl 1 (by decide) (hw _ mw_37_13) (fun _ h9 => h9) rfl (by decide +kernel) rfl rfl (Nat.le_of_ble_eq_true rfl) dX3_find_24 (fun H locs hP hD hS => ?_)
    have hP : va_P (dC, dI) vwCl (W_X3p_X2c_X0b_au6 cI cZ cII qp qp_tired qc qc_who qc_pull qb qb_pull qb_strength qb_back qb_moods qb_tides qb_carts qu p_known n3 p_first_3 p_second_3 p_oats_3 p_tired_3 c_last c_who c_pull b_law b_places b_broad b_horses b_blinds b_besides b_tideCount b_cartCount b_due b_pairs b_pull b_strength b_back b_moods b_tides b_carts u) H := hP
    have hD : va_D A (W_X3p_X2c_X0b_au6 cI cZ cII qp qp_tired qc qc_who qc_pull qb qb_pull qb_strength qb_back qb_moods qb_tides qb_carts qu p_known n3 p_first_3 p_second_3 p_oats_3 p_tired_3 c_last c_who c_pull b_law b_places b_broad b_horses b_blinds b_besides b_tideCount b_cartCount b_due b_pairs b_pull b_strength b_back b_moods b_tides b_carts u) := hD
    refine lv_aload_n hx hb dX3_find_27 rfl (lv_at hl 0 rfl) ?_
    refine lv_iconst (v := (1 : Int32)) hx hb dX3_find_28 (by decide) ?_
    refine va_put (D := (dC, dI)) (ci := 3) (v := .int (1 : Int32)) (ty := .boolean) (C := RX3) (T := TX3) (N := 8) hx hb hw inlX3 tyX3 tyX3_ok nmX3 hown hK hP hD hS 0 rfl rfl 0 (by decide) (hw _ mw_37_12) (fun _ h9 => h9) rfl (by decide +kernel) (by decide) rfl (Nat.le_of_ble_eq_true rfl) dX3_find_29 (fun H locs hP hD hS => ?_)
    have hP : va_P (dC, dI) vwCl (W_X3p_X2c_X0b_au6 cI cZ cII qp qp_tired qc qc_who qc_pull qb qb_pull qb_strength qb_back qb_moods qb_tides qb_carts qu (1 : Int32) n3 p_first_3 p_second_3 p_oats_3 p_tired_3 c_last c_who c_pull b_law b_places b_broad b_horses b_blinds b_besides b_tideCount b_cartCount b_due b_pairs b_pull b_strength b_back b_moods b_tides b_carts u) H := hP
    have hD : va_D A (W_X3p_X2c_X0b_au6 cI cZ cII qp qp_tired qc qc_who qc_pull qb qb_pull qb_strength qb_back qb_moods qb_tides qb_carts qu (1 : Int32) n3 p_first_3 p_second_3 p_oats_3 p_tired_3 c_last c_who c_pull b_law b_places b_broad b_horses b_blinds b_besides b_tideCount b_cartCount b_due b_pairs b_pull b_strength b_back b_moods b_tides b_carts u) := hD
    exact WJ32_1 _ _ _ _ _ _ _ _ _ hP hD hS (lv_sub hl [0] rfl) hf
  refine lv_if_eq (tgt := 15) hx hb dX3_find_4 (by decide) (fun h9 => ?_) (fun h9 => ?_)
  · have hf := pg_t h9 hf
    exact WJ15_2 _ _ _ _ hP hD hS hl hf
  · have hf := pg_f h9 hf
    refine lv_aload_n hx hb dX3_find_7 rfl (lv_at hl 0 rfl) ?_
    refine va_get (D := (dC, dI)) (ci := 3) (v := .int p_load) (C := RX3) (T := TX3) (N := 8) hx hb hw inlX3 hown hK hP 0 rfl rfl 1 (by decide) (hw _ mw_37_13) (fun _ h9 => h9) rfl dX3_find_8 ?_
    refine lv_iload_n hx hb dX3_find_11 rfl (lv_at hl 3 rfl) ?_
    refine lv_icmp_eq (tgt := 32) hx hb dX3_find_12 (by decide) (fun h9 => ?_) (fun h9 => ?_)
    · have hf := pg_t h9 hf
      exact WJ32_1 _ _ _ _ _ _ _ _ _ hP hD hS (lv_sub hl [0] rfl) hf
    · have hf := pg_f h9 hf
      exact WJ15_2 _ _ _ _ hP hD hS hl hf
def f_X1_weight (n1 : Int32) (b_cartCount : Int32) (b_carts : Nat → Int32) : Option (Int32) :=
  jn1 (fun (y2_1 : Int32) =>
    some (y2_1)
  ) (fun K46_1 =>
  lq2 (fun rec2 (y2_2 : Int32) (y3_2 : Int32) =>
    if b_cartCount ≤ y3_2 then
      K46_1 y2_2
    else
      if (4 : Int32) ≤ y3_2 then
        K46_1 y2_2
      else
        jn1 (fun (y2_3 : Int32) =>
          rec2 y2_3 (y3_2 + (1 : Int32))
        ) (fun J40_3 =>
        if ((n1 >>> (y3_2 &&& 31)) &&& (1 : Int32)) = 0 then
          J40_3 y2_2
        else
          if y3_2 < 0 ∨ 4 ≤ (y3_2).toNatClampNeg then none else
          J40_3 (y2_2 + (b_carts (y3_2).toNatClampNeg))
        )
  ) fu (0 : Int32) (0 : Int32)
  )
abbrev rm_X1_weight : Room := { frames := 0, cells := 0, slots := 0, locals := 0 }
theorem dk_X1_weight : yX1_weight.cls = RX1 ∧ yX1_weight.cls ≠ "java/lang/invoke/MethodHandle" ∧ yX1_weight.cls ≠ "java/lang/invoke/VarHandle" ∧ (parseMethodDescriptor yX1_weight.desc).map (fun d => d.parameters.length) = some 1 := by decide +kernel
set_option maxHeartbeats 4000000 in
set_option maxRecDepth 100000 in
theorem c_X1_weight (l : Launch) (dC : Nat → ClassId) (dI : Nat → Nat → Nat) (cI cZ cII : ClassId) (qg qg_sets qg_tried qg_strengths qg_strengths0 qg_strengths1 qg_strengths2 qg_strengths3 qg_strengths4 qt qt_rested qc qc_who qc_pull qb qb_pull qb_strength qb_back qb_moods qb_tides qb_carts : Nat) (sz : Nat) (g_known : Int32) (g_crossings : Int32) (g_sets : Nat → Int32) (g_tried : Nat → Int32) (g_strengths0 : Nat → Int32) (g_strengths1 : Nat → Int32) (g_strengths2 : Nat → Int32) (g_strengths3 : Nat → Int32) (g_strengths4 : Nat → Int32) (t_crew : Int32) (t_minutes : Int32) (t_oats : Int32) (t_waitHours : Int32) (t_waitMinutes : Int32) (t_rested : Nat → Int32) (c_last : Int32) (c_who : Nat → Int32) (c_pull : Nat → Int32) (b_law : Int32) (b_places : Int32) (b_broad : Int32) (b_horses : Int32) (b_blinds : Int32) (b_besides : Int32) (b_tideCount : Int32) (b_cartCount : Int32) (b_due : Int32) (b_pairs : Int64) (b_pull : Nat → Int32) (b_strength : Nat → Int32) (b_back : Nat → Int32) (b_moods : Nat → Int32) (b_tides : Nat → Int32) (b_carts : Nat → Int32) (n1 : Int32) (rr : Int32) (hf : f_X1_weight n1 b_cartCount b_carts = some (rr)) : Met l yX1_weight (wM yX1_weight cX1_weight 4 (some .int)) rm_X1_weight (PreW (dC, dI) (tyA cI cZ cII) (W_X1g_X7t_X2c_X0b cI cZ cII qg qg_sets qg_tried qg_strengths qg_strengths0 qg_strengths1 qg_strengths2 qg_strengths3 qg_strengths4 qt qt_rested qc qc_who qc_pull qb qb_pull qb_strength qb_back qb_moods qb_tides qb_carts g_known g_crossings g_sets g_tried g_strengths0 g_strengths1 g_strengths2 g_strengths3 g_strengths4 t_crew t_minutes t_oats t_waitHours t_waitMinutes t_rested c_last c_who c_pull b_law b_places b_broad b_horses b_blinds b_besides b_tideCount b_cartCount b_due b_pairs b_pull b_strength b_back b_moods b_tides b_carts) sz [.ref qg, .int n1]) (PostI (dC, dI) (tyA cI cZ cII) rr (W_X1g_X7t_X2c_X0b cI cZ cII qg qg_sets qg_tried qg_strengths qg_strengths0 qg_strengths1 qg_strengths2 qg_strengths3 qg_strengths4 qt qt_rested qc qc_who qc_pull qb qb_pull qb_strength qb_back qb_moods qb_tides qb_carts g_known g_crossings g_sets g_tried g_strengths0 g_strengths1 g_strengths2 g_strengths3 g_strengths4 t_crew t_minutes t_oats t_waitHours t_waitMinutes t_rested c_last c_who c_pull b_law b_places b_broad b_horses b_blinds b_besides b_tideCount b_cartCount b_due b_pairs b_pull b_strength b_back b_moods b_tides b_carts) (W_X1g_X7t_X2c_X0b cI cZ cII qg qg_sets qg_tried qg_strengths qg_strengths0 qg_strengths1 qg_strengths2 qg_strengths3 qg_strengths4 qt qt_rested qc qc_who qc_pull qb qb_pull qb_strength qb_back qb_moods qb_tides qb_carts g_known g_crossings g_sets g_tried g_strengths0 g_strengths1 g_strengths2 g_strengths3 g_strengths4 t_crew t_minutes t_oats t_waitHours t_waitMinutes t_rested c_last c_who c_pull b_law b_places b_broad b_horses b_blinds b_besides b_tideCount b_cartCount b_due b_pairs b_pull b_strength b_back b_moods b_tides b_carts) sz) 0 0 (va_A (W_X1g_X7t_X2c_X0b cI cZ cII qg qg_sets qg_tried qg_strengths qg_strengths0 qg_strengths1 qg_strengths2 qg_strengths3 qg_strengths4 qt qt_rested qc qc_who qc_pull qb qb_pull qb_strength qb_back qb_moods qb_tides qb_carts g_known g_crossings g_sets g_tried g_strengths0 g_strengths1 g_strengths2 g_strengths3 g_strengths4 t_crew t_minutes t_oats t_waitHours t_waitMinutes t_rested c_last c_who c_pull b_law b_places b_broad b_horses b_blinds b_besides b_tideCount b_cartCount b_due b_pairs b_pull b_strength b_back b_moods b_tides b_carts) sz) := by
  refine Met.ofW (cc := cX1_weight) (maxL := 4) (ret := (some .int)) (by decide) rfl ?_
  intro p e s m args below meth c s₁ B hml hv
  obtain ⟨rfl, hsz, hP, hK, hD0⟩ := hv
  have hx := B.exec
  have hb := B.bytes
  have hr := B.returns
  have hts := atoms_spec (ws := wM yX1_weight cX1_weight 4 (some .int)) B.pre
  have hown : s.vm.findClass RX1 = some m.cls := findClass_of_methodNamed B.named
  have hlocks := B.notSynchronized
  subst hsz
  have hD := hD0.self (sz := s.heap.size)
  obtain ⟨A, hAe⟩ : ∃ A, A = va_A (W_X1g_X7t_X2c_X0b cI cZ cII qg qg_sets qg_tried qg_strengths qg_strengths0 qg_strengths1 qg_strengths2 qg_strengths3 qg_strengths4 qt qt_rested qc qc_who qc_pull qb qb_pull qb_strength qb_back qb_moods qb_tides qb_carts g_known g_crossings g_sets g_tried g_strengths0 g_strengths1 g_strengths2 g_strengths3 g_strengths4 t_crew t_minutes t_oats t_waitHours t_waitMinutes t_rested c_last c_who c_pull b_law b_places b_broad b_horses b_blinds b_besides b_tideCount b_cartCount b_due b_pairs b_pull b_strength b_back b_moods b_tides b_carts) s.heap.size := ⟨_, rfl⟩
  rw [← hAe] at hD
  have hA : ∀ q : Nat, s.heap.size ≤ q → A q := fun q h => by rw [hAe]; exact Or.inr h
  have hS : va_S A s.heap s.heap [] := va_S.rf
  have hl := lv_entry ([.ref qg, .int n1]) (n := 4) (Nat.le_of_ble_eq_true rfl)
  rw [lg_entry_eq]
  generalize (lg_sl ([.ref qg, .int n1]) ++ List.replicate (4 - (lg_sl ([.ref qg, .int n1])).length) Slot.unset).toArray = ls at hl ⊢
  have hl : lv_has ls 4 [(0, .ref qg), (1, .int n1)] := hl
  generalize ([.ref qg, .int n1] : List Value).toArray = args at hts ⊢
  have hw : ∀ w ∈ wsL_law, w.before args s = true := fun w h => hts w (List.mem_cons_of_mem _ h)
  refine pg_start (fun Q hQ => ?_)
  have RET : ∀ (H : Heap) (locs : List Loc) (ls : Array Slot) (pc : Nat) (v : Int32) , decode cX1_weight pc = .ok (.ireturn, 1) → va_P (dC, dI) vwCl (W_X1g_X7t_X2c_X0b cI cZ cII qg qg_sets qg_tried qg_strengths qg_strengths0 qg_strengths1 qg_strengths2 qg_strengths3 qg_strengths4 qt qt_rested qc qc_who qc_pull qb qb_pull qb_strength qb_back qb_moods qb_tides qb_carts g_known g_crossings g_sets g_tried g_strengths0 g_strengths1 g_strengths2 g_strengths3 g_strengths4 t_crew t_minutes t_oats t_waitHours t_waitMinutes t_rested c_last c_who c_pull b_law b_places b_broad b_horses b_blinds b_besides b_tideCount b_cartCount b_due b_pairs b_pull b_strength b_back b_moods b_tides b_carts) H → va_D A (W_X1g_X7t_X2c_X0b cI cZ cII qg qg_sets qg_tried qg_strengths qg_strengths0 qg_strengths1 qg_strengths2 qg_strengths3 qg_strengths4 qt qt_rested qc qc_who qc_pull qb qb_pull qb_strength qb_back qb_moods qb_tides qb_carts g_known g_crossings g_sets g_tried g_strengths0 g_strengths1 g_strengths2 g_strengths3 g_strengths4 t_crew t_minutes t_oats t_waitHours t_waitMinutes t_rested c_last c_who c_pull b_law b_places b_broad b_horses b_blinds b_besides b_tideCount b_cartCount b_due b_pairs b_pull b_strength b_back b_moods b_tides b_carts) → va_S A s.heap H locs → (some (v) : Option (Int32)) = some (rr) → W p l e rm_X1_weight s m args below meth c H locs 0 0 Q (F0 m pc ls [.int v]) := by
    intro H locs ls pc v hd hP hD hS he
    subst hAe; subst hQ
    obtain rfl := Option.some.inj he
    exact pg_iret hx hb hr hlocks hK hP hD hS hd
  unfold f_X1_weight at hf
  refine lv_iconst (v := (0 : Int32)) hx hb dX1_weight_0 (by decide) ?_
  refine lv_istore_n (lv' := [(2, .int (0 : Int32)), (0, .ref qg), (1, .int n1)]) hx hb dX1_weight_1 rfl hl (by decide) rfl (fun ls hl => ?_)
  refine lv_iconst (v := (0 : Int32)) hx hb dX1_weight_2 (by decide) ?_
  refine lv_istore_n (lv' := [(3, .int (0 : Int32)), (2, .int (0 : Int32)), (0, .ref qg), (1, .int n1)]) hx hb dX1_weight_3 rfl hl (by decide) rfl (fun ls hl => ?_)
  obtain ⟨K46_1, hK46_1, hf⟩ := jn1_s hf
  have WK46_1 : ∀ (y2_1 : Int32) (H : Heap) (locs : List Loc) (ls : Array Slot), va_P (dC, dI) vwCl (W_X1g_X7t_X2c_X0b cI cZ cII qg qg_sets qg_tried qg_strengths qg_strengths0 qg_strengths1 qg_strengths2 qg_strengths3 qg_strengths4 qt qt_rested qc qc_who qc_pull qb qb_pull qb_strength qb_back qb_moods qb_tides qb_carts g_known g_crossings g_sets g_tried g_strengths0 g_strengths1 g_strengths2 g_strengths3 g_strengths4 t_crew t_minutes t_oats t_waitHours t_waitMinutes t_rested c_last c_who c_pull b_law b_places b_broad b_horses b_blinds b_besides b_tideCount b_cartCount b_due b_pairs b_pull b_strength b_back b_moods b_tides b_carts) H → va_D A (W_X1g_X7t_X2c_X0b cI cZ cII qg qg_sets qg_tried qg_strengths qg_strengths0 qg_strengths1 qg_strengths2 qg_strengths3 qg_strengths4 qt qt_rested qc qc_who qc_pull qb qb_pull qb_strength qb_back qb_moods qb_tides qb_carts g_known g_crossings g_sets g_tried g_strengths0 g_strengths1 g_strengths2 g_strengths3 g_strengths4 t_crew t_minutes t_oats t_waitHours t_waitMinutes t_rested c_last c_who c_pull b_law b_places b_broad b_horses b_blinds b_besides b_tideCount b_cartCount b_due b_pairs b_pull b_strength b_back b_moods b_tides b_carts) → va_S A s.heap H locs → lv_has ls 4 [(2, .int y2_1)] → K46_1 y2_1 = some (rr) → W p l e rm_X1_weight s m args below meth c H locs 0 0 Q (F0 m 46 ls []) := by
    intro y2_1 H locs ls hP hD hS hl hf
    have hf := hK46_1 _ hf
    refine lv_iload_n hx hb dX1_weight_46 rfl (lv_at hl 0 rfl) ?_
    exact RET _ _ _ _ _ dX1_weight_47 hP hD hS hf
  obtain ⟨B2, hB2, hf⟩ := lq2_n hf
  have WL2 : ∀ (n9 : Nat) (y2_2 : Int32) (y3_2 : Int32) (H : Heap) (locs : List Loc) (ls : Array Slot), va_P (dC, dI) vwCl (W_X1g_X7t_X2c_X0b cI cZ cII qg qg_sets qg_tried qg_strengths qg_strengths0 qg_strengths1 qg_strengths2 qg_strengths3 qg_strengths4 qt qt_rested qc qc_who qc_pull qb qb_pull qb_strength qb_back qb_moods qb_tides qb_carts g_known g_crossings g_sets g_tried g_strengths0 g_strengths1 g_strengths2 g_strengths3 g_strengths4 t_crew t_minutes t_oats t_waitHours t_waitMinutes t_rested c_last c_who c_pull b_law b_places b_broad b_horses b_blinds b_besides b_tideCount b_cartCount b_due b_pairs b_pull b_strength b_back b_moods b_tides b_carts) H → va_D A (W_X1g_X7t_X2c_X0b cI cZ cII qg qg_sets qg_tried qg_strengths qg_strengths0 qg_strengths1 qg_strengths2 qg_strengths3 qg_strengths4 qt qt_rested qc qc_who qc_pull qb qb_pull qb_strength qb_back qb_moods qb_tides qb_carts g_known g_crossings g_sets g_tried g_strengths0 g_strengths1 g_strengths2 g_strengths3 g_strengths4 t_crew t_minutes t_oats t_waitHours t_waitMinutes t_rested c_last c_who c_pull b_law b_places b_broad b_horses b_blinds b_besides b_tideCount b_cartCount b_due b_pairs b_pull b_strength b_back b_moods b_tides b_carts) → va_S A s.heap H locs → lv_has ls 4 [(0, .ref qg), (1, .int n1), (2, .int y2_2), (3, .int y3_2)] → lq2 B2 n9 y2_2 y3_2 = some (rr) → W p l e rm_X1_weight s m args below meth c H locs 0 0 Q (F0 m 4 ls []) := by
    intro n9
    induction n9 with
    | zero => intro y2_2 y3_2 H locs ls hP hD hS hl hf; cases hf
    | succ n9 ih =>
      intro y2_2 y3_2 H locs ls hP hD hS hl hf
      obtain ⟨rec2, hrec2, hf⟩ := lq2_s hf
      have hf := hB2 rec2 _ _ hf
      refine lv_iload_n hx hb dX1_weight_4 rfl (lv_at hl 3 rfl) ?_
      refine lv_aload_n hx hb dX1_weight_5 rfl (lv_at hl 0 rfl) ?_
      refine va_get (D := (dC, dI)) (ci := 1) (v := .ref qb) (C := RX1) (T := TX1) (N := 8) hx hb hw inlX1 hown hK hP 0 rfl rfl 2 (by decide) (hw _ mw_5_7) (fun _ h9 => h9) rfl dX1_weight_6 ?_
      refine va_get (D := (dC, dI)) (ci := 0) (v := .int b_cartCount) (C := RX0) (T := TX0) (N := 16) hx hb hw inlX0 hown hK hP 14 rfl rfl 7 (by decide) (hw _ mw_40_15) (fun _ h9 => h9) rfl dX1_weight_9 ?_
      refine lv_icmp_ge (tgt := 46) hx hb dX1_weight_12 (by decide) (fun h9 => ?_) (fun h9 => ?_)
      · have hf := pg_t h9 hf
        exact WK46_1 _ _ _ _ hP hD hS (lv_sub hl [2] rfl) hf
      · have hf := pg_f h9 hf
        refine lv_iload_n hx hb dX1_weight_15 rfl (lv_at hl 3 rfl) ?_
        refine lv_iconst (v := (4 : Int32)) hx hb dX1_weight_16 (by decide) ?_
        refine lv_icmp_ge (tgt := 46) hx hb dX1_weight_17 (by decide) (fun h9 => ?_) (fun h9 => ?_)
        · have hf := pg_t h9 hf
          exact WK46_1 _ _ _ _ hP hD hS (lv_sub hl [2] rfl) hf
        · have hf := pg_f h9 hf
          refine lv_iload_n hx hb dX1_weight_20 rfl (lv_at hl 1 rfl) ?_
          refine lv_iload_n hx hb dX1_weight_21 rfl (lv_at hl 3 rfl) ?_
          refine lv_ishr hx hb dX1_weight_22 ?_
          refine lv_iconst (v := (1 : Int32)) hx hb dX1_weight_23 (by decide) ?_
          refine lv_iand hx hb dX1_weight_24 ?_
          obtain ⟨J40_3, hJ40_3, hf⟩ := jn1_s hf
          have WJ40_3 : ∀ (y2_3 : Int32) (H : Heap) (locs : List Loc) (ls : Array Slot), va_P (dC, dI) vwCl (W_X1g_X7t_X2c_X0b cI cZ cII qg qg_sets qg_tried qg_strengths qg_strengths0 qg_strengths1 qg_strengths2 qg_strengths3 qg_strengths4 qt qt_rested qc qc_who qc_pull qb qb_pull qb_strength qb_back qb_moods qb_tides qb_carts g_known g_crossings g_sets g_tried g_strengths0 g_strengths1 g_strengths2 g_strengths3 g_strengths4 t_crew t_minutes t_oats t_waitHours t_waitMinutes t_rested c_last c_who c_pull b_law b_places b_broad b_horses b_blinds b_besides b_tideCount b_cartCount b_due b_pairs b_pull b_strength b_back b_moods b_tides b_carts) H → va_D A (W_X1g_X7t_X2c_X0b cI cZ cII qg qg_sets qg_tried qg_strengths qg_strengths0 qg_strengths1 qg_strengths2 qg_strengths3 qg_strengths4 qt qt_rested qc qc_who qc_pull qb qb_pull qb_strength qb_back qb_moods qb_tides qb_carts g_known g_crossings g_sets g_tried g_strengths0 g_strengths1 g_strengths2 g_strengths3 g_strengths4 t_crew t_minutes t_oats t_waitHours t_waitMinutes t_rested c_last c_who c_pull b_law b_places b_broad b_horses b_blinds b_besides b_tideCount b_cartCount b_due b_pairs b_pull b_strength b_back b_moods b_tides b_carts) → va_S A s.heap H locs → lv_has ls 4 [(0, .ref qg), (1, .int n1), (2, .int y2_3), (3, .int y3_2)] → J40_3 y2_3 = some (rr) → W p l e rm_X1_weight s m args below meth c H locs 0 0 Q (F0 m 40 ls []) := by
            intro y2_3 H locs ls hP hD hS hl hf
            have hf := hJ40_3 _ hf
            refine lv_iinc (v := (y3_2 + (1 : Int32))) (lv' := [(3, .int (y3_2 + (1 : Int32))), (0, .ref qg), (1, .int n1), (2, .int y2_3)]) hx hb dX1_weight_40 hl (k := 3) rfl rfl (by decide) rfl (fun ls hl => ?_)
            refine lv_goto (tgt := 4) hx hb dX1_weight_43 (by decide) ?_
            exact ih _ _ _ _ _ hP hD hS (lv_sub hl [1, 2, 3, 0] rfl) (hrec2 _ _ hf)
          refine lv_if_eq (tgt := 40) hx hb dX1_weight_25 (by decide) (fun h9 => ?_) (fun h9 => ?_)
          · have hf := pg_t h9 hf
            exact WJ40_3 _ _ _ _ hP hD hS hl hf
          · have hf := pg_f h9 hf
            refine lv_iload_n hx hb dX1_weight_28 rfl (lv_at hl 2 rfl) ?_
            refine lv_aload_n hx hb dX1_weight_29 rfl (lv_at hl 0 rfl) ?_
            refine va_get (D := (dC, dI)) (ci := 1) (v := .ref qb) (C := RX1) (T := TX1) (N := 8) hx hb hw inlX1 hown hK hP 0 rfl rfl 2 (by decide) (hw _ mw_5_7) (fun _ h9 => h9) rfl dX1_weight_30 ?_
            refine va_get (D := (dC, dI)) (ci := 0) (v := .ref qb_carts) (C := RX0) (T := TX0) (N := 16) hx hb hw inlX0 hown hK hP 14 rfl rfl 15 (by decide) (hw _ mw_41_7) (fun _ h9 => h9) rfl dX1_weight_33 ?_
            refine lv_iload_n hx hb dX1_weight_36 rfl (lv_at hl 3 rfl) ?_
            obtain ⟨hi4, hf⟩ := pg_chk hf
            refine va_iald hx hb hK hP 20 0 rfl rfl hi4 dX1_weight_37 ?_
            refine lv_iadd hx hb dX1_weight_38 ?_
            refine lv_istore_n (lv' := [(2, .int (y2_2 + (b_carts (y3_2).toNatClampNeg))), (0, .ref qg), (1, .int n1), (3, .int y3_2)]) hx hb dX1_weight_39 rfl hl (by decide) rfl (fun ls hl => ?_)
            exact WJ40_3 _ _ _ _ hP hD hS (lv_sub hl [1, 2, 0, 3] rfl) hf
  exact WL2 fu _ _ _ _ _ hP hD hS (lv_sub hl [2, 3, 1, 0] rfl) hf
def f_X1_takeSetD4 (n2 : Int32) (n3 : Int32) (n4 : Int32) : Option (Unit) :=
  some (())
abbrev rm_X1_takeSetD4 : Room := { frames := 0, cells := 0, slots := 0, locals := 0 }
theorem dk_X1_takeSet : yX1_takeSet.cls = RX1 ∧ yX1_takeSet.cls ≠ "java/lang/invoke/MethodHandle" ∧ yX1_takeSet.cls ≠ "java/lang/invoke/VarHandle" ∧ (parseMethodDescriptor yX1_takeSet.desc).map (fun d => d.parameters.length) = some 4 := by decide +kernel
set_option maxHeartbeats 4000000 in
set_option maxRecDepth 100000 in
theorem c_X1_takeSetD4 (l : Launch) (dC : Nat → ClassId) (dI : Nat → Nat → Nat) (cI cZ cII : ClassId) (qg qg_sets qg_tried qg_strengths qg_strengths0 qg_strengths1 qg_strengths2 qg_strengths3 qg_strengths4 qt qt_rested qc qc_who qc_pull qb qb_pull qb_strength qb_back qb_moods qb_tides qb_carts : Nat) (sz : Nat) (g_known : Int32) (g_crossings : Int32) (g_sets : Nat → Int32) (g_tried : Nat → Int32) (g_strengths0 : Nat → Int32) (g_strengths1 : Nat → Int32) (g_strengths2 : Nat → Int32) (g_strengths3 : Nat → Int32) (g_strengths4 : Nat → Int32) (t_crew : Int32) (t_minutes : Int32) (t_oats : Int32) (t_waitHours : Int32) (t_waitMinutes : Int32) (t_rested : Nat → Int32) (c_last : Int32) (c_who : Nat → Int32) (c_pull : Nat → Int32) (b_law : Int32) (b_places : Int32) (b_broad : Int32) (b_horses : Int32) (b_blinds : Int32) (b_besides : Int32) (b_tideCount : Int32) (b_cartCount : Int32) (b_due : Int32) (b_pairs : Int64) (b_pull : Nat → Int32) (b_strength : Nat → Int32) (b_back : Nat → Int32) (b_moods : Nat → Int32) (b_tides : Nat → Int32) (b_carts : Nat → Int32) (n2 : Int32) (n3 : Int32) (n4 : Int32) (uu : Unit) (hf : f_X1_takeSetD4 n2 n3 n4 = some (uu)) : Met l yX1_takeSet (wM yX1_takeSet cX1_takeSet 6 none) rm_X1_takeSetD4 (PreW (dC, dI) (tyA cI cZ cII) (W_X1g_X7t_X2c_X0b cI cZ cII qg qg_sets qg_tried qg_strengths qg_strengths0 qg_strengths1 qg_strengths2 qg_strengths3 qg_strengths4 qt qt_rested qc qc_who qc_pull qb qb_pull qb_strength qb_back qb_moods qb_tides qb_carts g_known g_crossings g_sets g_tried g_strengths0 g_strengths1 g_strengths2 g_strengths3 g_strengths4 t_crew t_minutes t_oats t_waitHours t_waitMinutes t_rested c_last c_who c_pull b_law b_places b_broad b_horses b_blinds b_besides b_tideCount b_cartCount b_due b_pairs b_pull b_strength b_back b_moods b_tides b_carts) sz [.ref qg, .int (4 : Int32), .int n2, .int n3, .int n4]) (PostV (dC, dI) (tyA cI cZ cII) (W_X1g_X7t_X2c_X0b cI cZ cII qg qg_sets qg_tried qg_strengths qg_strengths0 qg_strengths1 qg_strengths2 qg_strengths3 qg_strengths4 qt qt_rested qc qc_who qc_pull qb qb_pull qb_strength qb_back qb_moods qb_tides qb_carts g_known g_crossings g_sets g_tried g_strengths0 g_strengths1 g_strengths2 g_strengths3 g_strengths4 t_crew t_minutes t_oats t_waitHours t_waitMinutes t_rested c_last c_who c_pull b_law b_places b_broad b_horses b_blinds b_besides b_tideCount b_cartCount b_due b_pairs b_pull b_strength b_back b_moods b_tides b_carts) (W_X1g_X7t_X2c_X0b cI cZ cII qg qg_sets qg_tried qg_strengths qg_strengths0 qg_strengths1 qg_strengths2 qg_strengths3 qg_strengths4 qt qt_rested qc qc_who qc_pull qb qb_pull qb_strength qb_back qb_moods qb_tides qb_carts g_known g_crossings g_sets g_tried g_strengths0 g_strengths1 g_strengths2 g_strengths3 g_strengths4 t_crew t_minutes t_oats t_waitHours t_waitMinutes t_rested c_last c_who c_pull b_law b_places b_broad b_horses b_blinds b_besides b_tideCount b_cartCount b_due b_pairs b_pull b_strength b_back b_moods b_tides b_carts) sz) 0 0 (va_A (W_X1g_X7t_X2c_X0b cI cZ cII qg qg_sets qg_tried qg_strengths qg_strengths0 qg_strengths1 qg_strengths2 qg_strengths3 qg_strengths4 qt qt_rested qc qc_who qc_pull qb qb_pull qb_strength qb_back qb_moods qb_tides qb_carts g_known g_crossings g_sets g_tried g_strengths0 g_strengths1 g_strengths2 g_strengths3 g_strengths4 t_crew t_minutes t_oats t_waitHours t_waitMinutes t_rested c_last c_who c_pull b_law b_places b_broad b_horses b_blinds b_besides b_tideCount b_cartCount b_due b_pairs b_pull b_strength b_back b_moods b_tides b_carts) sz) := by
  refine Met.ofW (cc := cX1_takeSet) (maxL := 6) (ret := none) (by decide) rfl ?_
  intro p e s m args below meth c s₁ B hml hv
  obtain ⟨rfl, hsz, hP, hK, hD0⟩ := hv
  have hx := B.exec
  have hb := B.bytes
  have hr := B.returns
  have hts := atoms_spec (ws := wM yX1_takeSet cX1_takeSet 6 none) B.pre
  have hown : s.vm.findClass RX1 = some m.cls := findClass_of_methodNamed B.named
  have hlocks := B.notSynchronized
  subst hsz
  have hD := hD0.self (sz := s.heap.size)
  obtain ⟨A, hAe⟩ : ∃ A, A = va_A (W_X1g_X7t_X2c_X0b cI cZ cII qg qg_sets qg_tried qg_strengths qg_strengths0 qg_strengths1 qg_strengths2 qg_strengths3 qg_strengths4 qt qt_rested qc qc_who qc_pull qb qb_pull qb_strength qb_back qb_moods qb_tides qb_carts g_known g_crossings g_sets g_tried g_strengths0 g_strengths1 g_strengths2 g_strengths3 g_strengths4 t_crew t_minutes t_oats t_waitHours t_waitMinutes t_rested c_last c_who c_pull b_law b_places b_broad b_horses b_blinds b_besides b_tideCount b_cartCount b_due b_pairs b_pull b_strength b_back b_moods b_tides b_carts) s.heap.size := ⟨_, rfl⟩
  rw [← hAe] at hD
  have hA : ∀ q : Nat, s.heap.size ≤ q → A q := fun q h => by rw [hAe]; exact Or.inr h
  have hS : va_S A s.heap s.heap [] := va_S.rf
  have hl := lv_entry ([.ref qg, .int (4 : Int32), .int n2, .int n3, .int n4]) (n := 6) (Nat.le_of_ble_eq_true rfl)
  rw [lg_entry_eq]
  generalize (lg_sl ([.ref qg, .int (4 : Int32), .int n2, .int n3, .int n4]) ++ List.replicate (6 - (lg_sl ([.ref qg, .int (4 : Int32), .int n2, .int n3, .int n4])).length) Slot.unset).toArray = ls at hl ⊢
  have hl : lv_has ls 6 [(0, .ref qg), (1, .int (4 : Int32)), (2, .int n2), (3, .int n3), (4, .int n4)] := hl
  generalize ([.ref qg, .int (4 : Int32), .int n2, .int n3, .int n4] : List Value).toArray = args at hts ⊢
  have hw : ∀ w ∈ wsL_law, w.before args s = true := fun w h => hts w (List.mem_cons_of_mem _ h)
  refine pg_start (fun Q hQ => ?_)
  have RET : ∀ (H : Heap) (locs : List Loc) (ls : Array Slot) (pc : Nat) , decode cX1_takeSet pc = .ok (.return_, 1) → va_P (dC, dI) vwCl (W_X1g_X7t_X2c_X0b cI cZ cII qg qg_sets qg_tried qg_strengths qg_strengths0 qg_strengths1 qg_strengths2 qg_strengths3 qg_strengths4 qt qt_rested qc qc_who qc_pull qb qb_pull qb_strength qb_back qb_moods qb_tides qb_carts g_known g_crossings g_sets g_tried g_strengths0 g_strengths1 g_strengths2 g_strengths3 g_strengths4 t_crew t_minutes t_oats t_waitHours t_waitMinutes t_rested c_last c_who c_pull b_law b_places b_broad b_horses b_blinds b_besides b_tideCount b_cartCount b_due b_pairs b_pull b_strength b_back b_moods b_tides b_carts) H → va_D A (W_X1g_X7t_X2c_X0b cI cZ cII qg qg_sets qg_tried qg_strengths qg_strengths0 qg_strengths1 qg_strengths2 qg_strengths3 qg_strengths4 qt qt_rested qc qc_who qc_pull qb qb_pull qb_strength qb_back qb_moods qb_tides qb_carts g_known g_crossings g_sets g_tried g_strengths0 g_strengths1 g_strengths2 g_strengths3 g_strengths4 t_crew t_minutes t_oats t_waitHours t_waitMinutes t_rested c_last c_who c_pull b_law b_places b_broad b_horses b_blinds b_besides b_tideCount b_cartCount b_due b_pairs b_pull b_strength b_back b_moods b_tides b_carts) → va_S A s.heap H locs → (some () : Option (Unit)) = some (uu) → W p l e rm_X1_takeSetD4 s m args below meth c H locs 0 0 Q (F0 m pc ls []) := by
    intro H locs ls pc  hd hP hD hS he
    subst hAe; subst hQ
    exact pg_vret hx hb hr hlocks hK hP hD hS hd
  unfold f_X1_takeSetD4 at hf
  refine lv_iload_n hx hb dX1_takeSet_0 rfl (lv_at hl 1 rfl) ?_
  refine lv_if_lt (tgt := 9) hx hb dX1_takeSet_1 (by decide) (fun h9 => absurd h9 (by decide)) (fun h9 => ?_)
  refine lv_iload_n hx hb dX1_takeSet_4 rfl (lv_at hl 1 rfl) ?_
  refine lv_iconst (v := (4 : Int32)) hx hb dX1_takeSet_5 (by decide) ?_
  refine lv_icmp_lt (tgt := 10) hx hb dX1_takeSet_6 (by decide) (fun h9 => absurd h9 (by decide)) (fun h9 => ?_)
  exact RET _ _ _ _ dX1_takeSet_9 hP hD hS hf
def f_X1_takeOverD4 (n2 : Int32) (n3 : Int32) (g_crossings : Int32) (g_sets : Nat → Int32) (g_tried : Nat → Int32) : Option (Int32 × (Nat → Int32)) :=
  if n2 = 0 then
    some ((4 : Int32), (va_cpy g_tried g_sets 0 0 4))
  else
    jn1 (fun (u_1 : Unit) =>
      some (g_crossings, g_sets)
    ) (fun K87_1 =>
    lq1 (fun rec2 (y4_2 : Int32) =>
      if n2 < y4_2 then
        K87_1 ()
      else
        jn1 (fun (z0_3 : Int32) =>
          jn1 (fun (u_4 : Unit) =>
            rec2 (y4_2 + (1 : Int32))
          ) (fun J81_4 =>
          if z0_3 = 0 then
            J81_4 ()
          else
            if (y4_2 &&& n2) = y4_2 then
              bn1 (f_X1_takeSetD4 y4_2 n2 n3) (fun (u_5 : Unit) =>
                J81_4 ()
              )
            else
              J81_4 ()
          )
        ) (fun J56_3 =>
        jn1 (fun (u_6 : Unit) =>
          J56_3 (1 : Int32)
        ) (fun J51_6 =>
        if g_crossings = (-1 : Int32) then
          J51_6 ()
        else
          if g_crossings ≤ (5 : Int32) then
            J56_3 (0 : Int32)
          else
            J51_6 ()
        )
        )
    ) fu (1 : Int32)
    )
abbrev rm_X1_takeOverD4 : Room := { frames := 1, cells := 0, slots := 0, locals := 60 }
theorem dk_X1_takeOver : yX1_takeOver.cls = RX1 ∧ yX1_takeOver.cls ≠ "java/lang/invoke/MethodHandle" ∧ yX1_takeOver.cls ≠ "java/lang/invoke/VarHandle" ∧ (parseMethodDescriptor yX1_takeOver.desc).map (fun d => d.parameters.length) = some 3 := by decide +kernel
set_option maxHeartbeats 4000000 in
set_option maxRecDepth 100000 in
theorem c_X1_takeOverD4 (l : Launch) (dC : Nat → ClassId) (dI : Nat → Nat → Nat) (cI cZ cII : ClassId) (qg qg_sets qg_tried qg_strengths qg_strengths0 qg_strengths1 qg_strengths2 qg_strengths3 qg_strengths4 qt qt_rested qc qc_who qc_pull qb qb_pull qb_strength qb_back qb_moods qb_tides qb_carts : Nat) (sz : Nat) (g_known : Int32) (g_crossings : Int32) (g_sets : Nat → Int32) (g_tried : Nat → Int32) (g_strengths0 : Nat → Int32) (g_strengths1 : Nat → Int32) (g_strengths2 : Nat → Int32) (g_strengths3 : Nat → Int32) (g_strengths4 : Nat → Int32) (t_crew : Int32) (t_minutes : Int32) (t_oats : Int32) (t_waitHours : Int32) (t_waitMinutes : Int32) (t_rested : Nat → Int32) (c_last : Int32) (c_who : Nat → Int32) (c_pull : Nat → Int32) (b_law : Int32) (b_places : Int32) (b_broad : Int32) (b_horses : Int32) (b_blinds : Int32) (b_besides : Int32) (b_tideCount : Int32) (b_cartCount : Int32) (b_due : Int32) (b_pairs : Int64) (b_pull : Nat → Int32) (b_strength : Nat → Int32) (b_back : Nat → Int32) (b_moods : Nat → Int32) (b_tides : Nat → Int32) (b_carts : Nat → Int32) (n2 : Int32) (n3 : Int32) (g_crossings' : Int32) (g_sets' : Nat → Int32) (hf : f_X1_takeOverD4 n2 n3 g_crossings g_sets g_tried = some (g_crossings', g_sets')) : Met l yX1_takeOver (wM yX1_takeOver cX1_takeOver 6 none) rm_X1_takeOverD4 (PreW (dC, dI) (tyA cI cZ cII) (W_X1g_X7t_X2c_X0b cI cZ cII qg qg_sets qg_tried qg_strengths qg_strengths0 qg_strengths1 qg_strengths2 qg_strengths3 qg_strengths4 qt qt_rested qc qc_who qc_pull qb qb_pull qb_strength qb_back qb_moods qb_tides qb_carts g_known g_crossings g_sets g_tried g_strengths0 g_strengths1 g_strengths2 g_strengths3 g_strengths4 t_crew t_minutes t_oats t_waitHours t_waitMinutes t_rested c_last c_who c_pull b_law b_places b_broad b_horses b_blinds b_besides b_tideCount b_cartCount b_due b_pairs b_pull b_strength b_back b_moods b_tides b_carts) sz [.ref qg, .int (4 : Int32), .int n2, .int n3]) (PostV (dC, dI) (tyA cI cZ cII) (W_X1g_X7t_X2c_X0b cI cZ cII qg qg_sets qg_tried qg_strengths qg_strengths0 qg_strengths1 qg_strengths2 qg_strengths3 qg_strengths4 qt qt_rested qc qc_who qc_pull qb qb_pull qb_strength qb_back qb_moods qb_tides qb_carts g_known g_crossings g_sets g_tried g_strengths0 g_strengths1 g_strengths2 g_strengths3 g_strengths4 t_crew t_minutes t_oats t_waitHours t_waitMinutes t_rested c_last c_who c_pull b_law b_places b_broad b_horses b_blinds b_besides b_tideCount b_cartCount b_due b_pairs b_pull b_strength b_back b_moods b_tides b_carts) (W_X1g_X7t_X2c_X0b cI cZ cII qg qg_sets qg_tried qg_strengths qg_strengths0 qg_strengths1 qg_strengths2 qg_strengths3 qg_strengths4 qt qt_rested qc qc_who qc_pull qb qb_pull qb_strength qb_back qb_moods qb_tides qb_carts g_known g_crossings' g_sets' g_tried g_strengths0 g_strengths1 g_strengths2 g_strengths3 g_strengths4 t_crew t_minutes t_oats t_waitHours t_waitMinutes t_rested c_last c_who c_pull b_law b_places b_broad b_horses b_blinds b_besides b_tideCount b_cartCount b_due b_pairs b_pull b_strength b_back b_moods b_tides b_carts) sz) 0 0 (va_A (W_X1g_X7t_X2c_X0b cI cZ cII qg qg_sets qg_tried qg_strengths qg_strengths0 qg_strengths1 qg_strengths2 qg_strengths3 qg_strengths4 qt qt_rested qc qc_who qc_pull qb qb_pull qb_strength qb_back qb_moods qb_tides qb_carts g_known g_crossings g_sets g_tried g_strengths0 g_strengths1 g_strengths2 g_strengths3 g_strengths4 t_crew t_minutes t_oats t_waitHours t_waitMinutes t_rested c_last c_who c_pull b_law b_places b_broad b_horses b_blinds b_besides b_tideCount b_cartCount b_due b_pairs b_pull b_strength b_back b_moods b_tides b_carts) sz) := by
  refine Met.ofW (cc := cX1_takeOver) (maxL := 6) (ret := none) (by decide) rfl ?_
  intro p e s m args below meth c s₁ B hml hv
  obtain ⟨rfl, hsz, hP, hK, hD0⟩ := hv
  have hx := B.exec
  have hb := B.bytes
  have hr := B.returns
  have hts := atoms_spec (ws := wM yX1_takeOver cX1_takeOver 6 none) B.pre
  have hown : s.vm.findClass RX1 = some m.cls := findClass_of_methodNamed B.named
  have hlocks := B.notSynchronized
  subst hsz
  have hD := hD0.self (sz := s.heap.size)
  obtain ⟨A, hAe⟩ : ∃ A, A = va_A (W_X1g_X7t_X2c_X0b cI cZ cII qg qg_sets qg_tried qg_strengths qg_strengths0 qg_strengths1 qg_strengths2 qg_strengths3 qg_strengths4 qt qt_rested qc qc_who qc_pull qb qb_pull qb_strength qb_back qb_moods qb_tides qb_carts g_known g_crossings g_sets g_tried g_strengths0 g_strengths1 g_strengths2 g_strengths3 g_strengths4 t_crew t_minutes t_oats t_waitHours t_waitMinutes t_rested c_last c_who c_pull b_law b_places b_broad b_horses b_blinds b_besides b_tideCount b_cartCount b_due b_pairs b_pull b_strength b_back b_moods b_tides b_carts) s.heap.size := ⟨_, rfl⟩
  rw [← hAe] at hD
  have hA : ∀ q : Nat, s.heap.size ≤ q → A q := fun q h => by rw [hAe]; exact Or.inr h
  have hS : va_S A s.heap s.heap [] := va_S.rf
  have hl := lv_entry ([.ref qg, .int (4 : Int32), .int n2, .int n3]) (n := 6) (Nat.le_of_ble_eq_true rfl)
  rw [lg_entry_eq]
  generalize (lg_sl ([.ref qg, .int (4 : Int32), .int n2, .int n3]) ++ List.replicate (6 - (lg_sl ([.ref qg, .int (4 : Int32), .int n2, .int n3])).length) Slot.unset).toArray = ls at hl ⊢
  have hl : lv_has ls 6 [(0, .ref qg), (1, .int (4 : Int32)), (2, .int n2), (3, .int n3)] := hl
  generalize ([.ref qg, .int (4 : Int32), .int n2, .int n3] : List Value).toArray = args at hts ⊢
  have hw : ∀ w ∈ wsL_law, w.before args s = true := fun w h => hts w (List.mem_cons_of_mem _ h)
  refine pg_start (fun Q hQ => ?_)
  have RET : ∀ (H : Heap) (locs : List Loc) (ls : Array Slot) (pc : Nat) (x0 : Int32) (x1 : Nat → Int32) , decode cX1_takeOver pc = .ok (.return_, 1) → va_P (dC, dI) vwCl (W_X1g_X7t_X2c_X0b cI cZ cII qg qg_sets qg_tried qg_strengths qg_strengths0 qg_strengths1 qg_strengths2 qg_strengths3 qg_strengths4 qt qt_rested qc qc_who qc_pull qb qb_pull qb_strength qb_back qb_moods qb_tides qb_carts g_known x0 x1 g_tried g_strengths0 g_strengths1 g_strengths2 g_strengths3 g_strengths4 t_crew t_minutes t_oats t_waitHours t_waitMinutes t_rested c_last c_who c_pull b_law b_places b_broad b_horses b_blinds b_besides b_tideCount b_cartCount b_due b_pairs b_pull b_strength b_back b_moods b_tides b_carts) H → va_D A (W_X1g_X7t_X2c_X0b cI cZ cII qg qg_sets qg_tried qg_strengths qg_strengths0 qg_strengths1 qg_strengths2 qg_strengths3 qg_strengths4 qt qt_rested qc qc_who qc_pull qb qb_pull qb_strength qb_back qb_moods qb_tides qb_carts g_known x0 x1 g_tried g_strengths0 g_strengths1 g_strengths2 g_strengths3 g_strengths4 t_crew t_minutes t_oats t_waitHours t_waitMinutes t_rested c_last c_who c_pull b_law b_places b_broad b_horses b_blinds b_besides b_tideCount b_cartCount b_due b_pairs b_pull b_strength b_back b_moods b_tides b_carts) → va_S A s.heap H locs → (some (x0, x1) : Option (Int32 × (Nat → Int32))) = some (g_crossings', g_sets') → W p l e rm_X1_takeOverD4 s m args below meth c H locs 0 0 Q (F0 m pc ls []) := by
    intro H locs ls pc x0 x1 hd hP hD hS he
    subst hAe; subst hQ
    simp only [Option.some.injEq, Prod.mk.injEq] at he
    obtain ⟨rfl, rfl⟩ := he
    exact pg_vret hx hb hr hlocks hK hP hD hS hd
  unfold f_X1_takeOverD4 at hf
  refine lv_iload_n hx hb dX1_takeOver_0 rfl (lv_at hl 2 rfl) ?_
  refine lv_if_ne (tgt := 24) hx hb dX1_takeOver_1 (by decide) (fun h9 => ?_) (fun h9 => ?_)
  · have hf := pg_f h9 hf
    refine lv_iconst (v := (1 : Int32)) hx hb dX1_takeOver_24 (by decide) ?_
    refine lv_istore (lv' := [(4, .int (1 : Int32)), (0, .ref qg), (1, .int (4 : Int32)), (2, .int n2), (3, .int n3)]) hx hb dX1_takeOver_25 hl (by decide) rfl (fun ls hl => ?_)
    obtain ⟨K87_1, hK87_1, hf⟩ := jn1_s hf
    have WK87_1 : ∀ (u_1 : Unit) (H : Heap) (locs : List Loc) (ls : Array Slot), va_P (dC, dI) vwCl (W_X1g_X7t_X2c_X0b cI cZ cII qg qg_sets qg_tried qg_strengths qg_strengths0 qg_strengths1 qg_strengths2 qg_strengths3 qg_strengths4 qt qt_rested qc qc_who qc_pull qb qb_pull qb_strength qb_back qb_moods qb_tides qb_carts g_known g_crossings g_sets g_tried g_strengths0 g_strengths1 g_strengths2 g_strengths3 g_strengths4 t_crew t_minutes t_oats t_waitHours t_waitMinutes t_rested c_last c_who c_pull b_law b_places b_broad b_horses b_blinds b_besides b_tideCount b_cartCount b_due b_pairs b_pull b_strength b_back b_moods b_tides b_carts) H → va_D A (W_X1g_X7t_X2c_X0b cI cZ cII qg qg_sets qg_tried qg_strengths qg_strengths0 qg_strengths1 qg_strengths2 qg_strengths3 qg_strengths4 qt qt_rested qc qc_who qc_pull qb qb_pull qb_strength qb_back qb_moods qb_tides qb_carts g_known g_crossings g_sets g_tried g_strengths0 g_strengths1 g_strengths2 g_strengths3 g_strengths4 t_crew t_minutes t_oats t_waitHours t_waitMinutes t_rested c_last c_who c_pull b_law b_places b_broad b_horses b_blinds b_besides b_tideCount b_cartCount b_due b_pairs b_pull b_strength b_back b_moods b_tides b_carts) → va_S A s.heap H locs → lv_has ls 6 [] → K87_1 u_1 = some (g_crossings', g_sets') → W p l e rm_X1_takeOverD4 s m args below meth c H locs 0 0 Q (F0 m 87 ls []) := by
      intro u_1 H locs ls hP hD hS hl hf
      have hf := hK87_1 _ hf
      exact RET _ _ _ _ _ _ dX1_takeOver_87 hP hD hS hf
    obtain ⟨B2, hB2, hf⟩ := lq1_n hf
    have WL2 : ∀ (n9 : Nat) (y4_2 : Int32) (H : Heap) (locs : List Loc) (ls : Array Slot), va_P (dC, dI) vwCl (W_X1g_X7t_X2c_X0b cI cZ cII qg qg_sets qg_tried qg_strengths qg_strengths0 qg_strengths1 qg_strengths2 qg_strengths3 qg_strengths4 qt qt_rested qc qc_who qc_pull qb qb_pull qb_strength qb_back qb_moods qb_tides qb_carts g_known g_crossings g_sets g_tried g_strengths0 g_strengths1 g_strengths2 g_strengths3 g_strengths4 t_crew t_minutes t_oats t_waitHours t_waitMinutes t_rested c_last c_who c_pull b_law b_places b_broad b_horses b_blinds b_besides b_tideCount b_cartCount b_due b_pairs b_pull b_strength b_back b_moods b_tides b_carts) H → va_D A (W_X1g_X7t_X2c_X0b cI cZ cII qg qg_sets qg_tried qg_strengths qg_strengths0 qg_strengths1 qg_strengths2 qg_strengths3 qg_strengths4 qt qt_rested qc qc_who qc_pull qb qb_pull qb_strength qb_back qb_moods qb_tides qb_carts g_known g_crossings g_sets g_tried g_strengths0 g_strengths1 g_strengths2 g_strengths3 g_strengths4 t_crew t_minutes t_oats t_waitHours t_waitMinutes t_rested c_last c_who c_pull b_law b_places b_broad b_horses b_blinds b_besides b_tideCount b_cartCount b_due b_pairs b_pull b_strength b_back b_moods b_tides b_carts) → va_S A s.heap H locs → lv_has ls 6 [(0, .ref qg), (1, .int (4 : Int32)), (2, .int n2), (3, .int n3), (4, .int y4_2)] → lq1 B2 n9 y4_2 = some (g_crossings', g_sets') → W p l e rm_X1_takeOverD4 s m args below meth c H locs 0 0 Q (F0 m 27 ls []) := by
      intro n9
      induction n9 with
      | zero => intro y4_2 H locs ls hP hD hS hl hf; cases hf
      | succ n9 ih =>
        intro y4_2 H locs ls hP hD hS hl hf
        obtain ⟨rec2, hrec2, hf⟩ := lq1_s hf
        have hf := hB2 rec2 _ hf
        refine lv_iload hx hb dX1_takeOver_27 (lv_at hl 4 rfl) ?_
        refine lv_iload_n hx hb dX1_takeOver_29 rfl (lv_at hl 2 rfl) ?_
        refine lv_icmp_gt (tgt := 87) hx hb dX1_takeOver_30 (by decide) (fun h9 => ?_) (fun h9 => ?_)
        · have hf := pg_t h9 hf
          exact WK87_1 _ _ _ _ hP hD hS (lv_sub hl [] rfl) hf
        · have hf := pg_f h9 hf
          refine lv_aload_n hx hb dX1_takeOver_33 rfl (lv_at hl 0 rfl) ?_
          refine va_get (D := (dC, dI)) (ci := 1) (v := .int g_crossings) (C := RX1) (T := TX1) (N := 8) hx hb hw inlX1 hown hK hP 0 rfl rfl 1 (by decide) (hw _ mw_40_13) (fun _ h9 => h9) rfl dX1_takeOver_34 ?_
          refine lv_iconst (v := (-1 : Int32)) hx hb dX1_takeOver_37 (by decide) ?_
          obtain ⟨J56_3, hJ56_3, hf⟩ := jn1_s hf
          have WJ56_3 : ∀ (z0_3 : Int32) (H : Heap) (locs : List Loc) (ls : Array Slot), va_P (dC, dI) vwCl (W_X1g_X7t_X2c_X0b cI cZ cII qg qg_sets qg_tried qg_strengths qg_strengths0 qg_strengths1 qg_strengths2 qg_strengths3 qg_strengths4 qt qt_rested qc qc_who qc_pull qb qb_pull qb_strength qb_back qb_moods qb_tides qb_carts g_known g_crossings g_sets g_tried g_strengths0 g_strengths1 g_strengths2 g_strengths3 g_strengths4 t_crew t_minutes t_oats t_waitHours t_waitMinutes t_rested c_last c_who c_pull b_law b_places b_broad b_horses b_blinds b_besides b_tideCount b_cartCount b_due b_pairs b_pull b_strength b_back b_moods b_tides b_carts) H → va_D A (W_X1g_X7t_X2c_X0b cI cZ cII qg qg_sets qg_tried qg_strengths qg_strengths0 qg_strengths1 qg_strengths2 qg_strengths3 qg_strengths4 qt qt_rested qc qc_who qc_pull qb qb_pull qb_strength qb_back qb_moods qb_tides qb_carts g_known g_crossings g_sets g_tried g_strengths0 g_strengths1 g_strengths2 g_strengths3 g_strengths4 t_crew t_minutes t_oats t_waitHours t_waitMinutes t_rested c_last c_who c_pull b_law b_places b_broad b_horses b_blinds b_besides b_tideCount b_cartCount b_due b_pairs b_pull b_strength b_back b_moods b_tides b_carts) → va_S A s.heap H locs → lv_has ls 6 [(0, .ref qg), (1, .int (4 : Int32)), (2, .int n2), (3, .int n3), (4, .int y4_2)] → J56_3 z0_3 = some (g_crossings', g_sets') → W p l e rm_X1_takeOverD4 s m args below meth c H locs 0 0 Q (F0 m 56 ls [.int z0_3]) := by
            intro z0_3 H locs ls hP hD hS hl hf
            have hf := hJ56_3 _ hf
            refine lv_istore (lv' := [(5, .int z0_3), (0, .ref qg), (1, .int (4 : Int32)), (2, .int n2), (3, .int n3), (4, .int y4_2)]) hx hb dX1_takeOver_56 hl (by decide) rfl (fun ls hl => ?_)
            refine lv_iload hx hb dX1_takeOver_58 (lv_at hl 0 rfl) ?_
            obtain ⟨J81_4, hJ81_4, hf⟩ := jn1_s hf
            have WJ81_4 : ∀ (u_4 : Unit) (H : Heap) (locs : List Loc) (ls : Array Slot), va_P (dC, dI) vwCl (W_X1g_X7t_X2c_X0b cI cZ cII qg qg_sets qg_tried qg_strengths qg_strengths0 qg_strengths1 qg_strengths2 qg_strengths3 qg_strengths4 qt qt_rested qc qc_who qc_pull qb qb_pull qb_strength qb_back qb_moods qb_tides qb_carts g_known g_crossings g_sets g_tried g_strengths0 g_strengths1 g_strengths2 g_strengths3 g_strengths4 t_crew t_minutes t_oats t_waitHours t_waitMinutes t_rested c_last c_who c_pull b_law b_places b_broad b_horses b_blinds b_besides b_tideCount b_cartCount b_due b_pairs b_pull b_strength b_back b_moods b_tides b_carts) H → va_D A (W_X1g_X7t_X2c_X0b cI cZ cII qg qg_sets qg_tried qg_strengths qg_strengths0 qg_strengths1 qg_strengths2 qg_strengths3 qg_strengths4 qt qt_rested qc qc_who qc_pull qb qb_pull qb_strength qb_back qb_moods qb_tides qb_carts g_known g_crossings g_sets g_tried g_strengths0 g_strengths1 g_strengths2 g_strengths3 g_strengths4 t_crew t_minutes t_oats t_waitHours t_waitMinutes t_rested c_last c_who c_pull b_law b_places b_broad b_horses b_blinds b_besides b_tideCount b_cartCount b_due b_pairs b_pull b_strength b_back b_moods b_tides b_carts) → va_S A s.heap H locs → lv_has ls 6 [(0, .ref qg), (1, .int (4 : Int32)), (2, .int n2), (3, .int n3), (4, .int y4_2)] → J81_4 u_4 = some (g_crossings', g_sets') → W p l e rm_X1_takeOverD4 s m args below meth c H locs 0 0 Q (F0 m 81 ls []) := by
              intro u_4 H locs ls hP hD hS hl hf
              have hf := hJ81_4 _ hf
              refine lv_iinc (v := (y4_2 + (1 : Int32))) (lv' := [(4, .int (y4_2 + (1 : Int32))), (0, .ref qg), (1, .int (4 : Int32)), (2, .int n2), (3, .int n3)]) hx hb dX1_takeOver_81 hl (k := 4) rfl rfl (by decide) rfl (fun ls hl => ?_)
              refine lv_goto (tgt := 27) hx hb dX1_takeOver_84 (by decide) ?_
              exact ih _ _ _ _ hP hD hS (lv_sub hl [1, 2, 3, 4, 0] rfl) (hrec2 _ hf)
            refine lv_if_eq (tgt := 81) hx hb dX1_takeOver_60 (by decide) (fun h9 => ?_) (fun h9 => ?_)
            · have hf := pg_t h9 hf
              exact WJ81_4 _ _ _ _ hP hD hS (lv_sub hl [1, 2, 3, 4, 5] rfl) hf
            · have hf := pg_f h9 hf
              refine lv_iload hx hb dX1_takeOver_63 (lv_at hl 5 rfl) ?_
              refine lv_iload_n hx hb dX1_takeOver_65 rfl (lv_at hl 3 rfl) ?_
              refine lv_iand hx hb dX1_takeOver_66 ?_
              refine lv_iload hx hb dX1_takeOver_67 (lv_at hl 5 rfl) ?_
              refine lv_icmp_ne (tgt := 81) hx hb dX1_takeOver_69 (by decide) (fun h9 => ?_) (fun h9 => ?_)
              · have hf := pg_f h9 hf
                exact WJ81_4 _ _ _ _ hP hD hS (lv_sub hl [1, 2, 3, 4, 5] rfl) hf
              · have hf := pg_t h9 hf
                refine lv_aload_n hx hb dX1_takeOver_72 rfl (lv_at hl 1 rfl) ?_
                refine lv_iload_n hx hb dX1_takeOver_73 rfl (lv_at hl 2 rfl) ?_
                refine lv_iload hx hb dX1_takeOver_74 (lv_at hl 5 rfl) ?_
                refine lv_iload_n hx hb dX1_takeOver_76 rfl (lv_at hl 3 rfl) ?_
                refine lv_iload_n hx hb dX1_takeOver_77 rfl (lv_at hl 4 rfl) ?_
                obtain ⟨u_5, hc, hf⟩ := bn1_s hf
                refine pg_cVv (As := [.int (4 : Int32), .int y4_2, .int n2, .int n3]) (rest := []) (wf := (W_X1g_X7t_X2c_X0b cI cZ cII qg qg_sets qg_tried qg_strengths qg_strengths0 qg_strengths1 qg_strengths2 qg_strengths3 qg_strengths4 qt qt_rested qc qc_who qc_pull qb qb_pull qb_strength qb_back qb_moods qb_tides qb_carts g_known g_crossings g_sets g_tried g_strengths0 g_strengths1 g_strengths2 g_strengths3 g_strengths4 t_crew t_minutes t_oats t_waitHours t_waitMinutes t_rested c_last c_who c_pull b_law b_places b_broad b_horses b_blinds b_besides b_tideCount b_cartCount b_due b_pairs b_pull b_strength b_back b_moods b_tides b_carts)) ⟨hx, hb, hml, hown, hw⟩ (c_X1_takeSetD4 l dC dI cI cZ cII qg qg_sets qg_tried qg_strengths qg_strengths0 qg_strengths1 qg_strengths2 qg_strengths3 qg_strengths4 qt qt_rested qc qc_who qc_pull qb qb_pull qb_strength qb_back qb_moods qb_tides qb_carts H.size g_known g_crossings g_sets g_tried g_strengths0 g_strengths1 g_strengths2 g_strengths3 g_strengths4 t_crew t_minutes t_oats t_waitHours t_waitMinutes t_rested c_last c_who c_pull b_law b_places b_broad b_horses b_blinds b_besides b_tideCount b_cartCount b_due b_pairs b_pull b_strength b_back b_moods b_tides b_carts y4_2 n2 n3 u_5 hc) (cwV 4 hts (wM_V mw_40_20 mw_40_21 mw_40_22 mw_2_18 mw_40_23) rfl rfl rfl dk_X1_takeSet ⟨Nat.le_of_ble_eq_true rfl, Nat.le_of_ble_eq_true rfl⟩) hK hP hD hS hA 1 0 rfl rfl rfl [0, 1, 2, 3, 4, 5, 6, 7, 8, 9, 10, 11, 12, 13, 14, 15, 16, 17, 18, 19, 20] [] [0, 1, 2, 3, 4, 5, 6, 7, 8, 9, 10, 11, 12, 13, 14, 15, 16, 17, 18, 19, 20] rfl rfl rfl (by decide) rfl hl.1 rfl (Nat.le_of_ble_eq_true rfl) dX1_takeOver_78 ⟨Nat.zero_le _, Nat.zero_le _⟩ (fun H locs hP hD hS => ?_)
                exact WJ81_4 _ _ _ _ hP hD hS (lv_sub hl [1, 2, 3, 4, 5] rfl) hf
          obtain ⟨J51_6, hJ51_6, hf⟩ := jn1_s hf
          have WJ51_6 : ∀ (u_6 : Unit) (H : Heap) (locs : List Loc) (ls : Array Slot), va_P (dC, dI) vwCl (W_X1g_X7t_X2c_X0b cI cZ cII qg qg_sets qg_tried qg_strengths qg_strengths0 qg_strengths1 qg_strengths2 qg_strengths3 qg_strengths4 qt qt_rested qc qc_who qc_pull qb qb_pull qb_strength qb_back qb_moods qb_tides qb_carts g_known g_crossings g_sets g_tried g_strengths0 g_strengths1 g_strengths2 g_strengths3 g_strengths4 t_crew t_minutes t_oats t_waitHours t_waitMinutes t_rested c_last c_who c_pull b_law b_places b_broad b_horses b_blinds b_besides b_tideCount b_cartCount b_due b_pairs b_pull b_strength b_back b_moods b_tides b_carts) H → va_D A (W_X1g_X7t_X2c_X0b cI cZ cII qg qg_sets qg_tried qg_strengths qg_strengths0 qg_strengths1 qg_strengths2 qg_strengths3 qg_strengths4 qt qt_rested qc qc_who qc_pull qb qb_pull qb_strength qb_back qb_moods qb_tides qb_carts g_known g_crossings g_sets g_tried g_strengths0 g_strengths1 g_strengths2 g_strengths3 g_strengths4 t_crew t_minutes t_oats t_waitHours t_waitMinutes t_rested c_last c_who c_pull b_law b_places b_broad b_horses b_blinds b_besides b_tideCount b_cartCount b_due b_pairs b_pull b_strength b_back b_moods b_tides b_carts) → va_S A s.heap H locs → lv_has ls 6 [(0, .ref qg), (1, .int (4 : Int32)), (2, .int n2), (3, .int n3), (4, .int y4_2)] → J51_6 u_6 = some (g_crossings', g_sets') → W p l e rm_X1_takeOverD4 s m args below meth c H locs 0 0 Q (F0 m 51 ls []) := by
            intro u_6 H locs ls hP hD hS hl hf
            have hf := hJ51_6 _ hf
            refine lv_iconst (v := (1 : Int32)) hx hb dX1_takeOver_51 (by decide) ?_
            refine lv_goto (tgt := 56) hx hb dX1_takeOver_52 (by decide) ?_
            exact WJ56_3 _ _ _ _ hP hD hS hl hf
          refine lv_icmp_eq (tgt := 51) hx hb dX1_takeOver_38 (by decide) (fun h9 => ?_) (fun h9 => ?_)
          · have hf := pg_t h9 hf
            exact WJ51_6 _ _ _ _ hP hD hS hl hf
          · have hf := pg_f h9 hf
            refine lv_iload_n hx hb dX1_takeOver_41 rfl (lv_at hl 1 rfl) ?_
            refine lv_iconst (v := (1 : Int32)) hx hb dX1_takeOver_42 (by decide) ?_
            refine lv_iadd hx hb dX1_takeOver_43 ?_
            refine lv_topi (fun y9 ey9 => ?_)
            obtain rfl : y9 = (5 : Int32) := ey9.trans (by decide)
            refine lv_aload_n hx hb dX1_takeOver_44 rfl (lv_at hl 0 rfl) ?_
            refine va_get (D := (dC, dI)) (ci := 1) (v := .int g_crossings) (C := RX1) (T := TX1) (N := 8) hx hb hw inlX1 hown hK hP 0 rfl rfl 1 (by decide) (hw _ mw_40_13) (fun _ h9 => h9) rfl dX1_takeOver_45 ?_
            refine lv_icmp_ge (tgt := 55) hx hb dX1_takeOver_48 (by decide) (fun h9 => ?_) (fun h9 => ?_)
            · have hf := pg_t h9 hf
              refine lv_iconst (v := (0 : Int32)) hx hb dX1_takeOver_55 (by decide) ?_
              exact WJ56_3 _ _ _ _ hP hD hS hl hf
            · have hf := pg_f h9 hf
              exact WJ51_6 _ _ _ _ hP hD hS hl hf
    exact WL2 fu _ _ _ _ hP hD hS (lv_sub hl [1, 2, 3, 4, 0] rfl) hf
  · have hf := pg_t h9 hf
    refine lv_aload_n hx hb dX1_takeOver_4 rfl (lv_at hl 0 rfl) ?_
    refine lv_iload_n hx hb dX1_takeOver_5 rfl (lv_at hl 1 rfl) ?_
    refine va_put (D := (dC, dI)) (ci := 1) (v := .int (4 : Int32)) (ty := .int) (C := RX1) (T := TX1) (N := 8) hx hb hw inlX1 tyX1 tyX1_ok nmX1 hown hK hP hD hS 0 rfl rfl 1 (by decide) (hw _ mw_40_13) (fun _ h9 => h9) rfl (by decide +kernel) rfl rfl (Nat.le_of_ble_eq_true rfl) dX1_takeOver_6 (fun H locs hP hD hS => ?_)
    have hP : va_P (dC, dI) vwCl (W_X1g_X7t_X2c_X0b cI cZ cII qg qg_sets qg_tried qg_strengths qg_strengths0 qg_strengths1 qg_strengths2 qg_strengths3 qg_strengths4 qt qt_rested qc qc_who qc_pull qb qb_pull qb_strength qb_back qb_moods qb_tides qb_carts g_known (4 : Int32) g_sets g_tried g_strengths0 g_strengths1 g_strengths2 g_strengths3 g_strengths4 t_crew t_minutes t_oats t_waitHours t_waitMinutes t_rested c_last c_who c_pull b_law b_places b_broad b_horses b_blinds b_besides b_tideCount b_cartCount b_due b_pairs b_pull b_strength b_back b_moods b_tides b_carts) H := hP
    have hD : va_D A (W_X1g_X7t_X2c_X0b cI cZ cII qg qg_sets qg_tried qg_strengths qg_strengths0 qg_strengths1 qg_strengths2 qg_strengths3 qg_strengths4 qt qt_rested qc qc_who qc_pull qb qb_pull qb_strength qb_back qb_moods qb_tides qb_carts g_known (4 : Int32) g_sets g_tried g_strengths0 g_strengths1 g_strengths2 g_strengths3 g_strengths4 t_crew t_minutes t_oats t_waitHours t_waitMinutes t_rested c_last c_who c_pull b_law b_places b_broad b_horses b_blinds b_besides b_tideCount b_cartCount b_due b_pairs b_pull b_strength b_back b_moods b_tides b_carts) := hD
    refine lv_aload_n hx hb dX1_takeOver_9 rfl (lv_at hl 0 rfl) ?_
    refine va_get (D := (dC, dI)) (ci := 1) (v := .ref qg_tried) (C := RX1) (T := TX1) (N := 8) hx hb hw inlX1 hown hK hP 0 rfl rfl 6 (by decide) (hw _ mw_5_4) (fun _ h9 => h9) rfl dX1_takeOver_10 ?_
    refine lv_iconst (v := (0 : Int32)) hx hb dX1_takeOver_13 (by decide) ?_
    refine lv_aload_n hx hb dX1_takeOver_14 rfl (lv_at hl 0 rfl) ?_
    refine va_get (D := (dC, dI)) (ci := 1) (v := .ref qg_sets) (C := RX1) (T := TX1) (N := 8) hx hb hw inlX1 hown hK hP 0 rfl rfl 5 (by decide) (hw _ mw_5_3) (fun _ h9 => h9) rfl dX1_takeOver_15 ?_
    refine lv_iconst (v := (0 : Int32)) hx hb dX1_takeOver_18 (by decide) ?_
    refine lv_iconst (v := (4 : Int32)) hx hb dX1_takeOver_19 (by decide) ?_
    refine va_copyi hx hb (hml.trans hl.1.symm) hown (hw _ mw_40_14) (hw _ mw_18_17) (hw _ mw_18_18) (hw _ mw_18_19) hK hP hD hS 2 1 0 0 (ty := .int) rfl rfl rfl rfl rfl (by decide) (by decide) (by decide) (by decide) (by decide) (fun _ _ => rfl) (Nat.le_of_ble_eq_true rfl) (by decide +kernel) dX1_takeOver_20 (fun H locs hP hD hS => ?_)
    have hP : va_P (dC, dI) vwCl (W_X1g_X7t_X2c_X0b cI cZ cII qg qg_sets qg_tried qg_strengths qg_strengths0 qg_strengths1 qg_strengths2 qg_strengths3 qg_strengths4 qt qt_rested qc qc_who qc_pull qb qb_pull qb_strength qb_back qb_moods qb_tides qb_carts g_known (4 : Int32) (va_cpy g_tried g_sets 0 0 4) g_tried g_strengths0 g_strengths1 g_strengths2 g_strengths3 g_strengths4 t_crew t_minutes t_oats t_waitHours t_waitMinutes t_rested c_last c_who c_pull b_law b_places b_broad b_horses b_blinds b_besides b_tideCount b_cartCount b_due b_pairs b_pull b_strength b_back b_moods b_tides b_carts) H := hP
    have hD : va_D A (W_X1g_X7t_X2c_X0b cI cZ cII qg qg_sets qg_tried qg_strengths qg_strengths0 qg_strengths1 qg_strengths2 qg_strengths3 qg_strengths4 qt qt_rested qc qc_who qc_pull qb qb_pull qb_strength qb_back qb_moods qb_tides qb_carts g_known (4 : Int32) (va_cpy g_tried g_sets 0 0 4) g_tried g_strengths0 g_strengths1 g_strengths2 g_strengths3 g_strengths4 t_crew t_minutes t_oats t_waitHours t_waitMinutes t_rested c_last c_who c_pull b_law b_places b_broad b_horses b_blinds b_besides b_tideCount b_cartCount b_due b_pairs b_pull b_strength b_back b_moods b_tides b_carts) := hD
    exact RET _ _ _ _ _ _ dX1_takeOver_23 hP hD hS hf
def f_X1_takeSetD3 (n2 : Int32) (n3 : Int32) (n4 : Int32) (g_crossings : Int32) (g_sets : Nat → Int32) (g_tried : Nat → Int32) (g_strengths3 : Nat → Int32) (g_strengths4 : Nat → Int32) (t_crew : Int32) (t_minutes : Int32) (t_oats : Int32) (c_last : Int32) (c_who : Nat → Int32) (c_pull : Nat → Int32) (b_law : Int32) (b_broad : Int32) (b_horses : Int32) (b_tideCount : Int32) (b_cartCount : Int32) (b_strength : Nat → Int32) (b_back : Nat → Int32) (b_tides : Nat → Int32) (b_carts : Nat → Int32) : Option (Int32 × (Nat → Int32) × (Nat → Int32) × (Nat → Int32) × Int32 × Int32 × Int32) :=
  bn1 (f_X0_tideOf n4 b_tideCount b_tides) (fun (r_1 : Int32) =>
    bn1 (f_X1_weight n2 b_cartCount b_carts) (fun (r_2 : Int32) =>
      bn4 (f_X7_findSoonest (r_1 - r_2) (-1 : Int32) t_crew t_minutes t_oats c_last c_who c_pull b_law b_broad g_strengths3) (fun (r_3 : Int32) (t_crew_3 : Int32) (t_minutes_3 : Int32) (t_oats_3 : Int32) =>
        if r_3 = 0 then
          some (g_crossings, g_sets, g_tried, g_strengths4, t_crew_3, t_minutes_3, t_oats_3)
        else
          bn1 (f_X2_tire t_crew_3 t_minutes_3 c_who b_horses b_strength b_back g_strengths3 g_strengths4) (fun (g_strengths4_4 : Nat → Int32) =>
            bn2 (f_X1_takeOverD4 (n3 - n2) (n4 + (1 : Int32)) g_crossings g_sets (upd g_tried ((3 : Int32)).toNatClampNeg n2)) (fun (g_crossings_5 : Int32) (g_sets_5 : Nat → Int32) =>
              some (g_crossings_5, g_sets_5, (upd g_tried ((3 : Int32)).toNatClampNeg n2), g_strengths4_4, t_crew_3, t_minutes_3, t_oats_3)
            )
          )
      )
    )
  )
abbrev rm_X1_takeSetD3 : Room := { frames := 4, cells := 0, slots := 0, locals := 127 }
set_option maxHeartbeats 4000000 in
set_option maxRecDepth 100000 in
theorem c_X1_takeSetD3 (l : Launch) (dC : Nat → ClassId) (dI : Nat → Nat → Nat) (cI cZ cII : ClassId) (qg qg_sets qg_tried qg_strengths qg_strengths0 qg_strengths1 qg_strengths2 qg_strengths3 qg_strengths4 qt qt_rested qc qc_who qc_pull qb qb_pull qb_strength qb_back qb_moods qb_tides qb_carts : Nat) (sz : Nat) (g_known : Int32) (g_crossings : Int32) (g_sets : Nat → Int32) (g_tried : Nat → Int32) (g_strengths0 : Nat → Int32) (g_strengths1 : Nat → Int32) (g_strengths2 : Nat → Int32) (g_strengths3 : Nat → Int32) (g_strengths4 : Nat → Int32) (t_crew : Int32) (t_minutes : Int32) (t_oats : Int32) (t_waitHours : Int32) (t_waitMinutes : Int32) (t_rested : Nat → Int32) (c_last : Int32) (c_who : Nat → Int32) (c_pull : Nat → Int32) (b_law : Int32) (b_places : Int32) (b_broad : Int32) (b_horses : Int32) (b_blinds : Int32) (b_besides : Int32) (b_tideCount : Int32) (b_cartCount : Int32) (b_due : Int32) (b_pairs : Int64) (b_pull : Nat → Int32) (b_strength : Nat → Int32) (b_back : Nat → Int32) (b_moods : Nat → Int32) (b_tides : Nat → Int32) (b_carts : Nat → Int32) (n2 : Int32) (n3 : Int32) (n4 : Int32) (g_crossings' : Int32) (g_sets' : Nat → Int32) (g_tried' : Nat → Int32) (g_strengths4' : Nat → Int32) (t_crew' : Int32) (t_minutes' : Int32) (t_oats' : Int32) (hf : f_X1_takeSetD3 n2 n3 n4 g_crossings g_sets g_tried g_strengths3 g_strengths4 t_crew t_minutes t_oats c_last c_who c_pull b_law b_broad b_horses b_tideCount b_cartCount b_strength b_back b_tides b_carts = some (g_crossings', g_sets', g_tried', g_strengths4', t_crew', t_minutes', t_oats')) : Met l yX1_takeSet (wM yX1_takeSet cX1_takeSet 6 none) rm_X1_takeSetD3 (PreW (dC, dI) (tyA cI cZ cII) (W_X1g_X7t_X2c_X0b cI cZ cII qg qg_sets qg_tried qg_strengths qg_strengths0 qg_strengths1 qg_strengths2 qg_strengths3 qg_strengths4 qt qt_rested qc qc_who qc_pull qb qb_pull qb_strength qb_back qb_moods qb_tides qb_carts g_known g_crossings g_sets g_tried g_strengths0 g_strengths1 g_strengths2 g_strengths3 g_strengths4 t_crew t_minutes t_oats t_waitHours t_waitMinutes t_rested c_last c_who c_pull b_law b_places b_broad b_horses b_blinds b_besides b_tideCount b_cartCount b_due b_pairs b_pull b_strength b_back b_moods b_tides b_carts) sz [.ref qg, .int (3 : Int32), .int n2, .int n3, .int n4]) (PostV (dC, dI) (tyA cI cZ cII) (W_X1g_X7t_X2c_X0b cI cZ cII qg qg_sets qg_tried qg_strengths qg_strengths0 qg_strengths1 qg_strengths2 qg_strengths3 qg_strengths4 qt qt_rested qc qc_who qc_pull qb qb_pull qb_strength qb_back qb_moods qb_tides qb_carts g_known g_crossings g_sets g_tried g_strengths0 g_strengths1 g_strengths2 g_strengths3 g_strengths4 t_crew t_minutes t_oats t_waitHours t_waitMinutes t_rested c_last c_who c_pull b_law b_places b_broad b_horses b_blinds b_besides b_tideCount b_cartCount b_due b_pairs b_pull b_strength b_back b_moods b_tides b_carts) (W_X1g_X7t_X2c_X0b cI cZ cII qg qg_sets qg_tried qg_strengths qg_strengths0 qg_strengths1 qg_strengths2 qg_strengths3 qg_strengths4 qt qt_rested qc qc_who qc_pull qb qb_pull qb_strength qb_back qb_moods qb_tides qb_carts g_known g_crossings' g_sets' g_tried' g_strengths0 g_strengths1 g_strengths2 g_strengths3 g_strengths4' t_crew' t_minutes' t_oats' t_waitHours t_waitMinutes t_rested c_last c_who c_pull b_law b_places b_broad b_horses b_blinds b_besides b_tideCount b_cartCount b_due b_pairs b_pull b_strength b_back b_moods b_tides b_carts) sz) 0 0 (va_A (W_X1g_X7t_X2c_X0b cI cZ cII qg qg_sets qg_tried qg_strengths qg_strengths0 qg_strengths1 qg_strengths2 qg_strengths3 qg_strengths4 qt qt_rested qc qc_who qc_pull qb qb_pull qb_strength qb_back qb_moods qb_tides qb_carts g_known g_crossings g_sets g_tried g_strengths0 g_strengths1 g_strengths2 g_strengths3 g_strengths4 t_crew t_minutes t_oats t_waitHours t_waitMinutes t_rested c_last c_who c_pull b_law b_places b_broad b_horses b_blinds b_besides b_tideCount b_cartCount b_due b_pairs b_pull b_strength b_back b_moods b_tides b_carts) sz) := by
  refine Met.ofW (cc := cX1_takeSet) (maxL := 6) (ret := none) (by decide) rfl ?_
  intro p e s m args below meth c s₁ B hml hv
  obtain ⟨rfl, hsz, hP, hK, hD0⟩ := hv
  have hx := B.exec
  have hb := B.bytes
  have hr := B.returns
  have hts := atoms_spec (ws := wM yX1_takeSet cX1_takeSet 6 none) B.pre
  have hown : s.vm.findClass RX1 = some m.cls := findClass_of_methodNamed B.named
  have hlocks := B.notSynchronized
  subst hsz
  have hD := hD0.self (sz := s.heap.size)
  obtain ⟨A, hAe⟩ : ∃ A, A = va_A (W_X1g_X7t_X2c_X0b cI cZ cII qg qg_sets qg_tried qg_strengths qg_strengths0 qg_strengths1 qg_strengths2 qg_strengths3 qg_strengths4 qt qt_rested qc qc_who qc_pull qb qb_pull qb_strength qb_back qb_moods qb_tides qb_carts g_known g_crossings g_sets g_tried g_strengths0 g_strengths1 g_strengths2 g_strengths3 g_strengths4 t_crew t_minutes t_oats t_waitHours t_waitMinutes t_rested c_last c_who c_pull b_law b_places b_broad b_horses b_blinds b_besides b_tideCount b_cartCount b_due b_pairs b_pull b_strength b_back b_moods b_tides b_carts) s.heap.size := ⟨_, rfl⟩
  rw [← hAe] at hD
  have hA : ∀ q : Nat, s.heap.size ≤ q → A q := fun q h => by rw [hAe]; exact Or.inr h
  have hS : va_S A s.heap s.heap [] := va_S.rf
  have hl := lv_entry ([.ref qg, .int (3 : Int32), .int n2, .int n3, .int n4]) (n := 6) (Nat.le_of_ble_eq_true rfl)
  rw [lg_entry_eq]
  generalize (lg_sl ([.ref qg, .int (3 : Int32), .int n2, .int n3, .int n4]) ++ List.replicate (6 - (lg_sl ([.ref qg, .int (3 : Int32), .int n2, .int n3, .int n4])).length) Slot.unset).toArray = ls at hl ⊢
  have hl : lv_has ls 6 [(0, .ref qg), (1, .int (3 : Int32)), (2, .int n2), (3, .int n3), (4, .int n4)] := hl
  generalize ([.ref qg, .int (3 : Int32), .int n2, .int n3, .int n4] : List Value).toArray = args at hts ⊢
  have hw : ∀ w ∈ wsL_law, w.before args s = true := fun w h => hts w (List.mem_cons_of_mem _ h)
  refine pg_start (fun Q hQ => ?_)
  have RET : ∀ (H : Heap) (locs : List Loc) (ls : Array Slot) (pc : Nat) (x0 : Int32) (x1 : Nat → Int32) (x2 : Nat → Int32) (x3 : Nat → Int32) (x4 : Int32) (x5 : Int32) (x6 : Int32) , decode cX1_takeSet pc = .ok (.return_, 1) → va_P (dC, dI) vwCl (W_X1g_X7t_X2c_X0b cI cZ cII qg qg_sets qg_tried qg_strengths qg_strengths0 qg_strengths1 qg_strengths2 qg_strengths3 qg_strengths4 qt qt_rested qc qc_who qc_pull qb qb_pull qb_strength qb_back qb_moods qb_tides qb_carts g_known x0 x1 x2 g_strengths0 g_strengths1 g_strengths2 g_strengths3 x3 x4 x5 x6 t_waitHours t_waitMinutes t_rested c_last c_who c_pull b_law b_places b_broad b_horses b_blinds b_besides b_tideCount b_cartCount b_due b_pairs b_pull b_strength b_back b_moods b_tides b_carts) H → va_D A (W_X1g_X7t_X2c_X0b cI cZ cII qg qg_sets qg_tried qg_strengths qg_strengths0 qg_strengths1 qg_strengths2 qg_strengths3 qg_strengths4 qt qt_rested qc qc_who qc_pull qb qb_pull qb_strength qb_back qb_moods qb_tides qb_carts g_known x0 x1 x2 g_strengths0 g_strengths1 g_strengths2 g_strengths3 x3 x4 x5 x6 t_waitHours t_waitMinutes t_rested c_last c_who c_pull b_law b_places b_broad b_horses b_blinds b_besides b_tideCount b_cartCount b_due b_pairs b_pull b_strength b_back b_moods b_tides b_carts) → va_S A s.heap H locs → (some (x0, x1, x2, x3, x4, x5, x6) : Option (Int32 × (Nat → Int32) × (Nat → Int32) × (Nat → Int32) × Int32 × Int32 × Int32)) = some (g_crossings', g_sets', g_tried', g_strengths4', t_crew', t_minutes', t_oats') → W p l e rm_X1_takeSetD3 s m args below meth c H locs 0 0 Q (F0 m pc ls []) := by
    intro H locs ls pc x0 x1 x2 x3 x4 x5 x6 hd hP hD hS he
    subst hAe; subst hQ
    simp only [Option.some.injEq, Prod.mk.injEq] at he
    obtain ⟨rfl, rfl, rfl, rfl, rfl, rfl, rfl⟩ := he
    exact pg_vret hx hb hr hlocks hK hP hD hS hd
  unfold f_X1_takeSetD3 at hf
  refine lv_iload_n hx hb dX1_takeSet_0 rfl (lv_at hl 1 rfl) ?_
  refine lv_if_lt (tgt := 9) hx hb dX1_takeSet_1 (by decide) (fun h9 => absurd h9 (by decide)) (fun h9 => ?_)
  refine lv_iload_n hx hb dX1_takeSet_4 rfl (lv_at hl 1 rfl) ?_
  refine lv_iconst (v := (4 : Int32)) hx hb dX1_takeSet_5 (by decide) ?_
  refine lv_icmp_lt (tgt := 10) hx hb dX1_takeSet_6 (by decide) (fun h9 => ?_) (fun h9 => absurd h9 (by decide))
  refine lv_aload_n hx hb dX1_takeSet_10 rfl (lv_at hl 0 rfl) ?_
  refine va_get (D := (dC, dI)) (ci := 1) (v := .ref qb) (C := RX1) (T := TX1) (N := 8) hx hb hw inlX1 hown hK hP 0 rfl rfl 2 (by decide) (hw _ mw_5_7) (fun _ h9 => h9) rfl dX1_takeSet_11 ?_
  refine lv_iload hx hb dX1_takeSet_14 (lv_at hl 4 rfl) ?_
  obtain ⟨r_1, hc, hf⟩ := bn1_s hf
  refine pg_cVi (As := [.int n4]) (rest := []) (wf := (W_X1g_X7t_X2c_X0b cI cZ cII qg qg_sets qg_tried qg_strengths qg_strengths0 qg_strengths1 qg_strengths2 qg_strengths3 qg_strengths4 qt qt_rested qc qc_who qc_pull qb qb_pull qb_strength qb_back qb_moods qb_tides qb_carts g_known g_crossings g_sets g_tried g_strengths0 g_strengths1 g_strengths2 g_strengths3 g_strengths4 t_crew t_minutes t_oats t_waitHours t_waitMinutes t_rested c_last c_who c_pull b_law b_places b_broad b_horses b_blinds b_besides b_tideCount b_cartCount b_due b_pairs b_pull b_strength b_back b_moods b_tides b_carts)) ⟨hx, hb, hml, hown, hw⟩ (c_X0_tideOf l dC dI cI cZ cII qb qb_pull qb_strength qb_back qb_moods qb_tides qb_carts s.heap.size b_law b_places b_broad b_horses b_blinds b_besides b_tideCount b_cartCount b_due b_pairs b_pull b_strength b_back b_moods b_tides b_carts n4 r_1 hc) (cwV 1 hts (wM_V mw_41_2 mw_23_12 mw_23_13 mw_1_15 mw_23_14) rfl rfl rfl dk_X0_tideOf ⟨Nat.le_of_ble_eq_true rfl, Nat.le_of_ble_eq_true rfl⟩) hK hP hD hS hA 0 0 rfl rfl rfl [14, 15, 16, 17, 18, 19, 20] [0, 1, 2, 3, 4, 5, 6, 7, 8, 9, 10, 11, 12, 13] [0, 1, 2, 3, 4, 5, 6, 7, 8, 9, 10, 11, 12, 13, 14, 15, 16, 17, 18, 19, 20] rfl rfl rfl (by decide) rfl hl.1 rfl (Nat.le_of_ble_eq_true rfl) dX1_takeSet_16 ⟨Nat.zero_le _, Nat.zero_le _⟩ (fun H locs hP hD hS => ?_)
  refine lv_aload_n hx hb dX1_takeSet_19 rfl (lv_at hl 0 rfl) ?_
  refine lv_iload_n hx hb dX1_takeSet_20 rfl (lv_at hl 2 rfl) ?_
  obtain ⟨r_2, hc, hf⟩ := bn1_s hf
  refine pg_cVi (As := [.int n2]) (rest := [.int r_1]) (wf := (W_X1g_X7t_X2c_X0b cI cZ cII qg qg_sets qg_tried qg_strengths qg_strengths0 qg_strengths1 qg_strengths2 qg_strengths3 qg_strengths4 qt qt_rested qc qc_who qc_pull qb qb_pull qb_strength qb_back qb_moods qb_tides qb_carts g_known g_crossings g_sets g_tried g_strengths0 g_strengths1 g_strengths2 g_strengths3 g_strengths4 t_crew t_minutes t_oats t_waitHours t_waitMinutes t_rested c_last c_who c_pull b_law b_places b_broad b_horses b_blinds b_besides b_tideCount b_cartCount b_due b_pairs b_pull b_strength b_back b_moods b_tides b_carts)) ⟨hx, hb, hml, hown, hw⟩ (c_X1_weight l dC dI cI cZ cII qg qg_sets qg_tried qg_strengths qg_strengths0 qg_strengths1 qg_strengths2 qg_strengths3 qg_strengths4 qt qt_rested qc qc_who qc_pull qb qb_pull qb_strength qb_back qb_moods qb_tides qb_carts H.size g_known g_crossings g_sets g_tried g_strengths0 g_strengths1 g_strengths2 g_strengths3 g_strengths4 t_crew t_minutes t_oats t_waitHours t_waitMinutes t_rested c_last c_who c_pull b_law b_places b_broad b_horses b_blinds b_besides b_tideCount b_cartCount b_due b_pairs b_pull b_strength b_back b_moods b_tides b_carts n2 r_2 hc) (cwV 1 hts (wM_V mw_41_3 mw_41_4 mw_41_5 mw_2_18 mw_41_6) rfl rfl rfl dk_X1_weight ⟨Nat.le_of_ble_eq_true rfl, Nat.le_of_ble_eq_true rfl⟩) hK hP hD hS hA 1 0 rfl rfl rfl [0, 1, 2, 3, 4, 5, 6, 7, 8, 9, 10, 11, 12, 13, 14, 15, 16, 17, 18, 19, 20] [] [0, 1, 2, 3, 4, 5, 6, 7, 8, 9, 10, 11, 12, 13, 14, 15, 16, 17, 18, 19, 20] rfl rfl rfl (by decide) rfl hl.1 rfl (Nat.le_of_ble_eq_true rfl) dX1_takeSet_21 ⟨Nat.zero_le _, Nat.zero_le _⟩ (fun H locs hP hD hS => ?_)
  refine lv_isub hx hb dX1_takeSet_24 ?_
  refine lv_istore (lv' := [(5, .int (r_1 - r_2)), (0, .ref qg), (1, .int (3 : Int32)), (2, .int n2), (3, .int n3), (4, .int n4)]) hx hb dX1_takeSet_25 hl (by decide) rfl (fun ls hl => ?_)
  refine lv_aload_n hx hb dX1_takeSet_27 rfl (lv_at hl 1 rfl) ?_
  refine va_get (D := (dC, dI)) (ci := 1) (v := .ref qt) (C := RX1) (T := TX1) (N := 8) hx hb hw inlX1 hown hK hP 0 rfl rfl 4 (by decide) (hw _ mw_5_9) (fun _ h9 => h9) rfl dX1_takeSet_28 ?_
  refine lv_aload_n hx hb dX1_takeSet_31 rfl (lv_at hl 1 rfl) ?_
  refine va_get (D := (dC, dI)) (ci := 1) (v := .ref qg_strengths) (C := RX1) (T := TX1) (N := 8) hx hb hw inlX1 hown hK hP 0 rfl rfl 7 (by decide) (hw _ mw_5_6) (fun _ h9 => h9) rfl dX1_takeSet_32 ?_
  refine lv_iload_n hx hb dX1_takeSet_35 rfl (lv_at hl 2 rfl) ?_
  refine va_ald2 hx hb hK hP 3 2 rfl rfl (pg_lit (by decide)) dX1_takeSet_36 ?_
  refine W.eq (g2 := F0 m 37 ls [.ref qg_strengths3, .ref qt]) rfl ?_
  refine lv_iload hx hb dX1_takeSet_37 (lv_at hl 0 rfl) ?_
  refine lv_iconst (v := (-1 : Int32)) hx hb dX1_takeSet_39 (by decide) ?_
  obtain ⟨r_3, t_crew_3, t_minutes_3, t_oats_3, hc, hf⟩ := bn4_s hf
  refine pg_cVi (As := [.ref qg_strengths3, .int (r_1 - r_2), .int (-1 : Int32)]) (rest := []) (wf := (W_X1g_X7t_X2c_X0b cI cZ cII qg qg_sets qg_tried qg_strengths qg_strengths0 qg_strengths1 qg_strengths2 qg_strengths3 qg_strengths4 qt qt_rested qc qc_who qc_pull qb qb_pull qb_strength qb_back qb_moods qb_tides qb_carts g_known g_crossings g_sets g_tried g_strengths0 g_strengths1 g_strengths2 g_strengths3 g_strengths4 t_crew_3 t_minutes_3 t_oats_3 t_waitHours t_waitMinutes t_rested c_last c_who c_pull b_law b_places b_broad b_horses b_blinds b_besides b_tideCount b_cartCount b_due b_pairs b_pull b_strength b_back b_moods b_tides b_carts)) ⟨hx, hb, hml, hown, hw⟩ (c_X7_findSoonest l dC dI cI cZ cII qt qt_rested qc qc_who qc_pull qb qb_pull qb_strength qb_back qb_moods qb_tides qb_carts qg_strengths3 H.size t_crew t_minutes t_oats t_waitHours t_waitMinutes t_rested c_last c_who c_pull b_law b_places b_broad b_horses b_blinds b_besides b_tideCount b_cartCount b_due b_pairs b_pull b_strength b_back b_moods b_tides b_carts g_strengths3 (r_1 - r_2) (-1 : Int32) r_3 t_crew_3 t_minutes_3 t_oats_3 hc) (cwV 3 hts (wM_V mw_41_8 mw_34_15 mw_34_16 mw_2_10 mw_34_17) rfl rfl rfl dk_X7_findSoonest ⟨Nat.le_of_ble_eq_true rfl, Nat.le_of_ble_eq_true rfl⟩) hK hP hD hS hA 7 0 rfl rfl rfl [9, 10, 11, 12, 13, 14, 15, 16, 17, 18, 19, 20, 7] [0, 1, 2, 3, 4, 5, 6, 8] [0, 1, 2, 3, 4, 5, 6, 20, 7, 8, 9, 10, 11, 12, 13, 14, 15, 16, 17, 18, 19] rfl rfl rfl (by decide) rfl hl.1 rfl (Nat.le_of_ble_eq_true rfl) dX1_takeSet_40 ⟨Nat.zero_le _, Nat.zero_le _⟩ (fun H locs hP hD hS => ?_)
  refine lv_if_eq (tgt := 102) hx hb dX1_takeSet_43 (by decide) (fun h9 => ?_) (fun h9 => ?_)
  · have hf := pg_t h9 hf
    exact RET _ _ _ _ _ _ _ _ _ _ _ dX1_takeSet_102 hP hD hS hf
  · have hf := pg_f h9 hf
    refine lv_aload_n hx hb dX1_takeSet_46 rfl (lv_at hl 1 rfl) ?_
    refine va_get (D := (dC, dI)) (ci := 1) (v := .ref qc) (C := RX1) (T := TX1) (N := 8) hx hb hw inlX1 hown hK hP 0 rfl rfl 3 (by decide) (hw _ mw_5_8) (fun _ h9 => h9) rfl dX1_takeSet_47 ?_
    refine lv_aload_n hx hb dX1_takeSet_50 rfl (lv_at hl 1 rfl) ?_
    refine va_get (D := (dC, dI)) (ci := 1) (v := .ref qt) (C := RX1) (T := TX1) (N := 8) hx hb hw inlX1 hown hK hP 0 rfl rfl 4 (by decide) (hw _ mw_5_9) (fun _ h9 => h9) rfl dX1_takeSet_51 ?_
    refine va_get (D := (dC, dI)) (ci := 7) (v := .int t_crew_3) (C := RX7) (T := TX7) (N := 8) hx hb hw inlX7 hown hK hP 9 rfl rfl 0 (by decide) (hw _ mw_41_0) (fun _ h9 => h9) rfl dX1_takeSet_54 ?_
    refine lv_aload_n hx hb dX1_takeSet_57 rfl (lv_at hl 1 rfl) ?_
    refine va_get (D := (dC, dI)) (ci := 1) (v := .ref qt) (C := RX1) (T := TX1) (N := 8) hx hb hw inlX1 hown hK hP 0 rfl rfl 4 (by decide) (hw _ mw_5_9) (fun _ h9 => h9) rfl dX1_takeSet_58 ?_
    refine va_get (D := (dC, dI)) (ci := 7) (v := .int t_minutes_3) (C := RX7) (T := TX7) (N := 8) hx hb hw inlX7 hown hK hP 9 rfl rfl 1 (by decide) (hw _ mw_41_1) (fun _ h9 => h9) rfl dX1_takeSet_61 ?_
    refine lv_aload_n hx hb dX1_takeSet_64 rfl (lv_at hl 1 rfl) ?_
    refine va_get (D := (dC, dI)) (ci := 1) (v := .ref qg_strengths) (C := RX1) (T := TX1) (N := 8) hx hb hw inlX1 hown hK hP 0 rfl rfl 7 (by decide) (hw _ mw_5_6) (fun _ h9 => h9) rfl dX1_takeSet_65 ?_
    refine lv_iload_n hx hb dX1_takeSet_68 rfl (lv_at hl 2 rfl) ?_
    refine va_ald2 hx hb hK hP 3 2 rfl rfl (pg_lit (by decide)) dX1_takeSet_69 ?_
    refine W.eq (g2 := F0 m 70 ls [.ref qg_strengths3, .int t_minutes_3, .int t_crew_3, .ref qc]) rfl ?_
    refine lv_aload_n hx hb dX1_takeSet_70 rfl (lv_at hl 1 rfl) ?_
    refine va_get (D := (dC, dI)) (ci := 1) (v := .ref qg_strengths) (C := RX1) (T := TX1) (N := 8) hx hb hw inlX1 hown hK hP 0 rfl rfl 7 (by decide) (hw _ mw_5_6) (fun _ h9 => h9) rfl dX1_takeSet_71 ?_
    refine lv_iload_n hx hb dX1_takeSet_74 rfl (lv_at hl 2 rfl) ?_
    refine lv_iconst (v := (1 : Int32)) hx hb dX1_takeSet_75 (by decide) ?_
    refine lv_iadd hx hb dX1_takeSet_76 ?_
    refine lv_topi (fun y9 ey9 => ?_)
    obtain rfl : y9 = (4 : Int32) := ey9.trans (by decide)
    refine va_ald2 hx hb hK hP 3 2 rfl rfl (pg_lit (by decide)) dX1_takeSet_77 ?_
    refine W.eq (g2 := F0 m 78 ls [.ref qg_strengths4, .ref qg_strengths3, .int t_minutes_3, .int t_crew_3, .ref qc]) rfl ?_
    obtain ⟨g_strengths4_4, hc, hf⟩ := bn1_s hf
    refine pg_cVv (As := [.int t_crew_3, .int t_minutes_3, .ref qg_strengths3, .ref qg_strengths4]) (rest := []) (wf := (W_X1g_X7t_X2c_X0b cI cZ cII qg qg_sets qg_tried qg_strengths qg_strengths0 qg_strengths1 qg_strengths2 qg_strengths3 qg_strengths4 qt qt_rested qc qc_who qc_pull qb qb_pull qb_strength qb_back qb_moods qb_tides qb_carts g_known g_crossings g_sets g_tried g_strengths0 g_strengths1 g_strengths2 g_strengths3 g_strengths4_4 t_crew_3 t_minutes_3 t_oats_3 t_waitHours t_waitMinutes t_rested c_last c_who c_pull b_law b_places b_broad b_horses b_blinds b_besides b_tideCount b_cartCount b_due b_pairs b_pull b_strength b_back b_moods b_tides b_carts)) ⟨hx, hb, hml, hown, hw⟩ (c_X2_tire l dC dI cI cZ cII qc qc_who qc_pull qb qb_pull qb_strength qb_back qb_moods qb_tides qb_carts qg_strengths3 qg_strengths4 H.size c_last c_who c_pull b_law b_places b_broad b_horses b_blinds b_besides b_tideCount b_cartCount b_due b_pairs b_pull b_strength b_back b_moods b_tides b_carts g_strengths3 g_strengths4 t_crew_3 t_minutes_3 g_strengths4_4 hc) (cwV 4 hts (wM_V mw_41_9 mw_29_21 mw_29_22 mw_2_0 mw_29_23) rfl rfl rfl dk_X2_tire ⟨Nat.le_of_ble_eq_true rfl, Nat.le_of_ble_eq_true rfl⟩) hK hP hD hS hA 2 0 rfl rfl rfl [11, 12, 13, 14, 15, 16, 17, 18, 19, 20, 7, 8] [0, 1, 2, 3, 4, 5, 6, 9, 10] [0, 1, 2, 3, 4, 5, 6, 19, 20, 7, 8, 9, 10, 11, 12, 13, 14, 15, 16, 17, 18] rfl rfl rfl (by decide) rfl hl.1 rfl (Nat.le_of_ble_eq_true rfl) dX1_takeSet_78 ⟨Nat.zero_le _, Nat.zero_le _⟩ (fun H locs hP hD hS => ?_)
    refine lv_aload_n hx hb dX1_takeSet_81 rfl (lv_at hl 1 rfl) ?_
    refine va_get (D := (dC, dI)) (ci := 1) (v := .ref qg_tried) (C := RX1) (T := TX1) (N := 8) hx hb hw inlX1 hown hK hP 0 rfl rfl 6 (by decide) (hw _ mw_5_4) (fun _ h9 => h9) rfl dX1_takeSet_82 ?_
    refine lv_iload_n hx hb dX1_takeSet_85 rfl (lv_at hl 2 rfl) ?_
    refine lv_iload_n hx hb dX1_takeSet_86 rfl (lv_at hl 3 rfl) ?_
    refine va_iast hx hb hK hP hD hS 2 0 rfl rfl (pg_lit (by decide)) dX1_takeSet_87 (fun H locs hP hD hS => ?_)
    have hP : va_P (dC, dI) vwCl (W_X1g_X7t_X2c_X0b cI cZ cII qg qg_sets qg_tried qg_strengths qg_strengths0 qg_strengths1 qg_strengths2 qg_strengths3 qg_strengths4 qt qt_rested qc qc_who qc_pull qb qb_pull qb_strength qb_back qb_moods qb_tides qb_carts g_known g_crossings g_sets (upd g_tried ((3 : Int32)).toNatClampNeg n2) g_strengths0 g_strengths1 g_strengths2 g_strengths3 g_strengths4_4 t_crew_3 t_minutes_3 t_oats_3 t_waitHours t_waitMinutes t_rested c_last c_who c_pull b_law b_places b_broad b_horses b_blinds b_besides b_tideCount b_cartCount b_due b_pairs b_pull b_strength b_back b_moods b_tides b_carts) H := hP
    have hD : va_D A (W_X1g_X7t_X2c_X0b cI cZ cII qg qg_sets qg_tried qg_strengths qg_strengths0 qg_strengths1 qg_strengths2 qg_strengths3 qg_strengths4 qt qt_rested qc qc_who qc_pull qb qb_pull qb_strength qb_back qb_moods qb_tides qb_carts g_known g_crossings g_sets (upd g_tried ((3 : Int32)).toNatClampNeg n2) g_strengths0 g_strengths1 g_strengths2 g_strengths3 g_strengths4_4 t_crew_3 t_minutes_3 t_oats_3 t_waitHours t_waitMinutes t_rested c_last c_who c_pull b_law b_places b_broad b_horses b_blinds b_besides b_tideCount b_cartCount b_due b_pairs b_pull b_strength b_back b_moods b_tides b_carts) := hD
    refine lv_aload_n hx hb dX1_takeSet_88 rfl (lv_at hl 1 rfl) ?_
    refine lv_iload_n hx hb dX1_takeSet_89 rfl (lv_at hl 2 rfl) ?_
    refine lv_iconst (v := (1 : Int32)) hx hb dX1_takeSet_90 (by decide) ?_
    refine lv_iadd hx hb dX1_takeSet_91 ?_
    refine lv_topi (fun y9 ey9 => ?_)
    obtain rfl : y9 = (4 : Int32) := ey9.trans (by decide)
    refine lv_iload_n hx hb dX1_takeSet_92 rfl (lv_at hl 4 rfl) ?_
    refine lv_iload_n hx hb dX1_takeSet_93 rfl (lv_at hl 3 rfl) ?_
    refine lv_isub hx hb dX1_takeSet_94 ?_
    refine lv_iload hx hb dX1_takeSet_95 (lv_at hl 5 rfl) ?_
    refine lv_iconst (v := (1 : Int32)) hx hb dX1_takeSet_97 (by decide) ?_
    refine lv_iadd hx hb dX1_takeSet_98 ?_
    obtain ⟨g_crossings_5, g_sets_5, hc, hf⟩ := bn2_s hf
    refine pg_cVv (As := [.int (4 : Int32), .int (n3 - n2), .int (n4 + (1 : Int32))]) (rest := []) (wf := (W_X1g_X7t_X2c_X0b cI cZ cII qg qg_sets qg_tried qg_strengths qg_strengths0 qg_strengths1 qg_strengths2 qg_strengths3 qg_strengths4 qt qt_rested qc qc_who qc_pull qb qb_pull qb_strength qb_back qb_moods qb_tides qb_carts g_known g_crossings_5 g_sets_5 (upd g_tried ((3 : Int32)).toNatClampNeg n2) g_strengths0 g_strengths1 g_strengths2 g_strengths3 g_strengths4_4 t_crew_3 t_minutes_3 t_oats_3 t_waitHours t_waitMinutes t_rested c_last c_who c_pull b_law b_places b_broad b_horses b_blinds b_besides b_tideCount b_cartCount b_due b_pairs b_pull b_strength b_back b_moods b_tides b_carts)) ⟨hx, hb, hml, hown, hw⟩ (c_X1_takeOverD4 l dC dI cI cZ cII qg qg_sets qg_tried qg_strengths qg_strengths0 qg_strengths1 qg_strengths2 qg_strengths3 qg_strengths4 qt qt_rested qc qc_who qc_pull qb qb_pull qb_strength qb_back qb_moods qb_tides qb_carts H.size g_known g_crossings g_sets (upd g_tried ((3 : Int32)).toNatClampNeg n2) g_strengths0 g_strengths1 g_strengths2 g_strengths3 g_strengths4_4 t_crew_3 t_minutes_3 t_oats_3 t_waitHours t_waitMinutes t_rested c_last c_who c_pull b_law b_places b_broad b_horses b_blinds b_besides b_tideCount b_cartCount b_due b_pairs b_pull b_strength b_back b_moods b_tides b_carts (n3 - n2) (n4 + (1 : Int32)) g_crossings_5 g_sets_5 hc) (cwV 3 hts (wM_V mw_40_16 mw_40_17 mw_40_18 mw_2_18 mw_40_19) rfl rfl rfl dk_X1_takeOver ⟨Nat.le_of_ble_eq_true rfl, Nat.le_of_ble_eq_true rfl⟩) hK hP hD hS hA 1 0 rfl rfl rfl [0, 1, 2, 3, 4, 5, 6, 7, 8, 9, 10, 11, 12, 13, 14, 15, 16, 17, 18, 19, 20] [] [0, 1, 2, 3, 4, 5, 6, 7, 8, 9, 10, 11, 12, 13, 14, 15, 16, 17, 18, 19, 20] rfl rfl rfl (by decide) rfl hl.1 rfl (Nat.le_of_ble_eq_true rfl) dX1_takeSet_99 ⟨Nat.zero_le _, Nat.zero_le _⟩ (fun H locs hP hD hS => ?_)
    exact RET _ _ _ _ _ _ _ _ _ _ _ dX1_takeSet_102 hP hD hS hf
def f_X1_takeOverD3 (n2 : Int32) (n3 : Int32) (g_crossings : Int32) (g_sets : Nat → Int32) (g_tried : Nat → Int32) (g_strengths3 : Nat → Int32) (g_strengths4 : Nat → Int32) (t_crew : Int32) (t_minutes : Int32) (t_oats : Int32) (c_last : Int32) (c_who : Nat → Int32) (c_pull : Nat → Int32) (b_law : Int32) (b_broad : Int32) (b_horses : Int32) (b_tideCount : Int32) (b_cartCount : Int32) (b_strength : Nat → Int32) (b_back : Nat → Int32) (b_tides : Nat → Int32) (b_carts : Nat → Int32) : Option (Int32 × (Nat → Int32) × (Nat → Int32) × (Nat → Int32) × Int32 × Int32 × Int32) :=
  if n2 = 0 then
    some ((3 : Int32), (va_cpy g_tried g_sets 0 0 4), g_tried, g_strengths4, t_crew, t_minutes, t_oats)
  else
    jn7 (fun (g_crossings_1 : Int32) (g_sets_1 : Nat → Int32) (g_tried_1 : Nat → Int32) (g_strengths4_1 : Nat → Int32) (t_crew_1 : Int32) (t_minutes_1 : Int32) (t_oats_1 : Int32) =>
      some (g_crossings_1, g_sets_1, g_tried_1, g_strengths4_1, t_crew_1, t_minutes_1, t_oats_1)
    ) (fun K87_1 =>
    lq8 (fun rec2 (y4_2 : Int32) (g_crossings_2 : Int32) (g_sets_2 : Nat → Int32) (g_tried_2 : Nat → Int32) (g_strengths4_2 : Nat → Int32) (t_crew_2 : Int32) (t_minutes_2 : Int32) (t_oats_2 : Int32) =>
      if n2 < y4_2 then
        K87_1 g_crossings_2 g_sets_2 g_tried_2 g_strengths4_2 t_crew_2 t_minutes_2 t_oats_2
      else
        jn1 (fun (z0_3 : Int32) =>
          jn7 (fun (g_crossings_4 : Int32) (g_sets_4 : Nat → Int32) (g_tried_4 : Nat → Int32) (g_strengths4_4 : Nat → Int32) (t_crew_4 : Int32) (t_minutes_4 : Int32) (t_oats_4 : Int32) =>
            rec2 (y4_2 + (1 : Int32)) g_crossings_4 g_sets_4 g_tried_4 g_strengths4_4 t_crew_4 t_minutes_4 t_oats_4
          ) (fun J81_4 =>
          if z0_3 = 0 then
            J81_4 g_crossings_2 g_sets_2 g_tried_2 g_strengths4_2 t_crew_2 t_minutes_2 t_oats_2
          else
            if (y4_2 &&& n2) = y4_2 then
              bn7 (f_X1_takeSetD3 y4_2 n2 n3 g_crossings_2 g_sets_2 g_tried_2 g_strengths3 g_strengths4_2 t_crew_2 t_minutes_2 t_oats_2 c_last c_who c_pull b_law b_broad b_horses b_tideCount b_cartCount b_strength b_back b_tides b_carts) (fun (g_crossings_5 : Int32) (g_sets_5 : Nat → Int32) (g_tried_5 : Nat → Int32) (g_strengths4_5 : Nat → Int32) (t_crew_5 : Int32) (t_minutes_5 : Int32) (t_oats_5 : Int32) =>
                J81_4 g_crossings_5 g_sets_5 g_tried_5 g_strengths4_5 t_crew_5 t_minutes_5 t_oats_5
              )
            else
              J81_4 g_crossings_2 g_sets_2 g_tried_2 g_strengths4_2 t_crew_2 t_minutes_2 t_oats_2
          )
        ) (fun J56_3 =>
        jn1 (fun (u_6 : Unit) =>
          J56_3 (1 : Int32)
        ) (fun J51_6 =>
        if g_crossings_2 = (-1 : Int32) then
          J51_6 ()
        else
          if g_crossings_2 ≤ (4 : Int32) then
            J56_3 (0 : Int32)
          else
            J51_6 ()
        )
        )
    ) fu (1 : Int32) g_crossings g_sets g_tried g_strengths4 t_crew t_minutes t_oats
    )
abbrev rm_X1_takeOverD3 : Room := { frames := 5, cells := 0, slots := 0, locals := 152 }
set_option maxHeartbeats 4000000 in
set_option maxRecDepth 100000 in
theorem c_X1_takeOverD3 (l : Launch) (dC : Nat → ClassId) (dI : Nat → Nat → Nat) (cI cZ cII : ClassId) (qg qg_sets qg_tried qg_strengths qg_strengths0 qg_strengths1 qg_strengths2 qg_strengths3 qg_strengths4 qt qt_rested qc qc_who qc_pull qb qb_pull qb_strength qb_back qb_moods qb_tides qb_carts : Nat) (sz : Nat) (g_known : Int32) (g_crossings : Int32) (g_sets : Nat → Int32) (g_tried : Nat → Int32) (g_strengths0 : Nat → Int32) (g_strengths1 : Nat → Int32) (g_strengths2 : Nat → Int32) (g_strengths3 : Nat → Int32) (g_strengths4 : Nat → Int32) (t_crew : Int32) (t_minutes : Int32) (t_oats : Int32) (t_waitHours : Int32) (t_waitMinutes : Int32) (t_rested : Nat → Int32) (c_last : Int32) (c_who : Nat → Int32) (c_pull : Nat → Int32) (b_law : Int32) (b_places : Int32) (b_broad : Int32) (b_horses : Int32) (b_blinds : Int32) (b_besides : Int32) (b_tideCount : Int32) (b_cartCount : Int32) (b_due : Int32) (b_pairs : Int64) (b_pull : Nat → Int32) (b_strength : Nat → Int32) (b_back : Nat → Int32) (b_moods : Nat → Int32) (b_tides : Nat → Int32) (b_carts : Nat → Int32) (n2 : Int32) (n3 : Int32) (g_crossings' : Int32) (g_sets' : Nat → Int32) (g_tried' : Nat → Int32) (g_strengths4' : Nat → Int32) (t_crew' : Int32) (t_minutes' : Int32) (t_oats' : Int32) (hf : f_X1_takeOverD3 n2 n3 g_crossings g_sets g_tried g_strengths3 g_strengths4 t_crew t_minutes t_oats c_last c_who c_pull b_law b_broad b_horses b_tideCount b_cartCount b_strength b_back b_tides b_carts = some (g_crossings', g_sets', g_tried', g_strengths4', t_crew', t_minutes', t_oats')) : Met l yX1_takeOver (wM yX1_takeOver cX1_takeOver 6 none) rm_X1_takeOverD3 (PreW (dC, dI) (tyA cI cZ cII) (W_X1g_X7t_X2c_X0b cI cZ cII qg qg_sets qg_tried qg_strengths qg_strengths0 qg_strengths1 qg_strengths2 qg_strengths3 qg_strengths4 qt qt_rested qc qc_who qc_pull qb qb_pull qb_strength qb_back qb_moods qb_tides qb_carts g_known g_crossings g_sets g_tried g_strengths0 g_strengths1 g_strengths2 g_strengths3 g_strengths4 t_crew t_minutes t_oats t_waitHours t_waitMinutes t_rested c_last c_who c_pull b_law b_places b_broad b_horses b_blinds b_besides b_tideCount b_cartCount b_due b_pairs b_pull b_strength b_back b_moods b_tides b_carts) sz [.ref qg, .int (3 : Int32), .int n2, .int n3]) (PostV (dC, dI) (tyA cI cZ cII) (W_X1g_X7t_X2c_X0b cI cZ cII qg qg_sets qg_tried qg_strengths qg_strengths0 qg_strengths1 qg_strengths2 qg_strengths3 qg_strengths4 qt qt_rested qc qc_who qc_pull qb qb_pull qb_strength qb_back qb_moods qb_tides qb_carts g_known g_crossings g_sets g_tried g_strengths0 g_strengths1 g_strengths2 g_strengths3 g_strengths4 t_crew t_minutes t_oats t_waitHours t_waitMinutes t_rested c_last c_who c_pull b_law b_places b_broad b_horses b_blinds b_besides b_tideCount b_cartCount b_due b_pairs b_pull b_strength b_back b_moods b_tides b_carts) (W_X1g_X7t_X2c_X0b cI cZ cII qg qg_sets qg_tried qg_strengths qg_strengths0 qg_strengths1 qg_strengths2 qg_strengths3 qg_strengths4 qt qt_rested qc qc_who qc_pull qb qb_pull qb_strength qb_back qb_moods qb_tides qb_carts g_known g_crossings' g_sets' g_tried' g_strengths0 g_strengths1 g_strengths2 g_strengths3 g_strengths4' t_crew' t_minutes' t_oats' t_waitHours t_waitMinutes t_rested c_last c_who c_pull b_law b_places b_broad b_horses b_blinds b_besides b_tideCount b_cartCount b_due b_pairs b_pull b_strength b_back b_moods b_tides b_carts) sz) 0 0 (va_A (W_X1g_X7t_X2c_X0b cI cZ cII qg qg_sets qg_tried qg_strengths qg_strengths0 qg_strengths1 qg_strengths2 qg_strengths3 qg_strengths4 qt qt_rested qc qc_who qc_pull qb qb_pull qb_strength qb_back qb_moods qb_tides qb_carts g_known g_crossings g_sets g_tried g_strengths0 g_strengths1 g_strengths2 g_strengths3 g_strengths4 t_crew t_minutes t_oats t_waitHours t_waitMinutes t_rested c_last c_who c_pull b_law b_places b_broad b_horses b_blinds b_besides b_tideCount b_cartCount b_due b_pairs b_pull b_strength b_back b_moods b_tides b_carts) sz) := by
  refine Met.ofW (cc := cX1_takeOver) (maxL := 6) (ret := none) (by decide) rfl ?_
  intro p e s m args below meth c s₁ B hml hv
  obtain ⟨rfl, hsz, hP, hK, hD0⟩ := hv
  have hx := B.exec
  have hb := B.bytes
  have hr := B.returns
  have hts := atoms_spec (ws := wM yX1_takeOver cX1_takeOver 6 none) B.pre
  have hown : s.vm.findClass RX1 = some m.cls := findClass_of_methodNamed B.named
  have hlocks := B.notSynchronized
  subst hsz
  have hD := hD0.self (sz := s.heap.size)
  obtain ⟨A, hAe⟩ : ∃ A, A = va_A (W_X1g_X7t_X2c_X0b cI cZ cII qg qg_sets qg_tried qg_strengths qg_strengths0 qg_strengths1 qg_strengths2 qg_strengths3 qg_strengths4 qt qt_rested qc qc_who qc_pull qb qb_pull qb_strength qb_back qb_moods qb_tides qb_carts g_known g_crossings g_sets g_tried g_strengths0 g_strengths1 g_strengths2 g_strengths3 g_strengths4 t_crew t_minutes t_oats t_waitHours t_waitMinutes t_rested c_last c_who c_pull b_law b_places b_broad b_horses b_blinds b_besides b_tideCount b_cartCount b_due b_pairs b_pull b_strength b_back b_moods b_tides b_carts) s.heap.size := ⟨_, rfl⟩
  rw [← hAe] at hD
  have hA : ∀ q : Nat, s.heap.size ≤ q → A q := fun q h => by rw [hAe]; exact Or.inr h
  have hS : va_S A s.heap s.heap [] := va_S.rf
  have hl := lv_entry ([.ref qg, .int (3 : Int32), .int n2, .int n3]) (n := 6) (Nat.le_of_ble_eq_true rfl)
  rw [lg_entry_eq]
  generalize (lg_sl ([.ref qg, .int (3 : Int32), .int n2, .int n3]) ++ List.replicate (6 - (lg_sl ([.ref qg, .int (3 : Int32), .int n2, .int n3])).length) Slot.unset).toArray = ls at hl ⊢
  have hl : lv_has ls 6 [(0, .ref qg), (1, .int (3 : Int32)), (2, .int n2), (3, .int n3)] := hl
  generalize ([.ref qg, .int (3 : Int32), .int n2, .int n3] : List Value).toArray = args at hts ⊢
  have hw : ∀ w ∈ wsL_law, w.before args s = true := fun w h => hts w (List.mem_cons_of_mem _ h)
  refine pg_start (fun Q hQ => ?_)
  have RET : ∀ (H : Heap) (locs : List Loc) (ls : Array Slot) (pc : Nat) (x0 : Int32) (x1 : Nat → Int32) (x2 : Nat → Int32) (x3 : Nat → Int32) (x4 : Int32) (x5 : Int32) (x6 : Int32) , decode cX1_takeOver pc = .ok (.return_, 1) → va_P (dC, dI) vwCl (W_X1g_X7t_X2c_X0b cI cZ cII qg qg_sets qg_tried qg_strengths qg_strengths0 qg_strengths1 qg_strengths2 qg_strengths3 qg_strengths4 qt qt_rested qc qc_who qc_pull qb qb_pull qb_strength qb_back qb_moods qb_tides qb_carts g_known x0 x1 x2 g_strengths0 g_strengths1 g_strengths2 g_strengths3 x3 x4 x5 x6 t_waitHours t_waitMinutes t_rested c_last c_who c_pull b_law b_places b_broad b_horses b_blinds b_besides b_tideCount b_cartCount b_due b_pairs b_pull b_strength b_back b_moods b_tides b_carts) H → va_D A (W_X1g_X7t_X2c_X0b cI cZ cII qg qg_sets qg_tried qg_strengths qg_strengths0 qg_strengths1 qg_strengths2 qg_strengths3 qg_strengths4 qt qt_rested qc qc_who qc_pull qb qb_pull qb_strength qb_back qb_moods qb_tides qb_carts g_known x0 x1 x2 g_strengths0 g_strengths1 g_strengths2 g_strengths3 x3 x4 x5 x6 t_waitHours t_waitMinutes t_rested c_last c_who c_pull b_law b_places b_broad b_horses b_blinds b_besides b_tideCount b_cartCount b_due b_pairs b_pull b_strength b_back b_moods b_tides b_carts) → va_S A s.heap H locs → (some (x0, x1, x2, x3, x4, x5, x6) : Option (Int32 × (Nat → Int32) × (Nat → Int32) × (Nat → Int32) × Int32 × Int32 × Int32)) = some (g_crossings', g_sets', g_tried', g_strengths4', t_crew', t_minutes', t_oats') → W p l e rm_X1_takeOverD3 s m args below meth c H locs 0 0 Q (F0 m pc ls []) := by
    intro H locs ls pc x0 x1 x2 x3 x4 x5 x6 hd hP hD hS he
    subst hAe; subst hQ
    simp only [Option.some.injEq, Prod.mk.injEq] at he
    obtain ⟨rfl, rfl, rfl, rfl, rfl, rfl, rfl⟩ := he
    exact pg_vret hx hb hr hlocks hK hP hD hS hd
  unfold f_X1_takeOverD3 at hf
  refine lv_iload_n hx hb dX1_takeOver_0 rfl (lv_at hl 2 rfl) ?_
  refine lv_if_ne (tgt := 24) hx hb dX1_takeOver_1 (by decide) (fun h9 => ?_) (fun h9 => ?_)
  · have hf := pg_f h9 hf
    refine lv_iconst (v := (1 : Int32)) hx hb dX1_takeOver_24 (by decide) ?_
    refine lv_istore (lv' := [(4, .int (1 : Int32)), (0, .ref qg), (1, .int (3 : Int32)), (2, .int n2), (3, .int n3)]) hx hb dX1_takeOver_25 hl (by decide) rfl (fun ls hl => ?_)
    obtain ⟨K87_1, hK87_1, hf⟩ := jn7_s hf
    have WK87_1 : ∀ (g_crossings_1 : Int32) (g_sets_1 : Nat → Int32) (g_tried_1 : Nat → Int32) (g_strengths4_1 : Nat → Int32) (t_crew_1 : Int32) (t_minutes_1 : Int32) (t_oats_1 : Int32) (H : Heap) (locs : List Loc) (ls : Array Slot), va_P (dC, dI) vwCl (W_X1g_X7t_X2c_X0b cI cZ cII qg qg_sets qg_tried qg_strengths qg_strengths0 qg_strengths1 qg_strengths2 qg_strengths3 qg_strengths4 qt qt_rested qc qc_who qc_pull qb qb_pull qb_strength qb_back qb_moods qb_tides qb_carts g_known g_crossings_1 g_sets_1 g_tried_1 g_strengths0 g_strengths1 g_strengths2 g_strengths3 g_strengths4_1 t_crew_1 t_minutes_1 t_oats_1 t_waitHours t_waitMinutes t_rested c_last c_who c_pull b_law b_places b_broad b_horses b_blinds b_besides b_tideCount b_cartCount b_due b_pairs b_pull b_strength b_back b_moods b_tides b_carts) H → va_D A (W_X1g_X7t_X2c_X0b cI cZ cII qg qg_sets qg_tried qg_strengths qg_strengths0 qg_strengths1 qg_strengths2 qg_strengths3 qg_strengths4 qt qt_rested qc qc_who qc_pull qb qb_pull qb_strength qb_back qb_moods qb_tides qb_carts g_known g_crossings_1 g_sets_1 g_tried_1 g_strengths0 g_strengths1 g_strengths2 g_strengths3 g_strengths4_1 t_crew_1 t_minutes_1 t_oats_1 t_waitHours t_waitMinutes t_rested c_last c_who c_pull b_law b_places b_broad b_horses b_blinds b_besides b_tideCount b_cartCount b_due b_pairs b_pull b_strength b_back b_moods b_tides b_carts) → va_S A s.heap H locs → lv_has ls 6 [] → K87_1 g_crossings_1 g_sets_1 g_tried_1 g_strengths4_1 t_crew_1 t_minutes_1 t_oats_1 = some (g_crossings', g_sets', g_tried', g_strengths4', t_crew', t_minutes', t_oats') → W p l e rm_X1_takeOverD3 s m args below meth c H locs 0 0 Q (F0 m 87 ls []) := by
      intro g_crossings_1 g_sets_1 g_tried_1 g_strengths4_1 t_crew_1 t_minutes_1 t_oats_1 H locs ls hP hD hS hl hf
      have hf := hK87_1 _ _ _ _ _ _ _ hf
      exact RET _ _ _ _ _ _ _ _ _ _ _ dX1_takeOver_87 hP hD hS hf
    obtain ⟨B2, hB2, hf⟩ := lq8_n hf
    have WL2 : ∀ (n9 : Nat) (y4_2 : Int32) (g_crossings_2 : Int32) (g_sets_2 : Nat → Int32) (g_tried_2 : Nat → Int32) (g_strengths4_2 : Nat → Int32) (t_crew_2 : Int32) (t_minutes_2 : Int32) (t_oats_2 : Int32) (H : Heap) (locs : List Loc) (ls : Array Slot), va_P (dC, dI) vwCl (W_X1g_X7t_X2c_X0b cI cZ cII qg qg_sets qg_tried qg_strengths qg_strengths0 qg_strengths1 qg_strengths2 qg_strengths3 qg_strengths4 qt qt_rested qc qc_who qc_pull qb qb_pull qb_strength qb_back qb_moods qb_tides qb_carts g_known g_crossings_2 g_sets_2 g_tried_2 g_strengths0 g_strengths1 g_strengths2 g_strengths3 g_strengths4_2 t_crew_2 t_minutes_2 t_oats_2 t_waitHours t_waitMinutes t_rested c_last c_who c_pull b_law b_places b_broad b_horses b_blinds b_besides b_tideCount b_cartCount b_due b_pairs b_pull b_strength b_back b_moods b_tides b_carts) H → va_D A (W_X1g_X7t_X2c_X0b cI cZ cII qg qg_sets qg_tried qg_strengths qg_strengths0 qg_strengths1 qg_strengths2 qg_strengths3 qg_strengths4 qt qt_rested qc qc_who qc_pull qb qb_pull qb_strength qb_back qb_moods qb_tides qb_carts g_known g_crossings_2 g_sets_2 g_tried_2 g_strengths0 g_strengths1 g_strengths2 g_strengths3 g_strengths4_2 t_crew_2 t_minutes_2 t_oats_2 t_waitHours t_waitMinutes t_rested c_last c_who c_pull b_law b_places b_broad b_horses b_blinds b_besides b_tideCount b_cartCount b_due b_pairs b_pull b_strength b_back b_moods b_tides b_carts) → va_S A s.heap H locs → lv_has ls 6 [(0, .ref qg), (1, .int (3 : Int32)), (2, .int n2), (3, .int n3), (4, .int y4_2)] → lq8 B2 n9 y4_2 g_crossings_2 g_sets_2 g_tried_2 g_strengths4_2 t_crew_2 t_minutes_2 t_oats_2 = some (g_crossings', g_sets', g_tried', g_strengths4', t_crew', t_minutes', t_oats') → W p l e rm_X1_takeOverD3 s m args below meth c H locs 0 0 Q (F0 m 27 ls []) := by
      intro n9
      induction n9 with
      | zero => intro y4_2 g_crossings_2 g_sets_2 g_tried_2 g_strengths4_2 t_crew_2 t_minutes_2 t_oats_2 H locs ls hP hD hS hl hf; cases hf
      | succ n9 ih =>
        intro y4_2 g_crossings_2 g_sets_2 g_tried_2 g_strengths4_2 t_crew_2 t_minutes_2 t_oats_2 H locs ls hP hD hS hl hf
        obtain ⟨rec2, hrec2, hf⟩ := lq8_s hf
        have hf := hB2 rec2 _ _ _ _ _ _ _ _ hf
        refine lv_iload hx hb dX1_takeOver_27 (lv_at hl 4 rfl) ?_
        refine lv_iload_n hx hb dX1_takeOver_29 rfl (lv_at hl 2 rfl) ?_
        refine lv_icmp_gt (tgt := 87) hx hb dX1_takeOver_30 (by decide) (fun h9 => ?_) (fun h9 => ?_)
        · have hf := pg_t h9 hf
          exact WK87_1 _ _ _ _ _ _ _ _ _ _ hP hD hS (lv_sub hl [] rfl) hf
        · have hf := pg_f h9 hf
          refine lv_aload_n hx hb dX1_takeOver_33 rfl (lv_at hl 0 rfl) ?_
          refine va_get (D := (dC, dI)) (ci := 1) (v := .int g_crossings_2) (C := RX1) (T := TX1) (N := 8) hx hb hw inlX1 hown hK hP 0 rfl rfl 1 (by decide) (hw _ mw_40_13) (fun _ h9 => h9) rfl dX1_takeOver_34 ?_
          refine lv_iconst (v := (-1 : Int32)) hx hb dX1_takeOver_37 (by decide) ?_
          obtain ⟨J56_3, hJ56_3, hf⟩ := jn1_s hf
          have WJ56_3 : ∀ (z0_3 : Int32) (H : Heap) (locs : List Loc) (ls : Array Slot), va_P (dC, dI) vwCl (W_X1g_X7t_X2c_X0b cI cZ cII qg qg_sets qg_tried qg_strengths qg_strengths0 qg_strengths1 qg_strengths2 qg_strengths3 qg_strengths4 qt qt_rested qc qc_who qc_pull qb qb_pull qb_strength qb_back qb_moods qb_tides qb_carts g_known g_crossings_2 g_sets_2 g_tried_2 g_strengths0 g_strengths1 g_strengths2 g_strengths3 g_strengths4_2 t_crew_2 t_minutes_2 t_oats_2 t_waitHours t_waitMinutes t_rested c_last c_who c_pull b_law b_places b_broad b_horses b_blinds b_besides b_tideCount b_cartCount b_due b_pairs b_pull b_strength b_back b_moods b_tides b_carts) H → va_D A (W_X1g_X7t_X2c_X0b cI cZ cII qg qg_sets qg_tried qg_strengths qg_strengths0 qg_strengths1 qg_strengths2 qg_strengths3 qg_strengths4 qt qt_rested qc qc_who qc_pull qb qb_pull qb_strength qb_back qb_moods qb_tides qb_carts g_known g_crossings_2 g_sets_2 g_tried_2 g_strengths0 g_strengths1 g_strengths2 g_strengths3 g_strengths4_2 t_crew_2 t_minutes_2 t_oats_2 t_waitHours t_waitMinutes t_rested c_last c_who c_pull b_law b_places b_broad b_horses b_blinds b_besides b_tideCount b_cartCount b_due b_pairs b_pull b_strength b_back b_moods b_tides b_carts) → va_S A s.heap H locs → lv_has ls 6 [(0, .ref qg), (1, .int (3 : Int32)), (2, .int n2), (3, .int n3), (4, .int y4_2)] → J56_3 z0_3 = some (g_crossings', g_sets', g_tried', g_strengths4', t_crew', t_minutes', t_oats') → W p l e rm_X1_takeOverD3 s m args below meth c H locs 0 0 Q (F0 m 56 ls [.int z0_3]) := by
            intro z0_3 H locs ls hP hD hS hl hf
            have hf := hJ56_3 _ hf
            refine lv_istore (lv' := [(5, .int z0_3), (0, .ref qg), (1, .int (3 : Int32)), (2, .int n2), (3, .int n3), (4, .int y4_2)]) hx hb dX1_takeOver_56 hl (by decide) rfl (fun ls hl => ?_)
            refine lv_iload hx hb dX1_takeOver_58 (lv_at hl 0 rfl) ?_
            obtain ⟨J81_4, hJ81_4, hf⟩ := jn7_s hf
            have WJ81_4 : ∀ (g_crossings_4 : Int32) (g_sets_4 : Nat → Int32) (g_tried_4 : Nat → Int32) (g_strengths4_4 : Nat → Int32) (t_crew_4 : Int32) (t_minutes_4 : Int32) (t_oats_4 : Int32) (H : Heap) (locs : List Loc) (ls : Array Slot), va_P (dC, dI) vwCl (W_X1g_X7t_X2c_X0b cI cZ cII qg qg_sets qg_tried qg_strengths qg_strengths0 qg_strengths1 qg_strengths2 qg_strengths3 qg_strengths4 qt qt_rested qc qc_who qc_pull qb qb_pull qb_strength qb_back qb_moods qb_tides qb_carts g_known g_crossings_4 g_sets_4 g_tried_4 g_strengths0 g_strengths1 g_strengths2 g_strengths3 g_strengths4_4 t_crew_4 t_minutes_4 t_oats_4 t_waitHours t_waitMinutes t_rested c_last c_who c_pull b_law b_places b_broad b_horses b_blinds b_besides b_tideCount b_cartCount b_due b_pairs b_pull b_strength b_back b_moods b_tides b_carts) H → va_D A (W_X1g_X7t_X2c_X0b cI cZ cII qg qg_sets qg_tried qg_strengths qg_strengths0 qg_strengths1 qg_strengths2 qg_strengths3 qg_strengths4 qt qt_rested qc qc_who qc_pull qb qb_pull qb_strength qb_back qb_moods qb_tides qb_carts g_known g_crossings_4 g_sets_4 g_tried_4 g_strengths0 g_strengths1 g_strengths2 g_strengths3 g_strengths4_4 t_crew_4 t_minutes_4 t_oats_4 t_waitHours t_waitMinutes t_rested c_last c_who c_pull b_law b_places b_broad b_horses b_blinds b_besides b_tideCount b_cartCount b_due b_pairs b_pull b_strength b_back b_moods b_tides b_carts) → va_S A s.heap H locs → lv_has ls 6 [(0, .ref qg), (1, .int (3 : Int32)), (2, .int n2), (3, .int n3), (4, .int y4_2)] → J81_4 g_crossings_4 g_sets_4 g_tried_4 g_strengths4_4 t_crew_4 t_minutes_4 t_oats_4 = some (g_crossings', g_sets', g_tried', g_strengths4', t_crew', t_minutes', t_oats') → W p l e rm_X1_takeOverD3 s m args below meth c H locs 0 0 Q (F0 m 81 ls []) := by
              intro g_crossings_4 g_sets_4 g_tried_4 g_strengths4_4 t_crew_4 t_minutes_4 t_oats_4 H locs ls hP hD hS hl hf
              have hf := hJ81_4 _ _ _ _ _ _ _ hf
              refine lv_iinc (v := (y4_2 + (1 : Int32))) (lv' := [(4, .int (y4_2 + (1 : Int32))), (0, .ref qg), (1, .int (3 : Int32)), (2, .int n2), (3, .int n3)]) hx hb dX1_takeOver_81 hl (k := 4) rfl rfl (by decide) rfl (fun ls hl => ?_)
              refine lv_goto (tgt := 27) hx hb dX1_takeOver_84 (by decide) ?_
              exact ih _ _ _ _ _ _ _ _ _ _ _ hP hD hS (lv_sub hl [1, 2, 3, 4, 0] rfl) (hrec2 _ _ _ _ _ _ _ _ hf)
            refine lv_if_eq (tgt := 81) hx hb dX1_takeOver_60 (by decide) (fun h9 => ?_) (fun h9 => ?_)
            · have hf := pg_t h9 hf
              exact WJ81_4 _ _ _ _ _ _ _ _ _ _ hP hD hS (lv_sub hl [1, 2, 3, 4, 5] rfl) hf
            · have hf := pg_f h9 hf
              refine lv_iload hx hb dX1_takeOver_63 (lv_at hl 5 rfl) ?_
              refine lv_iload_n hx hb dX1_takeOver_65 rfl (lv_at hl 3 rfl) ?_
              refine lv_iand hx hb dX1_takeOver_66 ?_
              refine lv_iload hx hb dX1_takeOver_67 (lv_at hl 5 rfl) ?_
              refine lv_icmp_ne (tgt := 81) hx hb dX1_takeOver_69 (by decide) (fun h9 => ?_) (fun h9 => ?_)
              · have hf := pg_f h9 hf
                exact WJ81_4 _ _ _ _ _ _ _ _ _ _ hP hD hS (lv_sub hl [1, 2, 3, 4, 5] rfl) hf
              · have hf := pg_t h9 hf
                refine lv_aload_n hx hb dX1_takeOver_72 rfl (lv_at hl 1 rfl) ?_
                refine lv_iload_n hx hb dX1_takeOver_73 rfl (lv_at hl 2 rfl) ?_
                refine lv_iload hx hb dX1_takeOver_74 (lv_at hl 5 rfl) ?_
                refine lv_iload_n hx hb dX1_takeOver_76 rfl (lv_at hl 3 rfl) ?_
                refine lv_iload_n hx hb dX1_takeOver_77 rfl (lv_at hl 4 rfl) ?_
                obtain ⟨g_crossings_5, g_sets_5, g_tried_5, g_strengths4_5, t_crew_5, t_minutes_5, t_oats_5, hc, hf⟩ := bn7_s hf
                refine pg_cVv (As := [.int (3 : Int32), .int y4_2, .int n2, .int n3]) (rest := []) (wf := (W_X1g_X7t_X2c_X0b cI cZ cII qg qg_sets qg_tried qg_strengths qg_strengths0 qg_strengths1 qg_strengths2 qg_strengths3 qg_strengths4 qt qt_rested qc qc_who qc_pull qb qb_pull qb_strength qb_back qb_moods qb_tides qb_carts g_known g_crossings_5 g_sets_5 g_tried_5 g_strengths0 g_strengths1 g_strengths2 g_strengths3 g_strengths4_5 t_crew_5 t_minutes_5 t_oats_5 t_waitHours t_waitMinutes t_rested c_last c_who c_pull b_law b_places b_broad b_horses b_blinds b_besides b_tideCount b_cartCount b_due b_pairs b_pull b_strength b_back b_moods b_tides b_carts)) ⟨hx, hb, hml, hown, hw⟩ (c_X1_takeSetD3 l dC dI cI cZ cII qg qg_sets qg_tried qg_strengths qg_strengths0 qg_strengths1 qg_strengths2 qg_strengths3 qg_strengths4 qt qt_rested qc qc_who qc_pull qb qb_pull qb_strength qb_back qb_moods qb_tides qb_carts H.size g_known g_crossings_2 g_sets_2 g_tried_2 g_strengths0 g_strengths1 g_strengths2 g_strengths3 g_strengths4_2 t_crew_2 t_minutes_2 t_oats_2 t_waitHours t_waitMinutes t_rested c_last c_who c_pull b_law b_places b_broad b_horses b_blinds b_besides b_tideCount b_cartCount b_due b_pairs b_pull b_strength b_back b_moods b_tides b_carts y4_2 n2 n3 g_crossings_5 g_sets_5 g_tried_5 g_strengths4_5 t_crew_5 t_minutes_5 t_oats_5 hc) (cwV 4 hts (wM_V mw_40_20 mw_40_21 mw_40_22 mw_2_18 mw_40_23) rfl rfl rfl dk_X1_takeSet ⟨Nat.le_of_ble_eq_true rfl, Nat.le_of_ble_eq_true rfl⟩) hK hP hD hS hA 1 0 rfl rfl rfl [0, 1, 2, 3, 4, 5, 6, 7, 8, 9, 10, 11, 12, 13, 14, 15, 16, 17, 18, 19, 20] [] [0, 1, 2, 3, 4, 5, 6, 7, 8, 9, 10, 11, 12, 13, 14, 15, 16, 17, 18, 19, 20] rfl rfl rfl (by decide) rfl hl.1 rfl (Nat.le_of_ble_eq_true rfl) dX1_takeOver_78 ⟨Nat.zero_le _, Nat.zero_le _⟩ (fun H locs hP hD hS => ?_)
                exact WJ81_4 _ _ _ _ _ _ _ _ _ _ hP hD hS (lv_sub hl [1, 2, 3, 4, 5] rfl) hf
          obtain ⟨J51_6, hJ51_6, hf⟩ := jn1_s hf
          have WJ51_6 : ∀ (u_6 : Unit) (H : Heap) (locs : List Loc) (ls : Array Slot), va_P (dC, dI) vwCl (W_X1g_X7t_X2c_X0b cI cZ cII qg qg_sets qg_tried qg_strengths qg_strengths0 qg_strengths1 qg_strengths2 qg_strengths3 qg_strengths4 qt qt_rested qc qc_who qc_pull qb qb_pull qb_strength qb_back qb_moods qb_tides qb_carts g_known g_crossings_2 g_sets_2 g_tried_2 g_strengths0 g_strengths1 g_strengths2 g_strengths3 g_strengths4_2 t_crew_2 t_minutes_2 t_oats_2 t_waitHours t_waitMinutes t_rested c_last c_who c_pull b_law b_places b_broad b_horses b_blinds b_besides b_tideCount b_cartCount b_due b_pairs b_pull b_strength b_back b_moods b_tides b_carts) H → va_D A (W_X1g_X7t_X2c_X0b cI cZ cII qg qg_sets qg_tried qg_strengths qg_strengths0 qg_strengths1 qg_strengths2 qg_strengths3 qg_strengths4 qt qt_rested qc qc_who qc_pull qb qb_pull qb_strength qb_back qb_moods qb_tides qb_carts g_known g_crossings_2 g_sets_2 g_tried_2 g_strengths0 g_strengths1 g_strengths2 g_strengths3 g_strengths4_2 t_crew_2 t_minutes_2 t_oats_2 t_waitHours t_waitMinutes t_rested c_last c_who c_pull b_law b_places b_broad b_horses b_blinds b_besides b_tideCount b_cartCount b_due b_pairs b_pull b_strength b_back b_moods b_tides b_carts) → va_S A s.heap H locs → lv_has ls 6 [(0, .ref qg), (1, .int (3 : Int32)), (2, .int n2), (3, .int n3), (4, .int y4_2)] → J51_6 u_6 = some (g_crossings', g_sets', g_tried', g_strengths4', t_crew', t_minutes', t_oats') → W p l e rm_X1_takeOverD3 s m args below meth c H locs 0 0 Q (F0 m 51 ls []) := by
            intro u_6 H locs ls hP hD hS hl hf
            have hf := hJ51_6 _ hf
            refine lv_iconst (v := (1 : Int32)) hx hb dX1_takeOver_51 (by decide) ?_
            refine lv_goto (tgt := 56) hx hb dX1_takeOver_52 (by decide) ?_
            exact WJ56_3 _ _ _ _ hP hD hS hl hf
          refine lv_icmp_eq (tgt := 51) hx hb dX1_takeOver_38 (by decide) (fun h9 => ?_) (fun h9 => ?_)
          · have hf := pg_t h9 hf
            exact WJ51_6 _ _ _ _ hP hD hS hl hf
          · have hf := pg_f h9 hf
            refine lv_iload_n hx hb dX1_takeOver_41 rfl (lv_at hl 1 rfl) ?_
            refine lv_iconst (v := (1 : Int32)) hx hb dX1_takeOver_42 (by decide) ?_
            refine lv_iadd hx hb dX1_takeOver_43 ?_
            refine lv_topi (fun y9 ey9 => ?_)
            obtain rfl : y9 = (4 : Int32) := ey9.trans (by decide)
            refine lv_aload_n hx hb dX1_takeOver_44 rfl (lv_at hl 0 rfl) ?_
            refine va_get (D := (dC, dI)) (ci := 1) (v := .int g_crossings_2) (C := RX1) (T := TX1) (N := 8) hx hb hw inlX1 hown hK hP 0 rfl rfl 1 (by decide) (hw _ mw_40_13) (fun _ h9 => h9) rfl dX1_takeOver_45 ?_
            refine lv_icmp_ge (tgt := 55) hx hb dX1_takeOver_48 (by decide) (fun h9 => ?_) (fun h9 => ?_)
            · have hf := pg_t h9 hf
              refine lv_iconst (v := (0 : Int32)) hx hb dX1_takeOver_55 (by decide) ?_
              exact WJ56_3 _ _ _ _ hP hD hS hl hf
            · have hf := pg_f h9 hf
              exact WJ51_6 _ _ _ _ hP hD hS hl hf
    exact WL2 fu _ _ _ _ _ _ _ _ _ _ _ hP hD hS (lv_sub hl [1, 2, 3, 4, 0] rfl) hf
  · have hf := pg_t h9 hf
    refine lv_aload_n hx hb dX1_takeOver_4 rfl (lv_at hl 0 rfl) ?_
    refine lv_iload_n hx hb dX1_takeOver_5 rfl (lv_at hl 1 rfl) ?_
    refine va_put (D := (dC, dI)) (ci := 1) (v := .int (3 : Int32)) (ty := .int) (C := RX1) (T := TX1) (N := 8) hx hb hw inlX1 tyX1 tyX1_ok nmX1 hown hK hP hD hS 0 rfl rfl 1 (by decide) (hw _ mw_40_13) (fun _ h9 => h9) rfl (by decide +kernel) rfl rfl (Nat.le_of_ble_eq_true rfl) dX1_takeOver_6 (fun H locs hP hD hS => ?_)
    have hP : va_P (dC, dI) vwCl (W_X1g_X7t_X2c_X0b cI cZ cII qg qg_sets qg_tried qg_strengths qg_strengths0 qg_strengths1 qg_strengths2 qg_strengths3 qg_strengths4 qt qt_rested qc qc_who qc_pull qb qb_pull qb_strength qb_back qb_moods qb_tides qb_carts g_known (3 : Int32) g_sets g_tried g_strengths0 g_strengths1 g_strengths2 g_strengths3 g_strengths4 t_crew t_minutes t_oats t_waitHours t_waitMinutes t_rested c_last c_who c_pull b_law b_places b_broad b_horses b_blinds b_besides b_tideCount b_cartCount b_due b_pairs b_pull b_strength b_back b_moods b_tides b_carts) H := hP
    have hD : va_D A (W_X1g_X7t_X2c_X0b cI cZ cII qg qg_sets qg_tried qg_strengths qg_strengths0 qg_strengths1 qg_strengths2 qg_strengths3 qg_strengths4 qt qt_rested qc qc_who qc_pull qb qb_pull qb_strength qb_back qb_moods qb_tides qb_carts g_known (3 : Int32) g_sets g_tried g_strengths0 g_strengths1 g_strengths2 g_strengths3 g_strengths4 t_crew t_minutes t_oats t_waitHours t_waitMinutes t_rested c_last c_who c_pull b_law b_places b_broad b_horses b_blinds b_besides b_tideCount b_cartCount b_due b_pairs b_pull b_strength b_back b_moods b_tides b_carts) := hD
    refine lv_aload_n hx hb dX1_takeOver_9 rfl (lv_at hl 0 rfl) ?_
    refine va_get (D := (dC, dI)) (ci := 1) (v := .ref qg_tried) (C := RX1) (T := TX1) (N := 8) hx hb hw inlX1 hown hK hP 0 rfl rfl 6 (by decide) (hw _ mw_5_4) (fun _ h9 => h9) rfl dX1_takeOver_10 ?_
    refine lv_iconst (v := (0 : Int32)) hx hb dX1_takeOver_13 (by decide) ?_
    refine lv_aload_n hx hb dX1_takeOver_14 rfl (lv_at hl 0 rfl) ?_
    refine va_get (D := (dC, dI)) (ci := 1) (v := .ref qg_sets) (C := RX1) (T := TX1) (N := 8) hx hb hw inlX1 hown hK hP 0 rfl rfl 5 (by decide) (hw _ mw_5_3) (fun _ h9 => h9) rfl dX1_takeOver_15 ?_
    refine lv_iconst (v := (0 : Int32)) hx hb dX1_takeOver_18 (by decide) ?_
    refine lv_iconst (v := (4 : Int32)) hx hb dX1_takeOver_19 (by decide) ?_
    refine va_copyi hx hb (hml.trans hl.1.symm) hown (hw _ mw_40_14) (hw _ mw_18_17) (hw _ mw_18_18) (hw _ mw_18_19) hK hP hD hS 2 1 0 0 (ty := .int) rfl rfl rfl rfl rfl (by decide) (by decide) (by decide) (by decide) (by decide) (fun _ _ => rfl) (Nat.le_of_ble_eq_true rfl) (by decide +kernel) dX1_takeOver_20 (fun H locs hP hD hS => ?_)
    have hP : va_P (dC, dI) vwCl (W_X1g_X7t_X2c_X0b cI cZ cII qg qg_sets qg_tried qg_strengths qg_strengths0 qg_strengths1 qg_strengths2 qg_strengths3 qg_strengths4 qt qt_rested qc qc_who qc_pull qb qb_pull qb_strength qb_back qb_moods qb_tides qb_carts g_known (3 : Int32) (va_cpy g_tried g_sets 0 0 4) g_tried g_strengths0 g_strengths1 g_strengths2 g_strengths3 g_strengths4 t_crew t_minutes t_oats t_waitHours t_waitMinutes t_rested c_last c_who c_pull b_law b_places b_broad b_horses b_blinds b_besides b_tideCount b_cartCount b_due b_pairs b_pull b_strength b_back b_moods b_tides b_carts) H := hP
    have hD : va_D A (W_X1g_X7t_X2c_X0b cI cZ cII qg qg_sets qg_tried qg_strengths qg_strengths0 qg_strengths1 qg_strengths2 qg_strengths3 qg_strengths4 qt qt_rested qc qc_who qc_pull qb qb_pull qb_strength qb_back qb_moods qb_tides qb_carts g_known (3 : Int32) (va_cpy g_tried g_sets 0 0 4) g_tried g_strengths0 g_strengths1 g_strengths2 g_strengths3 g_strengths4 t_crew t_minutes t_oats t_waitHours t_waitMinutes t_rested c_last c_who c_pull b_law b_places b_broad b_horses b_blinds b_besides b_tideCount b_cartCount b_due b_pairs b_pull b_strength b_back b_moods b_tides b_carts) := hD
    exact RET _ _ _ _ _ _ _ _ _ _ _ dX1_takeOver_23 hP hD hS hf
def f_X1_takeSetD2 (n2 : Int32) (n3 : Int32) (n4 : Int32) (g_crossings : Int32) (g_sets : Nat → Int32) (g_tried : Nat → Int32) (g_strengths2 : Nat → Int32) (g_strengths3 : Nat → Int32) (g_strengths4 : Nat → Int32) (t_crew : Int32) (t_minutes : Int32) (t_oats : Int32) (c_last : Int32) (c_who : Nat → Int32) (c_pull : Nat → Int32) (b_law : Int32) (b_broad : Int32) (b_horses : Int32) (b_tideCount : Int32) (b_cartCount : Int32) (b_strength : Nat → Int32) (b_back : Nat → Int32) (b_tides : Nat → Int32) (b_carts : Nat → Int32) : Option (Int32 × (Nat → Int32) × (Nat → Int32) × (Nat → Int32) × (Nat → Int32) × Int32 × Int32 × Int32) :=
  bn1 (f_X0_tideOf n4 b_tideCount b_tides) (fun (r_1 : Int32) =>
    bn1 (f_X1_weight n2 b_cartCount b_carts) (fun (r_2 : Int32) =>
      bn4 (f_X7_findSoonest (r_1 - r_2) (-1 : Int32) t_crew t_minutes t_oats c_last c_who c_pull b_law b_broad g_strengths2) (fun (r_3 : Int32) (t_crew_3 : Int32) (t_minutes_3 : Int32) (t_oats_3 : Int32) =>
        if r_3 = 0 then
          some (g_crossings, g_sets, g_tried, g_strengths3, g_strengths4, t_crew_3, t_minutes_3, t_oats_3)
        else
          bn1 (f_X2_tire t_crew_3 t_minutes_3 c_who b_horses b_strength b_back g_strengths2 g_strengths3) (fun (g_strengths3_4 : Nat → Int32) =>
            bn7 (f_X1_takeOverD3 (n3 - n2) (n4 + (1 : Int32)) g_crossings g_sets (upd g_tried ((2 : Int32)).toNatClampNeg n2) g_strengths3_4 g_strengths4 t_crew_3 t_minutes_3 t_oats_3 c_last c_who c_pull b_law b_broad b_horses b_tideCount b_cartCount b_strength b_back b_tides b_carts) (fun (g_crossings_5 : Int32) (g_sets_5 : Nat → Int32) (g_tried_5 : Nat → Int32) (g_strengths4_5 : Nat → Int32) (t_crew_5 : Int32) (t_minutes_5 : Int32) (t_oats_5 : Int32) =>
              some (g_crossings_5, g_sets_5, g_tried_5, g_strengths3_4, g_strengths4_5, t_crew_5, t_minutes_5, t_oats_5)
            )
          )
      )
    )
  )
abbrev rm_X1_takeSetD2 : Room := { frames := 6, cells := 0, slots := 0, locals := 177 }
set_option maxHeartbeats 4000000 in
set_option maxRecDepth 100000 in
theorem c_X1_takeSetD2 (l : Launch) (dC : Nat → ClassId) (dI : Nat → Nat → Nat) (cI cZ cII : ClassId) (qg qg_sets qg_tried qg_strengths qg_strengths0 qg_strengths1 qg_strengths2 qg_strengths3 qg_strengths4 qt qt_rested qc qc_who qc_pull qb qb_pull qb_strength qb_back qb_moods qb_tides qb_carts : Nat) (sz : Nat) (g_known : Int32) (g_crossings : Int32) (g_sets : Nat → Int32) (g_tried : Nat → Int32) (g_strengths0 : Nat → Int32) (g_strengths1 : Nat → Int32) (g_strengths2 : Nat → Int32) (g_strengths3 : Nat → Int32) (g_strengths4 : Nat → Int32) (t_crew : Int32) (t_minutes : Int32) (t_oats : Int32) (t_waitHours : Int32) (t_waitMinutes : Int32) (t_rested : Nat → Int32) (c_last : Int32) (c_who : Nat → Int32) (c_pull : Nat → Int32) (b_law : Int32) (b_places : Int32) (b_broad : Int32) (b_horses : Int32) (b_blinds : Int32) (b_besides : Int32) (b_tideCount : Int32) (b_cartCount : Int32) (b_due : Int32) (b_pairs : Int64) (b_pull : Nat → Int32) (b_strength : Nat → Int32) (b_back : Nat → Int32) (b_moods : Nat → Int32) (b_tides : Nat → Int32) (b_carts : Nat → Int32) (n2 : Int32) (n3 : Int32) (n4 : Int32) (g_crossings' : Int32) (g_sets' : Nat → Int32) (g_tried' : Nat → Int32) (g_strengths3' : Nat → Int32) (g_strengths4' : Nat → Int32) (t_crew' : Int32) (t_minutes' : Int32) (t_oats' : Int32) (hf : f_X1_takeSetD2 n2 n3 n4 g_crossings g_sets g_tried g_strengths2 g_strengths3 g_strengths4 t_crew t_minutes t_oats c_last c_who c_pull b_law b_broad b_horses b_tideCount b_cartCount b_strength b_back b_tides b_carts = some (g_crossings', g_sets', g_tried', g_strengths3', g_strengths4', t_crew', t_minutes', t_oats')) : Met l yX1_takeSet (wM yX1_takeSet cX1_takeSet 6 none) rm_X1_takeSetD2 (PreW (dC, dI) (tyA cI cZ cII) (W_X1g_X7t_X2c_X0b cI cZ cII qg qg_sets qg_tried qg_strengths qg_strengths0 qg_strengths1 qg_strengths2 qg_strengths3 qg_strengths4 qt qt_rested qc qc_who qc_pull qb qb_pull qb_strength qb_back qb_moods qb_tides qb_carts g_known g_crossings g_sets g_tried g_strengths0 g_strengths1 g_strengths2 g_strengths3 g_strengths4 t_crew t_minutes t_oats t_waitHours t_waitMinutes t_rested c_last c_who c_pull b_law b_places b_broad b_horses b_blinds b_besides b_tideCount b_cartCount b_due b_pairs b_pull b_strength b_back b_moods b_tides b_carts) sz [.ref qg, .int (2 : Int32), .int n2, .int n3, .int n4]) (PostV (dC, dI) (tyA cI cZ cII) (W_X1g_X7t_X2c_X0b cI cZ cII qg qg_sets qg_tried qg_strengths qg_strengths0 qg_strengths1 qg_strengths2 qg_strengths3 qg_strengths4 qt qt_rested qc qc_who qc_pull qb qb_pull qb_strength qb_back qb_moods qb_tides qb_carts g_known g_crossings g_sets g_tried g_strengths0 g_strengths1 g_strengths2 g_strengths3 g_strengths4 t_crew t_minutes t_oats t_waitHours t_waitMinutes t_rested c_last c_who c_pull b_law b_places b_broad b_horses b_blinds b_besides b_tideCount b_cartCount b_due b_pairs b_pull b_strength b_back b_moods b_tides b_carts) (W_X1g_X7t_X2c_X0b cI cZ cII qg qg_sets qg_tried qg_strengths qg_strengths0 qg_strengths1 qg_strengths2 qg_strengths3 qg_strengths4 qt qt_rested qc qc_who qc_pull qb qb_pull qb_strength qb_back qb_moods qb_tides qb_carts g_known g_crossings' g_sets' g_tried' g_strengths0 g_strengths1 g_strengths2 g_strengths3' g_strengths4' t_crew' t_minutes' t_oats' t_waitHours t_waitMinutes t_rested c_last c_who c_pull b_law b_places b_broad b_horses b_blinds b_besides b_tideCount b_cartCount b_due b_pairs b_pull b_strength b_back b_moods b_tides b_carts) sz) 0 0 (va_A (W_X1g_X7t_X2c_X0b cI cZ cII qg qg_sets qg_tried qg_strengths qg_strengths0 qg_strengths1 qg_strengths2 qg_strengths3 qg_strengths4 qt qt_rested qc qc_who qc_pull qb qb_pull qb_strength qb_back qb_moods qb_tides qb_carts g_known g_crossings g_sets g_tried g_strengths0 g_strengths1 g_strengths2 g_strengths3 g_strengths4 t_crew t_minutes t_oats t_waitHours t_waitMinutes t_rested c_last c_who c_pull b_law b_places b_broad b_horses b_blinds b_besides b_tideCount b_cartCount b_due b_pairs b_pull b_strength b_back b_moods b_tides b_carts) sz) := by
  refine Met.ofW (cc := cX1_takeSet) (maxL := 6) (ret := none) (by decide) rfl ?_
  intro p e s m args below meth c s₁ B hml hv
  obtain ⟨rfl, hsz, hP, hK, hD0⟩ := hv
  have hx := B.exec
  have hb := B.bytes
  have hr := B.returns
  have hts := atoms_spec (ws := wM yX1_takeSet cX1_takeSet 6 none) B.pre
  have hown : s.vm.findClass RX1 = some m.cls := findClass_of_methodNamed B.named
  have hlocks := B.notSynchronized
  subst hsz
  have hD := hD0.self (sz := s.heap.size)
  obtain ⟨A, hAe⟩ : ∃ A, A = va_A (W_X1g_X7t_X2c_X0b cI cZ cII qg qg_sets qg_tried qg_strengths qg_strengths0 qg_strengths1 qg_strengths2 qg_strengths3 qg_strengths4 qt qt_rested qc qc_who qc_pull qb qb_pull qb_strength qb_back qb_moods qb_tides qb_carts g_known g_crossings g_sets g_tried g_strengths0 g_strengths1 g_strengths2 g_strengths3 g_strengths4 t_crew t_minutes t_oats t_waitHours t_waitMinutes t_rested c_last c_who c_pull b_law b_places b_broad b_horses b_blinds b_besides b_tideCount b_cartCount b_due b_pairs b_pull b_strength b_back b_moods b_tides b_carts) s.heap.size := ⟨_, rfl⟩
  rw [← hAe] at hD
  have hA : ∀ q : Nat, s.heap.size ≤ q → A q := fun q h => by rw [hAe]; exact Or.inr h
  have hS : va_S A s.heap s.heap [] := va_S.rf
  have hl := lv_entry ([.ref qg, .int (2 : Int32), .int n2, .int n3, .int n4]) (n := 6) (Nat.le_of_ble_eq_true rfl)
  rw [lg_entry_eq]
  generalize (lg_sl ([.ref qg, .int (2 : Int32), .int n2, .int n3, .int n4]) ++ List.replicate (6 - (lg_sl ([.ref qg, .int (2 : Int32), .int n2, .int n3, .int n4])).length) Slot.unset).toArray = ls at hl ⊢
  have hl : lv_has ls 6 [(0, .ref qg), (1, .int (2 : Int32)), (2, .int n2), (3, .int n3), (4, .int n4)] := hl
  generalize ([.ref qg, .int (2 : Int32), .int n2, .int n3, .int n4] : List Value).toArray = args at hts ⊢
  have hw : ∀ w ∈ wsL_law, w.before args s = true := fun w h => hts w (List.mem_cons_of_mem _ h)
  refine pg_start (fun Q hQ => ?_)
  have RET : ∀ (H : Heap) (locs : List Loc) (ls : Array Slot) (pc : Nat) (x0 : Int32) (x1 : Nat → Int32) (x2 : Nat → Int32) (x3 : Nat → Int32) (x4 : Nat → Int32) (x5 : Int32) (x6 : Int32) (x7 : Int32) , decode cX1_takeSet pc = .ok (.return_, 1) → va_P (dC, dI) vwCl (W_X1g_X7t_X2c_X0b cI cZ cII qg qg_sets qg_tried qg_strengths qg_strengths0 qg_strengths1 qg_strengths2 qg_strengths3 qg_strengths4 qt qt_rested qc qc_who qc_pull qb qb_pull qb_strength qb_back qb_moods qb_tides qb_carts g_known x0 x1 x2 g_strengths0 g_strengths1 g_strengths2 x3 x4 x5 x6 x7 t_waitHours t_waitMinutes t_rested c_last c_who c_pull b_law b_places b_broad b_horses b_blinds b_besides b_tideCount b_cartCount b_due b_pairs b_pull b_strength b_back b_moods b_tides b_carts) H → va_D A (W_X1g_X7t_X2c_X0b cI cZ cII qg qg_sets qg_tried qg_strengths qg_strengths0 qg_strengths1 qg_strengths2 qg_strengths3 qg_strengths4 qt qt_rested qc qc_who qc_pull qb qb_pull qb_strength qb_back qb_moods qb_tides qb_carts g_known x0 x1 x2 g_strengths0 g_strengths1 g_strengths2 x3 x4 x5 x6 x7 t_waitHours t_waitMinutes t_rested c_last c_who c_pull b_law b_places b_broad b_horses b_blinds b_besides b_tideCount b_cartCount b_due b_pairs b_pull b_strength b_back b_moods b_tides b_carts) → va_S A s.heap H locs → (some (x0, x1, x2, x3, x4, x5, x6, x7) : Option (Int32 × (Nat → Int32) × (Nat → Int32) × (Nat → Int32) × (Nat → Int32) × Int32 × Int32 × Int32)) = some (g_crossings', g_sets', g_tried', g_strengths3', g_strengths4', t_crew', t_minutes', t_oats') → W p l e rm_X1_takeSetD2 s m args below meth c H locs 0 0 Q (F0 m pc ls []) := by
    intro H locs ls pc x0 x1 x2 x3 x4 x5 x6 x7 hd hP hD hS he
    subst hAe; subst hQ
    simp only [Option.some.injEq, Prod.mk.injEq] at he
    obtain ⟨rfl, rfl, rfl, rfl, rfl, rfl, rfl, rfl⟩ := he
    exact pg_vret hx hb hr hlocks hK hP hD hS hd
  unfold f_X1_takeSetD2 at hf
  refine lv_iload_n hx hb dX1_takeSet_0 rfl (lv_at hl 1 rfl) ?_
  refine lv_if_lt (tgt := 9) hx hb dX1_takeSet_1 (by decide) (fun h9 => absurd h9 (by decide)) (fun h9 => ?_)
  refine lv_iload_n hx hb dX1_takeSet_4 rfl (lv_at hl 1 rfl) ?_
  refine lv_iconst (v := (4 : Int32)) hx hb dX1_takeSet_5 (by decide) ?_
  refine lv_icmp_lt (tgt := 10) hx hb dX1_takeSet_6 (by decide) (fun h9 => ?_) (fun h9 => absurd h9 (by decide))
  refine lv_aload_n hx hb dX1_takeSet_10 rfl (lv_at hl 0 rfl) ?_
  refine va_get (D := (dC, dI)) (ci := 1) (v := .ref qb) (C := RX1) (T := TX1) (N := 8) hx hb hw inlX1 hown hK hP 0 rfl rfl 2 (by decide) (hw _ mw_5_7) (fun _ h9 => h9) rfl dX1_takeSet_11 ?_
  refine lv_iload hx hb dX1_takeSet_14 (lv_at hl 4 rfl) ?_
  obtain ⟨r_1, hc, hf⟩ := bn1_s hf
  refine pg_cVi (As := [.int n4]) (rest := []) (wf := (W_X1g_X7t_X2c_X0b cI cZ cII qg qg_sets qg_tried qg_strengths qg_strengths0 qg_strengths1 qg_strengths2 qg_strengths3 qg_strengths4 qt qt_rested qc qc_who qc_pull qb qb_pull qb_strength qb_back qb_moods qb_tides qb_carts g_known g_crossings g_sets g_tried g_strengths0 g_strengths1 g_strengths2 g_strengths3 g_strengths4 t_crew t_minutes t_oats t_waitHours t_waitMinutes t_rested c_last c_who c_pull b_law b_places b_broad b_horses b_blinds b_besides b_tideCount b_cartCount b_due b_pairs b_pull b_strength b_back b_moods b_tides b_carts)) ⟨hx, hb, hml, hown, hw⟩ (c_X0_tideOf l dC dI cI cZ cII qb qb_pull qb_strength qb_back qb_moods qb_tides qb_carts s.heap.size b_law b_places b_broad b_horses b_blinds b_besides b_tideCount b_cartCount b_due b_pairs b_pull b_strength b_back b_moods b_tides b_carts n4 r_1 hc) (cwV 1 hts (wM_V mw_41_2 mw_23_12 mw_23_13 mw_1_15 mw_23_14) rfl rfl rfl dk_X0_tideOf ⟨Nat.le_of_ble_eq_true rfl, Nat.le_of_ble_eq_true rfl⟩) hK hP hD hS hA 0 0 rfl rfl rfl [14, 15, 16, 17, 18, 19, 20] [0, 1, 2, 3, 4, 5, 6, 7, 8, 9, 10, 11, 12, 13] [0, 1, 2, 3, 4, 5, 6, 7, 8, 9, 10, 11, 12, 13, 14, 15, 16, 17, 18, 19, 20] rfl rfl rfl (by decide) rfl hl.1 rfl (Nat.le_of_ble_eq_true rfl) dX1_takeSet_16 ⟨Nat.zero_le _, Nat.zero_le _⟩ (fun H locs hP hD hS => ?_)
  refine lv_aload_n hx hb dX1_takeSet_19 rfl (lv_at hl 0 rfl) ?_
  refine lv_iload_n hx hb dX1_takeSet_20 rfl (lv_at hl 2 rfl) ?_
  obtain ⟨r_2, hc, hf⟩ := bn1_s hf
  refine pg_cVi (As := [.int n2]) (rest := [.int r_1]) (wf := (W_X1g_X7t_X2c_X0b cI cZ cII qg qg_sets qg_tried qg_strengths qg_strengths0 qg_strengths1 qg_strengths2 qg_strengths3 qg_strengths4 qt qt_rested qc qc_who qc_pull qb qb_pull qb_strength qb_back qb_moods qb_tides qb_carts g_known g_crossings g_sets g_tried g_strengths0 g_strengths1 g_strengths2 g_strengths3 g_strengths4 t_crew t_minutes t_oats t_waitHours t_waitMinutes t_rested c_last c_who c_pull b_law b_places b_broad b_horses b_blinds b_besides b_tideCount b_cartCount b_due b_pairs b_pull b_strength b_back b_moods b_tides b_carts)) ⟨hx, hb, hml, hown, hw⟩ (c_X1_weight l dC dI cI cZ cII qg qg_sets qg_tried qg_strengths qg_strengths0 qg_strengths1 qg_strengths2 qg_strengths3 qg_strengths4 qt qt_rested qc qc_who qc_pull qb qb_pull qb_strength qb_back qb_moods qb_tides qb_carts H.size g_known g_crossings g_sets g_tried g_strengths0 g_strengths1 g_strengths2 g_strengths3 g_strengths4 t_crew t_minutes t_oats t_waitHours t_waitMinutes t_rested c_last c_who c_pull b_law b_places b_broad b_horses b_blinds b_besides b_tideCount b_cartCount b_due b_pairs b_pull b_strength b_back b_moods b_tides b_carts n2 r_2 hc) (cwV 1 hts (wM_V mw_41_3 mw_41_4 mw_41_5 mw_2_18 mw_41_6) rfl rfl rfl dk_X1_weight ⟨Nat.le_of_ble_eq_true rfl, Nat.le_of_ble_eq_true rfl⟩) hK hP hD hS hA 1 0 rfl rfl rfl [0, 1, 2, 3, 4, 5, 6, 7, 8, 9, 10, 11, 12, 13, 14, 15, 16, 17, 18, 19, 20] [] [0, 1, 2, 3, 4, 5, 6, 7, 8, 9, 10, 11, 12, 13, 14, 15, 16, 17, 18, 19, 20] rfl rfl rfl (by decide) rfl hl.1 rfl (Nat.le_of_ble_eq_true rfl) dX1_takeSet_21 ⟨Nat.zero_le _, Nat.zero_le _⟩ (fun H locs hP hD hS => ?_)
  refine lv_isub hx hb dX1_takeSet_24 ?_
  refine lv_istore (lv' := [(5, .int (r_1 - r_2)), (0, .ref qg), (1, .int (2 : Int32)), (2, .int n2), (3, .int n3), (4, .int n4)]) hx hb dX1_takeSet_25 hl (by decide) rfl (fun ls hl => ?_)
  refine lv_aload_n hx hb dX1_takeSet_27 rfl (lv_at hl 1 rfl) ?_
  refine va_get (D := (dC, dI)) (ci := 1) (v := .ref qt) (C := RX1) (T := TX1) (N := 8) hx hb hw inlX1 hown hK hP 0 rfl rfl 4 (by decide) (hw _ mw_5_9) (fun _ h9 => h9) rfl dX1_takeSet_28 ?_
  refine lv_aload_n hx hb dX1_takeSet_31 rfl (lv_at hl 1 rfl) ?_
  refine va_get (D := (dC, dI)) (ci := 1) (v := .ref qg_strengths) (C := RX1) (T := TX1) (N := 8) hx hb hw inlX1 hown hK hP 0 rfl rfl 7 (by decide) (hw _ mw_5_6) (fun _ h9 => h9) rfl dX1_takeSet_32 ?_
  refine lv_iload_n hx hb dX1_takeSet_35 rfl (lv_at hl 2 rfl) ?_
  refine va_ald2 hx hb hK hP 3 2 rfl rfl (pg_lit (by decide)) dX1_takeSet_36 ?_
  refine W.eq (g2 := F0 m 37 ls [.ref qg_strengths2, .ref qt]) rfl ?_
  refine lv_iload hx hb dX1_takeSet_37 (lv_at hl 0 rfl) ?_
  refine lv_iconst (v := (-1 : Int32)) hx hb dX1_takeSet_39 (by decide) ?_
  obtain ⟨r_3, t_crew_3, t_minutes_3, t_oats_3, hc, hf⟩ := bn4_s hf
  refine pg_cVi (As := [.ref qg_strengths2, .int (r_1 - r_2), .int (-1 : Int32)]) (rest := []) (wf := (W_X1g_X7t_X2c_X0b cI cZ cII qg qg_sets qg_tried qg_strengths qg_strengths0 qg_strengths1 qg_strengths2 qg_strengths3 qg_strengths4 qt qt_rested qc qc_who qc_pull qb qb_pull qb_strength qb_back qb_moods qb_tides qb_carts g_known g_crossings g_sets g_tried g_strengths0 g_strengths1 g_strengths2 g_strengths3 g_strengths4 t_crew_3 t_minutes_3 t_oats_3 t_waitHours t_waitMinutes t_rested c_last c_who c_pull b_law b_places b_broad b_horses b_blinds b_besides b_tideCount b_cartCount b_due b_pairs b_pull b_strength b_back b_moods b_tides b_carts)) ⟨hx, hb, hml, hown, hw⟩ (c_X7_findSoonest l dC dI cI cZ cII qt qt_rested qc qc_who qc_pull qb qb_pull qb_strength qb_back qb_moods qb_tides qb_carts qg_strengths2 H.size t_crew t_minutes t_oats t_waitHours t_waitMinutes t_rested c_last c_who c_pull b_law b_places b_broad b_horses b_blinds b_besides b_tideCount b_cartCount b_due b_pairs b_pull b_strength b_back b_moods b_tides b_carts g_strengths2 (r_1 - r_2) (-1 : Int32) r_3 t_crew_3 t_minutes_3 t_oats_3 hc) (cwV 3 hts (wM_V mw_41_8 mw_34_15 mw_34_16 mw_2_10 mw_34_17) rfl rfl rfl dk_X7_findSoonest ⟨Nat.le_of_ble_eq_true rfl, Nat.le_of_ble_eq_true rfl⟩) hK hP hD hS hA 7 0 rfl rfl rfl [9, 10, 11, 12, 13, 14, 15, 16, 17, 18, 19, 20, 6] [0, 1, 2, 3, 4, 5, 7, 8] [0, 1, 2, 3, 4, 5, 20, 6, 7, 8, 9, 10, 11, 12, 13, 14, 15, 16, 17, 18, 19] rfl rfl rfl (by decide) rfl hl.1 rfl (Nat.le_of_ble_eq_true rfl) dX1_takeSet_40 ⟨Nat.zero_le _, Nat.zero_le _⟩ (fun H locs hP hD hS => ?_)
  refine lv_if_eq (tgt := 102) hx hb dX1_takeSet_43 (by decide) (fun h9 => ?_) (fun h9 => ?_)
  · have hf := pg_t h9 hf
    exact RET _ _ _ _ _ _ _ _ _ _ _ _ dX1_takeSet_102 hP hD hS hf
  · have hf := pg_f h9 hf
    refine lv_aload_n hx hb dX1_takeSet_46 rfl (lv_at hl 1 rfl) ?_
    refine va_get (D := (dC, dI)) (ci := 1) (v := .ref qc) (C := RX1) (T := TX1) (N := 8) hx hb hw inlX1 hown hK hP 0 rfl rfl 3 (by decide) (hw _ mw_5_8) (fun _ h9 => h9) rfl dX1_takeSet_47 ?_
    refine lv_aload_n hx hb dX1_takeSet_50 rfl (lv_at hl 1 rfl) ?_
    refine va_get (D := (dC, dI)) (ci := 1) (v := .ref qt) (C := RX1) (T := TX1) (N := 8) hx hb hw inlX1 hown hK hP 0 rfl rfl 4 (by decide) (hw _ mw_5_9) (fun _ h9 => h9) rfl dX1_takeSet_51 ?_
    refine va_get (D := (dC, dI)) (ci := 7) (v := .int t_crew_3) (C := RX7) (T := TX7) (N := 8) hx hb hw inlX7 hown hK hP 9 rfl rfl 0 (by decide) (hw _ mw_41_0) (fun _ h9 => h9) rfl dX1_takeSet_54 ?_
    refine lv_aload_n hx hb dX1_takeSet_57 rfl (lv_at hl 1 rfl) ?_
    refine va_get (D := (dC, dI)) (ci := 1) (v := .ref qt) (C := RX1) (T := TX1) (N := 8) hx hb hw inlX1 hown hK hP 0 rfl rfl 4 (by decide) (hw _ mw_5_9) (fun _ h9 => h9) rfl dX1_takeSet_58 ?_
    refine va_get (D := (dC, dI)) (ci := 7) (v := .int t_minutes_3) (C := RX7) (T := TX7) (N := 8) hx hb hw inlX7 hown hK hP 9 rfl rfl 1 (by decide) (hw _ mw_41_1) (fun _ h9 => h9) rfl dX1_takeSet_61 ?_
    refine lv_aload_n hx hb dX1_takeSet_64 rfl (lv_at hl 1 rfl) ?_
    refine va_get (D := (dC, dI)) (ci := 1) (v := .ref qg_strengths) (C := RX1) (T := TX1) (N := 8) hx hb hw inlX1 hown hK hP 0 rfl rfl 7 (by decide) (hw _ mw_5_6) (fun _ h9 => h9) rfl dX1_takeSet_65 ?_
    refine lv_iload_n hx hb dX1_takeSet_68 rfl (lv_at hl 2 rfl) ?_
    refine va_ald2 hx hb hK hP 3 2 rfl rfl (pg_lit (by decide)) dX1_takeSet_69 ?_
    refine W.eq (g2 := F0 m 70 ls [.ref qg_strengths2, .int t_minutes_3, .int t_crew_3, .ref qc]) rfl ?_
    refine lv_aload_n hx hb dX1_takeSet_70 rfl (lv_at hl 1 rfl) ?_
    refine va_get (D := (dC, dI)) (ci := 1) (v := .ref qg_strengths) (C := RX1) (T := TX1) (N := 8) hx hb hw inlX1 hown hK hP 0 rfl rfl 7 (by decide) (hw _ mw_5_6) (fun _ h9 => h9) rfl dX1_takeSet_71 ?_
    refine lv_iload_n hx hb dX1_takeSet_74 rfl (lv_at hl 2 rfl) ?_
    refine lv_iconst (v := (1 : Int32)) hx hb dX1_takeSet_75 (by decide) ?_
    refine lv_iadd hx hb dX1_takeSet_76 ?_
    refine lv_topi (fun y9 ey9 => ?_)
    obtain rfl : y9 = (3 : Int32) := ey9.trans (by decide)
    refine va_ald2 hx hb hK hP 3 2 rfl rfl (pg_lit (by decide)) dX1_takeSet_77 ?_
    refine W.eq (g2 := F0 m 78 ls [.ref qg_strengths3, .ref qg_strengths2, .int t_minutes_3, .int t_crew_3, .ref qc]) rfl ?_
    obtain ⟨g_strengths3_4, hc, hf⟩ := bn1_s hf
    refine pg_cVv (As := [.int t_crew_3, .int t_minutes_3, .ref qg_strengths2, .ref qg_strengths3]) (rest := []) (wf := (W_X1g_X7t_X2c_X0b cI cZ cII qg qg_sets qg_tried qg_strengths qg_strengths0 qg_strengths1 qg_strengths2 qg_strengths3 qg_strengths4 qt qt_rested qc qc_who qc_pull qb qb_pull qb_strength qb_back qb_moods qb_tides qb_carts g_known g_crossings g_sets g_tried g_strengths0 g_strengths1 g_strengths2 g_strengths3_4 g_strengths4 t_crew_3 t_minutes_3 t_oats_3 t_waitHours t_waitMinutes t_rested c_last c_who c_pull b_law b_places b_broad b_horses b_blinds b_besides b_tideCount b_cartCount b_due b_pairs b_pull b_strength b_back b_moods b_tides b_carts)) ⟨hx, hb, hml, hown, hw⟩ (c_X2_tire l dC dI cI cZ cII qc qc_who qc_pull qb qb_pull qb_strength qb_back qb_moods qb_tides qb_carts qg_strengths2 qg_strengths3 H.size c_last c_who c_pull b_law b_places b_broad b_horses b_blinds b_besides b_tideCount b_cartCount b_due b_pairs b_pull b_strength b_back b_moods b_tides b_carts g_strengths2 g_strengths3 t_crew_3 t_minutes_3 g_strengths3_4 hc) (cwV 4 hts (wM_V mw_41_9 mw_29_21 mw_29_22 mw_2_0 mw_29_23) rfl rfl rfl dk_X2_tire ⟨Nat.le_of_ble_eq_true rfl, Nat.le_of_ble_eq_true rfl⟩) hK hP hD hS hA 2 0 rfl rfl rfl [11, 12, 13, 14, 15, 16, 17, 18, 19, 20, 6, 7] [0, 1, 2, 3, 4, 5, 8, 9, 10] [0, 1, 2, 3, 4, 5, 19, 20, 6, 7, 8, 9, 10, 11, 12, 13, 14, 15, 16, 17, 18] rfl rfl rfl (by decide) rfl hl.1 rfl (Nat.le_of_ble_eq_true rfl) dX1_takeSet_78 ⟨Nat.zero_le _, Nat.zero_le _⟩ (fun H locs hP hD hS => ?_)
    refine lv_aload_n hx hb dX1_takeSet_81 rfl (lv_at hl 1 rfl) ?_
    refine va_get (D := (dC, dI)) (ci := 1) (v := .ref qg_tried) (C := RX1) (T := TX1) (N := 8) hx hb hw inlX1 hown hK hP 0 rfl rfl 6 (by decide) (hw _ mw_5_4) (fun _ h9 => h9) rfl dX1_takeSet_82 ?_
    refine lv_iload_n hx hb dX1_takeSet_85 rfl (lv_at hl 2 rfl) ?_
    refine lv_iload_n hx hb dX1_takeSet_86 rfl (lv_at hl 3 rfl) ?_
    refine va_iast hx hb hK hP hD hS 2 0 rfl rfl (pg_lit (by decide)) dX1_takeSet_87 (fun H locs hP hD hS => ?_)
    have hP : va_P (dC, dI) vwCl (W_X1g_X7t_X2c_X0b cI cZ cII qg qg_sets qg_tried qg_strengths qg_strengths0 qg_strengths1 qg_strengths2 qg_strengths3 qg_strengths4 qt qt_rested qc qc_who qc_pull qb qb_pull qb_strength qb_back qb_moods qb_tides qb_carts g_known g_crossings g_sets (upd g_tried ((2 : Int32)).toNatClampNeg n2) g_strengths0 g_strengths1 g_strengths2 g_strengths3_4 g_strengths4 t_crew_3 t_minutes_3 t_oats_3 t_waitHours t_waitMinutes t_rested c_last c_who c_pull b_law b_places b_broad b_horses b_blinds b_besides b_tideCount b_cartCount b_due b_pairs b_pull b_strength b_back b_moods b_tides b_carts) H := hP
    have hD : va_D A (W_X1g_X7t_X2c_X0b cI cZ cII qg qg_sets qg_tried qg_strengths qg_strengths0 qg_strengths1 qg_strengths2 qg_strengths3 qg_strengths4 qt qt_rested qc qc_who qc_pull qb qb_pull qb_strength qb_back qb_moods qb_tides qb_carts g_known g_crossings g_sets (upd g_tried ((2 : Int32)).toNatClampNeg n2) g_strengths0 g_strengths1 g_strengths2 g_strengths3_4 g_strengths4 t_crew_3 t_minutes_3 t_oats_3 t_waitHours t_waitMinutes t_rested c_last c_who c_pull b_law b_places b_broad b_horses b_blinds b_besides b_tideCount b_cartCount b_due b_pairs b_pull b_strength b_back b_moods b_tides b_carts) := hD
    refine lv_aload_n hx hb dX1_takeSet_88 rfl (lv_at hl 1 rfl) ?_
    refine lv_iload_n hx hb dX1_takeSet_89 rfl (lv_at hl 2 rfl) ?_
    refine lv_iconst (v := (1 : Int32)) hx hb dX1_takeSet_90 (by decide) ?_
    refine lv_iadd hx hb dX1_takeSet_91 ?_
    refine lv_topi (fun y9 ey9 => ?_)
    obtain rfl : y9 = (3 : Int32) := ey9.trans (by decide)
    refine lv_iload_n hx hb dX1_takeSet_92 rfl (lv_at hl 4 rfl) ?_
    refine lv_iload_n hx hb dX1_takeSet_93 rfl (lv_at hl 3 rfl) ?_
    refine lv_isub hx hb dX1_takeSet_94 ?_
    refine lv_iload hx hb dX1_takeSet_95 (lv_at hl 5 rfl) ?_
    refine lv_iconst (v := (1 : Int32)) hx hb dX1_takeSet_97 (by decide) ?_
    refine lv_iadd hx hb dX1_takeSet_98 ?_
    obtain ⟨g_crossings_5, g_sets_5, g_tried_5, g_strengths4_5, t_crew_5, t_minutes_5, t_oats_5, hc, hf⟩ := bn7_s hf
    refine pg_cVv (As := [.int (3 : Int32), .int (n3 - n2), .int (n4 + (1 : Int32))]) (rest := []) (wf := (W_X1g_X7t_X2c_X0b cI cZ cII qg qg_sets qg_tried qg_strengths qg_strengths0 qg_strengths1 qg_strengths2 qg_strengths3 qg_strengths4 qt qt_rested qc qc_who qc_pull qb qb_pull qb_strength qb_back qb_moods qb_tides qb_carts g_known g_crossings_5 g_sets_5 g_tried_5 g_strengths0 g_strengths1 g_strengths2 g_strengths3_4 g_strengths4_5 t_crew_5 t_minutes_5 t_oats_5 t_waitHours t_waitMinutes t_rested c_last c_who c_pull b_law b_places b_broad b_horses b_blinds b_besides b_tideCount b_cartCount b_due b_pairs b_pull b_strength b_back b_moods b_tides b_carts)) ⟨hx, hb, hml, hown, hw⟩ (c_X1_takeOverD3 l dC dI cI cZ cII qg qg_sets qg_tried qg_strengths qg_strengths0 qg_strengths1 qg_strengths2 qg_strengths3 qg_strengths4 qt qt_rested qc qc_who qc_pull qb qb_pull qb_strength qb_back qb_moods qb_tides qb_carts H.size g_known g_crossings g_sets (upd g_tried ((2 : Int32)).toNatClampNeg n2) g_strengths0 g_strengths1 g_strengths2 g_strengths3_4 g_strengths4 t_crew_3 t_minutes_3 t_oats_3 t_waitHours t_waitMinutes t_rested c_last c_who c_pull b_law b_places b_broad b_horses b_blinds b_besides b_tideCount b_cartCount b_due b_pairs b_pull b_strength b_back b_moods b_tides b_carts (n3 - n2) (n4 + (1 : Int32)) g_crossings_5 g_sets_5 g_tried_5 g_strengths4_5 t_crew_5 t_minutes_5 t_oats_5 hc) (cwV 3 hts (wM_V mw_40_16 mw_40_17 mw_40_18 mw_2_18 mw_40_19) rfl rfl rfl dk_X1_takeOver ⟨Nat.le_of_ble_eq_true rfl, Nat.le_of_ble_eq_true rfl⟩) hK hP hD hS hA 1 0 rfl rfl rfl [0, 1, 2, 3, 4, 5, 6, 7, 8, 9, 10, 11, 12, 13, 14, 15, 16, 17, 18, 19, 20] [] [0, 1, 2, 3, 4, 5, 6, 7, 8, 9, 10, 11, 12, 13, 14, 15, 16, 17, 18, 19, 20] rfl rfl rfl (by decide) rfl hl.1 rfl (Nat.le_of_ble_eq_true rfl) dX1_takeSet_99 ⟨Nat.zero_le _, Nat.zero_le _⟩ (fun H locs hP hD hS => ?_)
    exact RET _ _ _ _ _ _ _ _ _ _ _ _ dX1_takeSet_102 hP hD hS hf
def f_X1_takeOverD2 (n2 : Int32) (n3 : Int32) (g_crossings : Int32) (g_sets : Nat → Int32) (g_tried : Nat → Int32) (g_strengths2 : Nat → Int32) (g_strengths3 : Nat → Int32) (g_strengths4 : Nat → Int32) (t_crew : Int32) (t_minutes : Int32) (t_oats : Int32) (c_last : Int32) (c_who : Nat → Int32) (c_pull : Nat → Int32) (b_law : Int32) (b_broad : Int32) (b_horses : Int32) (b_tideCount : Int32) (b_cartCount : Int32) (b_strength : Nat → Int32) (b_back : Nat → Int32) (b_tides : Nat → Int32) (b_carts : Nat → Int32) : Option (Int32 × (Nat → Int32) × (Nat → Int32) × (Nat → Int32) × (Nat → Int32) × Int32 × Int32 × Int32) :=
  if n2 = 0 then
    some ((2 : Int32), (va_cpy g_tried g_sets 0 0 4), g_tried, g_strengths3, g_strengths4, t_crew, t_minutes, t_oats)
  else
    jn8 (fun (g_crossings_1 : Int32) (g_sets_1 : Nat → Int32) (g_tried_1 : Nat → Int32) (g_strengths3_1 : Nat → Int32) (g_strengths4_1 : Nat → Int32) (t_crew_1 : Int32) (t_minutes_1 : Int32) (t_oats_1 : Int32) =>
      some (g_crossings_1, g_sets_1, g_tried_1, g_strengths3_1, g_strengths4_1, t_crew_1, t_minutes_1, t_oats_1)
    ) (fun K87_1 =>
    lq9 (fun rec2 (y4_2 : Int32) (g_crossings_2 : Int32) (g_sets_2 : Nat → Int32) (g_tried_2 : Nat → Int32) (g_strengths3_2 : Nat → Int32) (g_strengths4_2 : Nat → Int32) (t_crew_2 : Int32) (t_minutes_2 : Int32) (t_oats_2 : Int32) =>
      if n2 < y4_2 then
        K87_1 g_crossings_2 g_sets_2 g_tried_2 g_strengths3_2 g_strengths4_2 t_crew_2 t_minutes_2 t_oats_2
      else
        jn1 (fun (z0_3 : Int32) =>
          jn8 (fun (g_crossings_4 : Int32) (g_sets_4 : Nat → Int32) (g_tried_4 : Nat → Int32) (g_strengths3_4 : Nat → Int32) (g_strengths4_4 : Nat → Int32) (t_crew_4 : Int32) (t_minutes_4 : Int32) (t_oats_4 : Int32) =>
            rec2 (y4_2 + (1 : Int32)) g_crossings_4 g_sets_4 g_tried_4 g_strengths3_4 g_strengths4_4 t_crew_4 t_minutes_4 t_oats_4
          ) (fun J81_4 =>
          if z0_3 = 0 then
            J81_4 g_crossings_2 g_sets_2 g_tried_2 g_strengths3_2 g_strengths4_2 t_crew_2 t_minutes_2 t_oats_2
          else
            if (y4_2 &&& n2) = y4_2 then
              bn8 (f_X1_takeSetD2 y4_2 n2 n3 g_crossings_2 g_sets_2 g_tried_2 g_strengths2 g_strengths3_2 g_strengths4_2 t_crew_2 t_minutes_2 t_oats_2 c_last c_who c_pull b_law b_broad b_horses b_tideCount b_cartCount b_strength b_back b_tides b_carts) (fun (g_crossings_5 : Int32) (g_sets_5 : Nat → Int32) (g_tried_5 : Nat → Int32) (g_strengths3_5 : Nat → Int32) (g_strengths4_5 : Nat → Int32) (t_crew_5 : Int32) (t_minutes_5 : Int32) (t_oats_5 : Int32) =>
                J81_4 g_crossings_5 g_sets_5 g_tried_5 g_strengths3_5 g_strengths4_5 t_crew_5 t_minutes_5 t_oats_5
              )
            else
              J81_4 g_crossings_2 g_sets_2 g_tried_2 g_strengths3_2 g_strengths4_2 t_crew_2 t_minutes_2 t_oats_2
          )
        ) (fun J56_3 =>
        jn1 (fun (u_6 : Unit) =>
          J56_3 (1 : Int32)
        ) (fun J51_6 =>
        if g_crossings_2 = (-1 : Int32) then
          J51_6 ()
        else
          if g_crossings_2 ≤ (3 : Int32) then
            J56_3 (0 : Int32)
          else
            J51_6 ()
        )
        )
    ) fu (1 : Int32) g_crossings g_sets g_tried g_strengths3 g_strengths4 t_crew t_minutes t_oats
    )
abbrev rm_X1_takeOverD2 : Room := { frames := 7, cells := 0, slots := 0, locals := 202 }
set_option maxHeartbeats 4000000 in
set_option maxRecDepth 100000 in
theorem c_X1_takeOverD2 (l : Launch) (dC : Nat → ClassId) (dI : Nat → Nat → Nat) (cI cZ cII : ClassId) (qg qg_sets qg_tried qg_strengths qg_strengths0 qg_strengths1 qg_strengths2 qg_strengths3 qg_strengths4 qt qt_rested qc qc_who qc_pull qb qb_pull qb_strength qb_back qb_moods qb_tides qb_carts : Nat) (sz : Nat) (g_known : Int32) (g_crossings : Int32) (g_sets : Nat → Int32) (g_tried : Nat → Int32) (g_strengths0 : Nat → Int32) (g_strengths1 : Nat → Int32) (g_strengths2 : Nat → Int32) (g_strengths3 : Nat → Int32) (g_strengths4 : Nat → Int32) (t_crew : Int32) (t_minutes : Int32) (t_oats : Int32) (t_waitHours : Int32) (t_waitMinutes : Int32) (t_rested : Nat → Int32) (c_last : Int32) (c_who : Nat → Int32) (c_pull : Nat → Int32) (b_law : Int32) (b_places : Int32) (b_broad : Int32) (b_horses : Int32) (b_blinds : Int32) (b_besides : Int32) (b_tideCount : Int32) (b_cartCount : Int32) (b_due : Int32) (b_pairs : Int64) (b_pull : Nat → Int32) (b_strength : Nat → Int32) (b_back : Nat → Int32) (b_moods : Nat → Int32) (b_tides : Nat → Int32) (b_carts : Nat → Int32) (n2 : Int32) (n3 : Int32) (g_crossings' : Int32) (g_sets' : Nat → Int32) (g_tried' : Nat → Int32) (g_strengths3' : Nat → Int32) (g_strengths4' : Nat → Int32) (t_crew' : Int32) (t_minutes' : Int32) (t_oats' : Int32) (hf : f_X1_takeOverD2 n2 n3 g_crossings g_sets g_tried g_strengths2 g_strengths3 g_strengths4 t_crew t_minutes t_oats c_last c_who c_pull b_law b_broad b_horses b_tideCount b_cartCount b_strength b_back b_tides b_carts = some (g_crossings', g_sets', g_tried', g_strengths3', g_strengths4', t_crew', t_minutes', t_oats')) : Met l yX1_takeOver (wM yX1_takeOver cX1_takeOver 6 none) rm_X1_takeOverD2 (PreW (dC, dI) (tyA cI cZ cII) (W_X1g_X7t_X2c_X0b cI cZ cII qg qg_sets qg_tried qg_strengths qg_strengths0 qg_strengths1 qg_strengths2 qg_strengths3 qg_strengths4 qt qt_rested qc qc_who qc_pull qb qb_pull qb_strength qb_back qb_moods qb_tides qb_carts g_known g_crossings g_sets g_tried g_strengths0 g_strengths1 g_strengths2 g_strengths3 g_strengths4 t_crew t_minutes t_oats t_waitHours t_waitMinutes t_rested c_last c_who c_pull b_law b_places b_broad b_horses b_blinds b_besides b_tideCount b_cartCount b_due b_pairs b_pull b_strength b_back b_moods b_tides b_carts) sz [.ref qg, .int (2 : Int32), .int n2, .int n3]) (PostV (dC, dI) (tyA cI cZ cII) (W_X1g_X7t_X2c_X0b cI cZ cII qg qg_sets qg_tried qg_strengths qg_strengths0 qg_strengths1 qg_strengths2 qg_strengths3 qg_strengths4 qt qt_rested qc qc_who qc_pull qb qb_pull qb_strength qb_back qb_moods qb_tides qb_carts g_known g_crossings g_sets g_tried g_strengths0 g_strengths1 g_strengths2 g_strengths3 g_strengths4 t_crew t_minutes t_oats t_waitHours t_waitMinutes t_rested c_last c_who c_pull b_law b_places b_broad b_horses b_blinds b_besides b_tideCount b_cartCount b_due b_pairs b_pull b_strength b_back b_moods b_tides b_carts) (W_X1g_X7t_X2c_X0b cI cZ cII qg qg_sets qg_tried qg_strengths qg_strengths0 qg_strengths1 qg_strengths2 qg_strengths3 qg_strengths4 qt qt_rested qc qc_who qc_pull qb qb_pull qb_strength qb_back qb_moods qb_tides qb_carts g_known g_crossings' g_sets' g_tried' g_strengths0 g_strengths1 g_strengths2 g_strengths3' g_strengths4' t_crew' t_minutes' t_oats' t_waitHours t_waitMinutes t_rested c_last c_who c_pull b_law b_places b_broad b_horses b_blinds b_besides b_tideCount b_cartCount b_due b_pairs b_pull b_strength b_back b_moods b_tides b_carts) sz) 0 0 (va_A (W_X1g_X7t_X2c_X0b cI cZ cII qg qg_sets qg_tried qg_strengths qg_strengths0 qg_strengths1 qg_strengths2 qg_strengths3 qg_strengths4 qt qt_rested qc qc_who qc_pull qb qb_pull qb_strength qb_back qb_moods qb_tides qb_carts g_known g_crossings g_sets g_tried g_strengths0 g_strengths1 g_strengths2 g_strengths3 g_strengths4 t_crew t_minutes t_oats t_waitHours t_waitMinutes t_rested c_last c_who c_pull b_law b_places b_broad b_horses b_blinds b_besides b_tideCount b_cartCount b_due b_pairs b_pull b_strength b_back b_moods b_tides b_carts) sz) := by
  refine Met.ofW (cc := cX1_takeOver) (maxL := 6) (ret := none) (by decide) rfl ?_
  intro p e s m args below meth c s₁ B hml hv
  obtain ⟨rfl, hsz, hP, hK, hD0⟩ := hv
  have hx := B.exec
  have hb := B.bytes
  have hr := B.returns
  have hts := atoms_spec (ws := wM yX1_takeOver cX1_takeOver 6 none) B.pre
  have hown : s.vm.findClass RX1 = some m.cls := findClass_of_methodNamed B.named
  have hlocks := B.notSynchronized
  subst hsz
  have hD := hD0.self (sz := s.heap.size)
  obtain ⟨A, hAe⟩ : ∃ A, A = va_A (W_X1g_X7t_X2c_X0b cI cZ cII qg qg_sets qg_tried qg_strengths qg_strengths0 qg_strengths1 qg_strengths2 qg_strengths3 qg_strengths4 qt qt_rested qc qc_who qc_pull qb qb_pull qb_strength qb_back qb_moods qb_tides qb_carts g_known g_crossings g_sets g_tried g_strengths0 g_strengths1 g_strengths2 g_strengths3 g_strengths4 t_crew t_minutes t_oats t_waitHours t_waitMinutes t_rested c_last c_who c_pull b_law b_places b_broad b_horses b_blinds b_besides b_tideCount b_cartCount b_due b_pairs b_pull b_strength b_back b_moods b_tides b_carts) s.heap.size := ⟨_, rfl⟩
  rw [← hAe] at hD
  have hA : ∀ q : Nat, s.heap.size ≤ q → A q := fun q h => by rw [hAe]; exact Or.inr h
  have hS : va_S A s.heap s.heap [] := va_S.rf
  have hl := lv_entry ([.ref qg, .int (2 : Int32), .int n2, .int n3]) (n := 6) (Nat.le_of_ble_eq_true rfl)
  rw [lg_entry_eq]
  generalize (lg_sl ([.ref qg, .int (2 : Int32), .int n2, .int n3]) ++ List.replicate (6 - (lg_sl ([.ref qg, .int (2 : Int32), .int n2, .int n3])).length) Slot.unset).toArray = ls at hl ⊢
  have hl : lv_has ls 6 [(0, .ref qg), (1, .int (2 : Int32)), (2, .int n2), (3, .int n3)] := hl
  generalize ([.ref qg, .int (2 : Int32), .int n2, .int n3] : List Value).toArray = args at hts ⊢
  have hw : ∀ w ∈ wsL_law, w.before args s = true := fun w h => hts w (List.mem_cons_of_mem _ h)
  refine pg_start (fun Q hQ => ?_)
  have RET : ∀ (H : Heap) (locs : List Loc) (ls : Array Slot) (pc : Nat) (x0 : Int32) (x1 : Nat → Int32) (x2 : Nat → Int32) (x3 : Nat → Int32) (x4 : Nat → Int32) (x5 : Int32) (x6 : Int32) (x7 : Int32) , decode cX1_takeOver pc = .ok (.return_, 1) → va_P (dC, dI) vwCl (W_X1g_X7t_X2c_X0b cI cZ cII qg qg_sets qg_tried qg_strengths qg_strengths0 qg_strengths1 qg_strengths2 qg_strengths3 qg_strengths4 qt qt_rested qc qc_who qc_pull qb qb_pull qb_strength qb_back qb_moods qb_tides qb_carts g_known x0 x1 x2 g_strengths0 g_strengths1 g_strengths2 x3 x4 x5 x6 x7 t_waitHours t_waitMinutes t_rested c_last c_who c_pull b_law b_places b_broad b_horses b_blinds b_besides b_tideCount b_cartCount b_due b_pairs b_pull b_strength b_back b_moods b_tides b_carts) H → va_D A (W_X1g_X7t_X2c_X0b cI cZ cII qg qg_sets qg_tried qg_strengths qg_strengths0 qg_strengths1 qg_strengths2 qg_strengths3 qg_strengths4 qt qt_rested qc qc_who qc_pull qb qb_pull qb_strength qb_back qb_moods qb_tides qb_carts g_known x0 x1 x2 g_strengths0 g_strengths1 g_strengths2 x3 x4 x5 x6 x7 t_waitHours t_waitMinutes t_rested c_last c_who c_pull b_law b_places b_broad b_horses b_blinds b_besides b_tideCount b_cartCount b_due b_pairs b_pull b_strength b_back b_moods b_tides b_carts) → va_S A s.heap H locs → (some (x0, x1, x2, x3, x4, x5, x6, x7) : Option (Int32 × (Nat → Int32) × (Nat → Int32) × (Nat → Int32) × (Nat → Int32) × Int32 × Int32 × Int32)) = some (g_crossings', g_sets', g_tried', g_strengths3', g_strengths4', t_crew', t_minutes', t_oats') → W p l e rm_X1_takeOverD2 s m args below meth c H locs 0 0 Q (F0 m pc ls []) := by
    intro H locs ls pc x0 x1 x2 x3 x4 x5 x6 x7 hd hP hD hS he
    subst hAe; subst hQ
    simp only [Option.some.injEq, Prod.mk.injEq] at he
    obtain ⟨rfl, rfl, rfl, rfl, rfl, rfl, rfl, rfl⟩ := he
    exact pg_vret hx hb hr hlocks hK hP hD hS hd
  unfold f_X1_takeOverD2 at hf
  refine lv_iload_n hx hb dX1_takeOver_0 rfl (lv_at hl 2 rfl) ?_
  refine lv_if_ne (tgt := 24) hx hb dX1_takeOver_1 (by decide) (fun h9 => ?_) (fun h9 => ?_)
  · have hf := pg_f h9 hf
    refine lv_iconst (v := (1 : Int32)) hx hb dX1_takeOver_24 (by decide) ?_
    refine lv_istore (lv' := [(4, .int (1 : Int32)), (0, .ref qg), (1, .int (2 : Int32)), (2, .int n2), (3, .int n3)]) hx hb dX1_takeOver_25 hl (by decide) rfl (fun ls hl => ?_)
    obtain ⟨K87_1, hK87_1, hf⟩ := jn8_s hf
    have WK87_1 : ∀ (g_crossings_1 : Int32) (g_sets_1 : Nat → Int32) (g_tried_1 : Nat → Int32) (g_strengths3_1 : Nat → Int32) (g_strengths4_1 : Nat → Int32) (t_crew_1 : Int32) (t_minutes_1 : Int32) (t_oats_1 : Int32) (H : Heap) (locs : List Loc) (ls : Array Slot), va_P (dC, dI) vwCl (W_X1g_X7t_X2c_X0b cI cZ cII qg qg_sets qg_tried qg_strengths qg_strengths0 qg_strengths1 qg_strengths2 qg_strengths3 qg_strengths4 qt qt_rested qc qc_who qc_pull qb qb_pull qb_strength qb_back qb_moods qb_tides qb_carts g_known g_crossings_1 g_sets_1 g_tried_1 g_strengths0 g_strengths1 g_strengths2 g_strengths3_1 g_strengths4_1 t_crew_1 t_minutes_1 t_oats_1 t_waitHours t_waitMinutes t_rested c_last c_who c_pull b_law b_places b_broad b_horses b_blinds b_besides b_tideCount b_cartCount b_due b_pairs b_pull b_strength b_back b_moods b_tides b_carts) H → va_D A (W_X1g_X7t_X2c_X0b cI cZ cII qg qg_sets qg_tried qg_strengths qg_strengths0 qg_strengths1 qg_strengths2 qg_strengths3 qg_strengths4 qt qt_rested qc qc_who qc_pull qb qb_pull qb_strength qb_back qb_moods qb_tides qb_carts g_known g_crossings_1 g_sets_1 g_tried_1 g_strengths0 g_strengths1 g_strengths2 g_strengths3_1 g_strengths4_1 t_crew_1 t_minutes_1 t_oats_1 t_waitHours t_waitMinutes t_rested c_last c_who c_pull b_law b_places b_broad b_horses b_blinds b_besides b_tideCount b_cartCount b_due b_pairs b_pull b_strength b_back b_moods b_tides b_carts) → va_S A s.heap H locs → lv_has ls 6 [] → K87_1 g_crossings_1 g_sets_1 g_tried_1 g_strengths3_1 g_strengths4_1 t_crew_1 t_minutes_1 t_oats_1 = some (g_crossings', g_sets', g_tried', g_strengths3', g_strengths4', t_crew', t_minutes', t_oats') → W p l e rm_X1_takeOverD2 s m args below meth c H locs 0 0 Q (F0 m 87 ls []) := by
      intro g_crossings_1 g_sets_1 g_tried_1 g_strengths3_1 g_strengths4_1 t_crew_1 t_minutes_1 t_oats_1 H locs ls hP hD hS hl hf
      have hf := hK87_1 _ _ _ _ _ _ _ _ hf
      exact RET _ _ _ _ _ _ _ _ _ _ _ _ dX1_takeOver_87 hP hD hS hf
    obtain ⟨B2, hB2, hf⟩ := lq9_n hf
    have WL2 : ∀ (n9 : Nat) (y4_2 : Int32) (g_crossings_2 : Int32) (g_sets_2 : Nat → Int32) (g_tried_2 : Nat → Int32) (g_strengths3_2 : Nat → Int32) (g_strengths4_2 : Nat → Int32) (t_crew_2 : Int32) (t_minutes_2 : Int32) (t_oats_2 : Int32) (H : Heap) (locs : List Loc) (ls : Array Slot), va_P (dC, dI) vwCl (W_X1g_X7t_X2c_X0b cI cZ cII qg qg_sets qg_tried qg_strengths qg_strengths0 qg_strengths1 qg_strengths2 qg_strengths3 qg_strengths4 qt qt_rested qc qc_who qc_pull qb qb_pull qb_strength qb_back qb_moods qb_tides qb_carts g_known g_crossings_2 g_sets_2 g_tried_2 g_strengths0 g_strengths1 g_strengths2 g_strengths3_2 g_strengths4_2 t_crew_2 t_minutes_2 t_oats_2 t_waitHours t_waitMinutes t_rested c_last c_who c_pull b_law b_places b_broad b_horses b_blinds b_besides b_tideCount b_cartCount b_due b_pairs b_pull b_strength b_back b_moods b_tides b_carts) H → va_D A (W_X1g_X7t_X2c_X0b cI cZ cII qg qg_sets qg_tried qg_strengths qg_strengths0 qg_strengths1 qg_strengths2 qg_strengths3 qg_strengths4 qt qt_rested qc qc_who qc_pull qb qb_pull qb_strength qb_back qb_moods qb_tides qb_carts g_known g_crossings_2 g_sets_2 g_tried_2 g_strengths0 g_strengths1 g_strengths2 g_strengths3_2 g_strengths4_2 t_crew_2 t_minutes_2 t_oats_2 t_waitHours t_waitMinutes t_rested c_last c_who c_pull b_law b_places b_broad b_horses b_blinds b_besides b_tideCount b_cartCount b_due b_pairs b_pull b_strength b_back b_moods b_tides b_carts) → va_S A s.heap H locs → lv_has ls 6 [(0, .ref qg), (1, .int (2 : Int32)), (2, .int n2), (3, .int n3), (4, .int y4_2)] → lq9 B2 n9 y4_2 g_crossings_2 g_sets_2 g_tried_2 g_strengths3_2 g_strengths4_2 t_crew_2 t_minutes_2 t_oats_2 = some (g_crossings', g_sets', g_tried', g_strengths3', g_strengths4', t_crew', t_minutes', t_oats') → W p l e rm_X1_takeOverD2 s m args below meth c H locs 0 0 Q (F0 m 27 ls []) := by
      intro n9
      induction n9 with
      | zero => intro y4_2 g_crossings_2 g_sets_2 g_tried_2 g_strengths3_2 g_strengths4_2 t_crew_2 t_minutes_2 t_oats_2 H locs ls hP hD hS hl hf; cases hf
      | succ n9 ih =>
        intro y4_2 g_crossings_2 g_sets_2 g_tried_2 g_strengths3_2 g_strengths4_2 t_crew_2 t_minutes_2 t_oats_2 H locs ls hP hD hS hl hf
        obtain ⟨rec2, hrec2, hf⟩ := lq9_s hf
        have hf := hB2 rec2 _ _ _ _ _ _ _ _ _ hf
        refine lv_iload hx hb dX1_takeOver_27 (lv_at hl 4 rfl) ?_
        refine lv_iload_n hx hb dX1_takeOver_29 rfl (lv_at hl 2 rfl) ?_
        refine lv_icmp_gt (tgt := 87) hx hb dX1_takeOver_30 (by decide) (fun h9 => ?_) (fun h9 => ?_)
        · have hf := pg_t h9 hf
          exact WK87_1 _ _ _ _ _ _ _ _ _ _ _ hP hD hS (lv_sub hl [] rfl) hf
        · have hf := pg_f h9 hf
          refine lv_aload_n hx hb dX1_takeOver_33 rfl (lv_at hl 0 rfl) ?_
          refine va_get (D := (dC, dI)) (ci := 1) (v := .int g_crossings_2) (C := RX1) (T := TX1) (N := 8) hx hb hw inlX1 hown hK hP 0 rfl rfl 1 (by decide) (hw _ mw_40_13) (fun _ h9 => h9) rfl dX1_takeOver_34 ?_
          refine lv_iconst (v := (-1 : Int32)) hx hb dX1_takeOver_37 (by decide) ?_
          obtain ⟨J56_3, hJ56_3, hf⟩ := jn1_s hf
          have WJ56_3 : ∀ (z0_3 : Int32) (H : Heap) (locs : List Loc) (ls : Array Slot), va_P (dC, dI) vwCl (W_X1g_X7t_X2c_X0b cI cZ cII qg qg_sets qg_tried qg_strengths qg_strengths0 qg_strengths1 qg_strengths2 qg_strengths3 qg_strengths4 qt qt_rested qc qc_who qc_pull qb qb_pull qb_strength qb_back qb_moods qb_tides qb_carts g_known g_crossings_2 g_sets_2 g_tried_2 g_strengths0 g_strengths1 g_strengths2 g_strengths3_2 g_strengths4_2 t_crew_2 t_minutes_2 t_oats_2 t_waitHours t_waitMinutes t_rested c_last c_who c_pull b_law b_places b_broad b_horses b_blinds b_besides b_tideCount b_cartCount b_due b_pairs b_pull b_strength b_back b_moods b_tides b_carts) H → va_D A (W_X1g_X7t_X2c_X0b cI cZ cII qg qg_sets qg_tried qg_strengths qg_strengths0 qg_strengths1 qg_strengths2 qg_strengths3 qg_strengths4 qt qt_rested qc qc_who qc_pull qb qb_pull qb_strength qb_back qb_moods qb_tides qb_carts g_known g_crossings_2 g_sets_2 g_tried_2 g_strengths0 g_strengths1 g_strengths2 g_strengths3_2 g_strengths4_2 t_crew_2 t_minutes_2 t_oats_2 t_waitHours t_waitMinutes t_rested c_last c_who c_pull b_law b_places b_broad b_horses b_blinds b_besides b_tideCount b_cartCount b_due b_pairs b_pull b_strength b_back b_moods b_tides b_carts) → va_S A s.heap H locs → lv_has ls 6 [(0, .ref qg), (1, .int (2 : Int32)), (2, .int n2), (3, .int n3), (4, .int y4_2)] → J56_3 z0_3 = some (g_crossings', g_sets', g_tried', g_strengths3', g_strengths4', t_crew', t_minutes', t_oats') → W p l e rm_X1_takeOverD2 s m args below meth c H locs 0 0 Q (F0 m 56 ls [.int z0_3]) := by
            intro z0_3 H locs ls hP hD hS hl hf
            have hf := hJ56_3 _ hf
            refine lv_istore (lv' := [(5, .int z0_3), (0, .ref qg), (1, .int (2 : Int32)), (2, .int n2), (3, .int n3), (4, .int y4_2)]) hx hb dX1_takeOver_56 hl (by decide) rfl (fun ls hl => ?_)
            refine lv_iload hx hb dX1_takeOver_58 (lv_at hl 0 rfl) ?_
            obtain ⟨J81_4, hJ81_4, hf⟩ := jn8_s hf
            have WJ81_4 : ∀ (g_crossings_4 : Int32) (g_sets_4 : Nat → Int32) (g_tried_4 : Nat → Int32) (g_strengths3_4 : Nat → Int32) (g_strengths4_4 : Nat → Int32) (t_crew_4 : Int32) (t_minutes_4 : Int32) (t_oats_4 : Int32) (H : Heap) (locs : List Loc) (ls : Array Slot), va_P (dC, dI) vwCl (W_X1g_X7t_X2c_X0b cI cZ cII qg qg_sets qg_tried qg_strengths qg_strengths0 qg_strengths1 qg_strengths2 qg_strengths3 qg_strengths4 qt qt_rested qc qc_who qc_pull qb qb_pull qb_strength qb_back qb_moods qb_tides qb_carts g_known g_crossings_4 g_sets_4 g_tried_4 g_strengths0 g_strengths1 g_strengths2 g_strengths3_4 g_strengths4_4 t_crew_4 t_minutes_4 t_oats_4 t_waitHours t_waitMinutes t_rested c_last c_who c_pull b_law b_places b_broad b_horses b_blinds b_besides b_tideCount b_cartCount b_due b_pairs b_pull b_strength b_back b_moods b_tides b_carts) H → va_D A (W_X1g_X7t_X2c_X0b cI cZ cII qg qg_sets qg_tried qg_strengths qg_strengths0 qg_strengths1 qg_strengths2 qg_strengths3 qg_strengths4 qt qt_rested qc qc_who qc_pull qb qb_pull qb_strength qb_back qb_moods qb_tides qb_carts g_known g_crossings_4 g_sets_4 g_tried_4 g_strengths0 g_strengths1 g_strengths2 g_strengths3_4 g_strengths4_4 t_crew_4 t_minutes_4 t_oats_4 t_waitHours t_waitMinutes t_rested c_last c_who c_pull b_law b_places b_broad b_horses b_blinds b_besides b_tideCount b_cartCount b_due b_pairs b_pull b_strength b_back b_moods b_tides b_carts) → va_S A s.heap H locs → lv_has ls 6 [(0, .ref qg), (1, .int (2 : Int32)), (2, .int n2), (3, .int n3), (4, .int y4_2)] → J81_4 g_crossings_4 g_sets_4 g_tried_4 g_strengths3_4 g_strengths4_4 t_crew_4 t_minutes_4 t_oats_4 = some (g_crossings', g_sets', g_tried', g_strengths3', g_strengths4', t_crew', t_minutes', t_oats') → W p l e rm_X1_takeOverD2 s m args below meth c H locs 0 0 Q (F0 m 81 ls []) := by
              intro g_crossings_4 g_sets_4 g_tried_4 g_strengths3_4 g_strengths4_4 t_crew_4 t_minutes_4 t_oats_4 H locs ls hP hD hS hl hf
              have hf := hJ81_4 _ _ _ _ _ _ _ _ hf
              refine lv_iinc (v := (y4_2 + (1 : Int32))) (lv' := [(4, .int (y4_2 + (1 : Int32))), (0, .ref qg), (1, .int (2 : Int32)), (2, .int n2), (3, .int n3)]) hx hb dX1_takeOver_81 hl (k := 4) rfl rfl (by decide) rfl (fun ls hl => ?_)
              refine lv_goto (tgt := 27) hx hb dX1_takeOver_84 (by decide) ?_
              exact ih _ _ _ _ _ _ _ _ _ _ _ _ hP hD hS (lv_sub hl [1, 2, 3, 4, 0] rfl) (hrec2 _ _ _ _ _ _ _ _ _ hf)
            refine lv_if_eq (tgt := 81) hx hb dX1_takeOver_60 (by decide) (fun h9 => ?_) (fun h9 => ?_)
            · have hf := pg_t h9 hf
              exact WJ81_4 _ _ _ _ _ _ _ _ _ _ _ hP hD hS (lv_sub hl [1, 2, 3, 4, 5] rfl) hf
            · have hf := pg_f h9 hf
              refine lv_iload hx hb dX1_takeOver_63 (lv_at hl 5 rfl) ?_
              refine lv_iload_n hx hb dX1_takeOver_65 rfl (lv_at hl 3 rfl) ?_
              refine lv_iand hx hb dX1_takeOver_66 ?_
              refine lv_iload hx hb dX1_takeOver_67 (lv_at hl 5 rfl) ?_
              refine lv_icmp_ne (tgt := 81) hx hb dX1_takeOver_69 (by decide) (fun h9 => ?_) (fun h9 => ?_)
              · have hf := pg_f h9 hf
                exact WJ81_4 _ _ _ _ _ _ _ _ _ _ _ hP hD hS (lv_sub hl [1, 2, 3, 4, 5] rfl) hf
              · have hf := pg_t h9 hf
                refine lv_aload_n hx hb dX1_takeOver_72 rfl (lv_at hl 1 rfl) ?_
                refine lv_iload_n hx hb dX1_takeOver_73 rfl (lv_at hl 2 rfl) ?_
                refine lv_iload hx hb dX1_takeOver_74 (lv_at hl 5 rfl) ?_
                refine lv_iload_n hx hb dX1_takeOver_76 rfl (lv_at hl 3 rfl) ?_
                refine lv_iload_n hx hb dX1_takeOver_77 rfl (lv_at hl 4 rfl) ?_
                obtain ⟨g_crossings_5, g_sets_5, g_tried_5, g_strengths3_5, g_strengths4_5, t_crew_5, t_minutes_5, t_oats_5, hc, hf⟩ := bn8_s hf
                refine pg_cVv (As := [.int (2 : Int32), .int y4_2, .int n2, .int n3]) (rest := []) (wf := (W_X1g_X7t_X2c_X0b cI cZ cII qg qg_sets qg_tried qg_strengths qg_strengths0 qg_strengths1 qg_strengths2 qg_strengths3 qg_strengths4 qt qt_rested qc qc_who qc_pull qb qb_pull qb_strength qb_back qb_moods qb_tides qb_carts g_known g_crossings_5 g_sets_5 g_tried_5 g_strengths0 g_strengths1 g_strengths2 g_strengths3_5 g_strengths4_5 t_crew_5 t_minutes_5 t_oats_5 t_waitHours t_waitMinutes t_rested c_last c_who c_pull b_law b_places b_broad b_horses b_blinds b_besides b_tideCount b_cartCount b_due b_pairs b_pull b_strength b_back b_moods b_tides b_carts)) ⟨hx, hb, hml, hown, hw⟩ (c_X1_takeSetD2 l dC dI cI cZ cII qg qg_sets qg_tried qg_strengths qg_strengths0 qg_strengths1 qg_strengths2 qg_strengths3 qg_strengths4 qt qt_rested qc qc_who qc_pull qb qb_pull qb_strength qb_back qb_moods qb_tides qb_carts H.size g_known g_crossings_2 g_sets_2 g_tried_2 g_strengths0 g_strengths1 g_strengths2 g_strengths3_2 g_strengths4_2 t_crew_2 t_minutes_2 t_oats_2 t_waitHours t_waitMinutes t_rested c_last c_who c_pull b_law b_places b_broad b_horses b_blinds b_besides b_tideCount b_cartCount b_due b_pairs b_pull b_strength b_back b_moods b_tides b_carts y4_2 n2 n3 g_crossings_5 g_sets_5 g_tried_5 g_strengths3_5 g_strengths4_5 t_crew_5 t_minutes_5 t_oats_5 hc) (cwV 4 hts (wM_V mw_40_20 mw_40_21 mw_40_22 mw_2_18 mw_40_23) rfl rfl rfl dk_X1_takeSet ⟨Nat.le_of_ble_eq_true rfl, Nat.le_of_ble_eq_true rfl⟩) hK hP hD hS hA 1 0 rfl rfl rfl [0, 1, 2, 3, 4, 5, 6, 7, 8, 9, 10, 11, 12, 13, 14, 15, 16, 17, 18, 19, 20] [] [0, 1, 2, 3, 4, 5, 6, 7, 8, 9, 10, 11, 12, 13, 14, 15, 16, 17, 18, 19, 20] rfl rfl rfl (by decide) rfl hl.1 rfl (Nat.le_of_ble_eq_true rfl) dX1_takeOver_78 ⟨Nat.zero_le _, Nat.zero_le _⟩ (fun H locs hP hD hS => ?_)
                exact WJ81_4 _ _ _ _ _ _ _ _ _ _ _ hP hD hS (lv_sub hl [1, 2, 3, 4, 5] rfl) hf
          obtain ⟨J51_6, hJ51_6, hf⟩ := jn1_s hf
          have WJ51_6 : ∀ (u_6 : Unit) (H : Heap) (locs : List Loc) (ls : Array Slot), va_P (dC, dI) vwCl (W_X1g_X7t_X2c_X0b cI cZ cII qg qg_sets qg_tried qg_strengths qg_strengths0 qg_strengths1 qg_strengths2 qg_strengths3 qg_strengths4 qt qt_rested qc qc_who qc_pull qb qb_pull qb_strength qb_back qb_moods qb_tides qb_carts g_known g_crossings_2 g_sets_2 g_tried_2 g_strengths0 g_strengths1 g_strengths2 g_strengths3_2 g_strengths4_2 t_crew_2 t_minutes_2 t_oats_2 t_waitHours t_waitMinutes t_rested c_last c_who c_pull b_law b_places b_broad b_horses b_blinds b_besides b_tideCount b_cartCount b_due b_pairs b_pull b_strength b_back b_moods b_tides b_carts) H → va_D A (W_X1g_X7t_X2c_X0b cI cZ cII qg qg_sets qg_tried qg_strengths qg_strengths0 qg_strengths1 qg_strengths2 qg_strengths3 qg_strengths4 qt qt_rested qc qc_who qc_pull qb qb_pull qb_strength qb_back qb_moods qb_tides qb_carts g_known g_crossings_2 g_sets_2 g_tried_2 g_strengths0 g_strengths1 g_strengths2 g_strengths3_2 g_strengths4_2 t_crew_2 t_minutes_2 t_oats_2 t_waitHours t_waitMinutes t_rested c_last c_who c_pull b_law b_places b_broad b_horses b_blinds b_besides b_tideCount b_cartCount b_due b_pairs b_pull b_strength b_back b_moods b_tides b_carts) → va_S A s.heap H locs → lv_has ls 6 [(0, .ref qg), (1, .int (2 : Int32)), (2, .int n2), (3, .int n3), (4, .int y4_2)] → J51_6 u_6 = some (g_crossings', g_sets', g_tried', g_strengths3', g_strengths4', t_crew', t_minutes', t_oats') → W p l e rm_X1_takeOverD2 s m args below meth c H locs 0 0 Q (F0 m 51 ls []) := by
            intro u_6 H locs ls hP hD hS hl hf
            have hf := hJ51_6 _ hf
            refine lv_iconst (v := (1 : Int32)) hx hb dX1_takeOver_51 (by decide) ?_
            refine lv_goto (tgt := 56) hx hb dX1_takeOver_52 (by decide) ?_
            exact WJ56_3 _ _ _ _ hP hD hS hl hf
          refine lv_icmp_eq (tgt := 51) hx hb dX1_takeOver_38 (by decide) (fun h9 => ?_) (fun h9 => ?_)
          · have hf := pg_t h9 hf
            exact WJ51_6 _ _ _ _ hP hD hS hl hf
          · have hf := pg_f h9 hf
            refine lv_iload_n hx hb dX1_takeOver_41 rfl (lv_at hl 1 rfl) ?_
            refine lv_iconst (v := (1 : Int32)) hx hb dX1_takeOver_42 (by decide) ?_
            refine lv_iadd hx hb dX1_takeOver_43 ?_
            refine lv_topi (fun y9 ey9 => ?_)
            obtain rfl : y9 = (3 : Int32) := ey9.trans (by decide)
            refine lv_aload_n hx hb dX1_takeOver_44 rfl (lv_at hl 0 rfl) ?_
            refine va_get (D := (dC, dI)) (ci := 1) (v := .int g_crossings_2) (C := RX1) (T := TX1) (N := 8) hx hb hw inlX1 hown hK hP 0 rfl rfl 1 (by decide) (hw _ mw_40_13) (fun _ h9 => h9) rfl dX1_takeOver_45 ?_
            refine lv_icmp_ge (tgt := 55) hx hb dX1_takeOver_48 (by decide) (fun h9 => ?_) (fun h9 => ?_)
            · have hf := pg_t h9 hf
              refine lv_iconst (v := (0 : Int32)) hx hb dX1_takeOver_55 (by decide) ?_
              exact WJ56_3 _ _ _ _ hP hD hS hl hf
            · have hf := pg_f h9 hf
              exact WJ51_6 _ _ _ _ hP hD hS hl hf
    exact WL2 fu _ _ _ _ _ _ _ _ _ _ _ _ hP hD hS (lv_sub hl [1, 2, 3, 4, 0] rfl) hf
  · have hf := pg_t h9 hf
    refine lv_aload_n hx hb dX1_takeOver_4 rfl (lv_at hl 0 rfl) ?_
    refine lv_iload_n hx hb dX1_takeOver_5 rfl (lv_at hl 1 rfl) ?_
    refine va_put (D := (dC, dI)) (ci := 1) (v := .int (2 : Int32)) (ty := .int) (C := RX1) (T := TX1) (N := 8) hx hb hw inlX1 tyX1 tyX1_ok nmX1 hown hK hP hD hS 0 rfl rfl 1 (by decide) (hw _ mw_40_13) (fun _ h9 => h9) rfl (by decide +kernel) rfl rfl (Nat.le_of_ble_eq_true rfl) dX1_takeOver_6 (fun H locs hP hD hS => ?_)
    have hP : va_P (dC, dI) vwCl (W_X1g_X7t_X2c_X0b cI cZ cII qg qg_sets qg_tried qg_strengths qg_strengths0 qg_strengths1 qg_strengths2 qg_strengths3 qg_strengths4 qt qt_rested qc qc_who qc_pull qb qb_pull qb_strength qb_back qb_moods qb_tides qb_carts g_known (2 : Int32) g_sets g_tried g_strengths0 g_strengths1 g_strengths2 g_strengths3 g_strengths4 t_crew t_minutes t_oats t_waitHours t_waitMinutes t_rested c_last c_who c_pull b_law b_places b_broad b_horses b_blinds b_besides b_tideCount b_cartCount b_due b_pairs b_pull b_strength b_back b_moods b_tides b_carts) H := hP
    have hD : va_D A (W_X1g_X7t_X2c_X0b cI cZ cII qg qg_sets qg_tried qg_strengths qg_strengths0 qg_strengths1 qg_strengths2 qg_strengths3 qg_strengths4 qt qt_rested qc qc_who qc_pull qb qb_pull qb_strength qb_back qb_moods qb_tides qb_carts g_known (2 : Int32) g_sets g_tried g_strengths0 g_strengths1 g_strengths2 g_strengths3 g_strengths4 t_crew t_minutes t_oats t_waitHours t_waitMinutes t_rested c_last c_who c_pull b_law b_places b_broad b_horses b_blinds b_besides b_tideCount b_cartCount b_due b_pairs b_pull b_strength b_back b_moods b_tides b_carts) := hD
    refine lv_aload_n hx hb dX1_takeOver_9 rfl (lv_at hl 0 rfl) ?_
    refine va_get (D := (dC, dI)) (ci := 1) (v := .ref qg_tried) (C := RX1) (T := TX1) (N := 8) hx hb hw inlX1 hown hK hP 0 rfl rfl 6 (by decide) (hw _ mw_5_4) (fun _ h9 => h9) rfl dX1_takeOver_10 ?_
    refine lv_iconst (v := (0 : Int32)) hx hb dX1_takeOver_13 (by decide) ?_
    refine lv_aload_n hx hb dX1_takeOver_14 rfl (lv_at hl 0 rfl) ?_
    refine va_get (D := (dC, dI)) (ci := 1) (v := .ref qg_sets) (C := RX1) (T := TX1) (N := 8) hx hb hw inlX1 hown hK hP 0 rfl rfl 5 (by decide) (hw _ mw_5_3) (fun _ h9 => h9) rfl dX1_takeOver_15 ?_
    refine lv_iconst (v := (0 : Int32)) hx hb dX1_takeOver_18 (by decide) ?_
    refine lv_iconst (v := (4 : Int32)) hx hb dX1_takeOver_19 (by decide) ?_
    refine va_copyi hx hb (hml.trans hl.1.symm) hown (hw _ mw_40_14) (hw _ mw_18_17) (hw _ mw_18_18) (hw _ mw_18_19) hK hP hD hS 2 1 0 0 (ty := .int) rfl rfl rfl rfl rfl (by decide) (by decide) (by decide) (by decide) (by decide) (fun _ _ => rfl) (Nat.le_of_ble_eq_true rfl) (by decide +kernel) dX1_takeOver_20 (fun H locs hP hD hS => ?_)
    have hP : va_P (dC, dI) vwCl (W_X1g_X7t_X2c_X0b cI cZ cII qg qg_sets qg_tried qg_strengths qg_strengths0 qg_strengths1 qg_strengths2 qg_strengths3 qg_strengths4 qt qt_rested qc qc_who qc_pull qb qb_pull qb_strength qb_back qb_moods qb_tides qb_carts g_known (2 : Int32) (va_cpy g_tried g_sets 0 0 4) g_tried g_strengths0 g_strengths1 g_strengths2 g_strengths3 g_strengths4 t_crew t_minutes t_oats t_waitHours t_waitMinutes t_rested c_last c_who c_pull b_law b_places b_broad b_horses b_blinds b_besides b_tideCount b_cartCount b_due b_pairs b_pull b_strength b_back b_moods b_tides b_carts) H := hP
    have hD : va_D A (W_X1g_X7t_X2c_X0b cI cZ cII qg qg_sets qg_tried qg_strengths qg_strengths0 qg_strengths1 qg_strengths2 qg_strengths3 qg_strengths4 qt qt_rested qc qc_who qc_pull qb qb_pull qb_strength qb_back qb_moods qb_tides qb_carts g_known (2 : Int32) (va_cpy g_tried g_sets 0 0 4) g_tried g_strengths0 g_strengths1 g_strengths2 g_strengths3 g_strengths4 t_crew t_minutes t_oats t_waitHours t_waitMinutes t_rested c_last c_who c_pull b_law b_places b_broad b_horses b_blinds b_besides b_tideCount b_cartCount b_due b_pairs b_pull b_strength b_back b_moods b_tides b_carts) := hD
    exact RET _ _ _ _ _ _ _ _ _ _ _ _ dX1_takeOver_23 hP hD hS hf
def f_X1_takeSetD1 (n2 : Int32) (n3 : Int32) (n4 : Int32) (g_crossings : Int32) (g_sets : Nat → Int32) (g_tried : Nat → Int32) (g_strengths1 : Nat → Int32) (g_strengths2 : Nat → Int32) (g_strengths3 : Nat → Int32) (g_strengths4 : Nat → Int32) (t_crew : Int32) (t_minutes : Int32) (t_oats : Int32) (c_last : Int32) (c_who : Nat → Int32) (c_pull : Nat → Int32) (b_law : Int32) (b_broad : Int32) (b_horses : Int32) (b_tideCount : Int32) (b_cartCount : Int32) (b_strength : Nat → Int32) (b_back : Nat → Int32) (b_tides : Nat → Int32) (b_carts : Nat → Int32) : Option (Int32 × (Nat → Int32) × (Nat → Int32) × (Nat → Int32) × (Nat → Int32) × (Nat → Int32) × Int32 × Int32 × Int32) :=
  bn1 (f_X0_tideOf n4 b_tideCount b_tides) (fun (r_1 : Int32) =>
    bn1 (f_X1_weight n2 b_cartCount b_carts) (fun (r_2 : Int32) =>
      bn4 (f_X7_findSoonest (r_1 - r_2) (-1 : Int32) t_crew t_minutes t_oats c_last c_who c_pull b_law b_broad g_strengths1) (fun (r_3 : Int32) (t_crew_3 : Int32) (t_minutes_3 : Int32) (t_oats_3 : Int32) =>
        if r_3 = 0 then
          some (g_crossings, g_sets, g_tried, g_strengths2, g_strengths3, g_strengths4, t_crew_3, t_minutes_3, t_oats_3)
        else
          bn1 (f_X2_tire t_crew_3 t_minutes_3 c_who b_horses b_strength b_back g_strengths1 g_strengths2) (fun (g_strengths2_4 : Nat → Int32) =>
            bn8 (f_X1_takeOverD2 (n3 - n2) (n4 + (1 : Int32)) g_crossings g_sets (upd g_tried ((1 : Int32)).toNatClampNeg n2) g_strengths2_4 g_strengths3 g_strengths4 t_crew_3 t_minutes_3 t_oats_3 c_last c_who c_pull b_law b_broad b_horses b_tideCount b_cartCount b_strength b_back b_tides b_carts) (fun (g_crossings_5 : Int32) (g_sets_5 : Nat → Int32) (g_tried_5 : Nat → Int32) (g_strengths3_5 : Nat → Int32) (g_strengths4_5 : Nat → Int32) (t_crew_5 : Int32) (t_minutes_5 : Int32) (t_oats_5 : Int32) =>
              some (g_crossings_5, g_sets_5, g_tried_5, g_strengths2_4, g_strengths3_5, g_strengths4_5, t_crew_5, t_minutes_5, t_oats_5)
            )
          )
      )
    )
  )
abbrev rm_X1_takeSetD1 : Room := { frames := 8, cells := 0, slots := 0, locals := 227 }
set_option maxHeartbeats 4000000 in
set_option maxRecDepth 100000 in
theorem c_X1_takeSetD1 (l : Launch) (dC : Nat → ClassId) (dI : Nat → Nat → Nat) (cI cZ cII : ClassId) (qg qg_sets qg_tried qg_strengths qg_strengths0 qg_strengths1 qg_strengths2 qg_strengths3 qg_strengths4 qt qt_rested qc qc_who qc_pull qb qb_pull qb_strength qb_back qb_moods qb_tides qb_carts : Nat) (sz : Nat) (g_known : Int32) (g_crossings : Int32) (g_sets : Nat → Int32) (g_tried : Nat → Int32) (g_strengths0 : Nat → Int32) (g_strengths1 : Nat → Int32) (g_strengths2 : Nat → Int32) (g_strengths3 : Nat → Int32) (g_strengths4 : Nat → Int32) (t_crew : Int32) (t_minutes : Int32) (t_oats : Int32) (t_waitHours : Int32) (t_waitMinutes : Int32) (t_rested : Nat → Int32) (c_last : Int32) (c_who : Nat → Int32) (c_pull : Nat → Int32) (b_law : Int32) (b_places : Int32) (b_broad : Int32) (b_horses : Int32) (b_blinds : Int32) (b_besides : Int32) (b_tideCount : Int32) (b_cartCount : Int32) (b_due : Int32) (b_pairs : Int64) (b_pull : Nat → Int32) (b_strength : Nat → Int32) (b_back : Nat → Int32) (b_moods : Nat → Int32) (b_tides : Nat → Int32) (b_carts : Nat → Int32) (n2 : Int32) (n3 : Int32) (n4 : Int32) (g_crossings' : Int32) (g_sets' : Nat → Int32) (g_tried' : Nat → Int32) (g_strengths2' : Nat → Int32) (g_strengths3' : Nat → Int32) (g_strengths4' : Nat → Int32) (t_crew' : Int32) (t_minutes' : Int32) (t_oats' : Int32) (hf : f_X1_takeSetD1 n2 n3 n4 g_crossings g_sets g_tried g_strengths1 g_strengths2 g_strengths3 g_strengths4 t_crew t_minutes t_oats c_last c_who c_pull b_law b_broad b_horses b_tideCount b_cartCount b_strength b_back b_tides b_carts = some (g_crossings', g_sets', g_tried', g_strengths2', g_strengths3', g_strengths4', t_crew', t_minutes', t_oats')) : Met l yX1_takeSet (wM yX1_takeSet cX1_takeSet 6 none) rm_X1_takeSetD1 (PreW (dC, dI) (tyA cI cZ cII) (W_X1g_X7t_X2c_X0b cI cZ cII qg qg_sets qg_tried qg_strengths qg_strengths0 qg_strengths1 qg_strengths2 qg_strengths3 qg_strengths4 qt qt_rested qc qc_who qc_pull qb qb_pull qb_strength qb_back qb_moods qb_tides qb_carts g_known g_crossings g_sets g_tried g_strengths0 g_strengths1 g_strengths2 g_strengths3 g_strengths4 t_crew t_minutes t_oats t_waitHours t_waitMinutes t_rested c_last c_who c_pull b_law b_places b_broad b_horses b_blinds b_besides b_tideCount b_cartCount b_due b_pairs b_pull b_strength b_back b_moods b_tides b_carts) sz [.ref qg, .int (1 : Int32), .int n2, .int n3, .int n4]) (PostV (dC, dI) (tyA cI cZ cII) (W_X1g_X7t_X2c_X0b cI cZ cII qg qg_sets qg_tried qg_strengths qg_strengths0 qg_strengths1 qg_strengths2 qg_strengths3 qg_strengths4 qt qt_rested qc qc_who qc_pull qb qb_pull qb_strength qb_back qb_moods qb_tides qb_carts g_known g_crossings g_sets g_tried g_strengths0 g_strengths1 g_strengths2 g_strengths3 g_strengths4 t_crew t_minutes t_oats t_waitHours t_waitMinutes t_rested c_last c_who c_pull b_law b_places b_broad b_horses b_blinds b_besides b_tideCount b_cartCount b_due b_pairs b_pull b_strength b_back b_moods b_tides b_carts) (W_X1g_X7t_X2c_X0b cI cZ cII qg qg_sets qg_tried qg_strengths qg_strengths0 qg_strengths1 qg_strengths2 qg_strengths3 qg_strengths4 qt qt_rested qc qc_who qc_pull qb qb_pull qb_strength qb_back qb_moods qb_tides qb_carts g_known g_crossings' g_sets' g_tried' g_strengths0 g_strengths1 g_strengths2' g_strengths3' g_strengths4' t_crew' t_minutes' t_oats' t_waitHours t_waitMinutes t_rested c_last c_who c_pull b_law b_places b_broad b_horses b_blinds b_besides b_tideCount b_cartCount b_due b_pairs b_pull b_strength b_back b_moods b_tides b_carts) sz) 0 0 (va_A (W_X1g_X7t_X2c_X0b cI cZ cII qg qg_sets qg_tried qg_strengths qg_strengths0 qg_strengths1 qg_strengths2 qg_strengths3 qg_strengths4 qt qt_rested qc qc_who qc_pull qb qb_pull qb_strength qb_back qb_moods qb_tides qb_carts g_known g_crossings g_sets g_tried g_strengths0 g_strengths1 g_strengths2 g_strengths3 g_strengths4 t_crew t_minutes t_oats t_waitHours t_waitMinutes t_rested c_last c_who c_pull b_law b_places b_broad b_horses b_blinds b_besides b_tideCount b_cartCount b_due b_pairs b_pull b_strength b_back b_moods b_tides b_carts) sz) := by
  refine Met.ofW (cc := cX1_takeSet) (maxL := 6) (ret := none) (by decide) rfl ?_
  intro p e s m args below meth c s₁ B hml hv
  obtain ⟨rfl, hsz, hP, hK, hD0⟩ := hv
  have hx := B.exec
  have hb := B.bytes
  have hr := B.returns
  have hts := atoms_spec (ws := wM yX1_takeSet cX1_takeSet 6 none) B.pre
  have hown : s.vm.findClass RX1 = some m.cls := findClass_of_methodNamed B.named
  have hlocks := B.notSynchronized
  subst hsz
  have hD := hD0.self (sz := s.heap.size)
  obtain ⟨A, hAe⟩ : ∃ A, A = va_A (W_X1g_X7t_X2c_X0b cI cZ cII qg qg_sets qg_tried qg_strengths qg_strengths0 qg_strengths1 qg_strengths2 qg_strengths3 qg_strengths4 qt qt_rested qc qc_who qc_pull qb qb_pull qb_strength qb_back qb_moods qb_tides qb_carts g_known g_crossings g_sets g_tried g_strengths0 g_strengths1 g_strengths2 g_strengths3 g_strengths4 t_crew t_minutes t_oats t_waitHours t_waitMinutes t_rested c_last c_who c_pull b_law b_places b_broad b_horses b_blinds b_besides b_tideCount b_cartCount b_due b_pairs b_pull b_strength b_back b_moods b_tides b_carts) s.heap.size := ⟨_, rfl⟩
  rw [← hAe] at hD
  have hA : ∀ q : Nat, s.heap.size ≤ q → A q := fun q h => by rw [hAe]; exact Or.inr h
  have hS : va_S A s.heap s.heap [] := va_S.rf
  have hl := lv_entry ([.ref qg, .int (1 : Int32), .int n2, .int n3, .int n4]) (n := 6) (Nat.le_of_ble_eq_true rfl)
  rw [lg_entry_eq]
  generalize (lg_sl ([.ref qg, .int (1 : Int32), .int n2, .int n3, .int n4]) ++ List.replicate (6 - (lg_sl ([.ref qg, .int (1 : Int32), .int n2, .int n3, .int n4])).length) Slot.unset).toArray = ls at hl ⊢
  have hl : lv_has ls 6 [(0, .ref qg), (1, .int (1 : Int32)), (2, .int n2), (3, .int n3), (4, .int n4)] := hl
  generalize ([.ref qg, .int (1 : Int32), .int n2, .int n3, .int n4] : List Value).toArray = args at hts ⊢
  have hw : ∀ w ∈ wsL_law, w.before args s = true := fun w h => hts w (List.mem_cons_of_mem _ h)
  refine pg_start (fun Q hQ => ?_)
  have RET : ∀ (H : Heap) (locs : List Loc) (ls : Array Slot) (pc : Nat) (x0 : Int32) (x1 : Nat → Int32) (x2 : Nat → Int32) (x3 : Nat → Int32) (x4 : Nat → Int32) (x5 : Nat → Int32) (x6 : Int32) (x7 : Int32) (x8 : Int32) , decode cX1_takeSet pc = .ok (.return_, 1) → va_P (dC, dI) vwCl (W_X1g_X7t_X2c_X0b cI cZ cII qg qg_sets qg_tried qg_strengths qg_strengths0 qg_strengths1 qg_strengths2 qg_strengths3 qg_strengths4 qt qt_rested qc qc_who qc_pull qb qb_pull qb_strength qb_back qb_moods qb_tides qb_carts g_known x0 x1 x2 g_strengths0 g_strengths1 x3 x4 x5 x6 x7 x8 t_waitHours t_waitMinutes t_rested c_last c_who c_pull b_law b_places b_broad b_horses b_blinds b_besides b_tideCount b_cartCount b_due b_pairs b_pull b_strength b_back b_moods b_tides b_carts) H → va_D A (W_X1g_X7t_X2c_X0b cI cZ cII qg qg_sets qg_tried qg_strengths qg_strengths0 qg_strengths1 qg_strengths2 qg_strengths3 qg_strengths4 qt qt_rested qc qc_who qc_pull qb qb_pull qb_strength qb_back qb_moods qb_tides qb_carts g_known x0 x1 x2 g_strengths0 g_strengths1 x3 x4 x5 x6 x7 x8 t_waitHours t_waitMinutes t_rested c_last c_who c_pull b_law b_places b_broad b_horses b_blinds b_besides b_tideCount b_cartCount b_due b_pairs b_pull b_strength b_back b_moods b_tides b_carts) → va_S A s.heap H locs → (some (x0, x1, x2, x3, x4, x5, x6, x7, x8) : Option (Int32 × (Nat → Int32) × (Nat → Int32) × (Nat → Int32) × (Nat → Int32) × (Nat → Int32) × Int32 × Int32 × Int32)) = some (g_crossings', g_sets', g_tried', g_strengths2', g_strengths3', g_strengths4', t_crew', t_minutes', t_oats') → W p l e rm_X1_takeSetD1 s m args below meth c H locs 0 0 Q (F0 m pc ls []) := by
    intro H locs ls pc x0 x1 x2 x3 x4 x5 x6 x7 x8 hd hP hD hS he
    subst hAe; subst hQ
    simp only [Option.some.injEq, Prod.mk.injEq] at he
    obtain ⟨rfl, rfl, rfl, rfl, rfl, rfl, rfl, rfl, rfl⟩ := he
    exact pg_vret hx hb hr hlocks hK hP hD hS hd
  unfold f_X1_takeSetD1 at hf
  refine lv_iload_n hx hb dX1_takeSet_0 rfl (lv_at hl 1 rfl) ?_
  refine lv_if_lt (tgt := 9) hx hb dX1_takeSet_1 (by decide) (fun h9 => absurd h9 (by decide)) (fun h9 => ?_)
  refine lv_iload_n hx hb dX1_takeSet_4 rfl (lv_at hl 1 rfl) ?_
  refine lv_iconst (v := (4 : Int32)) hx hb dX1_takeSet_5 (by decide) ?_
  refine lv_icmp_lt (tgt := 10) hx hb dX1_takeSet_6 (by decide) (fun h9 => ?_) (fun h9 => absurd h9 (by decide))
  refine lv_aload_n hx hb dX1_takeSet_10 rfl (lv_at hl 0 rfl) ?_
  refine va_get (D := (dC, dI)) (ci := 1) (v := .ref qb) (C := RX1) (T := TX1) (N := 8) hx hb hw inlX1 hown hK hP 0 rfl rfl 2 (by decide) (hw _ mw_5_7) (fun _ h9 => h9) rfl dX1_takeSet_11 ?_
  refine lv_iload hx hb dX1_takeSet_14 (lv_at hl 4 rfl) ?_
  obtain ⟨r_1, hc, hf⟩ := bn1_s hf
  refine pg_cVi (As := [.int n4]) (rest := []) (wf := (W_X1g_X7t_X2c_X0b cI cZ cII qg qg_sets qg_tried qg_strengths qg_strengths0 qg_strengths1 qg_strengths2 qg_strengths3 qg_strengths4 qt qt_rested qc qc_who qc_pull qb qb_pull qb_strength qb_back qb_moods qb_tides qb_carts g_known g_crossings g_sets g_tried g_strengths0 g_strengths1 g_strengths2 g_strengths3 g_strengths4 t_crew t_minutes t_oats t_waitHours t_waitMinutes t_rested c_last c_who c_pull b_law b_places b_broad b_horses b_blinds b_besides b_tideCount b_cartCount b_due b_pairs b_pull b_strength b_back b_moods b_tides b_carts)) ⟨hx, hb, hml, hown, hw⟩ (c_X0_tideOf l dC dI cI cZ cII qb qb_pull qb_strength qb_back qb_moods qb_tides qb_carts s.heap.size b_law b_places b_broad b_horses b_blinds b_besides b_tideCount b_cartCount b_due b_pairs b_pull b_strength b_back b_moods b_tides b_carts n4 r_1 hc) (cwV 1 hts (wM_V mw_41_2 mw_23_12 mw_23_13 mw_1_15 mw_23_14) rfl rfl rfl dk_X0_tideOf ⟨Nat.le_of_ble_eq_true rfl, Nat.le_of_ble_eq_true rfl⟩) hK hP hD hS hA 0 0 rfl rfl rfl [14, 15, 16, 17, 18, 19, 20] [0, 1, 2, 3, 4, 5, 6, 7, 8, 9, 10, 11, 12, 13] [0, 1, 2, 3, 4, 5, 6, 7, 8, 9, 10, 11, 12, 13, 14, 15, 16, 17, 18, 19, 20] rfl rfl rfl (by decide) rfl hl.1 rfl (Nat.le_of_ble_eq_true rfl) dX1_takeSet_16 ⟨Nat.zero_le _, Nat.zero_le _⟩ (fun H locs hP hD hS => ?_)
  refine lv_aload_n hx hb dX1_takeSet_19 rfl (lv_at hl 0 rfl) ?_
  refine lv_iload_n hx hb dX1_takeSet_20 rfl (lv_at hl 2 rfl) ?_
  obtain ⟨r_2, hc, hf⟩ := bn1_s hf
  refine pg_cVi (As := [.int n2]) (rest := [.int r_1]) (wf := (W_X1g_X7t_X2c_X0b cI cZ cII qg qg_sets qg_tried qg_strengths qg_strengths0 qg_strengths1 qg_strengths2 qg_strengths3 qg_strengths4 qt qt_rested qc qc_who qc_pull qb qb_pull qb_strength qb_back qb_moods qb_tides qb_carts g_known g_crossings g_sets g_tried g_strengths0 g_strengths1 g_strengths2 g_strengths3 g_strengths4 t_crew t_minutes t_oats t_waitHours t_waitMinutes t_rested c_last c_who c_pull b_law b_places b_broad b_horses b_blinds b_besides b_tideCount b_cartCount b_due b_pairs b_pull b_strength b_back b_moods b_tides b_carts)) ⟨hx, hb, hml, hown, hw⟩ (c_X1_weight l dC dI cI cZ cII qg qg_sets qg_tried qg_strengths qg_strengths0 qg_strengths1 qg_strengths2 qg_strengths3 qg_strengths4 qt qt_rested qc qc_who qc_pull qb qb_pull qb_strength qb_back qb_moods qb_tides qb_carts H.size g_known g_crossings g_sets g_tried g_strengths0 g_strengths1 g_strengths2 g_strengths3 g_strengths4 t_crew t_minutes t_oats t_waitHours t_waitMinutes t_rested c_last c_who c_pull b_law b_places b_broad b_horses b_blinds b_besides b_tideCount b_cartCount b_due b_pairs b_pull b_strength b_back b_moods b_tides b_carts n2 r_2 hc) (cwV 1 hts (wM_V mw_41_3 mw_41_4 mw_41_5 mw_2_18 mw_41_6) rfl rfl rfl dk_X1_weight ⟨Nat.le_of_ble_eq_true rfl, Nat.le_of_ble_eq_true rfl⟩) hK hP hD hS hA 1 0 rfl rfl rfl [0, 1, 2, 3, 4, 5, 6, 7, 8, 9, 10, 11, 12, 13, 14, 15, 16, 17, 18, 19, 20] [] [0, 1, 2, 3, 4, 5, 6, 7, 8, 9, 10, 11, 12, 13, 14, 15, 16, 17, 18, 19, 20] rfl rfl rfl (by decide) rfl hl.1 rfl (Nat.le_of_ble_eq_true rfl) dX1_takeSet_21 ⟨Nat.zero_le _, Nat.zero_le _⟩ (fun H locs hP hD hS => ?_)
  refine lv_isub hx hb dX1_takeSet_24 ?_
  refine lv_istore (lv' := [(5, .int (r_1 - r_2)), (0, .ref qg), (1, .int (1 : Int32)), (2, .int n2), (3, .int n3), (4, .int n4)]) hx hb dX1_takeSet_25 hl (by decide) rfl (fun ls hl => ?_)
  refine lv_aload_n hx hb dX1_takeSet_27 rfl (lv_at hl 1 rfl) ?_
  refine va_get (D := (dC, dI)) (ci := 1) (v := .ref qt) (C := RX1) (T := TX1) (N := 8) hx hb hw inlX1 hown hK hP 0 rfl rfl 4 (by decide) (hw _ mw_5_9) (fun _ h9 => h9) rfl dX1_takeSet_28 ?_
  refine lv_aload_n hx hb dX1_takeSet_31 rfl (lv_at hl 1 rfl) ?_
  refine va_get (D := (dC, dI)) (ci := 1) (v := .ref qg_strengths) (C := RX1) (T := TX1) (N := 8) hx hb hw inlX1 hown hK hP 0 rfl rfl 7 (by decide) (hw _ mw_5_6) (fun _ h9 => h9) rfl dX1_takeSet_32 ?_
  refine lv_iload_n hx hb dX1_takeSet_35 rfl (lv_at hl 2 rfl) ?_
  refine va_ald2 hx hb hK hP 3 2 rfl rfl (pg_lit (by decide)) dX1_takeSet_36 ?_
  refine W.eq (g2 := F0 m 37 ls [.ref qg_strengths1, .ref qt]) rfl ?_
  refine lv_iload hx hb dX1_takeSet_37 (lv_at hl 0 rfl) ?_
  refine lv_iconst (v := (-1 : Int32)) hx hb dX1_takeSet_39 (by decide) ?_
  obtain ⟨r_3, t_crew_3, t_minutes_3, t_oats_3, hc, hf⟩ := bn4_s hf
  refine pg_cVi (As := [.ref qg_strengths1, .int (r_1 - r_2), .int (-1 : Int32)]) (rest := []) (wf := (W_X1g_X7t_X2c_X0b cI cZ cII qg qg_sets qg_tried qg_strengths qg_strengths0 qg_strengths1 qg_strengths2 qg_strengths3 qg_strengths4 qt qt_rested qc qc_who qc_pull qb qb_pull qb_strength qb_back qb_moods qb_tides qb_carts g_known g_crossings g_sets g_tried g_strengths0 g_strengths1 g_strengths2 g_strengths3 g_strengths4 t_crew_3 t_minutes_3 t_oats_3 t_waitHours t_waitMinutes t_rested c_last c_who c_pull b_law b_places b_broad b_horses b_blinds b_besides b_tideCount b_cartCount b_due b_pairs b_pull b_strength b_back b_moods b_tides b_carts)) ⟨hx, hb, hml, hown, hw⟩ (c_X7_findSoonest l dC dI cI cZ cII qt qt_rested qc qc_who qc_pull qb qb_pull qb_strength qb_back qb_moods qb_tides qb_carts qg_strengths1 H.size t_crew t_minutes t_oats t_waitHours t_waitMinutes t_rested c_last c_who c_pull b_law b_places b_broad b_horses b_blinds b_besides b_tideCount b_cartCount b_due b_pairs b_pull b_strength b_back b_moods b_tides b_carts g_strengths1 (r_1 - r_2) (-1 : Int32) r_3 t_crew_3 t_minutes_3 t_oats_3 hc) (cwV 3 hts (wM_V mw_41_8 mw_34_15 mw_34_16 mw_2_10 mw_34_17) rfl rfl rfl dk_X7_findSoonest ⟨Nat.le_of_ble_eq_true rfl, Nat.le_of_ble_eq_true rfl⟩) hK hP hD hS hA 7 0 rfl rfl rfl [9, 10, 11, 12, 13, 14, 15, 16, 17, 18, 19, 20, 5] [0, 1, 2, 3, 4, 6, 7, 8] [0, 1, 2, 3, 4, 20, 5, 6, 7, 8, 9, 10, 11, 12, 13, 14, 15, 16, 17, 18, 19] rfl rfl rfl (by decide) rfl hl.1 rfl (Nat.le_of_ble_eq_true rfl) dX1_takeSet_40 ⟨Nat.zero_le _, Nat.zero_le _⟩ (fun H locs hP hD hS => ?_)
  refine lv_if_eq (tgt := 102) hx hb dX1_takeSet_43 (by decide) (fun h9 => ?_) (fun h9 => ?_)
  · have hf := pg_t h9 hf
    exact RET _ _ _ _ _ _ _ _ _ _ _ _ _ dX1_takeSet_102 hP hD hS hf
  · have hf := pg_f h9 hf
    refine lv_aload_n hx hb dX1_takeSet_46 rfl (lv_at hl 1 rfl) ?_
    refine va_get (D := (dC, dI)) (ci := 1) (v := .ref qc) (C := RX1) (T := TX1) (N := 8) hx hb hw inlX1 hown hK hP 0 rfl rfl 3 (by decide) (hw _ mw_5_8) (fun _ h9 => h9) rfl dX1_takeSet_47 ?_
    refine lv_aload_n hx hb dX1_takeSet_50 rfl (lv_at hl 1 rfl) ?_
    refine va_get (D := (dC, dI)) (ci := 1) (v := .ref qt) (C := RX1) (T := TX1) (N := 8) hx hb hw inlX1 hown hK hP 0 rfl rfl 4 (by decide) (hw _ mw_5_9) (fun _ h9 => h9) rfl dX1_takeSet_51 ?_
    refine va_get (D := (dC, dI)) (ci := 7) (v := .int t_crew_3) (C := RX7) (T := TX7) (N := 8) hx hb hw inlX7 hown hK hP 9 rfl rfl 0 (by decide) (hw _ mw_41_0) (fun _ h9 => h9) rfl dX1_takeSet_54 ?_
    refine lv_aload_n hx hb dX1_takeSet_57 rfl (lv_at hl 1 rfl) ?_
    refine va_get (D := (dC, dI)) (ci := 1) (v := .ref qt) (C := RX1) (T := TX1) (N := 8) hx hb hw inlX1 hown hK hP 0 rfl rfl 4 (by decide) (hw _ mw_5_9) (fun _ h9 => h9) rfl dX1_takeSet_58 ?_
    refine va_get (D := (dC, dI)) (ci := 7) (v := .int t_minutes_3) (C := RX7) (T := TX7) (N := 8) hx hb hw inlX7 hown hK hP 9 rfl rfl 1 (by decide) (hw _ mw_41_1) (fun _ h9 => h9) rfl dX1_takeSet_61 ?_
    refine lv_aload_n hx hb dX1_takeSet_64 rfl (lv_at hl 1 rfl) ?_
    refine va_get (D := (dC, dI)) (ci := 1) (v := .ref qg_strengths) (C := RX1) (T := TX1) (N := 8) hx hb hw inlX1 hown hK hP 0 rfl rfl 7 (by decide) (hw _ mw_5_6) (fun _ h9 => h9) rfl dX1_takeSet_65 ?_
    refine lv_iload_n hx hb dX1_takeSet_68 rfl (lv_at hl 2 rfl) ?_
    refine va_ald2 hx hb hK hP 3 2 rfl rfl (pg_lit (by decide)) dX1_takeSet_69 ?_
    refine W.eq (g2 := F0 m 70 ls [.ref qg_strengths1, .int t_minutes_3, .int t_crew_3, .ref qc]) rfl ?_
    refine lv_aload_n hx hb dX1_takeSet_70 rfl (lv_at hl 1 rfl) ?_
    refine va_get (D := (dC, dI)) (ci := 1) (v := .ref qg_strengths) (C := RX1) (T := TX1) (N := 8) hx hb hw inlX1 hown hK hP 0 rfl rfl 7 (by decide) (hw _ mw_5_6) (fun _ h9 => h9) rfl dX1_takeSet_71 ?_
    refine lv_iload_n hx hb dX1_takeSet_74 rfl (lv_at hl 2 rfl) ?_
    refine lv_iconst (v := (1 : Int32)) hx hb dX1_takeSet_75 (by decide) ?_
    refine lv_iadd hx hb dX1_takeSet_76 ?_
    refine lv_topi (fun y9 ey9 => ?_)
    obtain rfl : y9 = (2 : Int32) := ey9.trans (by decide)
    refine va_ald2 hx hb hK hP 3 2 rfl rfl (pg_lit (by decide)) dX1_takeSet_77 ?_
    refine W.eq (g2 := F0 m 78 ls [.ref qg_strengths2, .ref qg_strengths1, .int t_minutes_3, .int t_crew_3, .ref qc]) rfl ?_
    obtain ⟨g_strengths2_4, hc, hf⟩ := bn1_s hf
    refine pg_cVv (As := [.int t_crew_3, .int t_minutes_3, .ref qg_strengths1, .ref qg_strengths2]) (rest := []) (wf := (W_X1g_X7t_X2c_X0b cI cZ cII qg qg_sets qg_tried qg_strengths qg_strengths0 qg_strengths1 qg_strengths2 qg_strengths3 qg_strengths4 qt qt_rested qc qc_who qc_pull qb qb_pull qb_strength qb_back qb_moods qb_tides qb_carts g_known g_crossings g_sets g_tried g_strengths0 g_strengths1 g_strengths2_4 g_strengths3 g_strengths4 t_crew_3 t_minutes_3 t_oats_3 t_waitHours t_waitMinutes t_rested c_last c_who c_pull b_law b_places b_broad b_horses b_blinds b_besides b_tideCount b_cartCount b_due b_pairs b_pull b_strength b_back b_moods b_tides b_carts)) ⟨hx, hb, hml, hown, hw⟩ (c_X2_tire l dC dI cI cZ cII qc qc_who qc_pull qb qb_pull qb_strength qb_back qb_moods qb_tides qb_carts qg_strengths1 qg_strengths2 H.size c_last c_who c_pull b_law b_places b_broad b_horses b_blinds b_besides b_tideCount b_cartCount b_due b_pairs b_pull b_strength b_back b_moods b_tides b_carts g_strengths1 g_strengths2 t_crew_3 t_minutes_3 g_strengths2_4 hc) (cwV 4 hts (wM_V mw_41_9 mw_29_21 mw_29_22 mw_2_0 mw_29_23) rfl rfl rfl dk_X2_tire ⟨Nat.le_of_ble_eq_true rfl, Nat.le_of_ble_eq_true rfl⟩) hK hP hD hS hA 2 0 rfl rfl rfl [11, 12, 13, 14, 15, 16, 17, 18, 19, 20, 5, 6] [0, 1, 2, 3, 4, 7, 8, 9, 10] [0, 1, 2, 3, 4, 19, 20, 5, 6, 7, 8, 9, 10, 11, 12, 13, 14, 15, 16, 17, 18] rfl rfl rfl (by decide) rfl hl.1 rfl (Nat.le_of_ble_eq_true rfl) dX1_takeSet_78 ⟨Nat.zero_le _, Nat.zero_le _⟩ (fun H locs hP hD hS => ?_)
    refine lv_aload_n hx hb dX1_takeSet_81 rfl (lv_at hl 1 rfl) ?_
    refine va_get (D := (dC, dI)) (ci := 1) (v := .ref qg_tried) (C := RX1) (T := TX1) (N := 8) hx hb hw inlX1 hown hK hP 0 rfl rfl 6 (by decide) (hw _ mw_5_4) (fun _ h9 => h9) rfl dX1_takeSet_82 ?_
    refine lv_iload_n hx hb dX1_takeSet_85 rfl (lv_at hl 2 rfl) ?_
    refine lv_iload_n hx hb dX1_takeSet_86 rfl (lv_at hl 3 rfl) ?_
    refine va_iast hx hb hK hP hD hS 2 0 rfl rfl (pg_lit (by decide)) dX1_takeSet_87 (fun H locs hP hD hS => ?_)
    have hP : va_P (dC, dI) vwCl (W_X1g_X7t_X2c_X0b cI cZ cII qg qg_sets qg_tried qg_strengths qg_strengths0 qg_strengths1 qg_strengths2 qg_strengths3 qg_strengths4 qt qt_rested qc qc_who qc_pull qb qb_pull qb_strength qb_back qb_moods qb_tides qb_carts g_known g_crossings g_sets (upd g_tried ((1 : Int32)).toNatClampNeg n2) g_strengths0 g_strengths1 g_strengths2_4 g_strengths3 g_strengths4 t_crew_3 t_minutes_3 t_oats_3 t_waitHours t_waitMinutes t_rested c_last c_who c_pull b_law b_places b_broad b_horses b_blinds b_besides b_tideCount b_cartCount b_due b_pairs b_pull b_strength b_back b_moods b_tides b_carts) H := hP
    have hD : va_D A (W_X1g_X7t_X2c_X0b cI cZ cII qg qg_sets qg_tried qg_strengths qg_strengths0 qg_strengths1 qg_strengths2 qg_strengths3 qg_strengths4 qt qt_rested qc qc_who qc_pull qb qb_pull qb_strength qb_back qb_moods qb_tides qb_carts g_known g_crossings g_sets (upd g_tried ((1 : Int32)).toNatClampNeg n2) g_strengths0 g_strengths1 g_strengths2_4 g_strengths3 g_strengths4 t_crew_3 t_minutes_3 t_oats_3 t_waitHours t_waitMinutes t_rested c_last c_who c_pull b_law b_places b_broad b_horses b_blinds b_besides b_tideCount b_cartCount b_due b_pairs b_pull b_strength b_back b_moods b_tides b_carts) := hD
    refine lv_aload_n hx hb dX1_takeSet_88 rfl (lv_at hl 1 rfl) ?_
    refine lv_iload_n hx hb dX1_takeSet_89 rfl (lv_at hl 2 rfl) ?_
    refine lv_iconst (v := (1 : Int32)) hx hb dX1_takeSet_90 (by decide) ?_
    refine lv_iadd hx hb dX1_takeSet_91 ?_
    refine lv_topi (fun y9 ey9 => ?_)
    obtain rfl : y9 = (2 : Int32) := ey9.trans (by decide)
    refine lv_iload_n hx hb dX1_takeSet_92 rfl (lv_at hl 4 rfl) ?_
    refine lv_iload_n hx hb dX1_takeSet_93 rfl (lv_at hl 3 rfl) ?_
    refine lv_isub hx hb dX1_takeSet_94 ?_
    refine lv_iload hx hb dX1_takeSet_95 (lv_at hl 5 rfl) ?_
    refine lv_iconst (v := (1 : Int32)) hx hb dX1_takeSet_97 (by decide) ?_
    refine lv_iadd hx hb dX1_takeSet_98 ?_
    obtain ⟨g_crossings_5, g_sets_5, g_tried_5, g_strengths3_5, g_strengths4_5, t_crew_5, t_minutes_5, t_oats_5, hc, hf⟩ := bn8_s hf
    refine pg_cVv (As := [.int (2 : Int32), .int (n3 - n2), .int (n4 + (1 : Int32))]) (rest := []) (wf := (W_X1g_X7t_X2c_X0b cI cZ cII qg qg_sets qg_tried qg_strengths qg_strengths0 qg_strengths1 qg_strengths2 qg_strengths3 qg_strengths4 qt qt_rested qc qc_who qc_pull qb qb_pull qb_strength qb_back qb_moods qb_tides qb_carts g_known g_crossings_5 g_sets_5 g_tried_5 g_strengths0 g_strengths1 g_strengths2_4 g_strengths3_5 g_strengths4_5 t_crew_5 t_minutes_5 t_oats_5 t_waitHours t_waitMinutes t_rested c_last c_who c_pull b_law b_places b_broad b_horses b_blinds b_besides b_tideCount b_cartCount b_due b_pairs b_pull b_strength b_back b_moods b_tides b_carts)) ⟨hx, hb, hml, hown, hw⟩ (c_X1_takeOverD2 l dC dI cI cZ cII qg qg_sets qg_tried qg_strengths qg_strengths0 qg_strengths1 qg_strengths2 qg_strengths3 qg_strengths4 qt qt_rested qc qc_who qc_pull qb qb_pull qb_strength qb_back qb_moods qb_tides qb_carts H.size g_known g_crossings g_sets (upd g_tried ((1 : Int32)).toNatClampNeg n2) g_strengths0 g_strengths1 g_strengths2_4 g_strengths3 g_strengths4 t_crew_3 t_minutes_3 t_oats_3 t_waitHours t_waitMinutes t_rested c_last c_who c_pull b_law b_places b_broad b_horses b_blinds b_besides b_tideCount b_cartCount b_due b_pairs b_pull b_strength b_back b_moods b_tides b_carts (n3 - n2) (n4 + (1 : Int32)) g_crossings_5 g_sets_5 g_tried_5 g_strengths3_5 g_strengths4_5 t_crew_5 t_minutes_5 t_oats_5 hc) (cwV 3 hts (wM_V mw_40_16 mw_40_17 mw_40_18 mw_2_18 mw_40_19) rfl rfl rfl dk_X1_takeOver ⟨Nat.le_of_ble_eq_true rfl, Nat.le_of_ble_eq_true rfl⟩) hK hP hD hS hA 1 0 rfl rfl rfl [0, 1, 2, 3, 4, 5, 6, 7, 8, 9, 10, 11, 12, 13, 14, 15, 16, 17, 18, 19, 20] [] [0, 1, 2, 3, 4, 5, 6, 7, 8, 9, 10, 11, 12, 13, 14, 15, 16, 17, 18, 19, 20] rfl rfl rfl (by decide) rfl hl.1 rfl (Nat.le_of_ble_eq_true rfl) dX1_takeSet_99 ⟨Nat.zero_le _, Nat.zero_le _⟩ (fun H locs hP hD hS => ?_)
    exact RET _ _ _ _ _ _ _ _ _ _ _ _ _ dX1_takeSet_102 hP hD hS hf
def f_X1_takeOverD1 (n2 : Int32) (n3 : Int32) (g_crossings : Int32) (g_sets : Nat → Int32) (g_tried : Nat → Int32) (g_strengths1 : Nat → Int32) (g_strengths2 : Nat → Int32) (g_strengths3 : Nat → Int32) (g_strengths4 : Nat → Int32) (t_crew : Int32) (t_minutes : Int32) (t_oats : Int32) (c_last : Int32) (c_who : Nat → Int32) (c_pull : Nat → Int32) (b_law : Int32) (b_broad : Int32) (b_horses : Int32) (b_tideCount : Int32) (b_cartCount : Int32) (b_strength : Nat → Int32) (b_back : Nat → Int32) (b_tides : Nat → Int32) (b_carts : Nat → Int32) : Option (Int32 × (Nat → Int32) × (Nat → Int32) × (Nat → Int32) × (Nat → Int32) × (Nat → Int32) × Int32 × Int32 × Int32) :=
  if n2 = 0 then
    some ((1 : Int32), (va_cpy g_tried g_sets 0 0 4), g_tried, g_strengths2, g_strengths3, g_strengths4, t_crew, t_minutes, t_oats)
  else
    jn9 (fun (g_crossings_1 : Int32) (g_sets_1 : Nat → Int32) (g_tried_1 : Nat → Int32) (g_strengths2_1 : Nat → Int32) (g_strengths3_1 : Nat → Int32) (g_strengths4_1 : Nat → Int32) (t_crew_1 : Int32) (t_minutes_1 : Int32) (t_oats_1 : Int32) =>
      some (g_crossings_1, g_sets_1, g_tried_1, g_strengths2_1, g_strengths3_1, g_strengths4_1, t_crew_1, t_minutes_1, t_oats_1)
    ) (fun K87_1 =>
    lq10 (fun rec2 (y4_2 : Int32) (g_crossings_2 : Int32) (g_sets_2 : Nat → Int32) (g_tried_2 : Nat → Int32) (g_strengths2_2 : Nat → Int32) (g_strengths3_2 : Nat → Int32) (g_strengths4_2 : Nat → Int32) (t_crew_2 : Int32) (t_minutes_2 : Int32) (t_oats_2 : Int32) =>
      if n2 < y4_2 then
        K87_1 g_crossings_2 g_sets_2 g_tried_2 g_strengths2_2 g_strengths3_2 g_strengths4_2 t_crew_2 t_minutes_2 t_oats_2
      else
        jn1 (fun (z0_3 : Int32) =>
          jn9 (fun (g_crossings_4 : Int32) (g_sets_4 : Nat → Int32) (g_tried_4 : Nat → Int32) (g_strengths2_4 : Nat → Int32) (g_strengths3_4 : Nat → Int32) (g_strengths4_4 : Nat → Int32) (t_crew_4 : Int32) (t_minutes_4 : Int32) (t_oats_4 : Int32) =>
            rec2 (y4_2 + (1 : Int32)) g_crossings_4 g_sets_4 g_tried_4 g_strengths2_4 g_strengths3_4 g_strengths4_4 t_crew_4 t_minutes_4 t_oats_4
          ) (fun J81_4 =>
          if z0_3 = 0 then
            J81_4 g_crossings_2 g_sets_2 g_tried_2 g_strengths2_2 g_strengths3_2 g_strengths4_2 t_crew_2 t_minutes_2 t_oats_2
          else
            if (y4_2 &&& n2) = y4_2 then
              bn9 (f_X1_takeSetD1 y4_2 n2 n3 g_crossings_2 g_sets_2 g_tried_2 g_strengths1 g_strengths2_2 g_strengths3_2 g_strengths4_2 t_crew_2 t_minutes_2 t_oats_2 c_last c_who c_pull b_law b_broad b_horses b_tideCount b_cartCount b_strength b_back b_tides b_carts) (fun (g_crossings_5 : Int32) (g_sets_5 : Nat → Int32) (g_tried_5 : Nat → Int32) (g_strengths2_5 : Nat → Int32) (g_strengths3_5 : Nat → Int32) (g_strengths4_5 : Nat → Int32) (t_crew_5 : Int32) (t_minutes_5 : Int32) (t_oats_5 : Int32) =>
                J81_4 g_crossings_5 g_sets_5 g_tried_5 g_strengths2_5 g_strengths3_5 g_strengths4_5 t_crew_5 t_minutes_5 t_oats_5
              )
            else
              J81_4 g_crossings_2 g_sets_2 g_tried_2 g_strengths2_2 g_strengths3_2 g_strengths4_2 t_crew_2 t_minutes_2 t_oats_2
          )
        ) (fun J56_3 =>
        jn1 (fun (u_6 : Unit) =>
          J56_3 (1 : Int32)
        ) (fun J51_6 =>
        if g_crossings_2 = (-1 : Int32) then
          J51_6 ()
        else
          if g_crossings_2 ≤ (2 : Int32) then
            J56_3 (0 : Int32)
          else
            J51_6 ()
        )
        )
    ) fu (1 : Int32) g_crossings g_sets g_tried g_strengths2 g_strengths3 g_strengths4 t_crew t_minutes t_oats
    )
abbrev rm_X1_takeOverD1 : Room := { frames := 9, cells := 0, slots := 0, locals := 252 }
set_option maxHeartbeats 4000000 in
set_option maxRecDepth 100000 in
theorem c_X1_takeOverD1 (l : Launch) (dC : Nat → ClassId) (dI : Nat → Nat → Nat) (cI cZ cII : ClassId) (qg qg_sets qg_tried qg_strengths qg_strengths0 qg_strengths1 qg_strengths2 qg_strengths3 qg_strengths4 qt qt_rested qc qc_who qc_pull qb qb_pull qb_strength qb_back qb_moods qb_tides qb_carts : Nat) (sz : Nat) (g_known : Int32) (g_crossings : Int32) (g_sets : Nat → Int32) (g_tried : Nat → Int32) (g_strengths0 : Nat → Int32) (g_strengths1 : Nat → Int32) (g_strengths2 : Nat → Int32) (g_strengths3 : Nat → Int32) (g_strengths4 : Nat → Int32) (t_crew : Int32) (t_minutes : Int32) (t_oats : Int32) (t_waitHours : Int32) (t_waitMinutes : Int32) (t_rested : Nat → Int32) (c_last : Int32) (c_who : Nat → Int32) (c_pull : Nat → Int32) (b_law : Int32) (b_places : Int32) (b_broad : Int32) (b_horses : Int32) (b_blinds : Int32) (b_besides : Int32) (b_tideCount : Int32) (b_cartCount : Int32) (b_due : Int32) (b_pairs : Int64) (b_pull : Nat → Int32) (b_strength : Nat → Int32) (b_back : Nat → Int32) (b_moods : Nat → Int32) (b_tides : Nat → Int32) (b_carts : Nat → Int32) (n2 : Int32) (n3 : Int32) (g_crossings' : Int32) (g_sets' : Nat → Int32) (g_tried' : Nat → Int32) (g_strengths2' : Nat → Int32) (g_strengths3' : Nat → Int32) (g_strengths4' : Nat → Int32) (t_crew' : Int32) (t_minutes' : Int32) (t_oats' : Int32) (hf : f_X1_takeOverD1 n2 n3 g_crossings g_sets g_tried g_strengths1 g_strengths2 g_strengths3 g_strengths4 t_crew t_minutes t_oats c_last c_who c_pull b_law b_broad b_horses b_tideCount b_cartCount b_strength b_back b_tides b_carts = some (g_crossings', g_sets', g_tried', g_strengths2', g_strengths3', g_strengths4', t_crew', t_minutes', t_oats')) : Met l yX1_takeOver (wM yX1_takeOver cX1_takeOver 6 none) rm_X1_takeOverD1 (PreW (dC, dI) (tyA cI cZ cII) (W_X1g_X7t_X2c_X0b cI cZ cII qg qg_sets qg_tried qg_strengths qg_strengths0 qg_strengths1 qg_strengths2 qg_strengths3 qg_strengths4 qt qt_rested qc qc_who qc_pull qb qb_pull qb_strength qb_back qb_moods qb_tides qb_carts g_known g_crossings g_sets g_tried g_strengths0 g_strengths1 g_strengths2 g_strengths3 g_strengths4 t_crew t_minutes t_oats t_waitHours t_waitMinutes t_rested c_last c_who c_pull b_law b_places b_broad b_horses b_blinds b_besides b_tideCount b_cartCount b_due b_pairs b_pull b_strength b_back b_moods b_tides b_carts) sz [.ref qg, .int (1 : Int32), .int n2, .int n3]) (PostV (dC, dI) (tyA cI cZ cII) (W_X1g_X7t_X2c_X0b cI cZ cII qg qg_sets qg_tried qg_strengths qg_strengths0 qg_strengths1 qg_strengths2 qg_strengths3 qg_strengths4 qt qt_rested qc qc_who qc_pull qb qb_pull qb_strength qb_back qb_moods qb_tides qb_carts g_known g_crossings g_sets g_tried g_strengths0 g_strengths1 g_strengths2 g_strengths3 g_strengths4 t_crew t_minutes t_oats t_waitHours t_waitMinutes t_rested c_last c_who c_pull b_law b_places b_broad b_horses b_blinds b_besides b_tideCount b_cartCount b_due b_pairs b_pull b_strength b_back b_moods b_tides b_carts) (W_X1g_X7t_X2c_X0b cI cZ cII qg qg_sets qg_tried qg_strengths qg_strengths0 qg_strengths1 qg_strengths2 qg_strengths3 qg_strengths4 qt qt_rested qc qc_who qc_pull qb qb_pull qb_strength qb_back qb_moods qb_tides qb_carts g_known g_crossings' g_sets' g_tried' g_strengths0 g_strengths1 g_strengths2' g_strengths3' g_strengths4' t_crew' t_minutes' t_oats' t_waitHours t_waitMinutes t_rested c_last c_who c_pull b_law b_places b_broad b_horses b_blinds b_besides b_tideCount b_cartCount b_due b_pairs b_pull b_strength b_back b_moods b_tides b_carts) sz) 0 0 (va_A (W_X1g_X7t_X2c_X0b cI cZ cII qg qg_sets qg_tried qg_strengths qg_strengths0 qg_strengths1 qg_strengths2 qg_strengths3 qg_strengths4 qt qt_rested qc qc_who qc_pull qb qb_pull qb_strength qb_back qb_moods qb_tides qb_carts g_known g_crossings g_sets g_tried g_strengths0 g_strengths1 g_strengths2 g_strengths3 g_strengths4 t_crew t_minutes t_oats t_waitHours t_waitMinutes t_rested c_last c_who c_pull b_law b_places b_broad b_horses b_blinds b_besides b_tideCount b_cartCount b_due b_pairs b_pull b_strength b_back b_moods b_tides b_carts) sz) := by
  refine Met.ofW (cc := cX1_takeOver) (maxL := 6) (ret := none) (by decide) rfl ?_
  intro p e s m args below meth c s₁ B hml hv
  obtain ⟨rfl, hsz, hP, hK, hD0⟩ := hv
  have hx := B.exec
  have hb := B.bytes
  have hr := B.returns
  have hts := atoms_spec (ws := wM yX1_takeOver cX1_takeOver 6 none) B.pre
  have hown : s.vm.findClass RX1 = some m.cls := findClass_of_methodNamed B.named
  have hlocks := B.notSynchronized
  subst hsz
  have hD := hD0.self (sz := s.heap.size)
  obtain ⟨A, hAe⟩ : ∃ A, A = va_A (W_X1g_X7t_X2c_X0b cI cZ cII qg qg_sets qg_tried qg_strengths qg_strengths0 qg_strengths1 qg_strengths2 qg_strengths3 qg_strengths4 qt qt_rested qc qc_who qc_pull qb qb_pull qb_strength qb_back qb_moods qb_tides qb_carts g_known g_crossings g_sets g_tried g_strengths0 g_strengths1 g_strengths2 g_strengths3 g_strengths4 t_crew t_minutes t_oats t_waitHours t_waitMinutes t_rested c_last c_who c_pull b_law b_places b_broad b_horses b_blinds b_besides b_tideCount b_cartCount b_due b_pairs b_pull b_strength b_back b_moods b_tides b_carts) s.heap.size := ⟨_, rfl⟩
  rw [← hAe] at hD
  have hA : ∀ q : Nat, s.heap.size ≤ q → A q := fun q h => by rw [hAe]; exact Or.inr h
  have hS : va_S A s.heap s.heap [] := va_S.rf
  have hl := lv_entry ([.ref qg, .int (1 : Int32), .int n2, .int n3]) (n := 6) (Nat.le_of_ble_eq_true rfl)
  rw [lg_entry_eq]
  generalize (lg_sl ([.ref qg, .int (1 : Int32), .int n2, .int n3]) ++ List.replicate (6 - (lg_sl ([.ref qg, .int (1 : Int32), .int n2, .int n3])).length) Slot.unset).toArray = ls at hl ⊢
  have hl : lv_has ls 6 [(0, .ref qg), (1, .int (1 : Int32)), (2, .int n2), (3, .int n3)] := hl
  generalize ([.ref qg, .int (1 : Int32), .int n2, .int n3] : List Value).toArray = args at hts ⊢
  have hw : ∀ w ∈ wsL_law, w.before args s = true := fun w h => hts w (List.mem_cons_of_mem _ h)
  refine pg_start (fun Q hQ => ?_)
  have RET : ∀ (H : Heap) (locs : List Loc) (ls : Array Slot) (pc : Nat) (x0 : Int32) (x1 : Nat → Int32) (x2 : Nat → Int32) (x3 : Nat → Int32) (x4 : Nat → Int32) (x5 : Nat → Int32) (x6 : Int32) (x7 : Int32) (x8 : Int32) , decode cX1_takeOver pc = .ok (.return_, 1) → va_P (dC, dI) vwCl (W_X1g_X7t_X2c_X0b cI cZ cII qg qg_sets qg_tried qg_strengths qg_strengths0 qg_strengths1 qg_strengths2 qg_strengths3 qg_strengths4 qt qt_rested qc qc_who qc_pull qb qb_pull qb_strength qb_back qb_moods qb_tides qb_carts g_known x0 x1 x2 g_strengths0 g_strengths1 x3 x4 x5 x6 x7 x8 t_waitHours t_waitMinutes t_rested c_last c_who c_pull b_law b_places b_broad b_horses b_blinds b_besides b_tideCount b_cartCount b_due b_pairs b_pull b_strength b_back b_moods b_tides b_carts) H → va_D A (W_X1g_X7t_X2c_X0b cI cZ cII qg qg_sets qg_tried qg_strengths qg_strengths0 qg_strengths1 qg_strengths2 qg_strengths3 qg_strengths4 qt qt_rested qc qc_who qc_pull qb qb_pull qb_strength qb_back qb_moods qb_tides qb_carts g_known x0 x1 x2 g_strengths0 g_strengths1 x3 x4 x5 x6 x7 x8 t_waitHours t_waitMinutes t_rested c_last c_who c_pull b_law b_places b_broad b_horses b_blinds b_besides b_tideCount b_cartCount b_due b_pairs b_pull b_strength b_back b_moods b_tides b_carts) → va_S A s.heap H locs → (some (x0, x1, x2, x3, x4, x5, x6, x7, x8) : Option (Int32 × (Nat → Int32) × (Nat → Int32) × (Nat → Int32) × (Nat → Int32) × (Nat → Int32) × Int32 × Int32 × Int32)) = some (g_crossings', g_sets', g_tried', g_strengths2', g_strengths3', g_strengths4', t_crew', t_minutes', t_oats') → W p l e rm_X1_takeOverD1 s m args below meth c H locs 0 0 Q (F0 m pc ls []) := by
    intro H locs ls pc x0 x1 x2 x3 x4 x5 x6 x7 x8 hd hP hD hS he
    subst hAe; subst hQ
    simp only [Option.some.injEq, Prod.mk.injEq] at he
    obtain ⟨rfl, rfl, rfl, rfl, rfl, rfl, rfl, rfl, rfl⟩ := he
    exact pg_vret hx hb hr hlocks hK hP hD hS hd
  unfold f_X1_takeOverD1 at hf
  refine lv_iload_n hx hb dX1_takeOver_0 rfl (lv_at hl 2 rfl) ?_
  refine lv_if_ne (tgt := 24) hx hb dX1_takeOver_1 (by decide) (fun h9 => ?_) (fun h9 => ?_)
  · have hf := pg_f h9 hf
    refine lv_iconst (v := (1 : Int32)) hx hb dX1_takeOver_24 (by decide) ?_
    refine lv_istore (lv' := [(4, .int (1 : Int32)), (0, .ref qg), (1, .int (1 : Int32)), (2, .int n2), (3, .int n3)]) hx hb dX1_takeOver_25 hl (by decide) rfl (fun ls hl => ?_)
    obtain ⟨K87_1, hK87_1, hf⟩ := jn9_s hf
    have WK87_1 : ∀ (g_crossings_1 : Int32) (g_sets_1 : Nat → Int32) (g_tried_1 : Nat → Int32) (g_strengths2_1 : Nat → Int32) (g_strengths3_1 : Nat → Int32) (g_strengths4_1 : Nat → Int32) (t_crew_1 : Int32) (t_minutes_1 : Int32) (t_oats_1 : Int32) (H : Heap) (locs : List Loc) (ls : Array Slot), va_P (dC, dI) vwCl (W_X1g_X7t_X2c_X0b cI cZ cII qg qg_sets qg_tried qg_strengths qg_strengths0 qg_strengths1 qg_strengths2 qg_strengths3 qg_strengths4 qt qt_rested qc qc_who qc_pull qb qb_pull qb_strength qb_back qb_moods qb_tides qb_carts g_known g_crossings_1 g_sets_1 g_tried_1 g_strengths0 g_strengths1 g_strengths2_1 g_strengths3_1 g_strengths4_1 t_crew_1 t_minutes_1 t_oats_1 t_waitHours t_waitMinutes t_rested c_last c_who c_pull b_law b_places b_broad b_horses b_blinds b_besides b_tideCount b_cartCount b_due b_pairs b_pull b_strength b_back b_moods b_tides b_carts) H → va_D A (W_X1g_X7t_X2c_X0b cI cZ cII qg qg_sets qg_tried qg_strengths qg_strengths0 qg_strengths1 qg_strengths2 qg_strengths3 qg_strengths4 qt qt_rested qc qc_who qc_pull qb qb_pull qb_strength qb_back qb_moods qb_tides qb_carts g_known g_crossings_1 g_sets_1 g_tried_1 g_strengths0 g_strengths1 g_strengths2_1 g_strengths3_1 g_strengths4_1 t_crew_1 t_minutes_1 t_oats_1 t_waitHours t_waitMinutes t_rested c_last c_who c_pull b_law b_places b_broad b_horses b_blinds b_besides b_tideCount b_cartCount b_due b_pairs b_pull b_strength b_back b_moods b_tides b_carts) → va_S A s.heap H locs → lv_has ls 6 [] → K87_1 g_crossings_1 g_sets_1 g_tried_1 g_strengths2_1 g_strengths3_1 g_strengths4_1 t_crew_1 t_minutes_1 t_oats_1 = some (g_crossings', g_sets', g_tried', g_strengths2', g_strengths3', g_strengths4', t_crew', t_minutes', t_oats') → W p l e rm_X1_takeOverD1 s m args below meth c H locs 0 0 Q (F0 m 87 ls []) := by
      intro g_crossings_1 g_sets_1 g_tried_1 g_strengths2_1 g_strengths3_1 g_strengths4_1 t_crew_1 t_minutes_1 t_oats_1 H locs ls hP hD hS hl hf
      have hf := hK87_1 _ _ _ _ _ _ _ _ _ hf
      exact RET _ _ _ _ _ _ _ _ _ _ _ _ _ dX1_takeOver_87 hP hD hS hf
    obtain ⟨B2, hB2, hf⟩ := lq10_n hf
    have WL2 : ∀ (n9 : Nat) (y4_2 : Int32) (g_crossings_2 : Int32) (g_sets_2 : Nat → Int32) (g_tried_2 : Nat → Int32) (g_strengths2_2 : Nat → Int32) (g_strengths3_2 : Nat → Int32) (g_strengths4_2 : Nat → Int32) (t_crew_2 : Int32) (t_minutes_2 : Int32) (t_oats_2 : Int32) (H : Heap) (locs : List Loc) (ls : Array Slot), va_P (dC, dI) vwCl (W_X1g_X7t_X2c_X0b cI cZ cII qg qg_sets qg_tried qg_strengths qg_strengths0 qg_strengths1 qg_strengths2 qg_strengths3 qg_strengths4 qt qt_rested qc qc_who qc_pull qb qb_pull qb_strength qb_back qb_moods qb_tides qb_carts g_known g_crossings_2 g_sets_2 g_tried_2 g_strengths0 g_strengths1 g_strengths2_2 g_strengths3_2 g_strengths4_2 t_crew_2 t_minutes_2 t_oats_2 t_waitHours t_waitMinutes t_rested c_last c_who c_pull b_law b_places b_broad b_horses b_blinds b_besides b_tideCount b_cartCount b_due b_pairs b_pull b_strength b_back b_moods b_tides b_carts) H → va_D A (W_X1g_X7t_X2c_X0b cI cZ cII qg qg_sets qg_tried qg_strengths qg_strengths0 qg_strengths1 qg_strengths2 qg_strengths3 qg_strengths4 qt qt_rested qc qc_who qc_pull qb qb_pull qb_strength qb_back qb_moods qb_tides qb_carts g_known g_crossings_2 g_sets_2 g_tried_2 g_strengths0 g_strengths1 g_strengths2_2 g_strengths3_2 g_strengths4_2 t_crew_2 t_minutes_2 t_oats_2 t_waitHours t_waitMinutes t_rested c_last c_who c_pull b_law b_places b_broad b_horses b_blinds b_besides b_tideCount b_cartCount b_due b_pairs b_pull b_strength b_back b_moods b_tides b_carts) → va_S A s.heap H locs → lv_has ls 6 [(0, .ref qg), (1, .int (1 : Int32)), (2, .int n2), (3, .int n3), (4, .int y4_2)] → lq10 B2 n9 y4_2 g_crossings_2 g_sets_2 g_tried_2 g_strengths2_2 g_strengths3_2 g_strengths4_2 t_crew_2 t_minutes_2 t_oats_2 = some (g_crossings', g_sets', g_tried', g_strengths2', g_strengths3', g_strengths4', t_crew', t_minutes', t_oats') → W p l e rm_X1_takeOverD1 s m args below meth c H locs 0 0 Q (F0 m 27 ls []) := by
      intro n9
      induction n9 with
      | zero => intro y4_2 g_crossings_2 g_sets_2 g_tried_2 g_strengths2_2 g_strengths3_2 g_strengths4_2 t_crew_2 t_minutes_2 t_oats_2 H locs ls hP hD hS hl hf; cases hf
      | succ n9 ih =>
        intro y4_2 g_crossings_2 g_sets_2 g_tried_2 g_strengths2_2 g_strengths3_2 g_strengths4_2 t_crew_2 t_minutes_2 t_oats_2 H locs ls hP hD hS hl hf
        obtain ⟨rec2, hrec2, hf⟩ := lq10_s hf
        have hf := hB2 rec2 _ _ _ _ _ _ _ _ _ _ hf
        refine lv_iload hx hb dX1_takeOver_27 (lv_at hl 4 rfl) ?_
        refine lv_iload_n hx hb dX1_takeOver_29 rfl (lv_at hl 2 rfl) ?_
        refine lv_icmp_gt (tgt := 87) hx hb dX1_takeOver_30 (by decide) (fun h9 => ?_) (fun h9 => ?_)
        · have hf := pg_t h9 hf
          exact WK87_1 _ _ _ _ _ _ _ _ _ _ _ _ hP hD hS (lv_sub hl [] rfl) hf
        · have hf := pg_f h9 hf
          refine lv_aload_n hx hb dX1_takeOver_33 rfl (lv_at hl 0 rfl) ?_
          refine va_get (D := (dC, dI)) (ci := 1) (v := .int g_crossings_2) (C := RX1) (T := TX1) (N := 8) hx hb hw inlX1 hown hK hP 0 rfl rfl 1 (by decide) (hw _ mw_40_13) (fun _ h9 => h9) rfl dX1_takeOver_34 ?_
          refine lv_iconst (v := (-1 : Int32)) hx hb dX1_takeOver_37 (by decide) ?_
          obtain ⟨J56_3, hJ56_3, hf⟩ := jn1_s hf
          have WJ56_3 : ∀ (z0_3 : Int32) (H : Heap) (locs : List Loc) (ls : Array Slot), va_P (dC, dI) vwCl (W_X1g_X7t_X2c_X0b cI cZ cII qg qg_sets qg_tried qg_strengths qg_strengths0 qg_strengths1 qg_strengths2 qg_strengths3 qg_strengths4 qt qt_rested qc qc_who qc_pull qb qb_pull qb_strength qb_back qb_moods qb_tides qb_carts g_known g_crossings_2 g_sets_2 g_tried_2 g_strengths0 g_strengths1 g_strengths2_2 g_strengths3_2 g_strengths4_2 t_crew_2 t_minutes_2 t_oats_2 t_waitHours t_waitMinutes t_rested c_last c_who c_pull b_law b_places b_broad b_horses b_blinds b_besides b_tideCount b_cartCount b_due b_pairs b_pull b_strength b_back b_moods b_tides b_carts) H → va_D A (W_X1g_X7t_X2c_X0b cI cZ cII qg qg_sets qg_tried qg_strengths qg_strengths0 qg_strengths1 qg_strengths2 qg_strengths3 qg_strengths4 qt qt_rested qc qc_who qc_pull qb qb_pull qb_strength qb_back qb_moods qb_tides qb_carts g_known g_crossings_2 g_sets_2 g_tried_2 g_strengths0 g_strengths1 g_strengths2_2 g_strengths3_2 g_strengths4_2 t_crew_2 t_minutes_2 t_oats_2 t_waitHours t_waitMinutes t_rested c_last c_who c_pull b_law b_places b_broad b_horses b_blinds b_besides b_tideCount b_cartCount b_due b_pairs b_pull b_strength b_back b_moods b_tides b_carts) → va_S A s.heap H locs → lv_has ls 6 [(0, .ref qg), (1, .int (1 : Int32)), (2, .int n2), (3, .int n3), (4, .int y4_2)] → J56_3 z0_3 = some (g_crossings', g_sets', g_tried', g_strengths2', g_strengths3', g_strengths4', t_crew', t_minutes', t_oats') → W p l e rm_X1_takeOverD1 s m args below meth c H locs 0 0 Q (F0 m 56 ls [.int z0_3]) := by
            intro z0_3 H locs ls hP hD hS hl hf
            have hf := hJ56_3 _ hf
            refine lv_istore (lv' := [(5, .int z0_3), (0, .ref qg), (1, .int (1 : Int32)), (2, .int n2), (3, .int n3), (4, .int y4_2)]) hx hb dX1_takeOver_56 hl (by decide) rfl (fun ls hl => ?_)
            refine lv_iload hx hb dX1_takeOver_58 (lv_at hl 0 rfl) ?_
            obtain ⟨J81_4, hJ81_4, hf⟩ := jn9_s hf
            have WJ81_4 : ∀ (g_crossings_4 : Int32) (g_sets_4 : Nat → Int32) (g_tried_4 : Nat → Int32) (g_strengths2_4 : Nat → Int32) (g_strengths3_4 : Nat → Int32) (g_strengths4_4 : Nat → Int32) (t_crew_4 : Int32) (t_minutes_4 : Int32) (t_oats_4 : Int32) (H : Heap) (locs : List Loc) (ls : Array Slot), va_P (dC, dI) vwCl (W_X1g_X7t_X2c_X0b cI cZ cII qg qg_sets qg_tried qg_strengths qg_strengths0 qg_strengths1 qg_strengths2 qg_strengths3 qg_strengths4 qt qt_rested qc qc_who qc_pull qb qb_pull qb_strength qb_back qb_moods qb_tides qb_carts g_known g_crossings_4 g_sets_4 g_tried_4 g_strengths0 g_strengths1 g_strengths2_4 g_strengths3_4 g_strengths4_4 t_crew_4 t_minutes_4 t_oats_4 t_waitHours t_waitMinutes t_rested c_last c_who c_pull b_law b_places b_broad b_horses b_blinds b_besides b_tideCount b_cartCount b_due b_pairs b_pull b_strength b_back b_moods b_tides b_carts) H → va_D A (W_X1g_X7t_X2c_X0b cI cZ cII qg qg_sets qg_tried qg_strengths qg_strengths0 qg_strengths1 qg_strengths2 qg_strengths3 qg_strengths4 qt qt_rested qc qc_who qc_pull qb qb_pull qb_strength qb_back qb_moods qb_tides qb_carts g_known g_crossings_4 g_sets_4 g_tried_4 g_strengths0 g_strengths1 g_strengths2_4 g_strengths3_4 g_strengths4_4 t_crew_4 t_minutes_4 t_oats_4 t_waitHours t_waitMinutes t_rested c_last c_who c_pull b_law b_places b_broad b_horses b_blinds b_besides b_tideCount b_cartCount b_due b_pairs b_pull b_strength b_back b_moods b_tides b_carts) → va_S A s.heap H locs → lv_has ls 6 [(0, .ref qg), (1, .int (1 : Int32)), (2, .int n2), (3, .int n3), (4, .int y4_2)] → J81_4 g_crossings_4 g_sets_4 g_tried_4 g_strengths2_4 g_strengths3_4 g_strengths4_4 t_crew_4 t_minutes_4 t_oats_4 = some (g_crossings', g_sets', g_tried', g_strengths2', g_strengths3', g_strengths4', t_crew', t_minutes', t_oats') → W p l e rm_X1_takeOverD1 s m args below meth c H locs 0 0 Q (F0 m 81 ls []) := by
              intro g_crossings_4 g_sets_4 g_tried_4 g_strengths2_4 g_strengths3_4 g_strengths4_4 t_crew_4 t_minutes_4 t_oats_4 H locs ls hP hD hS hl hf
              have hf := hJ81_4 _ _ _ _ _ _ _ _ _ hf
              refine lv_iinc (v := (y4_2 + (1 : Int32))) (lv' := [(4, .int (y4_2 + (1 : Int32))), (0, .ref qg), (1, .int (1 : Int32)), (2, .int n2), (3, .int n3)]) hx hb dX1_takeOver_81 hl (k := 4) rfl rfl (by decide) rfl (fun ls hl => ?_)
              refine lv_goto (tgt := 27) hx hb dX1_takeOver_84 (by decide) ?_
              exact ih _ _ _ _ _ _ _ _ _ _ _ _ _ hP hD hS (lv_sub hl [1, 2, 3, 4, 0] rfl) (hrec2 _ _ _ _ _ _ _ _ _ _ hf)
            refine lv_if_eq (tgt := 81) hx hb dX1_takeOver_60 (by decide) (fun h9 => ?_) (fun h9 => ?_)
            · have hf := pg_t h9 hf
              exact WJ81_4 _ _ _ _ _ _ _ _ _ _ _ _ hP hD hS (lv_sub hl [1, 2, 3, 4, 5] rfl) hf
            · have hf := pg_f h9 hf
              refine lv_iload hx hb dX1_takeOver_63 (lv_at hl 5 rfl) ?_
              refine lv_iload_n hx hb dX1_takeOver_65 rfl (lv_at hl 3 rfl) ?_
              refine lv_iand hx hb dX1_takeOver_66 ?_
              refine lv_iload hx hb dX1_takeOver_67 (lv_at hl 5 rfl) ?_
              refine lv_icmp_ne (tgt := 81) hx hb dX1_takeOver_69 (by decide) (fun h9 => ?_) (fun h9 => ?_)
              · have hf := pg_f h9 hf
                exact WJ81_4 _ _ _ _ _ _ _ _ _ _ _ _ hP hD hS (lv_sub hl [1, 2, 3, 4, 5] rfl) hf
              · have hf := pg_t h9 hf
                refine lv_aload_n hx hb dX1_takeOver_72 rfl (lv_at hl 1 rfl) ?_
                refine lv_iload_n hx hb dX1_takeOver_73 rfl (lv_at hl 2 rfl) ?_
                refine lv_iload hx hb dX1_takeOver_74 (lv_at hl 5 rfl) ?_
                refine lv_iload_n hx hb dX1_takeOver_76 rfl (lv_at hl 3 rfl) ?_
                refine lv_iload_n hx hb dX1_takeOver_77 rfl (lv_at hl 4 rfl) ?_
                obtain ⟨g_crossings_5, g_sets_5, g_tried_5, g_strengths2_5, g_strengths3_5, g_strengths4_5, t_crew_5, t_minutes_5, t_oats_5, hc, hf⟩ := bn9_s hf
                refine pg_cVv (As := [.int (1 : Int32), .int y4_2, .int n2, .int n3]) (rest := []) (wf := (W_X1g_X7t_X2c_X0b cI cZ cII qg qg_sets qg_tried qg_strengths qg_strengths0 qg_strengths1 qg_strengths2 qg_strengths3 qg_strengths4 qt qt_rested qc qc_who qc_pull qb qb_pull qb_strength qb_back qb_moods qb_tides qb_carts g_known g_crossings_5 g_sets_5 g_tried_5 g_strengths0 g_strengths1 g_strengths2_5 g_strengths3_5 g_strengths4_5 t_crew_5 t_minutes_5 t_oats_5 t_waitHours t_waitMinutes t_rested c_last c_who c_pull b_law b_places b_broad b_horses b_blinds b_besides b_tideCount b_cartCount b_due b_pairs b_pull b_strength b_back b_moods b_tides b_carts)) ⟨hx, hb, hml, hown, hw⟩ (c_X1_takeSetD1 l dC dI cI cZ cII qg qg_sets qg_tried qg_strengths qg_strengths0 qg_strengths1 qg_strengths2 qg_strengths3 qg_strengths4 qt qt_rested qc qc_who qc_pull qb qb_pull qb_strength qb_back qb_moods qb_tides qb_carts H.size g_known g_crossings_2 g_sets_2 g_tried_2 g_strengths0 g_strengths1 g_strengths2_2 g_strengths3_2 g_strengths4_2 t_crew_2 t_minutes_2 t_oats_2 t_waitHours t_waitMinutes t_rested c_last c_who c_pull b_law b_places b_broad b_horses b_blinds b_besides b_tideCount b_cartCount b_due b_pairs b_pull b_strength b_back b_moods b_tides b_carts y4_2 n2 n3 g_crossings_5 g_sets_5 g_tried_5 g_strengths2_5 g_strengths3_5 g_strengths4_5 t_crew_5 t_minutes_5 t_oats_5 hc) (cwV 4 hts (wM_V mw_40_20 mw_40_21 mw_40_22 mw_2_18 mw_40_23) rfl rfl rfl dk_X1_takeSet ⟨Nat.le_of_ble_eq_true rfl, Nat.le_of_ble_eq_true rfl⟩) hK hP hD hS hA 1 0 rfl rfl rfl [0, 1, 2, 3, 4, 5, 6, 7, 8, 9, 10, 11, 12, 13, 14, 15, 16, 17, 18, 19, 20] [] [0, 1, 2, 3, 4, 5, 6, 7, 8, 9, 10, 11, 12, 13, 14, 15, 16, 17, 18, 19, 20] rfl rfl rfl (by decide) rfl hl.1 rfl (Nat.le_of_ble_eq_true rfl) dX1_takeOver_78 ⟨Nat.zero_le _, Nat.zero_le _⟩ (fun H locs hP hD hS => ?_)
                exact WJ81_4 _ _ _ _ _ _ _ _ _ _ _ _ hP hD hS (lv_sub hl [1, 2, 3, 4, 5] rfl) hf
          obtain ⟨J51_6, hJ51_6, hf⟩ := jn1_s hf
          have WJ51_6 : ∀ (u_6 : Unit) (H : Heap) (locs : List Loc) (ls : Array Slot), va_P (dC, dI) vwCl (W_X1g_X7t_X2c_X0b cI cZ cII qg qg_sets qg_tried qg_strengths qg_strengths0 qg_strengths1 qg_strengths2 qg_strengths3 qg_strengths4 qt qt_rested qc qc_who qc_pull qb qb_pull qb_strength qb_back qb_moods qb_tides qb_carts g_known g_crossings_2 g_sets_2 g_tried_2 g_strengths0 g_strengths1 g_strengths2_2 g_strengths3_2 g_strengths4_2 t_crew_2 t_minutes_2 t_oats_2 t_waitHours t_waitMinutes t_rested c_last c_who c_pull b_law b_places b_broad b_horses b_blinds b_besides b_tideCount b_cartCount b_due b_pairs b_pull b_strength b_back b_moods b_tides b_carts) H → va_D A (W_X1g_X7t_X2c_X0b cI cZ cII qg qg_sets qg_tried qg_strengths qg_strengths0 qg_strengths1 qg_strengths2 qg_strengths3 qg_strengths4 qt qt_rested qc qc_who qc_pull qb qb_pull qb_strength qb_back qb_moods qb_tides qb_carts g_known g_crossings_2 g_sets_2 g_tried_2 g_strengths0 g_strengths1 g_strengths2_2 g_strengths3_2 g_strengths4_2 t_crew_2 t_minutes_2 t_oats_2 t_waitHours t_waitMinutes t_rested c_last c_who c_pull b_law b_places b_broad b_horses b_blinds b_besides b_tideCount b_cartCount b_due b_pairs b_pull b_strength b_back b_moods b_tides b_carts) → va_S A s.heap H locs → lv_has ls 6 [(0, .ref qg), (1, .int (1 : Int32)), (2, .int n2), (3, .int n3), (4, .int y4_2)] → J51_6 u_6 = some (g_crossings', g_sets', g_tried', g_strengths2', g_strengths3', g_strengths4', t_crew', t_minutes', t_oats') → W p l e rm_X1_takeOverD1 s m args below meth c H locs 0 0 Q (F0 m 51 ls []) := by
            intro u_6 H locs ls hP hD hS hl hf
            have hf := hJ51_6 _ hf
            refine lv_iconst (v := (1 : Int32)) hx hb dX1_takeOver_51 (by decide) ?_
            refine lv_goto (tgt := 56) hx hb dX1_takeOver_52 (by decide) ?_
            exact WJ56_3 _ _ _ _ hP hD hS hl hf
          refine lv_icmp_eq (tgt := 51) hx hb dX1_takeOver_38 (by decide) (fun h9 => ?_) (fun h9 => ?_)
          · have hf := pg_t h9 hf
            exact WJ51_6 _ _ _ _ hP hD hS hl hf
          · have hf := pg_f h9 hf
            refine lv_iload_n hx hb dX1_takeOver_41 rfl (lv_at hl 1 rfl) ?_
            refine lv_iconst (v := (1 : Int32)) hx hb dX1_takeOver_42 (by decide) ?_
            refine lv_iadd hx hb dX1_takeOver_43 ?_
            refine lv_topi (fun y9 ey9 => ?_)
            obtain rfl : y9 = (2 : Int32) := ey9.trans (by decide)
            refine lv_aload_n hx hb dX1_takeOver_44 rfl (lv_at hl 0 rfl) ?_
            refine va_get (D := (dC, dI)) (ci := 1) (v := .int g_crossings_2) (C := RX1) (T := TX1) (N := 8) hx hb hw inlX1 hown hK hP 0 rfl rfl 1 (by decide) (hw _ mw_40_13) (fun _ h9 => h9) rfl dX1_takeOver_45 ?_
            refine lv_icmp_ge (tgt := 55) hx hb dX1_takeOver_48 (by decide) (fun h9 => ?_) (fun h9 => ?_)
            · have hf := pg_t h9 hf
              refine lv_iconst (v := (0 : Int32)) hx hb dX1_takeOver_55 (by decide) ?_
              exact WJ56_3 _ _ _ _ hP hD hS hl hf
            · have hf := pg_f h9 hf
              exact WJ51_6 _ _ _ _ hP hD hS hl hf
    exact WL2 fu _ _ _ _ _ _ _ _ _ _ _ _ _ hP hD hS (lv_sub hl [1, 2, 3, 4, 0] rfl) hf
  · have hf := pg_t h9 hf
    refine lv_aload_n hx hb dX1_takeOver_4 rfl (lv_at hl 0 rfl) ?_
    refine lv_iload_n hx hb dX1_takeOver_5 rfl (lv_at hl 1 rfl) ?_
    refine va_put (D := (dC, dI)) (ci := 1) (v := .int (1 : Int32)) (ty := .int) (C := RX1) (T := TX1) (N := 8) hx hb hw inlX1 tyX1 tyX1_ok nmX1 hown hK hP hD hS 0 rfl rfl 1 (by decide) (hw _ mw_40_13) (fun _ h9 => h9) rfl (by decide +kernel) rfl rfl (Nat.le_of_ble_eq_true rfl) dX1_takeOver_6 (fun H locs hP hD hS => ?_)
    have hP : va_P (dC, dI) vwCl (W_X1g_X7t_X2c_X0b cI cZ cII qg qg_sets qg_tried qg_strengths qg_strengths0 qg_strengths1 qg_strengths2 qg_strengths3 qg_strengths4 qt qt_rested qc qc_who qc_pull qb qb_pull qb_strength qb_back qb_moods qb_tides qb_carts g_known (1 : Int32) g_sets g_tried g_strengths0 g_strengths1 g_strengths2 g_strengths3 g_strengths4 t_crew t_minutes t_oats t_waitHours t_waitMinutes t_rested c_last c_who c_pull b_law b_places b_broad b_horses b_blinds b_besides b_tideCount b_cartCount b_due b_pairs b_pull b_strength b_back b_moods b_tides b_carts) H := hP
    have hD : va_D A (W_X1g_X7t_X2c_X0b cI cZ cII qg qg_sets qg_tried qg_strengths qg_strengths0 qg_strengths1 qg_strengths2 qg_strengths3 qg_strengths4 qt qt_rested qc qc_who qc_pull qb qb_pull qb_strength qb_back qb_moods qb_tides qb_carts g_known (1 : Int32) g_sets g_tried g_strengths0 g_strengths1 g_strengths2 g_strengths3 g_strengths4 t_crew t_minutes t_oats t_waitHours t_waitMinutes t_rested c_last c_who c_pull b_law b_places b_broad b_horses b_blinds b_besides b_tideCount b_cartCount b_due b_pairs b_pull b_strength b_back b_moods b_tides b_carts) := hD
    refine lv_aload_n hx hb dX1_takeOver_9 rfl (lv_at hl 0 rfl) ?_
    refine va_get (D := (dC, dI)) (ci := 1) (v := .ref qg_tried) (C := RX1) (T := TX1) (N := 8) hx hb hw inlX1 hown hK hP 0 rfl rfl 6 (by decide) (hw _ mw_5_4) (fun _ h9 => h9) rfl dX1_takeOver_10 ?_
    refine lv_iconst (v := (0 : Int32)) hx hb dX1_takeOver_13 (by decide) ?_
    refine lv_aload_n hx hb dX1_takeOver_14 rfl (lv_at hl 0 rfl) ?_
    refine va_get (D := (dC, dI)) (ci := 1) (v := .ref qg_sets) (C := RX1) (T := TX1) (N := 8) hx hb hw inlX1 hown hK hP 0 rfl rfl 5 (by decide) (hw _ mw_5_3) (fun _ h9 => h9) rfl dX1_takeOver_15 ?_
    refine lv_iconst (v := (0 : Int32)) hx hb dX1_takeOver_18 (by decide) ?_
    refine lv_iconst (v := (4 : Int32)) hx hb dX1_takeOver_19 (by decide) ?_
    refine va_copyi hx hb (hml.trans hl.1.symm) hown (hw _ mw_40_14) (hw _ mw_18_17) (hw _ mw_18_18) (hw _ mw_18_19) hK hP hD hS 2 1 0 0 (ty := .int) rfl rfl rfl rfl rfl (by decide) (by decide) (by decide) (by decide) (by decide) (fun _ _ => rfl) (Nat.le_of_ble_eq_true rfl) (by decide +kernel) dX1_takeOver_20 (fun H locs hP hD hS => ?_)
    have hP : va_P (dC, dI) vwCl (W_X1g_X7t_X2c_X0b cI cZ cII qg qg_sets qg_tried qg_strengths qg_strengths0 qg_strengths1 qg_strengths2 qg_strengths3 qg_strengths4 qt qt_rested qc qc_who qc_pull qb qb_pull qb_strength qb_back qb_moods qb_tides qb_carts g_known (1 : Int32) (va_cpy g_tried g_sets 0 0 4) g_tried g_strengths0 g_strengths1 g_strengths2 g_strengths3 g_strengths4 t_crew t_minutes t_oats t_waitHours t_waitMinutes t_rested c_last c_who c_pull b_law b_places b_broad b_horses b_blinds b_besides b_tideCount b_cartCount b_due b_pairs b_pull b_strength b_back b_moods b_tides b_carts) H := hP
    have hD : va_D A (W_X1g_X7t_X2c_X0b cI cZ cII qg qg_sets qg_tried qg_strengths qg_strengths0 qg_strengths1 qg_strengths2 qg_strengths3 qg_strengths4 qt qt_rested qc qc_who qc_pull qb qb_pull qb_strength qb_back qb_moods qb_tides qb_carts g_known (1 : Int32) (va_cpy g_tried g_sets 0 0 4) g_tried g_strengths0 g_strengths1 g_strengths2 g_strengths3 g_strengths4 t_crew t_minutes t_oats t_waitHours t_waitMinutes t_rested c_last c_who c_pull b_law b_places b_broad b_horses b_blinds b_besides b_tideCount b_cartCount b_due b_pairs b_pull b_strength b_back b_moods b_tides b_carts) := hD
    exact RET _ _ _ _ _ _ _ _ _ _ _ _ _ dX1_takeOver_23 hP hD hS hf
def f_X1_takeSetD0 (n2 : Int32) (n3 : Int32) (n4 : Int32) (g_crossings : Int32) (g_sets : Nat → Int32) (g_tried : Nat → Int32) (g_strengths0 : Nat → Int32) (g_strengths1 : Nat → Int32) (g_strengths2 : Nat → Int32) (g_strengths3 : Nat → Int32) (g_strengths4 : Nat → Int32) (t_crew : Int32) (t_minutes : Int32) (t_oats : Int32) (c_last : Int32) (c_who : Nat → Int32) (c_pull : Nat → Int32) (b_law : Int32) (b_broad : Int32) (b_horses : Int32) (b_tideCount : Int32) (b_cartCount : Int32) (b_strength : Nat → Int32) (b_back : Nat → Int32) (b_tides : Nat → Int32) (b_carts : Nat → Int32) : Option (Int32 × (Nat → Int32) × (Nat → Int32) × (Nat → Int32) × (Nat → Int32) × (Nat → Int32) × (Nat → Int32) × Int32 × Int32 × Int32) :=
  bn1 (f_X0_tideOf n4 b_tideCount b_tides) (fun (r_1 : Int32) =>
    bn1 (f_X1_weight n2 b_cartCount b_carts) (fun (r_2 : Int32) =>
      bn4 (f_X7_findSoonest (r_1 - r_2) (-1 : Int32) t_crew t_minutes t_oats c_last c_who c_pull b_law b_broad g_strengths0) (fun (r_3 : Int32) (t_crew_3 : Int32) (t_minutes_3 : Int32) (t_oats_3 : Int32) =>
        if r_3 = 0 then
          some (g_crossings, g_sets, g_tried, g_strengths1, g_strengths2, g_strengths3, g_strengths4, t_crew_3, t_minutes_3, t_oats_3)
        else
          bn1 (f_X2_tire t_crew_3 t_minutes_3 c_who b_horses b_strength b_back g_strengths0 g_strengths1) (fun (g_strengths1_4 : Nat → Int32) =>
            bn9 (f_X1_takeOverD1 (n3 - n2) (n4 + (1 : Int32)) g_crossings g_sets (upd g_tried ((0 : Int32)).toNatClampNeg n2) g_strengths1_4 g_strengths2 g_strengths3 g_strengths4 t_crew_3 t_minutes_3 t_oats_3 c_last c_who c_pull b_law b_broad b_horses b_tideCount b_cartCount b_strength b_back b_tides b_carts) (fun (g_crossings_5 : Int32) (g_sets_5 : Nat → Int32) (g_tried_5 : Nat → Int32) (g_strengths2_5 : Nat → Int32) (g_strengths3_5 : Nat → Int32) (g_strengths4_5 : Nat → Int32) (t_crew_5 : Int32) (t_minutes_5 : Int32) (t_oats_5 : Int32) =>
              some (g_crossings_5, g_sets_5, g_tried_5, g_strengths1_4, g_strengths2_5, g_strengths3_5, g_strengths4_5, t_crew_5, t_minutes_5, t_oats_5)
            )
          )
      )
    )
  )
abbrev rm_X1_takeSetD0 : Room := { frames := 10, cells := 0, slots := 0, locals := 277 }
set_option maxHeartbeats 4000000 in
set_option maxRecDepth 100000 in
theorem c_X1_takeSetD0 (l : Launch) (dC : Nat → ClassId) (dI : Nat → Nat → Nat) (cI cZ cII : ClassId) (qg qg_sets qg_tried qg_strengths qg_strengths0 qg_strengths1 qg_strengths2 qg_strengths3 qg_strengths4 qt qt_rested qc qc_who qc_pull qb qb_pull qb_strength qb_back qb_moods qb_tides qb_carts : Nat) (sz : Nat) (g_known : Int32) (g_crossings : Int32) (g_sets : Nat → Int32) (g_tried : Nat → Int32) (g_strengths0 : Nat → Int32) (g_strengths1 : Nat → Int32) (g_strengths2 : Nat → Int32) (g_strengths3 : Nat → Int32) (g_strengths4 : Nat → Int32) (t_crew : Int32) (t_minutes : Int32) (t_oats : Int32) (t_waitHours : Int32) (t_waitMinutes : Int32) (t_rested : Nat → Int32) (c_last : Int32) (c_who : Nat → Int32) (c_pull : Nat → Int32) (b_law : Int32) (b_places : Int32) (b_broad : Int32) (b_horses : Int32) (b_blinds : Int32) (b_besides : Int32) (b_tideCount : Int32) (b_cartCount : Int32) (b_due : Int32) (b_pairs : Int64) (b_pull : Nat → Int32) (b_strength : Nat → Int32) (b_back : Nat → Int32) (b_moods : Nat → Int32) (b_tides : Nat → Int32) (b_carts : Nat → Int32) (n2 : Int32) (n3 : Int32) (n4 : Int32) (g_crossings' : Int32) (g_sets' : Nat → Int32) (g_tried' : Nat → Int32) (g_strengths1' : Nat → Int32) (g_strengths2' : Nat → Int32) (g_strengths3' : Nat → Int32) (g_strengths4' : Nat → Int32) (t_crew' : Int32) (t_minutes' : Int32) (t_oats' : Int32) (hf : f_X1_takeSetD0 n2 n3 n4 g_crossings g_sets g_tried g_strengths0 g_strengths1 g_strengths2 g_strengths3 g_strengths4 t_crew t_minutes t_oats c_last c_who c_pull b_law b_broad b_horses b_tideCount b_cartCount b_strength b_back b_tides b_carts = some (g_crossings', g_sets', g_tried', g_strengths1', g_strengths2', g_strengths3', g_strengths4', t_crew', t_minutes', t_oats')) : Met l yX1_takeSet (wM yX1_takeSet cX1_takeSet 6 none) rm_X1_takeSetD0 (PreW (dC, dI) (tyA cI cZ cII) (W_X1g_X7t_X2c_X0b cI cZ cII qg qg_sets qg_tried qg_strengths qg_strengths0 qg_strengths1 qg_strengths2 qg_strengths3 qg_strengths4 qt qt_rested qc qc_who qc_pull qb qb_pull qb_strength qb_back qb_moods qb_tides qb_carts g_known g_crossings g_sets g_tried g_strengths0 g_strengths1 g_strengths2 g_strengths3 g_strengths4 t_crew t_minutes t_oats t_waitHours t_waitMinutes t_rested c_last c_who c_pull b_law b_places b_broad b_horses b_blinds b_besides b_tideCount b_cartCount b_due b_pairs b_pull b_strength b_back b_moods b_tides b_carts) sz [.ref qg, .int (0 : Int32), .int n2, .int n3, .int n4]) (PostV (dC, dI) (tyA cI cZ cII) (W_X1g_X7t_X2c_X0b cI cZ cII qg qg_sets qg_tried qg_strengths qg_strengths0 qg_strengths1 qg_strengths2 qg_strengths3 qg_strengths4 qt qt_rested qc qc_who qc_pull qb qb_pull qb_strength qb_back qb_moods qb_tides qb_carts g_known g_crossings g_sets g_tried g_strengths0 g_strengths1 g_strengths2 g_strengths3 g_strengths4 t_crew t_minutes t_oats t_waitHours t_waitMinutes t_rested c_last c_who c_pull b_law b_places b_broad b_horses b_blinds b_besides b_tideCount b_cartCount b_due b_pairs b_pull b_strength b_back b_moods b_tides b_carts) (W_X1g_X7t_X2c_X0b cI cZ cII qg qg_sets qg_tried qg_strengths qg_strengths0 qg_strengths1 qg_strengths2 qg_strengths3 qg_strengths4 qt qt_rested qc qc_who qc_pull qb qb_pull qb_strength qb_back qb_moods qb_tides qb_carts g_known g_crossings' g_sets' g_tried' g_strengths0 g_strengths1' g_strengths2' g_strengths3' g_strengths4' t_crew' t_minutes' t_oats' t_waitHours t_waitMinutes t_rested c_last c_who c_pull b_law b_places b_broad b_horses b_blinds b_besides b_tideCount b_cartCount b_due b_pairs b_pull b_strength b_back b_moods b_tides b_carts) sz) 0 0 (va_A (W_X1g_X7t_X2c_X0b cI cZ cII qg qg_sets qg_tried qg_strengths qg_strengths0 qg_strengths1 qg_strengths2 qg_strengths3 qg_strengths4 qt qt_rested qc qc_who qc_pull qb qb_pull qb_strength qb_back qb_moods qb_tides qb_carts g_known g_crossings g_sets g_tried g_strengths0 g_strengths1 g_strengths2 g_strengths3 g_strengths4 t_crew t_minutes t_oats t_waitHours t_waitMinutes t_rested c_last c_who c_pull b_law b_places b_broad b_horses b_blinds b_besides b_tideCount b_cartCount b_due b_pairs b_pull b_strength b_back b_moods b_tides b_carts) sz) := by
  refine Met.ofW (cc := cX1_takeSet) (maxL := 6) (ret := none) (by decide) rfl ?_
  intro p e s m args below meth c s₁ B hml hv
  obtain ⟨rfl, hsz, hP, hK, hD0⟩ := hv
  have hx := B.exec
  have hb := B.bytes
  have hr := B.returns
  have hts := atoms_spec (ws := wM yX1_takeSet cX1_takeSet 6 none) B.pre
  have hown : s.vm.findClass RX1 = some m.cls := findClass_of_methodNamed B.named
  have hlocks := B.notSynchronized
  subst hsz
  have hD := hD0.self (sz := s.heap.size)
  obtain ⟨A, hAe⟩ : ∃ A, A = va_A (W_X1g_X7t_X2c_X0b cI cZ cII qg qg_sets qg_tried qg_strengths qg_strengths0 qg_strengths1 qg_strengths2 qg_strengths3 qg_strengths4 qt qt_rested qc qc_who qc_pull qb qb_pull qb_strength qb_back qb_moods qb_tides qb_carts g_known g_crossings g_sets g_tried g_strengths0 g_strengths1 g_strengths2 g_strengths3 g_strengths4 t_crew t_minutes t_oats t_waitHours t_waitMinutes t_rested c_last c_who c_pull b_law b_places b_broad b_horses b_blinds b_besides b_tideCount b_cartCount b_due b_pairs b_pull b_strength b_back b_moods b_tides b_carts) s.heap.size := ⟨_, rfl⟩
  rw [← hAe] at hD
  have hA : ∀ q : Nat, s.heap.size ≤ q → A q := fun q h => by rw [hAe]; exact Or.inr h
  have hS : va_S A s.heap s.heap [] := va_S.rf
  have hl := lv_entry ([.ref qg, .int (0 : Int32), .int n2, .int n3, .int n4]) (n := 6) (Nat.le_of_ble_eq_true rfl)
  rw [lg_entry_eq]
  generalize (lg_sl ([.ref qg, .int (0 : Int32), .int n2, .int n3, .int n4]) ++ List.replicate (6 - (lg_sl ([.ref qg, .int (0 : Int32), .int n2, .int n3, .int n4])).length) Slot.unset).toArray = ls at hl ⊢
  have hl : lv_has ls 6 [(0, .ref qg), (1, .int (0 : Int32)), (2, .int n2), (3, .int n3), (4, .int n4)] := hl
  generalize ([.ref qg, .int (0 : Int32), .int n2, .int n3, .int n4] : List Value).toArray = args at hts ⊢
  have hw : ∀ w ∈ wsL_law, w.before args s = true := fun w h => hts w (List.mem_cons_of_mem _ h)
  refine pg_start (fun Q hQ => ?_)
  have RET : ∀ (H : Heap) (locs : List Loc) (ls : Array Slot) (pc : Nat) (x0 : Int32) (x1 : Nat → Int32) (x2 : Nat → Int32) (x3 : Nat → Int32) (x4 : Nat → Int32) (x5 : Nat → Int32) (x6 : Nat → Int32) (x7 : Int32) (x8 : Int32) (x9 : Int32) , decode cX1_takeSet pc = .ok (.return_, 1) → va_P (dC, dI) vwCl (W_X1g_X7t_X2c_X0b cI cZ cII qg qg_sets qg_tried qg_strengths qg_strengths0 qg_strengths1 qg_strengths2 qg_strengths3 qg_strengths4 qt qt_rested qc qc_who qc_pull qb qb_pull qb_strength qb_back qb_moods qb_tides qb_carts g_known x0 x1 x2 g_strengths0 x3 x4 x5 x6 x7 x8 x9 t_waitHours t_waitMinutes t_rested c_last c_who c_pull b_law b_places b_broad b_horses b_blinds b_besides b_tideCount b_cartCount b_due b_pairs b_pull b_strength b_back b_moods b_tides b_carts) H → va_D A (W_X1g_X7t_X2c_X0b cI cZ cII qg qg_sets qg_tried qg_strengths qg_strengths0 qg_strengths1 qg_strengths2 qg_strengths3 qg_strengths4 qt qt_rested qc qc_who qc_pull qb qb_pull qb_strength qb_back qb_moods qb_tides qb_carts g_known x0 x1 x2 g_strengths0 x3 x4 x5 x6 x7 x8 x9 t_waitHours t_waitMinutes t_rested c_last c_who c_pull b_law b_places b_broad b_horses b_blinds b_besides b_tideCount b_cartCount b_due b_pairs b_pull b_strength b_back b_moods b_tides b_carts) → va_S A s.heap H locs → (some (x0, x1, x2, x3, x4, x5, x6, x7, x8, x9) : Option (Int32 × (Nat → Int32) × (Nat → Int32) × (Nat → Int32) × (Nat → Int32) × (Nat → Int32) × (Nat → Int32) × Int32 × Int32 × Int32)) = some (g_crossings', g_sets', g_tried', g_strengths1', g_strengths2', g_strengths3', g_strengths4', t_crew', t_minutes', t_oats') → W p l e rm_X1_takeSetD0 s m args below meth c H locs 0 0 Q (F0 m pc ls []) := by
    intro H locs ls pc x0 x1 x2 x3 x4 x5 x6 x7 x8 x9 hd hP hD hS he
    subst hAe; subst hQ
    simp only [Option.some.injEq, Prod.mk.injEq] at he
    obtain ⟨rfl, rfl, rfl, rfl, rfl, rfl, rfl, rfl, rfl, rfl⟩ := he
    exact pg_vret hx hb hr hlocks hK hP hD hS hd
  unfold f_X1_takeSetD0 at hf
  refine lv_iload_n hx hb dX1_takeSet_0 rfl (lv_at hl 1 rfl) ?_
  refine lv_if_lt (tgt := 9) hx hb dX1_takeSet_1 (by decide) (fun h9 => absurd h9 (by decide)) (fun h9 => ?_)
  refine lv_iload_n hx hb dX1_takeSet_4 rfl (lv_at hl 1 rfl) ?_
  refine lv_iconst (v := (4 : Int32)) hx hb dX1_takeSet_5 (by decide) ?_
  refine lv_icmp_lt (tgt := 10) hx hb dX1_takeSet_6 (by decide) (fun h9 => ?_) (fun h9 => absurd h9 (by decide))
  refine lv_aload_n hx hb dX1_takeSet_10 rfl (lv_at hl 0 rfl) ?_
  refine va_get (D := (dC, dI)) (ci := 1) (v := .ref qb) (C := RX1) (T := TX1) (N := 8) hx hb hw inlX1 hown hK hP 0 rfl rfl 2 (by decide) (hw _ mw_5_7) (fun _ h9 => h9) rfl dX1_takeSet_11 ?_
  refine lv_iload hx hb dX1_takeSet_14 (lv_at hl 4 rfl) ?_
  obtain ⟨r_1, hc, hf⟩ := bn1_s hf
  refine pg_cVi (As := [.int n4]) (rest := []) (wf := (W_X1g_X7t_X2c_X0b cI cZ cII qg qg_sets qg_tried qg_strengths qg_strengths0 qg_strengths1 qg_strengths2 qg_strengths3 qg_strengths4 qt qt_rested qc qc_who qc_pull qb qb_pull qb_strength qb_back qb_moods qb_tides qb_carts g_known g_crossings g_sets g_tried g_strengths0 g_strengths1 g_strengths2 g_strengths3 g_strengths4 t_crew t_minutes t_oats t_waitHours t_waitMinutes t_rested c_last c_who c_pull b_law b_places b_broad b_horses b_blinds b_besides b_tideCount b_cartCount b_due b_pairs b_pull b_strength b_back b_moods b_tides b_carts)) ⟨hx, hb, hml, hown, hw⟩ (c_X0_tideOf l dC dI cI cZ cII qb qb_pull qb_strength qb_back qb_moods qb_tides qb_carts s.heap.size b_law b_places b_broad b_horses b_blinds b_besides b_tideCount b_cartCount b_due b_pairs b_pull b_strength b_back b_moods b_tides b_carts n4 r_1 hc) (cwV 1 hts (wM_V mw_41_2 mw_23_12 mw_23_13 mw_1_15 mw_23_14) rfl rfl rfl dk_X0_tideOf ⟨Nat.le_of_ble_eq_true rfl, Nat.le_of_ble_eq_true rfl⟩) hK hP hD hS hA 0 0 rfl rfl rfl [14, 15, 16, 17, 18, 19, 20] [0, 1, 2, 3, 4, 5, 6, 7, 8, 9, 10, 11, 12, 13] [0, 1, 2, 3, 4, 5, 6, 7, 8, 9, 10, 11, 12, 13, 14, 15, 16, 17, 18, 19, 20] rfl rfl rfl (by decide) rfl hl.1 rfl (Nat.le_of_ble_eq_true rfl) dX1_takeSet_16 ⟨Nat.zero_le _, Nat.zero_le _⟩ (fun H locs hP hD hS => ?_)
  refine lv_aload_n hx hb dX1_takeSet_19 rfl (lv_at hl 0 rfl) ?_
  refine lv_iload_n hx hb dX1_takeSet_20 rfl (lv_at hl 2 rfl) ?_
  obtain ⟨r_2, hc, hf⟩ := bn1_s hf
  refine pg_cVi (As := [.int n2]) (rest := [.int r_1]) (wf := (W_X1g_X7t_X2c_X0b cI cZ cII qg qg_sets qg_tried qg_strengths qg_strengths0 qg_strengths1 qg_strengths2 qg_strengths3 qg_strengths4 qt qt_rested qc qc_who qc_pull qb qb_pull qb_strength qb_back qb_moods qb_tides qb_carts g_known g_crossings g_sets g_tried g_strengths0 g_strengths1 g_strengths2 g_strengths3 g_strengths4 t_crew t_minutes t_oats t_waitHours t_waitMinutes t_rested c_last c_who c_pull b_law b_places b_broad b_horses b_blinds b_besides b_tideCount b_cartCount b_due b_pairs b_pull b_strength b_back b_moods b_tides b_carts)) ⟨hx, hb, hml, hown, hw⟩ (c_X1_weight l dC dI cI cZ cII qg qg_sets qg_tried qg_strengths qg_strengths0 qg_strengths1 qg_strengths2 qg_strengths3 qg_strengths4 qt qt_rested qc qc_who qc_pull qb qb_pull qb_strength qb_back qb_moods qb_tides qb_carts H.size g_known g_crossings g_sets g_tried g_strengths0 g_strengths1 g_strengths2 g_strengths3 g_strengths4 t_crew t_minutes t_oats t_waitHours t_waitMinutes t_rested c_last c_who c_pull b_law b_places b_broad b_horses b_blinds b_besides b_tideCount b_cartCount b_due b_pairs b_pull b_strength b_back b_moods b_tides b_carts n2 r_2 hc) (cwV 1 hts (wM_V mw_41_3 mw_41_4 mw_41_5 mw_2_18 mw_41_6) rfl rfl rfl dk_X1_weight ⟨Nat.le_of_ble_eq_true rfl, Nat.le_of_ble_eq_true rfl⟩) hK hP hD hS hA 1 0 rfl rfl rfl [0, 1, 2, 3, 4, 5, 6, 7, 8, 9, 10, 11, 12, 13, 14, 15, 16, 17, 18, 19, 20] [] [0, 1, 2, 3, 4, 5, 6, 7, 8, 9, 10, 11, 12, 13, 14, 15, 16, 17, 18, 19, 20] rfl rfl rfl (by decide) rfl hl.1 rfl (Nat.le_of_ble_eq_true rfl) dX1_takeSet_21 ⟨Nat.zero_le _, Nat.zero_le _⟩ (fun H locs hP hD hS => ?_)
  refine lv_isub hx hb dX1_takeSet_24 ?_
  refine lv_istore (lv' := [(5, .int (r_1 - r_2)), (0, .ref qg), (1, .int (0 : Int32)), (2, .int n2), (3, .int n3), (4, .int n4)]) hx hb dX1_takeSet_25 hl (by decide) rfl (fun ls hl => ?_)
  refine lv_aload_n hx hb dX1_takeSet_27 rfl (lv_at hl 1 rfl) ?_
  refine va_get (D := (dC, dI)) (ci := 1) (v := .ref qt) (C := RX1) (T := TX1) (N := 8) hx hb hw inlX1 hown hK hP 0 rfl rfl 4 (by decide) (hw _ mw_5_9) (fun _ h9 => h9) rfl dX1_takeSet_28 ?_
  refine lv_aload_n hx hb dX1_takeSet_31 rfl (lv_at hl 1 rfl) ?_
  refine va_get (D := (dC, dI)) (ci := 1) (v := .ref qg_strengths) (C := RX1) (T := TX1) (N := 8) hx hb hw inlX1 hown hK hP 0 rfl rfl 7 (by decide) (hw _ mw_5_6) (fun _ h9 => h9) rfl dX1_takeSet_32 ?_
  refine lv_iload_n hx hb dX1_takeSet_35 rfl (lv_at hl 2 rfl) ?_
  refine va_ald2 hx hb hK hP 3 2 rfl rfl (pg_lit (by decide)) dX1_takeSet_36 ?_
  refine W.eq (g2 := F0 m 37 ls [.ref qg_strengths0, .ref qt]) rfl ?_
  refine lv_iload hx hb dX1_takeSet_37 (lv_at hl 0 rfl) ?_
  refine lv_iconst (v := (-1 : Int32)) hx hb dX1_takeSet_39 (by decide) ?_
  obtain ⟨r_3, t_crew_3, t_minutes_3, t_oats_3, hc, hf⟩ := bn4_s hf
  refine pg_cVi (As := [.ref qg_strengths0, .int (r_1 - r_2), .int (-1 : Int32)]) (rest := []) (wf := (W_X1g_X7t_X2c_X0b cI cZ cII qg qg_sets qg_tried qg_strengths qg_strengths0 qg_strengths1 qg_strengths2 qg_strengths3 qg_strengths4 qt qt_rested qc qc_who qc_pull qb qb_pull qb_strength qb_back qb_moods qb_tides qb_carts g_known g_crossings g_sets g_tried g_strengths0 g_strengths1 g_strengths2 g_strengths3 g_strengths4 t_crew_3 t_minutes_3 t_oats_3 t_waitHours t_waitMinutes t_rested c_last c_who c_pull b_law b_places b_broad b_horses b_blinds b_besides b_tideCount b_cartCount b_due b_pairs b_pull b_strength b_back b_moods b_tides b_carts)) ⟨hx, hb, hml, hown, hw⟩ (c_X7_findSoonest l dC dI cI cZ cII qt qt_rested qc qc_who qc_pull qb qb_pull qb_strength qb_back qb_moods qb_tides qb_carts qg_strengths0 H.size t_crew t_minutes t_oats t_waitHours t_waitMinutes t_rested c_last c_who c_pull b_law b_places b_broad b_horses b_blinds b_besides b_tideCount b_cartCount b_due b_pairs b_pull b_strength b_back b_moods b_tides b_carts g_strengths0 (r_1 - r_2) (-1 : Int32) r_3 t_crew_3 t_minutes_3 t_oats_3 hc) (cwV 3 hts (wM_V mw_41_8 mw_34_15 mw_34_16 mw_2_10 mw_34_17) rfl rfl rfl dk_X7_findSoonest ⟨Nat.le_of_ble_eq_true rfl, Nat.le_of_ble_eq_true rfl⟩) hK hP hD hS hA 7 0 rfl rfl rfl [9, 10, 11, 12, 13, 14, 15, 16, 17, 18, 19, 20, 4] [0, 1, 2, 3, 5, 6, 7, 8] [0, 1, 2, 3, 20, 4, 5, 6, 7, 8, 9, 10, 11, 12, 13, 14, 15, 16, 17, 18, 19] rfl rfl rfl (by decide) rfl hl.1 rfl (Nat.le_of_ble_eq_true rfl) dX1_takeSet_40 ⟨Nat.zero_le _, Nat.zero_le _⟩ (fun H locs hP hD hS => ?_)
  refine lv_if_eq (tgt := 102) hx hb dX1_takeSet_43 (by decide) (fun h9 => ?_) (fun h9 => ?_)
  · have hf := pg_t h9 hf
    exact RET _ _ _ _ _ _ _ _ _ _ _ _ _ _ dX1_takeSet_102 hP hD hS hf
  · have hf := pg_f h9 hf
    refine lv_aload_n hx hb dX1_takeSet_46 rfl (lv_at hl 1 rfl) ?_
    refine va_get (D := (dC, dI)) (ci := 1) (v := .ref qc) (C := RX1) (T := TX1) (N := 8) hx hb hw inlX1 hown hK hP 0 rfl rfl 3 (by decide) (hw _ mw_5_8) (fun _ h9 => h9) rfl dX1_takeSet_47 ?_
    refine lv_aload_n hx hb dX1_takeSet_50 rfl (lv_at hl 1 rfl) ?_
    refine va_get (D := (dC, dI)) (ci := 1) (v := .ref qt) (C := RX1) (T := TX1) (N := 8) hx hb hw inlX1 hown hK hP 0 rfl rfl 4 (by decide) (hw _ mw_5_9) (fun _ h9 => h9) rfl dX1_takeSet_51 ?_
    refine va_get (D := (dC, dI)) (ci := 7) (v := .int t_crew_3) (C := RX7) (T := TX7) (N := 8) hx hb hw inlX7 hown hK hP 9 rfl rfl 0 (by decide) (hw _ mw_41_0) (fun _ h9 => h9) rfl dX1_takeSet_54 ?_
    refine lv_aload_n hx hb dX1_takeSet_57 rfl (lv_at hl 1 rfl) ?_
    refine va_get (D := (dC, dI)) (ci := 1) (v := .ref qt) (C := RX1) (T := TX1) (N := 8) hx hb hw inlX1 hown hK hP 0 rfl rfl 4 (by decide) (hw _ mw_5_9) (fun _ h9 => h9) rfl dX1_takeSet_58 ?_
    refine va_get (D := (dC, dI)) (ci := 7) (v := .int t_minutes_3) (C := RX7) (T := TX7) (N := 8) hx hb hw inlX7 hown hK hP 9 rfl rfl 1 (by decide) (hw _ mw_41_1) (fun _ h9 => h9) rfl dX1_takeSet_61 ?_
    refine lv_aload_n hx hb dX1_takeSet_64 rfl (lv_at hl 1 rfl) ?_
    refine va_get (D := (dC, dI)) (ci := 1) (v := .ref qg_strengths) (C := RX1) (T := TX1) (N := 8) hx hb hw inlX1 hown hK hP 0 rfl rfl 7 (by decide) (hw _ mw_5_6) (fun _ h9 => h9) rfl dX1_takeSet_65 ?_
    refine lv_iload_n hx hb dX1_takeSet_68 rfl (lv_at hl 2 rfl) ?_
    refine va_ald2 hx hb hK hP 3 2 rfl rfl (pg_lit (by decide)) dX1_takeSet_69 ?_
    refine W.eq (g2 := F0 m 70 ls [.ref qg_strengths0, .int t_minutes_3, .int t_crew_3, .ref qc]) rfl ?_
    refine lv_aload_n hx hb dX1_takeSet_70 rfl (lv_at hl 1 rfl) ?_
    refine va_get (D := (dC, dI)) (ci := 1) (v := .ref qg_strengths) (C := RX1) (T := TX1) (N := 8) hx hb hw inlX1 hown hK hP 0 rfl rfl 7 (by decide) (hw _ mw_5_6) (fun _ h9 => h9) rfl dX1_takeSet_71 ?_
    refine lv_iload_n hx hb dX1_takeSet_74 rfl (lv_at hl 2 rfl) ?_
    refine lv_iconst (v := (1 : Int32)) hx hb dX1_takeSet_75 (by decide) ?_
    refine lv_iadd hx hb dX1_takeSet_76 ?_
    refine lv_topi (fun y9 ey9 => ?_)
    obtain rfl : y9 = (1 : Int32) := ey9.trans (by decide)
    refine va_ald2 hx hb hK hP 3 2 rfl rfl (pg_lit (by decide)) dX1_takeSet_77 ?_
    refine W.eq (g2 := F0 m 78 ls [.ref qg_strengths1, .ref qg_strengths0, .int t_minutes_3, .int t_crew_3, .ref qc]) rfl ?_
    obtain ⟨g_strengths1_4, hc, hf⟩ := bn1_s hf
    refine pg_cVv (As := [.int t_crew_3, .int t_minutes_3, .ref qg_strengths0, .ref qg_strengths1]) (rest := []) (wf := (W_X1g_X7t_X2c_X0b cI cZ cII qg qg_sets qg_tried qg_strengths qg_strengths0 qg_strengths1 qg_strengths2 qg_strengths3 qg_strengths4 qt qt_rested qc qc_who qc_pull qb qb_pull qb_strength qb_back qb_moods qb_tides qb_carts g_known g_crossings g_sets g_tried g_strengths0 g_strengths1_4 g_strengths2 g_strengths3 g_strengths4 t_crew_3 t_minutes_3 t_oats_3 t_waitHours t_waitMinutes t_rested c_last c_who c_pull b_law b_places b_broad b_horses b_blinds b_besides b_tideCount b_cartCount b_due b_pairs b_pull b_strength b_back b_moods b_tides b_carts)) ⟨hx, hb, hml, hown, hw⟩ (c_X2_tire l dC dI cI cZ cII qc qc_who qc_pull qb qb_pull qb_strength qb_back qb_moods qb_tides qb_carts qg_strengths0 qg_strengths1 H.size c_last c_who c_pull b_law b_places b_broad b_horses b_blinds b_besides b_tideCount b_cartCount b_due b_pairs b_pull b_strength b_back b_moods b_tides b_carts g_strengths0 g_strengths1 t_crew_3 t_minutes_3 g_strengths1_4 hc) (cwV 4 hts (wM_V mw_41_9 mw_29_21 mw_29_22 mw_2_0 mw_29_23) rfl rfl rfl dk_X2_tire ⟨Nat.le_of_ble_eq_true rfl, Nat.le_of_ble_eq_true rfl⟩) hK hP hD hS hA 2 0 rfl rfl rfl [11, 12, 13, 14, 15, 16, 17, 18, 19, 20, 4, 5] [0, 1, 2, 3, 6, 7, 8, 9, 10] [0, 1, 2, 3, 19, 20, 4, 5, 6, 7, 8, 9, 10, 11, 12, 13, 14, 15, 16, 17, 18] rfl rfl rfl (by decide) rfl hl.1 rfl (Nat.le_of_ble_eq_true rfl) dX1_takeSet_78 ⟨Nat.zero_le _, Nat.zero_le _⟩ (fun H locs hP hD hS => ?_)
    refine lv_aload_n hx hb dX1_takeSet_81 rfl (lv_at hl 1 rfl) ?_
    refine va_get (D := (dC, dI)) (ci := 1) (v := .ref qg_tried) (C := RX1) (T := TX1) (N := 8) hx hb hw inlX1 hown hK hP 0 rfl rfl 6 (by decide) (hw _ mw_5_4) (fun _ h9 => h9) rfl dX1_takeSet_82 ?_
    refine lv_iload_n hx hb dX1_takeSet_85 rfl (lv_at hl 2 rfl) ?_
    refine lv_iload_n hx hb dX1_takeSet_86 rfl (lv_at hl 3 rfl) ?_
    refine va_iast hx hb hK hP hD hS 2 0 rfl rfl (pg_lit (by decide)) dX1_takeSet_87 (fun H locs hP hD hS => ?_)
    have hP : va_P (dC, dI) vwCl (W_X1g_X7t_X2c_X0b cI cZ cII qg qg_sets qg_tried qg_strengths qg_strengths0 qg_strengths1 qg_strengths2 qg_strengths3 qg_strengths4 qt qt_rested qc qc_who qc_pull qb qb_pull qb_strength qb_back qb_moods qb_tides qb_carts g_known g_crossings g_sets (upd g_tried ((0 : Int32)).toNatClampNeg n2) g_strengths0 g_strengths1_4 g_strengths2 g_strengths3 g_strengths4 t_crew_3 t_minutes_3 t_oats_3 t_waitHours t_waitMinutes t_rested c_last c_who c_pull b_law b_places b_broad b_horses b_blinds b_besides b_tideCount b_cartCount b_due b_pairs b_pull b_strength b_back b_moods b_tides b_carts) H := hP
    have hD : va_D A (W_X1g_X7t_X2c_X0b cI cZ cII qg qg_sets qg_tried qg_strengths qg_strengths0 qg_strengths1 qg_strengths2 qg_strengths3 qg_strengths4 qt qt_rested qc qc_who qc_pull qb qb_pull qb_strength qb_back qb_moods qb_tides qb_carts g_known g_crossings g_sets (upd g_tried ((0 : Int32)).toNatClampNeg n2) g_strengths0 g_strengths1_4 g_strengths2 g_strengths3 g_strengths4 t_crew_3 t_minutes_3 t_oats_3 t_waitHours t_waitMinutes t_rested c_last c_who c_pull b_law b_places b_broad b_horses b_blinds b_besides b_tideCount b_cartCount b_due b_pairs b_pull b_strength b_back b_moods b_tides b_carts) := hD
    refine lv_aload_n hx hb dX1_takeSet_88 rfl (lv_at hl 1 rfl) ?_
    refine lv_iload_n hx hb dX1_takeSet_89 rfl (lv_at hl 2 rfl) ?_
    refine lv_iconst (v := (1 : Int32)) hx hb dX1_takeSet_90 (by decide) ?_
    refine lv_iadd hx hb dX1_takeSet_91 ?_
    refine lv_topi (fun y9 ey9 => ?_)
    obtain rfl : y9 = (1 : Int32) := ey9.trans (by decide)
    refine lv_iload_n hx hb dX1_takeSet_92 rfl (lv_at hl 4 rfl) ?_
    refine lv_iload_n hx hb dX1_takeSet_93 rfl (lv_at hl 3 rfl) ?_
    refine lv_isub hx hb dX1_takeSet_94 ?_
    refine lv_iload hx hb dX1_takeSet_95 (lv_at hl 5 rfl) ?_
    refine lv_iconst (v := (1 : Int32)) hx hb dX1_takeSet_97 (by decide) ?_
    refine lv_iadd hx hb dX1_takeSet_98 ?_
    obtain ⟨g_crossings_5, g_sets_5, g_tried_5, g_strengths2_5, g_strengths3_5, g_strengths4_5, t_crew_5, t_minutes_5, t_oats_5, hc, hf⟩ := bn9_s hf
    refine pg_cVv (As := [.int (1 : Int32), .int (n3 - n2), .int (n4 + (1 : Int32))]) (rest := []) (wf := (W_X1g_X7t_X2c_X0b cI cZ cII qg qg_sets qg_tried qg_strengths qg_strengths0 qg_strengths1 qg_strengths2 qg_strengths3 qg_strengths4 qt qt_rested qc qc_who qc_pull qb qb_pull qb_strength qb_back qb_moods qb_tides qb_carts g_known g_crossings_5 g_sets_5 g_tried_5 g_strengths0 g_strengths1_4 g_strengths2_5 g_strengths3_5 g_strengths4_5 t_crew_5 t_minutes_5 t_oats_5 t_waitHours t_waitMinutes t_rested c_last c_who c_pull b_law b_places b_broad b_horses b_blinds b_besides b_tideCount b_cartCount b_due b_pairs b_pull b_strength b_back b_moods b_tides b_carts)) ⟨hx, hb, hml, hown, hw⟩ (c_X1_takeOverD1 l dC dI cI cZ cII qg qg_sets qg_tried qg_strengths qg_strengths0 qg_strengths1 qg_strengths2 qg_strengths3 qg_strengths4 qt qt_rested qc qc_who qc_pull qb qb_pull qb_strength qb_back qb_moods qb_tides qb_carts H.size g_known g_crossings g_sets (upd g_tried ((0 : Int32)).toNatClampNeg n2) g_strengths0 g_strengths1_4 g_strengths2 g_strengths3 g_strengths4 t_crew_3 t_minutes_3 t_oats_3 t_waitHours t_waitMinutes t_rested c_last c_who c_pull b_law b_places b_broad b_horses b_blinds b_besides b_tideCount b_cartCount b_due b_pairs b_pull b_strength b_back b_moods b_tides b_carts (n3 - n2) (n4 + (1 : Int32)) g_crossings_5 g_sets_5 g_tried_5 g_strengths2_5 g_strengths3_5 g_strengths4_5 t_crew_5 t_minutes_5 t_oats_5 hc) (cwV 3 hts (wM_V mw_40_16 mw_40_17 mw_40_18 mw_2_18 mw_40_19) rfl rfl rfl dk_X1_takeOver ⟨Nat.le_of_ble_eq_true rfl, Nat.le_of_ble_eq_true rfl⟩) hK hP hD hS hA 1 0 rfl rfl rfl [0, 1, 2, 3, 4, 5, 6, 7, 8, 9, 10, 11, 12, 13, 14, 15, 16, 17, 18, 19, 20] [] [0, 1, 2, 3, 4, 5, 6, 7, 8, 9, 10, 11, 12, 13, 14, 15, 16, 17, 18, 19, 20] rfl rfl rfl (by decide) rfl hl.1 rfl (Nat.le_of_ble_eq_true rfl) dX1_takeSet_99 ⟨Nat.zero_le _, Nat.zero_le _⟩ (fun H locs hP hD hS => ?_)
    exact RET _ _ _ _ _ _ _ _ _ _ _ _ _ _ dX1_takeSet_102 hP hD hS hf
def f_X1_takeOverD0 (n2 : Int32) (n3 : Int32) (g_crossings : Int32) (g_sets : Nat → Int32) (g_tried : Nat → Int32) (g_strengths0 : Nat → Int32) (g_strengths1 : Nat → Int32) (g_strengths2 : Nat → Int32) (g_strengths3 : Nat → Int32) (g_strengths4 : Nat → Int32) (t_crew : Int32) (t_minutes : Int32) (t_oats : Int32) (c_last : Int32) (c_who : Nat → Int32) (c_pull : Nat → Int32) (b_law : Int32) (b_broad : Int32) (b_horses : Int32) (b_tideCount : Int32) (b_cartCount : Int32) (b_strength : Nat → Int32) (b_back : Nat → Int32) (b_tides : Nat → Int32) (b_carts : Nat → Int32) : Option (Int32 × (Nat → Int32) × (Nat → Int32) × (Nat → Int32) × (Nat → Int32) × (Nat → Int32) × (Nat → Int32) × Int32 × Int32 × Int32) :=
  if n2 = 0 then
    some ((0 : Int32), (va_cpy g_tried g_sets 0 0 4), g_tried, g_strengths1, g_strengths2, g_strengths3, g_strengths4, t_crew, t_minutes, t_oats)
  else
    jn10 (fun (g_crossings_1 : Int32) (g_sets_1 : Nat → Int32) (g_tried_1 : Nat → Int32) (g_strengths1_1 : Nat → Int32) (g_strengths2_1 : Nat → Int32) (g_strengths3_1 : Nat → Int32) (g_strengths4_1 : Nat → Int32) (t_crew_1 : Int32) (t_minutes_1 : Int32) (t_oats_1 : Int32) =>
      some (g_crossings_1, g_sets_1, g_tried_1, g_strengths1_1, g_strengths2_1, g_strengths3_1, g_strengths4_1, t_crew_1, t_minutes_1, t_oats_1)
    ) (fun K87_1 =>
    lq11 (fun rec2 (y4_2 : Int32) (g_crossings_2 : Int32) (g_sets_2 : Nat → Int32) (g_tried_2 : Nat → Int32) (g_strengths1_2 : Nat → Int32) (g_strengths2_2 : Nat → Int32) (g_strengths3_2 : Nat → Int32) (g_strengths4_2 : Nat → Int32) (t_crew_2 : Int32) (t_minutes_2 : Int32) (t_oats_2 : Int32) =>
      if n2 < y4_2 then
        K87_1 g_crossings_2 g_sets_2 g_tried_2 g_strengths1_2 g_strengths2_2 g_strengths3_2 g_strengths4_2 t_crew_2 t_minutes_2 t_oats_2
      else
        jn1 (fun (z0_3 : Int32) =>
          jn10 (fun (g_crossings_4 : Int32) (g_sets_4 : Nat → Int32) (g_tried_4 : Nat → Int32) (g_strengths1_4 : Nat → Int32) (g_strengths2_4 : Nat → Int32) (g_strengths3_4 : Nat → Int32) (g_strengths4_4 : Nat → Int32) (t_crew_4 : Int32) (t_minutes_4 : Int32) (t_oats_4 : Int32) =>
            rec2 (y4_2 + (1 : Int32)) g_crossings_4 g_sets_4 g_tried_4 g_strengths1_4 g_strengths2_4 g_strengths3_4 g_strengths4_4 t_crew_4 t_minutes_4 t_oats_4
          ) (fun J81_4 =>
          if z0_3 = 0 then
            J81_4 g_crossings_2 g_sets_2 g_tried_2 g_strengths1_2 g_strengths2_2 g_strengths3_2 g_strengths4_2 t_crew_2 t_minutes_2 t_oats_2
          else
            if (y4_2 &&& n2) = y4_2 then
              bn10 (f_X1_takeSetD0 y4_2 n2 n3 g_crossings_2 g_sets_2 g_tried_2 g_strengths0 g_strengths1_2 g_strengths2_2 g_strengths3_2 g_strengths4_2 t_crew_2 t_minutes_2 t_oats_2 c_last c_who c_pull b_law b_broad b_horses b_tideCount b_cartCount b_strength b_back b_tides b_carts) (fun (g_crossings_5 : Int32) (g_sets_5 : Nat → Int32) (g_tried_5 : Nat → Int32) (g_strengths1_5 : Nat → Int32) (g_strengths2_5 : Nat → Int32) (g_strengths3_5 : Nat → Int32) (g_strengths4_5 : Nat → Int32) (t_crew_5 : Int32) (t_minutes_5 : Int32) (t_oats_5 : Int32) =>
                J81_4 g_crossings_5 g_sets_5 g_tried_5 g_strengths1_5 g_strengths2_5 g_strengths3_5 g_strengths4_5 t_crew_5 t_minutes_5 t_oats_5
              )
            else
              J81_4 g_crossings_2 g_sets_2 g_tried_2 g_strengths1_2 g_strengths2_2 g_strengths3_2 g_strengths4_2 t_crew_2 t_minutes_2 t_oats_2
          )
        ) (fun J56_3 =>
        jn1 (fun (u_6 : Unit) =>
          J56_3 (1 : Int32)
        ) (fun J51_6 =>
        if g_crossings_2 = (-1 : Int32) then
          J51_6 ()
        else
          if g_crossings_2 ≤ (1 : Int32) then
            J56_3 (0 : Int32)
          else
            J51_6 ()
        )
        )
    ) fu (1 : Int32) g_crossings g_sets g_tried g_strengths1 g_strengths2 g_strengths3 g_strengths4 t_crew t_minutes t_oats
    )
abbrev rm_X1_takeOverD0 : Room := { frames := 11, cells := 0, slots := 0, locals := 302 }
set_option maxHeartbeats 4000000 in
set_option maxRecDepth 100000 in
theorem c_X1_takeOverD0 (l : Launch) (dC : Nat → ClassId) (dI : Nat → Nat → Nat) (cI cZ cII : ClassId) (qg qg_sets qg_tried qg_strengths qg_strengths0 qg_strengths1 qg_strengths2 qg_strengths3 qg_strengths4 qt qt_rested qc qc_who qc_pull qb qb_pull qb_strength qb_back qb_moods qb_tides qb_carts : Nat) (sz : Nat) (g_known : Int32) (g_crossings : Int32) (g_sets : Nat → Int32) (g_tried : Nat → Int32) (g_strengths0 : Nat → Int32) (g_strengths1 : Nat → Int32) (g_strengths2 : Nat → Int32) (g_strengths3 : Nat → Int32) (g_strengths4 : Nat → Int32) (t_crew : Int32) (t_minutes : Int32) (t_oats : Int32) (t_waitHours : Int32) (t_waitMinutes : Int32) (t_rested : Nat → Int32) (c_last : Int32) (c_who : Nat → Int32) (c_pull : Nat → Int32) (b_law : Int32) (b_places : Int32) (b_broad : Int32) (b_horses : Int32) (b_blinds : Int32) (b_besides : Int32) (b_tideCount : Int32) (b_cartCount : Int32) (b_due : Int32) (b_pairs : Int64) (b_pull : Nat → Int32) (b_strength : Nat → Int32) (b_back : Nat → Int32) (b_moods : Nat → Int32) (b_tides : Nat → Int32) (b_carts : Nat → Int32) (n2 : Int32) (n3 : Int32) (g_crossings' : Int32) (g_sets' : Nat → Int32) (g_tried' : Nat → Int32) (g_strengths1' : Nat → Int32) (g_strengths2' : Nat → Int32) (g_strengths3' : Nat → Int32) (g_strengths4' : Nat → Int32) (t_crew' : Int32) (t_minutes' : Int32) (t_oats' : Int32) (hf : f_X1_takeOverD0 n2 n3 g_crossings g_sets g_tried g_strengths0 g_strengths1 g_strengths2 g_strengths3 g_strengths4 t_crew t_minutes t_oats c_last c_who c_pull b_law b_broad b_horses b_tideCount b_cartCount b_strength b_back b_tides b_carts = some (g_crossings', g_sets', g_tried', g_strengths1', g_strengths2', g_strengths3', g_strengths4', t_crew', t_minutes', t_oats')) : Met l yX1_takeOver (wM yX1_takeOver cX1_takeOver 6 none) rm_X1_takeOverD0 (PreW (dC, dI) (tyA cI cZ cII) (W_X1g_X7t_X2c_X0b cI cZ cII qg qg_sets qg_tried qg_strengths qg_strengths0 qg_strengths1 qg_strengths2 qg_strengths3 qg_strengths4 qt qt_rested qc qc_who qc_pull qb qb_pull qb_strength qb_back qb_moods qb_tides qb_carts g_known g_crossings g_sets g_tried g_strengths0 g_strengths1 g_strengths2 g_strengths3 g_strengths4 t_crew t_minutes t_oats t_waitHours t_waitMinutes t_rested c_last c_who c_pull b_law b_places b_broad b_horses b_blinds b_besides b_tideCount b_cartCount b_due b_pairs b_pull b_strength b_back b_moods b_tides b_carts) sz [.ref qg, .int (0 : Int32), .int n2, .int n3]) (PostV (dC, dI) (tyA cI cZ cII) (W_X1g_X7t_X2c_X0b cI cZ cII qg qg_sets qg_tried qg_strengths qg_strengths0 qg_strengths1 qg_strengths2 qg_strengths3 qg_strengths4 qt qt_rested qc qc_who qc_pull qb qb_pull qb_strength qb_back qb_moods qb_tides qb_carts g_known g_crossings g_sets g_tried g_strengths0 g_strengths1 g_strengths2 g_strengths3 g_strengths4 t_crew t_minutes t_oats t_waitHours t_waitMinutes t_rested c_last c_who c_pull b_law b_places b_broad b_horses b_blinds b_besides b_tideCount b_cartCount b_due b_pairs b_pull b_strength b_back b_moods b_tides b_carts) (W_X1g_X7t_X2c_X0b cI cZ cII qg qg_sets qg_tried qg_strengths qg_strengths0 qg_strengths1 qg_strengths2 qg_strengths3 qg_strengths4 qt qt_rested qc qc_who qc_pull qb qb_pull qb_strength qb_back qb_moods qb_tides qb_carts g_known g_crossings' g_sets' g_tried' g_strengths0 g_strengths1' g_strengths2' g_strengths3' g_strengths4' t_crew' t_minutes' t_oats' t_waitHours t_waitMinutes t_rested c_last c_who c_pull b_law b_places b_broad b_horses b_blinds b_besides b_tideCount b_cartCount b_due b_pairs b_pull b_strength b_back b_moods b_tides b_carts) sz) 0 0 (va_A (W_X1g_X7t_X2c_X0b cI cZ cII qg qg_sets qg_tried qg_strengths qg_strengths0 qg_strengths1 qg_strengths2 qg_strengths3 qg_strengths4 qt qt_rested qc qc_who qc_pull qb qb_pull qb_strength qb_back qb_moods qb_tides qb_carts g_known g_crossings g_sets g_tried g_strengths0 g_strengths1 g_strengths2 g_strengths3 g_strengths4 t_crew t_minutes t_oats t_waitHours t_waitMinutes t_rested c_last c_who c_pull b_law b_places b_broad b_horses b_blinds b_besides b_tideCount b_cartCount b_due b_pairs b_pull b_strength b_back b_moods b_tides b_carts) sz) := by
  refine Met.ofW (cc := cX1_takeOver) (maxL := 6) (ret := none) (by decide) rfl ?_
  intro p e s m args below meth c s₁ B hml hv
  obtain ⟨rfl, hsz, hP, hK, hD0⟩ := hv
  have hx := B.exec
  have hb := B.bytes
  have hr := B.returns
  have hts := atoms_spec (ws := wM yX1_takeOver cX1_takeOver 6 none) B.pre
  have hown : s.vm.findClass RX1 = some m.cls := findClass_of_methodNamed B.named
  have hlocks := B.notSynchronized
  subst hsz
  have hD := hD0.self (sz := s.heap.size)
  obtain ⟨A, hAe⟩ : ∃ A, A = va_A (W_X1g_X7t_X2c_X0b cI cZ cII qg qg_sets qg_tried qg_strengths qg_strengths0 qg_strengths1 qg_strengths2 qg_strengths3 qg_strengths4 qt qt_rested qc qc_who qc_pull qb qb_pull qb_strength qb_back qb_moods qb_tides qb_carts g_known g_crossings g_sets g_tried g_strengths0 g_strengths1 g_strengths2 g_strengths3 g_strengths4 t_crew t_minutes t_oats t_waitHours t_waitMinutes t_rested c_last c_who c_pull b_law b_places b_broad b_horses b_blinds b_besides b_tideCount b_cartCount b_due b_pairs b_pull b_strength b_back b_moods b_tides b_carts) s.heap.size := ⟨_, rfl⟩
  rw [← hAe] at hD
  have hA : ∀ q : Nat, s.heap.size ≤ q → A q := fun q h => by rw [hAe]; exact Or.inr h
  have hS : va_S A s.heap s.heap [] := va_S.rf
  have hl := lv_entry ([.ref qg, .int (0 : Int32), .int n2, .int n3]) (n := 6) (Nat.le_of_ble_eq_true rfl)
  rw [lg_entry_eq]
  generalize (lg_sl ([.ref qg, .int (0 : Int32), .int n2, .int n3]) ++ List.replicate (6 - (lg_sl ([.ref qg, .int (0 : Int32), .int n2, .int n3])).length) Slot.unset).toArray = ls at hl ⊢
  have hl : lv_has ls 6 [(0, .ref qg), (1, .int (0 : Int32)), (2, .int n2), (3, .int n3)] := hl
  generalize ([.ref qg, .int (0 : Int32), .int n2, .int n3] : List Value).toArray = args at hts ⊢
  have hw : ∀ w ∈ wsL_law, w.before args s = true := fun w h => hts w (List.mem_cons_of_mem _ h)
  refine pg_start (fun Q hQ => ?_)
  have RET : ∀ (H : Heap) (locs : List Loc) (ls : Array Slot) (pc : Nat) (x0 : Int32) (x1 : Nat → Int32) (x2 : Nat → Int32) (x3 : Nat → Int32) (x4 : Nat → Int32) (x5 : Nat → Int32) (x6 : Nat → Int32) (x7 : Int32) (x8 : Int32) (x9 : Int32) , decode cX1_takeOver pc = .ok (.return_, 1) → va_P (dC, dI) vwCl (W_X1g_X7t_X2c_X0b cI cZ cII qg qg_sets qg_tried qg_strengths qg_strengths0 qg_strengths1 qg_strengths2 qg_strengths3 qg_strengths4 qt qt_rested qc qc_who qc_pull qb qb_pull qb_strength qb_back qb_moods qb_tides qb_carts g_known x0 x1 x2 g_strengths0 x3 x4 x5 x6 x7 x8 x9 t_waitHours t_waitMinutes t_rested c_last c_who c_pull b_law b_places b_broad b_horses b_blinds b_besides b_tideCount b_cartCount b_due b_pairs b_pull b_strength b_back b_moods b_tides b_carts) H → va_D A (W_X1g_X7t_X2c_X0b cI cZ cII qg qg_sets qg_tried qg_strengths qg_strengths0 qg_strengths1 qg_strengths2 qg_strengths3 qg_strengths4 qt qt_rested qc qc_who qc_pull qb qb_pull qb_strength qb_back qb_moods qb_tides qb_carts g_known x0 x1 x2 g_strengths0 x3 x4 x5 x6 x7 x8 x9 t_waitHours t_waitMinutes t_rested c_last c_who c_pull b_law b_places b_broad b_horses b_blinds b_besides b_tideCount b_cartCount b_due b_pairs b_pull b_strength b_back b_moods b_tides b_carts) → va_S A s.heap H locs → (some (x0, x1, x2, x3, x4, x5, x6, x7, x8, x9) : Option (Int32 × (Nat → Int32) × (Nat → Int32) × (Nat → Int32) × (Nat → Int32) × (Nat → Int32) × (Nat → Int32) × Int32 × Int32 × Int32)) = some (g_crossings', g_sets', g_tried', g_strengths1', g_strengths2', g_strengths3', g_strengths4', t_crew', t_minutes', t_oats') → W p l e rm_X1_takeOverD0 s m args below meth c H locs 0 0 Q (F0 m pc ls []) := by
    intro H locs ls pc x0 x1 x2 x3 x4 x5 x6 x7 x8 x9 hd hP hD hS he
    subst hAe; subst hQ
    simp only [Option.some.injEq, Prod.mk.injEq] at he
    obtain ⟨rfl, rfl, rfl, rfl, rfl, rfl, rfl, rfl, rfl, rfl⟩ := he
    exact pg_vret hx hb hr hlocks hK hP hD hS hd
  unfold f_X1_takeOverD0 at hf
  refine lv_iload_n hx hb dX1_takeOver_0 rfl (lv_at hl 2 rfl) ?_
  refine lv_if_ne (tgt := 24) hx hb dX1_takeOver_1 (by decide) (fun h9 => ?_) (fun h9 => ?_)
  · have hf := pg_f h9 hf
    refine lv_iconst (v := (1 : Int32)) hx hb dX1_takeOver_24 (by decide) ?_
    refine lv_istore (lv' := [(4, .int (1 : Int32)), (0, .ref qg), (1, .int (0 : Int32)), (2, .int n2), (3, .int n3)]) hx hb dX1_takeOver_25 hl (by decide) rfl (fun ls hl => ?_)
    obtain ⟨K87_1, hK87_1, hf⟩ := jn10_s hf
    have WK87_1 : ∀ (g_crossings_1 : Int32) (g_sets_1 : Nat → Int32) (g_tried_1 : Nat → Int32) (g_strengths1_1 : Nat → Int32) (g_strengths2_1 : Nat → Int32) (g_strengths3_1 : Nat → Int32) (g_strengths4_1 : Nat → Int32) (t_crew_1 : Int32) (t_minutes_1 : Int32) (t_oats_1 : Int32) (H : Heap) (locs : List Loc) (ls : Array Slot), va_P (dC, dI) vwCl (W_X1g_X7t_X2c_X0b cI cZ cII qg qg_sets qg_tried qg_strengths qg_strengths0 qg_strengths1 qg_strengths2 qg_strengths3 qg_strengths4 qt qt_rested qc qc_who qc_pull qb qb_pull qb_strength qb_back qb_moods qb_tides qb_carts g_known g_crossings_1 g_sets_1 g_tried_1 g_strengths0 g_strengths1_1 g_strengths2_1 g_strengths3_1 g_strengths4_1 t_crew_1 t_minutes_1 t_oats_1 t_waitHours t_waitMinutes t_rested c_last c_who c_pull b_law b_places b_broad b_horses b_blinds b_besides b_tideCount b_cartCount b_due b_pairs b_pull b_strength b_back b_moods b_tides b_carts) H → va_D A (W_X1g_X7t_X2c_X0b cI cZ cII qg qg_sets qg_tried qg_strengths qg_strengths0 qg_strengths1 qg_strengths2 qg_strengths3 qg_strengths4 qt qt_rested qc qc_who qc_pull qb qb_pull qb_strength qb_back qb_moods qb_tides qb_carts g_known g_crossings_1 g_sets_1 g_tried_1 g_strengths0 g_strengths1_1 g_strengths2_1 g_strengths3_1 g_strengths4_1 t_crew_1 t_minutes_1 t_oats_1 t_waitHours t_waitMinutes t_rested c_last c_who c_pull b_law b_places b_broad b_horses b_blinds b_besides b_tideCount b_cartCount b_due b_pairs b_pull b_strength b_back b_moods b_tides b_carts) → va_S A s.heap H locs → lv_has ls 6 [] → K87_1 g_crossings_1 g_sets_1 g_tried_1 g_strengths1_1 g_strengths2_1 g_strengths3_1 g_strengths4_1 t_crew_1 t_minutes_1 t_oats_1 = some (g_crossings', g_sets', g_tried', g_strengths1', g_strengths2', g_strengths3', g_strengths4', t_crew', t_minutes', t_oats') → W p l e rm_X1_takeOverD0 s m args below meth c H locs 0 0 Q (F0 m 87 ls []) := by
      intro g_crossings_1 g_sets_1 g_tried_1 g_strengths1_1 g_strengths2_1 g_strengths3_1 g_strengths4_1 t_crew_1 t_minutes_1 t_oats_1 H locs ls hP hD hS hl hf
      have hf := hK87_1 _ _ _ _ _ _ _ _ _ _ hf
      exact RET _ _ _ _ _ _ _ _ _ _ _ _ _ _ dX1_takeOver_87 hP hD hS hf
    obtain ⟨B2, hB2, hf⟩ := lq11_n hf
    have WL2 : ∀ (n9 : Nat) (y4_2 : Int32) (g_crossings_2 : Int32) (g_sets_2 : Nat → Int32) (g_tried_2 : Nat → Int32) (g_strengths1_2 : Nat → Int32) (g_strengths2_2 : Nat → Int32) (g_strengths3_2 : Nat → Int32) (g_strengths4_2 : Nat → Int32) (t_crew_2 : Int32) (t_minutes_2 : Int32) (t_oats_2 : Int32) (H : Heap) (locs : List Loc) (ls : Array Slot), va_P (dC, dI) vwCl (W_X1g_X7t_X2c_X0b cI cZ cII qg qg_sets qg_tried qg_strengths qg_strengths0 qg_strengths1 qg_strengths2 qg_strengths3 qg_strengths4 qt qt_rested qc qc_who qc_pull qb qb_pull qb_strength qb_back qb_moods qb_tides qb_carts g_known g_crossings_2 g_sets_2 g_tried_2 g_strengths0 g_strengths1_2 g_strengths2_2 g_strengths3_2 g_strengths4_2 t_crew_2 t_minutes_2 t_oats_2 t_waitHours t_waitMinutes t_rested c_last c_who c_pull b_law b_places b_broad b_horses b_blinds b_besides b_tideCount b_cartCount b_due b_pairs b_pull b_strength b_back b_moods b_tides b_carts) H → va_D A (W_X1g_X7t_X2c_X0b cI cZ cII qg qg_sets qg_tried qg_strengths qg_strengths0 qg_strengths1 qg_strengths2 qg_strengths3 qg_strengths4 qt qt_rested qc qc_who qc_pull qb qb_pull qb_strength qb_back qb_moods qb_tides qb_carts g_known g_crossings_2 g_sets_2 g_tried_2 g_strengths0 g_strengths1_2 g_strengths2_2 g_strengths3_2 g_strengths4_2 t_crew_2 t_minutes_2 t_oats_2 t_waitHours t_waitMinutes t_rested c_last c_who c_pull b_law b_places b_broad b_horses b_blinds b_besides b_tideCount b_cartCount b_due b_pairs b_pull b_strength b_back b_moods b_tides b_carts) → va_S A s.heap H locs → lv_has ls 6 [(0, .ref qg), (1, .int (0 : Int32)), (2, .int n2), (3, .int n3), (4, .int y4_2)] → lq11 B2 n9 y4_2 g_crossings_2 g_sets_2 g_tried_2 g_strengths1_2 g_strengths2_2 g_strengths3_2 g_strengths4_2 t_crew_2 t_minutes_2 t_oats_2 = some (g_crossings', g_sets', g_tried', g_strengths1', g_strengths2', g_strengths3', g_strengths4', t_crew', t_minutes', t_oats') → W p l e rm_X1_takeOverD0 s m args below meth c H locs 0 0 Q (F0 m 27 ls []) := by
      intro n9
      induction n9 with
      | zero => intro y4_2 g_crossings_2 g_sets_2 g_tried_2 g_strengths1_2 g_strengths2_2 g_strengths3_2 g_strengths4_2 t_crew_2 t_minutes_2 t_oats_2 H locs ls hP hD hS hl hf; cases hf
      | succ n9 ih =>
        intro y4_2 g_crossings_2 g_sets_2 g_tried_2 g_strengths1_2 g_strengths2_2 g_strengths3_2 g_strengths4_2 t_crew_2 t_minutes_2 t_oats_2 H locs ls hP hD hS hl hf
        obtain ⟨rec2, hrec2, hf⟩ := lq11_s hf
        have hf := hB2 rec2 _ _ _ _ _ _ _ _ _ _ _ hf
        refine lv_iload hx hb dX1_takeOver_27 (lv_at hl 4 rfl) ?_
        refine lv_iload_n hx hb dX1_takeOver_29 rfl (lv_at hl 2 rfl) ?_
        refine lv_icmp_gt (tgt := 87) hx hb dX1_takeOver_30 (by decide) (fun h9 => ?_) (fun h9 => ?_)
        · have hf := pg_t h9 hf
          exact WK87_1 _ _ _ _ _ _ _ _ _ _ _ _ _ hP hD hS (lv_sub hl [] rfl) hf
        · have hf := pg_f h9 hf
          refine lv_aload_n hx hb dX1_takeOver_33 rfl (lv_at hl 0 rfl) ?_
          refine va_get (D := (dC, dI)) (ci := 1) (v := .int g_crossings_2) (C := RX1) (T := TX1) (N := 8) hx hb hw inlX1 hown hK hP 0 rfl rfl 1 (by decide) (hw _ mw_40_13) (fun _ h9 => h9) rfl dX1_takeOver_34 ?_
          refine lv_iconst (v := (-1 : Int32)) hx hb dX1_takeOver_37 (by decide) ?_
          obtain ⟨J56_3, hJ56_3, hf⟩ := jn1_s hf
          have WJ56_3 : ∀ (z0_3 : Int32) (H : Heap) (locs : List Loc) (ls : Array Slot), va_P (dC, dI) vwCl (W_X1g_X7t_X2c_X0b cI cZ cII qg qg_sets qg_tried qg_strengths qg_strengths0 qg_strengths1 qg_strengths2 qg_strengths3 qg_strengths4 qt qt_rested qc qc_who qc_pull qb qb_pull qb_strength qb_back qb_moods qb_tides qb_carts g_known g_crossings_2 g_sets_2 g_tried_2 g_strengths0 g_strengths1_2 g_strengths2_2 g_strengths3_2 g_strengths4_2 t_crew_2 t_minutes_2 t_oats_2 t_waitHours t_waitMinutes t_rested c_last c_who c_pull b_law b_places b_broad b_horses b_blinds b_besides b_tideCount b_cartCount b_due b_pairs b_pull b_strength b_back b_moods b_tides b_carts) H → va_D A (W_X1g_X7t_X2c_X0b cI cZ cII qg qg_sets qg_tried qg_strengths qg_strengths0 qg_strengths1 qg_strengths2 qg_strengths3 qg_strengths4 qt qt_rested qc qc_who qc_pull qb qb_pull qb_strength qb_back qb_moods qb_tides qb_carts g_known g_crossings_2 g_sets_2 g_tried_2 g_strengths0 g_strengths1_2 g_strengths2_2 g_strengths3_2 g_strengths4_2 t_crew_2 t_minutes_2 t_oats_2 t_waitHours t_waitMinutes t_rested c_last c_who c_pull b_law b_places b_broad b_horses b_blinds b_besides b_tideCount b_cartCount b_due b_pairs b_pull b_strength b_back b_moods b_tides b_carts) → va_S A s.heap H locs → lv_has ls 6 [(0, .ref qg), (1, .int (0 : Int32)), (2, .int n2), (3, .int n3), (4, .int y4_2)] → J56_3 z0_3 = some (g_crossings', g_sets', g_tried', g_strengths1', g_strengths2', g_strengths3', g_strengths4', t_crew', t_minutes', t_oats') → W p l e rm_X1_takeOverD0 s m args below meth c H locs 0 0 Q (F0 m 56 ls [.int z0_3]) := by
            intro z0_3 H locs ls hP hD hS hl hf
            have hf := hJ56_3 _ hf
            refine lv_istore (lv' := [(5, .int z0_3), (0, .ref qg), (1, .int (0 : Int32)), (2, .int n2), (3, .int n3), (4, .int y4_2)]) hx hb dX1_takeOver_56 hl (by decide) rfl (fun ls hl => ?_)
            refine lv_iload hx hb dX1_takeOver_58 (lv_at hl 0 rfl) ?_
            obtain ⟨J81_4, hJ81_4, hf⟩ := jn10_s hf
            have WJ81_4 : ∀ (g_crossings_4 : Int32) (g_sets_4 : Nat → Int32) (g_tried_4 : Nat → Int32) (g_strengths1_4 : Nat → Int32) (g_strengths2_4 : Nat → Int32) (g_strengths3_4 : Nat → Int32) (g_strengths4_4 : Nat → Int32) (t_crew_4 : Int32) (t_minutes_4 : Int32) (t_oats_4 : Int32) (H : Heap) (locs : List Loc) (ls : Array Slot), va_P (dC, dI) vwCl (W_X1g_X7t_X2c_X0b cI cZ cII qg qg_sets qg_tried qg_strengths qg_strengths0 qg_strengths1 qg_strengths2 qg_strengths3 qg_strengths4 qt qt_rested qc qc_who qc_pull qb qb_pull qb_strength qb_back qb_moods qb_tides qb_carts g_known g_crossings_4 g_sets_4 g_tried_4 g_strengths0 g_strengths1_4 g_strengths2_4 g_strengths3_4 g_strengths4_4 t_crew_4 t_minutes_4 t_oats_4 t_waitHours t_waitMinutes t_rested c_last c_who c_pull b_law b_places b_broad b_horses b_blinds b_besides b_tideCount b_cartCount b_due b_pairs b_pull b_strength b_back b_moods b_tides b_carts) H → va_D A (W_X1g_X7t_X2c_X0b cI cZ cII qg qg_sets qg_tried qg_strengths qg_strengths0 qg_strengths1 qg_strengths2 qg_strengths3 qg_strengths4 qt qt_rested qc qc_who qc_pull qb qb_pull qb_strength qb_back qb_moods qb_tides qb_carts g_known g_crossings_4 g_sets_4 g_tried_4 g_strengths0 g_strengths1_4 g_strengths2_4 g_strengths3_4 g_strengths4_4 t_crew_4 t_minutes_4 t_oats_4 t_waitHours t_waitMinutes t_rested c_last c_who c_pull b_law b_places b_broad b_horses b_blinds b_besides b_tideCount b_cartCount b_due b_pairs b_pull b_strength b_back b_moods b_tides b_carts) → va_S A s.heap H locs → lv_has ls 6 [(0, .ref qg), (1, .int (0 : Int32)), (2, .int n2), (3, .int n3), (4, .int y4_2)] → J81_4 g_crossings_4 g_sets_4 g_tried_4 g_strengths1_4 g_strengths2_4 g_strengths3_4 g_strengths4_4 t_crew_4 t_minutes_4 t_oats_4 = some (g_crossings', g_sets', g_tried', g_strengths1', g_strengths2', g_strengths3', g_strengths4', t_crew', t_minutes', t_oats') → W p l e rm_X1_takeOverD0 s m args below meth c H locs 0 0 Q (F0 m 81 ls []) := by
              intro g_crossings_4 g_sets_4 g_tried_4 g_strengths1_4 g_strengths2_4 g_strengths3_4 g_strengths4_4 t_crew_4 t_minutes_4 t_oats_4 H locs ls hP hD hS hl hf
              have hf := hJ81_4 _ _ _ _ _ _ _ _ _ _ hf
              refine lv_iinc (v := (y4_2 + (1 : Int32))) (lv' := [(4, .int (y4_2 + (1 : Int32))), (0, .ref qg), (1, .int (0 : Int32)), (2, .int n2), (3, .int n3)]) hx hb dX1_takeOver_81 hl (k := 4) rfl rfl (by decide) rfl (fun ls hl => ?_)
              refine lv_goto (tgt := 27) hx hb dX1_takeOver_84 (by decide) ?_
              exact ih _ _ _ _ _ _ _ _ _ _ _ _ _ _ hP hD hS (lv_sub hl [1, 2, 3, 4, 0] rfl) (hrec2 _ _ _ _ _ _ _ _ _ _ _ hf)
            refine lv_if_eq (tgt := 81) hx hb dX1_takeOver_60 (by decide) (fun h9 => ?_) (fun h9 => ?_)
            · have hf := pg_t h9 hf
              exact WJ81_4 _ _ _ _ _ _ _ _ _ _ _ _ _ hP hD hS (lv_sub hl [1, 2, 3, 4, 5] rfl) hf
            · have hf := pg_f h9 hf
              refine lv_iload hx hb dX1_takeOver_63 (lv_at hl 5 rfl) ?_
              refine lv_iload_n hx hb dX1_takeOver_65 rfl (lv_at hl 3 rfl) ?_
              refine lv_iand hx hb dX1_takeOver_66 ?_
              refine lv_iload hx hb dX1_takeOver_67 (lv_at hl 5 rfl) ?_
              refine lv_icmp_ne (tgt := 81) hx hb dX1_takeOver_69 (by decide) (fun h9 => ?_) (fun h9 => ?_)
              · have hf := pg_f h9 hf
                exact WJ81_4 _ _ _ _ _ _ _ _ _ _ _ _ _ hP hD hS (lv_sub hl [1, 2, 3, 4, 5] rfl) hf
              · have hf := pg_t h9 hf
                refine lv_aload_n hx hb dX1_takeOver_72 rfl (lv_at hl 1 rfl) ?_
                refine lv_iload_n hx hb dX1_takeOver_73 rfl (lv_at hl 2 rfl) ?_
                refine lv_iload hx hb dX1_takeOver_74 (lv_at hl 5 rfl) ?_
                refine lv_iload_n hx hb dX1_takeOver_76 rfl (lv_at hl 3 rfl) ?_
                refine lv_iload_n hx hb dX1_takeOver_77 rfl (lv_at hl 4 rfl) ?_
                obtain ⟨g_crossings_5, g_sets_5, g_tried_5, g_strengths1_5, g_strengths2_5, g_strengths3_5, g_strengths4_5, t_crew_5, t_minutes_5, t_oats_5, hc, hf⟩ := bn10_s hf
                refine pg_cVv (As := [.int (0 : Int32), .int y4_2, .int n2, .int n3]) (rest := []) (wf := (W_X1g_X7t_X2c_X0b cI cZ cII qg qg_sets qg_tried qg_strengths qg_strengths0 qg_strengths1 qg_strengths2 qg_strengths3 qg_strengths4 qt qt_rested qc qc_who qc_pull qb qb_pull qb_strength qb_back qb_moods qb_tides qb_carts g_known g_crossings_5 g_sets_5 g_tried_5 g_strengths0 g_strengths1_5 g_strengths2_5 g_strengths3_5 g_strengths4_5 t_crew_5 t_minutes_5 t_oats_5 t_waitHours t_waitMinutes t_rested c_last c_who c_pull b_law b_places b_broad b_horses b_blinds b_besides b_tideCount b_cartCount b_due b_pairs b_pull b_strength b_back b_moods b_tides b_carts)) ⟨hx, hb, hml, hown, hw⟩ (c_X1_takeSetD0 l dC dI cI cZ cII qg qg_sets qg_tried qg_strengths qg_strengths0 qg_strengths1 qg_strengths2 qg_strengths3 qg_strengths4 qt qt_rested qc qc_who qc_pull qb qb_pull qb_strength qb_back qb_moods qb_tides qb_carts H.size g_known g_crossings_2 g_sets_2 g_tried_2 g_strengths0 g_strengths1_2 g_strengths2_2 g_strengths3_2 g_strengths4_2 t_crew_2 t_minutes_2 t_oats_2 t_waitHours t_waitMinutes t_rested c_last c_who c_pull b_law b_places b_broad b_horses b_blinds b_besides b_tideCount b_cartCount b_due b_pairs b_pull b_strength b_back b_moods b_tides b_carts y4_2 n2 n3 g_crossings_5 g_sets_5 g_tried_5 g_strengths1_5 g_strengths2_5 g_strengths3_5 g_strengths4_5 t_crew_5 t_minutes_5 t_oats_5 hc) (cwV 4 hts (wM_V mw_40_20 mw_40_21 mw_40_22 mw_2_18 mw_40_23) rfl rfl rfl dk_X1_takeSet ⟨Nat.le_of_ble_eq_true rfl, Nat.le_of_ble_eq_true rfl⟩) hK hP hD hS hA 1 0 rfl rfl rfl [0, 1, 2, 3, 4, 5, 6, 7, 8, 9, 10, 11, 12, 13, 14, 15, 16, 17, 18, 19, 20] [] [0, 1, 2, 3, 4, 5, 6, 7, 8, 9, 10, 11, 12, 13, 14, 15, 16, 17, 18, 19, 20] rfl rfl rfl (by decide) rfl hl.1 rfl (Nat.le_of_ble_eq_true rfl) dX1_takeOver_78 ⟨Nat.zero_le _, Nat.zero_le _⟩ (fun H locs hP hD hS => ?_)
                exact WJ81_4 _ _ _ _ _ _ _ _ _ _ _ _ _ hP hD hS (lv_sub hl [1, 2, 3, 4, 5] rfl) hf
          obtain ⟨J51_6, hJ51_6, hf⟩ := jn1_s hf
          have WJ51_6 : ∀ (u_6 : Unit) (H : Heap) (locs : List Loc) (ls : Array Slot), va_P (dC, dI) vwCl (W_X1g_X7t_X2c_X0b cI cZ cII qg qg_sets qg_tried qg_strengths qg_strengths0 qg_strengths1 qg_strengths2 qg_strengths3 qg_strengths4 qt qt_rested qc qc_who qc_pull qb qb_pull qb_strength qb_back qb_moods qb_tides qb_carts g_known g_crossings_2 g_sets_2 g_tried_2 g_strengths0 g_strengths1_2 g_strengths2_2 g_strengths3_2 g_strengths4_2 t_crew_2 t_minutes_2 t_oats_2 t_waitHours t_waitMinutes t_rested c_last c_who c_pull b_law b_places b_broad b_horses b_blinds b_besides b_tideCount b_cartCount b_due b_pairs b_pull b_strength b_back b_moods b_tides b_carts) H → va_D A (W_X1g_X7t_X2c_X0b cI cZ cII qg qg_sets qg_tried qg_strengths qg_strengths0 qg_strengths1 qg_strengths2 qg_strengths3 qg_strengths4 qt qt_rested qc qc_who qc_pull qb qb_pull qb_strength qb_back qb_moods qb_tides qb_carts g_known g_crossings_2 g_sets_2 g_tried_2 g_strengths0 g_strengths1_2 g_strengths2_2 g_strengths3_2 g_strengths4_2 t_crew_2 t_minutes_2 t_oats_2 t_waitHours t_waitMinutes t_rested c_last c_who c_pull b_law b_places b_broad b_horses b_blinds b_besides b_tideCount b_cartCount b_due b_pairs b_pull b_strength b_back b_moods b_tides b_carts) → va_S A s.heap H locs → lv_has ls 6 [(0, .ref qg), (1, .int (0 : Int32)), (2, .int n2), (3, .int n3), (4, .int y4_2)] → J51_6 u_6 = some (g_crossings', g_sets', g_tried', g_strengths1', g_strengths2', g_strengths3', g_strengths4', t_crew', t_minutes', t_oats') → W p l e rm_X1_takeOverD0 s m args below meth c H locs 0 0 Q (F0 m 51 ls []) := by
            intro u_6 H locs ls hP hD hS hl hf
            have hf := hJ51_6 _ hf
            refine lv_iconst (v := (1 : Int32)) hx hb dX1_takeOver_51 (by decide) ?_
            refine lv_goto (tgt := 56) hx hb dX1_takeOver_52 (by decide) ?_
            exact WJ56_3 _ _ _ _ hP hD hS hl hf
          refine lv_icmp_eq (tgt := 51) hx hb dX1_takeOver_38 (by decide) (fun h9 => ?_) (fun h9 => ?_)
          · have hf := pg_t h9 hf
            exact WJ51_6 _ _ _ _ hP hD hS hl hf
          · have hf := pg_f h9 hf
            refine lv_iload_n hx hb dX1_takeOver_41 rfl (lv_at hl 1 rfl) ?_
            refine lv_iconst (v := (1 : Int32)) hx hb dX1_takeOver_42 (by decide) ?_
            refine lv_iadd hx hb dX1_takeOver_43 ?_
            refine lv_topi (fun y9 ey9 => ?_)
            obtain rfl : y9 = (1 : Int32) := ey9.trans (by decide)
            refine lv_aload_n hx hb dX1_takeOver_44 rfl (lv_at hl 0 rfl) ?_
            refine va_get (D := (dC, dI)) (ci := 1) (v := .int g_crossings_2) (C := RX1) (T := TX1) (N := 8) hx hb hw inlX1 hown hK hP 0 rfl rfl 1 (by decide) (hw _ mw_40_13) (fun _ h9 => h9) rfl dX1_takeOver_45 ?_
            refine lv_icmp_ge (tgt := 55) hx hb dX1_takeOver_48 (by decide) (fun h9 => ?_) (fun h9 => ?_)
            · have hf := pg_t h9 hf
              refine lv_iconst (v := (0 : Int32)) hx hb dX1_takeOver_55 (by decide) ?_
              exact WJ56_3 _ _ _ _ hP hD hS hl hf
            · have hf := pg_f h9 hf
              exact WJ51_6 _ _ _ _ hP hD hS hl hf
    exact WL2 fu _ _ _ _ _ _ _ _ _ _ _ _ _ _ hP hD hS (lv_sub hl [1, 2, 3, 4, 0] rfl) hf
  · have hf := pg_t h9 hf
    refine lv_aload_n hx hb dX1_takeOver_4 rfl (lv_at hl 0 rfl) ?_
    refine lv_iload_n hx hb dX1_takeOver_5 rfl (lv_at hl 1 rfl) ?_
    refine va_put (D := (dC, dI)) (ci := 1) (v := .int (0 : Int32)) (ty := .int) (C := RX1) (T := TX1) (N := 8) hx hb hw inlX1 tyX1 tyX1_ok nmX1 hown hK hP hD hS 0 rfl rfl 1 (by decide) (hw _ mw_40_13) (fun _ h9 => h9) rfl (by decide +kernel) rfl rfl (Nat.le_of_ble_eq_true rfl) dX1_takeOver_6 (fun H locs hP hD hS => ?_)
    have hP : va_P (dC, dI) vwCl (W_X1g_X7t_X2c_X0b cI cZ cII qg qg_sets qg_tried qg_strengths qg_strengths0 qg_strengths1 qg_strengths2 qg_strengths3 qg_strengths4 qt qt_rested qc qc_who qc_pull qb qb_pull qb_strength qb_back qb_moods qb_tides qb_carts g_known (0 : Int32) g_sets g_tried g_strengths0 g_strengths1 g_strengths2 g_strengths3 g_strengths4 t_crew t_minutes t_oats t_waitHours t_waitMinutes t_rested c_last c_who c_pull b_law b_places b_broad b_horses b_blinds b_besides b_tideCount b_cartCount b_due b_pairs b_pull b_strength b_back b_moods b_tides b_carts) H := hP
    have hD : va_D A (W_X1g_X7t_X2c_X0b cI cZ cII qg qg_sets qg_tried qg_strengths qg_strengths0 qg_strengths1 qg_strengths2 qg_strengths3 qg_strengths4 qt qt_rested qc qc_who qc_pull qb qb_pull qb_strength qb_back qb_moods qb_tides qb_carts g_known (0 : Int32) g_sets g_tried g_strengths0 g_strengths1 g_strengths2 g_strengths3 g_strengths4 t_crew t_minutes t_oats t_waitHours t_waitMinutes t_rested c_last c_who c_pull b_law b_places b_broad b_horses b_blinds b_besides b_tideCount b_cartCount b_due b_pairs b_pull b_strength b_back b_moods b_tides b_carts) := hD
    refine lv_aload_n hx hb dX1_takeOver_9 rfl (lv_at hl 0 rfl) ?_
    refine va_get (D := (dC, dI)) (ci := 1) (v := .ref qg_tried) (C := RX1) (T := TX1) (N := 8) hx hb hw inlX1 hown hK hP 0 rfl rfl 6 (by decide) (hw _ mw_5_4) (fun _ h9 => h9) rfl dX1_takeOver_10 ?_
    refine lv_iconst (v := (0 : Int32)) hx hb dX1_takeOver_13 (by decide) ?_
    refine lv_aload_n hx hb dX1_takeOver_14 rfl (lv_at hl 0 rfl) ?_
    refine va_get (D := (dC, dI)) (ci := 1) (v := .ref qg_sets) (C := RX1) (T := TX1) (N := 8) hx hb hw inlX1 hown hK hP 0 rfl rfl 5 (by decide) (hw _ mw_5_3) (fun _ h9 => h9) rfl dX1_takeOver_15 ?_
    refine lv_iconst (v := (0 : Int32)) hx hb dX1_takeOver_18 (by decide) ?_
    refine lv_iconst (v := (4 : Int32)) hx hb dX1_takeOver_19 (by decide) ?_
    refine va_copyi hx hb (hml.trans hl.1.symm) hown (hw _ mw_40_14) (hw _ mw_18_17) (hw _ mw_18_18) (hw _ mw_18_19) hK hP hD hS 2 1 0 0 (ty := .int) rfl rfl rfl rfl rfl (by decide) (by decide) (by decide) (by decide) (by decide) (fun _ _ => rfl) (Nat.le_of_ble_eq_true rfl) (by decide +kernel) dX1_takeOver_20 (fun H locs hP hD hS => ?_)
    have hP : va_P (dC, dI) vwCl (W_X1g_X7t_X2c_X0b cI cZ cII qg qg_sets qg_tried qg_strengths qg_strengths0 qg_strengths1 qg_strengths2 qg_strengths3 qg_strengths4 qt qt_rested qc qc_who qc_pull qb qb_pull qb_strength qb_back qb_moods qb_tides qb_carts g_known (0 : Int32) (va_cpy g_tried g_sets 0 0 4) g_tried g_strengths0 g_strengths1 g_strengths2 g_strengths3 g_strengths4 t_crew t_minutes t_oats t_waitHours t_waitMinutes t_rested c_last c_who c_pull b_law b_places b_broad b_horses b_blinds b_besides b_tideCount b_cartCount b_due b_pairs b_pull b_strength b_back b_moods b_tides b_carts) H := hP
    have hD : va_D A (W_X1g_X7t_X2c_X0b cI cZ cII qg qg_sets qg_tried qg_strengths qg_strengths0 qg_strengths1 qg_strengths2 qg_strengths3 qg_strengths4 qt qt_rested qc qc_who qc_pull qb qb_pull qb_strength qb_back qb_moods qb_tides qb_carts g_known (0 : Int32) (va_cpy g_tried g_sets 0 0 4) g_tried g_strengths0 g_strengths1 g_strengths2 g_strengths3 g_strengths4 t_crew t_minutes t_oats t_waitHours t_waitMinutes t_rested c_last c_who c_pull b_law b_places b_broad b_horses b_blinds b_besides b_tideCount b_cartCount b_due b_pairs b_pull b_strength b_back b_moods b_tides b_carts) := hD
    exact RET _ _ _ _ _ _ _ _ _ _ _ _ _ _ dX1_takeOver_23 hP hD hS hf
def f_X1_find (n2 : Int32) (g_known : Int32) (g_crossings : Int32) (g_sets : Nat → Int32) (g_tried : Nat → Int32) (g_strengths0 : Nat → Int32) (g_strengths1 : Nat → Int32) (g_strengths2 : Nat → Int32) (g_strengths3 : Nat → Int32) (g_strengths4 : Nat → Int32) (t_crew : Int32) (t_minutes : Int32) (t_oats : Int32) (c_last : Int32) (c_who : Nat → Int32) (c_pull : Nat → Int32) (b_law : Int32) (b_broad : Int32) (b_horses : Int32) (b_tideCount : Int32) (b_cartCount : Int32) (b_strength : Nat → Int32) (b_back : Nat → Int32) (b_tides : Nat → Int32) (b_carts : Nat → Int32) (u : Nat → Int32) : Option (Int32 × Int32 × (Nat → Int32) × (Nat → Int32) × (Nat → Int32) × (Nat → Int32) × (Nat → Int32) × (Nat → Int32) × (Nat → Int32) × Int32 × Int32 × Int32) :=
  if g_known = 0 then
    bn10 (f_X1_takeOverD0 (((1 : Int32) <<< (b_cartCount &&& 31)) - (1 : Int32)) n2 (-1 : Int32) g_sets g_tried (va_cpy u g_strengths0 0 0 6) g_strengths1 g_strengths2 g_strengths3 g_strengths4 t_crew t_minutes t_oats c_last c_who c_pull b_law b_broad b_horses b_tideCount b_cartCount b_strength b_back b_tides b_carts) (fun (g_crossings_1 : Int32) (g_sets_1 : Nat → Int32) (g_tried_1 : Nat → Int32) (g_strengths1_1 : Nat → Int32) (g_strengths2_1 : Nat → Int32) (g_strengths3_1 : Nat → Int32) (g_strengths4_1 : Nat → Int32) (t_crew_1 : Int32) (t_minutes_1 : Int32) (t_oats_1 : Int32) =>
      some ((1 : Int32), g_crossings_1, g_sets_1, g_tried_1, (va_cpy u g_strengths0 0 0 6), g_strengths1_1, g_strengths2_1, g_strengths3_1, g_strengths4_1, t_crew_1, t_minutes_1, t_oats_1)
    )
  else
    some (g_known, g_crossings, g_sets, g_tried, g_strengths0, g_strengths1, g_strengths2, g_strengths3, g_strengths4, t_crew, t_minutes, t_oats)
abbrev rm_X1_find : Room := { frames := 12, cells := 0, slots := 0, locals := 327 }
theorem dk_X1_find : yX1_find.cls = RX1 ∧ yX1_find.cls ≠ "java/lang/invoke/MethodHandle" ∧ yX1_find.cls ≠ "java/lang/invoke/VarHandle" ∧ (parseMethodDescriptor yX1_find.desc).map (fun d => d.parameters.length) = some 2 := by decide +kernel
set_option maxHeartbeats 4000000 in
set_option maxRecDepth 100000 in
theorem c_X1_find (l : Launch) (dC : Nat → ClassId) (dI : Nat → Nat → Nat) (cI cZ cII : ClassId) (qg qg_sets qg_tried qg_strengths qg_strengths0 qg_strengths1 qg_strengths2 qg_strengths3 qg_strengths4 qt qt_rested qc qc_who qc_pull qb qb_pull qb_strength qb_back qb_moods qb_tides qb_carts qu : Nat) (sz : Nat) (g_known : Int32) (g_crossings : Int32) (g_sets : Nat → Int32) (g_tried : Nat → Int32) (g_strengths0 : Nat → Int32) (g_strengths1 : Nat → Int32) (g_strengths2 : Nat → Int32) (g_strengths3 : Nat → Int32) (g_strengths4 : Nat → Int32) (t_crew : Int32) (t_minutes : Int32) (t_oats : Int32) (t_waitHours : Int32) (t_waitMinutes : Int32) (t_rested : Nat → Int32) (c_last : Int32) (c_who : Nat → Int32) (c_pull : Nat → Int32) (b_law : Int32) (b_places : Int32) (b_broad : Int32) (b_horses : Int32) (b_blinds : Int32) (b_besides : Int32) (b_tideCount : Int32) (b_cartCount : Int32) (b_due : Int32) (b_pairs : Int64) (b_pull : Nat → Int32) (b_strength : Nat → Int32) (b_back : Nat → Int32) (b_moods : Nat → Int32) (b_tides : Nat → Int32) (b_carts : Nat → Int32) (u : Nat → Int32) (n2 : Int32) (g_known' : Int32) (g_crossings' : Int32) (g_sets' : Nat → Int32) (g_tried' : Nat → Int32) (g_strengths0' : Nat → Int32) (g_strengths1' : Nat → Int32) (g_strengths2' : Nat → Int32) (g_strengths3' : Nat → Int32) (g_strengths4' : Nat → Int32) (t_crew' : Int32) (t_minutes' : Int32) (t_oats' : Int32) (hf : f_X1_find n2 g_known g_crossings g_sets g_tried g_strengths0 g_strengths1 g_strengths2 g_strengths3 g_strengths4 t_crew t_minutes t_oats c_last c_who c_pull b_law b_broad b_horses b_tideCount b_cartCount b_strength b_back b_tides b_carts u = some (g_known', g_crossings', g_sets', g_tried', g_strengths0', g_strengths1', g_strengths2', g_strengths3', g_strengths4', t_crew', t_minutes', t_oats')) : Met l yX1_find (wM yX1_find cX1_find 3 none) rm_X1_find (PreW (dC, dI) (tyA cI cZ cII) (W_X1g_X7t_X2c_X0b_au6 cI cZ cII qg qg_sets qg_tried qg_strengths qg_strengths0 qg_strengths1 qg_strengths2 qg_strengths3 qg_strengths4 qt qt_rested qc qc_who qc_pull qb qb_pull qb_strength qb_back qb_moods qb_tides qb_carts qu g_known g_crossings g_sets g_tried g_strengths0 g_strengths1 g_strengths2 g_strengths3 g_strengths4 t_crew t_minutes t_oats t_waitHours t_waitMinutes t_rested c_last c_who c_pull b_law b_places b_broad b_horses b_blinds b_besides b_tideCount b_cartCount b_due b_pairs b_pull b_strength b_back b_moods b_tides b_carts u) sz [.ref qg, .ref qu, .int n2]) (PostV (dC, dI) (tyA cI cZ cII) (W_X1g_X7t_X2c_X0b_au6 cI cZ cII qg qg_sets qg_tried qg_strengths qg_strengths0 qg_strengths1 qg_strengths2 qg_strengths3 qg_strengths4 qt qt_rested qc qc_who qc_pull qb qb_pull qb_strength qb_back qb_moods qb_tides qb_carts qu g_known g_crossings g_sets g_tried g_strengths0 g_strengths1 g_strengths2 g_strengths3 g_strengths4 t_crew t_minutes t_oats t_waitHours t_waitMinutes t_rested c_last c_who c_pull b_law b_places b_broad b_horses b_blinds b_besides b_tideCount b_cartCount b_due b_pairs b_pull b_strength b_back b_moods b_tides b_carts u) (W_X1g_X7t_X2c_X0b_au6 cI cZ cII qg qg_sets qg_tried qg_strengths qg_strengths0 qg_strengths1 qg_strengths2 qg_strengths3 qg_strengths4 qt qt_rested qc qc_who qc_pull qb qb_pull qb_strength qb_back qb_moods qb_tides qb_carts qu g_known' g_crossings' g_sets' g_tried' g_strengths0' g_strengths1' g_strengths2' g_strengths3' g_strengths4' t_crew' t_minutes' t_oats' t_waitHours t_waitMinutes t_rested c_last c_who c_pull b_law b_places b_broad b_horses b_blinds b_besides b_tideCount b_cartCount b_due b_pairs b_pull b_strength b_back b_moods b_tides b_carts u) sz) 0 0 (va_A (W_X1g_X7t_X2c_X0b_au6 cI cZ cII qg qg_sets qg_tried qg_strengths qg_strengths0 qg_strengths1 qg_strengths2 qg_strengths3 qg_strengths4 qt qt_rested qc qc_who qc_pull qb qb_pull qb_strength qb_back qb_moods qb_tides qb_carts qu g_known g_crossings g_sets g_tried g_strengths0 g_strengths1 g_strengths2 g_strengths3 g_strengths4 t_crew t_minutes t_oats t_waitHours t_waitMinutes t_rested c_last c_who c_pull b_law b_places b_broad b_horses b_blinds b_besides b_tideCount b_cartCount b_due b_pairs b_pull b_strength b_back b_moods b_tides b_carts u) sz) := by
  refine Met.ofW (cc := cX1_find) (maxL := 3) (ret := none) (by decide) rfl ?_
  intro p e s m args below meth c s₁ B hml hv
  obtain ⟨rfl, hsz, hP, hK, hD0⟩ := hv
  have hx := B.exec
  have hb := B.bytes
  have hr := B.returns
  have hts := atoms_spec (ws := wM yX1_find cX1_find 3 none) B.pre
  have hown : s.vm.findClass RX1 = some m.cls := findClass_of_methodNamed B.named
  have hlocks := B.notSynchronized
  subst hsz
  have hD := hD0.self (sz := s.heap.size)
  obtain ⟨A, hAe⟩ : ∃ A, A = va_A (W_X1g_X7t_X2c_X0b_au6 cI cZ cII qg qg_sets qg_tried qg_strengths qg_strengths0 qg_strengths1 qg_strengths2 qg_strengths3 qg_strengths4 qt qt_rested qc qc_who qc_pull qb qb_pull qb_strength qb_back qb_moods qb_tides qb_carts qu g_known g_crossings g_sets g_tried g_strengths0 g_strengths1 g_strengths2 g_strengths3 g_strengths4 t_crew t_minutes t_oats t_waitHours t_waitMinutes t_rested c_last c_who c_pull b_law b_places b_broad b_horses b_blinds b_besides b_tideCount b_cartCount b_due b_pairs b_pull b_strength b_back b_moods b_tides b_carts u) s.heap.size := ⟨_, rfl⟩
  rw [← hAe] at hD
  have hA : ∀ q : Nat, s.heap.size ≤ q → A q := fun q h => by rw [hAe]; exact Or.inr h
  have hS : va_S A s.heap s.heap [] := va_S.rf
  have hl := lv_entry ([.ref qg, .ref qu, .int n2]) (n := 3) (Nat.le_of_ble_eq_true rfl)
  rw [lg_entry_eq]
  generalize (lg_sl ([.ref qg, .ref qu, .int n2]) ++ List.replicate (3 - (lg_sl ([.ref qg, .ref qu, .int n2])).length) Slot.unset).toArray = ls at hl ⊢
  have hl : lv_has ls 3 [(0, .ref qg), (1, .ref qu), (2, .int n2)] := hl
  generalize ([.ref qg, .ref qu, .int n2] : List Value).toArray = args at hts ⊢
  have hw : ∀ w ∈ wsL_law, w.before args s = true := fun w h => hts w (List.mem_cons_of_mem _ h)
  refine pg_start (fun Q hQ => ?_)
  have RET : ∀ (H : Heap) (locs : List Loc) (ls : Array Slot) (pc : Nat) (x0 : Int32) (x1 : Int32) (x2 : Nat → Int32) (x3 : Nat → Int32) (x4 : Nat → Int32) (x5 : Nat → Int32) (x6 : Nat → Int32) (x7 : Nat → Int32) (x8 : Nat → Int32) (x9 : Int32) (x10 : Int32) (x11 : Int32) , decode cX1_find pc = .ok (.return_, 1) → va_P (dC, dI) vwCl (W_X1g_X7t_X2c_X0b_au6 cI cZ cII qg qg_sets qg_tried qg_strengths qg_strengths0 qg_strengths1 qg_strengths2 qg_strengths3 qg_strengths4 qt qt_rested qc qc_who qc_pull qb qb_pull qb_strength qb_back qb_moods qb_tides qb_carts qu x0 x1 x2 x3 x4 x5 x6 x7 x8 x9 x10 x11 t_waitHours t_waitMinutes t_rested c_last c_who c_pull b_law b_places b_broad b_horses b_blinds b_besides b_tideCount b_cartCount b_due b_pairs b_pull b_strength b_back b_moods b_tides b_carts u) H → va_D A (W_X1g_X7t_X2c_X0b_au6 cI cZ cII qg qg_sets qg_tried qg_strengths qg_strengths0 qg_strengths1 qg_strengths2 qg_strengths3 qg_strengths4 qt qt_rested qc qc_who qc_pull qb qb_pull qb_strength qb_back qb_moods qb_tides qb_carts qu x0 x1 x2 x3 x4 x5 x6 x7 x8 x9 x10 x11 t_waitHours t_waitMinutes t_rested c_last c_who c_pull b_law b_places b_broad b_horses b_blinds b_besides b_tideCount b_cartCount b_due b_pairs b_pull b_strength b_back b_moods b_tides b_carts u) → va_S A s.heap H locs → (some (x0, x1, x2, x3, x4, x5, x6, x7, x8, x9, x10, x11) : Option (Int32 × Int32 × (Nat → Int32) × (Nat → Int32) × (Nat → Int32) × (Nat → Int32) × (Nat → Int32) × (Nat → Int32) × (Nat → Int32) × Int32 × Int32 × Int32)) = some (g_known', g_crossings', g_sets', g_tried', g_strengths0', g_strengths1', g_strengths2', g_strengths3', g_strengths4', t_crew', t_minutes', t_oats') → W p l e rm_X1_find s m args below meth c H locs 0 0 Q (F0 m pc ls []) := by
    intro H locs ls pc x0 x1 x2 x3 x4 x5 x6 x7 x8 x9 x10 x11 hd hP hD hS he
    subst hAe; subst hQ
    simp only [Option.some.injEq, Prod.mk.injEq] at he
    obtain ⟨rfl, rfl, rfl, rfl, rfl, rfl, rfl, rfl, rfl, rfl, rfl, rfl⟩ := he
    exact pg_vret hx hb hr hlocks hK hP hD hS hd
  unfold f_X1_find at hf
  refine lv_aload_n hx hb dX1_find_0 rfl (lv_at hl 0 rfl) ?_
  refine va_get (D := (dC, dI)) (ci := 1) (v := .int g_known) (C := RX1) (T := TX1) (N := 8) hx hb hw inlX1 hown hK hP 0 rfl rfl 0 (by decide) (hw _ mw_40_12) (fun _ h9 => h9) rfl dX1_find_1 ?_
  refine lv_if_ne (tgt := 48) hx hb dX1_find_4 (by decide) (fun h9 => ?_) (fun h9 => ?_)
  · have hf := pg_f h9 hf
    exact RET _ _ _ _ _ _ _ _ _ _ _ _ _ _ _ _ dX1_find_48 hP hD hS hf
  · have hf := pg_t h9 hf
    refine lv_aload_n hx hb dX1_find_7 rfl (lv_at hl 0 rfl) ?_
    refine lv_iconst (v := (-1 : Int32)) hx hb dX1_find_8 (by decide) ?_
    refine va_put (D := (dC, dI)) (ci := 1) (v := .int (-1 : Int32)) (ty := .int) (C := RX1) (T := TX1) (N := 8) hx hb hw inlX1 tyX1 tyX1_ok nmX1 hown hK hP hD hS 0 rfl rfl 1 (by decide) (hw _ mw_40_13) (fun _ h9 => h9) rfl (by decide +kernel) rfl rfl (Nat.le_of_ble_eq_true rfl) dX1_find_9 (fun H locs hP hD hS => ?_)
    have hP : va_P (dC, dI) vwCl (W_X1g_X7t_X2c_X0b_au6 cI cZ cII qg qg_sets qg_tried qg_strengths qg_strengths0 qg_strengths1 qg_strengths2 qg_strengths3 qg_strengths4 qt qt_rested qc qc_who qc_pull qb qb_pull qb_strength qb_back qb_moods qb_tides qb_carts qu g_known (-1 : Int32) g_sets g_tried g_strengths0 g_strengths1 g_strengths2 g_strengths3 g_strengths4 t_crew t_minutes t_oats t_waitHours t_waitMinutes t_rested c_last c_who c_pull b_law b_places b_broad b_horses b_blinds b_besides b_tideCount b_cartCount b_due b_pairs b_pull b_strength b_back b_moods b_tides b_carts u) H := hP
    have hD : va_D A (W_X1g_X7t_X2c_X0b_au6 cI cZ cII qg qg_sets qg_tried qg_strengths qg_strengths0 qg_strengths1 qg_strengths2 qg_strengths3 qg_strengths4 qt qt_rested qc qc_who qc_pull qb qb_pull qb_strength qb_back qb_moods qb_tides qb_carts qu g_known (-1 : Int32) g_sets g_tried g_strengths0 g_strengths1 g_strengths2 g_strengths3 g_strengths4 t_crew t_minutes t_oats t_waitHours t_waitMinutes t_rested c_last c_who c_pull b_law b_places b_broad b_horses b_blinds b_besides b_tideCount b_cartCount b_due b_pairs b_pull b_strength b_back b_moods b_tides b_carts u) := hD
    refine lv_aload_n hx hb dX1_find_12 rfl (lv_at hl 1 rfl) ?_
    refine lv_iconst (v := (0 : Int32)) hx hb dX1_find_13 (by decide) ?_
    refine lv_aload_n hx hb dX1_find_14 rfl (lv_at hl 0 rfl) ?_
    refine va_get (D := (dC, dI)) (ci := 1) (v := .ref qg_strengths) (C := RX1) (T := TX1) (N := 8) hx hb hw inlX1 hown hK hP 0 rfl rfl 7 (by decide) (hw _ mw_5_6) (fun _ h9 => h9) rfl dX1_find_15 ?_
    refine lv_iconst (v := (0 : Int32)) hx hb dX1_find_18 (by decide) ?_
    refine va_ald2 hx hb hK hP 3 2 rfl rfl (pg_lit (by decide)) dX1_find_19 ?_
    refine W.eq (g2 := F0 m 20 ls [.ref qg_strengths0, .int (0 : Int32), .ref qu]) rfl ?_
    refine lv_iconst (v := (0 : Int32)) hx hb dX1_find_20 (by decide) ?_
    refine lv_bipush (v := (6 : Int32)) hx hb dX1_find_21 (by decide) ?_
    refine va_copyi hx hb (hml.trans hl.1.symm) hown (hw _ mw_40_14) (hw _ mw_18_17) (hw _ mw_18_18) (hw _ mw_18_19) hK hP hD hS 21 4 0 0 (ty := .int) rfl rfl rfl rfl rfl (by decide) (by decide) (by decide) (by decide) (by decide) (fun _ _ => rfl) (Nat.le_of_ble_eq_true rfl) (by decide +kernel) dX1_find_23 (fun H locs hP hD hS => ?_)
    have hP : va_P (dC, dI) vwCl (W_X1g_X7t_X2c_X0b_au6 cI cZ cII qg qg_sets qg_tried qg_strengths qg_strengths0 qg_strengths1 qg_strengths2 qg_strengths3 qg_strengths4 qt qt_rested qc qc_who qc_pull qb qb_pull qb_strength qb_back qb_moods qb_tides qb_carts qu g_known (-1 : Int32) g_sets g_tried (va_cpy u g_strengths0 0 0 6) g_strengths1 g_strengths2 g_strengths3 g_strengths4 t_crew t_minutes t_oats t_waitHours t_waitMinutes t_rested c_last c_who c_pull b_law b_places b_broad b_horses b_blinds b_besides b_tideCount b_cartCount b_due b_pairs b_pull b_strength b_back b_moods b_tides b_carts u) H := hP
    have hD : va_D A (W_X1g_X7t_X2c_X0b_au6 cI cZ cII qg qg_sets qg_tried qg_strengths qg_strengths0 qg_strengths1 qg_strengths2 qg_strengths3 qg_strengths4 qt qt_rested qc qc_who qc_pull qb qb_pull qb_strength qb_back qb_moods qb_tides qb_carts qu g_known (-1 : Int32) g_sets g_tried (va_cpy u g_strengths0 0 0 6) g_strengths1 g_strengths2 g_strengths3 g_strengths4 t_crew t_minutes t_oats t_waitHours t_waitMinutes t_rested c_last c_who c_pull b_law b_places b_broad b_horses b_blinds b_besides b_tideCount b_cartCount b_due b_pairs b_pull b_strength b_back b_moods b_tides b_carts u) := hD
    refine lv_aload_n hx hb dX1_find_26 rfl (lv_at hl 0 rfl) ?_
    refine lv_iconst (v := (0 : Int32)) hx hb dX1_find_27 (by decide) ?_
    refine lv_iconst (v := (1 : Int32)) hx hb dX1_find_28 (by decide) ?_
    refine lv_aload_n hx hb dX1_find_29 rfl (lv_at hl 0 rfl) ?_
    refine va_get (D := (dC, dI)) (ci := 1) (v := .ref qb) (C := RX1) (T := TX1) (N := 8) hx hb hw inlX1 hown hK hP 0 rfl rfl 2 (by decide) (hw _ mw_5_7) (fun _ h9 => h9) rfl dX1_find_30 ?_
    refine va_get (D := (dC, dI)) (ci := 0) (v := .int b_cartCount) (C := RX0) (T := TX0) (N := 16) hx hb hw inlX0 hown hK hP 14 rfl rfl 7 (by decide) (hw _ mw_40_15) (fun _ h9 => h9) rfl dX1_find_33 ?_
    refine lv_ishl hx hb dX1_find_36 ?_
    refine lv_iconst (v := (1 : Int32)) hx hb dX1_find_37 (by decide) ?_
    refine lv_isub hx hb dX1_find_38 ?_
    refine lv_iload_n hx hb dX1_find_39 rfl (lv_at hl 2 rfl) ?_
    obtain ⟨g_crossings_1, g_sets_1, g_tried_1, g_strengths1_1, g_strengths2_1, g_strengths3_1, g_strengths4_1, t_crew_1, t_minutes_1, t_oats_1, hc, hf⟩ := bn10_s hf
    refine pg_cVv (As := [.int (0 : Int32), .int (((1 : Int32) <<< (b_cartCount &&& 31)) - (1 : Int32)), .int n2]) (rest := []) (wf := (W_X1g_X7t_X2c_X0b_au6 cI cZ cII qg qg_sets qg_tried qg_strengths qg_strengths0 qg_strengths1 qg_strengths2 qg_strengths3 qg_strengths4 qt qt_rested qc qc_who qc_pull qb qb_pull qb_strength qb_back qb_moods qb_tides qb_carts qu g_known g_crossings_1 g_sets_1 g_tried_1 (va_cpy u g_strengths0 0 0 6) g_strengths1_1 g_strengths2_1 g_strengths3_1 g_strengths4_1 t_crew_1 t_minutes_1 t_oats_1 t_waitHours t_waitMinutes t_rested c_last c_who c_pull b_law b_places b_broad b_horses b_blinds b_besides b_tideCount b_cartCount b_due b_pairs b_pull b_strength b_back b_moods b_tides b_carts u)) ⟨hx, hb, hml, hown, hw⟩ (c_X1_takeOverD0 l dC dI cI cZ cII qg qg_sets qg_tried qg_strengths qg_strengths0 qg_strengths1 qg_strengths2 qg_strengths3 qg_strengths4 qt qt_rested qc qc_who qc_pull qb qb_pull qb_strength qb_back qb_moods qb_tides qb_carts H.size g_known (-1 : Int32) g_sets g_tried (va_cpy u g_strengths0 0 0 6) g_strengths1 g_strengths2 g_strengths3 g_strengths4 t_crew t_minutes t_oats t_waitHours t_waitMinutes t_rested c_last c_who c_pull b_law b_places b_broad b_horses b_blinds b_besides b_tideCount b_cartCount b_due b_pairs b_pull b_strength b_back b_moods b_tides b_carts (((1 : Int32) <<< (b_cartCount &&& 31)) - (1 : Int32)) n2 g_crossings_1 g_sets_1 g_tried_1 g_strengths1_1 g_strengths2_1 g_strengths3_1 g_strengths4_1 t_crew_1 t_minutes_1 t_oats_1 hc) (cwV 3 hts (wM_V mw_40_16 mw_40_17 mw_40_18 mw_2_18 mw_40_19) rfl rfl rfl dk_X1_takeOver ⟨Nat.le_of_ble_eq_true rfl, Nat.le_of_ble_eq_true rfl⟩) hK hP hD hS hA 1 0 rfl rfl rfl [0, 1, 2, 3, 4, 5, 6, 7, 8, 9, 10, 11, 12, 13, 14, 15, 16, 17, 18, 19, 20] [21] [1, 2, 3, 4, 5, 6, 7, 8, 9, 10, 11, 12, 13, 14, 15, 16, 17, 18, 19, 20, 21, 0] rfl rfl rfl (by decide) rfl hl.1 rfl (Nat.le_of_ble_eq_true rfl) dX1_find_40 ⟨Nat.zero_le _, Nat.zero_le _⟩ (fun H locs hP hD hS => ?_)
    refine lv_aload_n hx hb dX1_find_43 rfl (lv_at hl 0 rfl) ?_
    refine lv_iconst (v := (1 : Int32)) hx hb dX1_find_44 (by decide) ?_
    refine va_put (D := (dC, dI)) (ci := 1) (v := .int (1 : Int32)) (ty := .boolean) (C := RX1) (T := TX1) (N := 8) hx hb hw inlX1 tyX1 tyX1_ok nmX1 hown hK hP hD hS 0 rfl rfl 0 (by decide) (hw _ mw_40_12) (fun _ h9 => h9) rfl (by decide +kernel) (by decide) rfl (Nat.le_of_ble_eq_true rfl) dX1_find_45 (fun H locs hP hD hS => ?_)
    have hP : va_P (dC, dI) vwCl (W_X1g_X7t_X2c_X0b_au6 cI cZ cII qg qg_sets qg_tried qg_strengths qg_strengths0 qg_strengths1 qg_strengths2 qg_strengths3 qg_strengths4 qt qt_rested qc qc_who qc_pull qb qb_pull qb_strength qb_back qb_moods qb_tides qb_carts qu (1 : Int32) g_crossings_1 g_sets_1 g_tried_1 (va_cpy u g_strengths0 0 0 6) g_strengths1_1 g_strengths2_1 g_strengths3_1 g_strengths4_1 t_crew_1 t_minutes_1 t_oats_1 t_waitHours t_waitMinutes t_rested c_last c_who c_pull b_law b_places b_broad b_horses b_blinds b_besides b_tideCount b_cartCount b_due b_pairs b_pull b_strength b_back b_moods b_tides b_carts u) H := hP
    have hD : va_D A (W_X1g_X7t_X2c_X0b_au6 cI cZ cII qg qg_sets qg_tried qg_strengths qg_strengths0 qg_strengths1 qg_strengths2 qg_strengths3 qg_strengths4 qt qt_rested qc qc_who qc_pull qb qb_pull qb_strength qb_back qb_moods qb_tides qb_carts qu (1 : Int32) g_crossings_1 g_sets_1 g_tried_1 (va_cpy u g_strengths0 0 0 6) g_strengths1_1 g_strengths2_1 g_strengths3_1 g_strengths4_1 t_crew_1 t_minutes_1 t_oats_1 t_waitHours t_waitMinutes t_rested c_last c_who c_pull b_law b_places b_broad b_horses b_blinds b_besides b_tideCount b_cartCount b_due b_pairs b_pull b_strength b_back b_moods b_tides b_carts u) := hD
    exact RET _ _ _ _ _ _ _ _ _ _ _ _ _ _ _ _ dX1_find_48 hP hD hS hf
def f_X6_note (n1 : Int32) (n2 : Int32) (n3 : Int32) (n4 : Int32) (n5 : Int32) (m_count : Int32) (m_who : Nat → Int32) (m_hours : Nat → Int32) (m_minutes : Nat → Int32) : Option (Int32 × (Nat → Int32) × (Nat → Int32) × (Nat → Int32)) :=
  if m_count < 0 then
    some (m_count, m_who, m_hours, m_minutes)
  else
    if m_count < (10 : Int32) then
      if (m_count * (3 : Int32)) < 0 ∨ 30 ≤ ((m_count * (3 : Int32))).toNatClampNeg then none else
      if ((m_count * (3 : Int32)) + (1 : Int32)) < 0 ∨ 30 ≤ (((m_count * (3 : Int32)) + (1 : Int32))).toNatClampNeg then none else
      if ((m_count * (3 : Int32)) + (2 : Int32)) < 0 ∨ 30 ≤ (((m_count * (3 : Int32)) + (2 : Int32))).toNatClampNeg then none else
      if m_count < 0 ∨ 10 ≤ (m_count).toNatClampNeg then none else
      some ((m_count + (1 : Int32)), (upd (upd (upd m_who ((m_count * (3 : Int32))).toNatClampNeg n1) (((m_count * (3 : Int32)) + (1 : Int32))).toNatClampNeg n2) (((m_count * (3 : Int32)) + (2 : Int32))).toNatClampNeg n3), (upd m_hours (m_count).toNatClampNeg n4), (upd m_minutes (m_count).toNatClampNeg n5))
    else
      some (m_count, m_who, m_hours, m_minutes)
abbrev rm_X6_note : Room := { frames := 0, cells := 0, slots := 0, locals := 0 }
theorem dk_X6_note : yX6_note.cls = RX6 ∧ yX6_note.cls ≠ "java/lang/invoke/MethodHandle" ∧ yX6_note.cls ≠ "java/lang/invoke/VarHandle" ∧ (parseMethodDescriptor yX6_note.desc).map (fun d => d.parameters.length) = some 5 := by decide +kernel
set_option maxHeartbeats 4000000 in
set_option maxRecDepth 100000 in
theorem c_X6_note (l : Launch) (dC : Nat → ClassId) (dI : Nat → Nat → Nat) (cI cZ cII : ClassId) (qm qm_who qm_hours qm_minutes qc qc_who qc_pull qb qb_pull qb_strength qb_back qb_moods qb_tides qb_carts : Nat) (sz : Nat) (m_count : Int32) (m_who : Nat → Int32) (m_hours : Nat → Int32) (m_minutes : Nat → Int32) (c_last : Int32) (c_who : Nat → Int32) (c_pull : Nat → Int32) (b_law : Int32) (b_places : Int32) (b_broad : Int32) (b_horses : Int32) (b_blinds : Int32) (b_besides : Int32) (b_tideCount : Int32) (b_cartCount : Int32) (b_due : Int32) (b_pairs : Int64) (b_pull : Nat → Int32) (b_strength : Nat → Int32) (b_back : Nat → Int32) (b_moods : Nat → Int32) (b_tides : Nat → Int32) (b_carts : Nat → Int32) (n1 : Int32) (n2 : Int32) (n3 : Int32) (n4 : Int32) (n5 : Int32) (m_count' : Int32) (m_who' : Nat → Int32) (m_hours' : Nat → Int32) (m_minutes' : Nat → Int32) (hf : f_X6_note n1 n2 n3 n4 n5 m_count m_who m_hours m_minutes = some (m_count', m_who', m_hours', m_minutes')) : Met l yX6_note (wM yX6_note cX6_note 7 none) rm_X6_note (PreW (dC, dI) (tyA cI cZ cII) (W_X6m_X2c_X0b cI cZ cII qm qm_who qm_hours qm_minutes qc qc_who qc_pull qb qb_pull qb_strength qb_back qb_moods qb_tides qb_carts m_count m_who m_hours m_minutes c_last c_who c_pull b_law b_places b_broad b_horses b_blinds b_besides b_tideCount b_cartCount b_due b_pairs b_pull b_strength b_back b_moods b_tides b_carts) sz [.ref qm, .int n1, .int n2, .int n3, .int n4, .int n5]) (PostV (dC, dI) (tyA cI cZ cII) (W_X6m_X2c_X0b cI cZ cII qm qm_who qm_hours qm_minutes qc qc_who qc_pull qb qb_pull qb_strength qb_back qb_moods qb_tides qb_carts m_count m_who m_hours m_minutes c_last c_who c_pull b_law b_places b_broad b_horses b_blinds b_besides b_tideCount b_cartCount b_due b_pairs b_pull b_strength b_back b_moods b_tides b_carts) (W_X6m_X2c_X0b cI cZ cII qm qm_who qm_hours qm_minutes qc qc_who qc_pull qb qb_pull qb_strength qb_back qb_moods qb_tides qb_carts m_count' m_who' m_hours' m_minutes' c_last c_who c_pull b_law b_places b_broad b_horses b_blinds b_besides b_tideCount b_cartCount b_due b_pairs b_pull b_strength b_back b_moods b_tides b_carts) sz) 0 0 (va_A (W_X6m_X2c_X0b cI cZ cII qm qm_who qm_hours qm_minutes qc qc_who qc_pull qb qb_pull qb_strength qb_back qb_moods qb_tides qb_carts m_count m_who m_hours m_minutes c_last c_who c_pull b_law b_places b_broad b_horses b_blinds b_besides b_tideCount b_cartCount b_due b_pairs b_pull b_strength b_back b_moods b_tides b_carts) sz) := by
  refine Met.ofW (cc := cX6_note) (maxL := 7) (ret := none) (by decide) rfl ?_
  intro p e s m args below meth c s₁ B hml hv
  obtain ⟨rfl, hsz, hP, hK, hD0⟩ := hv
  have hx := B.exec
  have hb := B.bytes
  have hr := B.returns
  have hts := atoms_spec (ws := wM yX6_note cX6_note 7 none) B.pre
  have hown : s.vm.findClass RX6 = some m.cls := findClass_of_methodNamed B.named
  have hlocks := B.notSynchronized
  subst hsz
  have hD := hD0.self (sz := s.heap.size)
  obtain ⟨A, hAe⟩ : ∃ A, A = va_A (W_X6m_X2c_X0b cI cZ cII qm qm_who qm_hours qm_minutes qc qc_who qc_pull qb qb_pull qb_strength qb_back qb_moods qb_tides qb_carts m_count m_who m_hours m_minutes c_last c_who c_pull b_law b_places b_broad b_horses b_blinds b_besides b_tideCount b_cartCount b_due b_pairs b_pull b_strength b_back b_moods b_tides b_carts) s.heap.size := ⟨_, rfl⟩
  rw [← hAe] at hD
  have hA : ∀ q : Nat, s.heap.size ≤ q → A q := fun q h => by rw [hAe]; exact Or.inr h
  have hS : va_S A s.heap s.heap [] := va_S.rf
  have hl := lv_entry ([.ref qm, .int n1, .int n2, .int n3, .int n4, .int n5]) (n := 7) (Nat.le_of_ble_eq_true rfl)
  rw [lg_entry_eq]
  generalize (lg_sl ([.ref qm, .int n1, .int n2, .int n3, .int n4, .int n5]) ++ List.replicate (7 - (lg_sl ([.ref qm, .int n1, .int n2, .int n3, .int n4, .int n5])).length) Slot.unset).toArray = ls at hl ⊢
  have hl : lv_has ls 7 [(0, .ref qm), (1, .int n1), (2, .int n2), (3, .int n3), (4, .int n4), (5, .int n5)] := hl
  generalize ([.ref qm, .int n1, .int n2, .int n3, .int n4, .int n5] : List Value).toArray = args at hts ⊢
  have hw : ∀ w ∈ wsL_law, w.before args s = true := fun w h => hts w (List.mem_cons_of_mem _ h)
  refine pg_start (fun Q hQ => ?_)
  have RET : ∀ (H : Heap) (locs : List Loc) (ls : Array Slot) (pc : Nat) (x0 : Int32) (x1 : Nat → Int32) (x2 : Nat → Int32) (x3 : Nat → Int32) , decode cX6_note pc = .ok (.return_, 1) → va_P (dC, dI) vwCl (W_X6m_X2c_X0b cI cZ cII qm qm_who qm_hours qm_minutes qc qc_who qc_pull qb qb_pull qb_strength qb_back qb_moods qb_tides qb_carts x0 x1 x2 x3 c_last c_who c_pull b_law b_places b_broad b_horses b_blinds b_besides b_tideCount b_cartCount b_due b_pairs b_pull b_strength b_back b_moods b_tides b_carts) H → va_D A (W_X6m_X2c_X0b cI cZ cII qm qm_who qm_hours qm_minutes qc qc_who qc_pull qb qb_pull qb_strength qb_back qb_moods qb_tides qb_carts x0 x1 x2 x3 c_last c_who c_pull b_law b_places b_broad b_horses b_blinds b_besides b_tideCount b_cartCount b_due b_pairs b_pull b_strength b_back b_moods b_tides b_carts) → va_S A s.heap H locs → (some (x0, x1, x2, x3) : Option (Int32 × (Nat → Int32) × (Nat → Int32) × (Nat → Int32))) = some (m_count', m_who', m_hours', m_minutes') → W p l e rm_X6_note s m args below meth c H locs 0 0 Q (F0 m pc ls []) := by
    intro H locs ls pc x0 x1 x2 x3 hd hP hD hS he
    subst hAe; subst hQ
    simp only [Option.some.injEq, Prod.mk.injEq] at he
    obtain ⟨rfl, rfl, rfl, rfl⟩ := he
    exact pg_vret hx hb hr hlocks hK hP hD hS hd
  unfold f_X6_note at hf
  refine lv_aload_n hx hb dX6_note_0 rfl (lv_at hl 0 rfl) ?_
  refine va_get (D := (dC, dI)) (ci := 6) (v := .int m_count) (C := RX6) (T := TX6) (N := 6) hx hb hw inlX6 hown hK hP 0 rfl rfl 0 (by decide) (hw _ mw_42_23) (fun _ h9 => h9) rfl dX6_note_1 ?_
  refine lv_if_lt (tgt := 16) hx hb dX6_note_4 (by decide) (fun h9 => ?_) (fun h9 => ?_)
  · have hf := pg_t h9 hf
    exact RET _ _ _ _ _ _ _ _ dX6_note_16 hP hD hS hf
  · have hf := pg_f h9 hf
    refine lv_aload_n hx hb dX6_note_7 rfl (lv_at hl 0 rfl) ?_
    refine va_get (D := (dC, dI)) (ci := 6) (v := .int m_count) (C := RX6) (T := TX6) (N := 6) hx hb hw inlX6 hown hK hP 0 rfl rfl 0 (by decide) (hw _ mw_42_23) (fun _ h9 => h9) rfl dX6_note_8 ?_
    refine lv_bipush (v := (10 : Int32)) hx hb dX6_note_11 (by decide) ?_
    refine lv_icmp_lt (tgt := 17) hx hb dX6_note_13 (by decide) (fun h9 => ?_) (fun h9 => ?_)
    · have hf := pg_t h9 hf
      refine lv_aload_n hx hb dX6_note_17 rfl (lv_at hl 0 rfl) ?_
      refine va_get (D := (dC, dI)) (ci := 6) (v := .int m_count) (C := RX6) (T := TX6) (N := 6) hx hb hw inlX6 hown hK hP 0 rfl rfl 0 (by decide) (hw _ mw_42_23) (fun _ h9 => h9) rfl dX6_note_18 ?_
      refine lv_iconst (v := (3 : Int32)) hx hb dX6_note_21 (by decide) ?_
      refine lv_imul hx hb dX6_note_22 ?_
      refine lv_istore (lv' := [(6, .int (m_count * (3 : Int32))), (0, .ref qm), (1, .int n1), (2, .int n2), (3, .int n3), (4, .int n4), (5, .int n5)]) hx hb dX6_note_23 hl (by decide) rfl (fun ls hl => ?_)
      refine lv_aload_n hx hb dX6_note_25 rfl (lv_at hl 1 rfl) ?_
      refine va_get (D := (dC, dI)) (ci := 6) (v := .ref qm_who) (C := RX6) (T := TX6) (N := 6) hx hb hw inlX6 hown hK hP 0 rfl rfl 3 (by decide) (hw _ mw_5_14) (fun _ h9 => h9) rfl dX6_note_26 ?_
      refine lv_iload hx hb dX6_note_29 (lv_at hl 0 rfl) ?_
      refine lv_iload_n hx hb dX6_note_31 rfl (lv_at hl 2 rfl) ?_
      obtain ⟨hi1, hf⟩ := pg_chk hf
      refine va_iast hx hb hK hP hD hS 1 0 rfl rfl hi1 dX6_note_32 (fun H locs hP hD hS => ?_)
      have hP : va_P (dC, dI) vwCl (W_X6m_X2c_X0b cI cZ cII qm qm_who qm_hours qm_minutes qc qc_who qc_pull qb qb_pull qb_strength qb_back qb_moods qb_tides qb_carts m_count (upd m_who ((m_count * (3 : Int32))).toNatClampNeg n1) m_hours m_minutes c_last c_who c_pull b_law b_places b_broad b_horses b_blinds b_besides b_tideCount b_cartCount b_due b_pairs b_pull b_strength b_back b_moods b_tides b_carts) H := hP
      have hD : va_D A (W_X6m_X2c_X0b cI cZ cII qm qm_who qm_hours qm_minutes qc qc_who qc_pull qb qb_pull qb_strength qb_back qb_moods qb_tides qb_carts m_count (upd m_who ((m_count * (3 : Int32))).toNatClampNeg n1) m_hours m_minutes c_last c_who c_pull b_law b_places b_broad b_horses b_blinds b_besides b_tideCount b_cartCount b_due b_pairs b_pull b_strength b_back b_moods b_tides b_carts) := hD
      refine lv_aload_n hx hb dX6_note_33 rfl (lv_at hl 1 rfl) ?_
      refine va_get (D := (dC, dI)) (ci := 6) (v := .ref qm_who) (C := RX6) (T := TX6) (N := 6) hx hb hw inlX6 hown hK hP 0 rfl rfl 3 (by decide) (hw _ mw_5_14) (fun _ h9 => h9) rfl dX6_note_34 ?_
      refine lv_iload hx hb dX6_note_37 (lv_at hl 0 rfl) ?_
      refine lv_iconst (v := (1 : Int32)) hx hb dX6_note_39 (by decide) ?_
      refine lv_iadd hx hb dX6_note_40 ?_
      refine lv_iload_n hx hb dX6_note_41 rfl (lv_at hl 3 rfl) ?_
      obtain ⟨hi2, hf⟩ := pg_chk hf
      refine va_iast hx hb hK hP hD hS 1 0 rfl rfl hi2 dX6_note_42 (fun H locs hP hD hS => ?_)
      have hP : va_P (dC, dI) vwCl (W_X6m_X2c_X0b cI cZ cII qm qm_who qm_hours qm_minutes qc qc_who qc_pull qb qb_pull qb_strength qb_back qb_moods qb_tides qb_carts m_count (upd (upd m_who ((m_count * (3 : Int32))).toNatClampNeg n1) (((m_count * (3 : Int32)) + (1 : Int32))).toNatClampNeg n2) m_hours m_minutes c_last c_who c_pull b_law b_places b_broad b_horses b_blinds b_besides b_tideCount b_cartCount b_due b_pairs b_pull b_strength b_back b_moods b_tides b_carts) H := hP
      have hD : va_D A (W_X6m_X2c_X0b cI cZ cII qm qm_who qm_hours qm_minutes qc qc_who qc_pull qb qb_pull qb_strength qb_back qb_moods qb_tides qb_carts m_count (upd (upd m_who ((m_count * (3 : Int32))).toNatClampNeg n1) (((m_count * (3 : Int32)) + (1 : Int32))).toNatClampNeg n2) m_hours m_minutes c_last c_who c_pull b_law b_places b_broad b_horses b_blinds b_besides b_tideCount b_cartCount b_due b_pairs b_pull b_strength b_back b_moods b_tides b_carts) := hD
      refine lv_aload_n hx hb dX6_note_43 rfl (lv_at hl 1 rfl) ?_
      refine va_get (D := (dC, dI)) (ci := 6) (v := .ref qm_who) (C := RX6) (T := TX6) (N := 6) hx hb hw inlX6 hown hK hP 0 rfl rfl 3 (by decide) (hw _ mw_5_14) (fun _ h9 => h9) rfl dX6_note_44 ?_
      refine lv_iload hx hb dX6_note_47 (lv_at hl 0 rfl) ?_
      refine lv_iconst (v := (2 : Int32)) hx hb dX6_note_49 (by decide) ?_
      refine lv_iadd hx hb dX6_note_50 ?_
      refine lv_iload_n hx hb dX6_note_51 rfl (lv_at hl 4 rfl) ?_
      obtain ⟨hi3, hf⟩ := pg_chk hf
      refine va_iast hx hb hK hP hD hS 1 0 rfl rfl hi3 dX6_note_52 (fun H locs hP hD hS => ?_)
      have hP : va_P (dC, dI) vwCl (W_X6m_X2c_X0b cI cZ cII qm qm_who qm_hours qm_minutes qc qc_who qc_pull qb qb_pull qb_strength qb_back qb_moods qb_tides qb_carts m_count (upd (upd (upd m_who ((m_count * (3 : Int32))).toNatClampNeg n1) (((m_count * (3 : Int32)) + (1 : Int32))).toNatClampNeg n2) (((m_count * (3 : Int32)) + (2 : Int32))).toNatClampNeg n3) m_hours m_minutes c_last c_who c_pull b_law b_places b_broad b_horses b_blinds b_besides b_tideCount b_cartCount b_due b_pairs b_pull b_strength b_back b_moods b_tides b_carts) H := hP
      have hD : va_D A (W_X6m_X2c_X0b cI cZ cII qm qm_who qm_hours qm_minutes qc qc_who qc_pull qb qb_pull qb_strength qb_back qb_moods qb_tides qb_carts m_count (upd (upd (upd m_who ((m_count * (3 : Int32))).toNatClampNeg n1) (((m_count * (3 : Int32)) + (1 : Int32))).toNatClampNeg n2) (((m_count * (3 : Int32)) + (2 : Int32))).toNatClampNeg n3) m_hours m_minutes c_last c_who c_pull b_law b_places b_broad b_horses b_blinds b_besides b_tideCount b_cartCount b_due b_pairs b_pull b_strength b_back b_moods b_tides b_carts) := hD
      refine lv_aload_n hx hb dX6_note_53 rfl (lv_at hl 1 rfl) ?_
      refine va_get (D := (dC, dI)) (ci := 6) (v := .ref qm_hours) (C := RX6) (T := TX6) (N := 6) hx hb hw inlX6 hown hK hP 0 rfl rfl 4 (by decide) (hw _ mw_5_15) (fun _ h9 => h9) rfl dX6_note_54 ?_
      refine lv_aload_n hx hb dX6_note_57 rfl (lv_at hl 1 rfl) ?_
      refine va_get (D := (dC, dI)) (ci := 6) (v := .int m_count) (C := RX6) (T := TX6) (N := 6) hx hb hw inlX6 hown hK hP 0 rfl rfl 0 (by decide) (hw _ mw_42_23) (fun _ h9 => h9) rfl dX6_note_58 ?_
      refine lv_iload hx hb dX6_note_61 (lv_at hl 5 rfl) ?_
      obtain ⟨hi4, hf⟩ := pg_chk hf
      refine va_iast hx hb hK hP hD hS 2 0 rfl rfl hi4 dX6_note_63 (fun H locs hP hD hS => ?_)
      have hP : va_P (dC, dI) vwCl (W_X6m_X2c_X0b cI cZ cII qm qm_who qm_hours qm_minutes qc qc_who qc_pull qb qb_pull qb_strength qb_back qb_moods qb_tides qb_carts m_count (upd (upd (upd m_who ((m_count * (3 : Int32))).toNatClampNeg n1) (((m_count * (3 : Int32)) + (1 : Int32))).toNatClampNeg n2) (((m_count * (3 : Int32)) + (2 : Int32))).toNatClampNeg n3) (upd m_hours (m_count).toNatClampNeg n4) m_minutes c_last c_who c_pull b_law b_places b_broad b_horses b_blinds b_besides b_tideCount b_cartCount b_due b_pairs b_pull b_strength b_back b_moods b_tides b_carts) H := hP
      have hD : va_D A (W_X6m_X2c_X0b cI cZ cII qm qm_who qm_hours qm_minutes qc qc_who qc_pull qb qb_pull qb_strength qb_back qb_moods qb_tides qb_carts m_count (upd (upd (upd m_who ((m_count * (3 : Int32))).toNatClampNeg n1) (((m_count * (3 : Int32)) + (1 : Int32))).toNatClampNeg n2) (((m_count * (3 : Int32)) + (2 : Int32))).toNatClampNeg n3) (upd m_hours (m_count).toNatClampNeg n4) m_minutes c_last c_who c_pull b_law b_places b_broad b_horses b_blinds b_besides b_tideCount b_cartCount b_due b_pairs b_pull b_strength b_back b_moods b_tides b_carts) := hD
      refine lv_aload_n hx hb dX6_note_64 rfl (lv_at hl 1 rfl) ?_
      refine va_get (D := (dC, dI)) (ci := 6) (v := .ref qm_minutes) (C := RX6) (T := TX6) (N := 6) hx hb hw inlX6 hown hK hP 0 rfl rfl 5 (by decide) (hw _ mw_5_16) (fun _ h9 => h9) rfl dX6_note_65 ?_
      refine lv_aload_n hx hb dX6_note_68 rfl (lv_at hl 1 rfl) ?_
      refine va_get (D := (dC, dI)) (ci := 6) (v := .int m_count) (C := RX6) (T := TX6) (N := 6) hx hb hw inlX6 hown hK hP 0 rfl rfl 0 (by decide) (hw _ mw_42_23) (fun _ h9 => h9) rfl dX6_note_69 ?_
      refine lv_iload hx hb dX6_note_72 (lv_at hl 6 rfl) ?_
      refine va_iast hx hb hK hP hD hS 3 0 rfl rfl hi4 dX6_note_74 (fun H locs hP hD hS => ?_)
      have hP : va_P (dC, dI) vwCl (W_X6m_X2c_X0b cI cZ cII qm qm_who qm_hours qm_minutes qc qc_who qc_pull qb qb_pull qb_strength qb_back qb_moods qb_tides qb_carts m_count (upd (upd (upd m_who ((m_count * (3 : Int32))).toNatClampNeg n1) (((m_count * (3 : Int32)) + (1 : Int32))).toNatClampNeg n2) (((m_count * (3 : Int32)) + (2 : Int32))).toNatClampNeg n3) (upd m_hours (m_count).toNatClampNeg n4) (upd m_minutes (m_count).toNatClampNeg n5) c_last c_who c_pull b_law b_places b_broad b_horses b_blinds b_besides b_tideCount b_cartCount b_due b_pairs b_pull b_strength b_back b_moods b_tides b_carts) H := hP
      have hD : va_D A (W_X6m_X2c_X0b cI cZ cII qm qm_who qm_hours qm_minutes qc qc_who qc_pull qb qb_pull qb_strength qb_back qb_moods qb_tides qb_carts m_count (upd (upd (upd m_who ((m_count * (3 : Int32))).toNatClampNeg n1) (((m_count * (3 : Int32)) + (1 : Int32))).toNatClampNeg n2) (((m_count * (3 : Int32)) + (2 : Int32))).toNatClampNeg n3) (upd m_hours (m_count).toNatClampNeg n4) (upd m_minutes (m_count).toNatClampNeg n5) c_last c_who c_pull b_law b_places b_broad b_horses b_blinds b_besides b_tideCount b_cartCount b_due b_pairs b_pull b_strength b_back b_moods b_tides b_carts) := hD
      refine lv_aload_n hx hb dX6_note_75 rfl (lv_at hl 1 rfl) ?_
      refine lv_dup hx hb dX6_note_76 rfl ?_
      refine va_get (D := (dC, dI)) (ci := 6) (v := .int m_count) (C := RX6) (T := TX6) (N := 6) hx hb hw inlX6 hown hK hP 0 rfl rfl 0 (by decide) (hw _ mw_42_23) (fun _ h9 => h9) rfl dX6_note_77 ?_
      refine lv_iconst (v := (1 : Int32)) hx hb dX6_note_80 (by decide) ?_
      refine lv_iadd hx hb dX6_note_81 ?_
      refine va_put (D := (dC, dI)) (ci := 6) (v := .int (m_count + (1 : Int32))) (ty := .int) (C := RX6) (T := TX6) (N := 6) hx hb hw inlX6 tyX6 tyX6_ok nmX6 hown hK hP hD hS 0 rfl rfl 0 (by decide) (hw _ mw_42_23) (fun _ h9 => h9) rfl (by decide +kernel) rfl rfl (Nat.le_of_ble_eq_true rfl) dX6_note_82 (fun H locs hP hD hS => ?_)
      have hP : va_P (dC, dI) vwCl (W_X6m_X2c_X0b cI cZ cII qm qm_who qm_hours qm_minutes qc qc_who qc_pull qb qb_pull qb_strength qb_back qb_moods qb_tides qb_carts (m_count + (1 : Int32)) (upd (upd (upd m_who ((m_count * (3 : Int32))).toNatClampNeg n1) (((m_count * (3 : Int32)) + (1 : Int32))).toNatClampNeg n2) (((m_count * (3 : Int32)) + (2 : Int32))).toNatClampNeg n3) (upd m_hours (m_count).toNatClampNeg n4) (upd m_minutes (m_count).toNatClampNeg n5) c_last c_who c_pull b_law b_places b_broad b_horses b_blinds b_besides b_tideCount b_cartCount b_due b_pairs b_pull b_strength b_back b_moods b_tides b_carts) H := hP
      have hD : va_D A (W_X6m_X2c_X0b cI cZ cII qm qm_who qm_hours qm_minutes qc qc_who qc_pull qb qb_pull qb_strength qb_back qb_moods qb_tides qb_carts (m_count + (1 : Int32)) (upd (upd (upd m_who ((m_count * (3 : Int32))).toNatClampNeg n1) (((m_count * (3 : Int32)) + (1 : Int32))).toNatClampNeg n2) (((m_count * (3 : Int32)) + (2 : Int32))).toNatClampNeg n3) (upd m_hours (m_count).toNatClampNeg n4) (upd m_minutes (m_count).toNatClampNeg n5) c_last c_who c_pull b_law b_places b_broad b_horses b_blinds b_besides b_tideCount b_cartCount b_due b_pairs b_pull b_strength b_back b_moods b_tides b_carts) := hD
      exact RET _ _ _ _ _ _ _ _ dX6_note_85 hP hD hS hf
    · have hf := pg_f h9 hf
      exact RET _ _ _ _ _ _ _ _ dX6_note_16 hP hD hS hf
def f_X2_paceBbstrength (n1 : Int32) (n3 : Int32) (c_who : Nat → Int32) (c_pull : Nat → Int32) (b_law : Int32) (b_strength : Nat → Int32) : Option (Int32) :=
  jn3 (fun (y4_1 : Int32) (y5_1 : Int32) (y6_1 : Int32) =>
    if b_law = (1 : Int32) then
      some ((y6_1 * y4_1))
    else
      some (y5_1)
  ) (fun K97_1 =>
  lq4 (fun rec2 (y4_2 : Int32) (y5_2 : Int32) (y6_2 : Int32) (y7_2 : Int32) =>
    if (n1 + (3 : Int32)) ≤ y7_2 then
      K97_1 y4_2 y5_2 y6_2
    else
      if y7_2 < 0 ∨ 687 ≤ (y7_2).toNatClampNeg then none else
      jn3 (fun (y4_4 : Int32) (y5_4 : Int32) (y6_4 : Int32) =>
        rec2 y4_4 y5_4 y6_4 (y7_2 + (1 : Int32))
      ) (fun J91_4 =>
      if (c_who (y7_2).toNatClampNeg) < 0 then
        J91_4 y4_2 y5_2 y6_2
      else
        if (6 : Int32) ≤ (c_who (y7_2).toNatClampNeg) then
          J91_4 y4_2 y5_2 y6_2
        else
          if (c_who (y7_2).toNatClampNeg) < 0 ∨ 6 ≤ ((c_who (y7_2).toNatClampNeg)).toNatClampNeg then none else
          jn1 (fun (z0_6 : Int32) =>
            jn1 (fun (z0_7 : Int32) =>
              J91_4 (y4_2 + (1 : Int32)) (y5_2 + z0_6) z0_7
            ) (fun J86_7 =>
            if y4_2 = 0 then
              J86_7 z0_6
            else
              J86_7 (if z0_6 < y6_2 then z0_6 else y6_2)
            )
          ) (fun J60_6 =>
          if (b_strength ((c_who (y7_2).toNatClampNeg)).toNatClampNeg) ≤ n3 then
            J60_6 (0 : Int32)
          else
            J60_6 (c_pull (y7_2).toNatClampNeg)
          )
      )
  ) fu (0 : Int32) (0 : Int32) (0 : Int32) n1
  )
abbrev rm_X2_paceBbstrength : Room := { frames := 1, cells := 0, slots := 0, locals := 40 }
set_option maxHeartbeats 4000000 in
set_option maxRecDepth 100000 in
theorem c_X2_paceBbstrength (l : Launch) (dC : Nat → ClassId) (dI : Nat → Nat → Nat) (cI cZ cII : ClassId) (qc qc_who qc_pull qb qb_pull qb_strength qb_back qb_moods qb_tides qb_carts : Nat) (sz : Nat) (c_last : Int32) (c_who : Nat → Int32) (c_pull : Nat → Int32) (b_law : Int32) (b_places : Int32) (b_broad : Int32) (b_horses : Int32) (b_blinds : Int32) (b_besides : Int32) (b_tideCount : Int32) (b_cartCount : Int32) (b_due : Int32) (b_pairs : Int64) (b_pull : Nat → Int32) (b_strength : Nat → Int32) (b_back : Nat → Int32) (b_moods : Nat → Int32) (b_tides : Nat → Int32) (b_carts : Nat → Int32) (n1 : Int32) (n3 : Int32) (rr : Int32) (hf : f_X2_paceBbstrength n1 n3 c_who c_pull b_law b_strength = some (rr)) : Met l yX2_pace (wM yX2_pace cX2_pace 10 (some .int)) rm_X2_paceBbstrength (PreW (dC, dI) (tyA cI cZ cII) (W_X2c_X0b cI cZ cII qc qc_who qc_pull qb qb_pull qb_strength qb_back qb_moods qb_tides qb_carts c_last c_who c_pull b_law b_places b_broad b_horses b_blinds b_besides b_tideCount b_cartCount b_due b_pairs b_pull b_strength b_back b_moods b_tides b_carts) sz [.ref qc, .int n1, .ref qb_strength, .int n3]) (PostI (dC, dI) (tyA cI cZ cII) rr (W_X2c_X0b cI cZ cII qc qc_who qc_pull qb qb_pull qb_strength qb_back qb_moods qb_tides qb_carts c_last c_who c_pull b_law b_places b_broad b_horses b_blinds b_besides b_tideCount b_cartCount b_due b_pairs b_pull b_strength b_back b_moods b_tides b_carts) (W_X2c_X0b cI cZ cII qc qc_who qc_pull qb qb_pull qb_strength qb_back qb_moods qb_tides qb_carts c_last c_who c_pull b_law b_places b_broad b_horses b_blinds b_besides b_tideCount b_cartCount b_due b_pairs b_pull b_strength b_back b_moods b_tides b_carts) sz) 0 0 (va_A (W_X2c_X0b cI cZ cII qc qc_who qc_pull qb qb_pull qb_strength qb_back qb_moods qb_tides qb_carts c_last c_who c_pull b_law b_places b_broad b_horses b_blinds b_besides b_tideCount b_cartCount b_due b_pairs b_pull b_strength b_back b_moods b_tides b_carts) sz) := by
  refine Met.ofW (cc := cX2_pace) (maxL := 10) (ret := (some .int)) (by decide) rfl ?_
  intro p e s m args below meth c s₁ B hml hv
  obtain ⟨rfl, hsz, hP, hK, hD0⟩ := hv
  have hx := B.exec
  have hb := B.bytes
  have hr := B.returns
  have hts := atoms_spec (ws := wM yX2_pace cX2_pace 10 (some .int)) B.pre
  have hown : s.vm.findClass RX2 = some m.cls := findClass_of_methodNamed B.named
  have hlocks := B.notSynchronized
  subst hsz
  have hD := hD0.self (sz := s.heap.size)
  obtain ⟨A, hAe⟩ : ∃ A, A = va_A (W_X2c_X0b cI cZ cII qc qc_who qc_pull qb qb_pull qb_strength qb_back qb_moods qb_tides qb_carts c_last c_who c_pull b_law b_places b_broad b_horses b_blinds b_besides b_tideCount b_cartCount b_due b_pairs b_pull b_strength b_back b_moods b_tides b_carts) s.heap.size := ⟨_, rfl⟩
  rw [← hAe] at hD
  have hA : ∀ q : Nat, s.heap.size ≤ q → A q := fun q h => by rw [hAe]; exact Or.inr h
  have hS : va_S A s.heap s.heap [] := va_S.rf
  have hl := lv_entry ([.ref qc, .int n1, .ref qb_strength, .int n3]) (n := 10) (Nat.le_of_ble_eq_true rfl)
  rw [lg_entry_eq]
  generalize (lg_sl ([.ref qc, .int n1, .ref qb_strength, .int n3]) ++ List.replicate (10 - (lg_sl ([.ref qc, .int n1, .ref qb_strength, .int n3])).length) Slot.unset).toArray = ls at hl ⊢
  have hl : lv_has ls 10 [(0, .ref qc), (1, .int n1), (2, .ref qb_strength), (3, .int n3)] := hl
  generalize ([.ref qc, .int n1, .ref qb_strength, .int n3] : List Value).toArray = args at hts ⊢
  have hw : ∀ w ∈ wsL_law, w.before args s = true := fun w h => hts w (List.mem_cons_of_mem _ h)
  refine pg_start (fun Q hQ => ?_)
  have RET : ∀ (H : Heap) (locs : List Loc) (ls : Array Slot) (pc : Nat) (v : Int32) , decode cX2_pace pc = .ok (.ireturn, 1) → va_P (dC, dI) vwCl (W_X2c_X0b cI cZ cII qc qc_who qc_pull qb qb_pull qb_strength qb_back qb_moods qb_tides qb_carts c_last c_who c_pull b_law b_places b_broad b_horses b_blinds b_besides b_tideCount b_cartCount b_due b_pairs b_pull b_strength b_back b_moods b_tides b_carts) H → va_D A (W_X2c_X0b cI cZ cII qc qc_who qc_pull qb qb_pull qb_strength qb_back qb_moods qb_tides qb_carts c_last c_who c_pull b_law b_places b_broad b_horses b_blinds b_besides b_tideCount b_cartCount b_due b_pairs b_pull b_strength b_back b_moods b_tides b_carts) → va_S A s.heap H locs → (some (v) : Option (Int32)) = some (rr) → W p l e rm_X2_paceBbstrength s m args below meth c H locs 0 0 Q (F0 m pc ls [.int v]) := by
    intro H locs ls pc v hd hP hD hS he
    subst hAe; subst hQ
    obtain rfl := Option.some.inj he
    exact pg_iret hx hb hr hlocks hK hP hD hS hd
  unfold f_X2_paceBbstrength at hf
  refine lv_iconst (v := (0 : Int32)) hx hb dX2_pace_0 (by decide) ?_
  refine lv_istore (lv' := [(4, .int (0 : Int32)), (0, .ref qc), (1, .int n1), (2, .ref qb_strength), (3, .int n3)]) hx hb dX2_pace_1 hl (by decide) rfl (fun ls hl => ?_)
  refine lv_iconst (v := (0 : Int32)) hx hb dX2_pace_3 (by decide) ?_
  refine lv_istore (lv' := [(5, .int (0 : Int32)), (4, .int (0 : Int32)), (0, .ref qc), (1, .int n1), (2, .ref qb_strength), (3, .int n3)]) hx hb dX2_pace_4 hl (by decide) rfl (fun ls hl => ?_)
  refine lv_iconst (v := (0 : Int32)) hx hb dX2_pace_6 (by decide) ?_
  refine lv_istore (lv' := [(6, .int (0 : Int32)), (5, .int (0 : Int32)), (4, .int (0 : Int32)), (0, .ref qc), (1, .int n1), (2, .ref qb_strength), (3, .int n3)]) hx hb dX2_pace_7 hl (by decide) rfl (fun ls hl => ?_)
  refine lv_iload_n hx hb dX2_pace_9 rfl (lv_at hl 4 rfl) ?_
  refine lv_istore (lv' := [(7, .int n1), (6, .int (0 : Int32)), (5, .int (0 : Int32)), (4, .int (0 : Int32)), (0, .ref qc), (1, .int n1), (2, .ref qb_strength), (3, .int n3)]) hx hb dX2_pace_10 hl (by decide) rfl (fun ls hl => ?_)
  obtain ⟨K97_1, hK97_1, hf⟩ := jn3_s hf
  have WK97_1 : ∀ (y4_1 : Int32) (y5_1 : Int32) (y6_1 : Int32) (H : Heap) (locs : List Loc) (ls : Array Slot), va_P (dC, dI) vwCl (W_X2c_X0b cI cZ cII qc qc_who qc_pull qb qb_pull qb_strength qb_back qb_moods qb_tides qb_carts c_last c_who c_pull b_law b_places b_broad b_horses b_blinds b_besides b_tideCount b_cartCount b_due b_pairs b_pull b_strength b_back b_moods b_tides b_carts) H → va_D A (W_X2c_X0b cI cZ cII qc qc_who qc_pull qb qb_pull qb_strength qb_back qb_moods qb_tides qb_carts c_last c_who c_pull b_law b_places b_broad b_horses b_blinds b_besides b_tideCount b_cartCount b_due b_pairs b_pull b_strength b_back b_moods b_tides b_carts) → va_S A s.heap H locs → lv_has ls 10 [(0, .ref qc), (4, .int y4_1), (5, .int y5_1), (6, .int y6_1)] → K97_1 y4_1 y5_1 y6_1 = some (rr) → W p l e rm_X2_paceBbstrength s m args below meth c H locs 0 0 Q (F0 m 97 ls []) := by
    intro y4_1 y5_1 y6_1 H locs ls hP hD hS hl hf
    have hf := hK97_1 _ _ _ hf
    refine lv_aload_n hx hb dX2_pace_97 rfl (lv_at hl 0 rfl) ?_
    refine va_get (D := (dC, dI)) (ci := 2) (v := .ref qb) (C := RX2) (T := TX2) (N := 4) hx hb hw inlX2 hown hK hP 0 rfl rfl 1 (by decide) (hw _ mw_3_21) (fun _ h9 => h9) rfl dX2_pace_98 ?_
    refine va_get (D := (dC, dI)) (ci := 0) (v := .int b_law) (C := RX0) (T := TX0) (N := 16) hx hb hw inlX0 hown hK hP 3 rfl rfl 0 (by decide) (hw _ mw_29_11) (fun _ h9 => h9) rfl dX2_pace_101 ?_
    refine lv_iconst (v := (1 : Int32)) hx hb dX2_pace_104 (by decide) ?_
    refine lv_icmp_ne (tgt := 116) hx hb dX2_pace_105 (by decide) (fun h9 => ?_) (fun h9 => ?_)
    · have hf := pg_f h9 hf
      refine lv_iload hx hb dX2_pace_116 (lv_at hl 2 rfl) ?_
      exact RET _ _ _ _ _ dX2_pace_118 hP hD hS hf
    · have hf := pg_t h9 hf
      refine lv_iload hx hb dX2_pace_108 (lv_at hl 3 rfl) ?_
      refine lv_iload hx hb dX2_pace_110 (lv_at hl 1 rfl) ?_
      refine lv_imul hx hb dX2_pace_112 ?_
      refine lv_goto (tgt := 118) hx hb dX2_pace_113 (by decide) ?_
      exact RET _ _ _ _ _ dX2_pace_118 hP hD hS hf
  obtain ⟨B2, hB2, hf⟩ := lq4_n hf
  have WL2 : ∀ (n9 : Nat) (y4_2 : Int32) (y5_2 : Int32) (y6_2 : Int32) (y7_2 : Int32) (H : Heap) (locs : List Loc) (ls : Array Slot), va_P (dC, dI) vwCl (W_X2c_X0b cI cZ cII qc qc_who qc_pull qb qb_pull qb_strength qb_back qb_moods qb_tides qb_carts c_last c_who c_pull b_law b_places b_broad b_horses b_blinds b_besides b_tideCount b_cartCount b_due b_pairs b_pull b_strength b_back b_moods b_tides b_carts) H → va_D A (W_X2c_X0b cI cZ cII qc qc_who qc_pull qb qb_pull qb_strength qb_back qb_moods qb_tides qb_carts c_last c_who c_pull b_law b_places b_broad b_horses b_blinds b_besides b_tideCount b_cartCount b_due b_pairs b_pull b_strength b_back b_moods b_tides b_carts) → va_S A s.heap H locs → lv_has ls 10 [(0, .ref qc), (1, .int n1), (2, .ref qb_strength), (3, .int n3), (4, .int y4_2), (5, .int y5_2), (6, .int y6_2), (7, .int y7_2)] → lq4 B2 n9 y4_2 y5_2 y6_2 y7_2 = some (rr) → W p l e rm_X2_paceBbstrength s m args below meth c H locs 0 0 Q (F0 m 12 ls []) := by
    intro n9
    induction n9 with
    | zero => intro y4_2 y5_2 y6_2 y7_2 H locs ls hP hD hS hl hf; cases hf
    | succ n9 ih =>
      intro y4_2 y5_2 y6_2 y7_2 H locs ls hP hD hS hl hf
      obtain ⟨rec2, hrec2, hf⟩ := lq4_s hf
      have hf := hB2 rec2 _ _ _ _ hf
      refine lv_iload hx hb dX2_pace_12 (lv_at hl 7 rfl) ?_
      refine lv_iload_n hx hb dX2_pace_14 rfl (lv_at hl 1 rfl) ?_
      refine lv_iconst (v := (3 : Int32)) hx hb dX2_pace_15 (by decide) ?_
      refine lv_iadd hx hb dX2_pace_16 ?_
      refine lv_icmp_ge (tgt := 97) hx hb dX2_pace_17 (by decide) (fun h9 => ?_) (fun h9 => ?_)
      · have hf := pg_t h9 hf
        exact WK97_1 _ _ _ _ _ _ hP hD hS (lv_sub hl [0, 4, 5, 6] rfl) hf
      · have hf := pg_f h9 hf
        refine lv_aload_n hx hb dX2_pace_20 rfl (lv_at hl 0 rfl) ?_
        refine va_get (D := (dC, dI)) (ci := 2) (v := .ref qc_who) (C := RX2) (T := TX2) (N := 4) hx hb hw inlX2 hown hK hP 0 rfl rfl 2 (by decide) (hw _ mw_3_19) (fun _ h9 => h9) rfl dX2_pace_21 ?_
        refine lv_iload hx hb dX2_pace_24 (lv_at hl 7 rfl) ?_
        obtain ⟨hi3, hf⟩ := pg_chk hf
        refine va_iald hx hb hK hP 1 0 rfl rfl hi3 dX2_pace_26 ?_
        refine lv_istore (lv' := [(8, .int (c_who (y7_2).toNatClampNeg)), (0, .ref qc), (1, .int n1), (2, .ref qb_strength), (3, .int n3), (4, .int y4_2), (5, .int y5_2), (6, .int y6_2), (7, .int y7_2)]) hx hb dX2_pace_27 hl (by decide) rfl (fun ls hl => ?_)
        refine lv_iload hx hb dX2_pace_29 (lv_at hl 0 rfl) ?_
        obtain ⟨J91_4, hJ91_4, hf⟩ := jn3_s hf
        have WJ91_4 : ∀ (y4_4 : Int32) (y5_4 : Int32) (y6_4 : Int32) (H : Heap) (locs : List Loc) (ls : Array Slot), va_P (dC, dI) vwCl (W_X2c_X0b cI cZ cII qc qc_who qc_pull qb qb_pull qb_strength qb_back qb_moods qb_tides qb_carts c_last c_who c_pull b_law b_places b_broad b_horses b_blinds b_besides b_tideCount b_cartCount b_due b_pairs b_pull b_strength b_back b_moods b_tides b_carts) H → va_D A (W_X2c_X0b cI cZ cII qc qc_who qc_pull qb qb_pull qb_strength qb_back qb_moods qb_tides qb_carts c_last c_who c_pull b_law b_places b_broad b_horses b_blinds b_besides b_tideCount b_cartCount b_due b_pairs b_pull b_strength b_back b_moods b_tides b_carts) → va_S A s.heap H locs → lv_has ls 10 [(0, .ref qc), (1, .int n1), (2, .ref qb_strength), (3, .int n3), (4, .int y4_4), (5, .int y5_4), (6, .int y6_4), (7, .int y7_2)] → J91_4 y4_4 y5_4 y6_4 = some (rr) → W p l e rm_X2_paceBbstrength s m args below meth c H locs 0 0 Q (F0 m 91 ls []) := by
          intro y4_4 y5_4 y6_4 H locs ls hP hD hS hl hf
          have hf := hJ91_4 _ _ _ hf
          refine lv_iinc (v := (y7_2 + (1 : Int32))) (lv' := [(7, .int (y7_2 + (1 : Int32))), (0, .ref qc), (1, .int n1), (2, .ref qb_strength), (3, .int n3), (4, .int y4_4), (5, .int y5_4), (6, .int y6_4)]) hx hb dX2_pace_91 hl (k := 7) rfl rfl (by decide) rfl (fun ls hl => ?_)
          refine lv_goto (tgt := 12) hx hb dX2_pace_94 (by decide) ?_
          exact ih _ _ _ _ _ _ _ hP hD hS (lv_sub hl [1, 2, 3, 4, 5, 6, 7, 0] rfl) (hrec2 _ _ _ _ hf)
        refine lv_if_lt (tgt := 91) hx hb dX2_pace_31 (by decide) (fun h9 => ?_) (fun h9 => ?_)
        · have hf := pg_t h9 hf
          exact WJ91_4 _ _ _ _ _ _ hP hD hS (lv_sub hl [1, 2, 3, 4, 5, 6, 7, 8] rfl) hf
        · have hf := pg_f h9 hf
          refine lv_iload hx hb dX2_pace_34 (lv_at hl 0 rfl) ?_
          refine lv_bipush (v := (6 : Int32)) hx hb dX2_pace_36 (by decide) ?_
          refine lv_icmp_ge (tgt := 91) hx hb dX2_pace_38 (by decide) (fun h9 => ?_) (fun h9 => ?_)
          · have hf := pg_t h9 hf
            exact WJ91_4 _ _ _ _ _ _ hP hD hS (lv_sub hl [1, 2, 3, 4, 5, 6, 7, 8] rfl) hf
          · have hf := pg_f h9 hf
            refine lv_aload_n hx hb dX2_pace_41 rfl (lv_at hl 3 rfl) ?_
            refine lv_iload hx hb dX2_pace_42 (lv_at hl 0 rfl) ?_
            obtain ⟨hi5, hf⟩ := pg_chk hf
            refine va_iald hx hb hK hP 5 0 rfl rfl hi5 dX2_pace_44 ?_
            refine lv_iload_n hx hb dX2_pace_45 rfl (lv_at hl 4 rfl) ?_
            obtain ⟨J60_6, hJ60_6, hf⟩ := jn1_s hf
            have WJ60_6 : ∀ (z0_6 : Int32) (H : Heap) (locs : List Loc) (ls : Array Slot), va_P (dC, dI) vwCl (W_X2c_X0b cI cZ cII qc qc_who qc_pull qb qb_pull qb_strength qb_back qb_moods qb_tides qb_carts c_last c_who c_pull b_law b_places b_broad b_horses b_blinds b_besides b_tideCount b_cartCount b_due b_pairs b_pull b_strength b_back b_moods b_tides b_carts) H → va_D A (W_X2c_X0b cI cZ cII qc qc_who qc_pull qb qb_pull qb_strength qb_back qb_moods qb_tides qb_carts c_last c_who c_pull b_law b_places b_broad b_horses b_blinds b_besides b_tideCount b_cartCount b_due b_pairs b_pull b_strength b_back b_moods b_tides b_carts) → va_S A s.heap H locs → lv_has ls 10 [(0, .ref qc), (1, .int n1), (2, .ref qb_strength), (3, .int n3), (4, .int y4_2), (5, .int y5_2), (6, .int y6_2), (7, .int y7_2)] → J60_6 z0_6 = some (rr) → W p l e rm_X2_paceBbstrength s m args below meth c H locs 0 0 Q (F0 m 60 ls [.int z0_6]) := by
              intro z0_6 H locs ls hP hD hS hl hf
              have hf := hJ60_6 _ hf
              refine lv_istore (lv' := [(9, .int z0_6), (0, .ref qc), (1, .int n1), (2, .ref qb_strength), (3, .int n3), (4, .int y4_2), (5, .int y5_2), (6, .int y6_2), (7, .int y7_2)]) hx hb dX2_pace_60 hl (by decide) rfl (fun ls hl => ?_)
              refine lv_iload hx hb dX2_pace_62 (lv_at hl 6 rfl) ?_
              refine lv_iload hx hb dX2_pace_64 (lv_at hl 0 rfl) ?_
              refine lv_iadd hx hb dX2_pace_66 ?_
              refine lv_istore (lv' := [(5, .int (y5_2 + z0_6)), (9, .int z0_6), (0, .ref qc), (1, .int n1), (2, .ref qb_strength), (3, .int n3), (4, .int y4_2), (6, .int y6_2), (7, .int y7_2)]) hx hb dX2_pace_67 hl (by decide) rfl (fun ls hl => ?_)
              refine lv_iload hx hb dX2_pace_69 (lv_at hl 6 rfl) ?_
              obtain ⟨J86_7, hJ86_7, hf⟩ := jn1_s hf
              have WJ86_7 : ∀ (z0_7 : Int32) (H : Heap) (locs : List Loc) (ls : Array Slot), va_P (dC, dI) vwCl (W_X2c_X0b cI cZ cII qc qc_who qc_pull qb qb_pull qb_strength qb_back qb_moods qb_tides qb_carts c_last c_who c_pull b_law b_places b_broad b_horses b_blinds b_besides b_tideCount b_cartCount b_due b_pairs b_pull b_strength b_back b_moods b_tides b_carts) H → va_D A (W_X2c_X0b cI cZ cII qc qc_who qc_pull qb qb_pull qb_strength qb_back qb_moods qb_tides qb_carts c_last c_who c_pull b_law b_places b_broad b_horses b_blinds b_besides b_tideCount b_cartCount b_due b_pairs b_pull b_strength b_back b_moods b_tides b_carts) → va_S A s.heap H locs → lv_has ls 10 [(0, .ref qc), (1, .int n1), (2, .ref qb_strength), (3, .int n3), (4, .int y4_2), (5, .int (y5_2 + z0_6)), (7, .int y7_2)] → J86_7 z0_7 = some (rr) → W p l e rm_X2_paceBbstrength s m args below meth c H locs 0 0 Q (F0 m 86 ls [.int z0_7]) := by
                intro z0_7 H locs ls hP hD hS hl hf
                have hf := hJ86_7 _ hf
                refine lv_istore (lv' := [(6, .int z0_7), (0, .ref qc), (1, .int n1), (2, .ref qb_strength), (3, .int n3), (4, .int y4_2), (5, .int (y5_2 + z0_6)), (7, .int y7_2)]) hx hb dX2_pace_86 hl (by decide) rfl (fun ls hl => ?_)
                refine lv_iinc (v := (y4_2 + (1 : Int32))) (lv' := [(4, .int (y4_2 + (1 : Int32))), (6, .int z0_7), (0, .ref qc), (1, .int n1), (2, .ref qb_strength), (3, .int n3), (5, .int (y5_2 + z0_6)), (7, .int y7_2)]) hx hb dX2_pace_88 hl (k := 5) rfl rfl (by decide) rfl (fun ls hl => ?_)
                exact WJ91_4 _ _ _ _ _ _ hP hD hS (lv_sub hl [2, 3, 4, 5, 0, 6, 1, 7] rfl) hf
              refine lv_if_ne (tgt := 79) hx hb dX2_pace_71 (by decide) (fun h9 => ?_) (fun h9 => ?_)
              · have hf := pg_f h9 hf
                refine lv_iload hx hb dX2_pace_79 (lv_at hl 7 rfl) ?_
                refine lv_iload hx hb dX2_pace_81 (lv_at hl 1 rfl) ?_
                refine va_mmin hx hb (hml.trans hl.1.symm) hown (hw _ mw_29_10) (hw _ mw_28_19) (hw _ mw_18_1) (hw _ mw_28_20) (Nat.le_of_ble_eq_true rfl) (Nat.le_of_ble_eq_true rfl) (Nat.zero_le _) (Nat.zero_le _) dX2_pace_83 ?_
                exact WJ86_7 _ _ _ _ hP hD hS (lv_sub hl [2, 3, 4, 5, 6, 0, 8] rfl) hf
              · have hf := pg_t h9 hf
                refine lv_iload hx hb dX2_pace_74 (lv_at hl 1 rfl) ?_
                refine lv_goto (tgt := 86) hx hb dX2_pace_76 (by decide) ?_
                exact WJ86_7 _ _ _ _ hP hD hS (lv_sub hl [2, 3, 4, 5, 6, 0, 8] rfl) hf
            refine lv_icmp_le (tgt := 59) hx hb dX2_pace_46 (by decide) (fun h9 => ?_) (fun h9 => ?_)
            · have hf := pg_t h9 hf
              refine lv_iconst (v := (0 : Int32)) hx hb dX2_pace_59 (by decide) ?_
              exact WJ60_6 _ _ _ _ hP hD hS (lv_sub hl [1, 2, 3, 4, 5, 6, 7, 8] rfl) hf
            · have hf := pg_f h9 hf
              refine lv_aload_n hx hb dX2_pace_49 rfl (lv_at hl 1 rfl) ?_
              refine va_get (D := (dC, dI)) (ci := 2) (v := .ref qc_pull) (C := RX2) (T := TX2) (N := 4) hx hb hw inlX2 hown hK hP 0 rfl rfl 3 (by decide) (hw _ mw_3_20) (fun _ h9 => h9) rfl dX2_pace_50 ?_
              refine lv_iload hx hb dX2_pace_53 (lv_at hl 8 rfl) ?_
              refine va_iald hx hb hK hP 2 0 rfl rfl hi3 dX2_pace_55 ?_
              refine lv_goto (tgt := 60) hx hb dX2_pace_56 (by decide) ?_
              exact WJ60_6 _ _ _ _ hP hD hS (lv_sub hl [1, 2, 3, 4, 5, 6, 7, 8] rfl) hf
  exact WL2 fu _ _ _ _ _ _ _ hP hD hS (lv_sub hl [4, 5, 6, 7, 3, 2, 1, 0] rfl) hf
def f_X2_nextLameBbstrength (n1 : Int32) (n3 : Int32) (c_who : Nat → Int32) (b_strength : Nat → Int32) : Option (Int32) :=
  jn1 (fun (y4_1 : Int32) =>
    some (y4_1)
  ) (fun K61_1 =>
  lq2 (fun rec2 (y4_2 : Int32) (y5_2 : Int32) =>
    if (n1 + (3 : Int32)) ≤ y5_2 then
      K61_1 y4_2
    else
      if y5_2 < 0 ∨ 687 ≤ (y5_2).toNatClampNeg then none else
      jn1 (fun (y4_4 : Int32) =>
        rec2 y4_4 (y5_2 + (1 : Int32))
      ) (fun J55_4 =>
      if (c_who (y5_2).toNatClampNeg) < 0 then
        J55_4 y4_2
      else
        if (6 : Int32) ≤ (c_who (y5_2).toNatClampNeg) then
          J55_4 y4_2
        else
          if (c_who (y5_2).toNatClampNeg) < 0 ∨ 6 ≤ ((c_who (y5_2).toNatClampNeg)).toNatClampNeg then none else
          if (b_strength ((c_who (y5_2).toNatClampNeg)).toNatClampNeg) ≤ n3 then
            J55_4 y4_2
          else
            J55_4 (if (b_strength ((c_who (y5_2).toNatClampNeg)).toNatClampNeg) < y4_2 then (b_strength ((c_who (y5_2).toNatClampNeg)).toNatClampNeg) else y4_2)
      )
  ) fu (120 : Int32) n1
  )
abbrev rm_X2_nextLameBbstrength : Room := { frames := 1, cells := 0, slots := 0, locals := 40 }
set_option maxHeartbeats 4000000 in
set_option maxRecDepth 100000 in
theorem c_X2_nextLameBbstrength (l : Launch) (dC : Nat → ClassId) (dI : Nat → Nat → Nat) (cI cZ cII : ClassId) (qc qc_who qc_pull qb qb_pull qb_strength qb_back qb_moods qb_tides qb_carts : Nat) (sz : Nat) (c_last : Int32) (c_who : Nat → Int32) (c_pull : Nat → Int32) (b_law : Int32) (b_places : Int32) (b_broad : Int32) (b_horses : Int32) (b_blinds : Int32) (b_besides : Int32) (b_tideCount : Int32) (b_cartCount : Int32) (b_due : Int32) (b_pairs : Int64) (b_pull : Nat → Int32) (b_strength : Nat → Int32) (b_back : Nat → Int32) (b_moods : Nat → Int32) (b_tides : Nat → Int32) (b_carts : Nat → Int32) (n1 : Int32) (n3 : Int32) (rr : Int32) (hf : f_X2_nextLameBbstrength n1 n3 c_who b_strength = some (rr)) : Met l yX2_nextLame (wM yX2_nextLame cX2_nextLame 7 (some .int)) rm_X2_nextLameBbstrength (PreW (dC, dI) (tyA cI cZ cII) (W_X2c_X0b cI cZ cII qc qc_who qc_pull qb qb_pull qb_strength qb_back qb_moods qb_tides qb_carts c_last c_who c_pull b_law b_places b_broad b_horses b_blinds b_besides b_tideCount b_cartCount b_due b_pairs b_pull b_strength b_back b_moods b_tides b_carts) sz [.ref qc, .int n1, .ref qb_strength, .int n3]) (PostI (dC, dI) (tyA cI cZ cII) rr (W_X2c_X0b cI cZ cII qc qc_who qc_pull qb qb_pull qb_strength qb_back qb_moods qb_tides qb_carts c_last c_who c_pull b_law b_places b_broad b_horses b_blinds b_besides b_tideCount b_cartCount b_due b_pairs b_pull b_strength b_back b_moods b_tides b_carts) (W_X2c_X0b cI cZ cII qc qc_who qc_pull qb qb_pull qb_strength qb_back qb_moods qb_tides qb_carts c_last c_who c_pull b_law b_places b_broad b_horses b_blinds b_besides b_tideCount b_cartCount b_due b_pairs b_pull b_strength b_back b_moods b_tides b_carts) sz) 0 0 (va_A (W_X2c_X0b cI cZ cII qc qc_who qc_pull qb qb_pull qb_strength qb_back qb_moods qb_tides qb_carts c_last c_who c_pull b_law b_places b_broad b_horses b_blinds b_besides b_tideCount b_cartCount b_due b_pairs b_pull b_strength b_back b_moods b_tides b_carts) sz) := by
  refine Met.ofW (cc := cX2_nextLame) (maxL := 7) (ret := (some .int)) (by decide) rfl ?_
  intro p e s m args below meth c s₁ B hml hv
  obtain ⟨rfl, hsz, hP, hK, hD0⟩ := hv
  have hx := B.exec
  have hb := B.bytes
  have hr := B.returns
  have hts := atoms_spec (ws := wM yX2_nextLame cX2_nextLame 7 (some .int)) B.pre
  have hown : s.vm.findClass RX2 = some m.cls := findClass_of_methodNamed B.named
  have hlocks := B.notSynchronized
  subst hsz
  have hD := hD0.self (sz := s.heap.size)
  obtain ⟨A, hAe⟩ : ∃ A, A = va_A (W_X2c_X0b cI cZ cII qc qc_who qc_pull qb qb_pull qb_strength qb_back qb_moods qb_tides qb_carts c_last c_who c_pull b_law b_places b_broad b_horses b_blinds b_besides b_tideCount b_cartCount b_due b_pairs b_pull b_strength b_back b_moods b_tides b_carts) s.heap.size := ⟨_, rfl⟩
  rw [← hAe] at hD
  have hA : ∀ q : Nat, s.heap.size ≤ q → A q := fun q h => by rw [hAe]; exact Or.inr h
  have hS : va_S A s.heap s.heap [] := va_S.rf
  have hl := lv_entry ([.ref qc, .int n1, .ref qb_strength, .int n3]) (n := 7) (Nat.le_of_ble_eq_true rfl)
  rw [lg_entry_eq]
  generalize (lg_sl ([.ref qc, .int n1, .ref qb_strength, .int n3]) ++ List.replicate (7 - (lg_sl ([.ref qc, .int n1, .ref qb_strength, .int n3])).length) Slot.unset).toArray = ls at hl ⊢
  have hl : lv_has ls 7 [(0, .ref qc), (1, .int n1), (2, .ref qb_strength), (3, .int n3)] := hl
  generalize ([.ref qc, .int n1, .ref qb_strength, .int n3] : List Value).toArray = args at hts ⊢
  have hw : ∀ w ∈ wsL_law, w.before args s = true := fun w h => hts w (List.mem_cons_of_mem _ h)
  refine pg_start (fun Q hQ => ?_)
  have RET : ∀ (H : Heap) (locs : List Loc) (ls : Array Slot) (pc : Nat) (v : Int32) , decode cX2_nextLame pc = .ok (.ireturn, 1) → va_P (dC, dI) vwCl (W_X2c_X0b cI cZ cII qc qc_who qc_pull qb qb_pull qb_strength qb_back qb_moods qb_tides qb_carts c_last c_who c_pull b_law b_places b_broad b_horses b_blinds b_besides b_tideCount b_cartCount b_due b_pairs b_pull b_strength b_back b_moods b_tides b_carts) H → va_D A (W_X2c_X0b cI cZ cII qc qc_who qc_pull qb qb_pull qb_strength qb_back qb_moods qb_tides qb_carts c_last c_who c_pull b_law b_places b_broad b_horses b_blinds b_besides b_tideCount b_cartCount b_due b_pairs b_pull b_strength b_back b_moods b_tides b_carts) → va_S A s.heap H locs → (some (v) : Option (Int32)) = some (rr) → W p l e rm_X2_nextLameBbstrength s m args below meth c H locs 0 0 Q (F0 m pc ls [.int v]) := by
    intro H locs ls pc v hd hP hD hS he
    subst hAe; subst hQ
    obtain rfl := Option.some.inj he
    exact pg_iret hx hb hr hlocks hK hP hD hS hd
  unfold f_X2_nextLameBbstrength at hf
  refine lv_bipush (v := (120 : Int32)) hx hb dX2_nextLame_0 (by decide) ?_
  refine lv_istore (lv' := [(4, .int (120 : Int32)), (0, .ref qc), (1, .int n1), (2, .ref qb_strength), (3, .int n3)]) hx hb dX2_nextLame_2 hl (by decide) rfl (fun ls hl => ?_)
  refine lv_iload_n hx hb dX2_nextLame_4 rfl (lv_at hl 2 rfl) ?_
  refine lv_istore (lv' := [(5, .int n1), (4, .int (120 : Int32)), (0, .ref qc), (1, .int n1), (2, .ref qb_strength), (3, .int n3)]) hx hb dX2_nextLame_5 hl (by decide) rfl (fun ls hl => ?_)
  obtain ⟨K61_1, hK61_1, hf⟩ := jn1_s hf
  have WK61_1 : ∀ (y4_1 : Int32) (H : Heap) (locs : List Loc) (ls : Array Slot), va_P (dC, dI) vwCl (W_X2c_X0b cI cZ cII qc qc_who qc_pull qb qb_pull qb_strength qb_back qb_moods qb_tides qb_carts c_last c_who c_pull b_law b_places b_broad b_horses b_blinds b_besides b_tideCount b_cartCount b_due b_pairs b_pull b_strength b_back b_moods b_tides b_carts) H → va_D A (W_X2c_X0b cI cZ cII qc qc_who qc_pull qb qb_pull qb_strength qb_back qb_moods qb_tides qb_carts c_last c_who c_pull b_law b_places b_broad b_horses b_blinds b_besides b_tideCount b_cartCount b_due b_pairs b_pull b_strength b_back b_moods b_tides b_carts) → va_S A s.heap H locs → lv_has ls 7 [(4, .int y4_1)] → K61_1 y4_1 = some (rr) → W p l e rm_X2_nextLameBbstrength s m args below meth c H locs 0 0 Q (F0 m 61 ls []) := by
    intro y4_1 H locs ls hP hD hS hl hf
    have hf := hK61_1 _ hf
    refine lv_iload hx hb dX2_nextLame_61 (lv_at hl 0 rfl) ?_
    exact RET _ _ _ _ _ dX2_nextLame_63 hP hD hS hf
  obtain ⟨B2, hB2, hf⟩ := lq2_n hf
  have WL2 : ∀ (n9 : Nat) (y4_2 : Int32) (y5_2 : Int32) (H : Heap) (locs : List Loc) (ls : Array Slot), va_P (dC, dI) vwCl (W_X2c_X0b cI cZ cII qc qc_who qc_pull qb qb_pull qb_strength qb_back qb_moods qb_tides qb_carts c_last c_who c_pull b_law b_places b_broad b_horses b_blinds b_besides b_tideCount b_cartCount b_due b_pairs b_pull b_strength b_back b_moods b_tides b_carts) H → va_D A (W_X2c_X0b cI cZ cII qc qc_who qc_pull qb qb_pull qb_strength qb_back qb_moods qb_tides qb_carts c_last c_who c_pull b_law b_places b_broad b_horses b_blinds b_besides b_tideCount b_cartCount b_due b_pairs b_pull b_strength b_back b_moods b_tides b_carts) → va_S A s.heap H locs → lv_has ls 7 [(0, .ref qc), (1, .int n1), (2, .ref qb_strength), (3, .int n3), (4, .int y4_2), (5, .int y5_2)] → lq2 B2 n9 y4_2 y5_2 = some (rr) → W p l e rm_X2_nextLameBbstrength s m args below meth c H locs 0 0 Q (F0 m 7 ls []) := by
    intro n9
    induction n9 with
    | zero => intro y4_2 y5_2 H locs ls hP hD hS hl hf; cases hf
    | succ n9 ih =>
      intro y4_2 y5_2 H locs ls hP hD hS hl hf
      obtain ⟨rec2, hrec2, hf⟩ := lq2_s hf
      have hf := hB2 rec2 _ _ hf
      refine lv_iload hx hb dX2_nextLame_7 (lv_at hl 5 rfl) ?_
      refine lv_iload_n hx hb dX2_nextLame_9 rfl (lv_at hl 1 rfl) ?_
      refine lv_iconst (v := (3 : Int32)) hx hb dX2_nextLame_10 (by decide) ?_
      refine lv_iadd hx hb dX2_nextLame_11 ?_
      refine lv_icmp_ge (tgt := 61) hx hb dX2_nextLame_12 (by decide) (fun h9 => ?_) (fun h9 => ?_)
      · have hf := pg_t h9 hf
        exact WK61_1 _ _ _ _ hP hD hS (lv_sub hl [4] rfl) hf
      · have hf := pg_f h9 hf
        refine lv_aload_n hx hb dX2_nextLame_15 rfl (lv_at hl 0 rfl) ?_
        refine va_get (D := (dC, dI)) (ci := 2) (v := .ref qc_who) (C := RX2) (T := TX2) (N := 4) hx hb hw inlX2 hown hK hP 0 rfl rfl 2 (by decide) (hw _ mw_3_19) (fun _ h9 => h9) rfl dX2_nextLame_16 ?_
        refine lv_iload hx hb dX2_nextLame_19 (lv_at hl 5 rfl) ?_
        obtain ⟨hi3, hf⟩ := pg_chk hf
        refine va_iald hx hb hK hP 1 0 rfl rfl hi3 dX2_nextLame_21 ?_
        refine lv_istore (lv' := [(6, .int (c_who (y5_2).toNatClampNeg)), (0, .ref qc), (1, .int n1), (2, .ref qb_strength), (3, .int n3), (4, .int y4_2), (5, .int y5_2)]) hx hb dX2_nextLame_22 hl (by decide) rfl (fun ls hl => ?_)
        refine lv_iload hx hb dX2_nextLame_24 (lv_at hl 0 rfl) ?_
        obtain ⟨J55_4, hJ55_4, hf⟩ := jn1_s hf
        have WJ55_4 : ∀ (y4_4 : Int32) (H : Heap) (locs : List Loc) (ls : Array Slot), va_P (dC, dI) vwCl (W_X2c_X0b cI cZ cII qc qc_who qc_pull qb qb_pull qb_strength qb_back qb_moods qb_tides qb_carts c_last c_who c_pull b_law b_places b_broad b_horses b_blinds b_besides b_tideCount b_cartCount b_due b_pairs b_pull b_strength b_back b_moods b_tides b_carts) H → va_D A (W_X2c_X0b cI cZ cII qc qc_who qc_pull qb qb_pull qb_strength qb_back qb_moods qb_tides qb_carts c_last c_who c_pull b_law b_places b_broad b_horses b_blinds b_besides b_tideCount b_cartCount b_due b_pairs b_pull b_strength b_back b_moods b_tides b_carts) → va_S A s.heap H locs → lv_has ls 7 [(0, .ref qc), (1, .int n1), (2, .ref qb_strength), (3, .int n3), (4, .int y4_4), (5, .int y5_2)] → J55_4 y4_4 = some (rr) → W p l e rm_X2_nextLameBbstrength s m args below meth c H locs 0 0 Q (F0 m 55 ls []) := by
          intro y4_4 H locs ls hP hD hS hl hf
          have hf := hJ55_4 _ hf
          refine lv_iinc (v := (y5_2 + (1 : Int32))) (lv' := [(5, .int (y5_2 + (1 : Int32))), (0, .ref qc), (1, .int n1), (2, .ref qb_strength), (3, .int n3), (4, .int y4_4)]) hx hb dX2_nextLame_55 hl (k := 5) rfl rfl (by decide) rfl (fun ls hl => ?_)
          refine lv_goto (tgt := 7) hx hb dX2_nextLame_58 (by decide) ?_
          exact ih _ _ _ _ _ hP hD hS (lv_sub hl [1, 2, 3, 4, 5, 0] rfl) (hrec2 _ _ hf)
        refine lv_if_lt (tgt := 55) hx hb dX2_nextLame_26 (by decide) (fun h9 => ?_) (fun h9 => ?_)
        · have hf := pg_t h9 hf
          exact WJ55_4 _ _ _ _ hP hD hS (lv_sub hl [1, 2, 3, 4, 5, 6] rfl) hf
        · have hf := pg_f h9 hf
          refine lv_iload hx hb dX2_nextLame_29 (lv_at hl 0 rfl) ?_
          refine lv_bipush (v := (6 : Int32)) hx hb dX2_nextLame_31 (by decide) ?_
          refine lv_icmp_ge (tgt := 55) hx hb dX2_nextLame_33 (by decide) (fun h9 => ?_) (fun h9 => ?_)
          · have hf := pg_t h9 hf
            exact WJ55_4 _ _ _ _ hP hD hS (lv_sub hl [1, 2, 3, 4, 5, 6] rfl) hf
          · have hf := pg_f h9 hf
            refine lv_aload_n hx hb dX2_nextLame_36 rfl (lv_at hl 3 rfl) ?_
            refine lv_iload hx hb dX2_nextLame_37 (lv_at hl 0 rfl) ?_
            obtain ⟨hi5, hf⟩ := pg_chk hf
            refine va_iald hx hb hK hP 5 0 rfl rfl hi5 dX2_nextLame_39 ?_
            refine lv_iload_n hx hb dX2_nextLame_40 rfl (lv_at hl 4 rfl) ?_
            refine lv_icmp_le (tgt := 55) hx hb dX2_nextLame_41 (by decide) (fun h9 => ?_) (fun h9 => ?_)
            · have hf := pg_t h9 hf
              exact WJ55_4 _ _ _ _ hP hD hS (lv_sub hl [1, 2, 3, 4, 5, 6] rfl) hf
            · have hf := pg_f h9 hf
              refine lv_iload hx hb dX2_nextLame_44 (lv_at hl 5 rfl) ?_
              refine lv_aload_n hx hb dX2_nextLame_46 rfl (lv_at hl 3 rfl) ?_
              refine lv_iload hx hb dX2_nextLame_47 (lv_at hl 0 rfl) ?_
              refine va_iald hx hb hK hP 5 0 rfl rfl hi5 dX2_nextLame_49 ?_
              refine va_mmin hx hb (hml.trans hl.1.symm) hown (hw _ mw_29_10) (hw _ mw_28_19) (hw _ mw_18_1) (hw _ mw_28_20) (Nat.le_of_ble_eq_true rfl) (Nat.le_of_ble_eq_true rfl) (Nat.zero_le _) (Nat.zero_le _) dX2_nextLame_50 ?_
              refine lv_istore (lv' := [(4, .int (if (b_strength ((c_who (y5_2).toNatClampNeg)).toNatClampNeg) < y4_2 then (b_strength ((c_who (y5_2).toNatClampNeg)).toNatClampNeg) else y4_2)), (6, .int (c_who (y5_2).toNatClampNeg)), (0, .ref qc), (1, .int n1), (2, .ref qb_strength), (3, .int n3), (5, .int y5_2)]) hx hb dX2_nextLame_53 hl (by decide) rfl (fun ls hl => ?_)
              exact WJ55_4 _ _ _ _ hP hD hS (lv_sub hl [2, 3, 4, 5, 0, 6] rfl) hf
  exact WL2 fu _ _ _ _ _ hP hD hS (lv_sub hl [2, 3, 4, 5, 1, 0] rfl) hf
def f_X2_minutesBbstrength (n1 : Int32) (n3 : Int32) (n4 : Int32) (c_who : Nat → Int32) (c_pull : Nat → Int32) (b_law : Int32) (b_broad : Int32) (b_strength : Nat → Int32) : Option (Int32) :=
  bn1 (f_X2_isCrew n1) (fun (r_1 : Int32) =>
    if r_1 = 0 then
      some ((-1 : Int32))
    else
      jn1 (fun (u_2 : Unit) =>
        some ((-1 : Int32))
      ) (fun K125_2 =>
      lq3 (fun rec3 (y6_3 : Int32) (y7_3 : Int32) (y8_3 : Int32) =>
        if (3 : Int32) < y8_3 then
          K125_2 ()
        else
          bn1 (f_X2_paceBbstrength (n1 * (3 : Int32)) y6_3 c_who c_pull b_law b_strength) (fun (r_4 : Int32) =>
            if 0 < (r_4 + n3) then
              if (r_4 + n3) = 0 then none else
              if (y6_3 + ((((b_broad - y7_3) + (r_4 + n3)) - (1 : Int32)) / (r_4 + n3))) ≤ n4 then
                bn1 (f_X2_nextLameBbstrength (n1 * (3 : Int32)) y6_3 c_who b_strength) (fun (r_6 : Int32) =>
                  if r_6 < (y6_3 + ((((b_broad - y7_3) + (r_4 + n3)) - (1 : Int32)) / (r_4 + n3))) then
                    rec3 r_6 (y7_3 + ((r_4 + n3) * (r_6 - y6_3))) (y8_3 + (1 : Int32))
                  else
                    some ((y6_3 + ((((b_broad - y7_3) + (r_4 + n3)) - (1 : Int32)) / (r_4 + n3))))
                )
              else
                some ((-1 : Int32))
            else
              some ((-1 : Int32))
          )
      ) fu (0 : Int32) (0 : Int32) (0 : Int32)
      )
  )
abbrev rm_X2_minutesBbstrength : Room := { frames := 2, cells := 0, slots := 0, locals := 69 }
set_option maxHeartbeats 4000000 in
set_option maxRecDepth 100000 in
theorem c_X2_minutesBbstrength (l : Launch) (dC : Nat → ClassId) (dI : Nat → Nat → Nat) (cI cZ cII : ClassId) (qc qc_who qc_pull qb qb_pull qb_strength qb_back qb_moods qb_tides qb_carts : Nat) (sz : Nat) (c_last : Int32) (c_who : Nat → Int32) (c_pull : Nat → Int32) (b_law : Int32) (b_places : Int32) (b_broad : Int32) (b_horses : Int32) (b_blinds : Int32) (b_besides : Int32) (b_tideCount : Int32) (b_cartCount : Int32) (b_due : Int32) (b_pairs : Int64) (b_pull : Nat → Int32) (b_strength : Nat → Int32) (b_back : Nat → Int32) (b_moods : Nat → Int32) (b_tides : Nat → Int32) (b_carts : Nat → Int32) (n1 : Int32) (n3 : Int32) (n4 : Int32) (rr : Int32) (hf : f_X2_minutesBbstrength n1 n3 n4 c_who c_pull b_law b_broad b_strength = some (rr)) : Met l yX2_minutes (wM yX2_minutes cX2_minutes 12 (some .int)) rm_X2_minutesBbstrength (PreW (dC, dI) (tyA cI cZ cII) (W_X2c_X0b cI cZ cII qc qc_who qc_pull qb qb_pull qb_strength qb_back qb_moods qb_tides qb_carts c_last c_who c_pull b_law b_places b_broad b_horses b_blinds b_besides b_tideCount b_cartCount b_due b_pairs b_pull b_strength b_back b_moods b_tides b_carts) sz [.ref qc, .int n1, .ref qb_strength, .int n3, .int n4]) (PostI (dC, dI) (tyA cI cZ cII) rr (W_X2c_X0b cI cZ cII qc qc_who qc_pull qb qb_pull qb_strength qb_back qb_moods qb_tides qb_carts c_last c_who c_pull b_law b_places b_broad b_horses b_blinds b_besides b_tideCount b_cartCount b_due b_pairs b_pull b_strength b_back b_moods b_tides b_carts) (W_X2c_X0b cI cZ cII qc qc_who qc_pull qb qb_pull qb_strength qb_back qb_moods qb_tides qb_carts c_last c_who c_pull b_law b_places b_broad b_horses b_blinds b_besides b_tideCount b_cartCount b_due b_pairs b_pull b_strength b_back b_moods b_tides b_carts) sz) 0 0 (va_A (W_X2c_X0b cI cZ cII qc qc_who qc_pull qb qb_pull qb_strength qb_back qb_moods qb_tides qb_carts c_last c_who c_pull b_law b_places b_broad b_horses b_blinds b_besides b_tideCount b_cartCount b_due b_pairs b_pull b_strength b_back b_moods b_tides b_carts) sz) := by
  refine Met.ofW (cc := cX2_minutes) (maxL := 12) (ret := (some .int)) (by decide) rfl ?_
  intro p e s m args below meth c s₁ B hml hv
  obtain ⟨rfl, hsz, hP, hK, hD0⟩ := hv
  have hx := B.exec
  have hb := B.bytes
  have hr := B.returns
  have hts := atoms_spec (ws := wM yX2_minutes cX2_minutes 12 (some .int)) B.pre
  have hown : s.vm.findClass RX2 = some m.cls := findClass_of_methodNamed B.named
  have hlocks := B.notSynchronized
  subst hsz
  have hD := hD0.self (sz := s.heap.size)
  obtain ⟨A, hAe⟩ : ∃ A, A = va_A (W_X2c_X0b cI cZ cII qc qc_who qc_pull qb qb_pull qb_strength qb_back qb_moods qb_tides qb_carts c_last c_who c_pull b_law b_places b_broad b_horses b_blinds b_besides b_tideCount b_cartCount b_due b_pairs b_pull b_strength b_back b_moods b_tides b_carts) s.heap.size := ⟨_, rfl⟩
  rw [← hAe] at hD
  have hA : ∀ q : Nat, s.heap.size ≤ q → A q := fun q h => by rw [hAe]; exact Or.inr h
  have hS : va_S A s.heap s.heap [] := va_S.rf
  have hl := lv_entry ([.ref qc, .int n1, .ref qb_strength, .int n3, .int n4]) (n := 12) (Nat.le_of_ble_eq_true rfl)
  rw [lg_entry_eq]
  generalize (lg_sl ([.ref qc, .int n1, .ref qb_strength, .int n3, .int n4]) ++ List.replicate (12 - (lg_sl ([.ref qc, .int n1, .ref qb_strength, .int n3, .int n4])).length) Slot.unset).toArray = ls at hl ⊢
  have hl : lv_has ls 12 [(0, .ref qc), (1, .int n1), (2, .ref qb_strength), (3, .int n3), (4, .int n4)] := hl
  generalize ([.ref qc, .int n1, .ref qb_strength, .int n3, .int n4] : List Value).toArray = args at hts ⊢
  have hw : ∀ w ∈ wsL_law, w.before args s = true := fun w h => hts w (List.mem_cons_of_mem _ h)
  refine pg_start (fun Q hQ => ?_)
  have RET : ∀ (H : Heap) (locs : List Loc) (ls : Array Slot) (pc : Nat) (v : Int32) , decode cX2_minutes pc = .ok (.ireturn, 1) → va_P (dC, dI) vwCl (W_X2c_X0b cI cZ cII qc qc_who qc_pull qb qb_pull qb_strength qb_back qb_moods qb_tides qb_carts c_last c_who c_pull b_law b_places b_broad b_horses b_blinds b_besides b_tideCount b_cartCount b_due b_pairs b_pull b_strength b_back b_moods b_tides b_carts) H → va_D A (W_X2c_X0b cI cZ cII qc qc_who qc_pull qb qb_pull qb_strength qb_back qb_moods qb_tides qb_carts c_last c_who c_pull b_law b_places b_broad b_horses b_blinds b_besides b_tideCount b_cartCount b_due b_pairs b_pull b_strength b_back b_moods b_tides b_carts) → va_S A s.heap H locs → (some (v) : Option (Int32)) = some (rr) → W p l e rm_X2_minutesBbstrength s m args below meth c H locs 0 0 Q (F0 m pc ls [.int v]) := by
    intro H locs ls pc v hd hP hD hS he
    subst hAe; subst hQ
    obtain rfl := Option.some.inj he
    exact pg_iret hx hb hr hlocks hK hP hD hS hd
  unfold f_X2_minutesBbstrength at hf
  refine lv_iload_n hx hb dX2_minutes_0 rfl (lv_at hl 1 rfl) ?_
  obtain ⟨r_1, hc, hf⟩ := bn1_s hf
  refine pg_cSi (As := [.int n1]) (rest := []) (wf := (W_X2c_X0b cI cZ cII qc qc_who qc_pull qb qb_pull qb_strength qb_back qb_moods qb_tides qb_carts c_last c_who c_pull b_law b_places b_broad b_horses b_blinds b_besides b_tideCount b_cartCount b_due b_pairs b_pull b_strength b_back b_moods b_tides b_carts)) ⟨hx, hb, hml, hown, hw⟩ (c_X2_isCrew l dC dI cI cZ cII  s.heap.size  n1 r_1 hc) (va_cwS 1 hts (wM_S mw_17_16 mw_17_17 mw_2_0 mw_17_18) rfl rfl rfl dk_X2_isCrew ⟨Nat.le_of_ble_eq_true rfl, Nat.le_of_ble_eq_true rfl⟩) hK hP hD hS hA [] [0, 1, 2, 3, 4, 5, 6, 7, 8, 9] [0, 1, 2, 3, 4, 5, 6, 7, 8, 9] rfl rfl rfl (by decide) rfl hl.1 rfl (Nat.le_of_ble_eq_true rfl) dX2_minutes_1 ⟨Nat.zero_le _, Nat.zero_le _⟩ (fun H locs hP hD hS => ?_)
  refine lv_if_ne (tgt := 9) hx hb dX2_minutes_4 (by decide) (fun h9 => ?_) (fun h9 => ?_)
  · have hf := pg_f h9 hf
    refine lv_iload_n hx hb dX2_minutes_9 rfl (lv_at hl 1 rfl) ?_
    refine lv_iconst (v := (3 : Int32)) hx hb dX2_minutes_10 (by decide) ?_
    refine lv_imul hx hb dX2_minutes_11 ?_
    refine lv_istore (lv' := [(5, .int (n1 * (3 : Int32))), (0, .ref qc), (1, .int n1), (2, .ref qb_strength), (3, .int n3), (4, .int n4)]) hx hb dX2_minutes_12 hl (by decide) rfl (fun ls hl => ?_)
    refine lv_iconst (v := (0 : Int32)) hx hb dX2_minutes_14 (by decide) ?_
    refine lv_istore (lv' := [(6, .int (0 : Int32)), (5, .int (n1 * (3 : Int32))), (0, .ref qc), (1, .int n1), (2, .ref qb_strength), (3, .int n3), (4, .int n4)]) hx hb dX2_minutes_15 hl (by decide) rfl (fun ls hl => ?_)
    refine lv_iconst (v := (0 : Int32)) hx hb dX2_minutes_17 (by decide) ?_
    refine lv_istore (lv' := [(7, .int (0 : Int32)), (6, .int (0 : Int32)), (5, .int (n1 * (3 : Int32))), (0, .ref qc), (1, .int n1), (2, .ref qb_strength), (3, .int n3), (4, .int n4)]) hx hb dX2_minutes_18 hl (by decide) rfl (fun ls hl => ?_)
    refine lv_iconst (v := (0 : Int32)) hx hb dX2_minutes_20 (by decide) ?_
    refine lv_istore (lv' := [(8, .int (0 : Int32)), (7, .int (0 : Int32)), (6, .int (0 : Int32)), (5, .int (n1 * (3 : Int32))), (0, .ref qc), (1, .int n1), (2, .ref qb_strength), (3, .int n3), (4, .int n4)]) hx hb dX2_minutes_21 hl (by decide) rfl (fun ls hl => ?_)
    obtain ⟨K125_2, hK125_2, hf⟩ := jn1_s hf
    have WK125_2 : ∀ (u_2 : Unit) (H : Heap) (locs : List Loc) (ls : Array Slot), va_P (dC, dI) vwCl (W_X2c_X0b cI cZ cII qc qc_who qc_pull qb qb_pull qb_strength qb_back qb_moods qb_tides qb_carts c_last c_who c_pull b_law b_places b_broad b_horses b_blinds b_besides b_tideCount b_cartCount b_due b_pairs b_pull b_strength b_back b_moods b_tides b_carts) H → va_D A (W_X2c_X0b cI cZ cII qc qc_who qc_pull qb qb_pull qb_strength qb_back qb_moods qb_tides qb_carts c_last c_who c_pull b_law b_places b_broad b_horses b_blinds b_besides b_tideCount b_cartCount b_due b_pairs b_pull b_strength b_back b_moods b_tides b_carts) → va_S A s.heap H locs → lv_has ls 12 [] → K125_2 u_2 = some (rr) → W p l e rm_X2_minutesBbstrength s m args below meth c H locs 0 0 Q (F0 m 125 ls []) := by
      intro u_2 H locs ls hP hD hS hl hf
      have hf := hK125_2 _ hf
      refine lv_iconst (v := (-1 : Int32)) hx hb dX2_minutes_125 (by decide) ?_
      exact RET _ _ _ _ _ dX2_minutes_126 hP hD hS hf
    obtain ⟨B3, hB3, hf⟩ := lq3_n hf
    have WL3 : ∀ (n9 : Nat) (y6_3 : Int32) (y7_3 : Int32) (y8_3 : Int32) (H : Heap) (locs : List Loc) (ls : Array Slot), va_P (dC, dI) vwCl (W_X2c_X0b cI cZ cII qc qc_who qc_pull qb qb_pull qb_strength qb_back qb_moods qb_tides qb_carts c_last c_who c_pull b_law b_places b_broad b_horses b_blinds b_besides b_tideCount b_cartCount b_due b_pairs b_pull b_strength b_back b_moods b_tides b_carts) H → va_D A (W_X2c_X0b cI cZ cII qc qc_who qc_pull qb qb_pull qb_strength qb_back qb_moods qb_tides qb_carts c_last c_who c_pull b_law b_places b_broad b_horses b_blinds b_besides b_tideCount b_cartCount b_due b_pairs b_pull b_strength b_back b_moods b_tides b_carts) → va_S A s.heap H locs → lv_has ls 12 [(0, .ref qc), (2, .ref qb_strength), (3, .int n3), (4, .int n4), (5, .int (n1 * (3 : Int32))), (6, .int y6_3), (7, .int y7_3), (8, .int y8_3)] → lq3 B3 n9 y6_3 y7_3 y8_3 = some (rr) → W p l e rm_X2_minutesBbstrength s m args below meth c H locs 0 0 Q (F0 m 23 ls []) := by
      intro n9
      induction n9 with
      | zero => intro y6_3 y7_3 y8_3 H locs ls hP hD hS hl hf; cases hf
      | succ n9 ih =>
        intro y6_3 y7_3 y8_3 H locs ls hP hD hS hl hf
        obtain ⟨rec3, hrec3, hf⟩ := lq3_s hf
        have hf := hB3 rec3 _ _ _ hf
        refine lv_iload hx hb dX2_minutes_23 (lv_at hl 7 rfl) ?_
        refine lv_iconst (v := (3 : Int32)) hx hb dX2_minutes_25 (by decide) ?_
        refine lv_icmp_gt (tgt := 125) hx hb dX2_minutes_26 (by decide) (fun h9 => ?_) (fun h9 => ?_)
        · have hf := pg_t h9 hf
          exact WK125_2 _ _ _ _ hP hD hS (lv_sub hl [] rfl) hf
        · have hf := pg_f h9 hf
          refine lv_aload_n hx hb dX2_minutes_29 rfl (lv_at hl 0 rfl) ?_
          refine lv_iload hx hb dX2_minutes_30 (lv_at hl 4 rfl) ?_
          refine lv_aload_n hx hb dX2_minutes_32 rfl (lv_at hl 1 rfl) ?_
          refine lv_iload hx hb dX2_minutes_33 (lv_at hl 5 rfl) ?_
          obtain ⟨r_4, hc, hf⟩ := bn1_s hf
          refine pg_cVi (As := [.int (n1 * (3 : Int32)), .ref qb_strength, .int y6_3]) (rest := []) (wf := (W_X2c_X0b cI cZ cII qc qc_who qc_pull qb qb_pull qb_strength qb_back qb_moods qb_tides qb_carts c_last c_who c_pull b_law b_places b_broad b_horses b_blinds b_besides b_tideCount b_cartCount b_due b_pairs b_pull b_strength b_back b_moods b_tides b_carts)) ⟨hx, hb, hml, hown, hw⟩ (c_X2_paceBbstrength l dC dI cI cZ cII qc qc_who qc_pull qb qb_pull qb_strength qb_back qb_moods qb_tides qb_carts H.size c_last c_who c_pull b_law b_places b_broad b_horses b_blinds b_besides b_tideCount b_cartCount b_due b_pairs b_pull b_strength b_back b_moods b_tides b_carts (n1 * (3 : Int32)) y6_3 r_4 hc) (cwV 3 hts (wM_V mw_29_6 mw_29_7 mw_29_8 mw_2_0 mw_29_9) rfl rfl rfl dk_X2_pace ⟨Nat.le_of_ble_eq_true rfl, Nat.le_of_ble_eq_true rfl⟩) hK hP hD hS hA 2 0 rfl rfl rfl [0, 1, 2, 3, 4, 5, 6, 7, 8, 9] [] [0, 1, 2, 3, 4, 5, 6, 7, 8, 9] rfl rfl rfl (by decide) rfl hl.1 rfl (Nat.le_of_ble_eq_true rfl) dX2_minutes_35 ⟨Nat.zero_le _, Nat.zero_le _⟩ (fun H locs hP hD hS => ?_)
          refine lv_iload_n hx hb dX2_minutes_38 rfl (lv_at hl 2 rfl) ?_
          refine lv_iadd hx hb dX2_minutes_39 ?_
          refine lv_istore (lv' := [(9, .int (r_4 + n3)), (0, .ref qc), (2, .ref qb_strength), (3, .int n3), (4, .int n4), (5, .int (n1 * (3 : Int32))), (6, .int y6_3), (7, .int y7_3), (8, .int y8_3)]) hx hb dX2_minutes_40 hl (by decide) rfl (fun ls hl => ?_)
          refine lv_iload hx hb dX2_minutes_42 (lv_at hl 0 rfl) ?_
          refine lv_if_gt (tgt := 49) hx hb dX2_minutes_44 (by decide) (fun h9 => ?_) (fun h9 => ?_)
          · have hf := pg_t h9 hf
            refine lv_iload hx hb dX2_minutes_49 (lv_at hl 6 rfl) ?_
            refine lv_aload_n hx hb dX2_minutes_51 rfl (lv_at hl 1 rfl) ?_
            refine va_get (D := (dC, dI)) (ci := 2) (v := .ref qb) (C := RX2) (T := TX2) (N := 4) hx hb hw inlX2 hown hK hP 0 rfl rfl 1 (by decide) (hw _ mw_3_21) (fun _ h9 => h9) rfl dX2_minutes_52 ?_
            refine va_get (D := (dC, dI)) (ci := 0) (v := .int b_broad) (C := RX0) (T := TX0) (N := 16) hx hb hw inlX0 hown hK hP 3 rfl rfl 2 (by decide) (hw _ mw_29_5) (fun _ h9 => h9) rfl dX2_minutes_55 ?_
            refine lv_iload hx hb dX2_minutes_58 (lv_at hl 7 rfl) ?_
            refine lv_isub hx hb dX2_minutes_60 ?_
            refine lv_iload hx hb dX2_minutes_61 (lv_at hl 0 rfl) ?_
            refine lv_iadd hx hb dX2_minutes_63 ?_
            refine lv_iconst (v := (1 : Int32)) hx hb dX2_minutes_64 (by decide) ?_
            refine lv_isub hx hb dX2_minutes_65 ?_
            refine lv_iload hx hb dX2_minutes_66 (lv_at hl 0 rfl) ?_
            obtain ⟨hi5, hf⟩ := pg_chk hf
            refine lv_idiv hx hb dX2_minutes_68 hi5 ?_
            refine lv_iadd hx hb dX2_minutes_69 ?_
            refine lv_istore (lv' := [(10, .int (y6_3 + ((((b_broad - y7_3) + (r_4 + n3)) - (1 : Int32)) / (r_4 + n3)))), (9, .int (r_4 + n3)), (0, .ref qc), (2, .ref qb_strength), (3, .int n3), (4, .int n4), (5, .int (n1 * (3 : Int32))), (6, .int y6_3), (7, .int y7_3), (8, .int y8_3)]) hx hb dX2_minutes_70 hl (by decide) rfl (fun ls hl => ?_)
            refine lv_iload hx hb dX2_minutes_72 (lv_at hl 0 rfl) ?_
            refine lv_iload hx hb dX2_minutes_74 (lv_at hl 5 rfl) ?_
            refine lv_icmp_le (tgt := 81) hx hb dX2_minutes_76 (by decide) (fun h9 => ?_) (fun h9 => ?_)
            · have hf := pg_t h9 hf
              refine lv_aload_n hx hb dX2_minutes_81 rfl (lv_at hl 2 rfl) ?_
              refine lv_iload hx hb dX2_minutes_82 (lv_at hl 6 rfl) ?_
              refine lv_aload_n hx hb dX2_minutes_84 rfl (lv_at hl 3 rfl) ?_
              refine lv_iload hx hb dX2_minutes_85 (lv_at hl 7 rfl) ?_
              obtain ⟨r_6, hc, hf⟩ := bn1_s hf
              refine pg_cVi (As := [.int (n1 * (3 : Int32)), .ref qb_strength, .int y6_3]) (rest := []) (wf := (W_X2c_X0b cI cZ cII qc qc_who qc_pull qb qb_pull qb_strength qb_back qb_moods qb_tides qb_carts c_last c_who c_pull b_law b_places b_broad b_horses b_blinds b_besides b_tideCount b_cartCount b_due b_pairs b_pull b_strength b_back b_moods b_tides b_carts)) ⟨hx, hb, hml, hown, hw⟩ (c_X2_nextLameBbstrength l dC dI cI cZ cII qc qc_who qc_pull qb qb_pull qb_strength qb_back qb_moods qb_tides qb_carts H.size c_last c_who c_pull b_law b_places b_broad b_horses b_blinds b_besides b_tideCount b_cartCount b_due b_pairs b_pull b_strength b_back b_moods b_tides b_carts (n1 * (3 : Int32)) y6_3 r_6 hc) (cwV 3 hts (wM_V mw_29_12 mw_29_13 mw_29_14 mw_2_0 mw_29_15) rfl rfl rfl dk_X2_nextLame ⟨Nat.le_of_ble_eq_true rfl, Nat.le_of_ble_eq_true rfl⟩) hK hP hD hS hA 2 0 rfl rfl rfl [0, 1, 2, 3, 4, 5, 6, 7, 8, 9] [] [0, 1, 2, 3, 4, 5, 6, 7, 8, 9] rfl rfl rfl (by decide) rfl hl.1 rfl (Nat.le_of_ble_eq_true rfl) dX2_minutes_87 ⟨Nat.zero_le _, Nat.zero_le _⟩ (fun H locs hP hD hS => ?_)
              refine lv_istore (lv' := [(11, .int r_6), (10, .int (y6_3 + ((((b_broad - y7_3) + (r_4 + n3)) - (1 : Int32)) / (r_4 + n3)))), (9, .int (r_4 + n3)), (0, .ref qc), (2, .ref qb_strength), (3, .int n3), (4, .int n4), (5, .int (n1 * (3 : Int32))), (6, .int y6_3), (7, .int y7_3), (8, .int y8_3)]) hx hb dX2_minutes_90 hl (by decide) rfl (fun ls hl => ?_)
              refine lv_iload hx hb dX2_minutes_92 (lv_at hl 1 rfl) ?_
              refine lv_iload hx hb dX2_minutes_94 (lv_at hl 0 rfl) ?_
              refine lv_icmp_gt (tgt := 102) hx hb dX2_minutes_96 (by decide) (fun h9 => ?_) (fun h9 => ?_)
              · have hf := pg_t h9 hf
                refine lv_iload hx hb dX2_minutes_102 (lv_at hl 9 rfl) ?_
                refine lv_iload hx hb dX2_minutes_104 (lv_at hl 2 rfl) ?_
                refine lv_iload hx hb dX2_minutes_106 (lv_at hl 0 rfl) ?_
                refine lv_iload hx hb dX2_minutes_108 (lv_at hl 8 rfl) ?_
                refine lv_isub hx hb dX2_minutes_110 ?_
                refine lv_imul hx hb dX2_minutes_111 ?_
                refine lv_iadd hx hb dX2_minutes_112 ?_
                refine lv_istore (lv' := [(7, .int (y7_3 + ((r_4 + n3) * (r_6 - y6_3)))), (11, .int r_6), (10, .int (y6_3 + ((((b_broad - y7_3) + (r_4 + n3)) - (1 : Int32)) / (r_4 + n3)))), (9, .int (r_4 + n3)), (0, .ref qc), (2, .ref qb_strength), (3, .int n3), (4, .int n4), (5, .int (n1 * (3 : Int32))), (6, .int y6_3), (8, .int y8_3)]) hx hb dX2_minutes_113 hl (by decide) rfl (fun ls hl => ?_)
                refine lv_iload hx hb dX2_minutes_115 (lv_at hl 1 rfl) ?_
                refine lv_istore (lv' := [(6, .int r_6), (7, .int (y7_3 + ((r_4 + n3) * (r_6 - y6_3)))), (11, .int r_6), (10, .int (y6_3 + ((((b_broad - y7_3) + (r_4 + n3)) - (1 : Int32)) / (r_4 + n3)))), (9, .int (r_4 + n3)), (0, .ref qc), (2, .ref qb_strength), (3, .int n3), (4, .int n4), (5, .int (n1 * (3 : Int32))), (8, .int y8_3)]) hx hb dX2_minutes_117 hl (by decide) rfl (fun ls hl => ?_)
                refine lv_iinc (v := (y8_3 + (1 : Int32))) (lv' := [(8, .int (y8_3 + (1 : Int32))), (6, .int r_6), (7, .int (y7_3 + ((r_4 + n3) * (r_6 - y6_3)))), (11, .int r_6), (10, .int (y6_3 + ((((b_broad - y7_3) + (r_4 + n3)) - (1 : Int32)) / (r_4 + n3)))), (9, .int (r_4 + n3)), (0, .ref qc), (2, .ref qb_strength), (3, .int n3), (4, .int n4), (5, .int (n1 * (3 : Int32)))]) hx hb dX2_minutes_119 hl (k := 10) rfl rfl (by decide) rfl (fun ls hl => ?_)
                refine lv_goto (tgt := 23) hx hb dX2_minutes_122 (by decide) ?_
                exact ih _ _ _ _ _ _ hP hD hS (lv_sub hl [6, 7, 8, 9, 10, 1, 2, 0] rfl) (hrec3 _ _ _ hf)
              · have hf := pg_f h9 hf
                refine lv_iload hx hb dX2_minutes_99 (lv_at hl 1 rfl) ?_
                exact RET _ _ _ _ _ dX2_minutes_101 hP hD hS hf
            · have hf := pg_f h9 hf
              refine lv_iconst (v := (-1 : Int32)) hx hb dX2_minutes_79 (by decide) ?_
              exact RET _ _ _ _ _ dX2_minutes_80 hP hD hS hf
          · have hf := pg_f h9 hf
            refine lv_iconst (v := (-1 : Int32)) hx hb dX2_minutes_47 (by decide) ?_
            exact RET _ _ _ _ _ dX2_minutes_48 hP hD hS hf
    exact WL3 fu _ _ _ _ _ _ hP hD hS (lv_sub hl [4, 6, 7, 8, 3, 2, 1, 0] rfl) hf
  · have hf := pg_t h9 hf
    refine lv_iconst (v := (-1 : Int32)) hx hb dX2_minutes_7 (by decide) ?_
    exact RET _ _ _ _ _ dX2_minutes_8 hP hD hS hf
def f_X6_firstWrong (n1 : Int32) (n2 : Int32) (m_count : Int32) (m_who : Nat → Int32) (m_hours : Nat → Int32) (m_minutes : Nat → Int32) (c_who : Nat → Int32) (c_pull : Nat → Int32) (b_law : Int32) (b_broad : Int32) (b_horses : Int32) (b_blinds : Int32) (b_tideCount : Int32) (b_pull : Nat → Int32) (b_strength : Nat → Int32) (b_moods : Nat → Int32) (b_tides : Nat → Int32) : Option (Int32 × (Nat → Int32) × (Nat → Int32)) :=
  jn2 (fun (c_who_1 : Nat → Int32) (c_pull_1 : Nat → Int32) =>
    some ((-1 : Int32), c_who_1, c_pull_1)
  ) (fun K146_1 =>
  lq3 (fun rec2 (y3_2 : Int32) (c_who_2 : Nat → Int32) (c_pull_2 : Nat → Int32) =>
    if m_count ≤ y3_2 then
      K146_1 c_who_2 c_pull_2
    else
      if (10 : Int32) ≤ y3_2 then
        K146_1 c_who_2 c_pull_2
      else
        if (y3_2 * (3 : Int32)) < 0 ∨ 30 ≤ ((y3_2 * (3 : Int32))).toNatClampNeg then none else
        if ((y3_2 * (3 : Int32)) + (1 : Int32)) < 0 ∨ 30 ≤ (((y3_2 * (3 : Int32)) + (1 : Int32))).toNatClampNeg then none else
        if ((y3_2 * (3 : Int32)) + (2 : Int32)) < 0 ∨ 30 ≤ (((y3_2 * (3 : Int32)) + (2 : Int32))).toNatClampNeg then none else
        bn2 (f_X2_seat (0 : Int32) (m_who ((y3_2 * (3 : Int32))).toNatClampNeg) (m_who (((y3_2 * (3 : Int32)) + (1 : Int32))).toNatClampNeg) (m_who (((y3_2 * (3 : Int32)) + (2 : Int32))).toNatClampNeg) c_who_2 c_pull_2 b_horses b_blinds b_pull b_moods) (fun (c_who_6 : Nat → Int32) (c_pull_6 : Nat → Int32) =>
          jn1 (fun (c_pull_7 : Nat → Int32) =>
            if y3_2 < 0 ∨ 10 ≤ (y3_2).toNatClampNeg then none else
            jn1 (fun (z0_9 : Int32) =>
              bn1 (f_X0_tideOf (m_hours (y3_2).toNatClampNeg) b_tideCount b_tides) (fun (r_10 : Int32) =>
                bn1 (f_X2_minutesBbstrength (0 : Int32) r_10 (120 : Int32) c_who_6 c_pull_7 b_law b_broad b_strength) (fun (r_11 : Int32) =>
                  if r_11 = z0_9 then
                    rec2 (y3_2 + (1 : Int32)) c_who_6 c_pull_7
                  else
                    some (y3_2, c_who_6, c_pull_7)
                )
              )
            ) (fun J97_9 =>
            if (m_minutes (y3_2).toNatClampNeg) = 0 then
              J97_9 (-1 : Int32)
            else
              J97_9 (m_minutes (y3_2).toNatClampNeg)
            )
          ) (fun J78_7 =>
          if n2 = 0 then
            bn1 (f_X2_pullHalf n1 c_who_6 c_pull_6) (fun (c_pull_13 : Nat → Int32) =>
              J78_7 c_pull_13
            )
          else
            bn1 (f_X2_pullOtherwise n1 n2 c_who_6 c_pull_6 b_horses b_blinds b_pull b_moods) (fun (c_pull_12 : Nat → Int32) =>
              J78_7 c_pull_12
            )
          )
        )
  ) fu (0 : Int32) c_who c_pull
  )
abbrev rm_X6_firstWrong : Room := { frames := 3, cells := 0, slots := 0, locals := 100 }
theorem dk_X6_firstWrong : yX6_firstWrong.cls = RX6 ∧ yX6_firstWrong.cls ≠ "java/lang/invoke/MethodHandle" ∧ yX6_firstWrong.cls ≠ "java/lang/invoke/VarHandle" ∧ (parseMethodDescriptor yX6_firstWrong.desc).map (fun d => d.parameters.length) = some 2 := by decide +kernel
set_option maxHeartbeats 4000000 in
set_option maxRecDepth 100000 in
theorem c_X6_firstWrong (l : Launch) (dC : Nat → ClassId) (dI : Nat → Nat → Nat) (cI cZ cII : ClassId) (qm qm_who qm_hours qm_minutes qc qc_who qc_pull qb qb_pull qb_strength qb_back qb_moods qb_tides qb_carts : Nat) (sz : Nat) (m_count : Int32) (m_who : Nat → Int32) (m_hours : Nat → Int32) (m_minutes : Nat → Int32) (c_last : Int32) (c_who : Nat → Int32) (c_pull : Nat → Int32) (b_law : Int32) (b_places : Int32) (b_broad : Int32) (b_horses : Int32) (b_blinds : Int32) (b_besides : Int32) (b_tideCount : Int32) (b_cartCount : Int32) (b_due : Int32) (b_pairs : Int64) (b_pull : Nat → Int32) (b_strength : Nat → Int32) (b_back : Nat → Int32) (b_moods : Nat → Int32) (b_tides : Nat → Int32) (b_carts : Nat → Int32) (n1 : Int32) (n2 : Int32) (rr : Int32) (c_who' : Nat → Int32) (c_pull' : Nat → Int32) (hf : f_X6_firstWrong n1 n2 m_count m_who m_hours m_minutes c_who c_pull b_law b_broad b_horses b_blinds b_tideCount b_pull b_strength b_moods b_tides = some (rr, c_who', c_pull')) : Met l yX6_firstWrong (wM yX6_firstWrong cX6_firstWrong 7 (some .int)) rm_X6_firstWrong (PreW (dC, dI) (tyA cI cZ cII) (W_X6m_X2c_X0b cI cZ cII qm qm_who qm_hours qm_minutes qc qc_who qc_pull qb qb_pull qb_strength qb_back qb_moods qb_tides qb_carts m_count m_who m_hours m_minutes c_last c_who c_pull b_law b_places b_broad b_horses b_blinds b_besides b_tideCount b_cartCount b_due b_pairs b_pull b_strength b_back b_moods b_tides b_carts) sz [.ref qm, .int n1, .int n2]) (PostI (dC, dI) (tyA cI cZ cII) rr (W_X6m_X2c_X0b cI cZ cII qm qm_who qm_hours qm_minutes qc qc_who qc_pull qb qb_pull qb_strength qb_back qb_moods qb_tides qb_carts m_count m_who m_hours m_minutes c_last c_who c_pull b_law b_places b_broad b_horses b_blinds b_besides b_tideCount b_cartCount b_due b_pairs b_pull b_strength b_back b_moods b_tides b_carts) (W_X6m_X2c_X0b cI cZ cII qm qm_who qm_hours qm_minutes qc qc_who qc_pull qb qb_pull qb_strength qb_back qb_moods qb_tides qb_carts m_count m_who m_hours m_minutes c_last c_who' c_pull' b_law b_places b_broad b_horses b_blinds b_besides b_tideCount b_cartCount b_due b_pairs b_pull b_strength b_back b_moods b_tides b_carts) sz) 0 0 (va_A (W_X6m_X2c_X0b cI cZ cII qm qm_who qm_hours qm_minutes qc qc_who qc_pull qb qb_pull qb_strength qb_back qb_moods qb_tides qb_carts m_count m_who m_hours m_minutes c_last c_who c_pull b_law b_places b_broad b_horses b_blinds b_besides b_tideCount b_cartCount b_due b_pairs b_pull b_strength b_back b_moods b_tides b_carts) sz) := by
  refine Met.ofW (cc := cX6_firstWrong) (maxL := 7) (ret := (some .int)) (by decide) rfl ?_
  intro p e s m args below meth c s₁ B hml hv
  obtain ⟨rfl, hsz, hP, hK, hD0⟩ := hv
  have hx := B.exec
  have hb := B.bytes
  have hr := B.returns
  have hts := atoms_spec (ws := wM yX6_firstWrong cX6_firstWrong 7 (some .int)) B.pre
  have hown : s.vm.findClass RX6 = some m.cls := findClass_of_methodNamed B.named
  have hlocks := B.notSynchronized
  subst hsz
  have hD := hD0.self (sz := s.heap.size)
  obtain ⟨A, hAe⟩ : ∃ A, A = va_A (W_X6m_X2c_X0b cI cZ cII qm qm_who qm_hours qm_minutes qc qc_who qc_pull qb qb_pull qb_strength qb_back qb_moods qb_tides qb_carts m_count m_who m_hours m_minutes c_last c_who c_pull b_law b_places b_broad b_horses b_blinds b_besides b_tideCount b_cartCount b_due b_pairs b_pull b_strength b_back b_moods b_tides b_carts) s.heap.size := ⟨_, rfl⟩
  rw [← hAe] at hD
  have hA : ∀ q : Nat, s.heap.size ≤ q → A q := fun q h => by rw [hAe]; exact Or.inr h
  have hS : va_S A s.heap s.heap [] := va_S.rf
  have hl := lv_entry ([.ref qm, .int n1, .int n2]) (n := 7) (Nat.le_of_ble_eq_true rfl)
  rw [lg_entry_eq]
  generalize (lg_sl ([.ref qm, .int n1, .int n2]) ++ List.replicate (7 - (lg_sl ([.ref qm, .int n1, .int n2])).length) Slot.unset).toArray = ls at hl ⊢
  have hl : lv_has ls 7 [(0, .ref qm), (1, .int n1), (2, .int n2)] := hl
  generalize ([.ref qm, .int n1, .int n2] : List Value).toArray = args at hts ⊢
  have hw : ∀ w ∈ wsL_law, w.before args s = true := fun w h => hts w (List.mem_cons_of_mem _ h)
  refine pg_start (fun Q hQ => ?_)
  have RET : ∀ (H : Heap) (locs : List Loc) (ls : Array Slot) (pc : Nat) (v : Int32) (x0 : Nat → Int32) (x1 : Nat → Int32) , decode cX6_firstWrong pc = .ok (.ireturn, 1) → va_P (dC, dI) vwCl (W_X6m_X2c_X0b cI cZ cII qm qm_who qm_hours qm_minutes qc qc_who qc_pull qb qb_pull qb_strength qb_back qb_moods qb_tides qb_carts m_count m_who m_hours m_minutes c_last x0 x1 b_law b_places b_broad b_horses b_blinds b_besides b_tideCount b_cartCount b_due b_pairs b_pull b_strength b_back b_moods b_tides b_carts) H → va_D A (W_X6m_X2c_X0b cI cZ cII qm qm_who qm_hours qm_minutes qc qc_who qc_pull qb qb_pull qb_strength qb_back qb_moods qb_tides qb_carts m_count m_who m_hours m_minutes c_last x0 x1 b_law b_places b_broad b_horses b_blinds b_besides b_tideCount b_cartCount b_due b_pairs b_pull b_strength b_back b_moods b_tides b_carts) → va_S A s.heap H locs → (some (v, x0, x1) : Option (Int32 × (Nat → Int32) × (Nat → Int32))) = some (rr, c_who', c_pull') → W p l e rm_X6_firstWrong s m args below meth c H locs 0 0 Q (F0 m pc ls [.int v]) := by
    intro H locs ls pc v x0 x1 hd hP hD hS he
    subst hAe; subst hQ
    simp only [Option.some.injEq, Prod.mk.injEq] at he
    obtain ⟨rfl, rfl, rfl⟩ := he
    exact pg_iret hx hb hr hlocks hK hP hD hS hd
  unfold f_X6_firstWrong at hf
  refine lv_iconst (v := (0 : Int32)) hx hb dX6_firstWrong_0 (by decide) ?_
  refine lv_istore_n (lv' := [(3, .int (0 : Int32)), (0, .ref qm), (1, .int n1), (2, .int n2)]) hx hb dX6_firstWrong_1 rfl hl (by decide) rfl (fun ls hl => ?_)
  obtain ⟨K146_1, hK146_1, hf⟩ := jn2_s hf
  have WK146_1 : ∀ (c_who_1 : Nat → Int32) (c_pull_1 : Nat → Int32) (H : Heap) (locs : List Loc) (ls : Array Slot), va_P (dC, dI) vwCl (W_X6m_X2c_X0b cI cZ cII qm qm_who qm_hours qm_minutes qc qc_who qc_pull qb qb_pull qb_strength qb_back qb_moods qb_tides qb_carts m_count m_who m_hours m_minutes c_last c_who_1 c_pull_1 b_law b_places b_broad b_horses b_blinds b_besides b_tideCount b_cartCount b_due b_pairs b_pull b_strength b_back b_moods b_tides b_carts) H → va_D A (W_X6m_X2c_X0b cI cZ cII qm qm_who qm_hours qm_minutes qc qc_who qc_pull qb qb_pull qb_strength qb_back qb_moods qb_tides qb_carts m_count m_who m_hours m_minutes c_last c_who_1 c_pull_1 b_law b_places b_broad b_horses b_blinds b_besides b_tideCount b_cartCount b_due b_pairs b_pull b_strength b_back b_moods b_tides b_carts) → va_S A s.heap H locs → lv_has ls 7 [] → K146_1 c_who_1 c_pull_1 = some (rr, c_who', c_pull') → W p l e rm_X6_firstWrong s m args below meth c H locs 0 0 Q (F0 m 146 ls []) := by
    intro c_who_1 c_pull_1 H locs ls hP hD hS hl hf
    have hf := hK146_1 _ _ hf
    refine lv_iconst (v := (-1 : Int32)) hx hb dX6_firstWrong_146 (by decide) ?_
    exact RET _ _ _ _ _ _ _ dX6_firstWrong_147 hP hD hS hf
  obtain ⟨B2, hB2, hf⟩ := lq3_n hf
  have WL2 : ∀ (n9 : Nat) (y3_2 : Int32) (c_who_2 : Nat → Int32) (c_pull_2 : Nat → Int32) (H : Heap) (locs : List Loc) (ls : Array Slot), va_P (dC, dI) vwCl (W_X6m_X2c_X0b cI cZ cII qm qm_who qm_hours qm_minutes qc qc_who qc_pull qb qb_pull qb_strength qb_back qb_moods qb_tides qb_carts m_count m_who m_hours m_minutes c_last c_who_2 c_pull_2 b_law b_places b_broad b_horses b_blinds b_besides b_tideCount b_cartCount b_due b_pairs b_pull b_strength b_back b_moods b_tides b_carts) H → va_D A (W_X6m_X2c_X0b cI cZ cII qm qm_who qm_hours qm_minutes qc qc_who qc_pull qb qb_pull qb_strength qb_back qb_moods qb_tides qb_carts m_count m_who m_hours m_minutes c_last c_who_2 c_pull_2 b_law b_places b_broad b_horses b_blinds b_besides b_tideCount b_cartCount b_due b_pairs b_pull b_strength b_back b_moods b_tides b_carts) → va_S A s.heap H locs → lv_has ls 7 [(0, .ref qm), (1, .int n1), (2, .int n2), (3, .int y3_2)] → lq3 B2 n9 y3_2 c_who_2 c_pull_2 = some (rr, c_who', c_pull') → W p l e rm_X6_firstWrong s m args below meth c H locs 0 0 Q (F0 m 2 ls []) := by
    intro n9
    induction n9 with
    | zero => intro y3_2 c_who_2 c_pull_2 H locs ls hP hD hS hl hf; cases hf
    | succ n9 ih =>
      intro y3_2 c_who_2 c_pull_2 H locs ls hP hD hS hl hf
      obtain ⟨rec2, hrec2, hf⟩ := lq3_s hf
      have hf := hB2 rec2 _ _ _ hf
      refine lv_iload_n hx hb dX6_firstWrong_2 rfl (lv_at hl 3 rfl) ?_
      refine lv_aload_n hx hb dX6_firstWrong_3 rfl (lv_at hl 0 rfl) ?_
      refine va_get (D := (dC, dI)) (ci := 6) (v := .int m_count) (C := RX6) (T := TX6) (N := 6) hx hb hw inlX6 hown hK hP 0 rfl rfl 0 (by decide) (hw _ mw_42_23) (fun _ h9 => h9) rfl dX6_firstWrong_4 ?_
      refine lv_icmp_ge (tgt := 146) hx hb dX6_firstWrong_7 (by decide) (fun h9 => ?_) (fun h9 => ?_)
      · have hf := pg_t h9 hf
        exact WK146_1 _ _ _ _ _ hP hD hS (lv_sub hl [] rfl) hf
      · have hf := pg_f h9 hf
        refine lv_iload_n hx hb dX6_firstWrong_10 rfl (lv_at hl 3 rfl) ?_
        refine lv_bipush (v := (10 : Int32)) hx hb dX6_firstWrong_11 (by decide) ?_
        refine lv_icmp_ge (tgt := 146) hx hb dX6_firstWrong_13 (by decide) (fun h9 => ?_) (fun h9 => ?_)
        · have hf := pg_t h9 hf
          exact WK146_1 _ _ _ _ _ hP hD hS (lv_sub hl [] rfl) hf
        · have hf := pg_f h9 hf
          refine lv_iload_n hx hb dX6_firstWrong_16 rfl (lv_at hl 3 rfl) ?_
          refine lv_iconst (v := (3 : Int32)) hx hb dX6_firstWrong_17 (by decide) ?_
          refine lv_imul hx hb dX6_firstWrong_18 ?_
          refine lv_istore (lv' := [(4, .int (y3_2 * (3 : Int32))), (0, .ref qm), (1, .int n1), (2, .int n2), (3, .int y3_2)]) hx hb dX6_firstWrong_19 hl (by decide) rfl (fun ls hl => ?_)
          refine lv_aload_n hx hb dX6_firstWrong_21 rfl (lv_at hl 1 rfl) ?_
          refine va_get (D := (dC, dI)) (ci := 6) (v := .ref qc) (C := RX6) (T := TX6) (N := 6) hx hb hw inlX6 hown hK hP 0 rfl rfl 2 (by decide) (hw _ mw_5_18) (fun _ h9 => h9) rfl dX6_firstWrong_22 ?_
          refine lv_iconst (v := (0 : Int32)) hx hb dX6_firstWrong_25 (by decide) ?_
          refine lv_aload_n hx hb dX6_firstWrong_26 rfl (lv_at hl 1 rfl) ?_
          refine va_get (D := (dC, dI)) (ci := 6) (v := .ref qm_who) (C := RX6) (T := TX6) (N := 6) hx hb hw inlX6 hown hK hP 0 rfl rfl 3 (by decide) (hw _ mw_5_14) (fun _ h9 => h9) rfl dX6_firstWrong_27 ?_
          refine lv_iload hx hb dX6_firstWrong_30 (lv_at hl 0 rfl) ?_
          obtain ⟨hi3, hf⟩ := pg_chk hf
          refine va_iald hx hb hK hP 1 0 rfl rfl hi3 dX6_firstWrong_32 ?_
          refine lv_aload_n hx hb dX6_firstWrong_33 rfl (lv_at hl 1 rfl) ?_
          refine va_get (D := (dC, dI)) (ci := 6) (v := .ref qm_who) (C := RX6) (T := TX6) (N := 6) hx hb hw inlX6 hown hK hP 0 rfl rfl 3 (by decide) (hw _ mw_5_14) (fun _ h9 => h9) rfl dX6_firstWrong_34 ?_
          refine lv_iload hx hb dX6_firstWrong_37 (lv_at hl 0 rfl) ?_
          refine lv_iconst (v := (1 : Int32)) hx hb dX6_firstWrong_39 (by decide) ?_
          refine lv_iadd hx hb dX6_firstWrong_40 ?_
          obtain ⟨hi4, hf⟩ := pg_chk hf
          refine va_iald hx hb hK hP 1 0 rfl rfl hi4 dX6_firstWrong_41 ?_
          refine lv_aload_n hx hb dX6_firstWrong_42 rfl (lv_at hl 1 rfl) ?_
          refine va_get (D := (dC, dI)) (ci := 6) (v := .ref qm_who) (C := RX6) (T := TX6) (N := 6) hx hb hw inlX6 hown hK hP 0 rfl rfl 3 (by decide) (hw _ mw_5_14) (fun _ h9 => h9) rfl dX6_firstWrong_43 ?_
          refine lv_iload hx hb dX6_firstWrong_46 (lv_at hl 0 rfl) ?_
          refine lv_iconst (v := (2 : Int32)) hx hb dX6_firstWrong_48 (by decide) ?_
          refine lv_iadd hx hb dX6_firstWrong_49 ?_
          obtain ⟨hi5, hf⟩ := pg_chk hf
          refine va_iald hx hb hK hP 1 0 rfl rfl hi5 dX6_firstWrong_50 ?_
          obtain ⟨c_who_6, c_pull_6, hc, hf⟩ := bn2_s hf
          refine pg_cVv (As := [.int (0 : Int32), .int (m_who ((y3_2 * (3 : Int32))).toNatClampNeg), .int (m_who (((y3_2 * (3 : Int32)) + (1 : Int32))).toNatClampNeg), .int (m_who (((y3_2 * (3 : Int32)) + (2 : Int32))).toNatClampNeg)]) (rest := []) (wf := (W_X6m_X2c_X0b cI cZ cII qm qm_who qm_hours qm_minutes qc qc_who qc_pull qb qb_pull qb_strength qb_back qb_moods qb_tides qb_carts m_count m_who m_hours m_minutes c_last c_who_6 c_pull_6 b_law b_places b_broad b_horses b_blinds b_besides b_tideCount b_cartCount b_due b_pairs b_pull b_strength b_back b_moods b_tides b_carts)) ⟨hx, hb, hml, hown, hw⟩ (c_X2_seat l dC dI cI cZ cII qc qc_who qc_pull qb qb_pull qb_strength qb_back qb_moods qb_tides qb_carts H.size c_last c_who_2 c_pull_2 b_law b_places b_broad b_horses b_blinds b_besides b_tideCount b_cartCount b_due b_pairs b_pull b_strength b_back b_moods b_tides b_carts (0 : Int32) (m_who ((y3_2 * (3 : Int32))).toNatClampNeg) (m_who (((y3_2 * (3 : Int32)) + (1 : Int32))).toNatClampNeg) (m_who (((y3_2 * (3 : Int32)) + (2 : Int32))).toNatClampNeg) c_who_6 c_pull_6 hc) (cwV 4 hts (wM_V mw_43_21 mw_17_13 mw_17_14 mw_2_0 mw_17_15) rfl rfl rfl dk_X2_seat ⟨Nat.le_of_ble_eq_true rfl, Nat.le_of_ble_eq_true rfl⟩) hK hP hD hS hA 2 0 rfl rfl rfl [4, 5, 6, 7, 8, 9, 10, 11, 12, 13] [0, 1, 2, 3] [0, 1, 2, 3, 4, 5, 6, 7, 8, 9, 10, 11, 12, 13] rfl rfl rfl (by decide) rfl hl.1 rfl (Nat.le_of_ble_eq_true rfl) dX6_firstWrong_51 ⟨Nat.zero_le _, Nat.zero_le _⟩ (fun H locs hP hD hS => ?_)
          refine lv_iload_n hx hb dX6_firstWrong_54 rfl (lv_at hl 3 rfl) ?_
          obtain ⟨J78_7, hJ78_7, hf⟩ := jn1_s hf
          have WJ78_7 : ∀ (c_pull_7 : Nat → Int32) (H : Heap) (locs : List Loc) (ls : Array Slot), va_P (dC, dI) vwCl (W_X6m_X2c_X0b cI cZ cII qm qm_who qm_hours qm_minutes qc qc_who qc_pull qb qb_pull qb_strength qb_back qb_moods qb_tides qb_carts m_count m_who m_hours m_minutes c_last c_who_6 c_pull_7 b_law b_places b_broad b_horses b_blinds b_besides b_tideCount b_cartCount b_due b_pairs b_pull b_strength b_back b_moods b_tides b_carts) H → va_D A (W_X6m_X2c_X0b cI cZ cII qm qm_who qm_hours qm_minutes qc qc_who qc_pull qb qb_pull qb_strength qb_back qb_moods qb_tides qb_carts m_count m_who m_hours m_minutes c_last c_who_6 c_pull_7 b_law b_places b_broad b_horses b_blinds b_besides b_tideCount b_cartCount b_due b_pairs b_pull b_strength b_back b_moods b_tides b_carts) → va_S A s.heap H locs → lv_has ls 7 [(0, .ref qm), (1, .int n1), (2, .int n2), (3, .int y3_2)] → J78_7 c_pull_7 = some (rr, c_who', c_pull') → W p l e rm_X6_firstWrong s m args below meth c H locs 0 0 Q (F0 m 78 ls []) := by
            intro c_pull_7 H locs ls hP hD hS hl hf
            have hf := hJ78_7 _ hf
            refine lv_aload_n hx hb dX6_firstWrong_78 rfl (lv_at hl 0 rfl) ?_
            refine va_get (D := (dC, dI)) (ci := 6) (v := .ref qm_minutes) (C := RX6) (T := TX6) (N := 6) hx hb hw inlX6 hown hK hP 0 rfl rfl 5 (by decide) (hw _ mw_5_16) (fun _ h9 => h9) rfl dX6_firstWrong_79 ?_
            refine lv_iload_n hx hb dX6_firstWrong_82 rfl (lv_at hl 3 rfl) ?_
            obtain ⟨hi8, hf⟩ := pg_chk hf
            refine va_iald hx hb hK hP 3 0 rfl rfl hi8 dX6_firstWrong_83 ?_
            obtain ⟨J97_9, hJ97_9, hf⟩ := jn1_s hf
            have WJ97_9 : ∀ (z0_9 : Int32) (H : Heap) (locs : List Loc) (ls : Array Slot), va_P (dC, dI) vwCl (W_X6m_X2c_X0b cI cZ cII qm qm_who qm_hours qm_minutes qc qc_who qc_pull qb qb_pull qb_strength qb_back qb_moods qb_tides qb_carts m_count m_who m_hours m_minutes c_last c_who_6 c_pull_7 b_law b_places b_broad b_horses b_blinds b_besides b_tideCount b_cartCount b_due b_pairs b_pull b_strength b_back b_moods b_tides b_carts) H → va_D A (W_X6m_X2c_X0b cI cZ cII qm qm_who qm_hours qm_minutes qc qc_who qc_pull qb qb_pull qb_strength qb_back qb_moods qb_tides qb_carts m_count m_who m_hours m_minutes c_last c_who_6 c_pull_7 b_law b_places b_broad b_horses b_blinds b_besides b_tideCount b_cartCount b_due b_pairs b_pull b_strength b_back b_moods b_tides b_carts) → va_S A s.heap H locs → lv_has ls 7 [(0, .ref qm), (1, .int n1), (2, .int n2), (3, .int y3_2)] → J97_9 z0_9 = some (rr, c_who', c_pull') → W p l e rm_X6_firstWrong s m args below meth c H locs 0 0 Q (F0 m 97 ls [.int z0_9]) := by
              intro z0_9 H locs ls hP hD hS hl hf
              have hf := hJ97_9 _ hf
              refine lv_istore (lv' := [(5, .int z0_9), (0, .ref qm), (1, .int n1), (2, .int n2), (3, .int y3_2)]) hx hb dX6_firstWrong_97 hl (by decide) rfl (fun ls hl => ?_)
              refine lv_aload_n hx hb dX6_firstWrong_99 rfl (lv_at hl 1 rfl) ?_
              refine va_get (D := (dC, dI)) (ci := 6) (v := .ref qb) (C := RX6) (T := TX6) (N := 6) hx hb hw inlX6 hown hK hP 0 rfl rfl 1 (by decide) (hw _ mw_5_17) (fun _ h9 => h9) rfl dX6_firstWrong_100 ?_
              refine lv_aload_n hx hb dX6_firstWrong_103 rfl (lv_at hl 1 rfl) ?_
              refine va_get (D := (dC, dI)) (ci := 6) (v := .ref qm_hours) (C := RX6) (T := TX6) (N := 6) hx hb hw inlX6 hown hK hP 0 rfl rfl 4 (by decide) (hw _ mw_5_15) (fun _ h9 => h9) rfl dX6_firstWrong_104 ?_
              refine lv_iload_n hx hb dX6_firstWrong_107 rfl (lv_at hl 4 rfl) ?_
              refine va_iald hx hb hK hP 2 0 rfl rfl hi8 dX6_firstWrong_108 ?_
              obtain ⟨r_10, hc, hf⟩ := bn1_s hf
              refine pg_cVi (As := [.int (m_hours (y3_2).toNatClampNeg)]) (rest := []) (wf := (W_X6m_X2c_X0b cI cZ cII qm qm_who qm_hours qm_minutes qc qc_who qc_pull qb qb_pull qb_strength qb_back qb_moods qb_tides qb_carts m_count m_who m_hours m_minutes c_last c_who_6 c_pull_7 b_law b_places b_broad b_horses b_blinds b_besides b_tideCount b_cartCount b_due b_pairs b_pull b_strength b_back b_moods b_tides b_carts)) ⟨hx, hb, hml, hown, hw⟩ (c_X0_tideOf l dC dI cI cZ cII qb qb_pull qb_strength qb_back qb_moods qb_tides qb_carts H.size b_law b_places b_broad b_horses b_blinds b_besides b_tideCount b_cartCount b_due b_pairs b_pull b_strength b_back b_moods b_tides b_carts (m_hours (y3_2).toNatClampNeg) r_10 hc) (cwV 1 hts (wM_V mw_44_10 mw_23_12 mw_23_13 mw_1_15 mw_23_14) rfl rfl rfl dk_X0_tideOf ⟨Nat.le_of_ble_eq_true rfl, Nat.le_of_ble_eq_true rfl⟩) hK hP hD hS hA 0 0 rfl rfl rfl [7, 8, 9, 10, 11, 12, 13] [0, 1, 2, 3, 4, 5, 6] [0, 1, 2, 3, 4, 5, 6, 7, 8, 9, 10, 11, 12, 13] rfl rfl rfl (by decide) rfl hl.1 rfl (Nat.le_of_ble_eq_true rfl) dX6_firstWrong_109 ⟨Nat.zero_le _, Nat.zero_le _⟩ (fun H locs hP hD hS => ?_)
              refine lv_istore (lv' := [(6, .int r_10), (5, .int z0_9), (0, .ref qm), (1, .int n1), (2, .int n2), (3, .int y3_2)]) hx hb dX6_firstWrong_112 hl (by decide) rfl (fun ls hl => ?_)
              refine lv_aload_n hx hb dX6_firstWrong_114 rfl (lv_at hl 2 rfl) ?_
              refine va_get (D := (dC, dI)) (ci := 6) (v := .ref qc) (C := RX6) (T := TX6) (N := 6) hx hb hw inlX6 hown hK hP 0 rfl rfl 2 (by decide) (hw _ mw_5_18) (fun _ h9 => h9) rfl dX6_firstWrong_115 ?_
              refine lv_iconst (v := (0 : Int32)) hx hb dX6_firstWrong_118 (by decide) ?_
              refine lv_aload_n hx hb dX6_firstWrong_119 rfl (lv_at hl 2 rfl) ?_
              refine va_get (D := (dC, dI)) (ci := 6) (v := .ref qb) (C := RX6) (T := TX6) (N := 6) hx hb hw inlX6 hown hK hP 0 rfl rfl 1 (by decide) (hw _ mw_5_17) (fun _ h9 => h9) rfl dX6_firstWrong_120 ?_
              refine va_get (D := (dC, dI)) (ci := 0) (v := .ref qb_strength) (C := RX0) (T := TX0) (N := 16) hx hb hw inlX0 hown hK hP 7 rfl rfl 11 (by decide) (hw _ mw_43_20) (fun _ h9 => h9) rfl dX6_firstWrong_123 ?_
              refine lv_iload hx hb dX6_firstWrong_126 (lv_at hl 0 rfl) ?_
              refine lv_bipush (v := (120 : Int32)) hx hb dX6_firstWrong_128 (by decide) ?_
              obtain ⟨r_11, hc, hf⟩ := bn1_s hf
              refine pg_cVi (As := [.int (0 : Int32), .ref qb_strength, .int r_10, .int (120 : Int32)]) (rest := []) (wf := (W_X6m_X2c_X0b cI cZ cII qm qm_who qm_hours qm_minutes qc qc_who qc_pull qb qb_pull qb_strength qb_back qb_moods qb_tides qb_carts m_count m_who m_hours m_minutes c_last c_who_6 c_pull_7 b_law b_places b_broad b_horses b_blinds b_besides b_tideCount b_cartCount b_due b_pairs b_pull b_strength b_back b_moods b_tides b_carts)) ⟨hx, hb, hml, hown, hw⟩ (c_X2_minutesBbstrength l dC dI cI cZ cII qc qc_who qc_pull qb qb_pull qb_strength qb_back qb_moods qb_tides qb_carts H.size c_last c_who_6 c_pull_7 b_law b_places b_broad b_horses b_blinds b_besides b_tideCount b_cartCount b_due b_pairs b_pull b_strength b_back b_moods b_tides b_carts (0 : Int32) r_10 (120 : Int32) r_11 hc) (cwV 4 hts (wM_V mw_44_11 mw_29_2 mw_29_3 mw_2_0 mw_29_4) rfl rfl rfl dk_X2_minutes ⟨Nat.le_of_ble_eq_true rfl, Nat.le_of_ble_eq_true rfl⟩) hK hP hD hS hA 2 0 rfl rfl rfl [4, 5, 6, 7, 8, 9, 10, 11, 12, 13] [0, 1, 2, 3] [0, 1, 2, 3, 4, 5, 6, 7, 8, 9, 10, 11, 12, 13] rfl rfl rfl (by decide) rfl hl.1 rfl (Nat.le_of_ble_eq_true rfl) dX6_firstWrong_130 ⟨Nat.zero_le _, Nat.zero_le _⟩ (fun H locs hP hD hS => ?_)
              refine lv_iload hx hb dX6_firstWrong_133 (lv_at hl 1 rfl) ?_
              refine lv_icmp_eq (tgt := 140) hx hb dX6_firstWrong_135 (by decide) (fun h9 => ?_) (fun h9 => ?_)
              · have hf := pg_t h9 hf
                refine lv_iinc (v := (y3_2 + (1 : Int32))) (lv' := [(3, .int (y3_2 + (1 : Int32))), (6, .int r_10), (5, .int z0_9), (0, .ref qm), (1, .int n1), (2, .int n2)]) hx hb dX6_firstWrong_140 hl (k := 5) rfl rfl (by decide) rfl (fun ls hl => ?_)
                refine lv_goto (tgt := 2) hx hb dX6_firstWrong_143 (by decide) ?_
                exact ih _ _ _ _ _ _ hP hD hS (lv_sub hl [3, 4, 5, 0] rfl) (hrec2 _ _ _ hf)
              · have hf := pg_f h9 hf
                refine lv_iload_n hx hb dX6_firstWrong_138 rfl (lv_at hl 5 rfl) ?_
                exact RET _ _ _ _ _ _ _ dX6_firstWrong_139 hP hD hS hf
            refine lv_if_ne (tgt := 91) hx hb dX6_firstWrong_84 (by decide) (fun h9 => ?_) (fun h9 => ?_)
            · have hf := pg_f h9 hf
              refine lv_aload_n hx hb dX6_firstWrong_91 rfl (lv_at hl 0 rfl) ?_
              refine va_get (D := (dC, dI)) (ci := 6) (v := .ref qm_minutes) (C := RX6) (T := TX6) (N := 6) hx hb hw inlX6 hown hK hP 0 rfl rfl 5 (by decide) (hw _ mw_5_16) (fun _ h9 => h9) rfl dX6_firstWrong_92 ?_
              refine lv_iload_n hx hb dX6_firstWrong_95 rfl (lv_at hl 3 rfl) ?_
              refine va_iald hx hb hK hP 3 0 rfl rfl hi8 dX6_firstWrong_96 ?_
              exact WJ97_9 _ _ _ _ hP hD hS hl hf
            · have hf := pg_t h9 hf
              refine lv_iconst (v := (-1 : Int32)) hx hb dX6_firstWrong_87 (by decide) ?_
              refine lv_goto (tgt := 97) hx hb dX6_firstWrong_88 (by decide) ?_
              exact WJ97_9 _ _ _ _ hP hD hS hl hf
          refine lv_if_ne (tgt := 69) hx hb dX6_firstWrong_55 (by decide) (fun h9 => ?_) (fun h9 => ?_)
          · have hf := pg_f h9 hf
            refine lv_aload_n hx hb dX6_firstWrong_69 rfl (lv_at hl 1 rfl) ?_
            refine va_get (D := (dC, dI)) (ci := 6) (v := .ref qc) (C := RX6) (T := TX6) (N := 6) hx hb hw inlX6 hown hK hP 0 rfl rfl 2 (by decide) (hw _ mw_5_18) (fun _ h9 => h9) rfl dX6_firstWrong_70 ?_
            refine lv_iload_n hx hb dX6_firstWrong_73 rfl (lv_at hl 2 rfl) ?_
            refine lv_iload_n hx hb dX6_firstWrong_74 rfl (lv_at hl 3 rfl) ?_
            obtain ⟨c_pull_12, hc, hf⟩ := bn1_s hf
            refine pg_cVv (As := [.int n1, .int n2]) (rest := []) (wf := (W_X6m_X2c_X0b cI cZ cII qm qm_who qm_hours qm_minutes qc qc_who qc_pull qb qb_pull qb_strength qb_back qb_moods qb_tides qb_carts m_count m_who m_hours m_minutes c_last c_who_6 c_pull_12 b_law b_places b_broad b_horses b_blinds b_besides b_tideCount b_cartCount b_due b_pairs b_pull b_strength b_back b_moods b_tides b_carts)) ⟨hx, hb, hml, hown, hw⟩ (c_X2_pullOtherwise l dC dI cI cZ cII qc qc_who qc_pull qb qb_pull qb_strength qb_back qb_moods qb_tides qb_carts H.size c_last c_who_6 c_pull_6 b_law b_places b_broad b_horses b_blinds b_besides b_tideCount b_cartCount b_due b_pairs b_pull b_strength b_back b_moods b_tides b_carts n1 n2 c_pull_12 hc) (cwV 2 hts (wM_V mw_44_6 mw_44_7 mw_44_8 mw_2_0 mw_44_9) rfl rfl rfl dk_X2_pullOtherwise ⟨Nat.le_of_ble_eq_true rfl, Nat.le_of_ble_eq_true rfl⟩) hK hP hD hS hA 2 0 rfl rfl rfl [4, 5, 6, 7, 8, 9, 10, 11, 12, 13] [0, 1, 2, 3] [0, 1, 2, 3, 4, 5, 6, 7, 8, 9, 10, 11, 12, 13] rfl rfl rfl (by decide) rfl hl.1 rfl (Nat.le_of_ble_eq_true rfl) dX6_firstWrong_75 ⟨Nat.zero_le _, Nat.zero_le _⟩ (fun H locs hP hD hS => ?_)
            exact WJ78_7 _ _ _ _ hP hD hS (lv_sub hl [1, 2, 3, 4] rfl) hf
          · have hf := pg_t h9 hf
            refine lv_aload_n hx hb dX6_firstWrong_58 rfl (lv_at hl 1 rfl) ?_
            refine va_get (D := (dC, dI)) (ci := 6) (v := .ref qc) (C := RX6) (T := TX6) (N := 6) hx hb hw inlX6 hown hK hP 0 rfl rfl 2 (by decide) (hw _ mw_5_18) (fun _ h9 => h9) rfl dX6_firstWrong_59 ?_
            refine lv_iload_n hx hb dX6_firstWrong_62 rfl (lv_at hl 2 rfl) ?_
            obtain ⟨c_pull_13, hc, hf⟩ := bn1_s hf
            refine pg_cVv (As := [.int n1]) (rest := []) (wf := (W_X6m_X2c_X0b cI cZ cII qm qm_who qm_hours qm_minutes qc qc_who qc_pull qb qb_pull qb_strength qb_back qb_moods qb_tides qb_carts m_count m_who m_hours m_minutes c_last c_who_6 c_pull_13 b_law b_places b_broad b_horses b_blinds b_besides b_tideCount b_cartCount b_due b_pairs b_pull b_strength b_back b_moods b_tides b_carts)) ⟨hx, hb, hml, hown, hw⟩ (c_X2_pullHalf l dC dI cI cZ cII qc qc_who qc_pull qb qb_pull qb_strength qb_back qb_moods qb_tides qb_carts H.size c_last c_who_6 c_pull_6 b_law b_places b_broad b_horses b_blinds b_besides b_tideCount b_cartCount b_due b_pairs b_pull b_strength b_back b_moods b_tides b_carts n1 c_pull_13 hc) (cwV 1 hts (wM_V mw_43_22 mw_43_23 mw_44_0 mw_2_0 mw_44_1) rfl rfl rfl dk_X2_pullHalf ⟨Nat.le_of_ble_eq_true rfl, Nat.le_of_ble_eq_true rfl⟩) hK hP hD hS hA 2 0 rfl rfl rfl [4, 5, 6, 7, 8, 9, 10, 11, 12, 13] [0, 1, 2, 3] [0, 1, 2, 3, 4, 5, 6, 7, 8, 9, 10, 11, 12, 13] rfl rfl rfl (by decide) rfl hl.1 rfl (Nat.le_of_ble_eq_true rfl) dX6_firstWrong_63 ⟨Nat.zero_le _, Nat.zero_le _⟩ (fun H locs hP hD hS => ?_)
            refine lv_goto (tgt := 78) hx hb dX6_firstWrong_66 (by decide) ?_
            exact WJ78_7 _ _ _ _ hP hD hS (lv_sub hl [1, 2, 3, 4] rfl) hf
  exact WL2 fu _ _ _ _ _ _ hP hD hS (lv_sub hl [1, 2, 3, 0] rfl) hf
