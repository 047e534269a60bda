def f_X4_append (n1 : Int32) (r_length : Int32) (r_text : Nat → Int32) : Option (Int32 × (Nat → Int32)) :=
  if (500 : Int32) ≤ r_length then
    some (r_length, r_text)
  else
    if r_length < 0 ∨ 500 ≤ (r_length).toNatClampNeg then none else
    some ((r_length + (1 : Int32)), (upd r_text (r_length).toNatClampNeg n1))
abbrev rm_X4_append : Room := { frames := 0, cells := 0, slots := 0, locals := 0 }
theorem dk_X4_append : yX4_append.cls = RX4 ∧ yX4_append.cls ≠ "java/lang/invoke/MethodHandle" ∧ yX4_append.cls ≠ "java/lang/invoke/VarHandle" ∧ (parseMethodDescriptor yX4_append.desc).map (fun d => d.parameters.length) = some 1 := by decide +kernel
set_option maxHeartbeats 4000000 in
set_option maxRecDepth 100000 in
theorem c_X4_append (l : Launch) (dC : Nat → ClassId) (dI : Nat → Nat → Nat) (cI cZ cII : ClassId) (qr qr_text : Nat) (sz : Nat) (r_length : Int32) (r_fault : Int32) (r_faultAt : Int32) (r_next : Int32) (r_numberFrom : Int32) (r_text : Nat → Int32) (n1 : Int32) (r_length' : Int32) (r_text' : Nat → Int32) (hf : f_X4_append n1 r_length r_text = some (r_length', r_text')) : Met l yX4_append (wM yX4_append cX4_append 2 none) rm_X4_append (PreW (dC, dI) (tyA cI cZ cII) (W_X4r cI cZ cII qr qr_text r_length r_fault r_faultAt r_next r_numberFrom r_text) sz [.ref qr, .int n1]) (PostV (dC, dI) (tyA cI cZ cII) (W_X4r cI cZ cII qr qr_text r_length r_fault r_faultAt r_next r_numberFrom r_text) (W_X4r cI cZ cII qr qr_text r_length' r_fault r_faultAt r_next r_numberFrom r_text') sz) 0 0 (va_A (W_X4r cI cZ cII qr qr_text r_length r_fault r_faultAt r_next r_numberFrom r_text) sz) := by
  refine Met.ofW (cc := cX4_append) (maxL := 2) (ret := none) (by decide) rfl ?_
  intro p e s m args below meth c s₁ B hml hv
  obtain ⟨rfl, hsz, hP, hK, hD0⟩ := hv
  have hx := B.exec
  have hb := B.bytes
  have hr := B.returns
  have hts := atoms_spec (ws := wM yX4_append cX4_append 2 none) B.pre
  have hown : s.vm.findClass RX4 = some m.cls := findClass_of_methodNamed B.named
  have hlocks := B.notSynchronized
  subst hsz
  have hD := hD0.self (sz := s.heap.size)
  obtain ⟨A, hAe⟩ : ∃ A, A = va_A (W_X4r cI cZ cII qr qr_text r_length r_fault r_faultAt r_next r_numberFrom r_text) s.heap.size := ⟨_, rfl⟩
  rw [← hAe] at hD
  have hA : ∀ q : Nat, s.heap.size ≤ q → A q := fun q h => by rw [hAe]; exact Or.inr h
  have hS : va_S A s.heap s.heap [] := va_S.rf
  have hl := lv_entry ([.ref qr, .int n1]) (n := 2) (Nat.le_of_ble_eq_true rfl)
  rw [lg_entry_eq]
  generalize (lg_sl ([.ref qr, .int n1]) ++ List.replicate (2 - (lg_sl ([.ref qr, .int n1])).length) Slot.unset).toArray = ls at hl ⊢
  have hl : lv_has ls 2 [(0, .ref qr), (1, .int n1)] := hl
  generalize ([.ref qr, .int n1] : List Value).toArray = args at hts ⊢
  have hw : ∀ w ∈ wsL_law, w.before args s = true := fun w h => hts w (List.mem_cons_of_mem _ h)
  refine pg_start (fun Q hQ => ?_)
  have RET : ∀ (H : Heap) (locs : List Loc) (ls : Array Slot) (pc : Nat) (x0 : Int32) (x1 : Nat → Int32) , decode cX4_append pc = .ok (.return_, 1) → va_P (dC, dI) vwCl (W_X4r cI cZ cII qr qr_text x0 r_fault r_faultAt r_next r_numberFrom x1) H → va_D A (W_X4r cI cZ cII qr qr_text x0 r_fault r_faultAt r_next r_numberFrom x1) → va_S A s.heap H locs → (some (x0, x1) : Option (Int32 × (Nat → Int32))) = some (r_length', r_text') → W p l e rm_X4_append s m args below meth c H locs 0 0 Q (F0 m pc ls []) := by
    intro H locs ls pc x0 x1 hd hP hD hS he
    subst hAe; subst hQ
    simp only [Option.some.injEq, Prod.mk.injEq] at he
    obtain ⟨rfl, rfl⟩ := he
    exact pg_vret hx hb hr hlocks hK hP hD hS hd
  unfold f_X4_append at hf
  refine lv_aload_n hx hb dX4_append_0 rfl (lv_at hl 0 rfl) ?_
  refine va_get (D := (dC, dI)) (ci := 4) (v := .int r_length) (C := RX4) (T := TX4) (N := 6) hx hb hw inlX4 hown hK hP 0 rfl rfl 1 (by decide) (hw _ mw_7_14) (fun _ h9 => h9) rfl dX4_append_1 ?_
  refine lv_sipush (v := (500 : Int32)) hx hb dX4_append_4 (by decide) ?_
  refine lv_icmp_ge (tgt := 30) hx hb dX4_append_7 (by decide) (fun h9 => ?_) (fun h9 => ?_)
  · have hf := pg_t h9 hf
    exact RET _ _ _ _ _ _ dX4_append_30 hP hD hS hf
  · have hf := pg_f h9 hf
    refine lv_aload_n hx hb dX4_append_10 rfl (lv_at hl 0 rfl) ?_
    refine va_get (D := (dC, dI)) (ci := 4) (v := .ref qr_text) (C := RX4) (T := TX4) (N := 6) hx hb hw inlX4 hown hK hP 0 rfl rfl 0 (by decide) (hw _ mw_3_13) (fun _ h9 => h9) rfl dX4_append_11 ?_
    refine lv_aload_n hx hb dX4_append_14 rfl (lv_at hl 0 rfl) ?_
    refine va_get (D := (dC, dI)) (ci := 4) (v := .int r_length) (C := RX4) (T := TX4) (N := 6) hx hb hw inlX4 hown hK hP 0 rfl rfl 1 (by decide) (hw _ mw_7_14) (fun _ h9 => h9) rfl dX4_append_15 ?_
    refine lv_iload_n hx hb dX4_append_18 rfl (lv_at hl 1 rfl) ?_
    obtain ⟨hi1, hf⟩ := pg_chk hf
    refine va_iast hx hb hK hP hD hS 1 0 rfl rfl hi1 dX4_append_19 (fun H locs hP hD hS => ?_)
    have hP : va_P (dC, dI) vwCl (W_X4r cI cZ cII qr qr_text r_length r_fault r_faultAt r_next r_numberFrom (upd r_text (r_length).toNatClampNeg n1)) H := hP
    have hD : va_D A (W_X4r cI cZ cII qr qr_text r_length r_fault r_faultAt r_next r_numberFrom (upd r_text (r_length).toNatClampNeg n1)) := hD
    refine lv_aload_n hx hb dX4_append_20 rfl (lv_at hl 0 rfl) ?_
    refine lv_dup hx hb dX4_append_21 rfl ?_
    refine va_get (D := (dC, dI)) (ci := 4) (v := .int r_length) (C := RX4) (T := TX4) (N := 6) hx hb hw inlX4 hown hK hP 0 rfl rfl 1 (by decide) (hw _ mw_7_14) (fun _ h9 => h9) rfl dX4_append_22 ?_
    refine lv_iconst (v := (1 : Int32)) hx hb dX4_append_25 (by decide) ?_
    refine lv_iadd hx hb dX4_append_26 ?_
    refine va_put (D := (dC, dI)) (ci := 4) (v := .int (r_length + (1 : Int32))) (ty := .int) (C := RX4) (T := TX4) (N := 6) hx hb hw inlX4 tyX4 tyX4_ok nmX4 hown hK hP hD hS 0 rfl rfl 1 (by decide) (hw _ mw_7_14) (fun _ h9 => h9) rfl (by decide +kernel) rfl rfl (Nat.le_of_ble_eq_true rfl) dX4_append_27 (fun H locs hP hD hS => ?_)
    have hP : va_P (dC, dI) vwCl (W_X4r cI cZ cII qr qr_text (r_length + (1 : Int32)) r_fault r_faultAt r_next r_numberFrom (upd r_text (r_length).toNatClampNeg n1)) H := hP
    have hD : va_D A (W_X4r cI cZ cII qr qr_text (r_length + (1 : Int32)) r_fault r_faultAt r_next r_numberFrom (upd r_text (r_length).toNatClampNeg n1)) := hD
    exact RET _ _ _ _ _ _ dX4_append_30 hP hD hS hf
def f_X4_skipBlanks (r_length : Int32) (r_next : Int32) (r_text : Nat → Int32) : Option (Int32) :=
  jn1 (fun (r_next_1 : Int32) =>
    some (r_next_1)
  ) (fun K48_1 =>
  lq1 (fun rec2 (r_next_2 : Int32) =>
    if r_length ≤ r_next_2 then
      K48_1 r_next_2
    else
      if (500 : Int32) ≤ r_next_2 then
        K48_1 r_next_2
      else
        if r_next_2 < 0 ∨ 500 ≤ (r_next_2).toNatClampNeg then none else
        if (r_text (r_next_2).toNatClampNeg) = (32 : Int32) then
          rec2 (r_next_2 + (1 : Int32))
        else
          K48_1 r_next_2
  ) fu r_next
  )
abbrev rm_X4_skipBlanks : Room := { frames := 0, cells := 0, slots := 0, locals := 0 }
theorem dk_X4_skipBlanks : yX4_skipBlanks.cls = RX4 ∧ yX4_skipBlanks.cls ≠ "java/lang/invoke/MethodHandle" ∧ yX4_skipBlanks.cls ≠ "java/lang/invoke/VarHandle" ∧ (parseMethodDescriptor yX4_skipBlanks.desc).map (fun d => d.parameters.length) = some 0 := by decide +kernel
set_option maxHeartbeats 4000000 in
set_option maxRecDepth 100000 in
theorem c_X4_skipBlanks (l : Launch) (dC : Nat → ClassId) (dI : Nat → Nat → Nat) (cI cZ cII : ClassId) (qr qr_text : Nat) (sz : Nat) (r_length : Int32) (r_fault : Int32) (r_faultAt : Int32) (r_next : Int32) (r_numberFrom : Int32) (r_text : Nat → Int32) (r_next' : Int32) (hf : f_X4_skipBlanks r_length r_next r_text = some (r_next')) : Met l yX4_skipBlanks (wM yX4_skipBlanks cX4_skipBlanks 1 none) rm_X4_skipBlanks (PreW (dC, dI) (tyA cI cZ cII) (W_X4r cI cZ cII qr qr_text r_length r_fault r_faultAt r_next r_numberFrom r_text) sz [.ref qr]) (PostV (dC, dI) (tyA cI cZ cII) (W_X4r cI cZ cII qr qr_text r_length r_fault r_faultAt r_next r_numberFrom r_text) (W_X4r cI cZ cII qr qr_text r_length r_fault r_faultAt r_next' r_numberFrom r_text) sz) 0 0 (va_A (W_X4r cI cZ cII qr qr_text r_length r_fault r_faultAt r_next r_numberFrom r_text) sz) := by
  refine Met.ofW (cc := cX4_skipBlanks) (maxL := 1) (ret := none) (by decide) rfl ?_
  intro p e s m args below meth c s₁ B hml hv
  obtain ⟨rfl, hsz, hP, hK, hD0⟩ := hv
  have hx := B.exec
  have hb := B.bytes
  have hr := B.returns
  have hts := atoms_spec (ws := wM yX4_skipBlanks cX4_skipBlanks 1 none) B.pre
  have hown : s.vm.findClass RX4 = some m.cls := findClass_of_methodNamed B.named
  have hlocks := B.notSynchronized
  subst hsz
  have hD := hD0.self (sz := s.heap.size)
  obtain ⟨A, hAe⟩ : ∃ A, A = va_A (W_X4r cI cZ cII qr qr_text r_length r_fault r_faultAt r_next r_numberFrom r_text) s.heap.size := ⟨_, rfl⟩
  rw [← hAe] at hD
  have hA : ∀ q : Nat, s.heap.size ≤ q → A q := fun q h => by rw [hAe]; exact Or.inr h
  have hS : va_S A s.heap s.heap [] := va_S.rf
  have hl := lv_entry ([.ref qr]) (n := 1) (Nat.le_of_ble_eq_true rfl)
  rw [lg_entry_eq]
  generalize (lg_sl ([.ref qr]) ++ List.replicate (1 - (lg_sl ([.ref qr])).length) Slot.unset).toArray = ls at hl ⊢
  have hl : lv_has ls 1 [(0, .ref qr)] := hl
  generalize ([.ref qr] : List Value).toArray = args at hts ⊢
  have hw : ∀ w ∈ wsL_law, w.before args s = true := fun w h => hts w (List.mem_cons_of_mem _ h)
  refine pg_start (fun Q hQ => ?_)
  have RET : ∀ (H : Heap) (locs : List Loc) (ls : Array Slot) (pc : Nat) (x0 : Int32) , decode cX4_skipBlanks pc = .ok (.return_, 1) → va_P (dC, dI) vwCl (W_X4r cI cZ cII qr qr_text r_length r_fault r_faultAt x0 r_numberFrom r_text) H → va_D A (W_X4r cI cZ cII qr qr_text r_length r_fault r_faultAt x0 r_numberFrom r_text) → va_S A s.heap H locs → (some (x0) : Option (Int32)) = some (r_next') → W p l e rm_X4_skipBlanks s m args below meth c H locs 0 0 Q (F0 m pc ls []) := by
    intro H locs ls pc x0 hd hP hD hS he
    subst hAe; subst hQ
    obtain rfl := Option.some.inj he
    exact pg_vret hx hb hr hlocks hK hP hD hS hd
  unfold f_X4_skipBlanks at hf
  obtain ⟨K48_1, hK48_1, hf⟩ := jn1_s hf
  have WK48_1 : ∀ (r_next_1 : Int32) (H : Heap) (locs : List Loc) (ls : Array Slot), va_P (dC, dI) vwCl (W_X4r cI cZ cII qr qr_text r_length r_fault r_faultAt r_next_1 r_numberFrom r_text) H → va_D A (W_X4r cI cZ cII qr qr_text r_length r_fault r_faultAt r_next_1 r_numberFrom r_text) → va_S A s.heap H locs → lv_has ls 1 [] → K48_1 r_next_1 = some (r_next') → W p l e rm_X4_skipBlanks s m args below meth c H locs 0 0 Q (F0 m 48 ls []) := by
    intro r_next_1 H locs ls hP hD hS hl hf
    have hf := hK48_1 _ hf
    exact RET _ _ _ _ _ dX4_skipBlanks_48 hP hD hS hf
  obtain ⟨B2, hB2, hf⟩ := lq1_n hf
  have WL2 : ∀ (n9 : Nat) (r_next_2 : Int32) (H : Heap) (locs : List Loc) (ls : Array Slot), va_P (dC, dI) vwCl (W_X4r cI cZ cII qr qr_text r_length r_fault r_faultAt r_next_2 r_numberFrom r_text) H → va_D A (W_X4r cI cZ cII qr qr_text r_length r_fault r_faultAt r_next_2 r_numberFrom r_text) → va_S A s.heap H locs → lv_has ls 1 [(0, .ref qr)] → lq1 B2 n9 r_next_2 = some (r_next') → W p l e rm_X4_skipBlanks s m args below meth c H locs 0 0 Q (F0 m 0 ls []) := by
    intro n9
    induction n9 with
    | zero => intro r_next_2 H locs ls hP hD hS hl hf; cases hf
    | succ n9 ih =>
      intro r_next_2 H locs ls hP hD hS hl hf
      obtain ⟨rec2, hrec2, hf⟩ := lq1_s hf
      have hf := hB2 rec2 _ hf
      refine lv_aload_n hx hb dX4_skipBlanks_0 rfl (lv_at hl 0 rfl) ?_
      refine va_get (D := (dC, dI)) (ci := 4) (v := .int r_next_2) (C := RX4) (T := TX4) (N := 6) hx hb hw inlX4 hown hK hP 0 rfl rfl 4 (by decide) (hw _ mw_8_14) (fun _ h9 => h9) rfl dX4_skipBlanks_1 ?_
      refine lv_aload_n hx hb dX4_skipBlanks_4 rfl (lv_at hl 0 rfl) ?_
      refine va_get (D := (dC, dI)) (ci := 4) (v := .int r_length) (C := RX4) (T := TX4) (N := 6) hx hb hw inlX4 hown hK hP 0 rfl rfl 1 (by decide) (hw _ mw_7_14) (fun _ h9 => h9) rfl dX4_skipBlanks_5 ?_
      refine lv_icmp_ge (tgt := 48) hx hb dX4_skipBlanks_8 (by decide) (fun h9 => ?_) (fun h9 => ?_)
      · have hf := pg_t h9 hf
        exact WK48_1 _ _ _ _ hP hD hS (lv_sub hl [] rfl) hf
      · have hf := pg_f h9 hf
        refine lv_aload_n hx hb dX4_skipBlanks_11 rfl (lv_at hl 0 rfl) ?_
        refine va_get (D := (dC, dI)) (ci := 4) (v := .int r_next_2) (C := RX4) (T := TX4) (N := 6) hx hb hw inlX4 hown hK hP 0 rfl rfl 4 (by decide) (hw _ mw_8_14) (fun _ h9 => h9) rfl dX4_skipBlanks_12 ?_
        refine lv_sipush (v := (500 : Int32)) hx hb dX4_skipBlanks_15 (by decide) ?_
        refine lv_icmp_ge (tgt := 48) hx hb dX4_skipBlanks_18 (by decide) (fun h9 => ?_) (fun h9 => ?_)
        · have hf := pg_t h9 hf
          exact WK48_1 _ _ _ _ hP hD hS (lv_sub hl [] rfl) hf
        · have hf := pg_f h9 hf
          refine lv_aload_n hx hb dX4_skipBlanks_21 rfl (lv_at hl 0 rfl) ?_
          refine va_get (D := (dC, dI)) (ci := 4) (v := .ref qr_text) (C := RX4) (T := TX4) (N := 6) hx hb hw inlX4 hown hK hP 0 rfl rfl 0 (by decide) (hw _ mw_3_13) (fun _ h9 => h9) rfl dX4_skipBlanks_22 ?_
          refine lv_aload_n hx hb dX4_skipBlanks_25 rfl (lv_at hl 0 rfl) ?_
          refine va_get (D := (dC, dI)) (ci := 4) (v := .int r_next_2) (C := RX4) (T := TX4) (N := 6) hx hb hw inlX4 hown hK hP 0 rfl rfl 4 (by decide) (hw _ mw_8_14) (fun _ h9 => h9) rfl dX4_skipBlanks_26 ?_
          obtain ⟨hi3, hf⟩ := pg_chk hf
          refine va_iald hx hb hK hP 1 0 rfl rfl hi3 dX4_skipBlanks_29 ?_
          refine lv_bipush (v := (32 : Int32)) hx hb dX4_skipBlanks_30 (by decide) ?_
          refine lv_icmp_ne (tgt := 48) hx hb dX4_skipBlanks_32 (by decide) (fun h9 => ?_) (fun h9 => ?_)
          · have hf := pg_f h9 hf
            exact WK48_1 _ _ _ _ hP hD hS (lv_sub hl [] rfl) hf
          · have hf := pg_t h9 hf
            refine lv_aload_n hx hb dX4_skipBlanks_35 rfl (lv_at hl 0 rfl) ?_
            refine lv_dup hx hb dX4_skipBlanks_36 rfl ?_
            refine va_get (D := (dC, dI)) (ci := 4) (v := .int r_next_2) (C := RX4) (T := TX4) (N := 6) hx hb hw inlX4 hown hK hP 0 rfl rfl 4 (by decide) (hw _ mw_8_14) (fun _ h9 => h9) rfl dX4_skipBlanks_37 ?_
            refine lv_iconst (v := (1 : Int32)) hx hb dX4_skipBlanks_40 (by decide) ?_
            refine lv_iadd hx hb dX4_skipBlanks_41 ?_
            refine va_put (D := (dC, dI)) (ci := 4) (v := .int (r_next_2 + (1 : Int32))) (ty := .int) (C := RX4) (T := TX4) (N := 6) hx hb hw inlX4 tyX4 tyX4_ok nmX4 hown hK hP hD hS 0 rfl rfl 4 (by decide) (hw _ mw_8_14) (fun _ h9 => h9) rfl (by decide +kernel) rfl rfl (Nat.le_of_ble_eq_true rfl) dX4_skipBlanks_42 (fun H locs hP hD hS => ?_)
            have hP : va_P (dC, dI) vwCl (W_X4r cI cZ cII qr qr_text r_length r_fault r_faultAt (r_next_2 + (1 : Int32)) r_numberFrom r_text) H := hP
            have hD : va_D A (W_X4r cI cZ cII qr qr_text r_length r_fault r_faultAt (r_next_2 + (1 : Int32)) r_numberFrom r_text) := hD
            refine lv_goto (tgt := 0) hx hb dX4_skipBlanks_45 (by decide) ?_
            exact ih _ _ _ _ hP hD hS hl (hrec2 _ hf)
  exact WL2 fu _ _ _ _ hP hD hS hl hf
def f_X4_isLetter (n1 : Int32) (r_length : Int32) (r_text : Nat → Int32) : Option (Int32) :=
  if n1 < 0 then
    some ((0 : Int32))
  else
    if r_length ≤ n1 then
      some ((0 : Int32))
    else
      if (500 : Int32) ≤ n1 then
        some ((0 : Int32))
      else
        if n1 < 0 ∨ 500 ≤ (n1).toNatClampNeg then none else
        if (r_text (n1).toNatClampNeg) < (97 : Int32) then
          some ((0 : Int32))
        else
          if (122 : Int32) < (r_text (n1).toNatClampNeg) then
            some ((0 : Int32))
          else
            some ((1 : Int32))
abbrev rm_X4_isLetter : Room := { frames := 0, cells := 0, slots := 0, locals := 0 }
theorem dk_X4_isLetter : yX4_isLetter.cls = RX4 ∧ yX4_isLetter.cls ≠ "java/lang/invoke/MethodHandle" ∧ yX4_isLetter.cls ≠ "java/lang/invoke/VarHandle" ∧ (parseMethodDescriptor yX4_isLetter.desc).map (fun d => d.parameters.length) = some 1 := by decide +kernel
set_option maxHeartbeats 4000000 in
set_option maxRecDepth 100000 in
theorem c_X4_isLetter (l : Launch) (dC : Nat → ClassId) (dI : Nat → Nat → Nat) (cI cZ cII : ClassId) (qr qr_text : Nat) (sz : Nat) (r_length : Int32) (r_fault : Int32) (r_faultAt : Int32) (r_next : Int32) (r_numberFrom : Int32) (r_text : Nat → Int32) (n1 : Int32) (rr : Int32) (hf : f_X4_isLetter n1 r_length r_text = some (rr)) : Met l yX4_isLetter (wM yX4_isLetter cX4_isLetter 2 (some .boolean)) rm_X4_isLetter (PreW (dC, dI) (tyA cI cZ cII) (W_X4r cI cZ cII qr qr_text r_length r_fault r_faultAt r_next r_numberFrom r_text) sz [.ref qr, .int n1]) (PostI (dC, dI) (tyA cI cZ cII) rr (W_X4r cI cZ cII qr qr_text r_length r_fault r_faultAt r_next r_numberFrom r_text) (W_X4r cI cZ cII qr qr_text r_length r_fault r_faultAt r_next r_numberFrom r_text) sz) 0 0 (va_A (W_X4r cI cZ cII qr qr_text r_length r_fault r_faultAt r_next r_numberFrom r_text) sz) := by
  refine Met.ofW (cc := cX4_isLetter) (maxL := 2) (ret := (some .boolean)) (by decide) rfl ?_
  intro p e s m args below meth c s₁ B hml hv
  obtain ⟨rfl, hsz, hP, hK, hD0⟩ := hv
  have hx := B.exec
  have hb := B.bytes
  have hr := B.returns
  have hts := atoms_spec (ws := wM yX4_isLetter cX4_isLetter 2 (some .boolean)) B.pre
  have hown : s.vm.findClass RX4 = some m.cls := findClass_of_methodNamed B.named
  have hlocks := B.notSynchronized
  subst hsz
  have hD := hD0.self (sz := s.heap.size)
  obtain ⟨A, hAe⟩ : ∃ A, A = va_A (W_X4r cI cZ cII qr qr_text r_length r_fault r_faultAt r_next r_numberFrom r_text) s.heap.size := ⟨_, rfl⟩
  rw [← hAe] at hD
  have hA : ∀ q : Nat, s.heap.size ≤ q → A q := fun q h => by rw [hAe]; exact Or.inr h
  have hS : va_S A s.heap s.heap [] := va_S.rf
  have hl := lv_entry ([.ref qr, .int n1]) (n := 2) (Nat.le_of_ble_eq_true rfl)
  rw [lg_entry_eq]
  generalize (lg_sl ([.ref qr, .int n1]) ++ List.replicate (2 - (lg_sl ([.ref qr, .int n1])).length) Slot.unset).toArray = ls at hl ⊢
  have hl : lv_has ls 2 [(0, .ref qr), (1, .int n1)] := hl
  generalize ([.ref qr, .int n1] : List Value).toArray = args at hts ⊢
  have hw : ∀ w ∈ wsL_law, w.before args s = true := fun w h => hts w (List.mem_cons_of_mem _ h)
  refine pg_start (fun Q hQ => ?_)
  have RET : ∀ (H : Heap) (locs : List Loc) (ls : Array Slot) (pc : Nat) (v : Int32) , decode cX4_isLetter pc = .ok (.ireturn, 1) → (v = 0 ∨ v = 1) → va_P (dC, dI) vwCl (W_X4r cI cZ cII qr qr_text r_length r_fault r_faultAt r_next r_numberFrom r_text) H → va_D A (W_X4r cI cZ cII qr qr_text r_length r_fault r_faultAt r_next r_numberFrom r_text) → va_S A s.heap H locs → (some (v) : Option (Int32)) = some (rr) → W p l e rm_X4_isLetter s m args below meth c H locs 0 0 Q (F0 m pc ls [.int v]) := by
    intro H locs ls pc v hd hz hP hD hS he
    subst hAe; subst hQ
    obtain rfl := Option.some.inj he
    exact pg_zret hx hb hr hlocks hz hK hP hD hS hd
  unfold f_X4_isLetter at hf
  refine lv_iload_n hx hb dX4_isLetter_0 rfl (lv_at hl 1 rfl) ?_
  refine lv_if_lt (tgt := 45) hx hb dX4_isLetter_1 (by decide) (fun h9 => ?_) (fun h9 => ?_)
  · have hf := pg_t h9 hf
    refine lv_iconst (v := (0 : Int32)) hx hb dX4_isLetter_45 (by decide) ?_
    exact RET _ _ _ _ _ dX4_isLetter_46 (by decide) hP hD hS hf
  · have hf := pg_f h9 hf
    refine lv_iload_n hx hb dX4_isLetter_4 rfl (lv_at hl 1 rfl) ?_
    refine lv_aload_n hx hb dX4_isLetter_5 rfl (lv_at hl 0 rfl) ?_
    refine va_get (D := (dC, dI)) (ci := 4) (v := .int r_length) (C := RX4) (T := TX4) (N := 6) hx hb hw inlX4 hown hK hP 0 rfl rfl 1 (by decide) (hw _ mw_7_14) (fun _ h9 => h9) rfl dX4_isLetter_6 ?_
    refine lv_icmp_ge (tgt := 45) hx hb dX4_isLetter_9 (by decide) (fun h9 => ?_) (fun h9 => ?_)
    · have hf := pg_t h9 hf
      refine lv_iconst (v := (0 : Int32)) hx hb dX4_isLetter_45 (by decide) ?_
      exact RET _ _ _ _ _ dX4_isLetter_46 (by decide) hP hD hS hf
    · have hf := pg_f h9 hf
      refine lv_iload_n hx hb dX4_isLetter_12 rfl (lv_at hl 1 rfl) ?_
      refine lv_sipush (v := (500 : Int32)) hx hb dX4_isLetter_13 (by decide) ?_
      refine lv_icmp_ge (tgt := 45) hx hb dX4_isLetter_16 (by decide) (fun h9 => ?_) (fun h9 => ?_)
      · have hf := pg_t h9 hf
        refine lv_iconst (v := (0 : Int32)) hx hb dX4_isLetter_45 (by decide) ?_
        exact RET _ _ _ _ _ dX4_isLetter_46 (by decide) hP hD hS hf
      · have hf := pg_f h9 hf
        refine lv_aload_n hx hb dX4_isLetter_19 rfl (lv_at hl 0 rfl) ?_
        refine va_get (D := (dC, dI)) (ci := 4) (v := .ref qr_text) (C := RX4) (T := TX4) (N := 6) hx hb hw inlX4 hown hK hP 0 rfl rfl 0 (by decide) (hw _ mw_3_13) (fun _ h9 => h9) rfl dX4_isLetter_20 ?_
        refine lv_iload_n hx hb dX4_isLetter_23 rfl (lv_at hl 1 rfl) ?_
        obtain ⟨hi1, hf⟩ := pg_chk hf
        refine va_iald hx hb hK hP 1 0 rfl rfl hi1 dX4_isLetter_24 ?_
        refine lv_bipush (v := (97 : Int32)) hx hb dX4_isLetter_25 (by decide) ?_
        refine lv_icmp_lt (tgt := 45) hx hb dX4_isLetter_27 (by decide) (fun h9 => ?_) (fun h9 => ?_)
        · have hf := pg_t h9 hf
          refine lv_iconst (v := (0 : Int32)) hx hb dX4_isLetter_45 (by decide) ?_
          exact RET _ _ _ _ _ dX4_isLetter_46 (by decide) hP hD hS hf
        · have hf := pg_f h9 hf
          refine lv_aload_n hx hb dX4_isLetter_30 rfl (lv_at hl 0 rfl) ?_
          refine va_get (D := (dC, dI)) (ci := 4) (v := .ref qr_text) (C := RX4) (T := TX4) (N := 6) hx hb hw inlX4 hown hK hP 0 rfl rfl 0 (by decide) (hw _ mw_3_13) (fun _ h9 => h9) rfl dX4_isLetter_31 ?_
          refine lv_iload_n hx hb dX4_isLetter_34 rfl (lv_at hl 1 rfl) ?_
          refine va_iald hx hb hK hP 1 0 rfl rfl hi1 dX4_isLetter_35 ?_
          refine lv_bipush (v := (122 : Int32)) hx hb dX4_isLetter_36 (by decide) ?_
          refine lv_icmp_gt (tgt := 45) hx hb dX4_isLetter_38 (by decide) (fun h9 => ?_) (fun h9 => ?_)
          · have hf := pg_t h9 hf
            refine lv_iconst (v := (0 : Int32)) hx hb dX4_isLetter_45 (by decide) ?_
            exact RET _ _ _ _ _ dX4_isLetter_46 (by decide) hP hD hS hf
          · have hf := pg_f h9 hf
            refine lv_iconst (v := (1 : Int32)) hx hb dX4_isLetter_41 (by decide) ?_
            refine lv_goto (tgt := 46) hx hb dX4_isLetter_42 (by decide) ?_
            exact RET _ _ _ _ _ dX4_isLetter_46 (by decide) hP hD hS hf
def f_X4_wordEnd (n1 : Int32) (r_length : Int32) (r_text : Nat → Int32) : Option (Int32) :=
  jn1 (fun (y2_1 : Int32) =>
    some (y2_1)
  ) (fun K30_1 =>
  lq2 (fun rec2 (y2_2 : Int32) (y3_2 : Int32) =>
    if r_length ≤ y3_2 then
      K30_1 y2_2
    else
      bn1 (f_X4_isLetter y3_2 r_length r_text) (fun (r_3 : Int32) =>
        if r_3 = 0 then
          K30_1 y2_2
        else
          rec2 (y3_2 + (1 : Int32)) (y3_2 + (1 : Int32))
      )
  ) fu n1 n1
  )
set_option maxRecDepth 100000 in
theorem plC_9 (cI cZ cII : ClassId) (qr qr_text : Nat) (r_length : Int32) (r_fault : Int32) (r_faultAt : Int32) (r_next : Int32) (r_numberFrom : Int32) (r_text : Nat → Int32) : [0, 1].map (fun i => (W_X4r cI cZ cII qr qr_text r_length r_fault r_faultAt r_next r_numberFrom r_text)[i]?) = (W_X4r cI cZ cII qr qr_text r_length r_fault r_faultAt r_next r_numberFrom r_text).map some := rfl
set_option maxRecDepth 100000 in
theorem plF_9 (cI cZ cII : ClassId) (qr qr_text : Nat) (r_length : Int32) (r_fault : Int32) (r_faultAt : Int32) (r_next : Int32) (r_numberFrom : Int32) (r_text : Nat → Int32) (b9r_length : Int32) (b9r_fault : Int32) (b9r_faultAt : Int32) (b9r_next : Int32) (b9r_numberFrom : Int32) (b9r_text : Nat → Int32) : [0, 1].map (fun i => (pickW (W_X4r cI cZ cII qr qr_text r_length r_fault r_faultAt r_next r_numberFrom r_text) [] ++ (W_X4r cI cZ cII qr qr_text b9r_length b9r_fault b9r_faultAt b9r_next b9r_numberFrom b9r_text))[i]?) = (W_X4r cI cZ cII qr qr_text b9r_length b9r_fault b9r_faultAt b9r_next b9r_numberFrom b9r_text).map some := rfl
abbrev rm_X4_wordEnd : Room := { frames := 1, cells := 0, slots := 0, locals := 21 }
theorem dk_X4_wordEnd : yX4_wordEnd.cls = RX4 ∧ yX4_wordEnd.cls ≠ "java/lang/invoke/MethodHandle" ∧ yX4_wordEnd.cls ≠ "java/lang/invoke/VarHandle" ∧ (parseMethodDescriptor yX4_wordEnd.desc).map (fun d => d.parameters.length) = some 1 := by decide +kernel
set_option maxHeartbeats 4000000 in
set_option maxRecDepth 100000 in
theorem c_X4_wordEnd (l : Launch) (dC : Nat → ClassId) (dI : Nat → Nat → Nat) (cI cZ cII : ClassId) (qr qr_text : Nat) (sz : Nat) (r_length : Int32) (r_fault : Int32) (r_faultAt : Int32) (r_next : Int32) (r_numberFrom : Int32) (r_text : Nat → Int32) (n1 : Int32) (rr : Int32) (hf : f_X4_wordEnd n1 r_length r_text = some (rr)) : Met l yX4_wordEnd (wM yX4_wordEnd cX4_wordEnd 4 (some .int)) rm_X4_wordEnd (PreW (dC, dI) (tyA cI cZ cII) (W_X4r cI cZ cII qr qr_text r_length r_fault r_faultAt r_next r_numberFrom r_text) sz [.ref qr, .int n1]) (PostI (dC, dI) (tyA cI cZ cII) rr (W_X4r cI cZ cII qr qr_text r_length r_fault r_faultAt r_next r_numberFrom r_text) (W_X4r cI cZ cII qr qr_text r_length r_fault r_faultAt r_next r_numberFrom r_text) sz) 0 0 (va_A (W_X4r cI cZ cII qr qr_text r_length r_fault r_faultAt r_next r_numberFrom r_text) sz) := by
  refine Met.ofW (cc := cX4_wordEnd) (maxL := 4) (ret := (some .int)) (by decide) rfl ?_
  intro p e s m args below meth c s₁ B hml hv
  obtain ⟨rfl, hsz, hP, hK, hD0⟩ := hv
  have hx := B.exec
  have hb := B.bytes
  have hr := B.returns
  have hts := atoms_spec (ws := wM yX4_wordEnd cX4_wordEnd 4 (some .int)) B.pre
  have hown : s.vm.findClass RX4 = some m.cls := findClass_of_methodNamed B.named
  have hlocks := B.notSynchronized
  subst hsz
  have hD := hD0.self (sz := s.heap.size)
  obtain ⟨A, hAe⟩ : ∃ A, A = va_A (W_X4r cI cZ cII qr qr_text r_length r_fault r_faultAt r_next r_numberFrom r_text) s.heap.size := ⟨_, rfl⟩
  rw [← hAe] at hD
  have hA : ∀ q : Nat, s.heap.size ≤ q → A q := fun q h => by rw [hAe]; exact Or.inr h
  have hS : va_S A s.heap s.heap [] := va_S.rf
  have hl := lv_entry ([.ref qr, .int n1]) (n := 4) (Nat.le_of_ble_eq_true rfl)
  rw [lg_entry_eq]
  generalize (lg_sl ([.ref qr, .int n1]) ++ List.replicate (4 - (lg_sl ([.ref qr, .int n1])).length) Slot.unset).toArray = ls at hl ⊢
  have hl : lv_has ls 4 [(0, .ref qr), (1, .int n1)] := hl
  generalize ([.ref qr, .int n1] : List Value).toArray = args at hts ⊢
  have hw : ∀ w ∈ wsL_law, w.before args s = true := fun w h => hts w (List.mem_cons_of_mem _ h)
  refine pg_start (fun Q hQ => ?_)
  have RET : ∀ (H : Heap) (locs : List Loc) (ls : Array Slot) (pc : Nat) (v : Int32) , decode cX4_wordEnd pc = .ok (.ireturn, 1) → va_P (dC, dI) vwCl (W_X4r cI cZ cII qr qr_text r_length r_fault r_faultAt r_next r_numberFrom r_text) H → va_D A (W_X4r cI cZ cII qr qr_text r_length r_fault r_faultAt r_next r_numberFrom r_text) → va_S A s.heap H locs → (some (v) : Option (Int32)) = some (rr) → W p l e rm_X4_wordEnd s m args below meth c H locs 0 0 Q (F0 m pc ls [.int v]) := by
    intro H locs ls pc v hd hP hD hS he
    subst hAe; subst hQ
    obtain rfl := Option.some.inj he
    exact pg_iret hx hb hr hlocks hK hP hD hS hd
  unfold f_X4_wordEnd at hf
  refine lv_iload_n hx hb dX4_wordEnd_0 rfl (lv_at hl 1 rfl) ?_
  refine lv_istore_n (lv' := [(2, .int n1), (0, .ref qr), (1, .int n1)]) hx hb dX4_wordEnd_1 rfl hl (by decide) rfl (fun ls hl => ?_)
  refine lv_iload_n hx hb dX4_wordEnd_2 rfl (lv_at hl 2 rfl) ?_
  refine lv_istore_n (lv' := [(3, .int n1), (2, .int n1), (0, .ref qr), (1, .int n1)]) hx hb dX4_wordEnd_3 rfl hl (by decide) rfl (fun ls hl => ?_)
  obtain ⟨K30_1, hK30_1, hf⟩ := jn1_s hf
  have WK30_1 : ∀ (y2_1 : Int32) (H : Heap) (locs : List Loc) (ls : Array Slot), va_P (dC, dI) vwCl (W_X4r cI cZ cII qr qr_text r_length r_fault r_faultAt r_next r_numberFrom r_text) H → va_D A (W_X4r cI cZ cII qr qr_text r_length r_fault r_faultAt r_next r_numberFrom r_text) → va_S A s.heap H locs → lv_has ls 4 [(2, .int y2_1)] → K30_1 y2_1 = some (rr) → W p l e rm_X4_wordEnd s m args below meth c H locs 0 0 Q (F0 m 30 ls []) := by
    intro y2_1 H locs ls hP hD hS hl hf
    have hf := hK30_1 _ hf
    refine lv_iload_n hx hb dX4_wordEnd_30 rfl (lv_at hl 0 rfl) ?_
    exact RET _ _ _ _ _ dX4_wordEnd_31 hP hD hS hf
  obtain ⟨B2, hB2, hf⟩ := lq2_n hf
  have WL2 : ∀ (n9 : Nat) (y2_2 : Int32) (y3_2 : Int32) (H : Heap) (locs : List Loc) (ls : Array Slot), va_P (dC, dI) vwCl (W_X4r cI cZ cII qr qr_text r_length r_fault r_faultAt r_next r_numberFrom r_text) H → va_D A (W_X4r cI cZ cII qr qr_text r_length r_fault r_faultAt r_next r_numberFrom r_text) → va_S A s.heap H locs → lv_has ls 4 [(0, .ref qr), (2, .int y2_2), (3, .int y3_2)] → lq2 B2 n9 y2_2 y3_2 = some (rr) → W p l e rm_X4_wordEnd s m args below meth c H locs 0 0 Q (F0 m 4 ls []) := by
    intro n9
    induction n9 with
    | zero => intro y2_2 y3_2 H locs ls hP hD hS hl hf; cases hf
    | succ n9 ih =>
      intro y2_2 y3_2 H locs ls hP hD hS hl hf
      obtain ⟨rec2, hrec2, hf⟩ := lq2_s hf
      have hf := hB2 rec2 _ _ hf
      refine lv_iload_n hx hb dX4_wordEnd_4 rfl (lv_at hl 2 rfl) ?_
      refine lv_aload_n hx hb dX4_wordEnd_5 rfl (lv_at hl 0 rfl) ?_
      refine va_get (D := (dC, dI)) (ci := 4) (v := .int r_length) (C := RX4) (T := TX4) (N := 6) hx hb hw inlX4 hown hK hP 0 rfl rfl 1 (by decide) (hw _ mw_7_14) (fun _ h9 => h9) rfl dX4_wordEnd_6 ?_
      refine lv_icmp_ge (tgt := 30) hx hb dX4_wordEnd_9 (by decide) (fun h9 => ?_) (fun h9 => ?_)
      · have hf := pg_t h9 hf
        exact WK30_1 _ _ _ _ hP hD hS (lv_sub hl [1] rfl) hf
      · have hf := pg_f h9 hf
        refine lv_aload_n hx hb dX4_wordEnd_12 rfl (lv_at hl 0 rfl) ?_
        refine lv_iload_n hx hb dX4_wordEnd_13 rfl (lv_at hl 2 rfl) ?_
        obtain ⟨r_3, hc, hf⟩ := bn1_s hf
        refine pg_cVi (As := [.int y3_2]) (rest := []) (wf := (W_X4r cI cZ cII qr qr_text r_length r_fault r_faultAt r_next r_numberFrom r_text)) ⟨hx, hb, hml, hown, hw⟩ (c_X4_isLetter l dC dI cI cZ cII qr qr_text H.size r_length r_fault r_faultAt r_next r_numberFrom r_text y3_2 r_3 hc) (cwV 1 hts (wM_V mw_9_19 mw_9_20 mw_9_21 mw_1_20 mw_9_22) rfl rfl rfl dk_X4_isLetter ⟨Nat.le_of_ble_eq_true rfl, Nat.le_of_ble_eq_true rfl⟩) hK hP hD hS hA 4 0 rfl rfl rfl [0, 1] [] [0, 1] (plC_9 cI cZ cII qr qr_text r_length r_fault r_faultAt r_next r_numberFrom r_text) rfl (plF_9 cI cZ cII qr qr_text r_length r_fault r_faultAt r_next r_numberFrom r_text r_length r_fault r_faultAt r_next r_numberFrom r_text) (by decide) rfl hl.1 rfl (Nat.le_of_ble_eq_true rfl) dX4_wordEnd_14 ⟨Nat.zero_le _, Nat.zero_le _⟩ (fun H locs hP hD hS => ?_)
        refine lv_if_eq (tgt := 30) hx hb dX4_wordEnd_17 (by decide) (fun h9 => ?_) (fun h9 => ?_)
        · have hf := pg_t h9 hf
          exact WK30_1 _ _ _ _ hP hD hS (lv_sub hl [1] rfl) hf
        · have hf := pg_f h9 hf
          refine lv_iload_n hx hb dX4_wordEnd_20 rfl (lv_at hl 2 rfl) ?_
          refine lv_iconst (v := (1 : Int32)) hx hb dX4_wordEnd_21 (by decide) ?_
          refine lv_iadd hx hb dX4_wordEnd_22 ?_
          refine lv_istore_n (lv' := [(2, .int (y3_2 + (1 : Int32))), (0, .ref qr), (3, .int y3_2)]) hx hb dX4_wordEnd_23 rfl hl (by decide) rfl (fun ls hl => ?_)
          refine lv_iinc (v := (y3_2 + (1 : Int32))) (lv' := [(3, .int (y3_2 + (1 : Int32))), (2, .int (y3_2 + (1 : Int32))), (0, .ref qr)]) hx hb dX4_wordEnd_24 hl (k := 2) rfl rfl (by decide) rfl (fun ls hl => ?_)
          refine lv_goto (tgt := 4) hx hb dX4_wordEnd_27 (by decide) ?_
          exact ih _ _ _ _ _ hP hD hS (lv_sub hl [2, 1, 0] rfl) (hrec2 _ _ hf)
  exact WL2 fu _ _ _ _ _ hP hD hS (lv_sub hl [2, 1, 0] rfl) hf
