def f_X4_append (n1 : Int32) (r_length : Int32) (r_text : Nat → Int32) : Option (Int32 × (Nat → Int32)) :=
  if (500 : Int32) ≤ r_length then
    some (r_length, r_text)
  else
    if r_length < 0 ∨ 500 ≤ (r_length).toNatClampNeg then none else
    some ((r_length + (1 : Int32)), (upd r_text (r_length).toNatClampNeg n1))
abbrev rm_X4_append : Room := { frames := 0, cells := 0, slots := 0, locals := 0 }
theorem dk_X4_append : yX4_append.cls = RX4 ∧ yX4_append.cls ≠ "java/lang/invoke/MethodHandle" ∧ yX4_append.cls ≠ "java/lang/invoke/VarHandle" ∧ (parseMethodDescriptor yX4_append.desc).map (fun d => d.parameters.length) = some 1 := by decide +kernel
set_option maxHeartbeats 4000000 in
set_option maxRecDepth 100000 in
theorem c_X4_append (l : Launch) (dC : Nat → ClassId) (dI : Nat → Nat → Nat) (cI cZ cII : ClassId) (qr qr_text : Nat) (sz : Nat) (r_length : Int32) (r_fault : Int32) (r_faultAt : Int32) (r_next : Int32) (r_numberFrom : Int32) (r_text : Nat → Int32) (n1 : Int32) (r_length' : Int32) (r_text' : Nat → Int32) (hf : f_X4_append n1 r_length r_text = some (r_length', r_text')) : Met l yX4_append (wM yX4_append cX4_append 2 none) rm_X4_append (PreW (dC, dI) (tyA cI cZ cII) (W_X4r cI cZ cII qr qr_text r_length r_fault r_faultAt r_next r_numberFrom r_text) sz [.ref qr, .int n1]) (PostV (dC, dI) (tyA cI cZ cII) (W_X4r cI cZ cII qr qr_text r_length r_fault r_faultAt r_next r_numberFrom r_text) (W_X4r cI cZ cII qr qr_text r_length' r_fault r_faultAt r_next r_numberFrom r_text') sz) 0 0 (va_A (W_X4r cI cZ cII qr qr_text r_length r_fault r_faultAt r_next r_numberFrom r_text) sz) := by
  refine Met.ofW (cc := cX4_append) (maxL := 2) (ret := none) (by decide) rfl ?_
  intro p e s m args below meth c s₁ B hml hv
  obtain ⟨rfl, hsz, hP, hK, hD0⟩ := hv
  have hx := B.exec
  have hb := B.bytes
  have hr := B.returns
  have hts := atoms_spec (ws := wM yX4_append cX4_append 2 none) B.pre
  have hown : s.vm.findClass RX4 = some m.cls := findClass_of_methodNamed B.named
  have hlocks := B.notSynchronized
  subst hsz
  have hD := hD0.self (sz := s.heap.size)
  obtain ⟨A, hAe⟩ : ∃ A, A = va_A (W_X4r cI cZ cII qr qr_text r_length r_fault r_faultAt r_next r_numberFrom r_text) s.heap.size := ⟨_, rfl⟩
  rw [← hAe] at hD
  have hA : ∀ q : Nat, s.heap.size ≤ q → A q := fun q h => by rw [hAe]; exact Or.inr h
  have hS : va_S A s.heap s.heap [] := va_S.rf
  have hl := lv_entry ([.ref qr, .int n1]) (n := 2) (Nat.le_of_ble_eq_true rfl)
  rw [lg_entry_eq]
  generalize (lg_sl ([.ref qr, .int n1]) ++ List.replicate (2 - (lg_sl ([.ref qr, .int n1])).length) Slot.unset).toArray = ls at hl ⊢
  have hl : lv_has ls 2 [(0, .ref qr), (1, .int n1)] := hl
  generalize ([.ref qr, .int n1] : List Value).toArray = args at hts ⊢
  have hw : ∀ w ∈ wsL_law, w.before args s = true := fun w h => hts w (List.mem_cons_of_mem _ h)
  refine pg_start (fun Q hQ => ?_)
  have RET : ∀ (H : Heap) (locs : List Loc) (ls : Array Slot) (pc : Nat) (x0 : Int32) (x1 : Nat → Int32) , decode cX4_append pc = .ok (.return_, 1) → va_P (dC, dI) vwCl (W_X4r cI cZ cII qr qr_text x0 r_fault r_faultAt r_next r_numberFrom x1) H → va_D A (W_X4r cI cZ cII qr qr_text x0 r_fault r_faultAt r_next r_numberFrom x1) → va_S A s.heap H locs → (some (x0, x1) : Option (Int32 × (Nat → Int32))) = some (r_length', r_text') → W p l e rm_X4_append s m args below meth c H locs 0 0 Q (F0 m pc ls []) := by
    intro H locs ls pc x0 x1 hd hP hD hS he
    subst hAe; subst hQ
    simp only [Option.some.injEq, Prod.mk.injEq] at he
    obtain ⟨rfl, rfl⟩ := he
    exact pg_vret hx hb hr hlocks hK hP hD hS hd
  unfold f_X4_append at hf
  refine lv_aload_n hx hb dX4_append_0 rfl (lv_at hl 0 rfl) ?_
  refine va_get (D := (dC, dI)) (ci := 4) (v := .int r_length) (C := RX4) (T := TX4) (N := 6) hx hb hw inlX4 hown hK hP 0 rfl rfl 1 (by decide) (hw _ mw_7_14) (fun _ h9 => h9) rfl dX4_append_1 ?_
  refine lv_sipush (v := (500 : Int32)) hx hb dX4_append_4 (by decide) ?_
  refine lv_icmp_ge (tgt := 30) hx hb dX4_append_7 (by decide) (fun h9 => ?_) (fun h9 => ?_)
  · have hf := pg_t h9 hf
    exact RET _ _ _ _ _ _ dX4_append_30 hP hD hS hf
  · have hf := pg_f h9 hf
    refine lv_aload_n hx hb dX4_append_10 rfl (lv_at hl 0 rfl) ?_
    refine va_get (D := (dC, dI)) (ci := 4) (v := .ref qr_text) (C := RX4) (T := TX4) (N := 6) hx hb hw inlX4 hown hK hP 0 rfl rfl 0 (by decide) (hw _ mw_3_13) (fun _ h9 => h9) rfl dX4_append_11 ?_
    refine lv_aload_n hx hb dX4_append_14 rfl (lv_at hl 0 rfl) ?_
    refine va_get (D := (dC, dI)) (ci := 4) (v := .int r_length) (C := RX4) (T := TX4) (N := 6) hx hb hw inlX4 hown hK hP 0 rfl rfl 1 (by decide) (hw _ mw_7_14) (fun _ h9 => h9) rfl dX4_append_15 ?_
    refine lv_iload_n hx hb dX4_append_18 rfl (lv_at hl 1 rfl) ?_
    obtain ⟨hi1, hf⟩ := pg_chk hf
    refine va_iast hx hb hK hP hD hS 1 0 rfl rfl hi1 dX4_append_19 (fun H locs hP hD hS => ?_)
    have hP : va_P (dC, dI) vwCl (W_X4r cI cZ cII qr qr_text r_length r_fault r_faultAt r_next r_numberFrom (upd r_text (r_length).toNatClampNeg n1)) H := hP
    have hD : va_D A (W_X4r cI cZ cII qr qr_text r_length r_fault r_faultAt r_next r_numberFrom (upd r_text (r_length).toNatClampNeg n1)) := hD
    refine lv_aload_n hx hb dX4_append_20 rfl (lv_at hl 0 rfl) ?_
    refine lv_dup hx hb dX4_append_21 rfl ?_
    refine va_get (D := (dC, dI)) (ci := 4) (v := .int r_length) (C := RX4) (T := TX4) (N := 6) hx hb hw inlX4 hown hK hP 0 rfl rfl 1 (by decide) (hw _ mw_7_14) (fun _ h9 => h9) rfl dX4_append_22 ?_
    refine lv_iconst (v := (1 : Int32)) hx hb dX4_append_25 (by decide) ?_
    refine lv_iadd hx hb dX4_append_26 ?_
    refine va_put (D := (dC, dI)) (ci := 4) (v := .int (r_length + (1 : Int32))) (ty := .int) (C := RX4) (T := TX4) (N := 6) hx hb hw inlX4 tyX4 tyX4_ok nmX4 hown hK hP hD hS 0 rfl rfl 1 (by decide) (hw _ mw_7_14) (fun _ h9 => h9) rfl (by decide +kernel) rfl rfl (Nat.le_of_ble_eq_true rfl) dX4_append_27 (fun H locs hP hD hS => ?_)
    have hP : va_P (dC, dI) vwCl (W_X4r cI cZ cII qr qr_text (r_length + (1 : Int32)) r_fault r_faultAt r_next r_numberFrom (upd r_text (r_length).toNatClampNeg n1)) H := hP
    have hD : va_D A (W_X4r cI cZ cII qr qr_text (r_length + (1 : Int32)) r_fault r_faultAt r_next r_numberFrom (upd r_text (r_length).toNatClampNeg n1)) := hD
    exact RET _ _ _ _ _ _ dX4_append_30 hP hD hS hf
def f_X4_skipBlanks (r_length : Int32) (r_next : Int32) (r_text : Nat → Int32) : Option (Int32) :=
  jn1 (fun (r_next_1 : Int32) =>
    some (r_next_1)
  ) (fun K48_1 =>
  lq1 (fun rec2 (r_next_2 : Int32) =>
    if r_length ≤ r_next_2 then
      K48_1 r_next_2
    else
      if (500 : Int32) ≤ r_next_2 then
        K48_1 r_next_2
      else
        if r_next_2 < 0 ∨ 500 ≤ (r_next_2).toNatClampNeg then none else
        if (r_text (r_next_2).toNatClampNeg) = (32 : Int32) then
          rec2 (r_next_2 + (1 : Int32))
        else
          K48_1 r_next_2
  ) fu r_next
  )
abbrev rm_X4_skipBlanks : Room := { frames := 0, cells := 0, slots := 0, locals := 0 }
theorem dk_X4_skipBlanks : yX4_skipBlanks.cls = RX4 ∧ yX4_skipBlanks.cls ≠ "java/lang/invoke/MethodHandle" ∧ yX4_skipBlanks.cls ≠ "java/lang/invoke/VarHandle" ∧ (parseMethodDescriptor yX4_skipBlanks.desc).map (fun d => d.parameters.length) = some 0 := by decide +kernel
set_option maxHeartbeats 4000000 in
set_option maxRecDepth 100000 in
theorem c_X4_skipBlanks (l : Launch) (dC : Nat → ClassId) (dI : Nat → Nat → Nat) (cI cZ cII : ClassId) (qr qr_text : Nat) (sz : Nat) (r_length : Int32) (r_fault : Int32) (r_faultAt : Int32) (r_next : Int32) (r_numberFrom : Int32) (r_text : Nat → Int32) (r_next' : Int32) (hf : f_X4_skipBlanks r_length r_next r_text = some (r_next')) : Met l yX4_skipBlanks (wM yX4_skipBlanks cX4_skipBlanks 1 none) rm_X4_skipBlanks (PreW (dC, dI) (tyA cI cZ cII) (W_X4r cI cZ cII qr qr_text r_length r_fault r_faultAt r_next r_numberFrom r_text) sz [.ref qr]) (PostV (dC, dI) (tyA cI cZ cII) (W_X4r cI cZ cII qr qr_text r_length r_fault r_faultAt r_next r_numberFrom r_text) (W_X4r cI cZ cII qr qr_text r_length r_fault r_faultAt r_next' r_numberFrom r_text) sz) 0 0 (va_A (W_X4r cI cZ cII qr qr_text r_length r_fault r_faultAt r_next r_numberFrom r_text) sz) := by
  refine Met.ofW (cc := cX4_skipBlanks) (maxL := 1) (ret := none) (by decide) rfl ?_
  intro p e s m args below meth c s₁ B hml hv
  obtain ⟨rfl, hsz, hP, hK, hD0⟩ := hv
  have hx := B.exec
  have hb := B.bytes
  have hr := B.returns
  have hts := atoms_spec (ws := wM yX4_skipBlanks cX4_skipBlanks 1 none) B.pre
  have hown : s.vm.findClass RX4 = some m.cls := findClass_of_methodNamed B.named
  have hlocks := B.notSynchronized
  subst hsz
  have hD := hD0.self (sz := s.heap.size)
  obtain ⟨A, hAe⟩ : ∃ A, A = va_A (W_X4r cI cZ cII qr qr_text r_length r_fault r_faultAt r_next r_numberFrom r_text) s.heap.size := ⟨_, rfl⟩
  rw [← hAe] at hD
  have hA : ∀ q : Nat, s.heap.size ≤ q → A q := fun q h => by rw [hAe]; exact Or.inr h
  have hS : va_S A s.heap s.heap [] := va_S.rf
  have hl := lv_entry ([.ref qr]) (n := 1) (Nat.le_of_ble_eq_true rfl)
  rw [lg_entry_eq]
  generalize (lg_sl ([.ref qr]) ++ List.replicate (1 - (lg_sl ([.ref qr])).length) Slot.unset).toArray = ls at hl ⊢
  have hl : lv_has ls 1 [(0, .ref qr)] := hl
  generalize ([.ref qr] : List Value).toArray = args at hts ⊢
  have hw : ∀ w ∈ wsL_law, w.before args s = true := fun w h => hts w (List.mem_cons_of_mem _ h)
  refine pg_start (fun Q hQ => ?_)
  have RET : ∀ (H : Heap) (locs : List Loc) (ls : Array Slot) (pc : Nat) (x0 : Int32) , decode cX4_skipBlanks pc = .ok (.return_, 1) → va_P (dC, dI) vwCl (W_X4r cI cZ cII qr qr_text r_length r_fault r_faultAt x0 r_numberFrom r_text) H → va_D A (W_X4r cI cZ cII qr qr_text r_length r_fault r_faultAt x0 r_numberFrom r_text) → va_S A s.heap H locs → (some (x0) : Option (Int32)) = some (r_next') → W p l e rm_X4_skipBlanks s m args below meth c H locs 0 0 Q (F0 m pc ls []) := by
    intro H locs ls pc x0 hd hP hD hS he
    subst hAe; subst hQ
    obtain rfl := Option.some.inj he
    exact pg_vret hx hb hr hlocks hK hP hD hS hd
  unfold f_X4_skipBlanks at hf
  obtain ⟨K48_1, hK48_1, hf⟩ := jn1_s hf
  have WK48_1 : ∀ (r_next_1 : Int32) (H : Heap) (locs : List Loc) (ls : Array Slot), va_P (dC, dI) vwCl (W_X4r cI cZ cII qr qr_text r_length r_fault r_faultAt r_next_1 r_numberFrom r_text) H → va_D A (W_X4r cI cZ cII qr qr_text r_length r_fault r_faultAt r_next_1 r_numberFrom r_text) → va_S A s.heap H locs → lv_has ls 1 [] → K48_1 r_next_1 = some (r_next') → W p l e rm_X4_skipBlanks s m args below meth c H locs 0 0 Q (F0 m 48 ls []) := by
    intro r_next_1 H locs ls hP hD hS hl hf
    have hf := hK48_1 _ hf
    exact RET _ _ _ _ _ dX4_skipBlanks_48 hP hD hS hf
  obtain ⟨B2, hB2, hf⟩ := lq1_n hf
  have WL2 : ∀ (n9 : Nat) (r_next_2 : Int32) (H : Heap) (locs : List Loc) (ls : Array Slot), va_P (dC, dI) vwCl (W_X4r cI cZ cII qr qr_text r_length r_fault r_faultAt r_next_2 r_numberFrom r_text) H → va_D A (W_X4r cI cZ cII qr qr_text r_length r_fault r_faultAt r_next_2 r_numberFrom r_text) → va_S A s.heap H locs → lv_has ls 1 [(0, .ref qr)] → lq1 B2 n9 r_next_2 = some (r_next') → W p l e rm_X4_skipBlanks s m args below meth c H locs 0 0 Q (F0 m 0 ls []) := by
    intro n9
    induction n9 with
    | zero => intro r_next_2 H locs ls hP hD hS hl hf; cases hf
    | succ n9 ih =>
      intro r_next_2 H locs ls hP hD hS hl hf
      obtain ⟨rec2, hrec2, hf⟩ := lq1_s hf
      have hf := hB2 rec2 _ hf
      refine lv_aload_n hx hb dX4_skipBlanks_0 rfl (lv_at hl 0 rfl) ?_
      refine va_get (D := (dC, dI)) (ci := 4) (v := .int r_next_2) (C := RX4) (T := TX4) (N := 6) hx hb hw inlX4 hown hK hP 0 rfl rfl 4 (by decide) (hw _ mw_8_14) (fun _ h9 => h9) rfl dX4_skipBlanks_1 ?_
      refine lv_aload_n hx hb dX4_skipBlanks_4 rfl (lv_at hl 0 rfl) ?_
      refine va_get (D := (dC, dI)) (ci := 4) (v := .int r_length) (C := RX4) (T := TX4) (N := 6) hx hb hw inlX4 hown hK hP 0 rfl rfl 1 (by decide) (hw _ mw_7_14) (fun _ h9 => h9) rfl dX4_skipBlanks_5 ?_
      refine lv_icmp_ge (tgt := 48) hx hb dX4_skipBlanks_8 (by decide) (fun h9 => ?_) (fun h9 => ?_)
      · have hf := pg_t h9 hf
        exact WK48_1 _ _ _ _ hP hD hS (lv_sub hl [] rfl) hf
      · have hf := pg_f h9 hf
        refine lv_aload_n hx hb dX4_skipBlanks_11 rfl (lv_at hl 0 rfl) ?_
        refine va_get (D := (dC, dI)) (ci := 4) (v := .int r_next_2) (C := RX4) (T := TX4) (N := 6) hx hb hw inlX4 hown hK hP 0 rfl rfl 4 (by decide) (hw _ mw_8_14) (fun _ h9 => h9) rfl dX4_skipBlanks_12 ?_
        refine lv_sipush (v := (500 : Int32)) hx hb dX4_skipBlanks_15 (by decide) ?_
        refine lv_icmp_ge (tgt := 48) hx hb dX4_skipBlanks_18 (by decide) (fun h9 => ?_) (fun h9 => ?_)
        · have hf := pg_t h9 hf
          exact WK48_1 _ _ _ _ hP hD hS (lv_sub hl [] rfl) hf
        · have hf := pg_f h9 hf
          refine lv_aload_n hx hb dX4_skipBlanks_21 rfl (lv_at hl 0 rfl) ?_
          refine va_get (D := (dC, dI)) (ci := 4) (v := .ref qr_text) (C := RX4) (T := TX4) (N := 6) hx hb hw inlX4 hown hK hP 0 rfl rfl 0 (by decide) (hw _ mw_3_13) (fun _ h9 => h9) rfl dX4_skipBlanks_22 ?_
          refine lv_aload_n hx hb dX4_skipBlanks_25 rfl (lv_at hl 0 rfl) ?_
          refine va_get (D := (dC, dI)) (ci := 4) (v := .int r_next_2) (C := RX4) (T := TX4) (N := 6) hx hb hw inlX4 hown hK hP 0 rfl rfl 4 (by decide) (hw _ mw_8_14) (fun _ h9 => h9) rfl dX4_skipBlanks_26 ?_
          obtain ⟨hi3, hf⟩ := pg_chk hf
          refine va_iald hx hb hK hP 1 0 rfl rfl hi3 dX4_skipBlanks_29 ?_
          refine lv_bipush (v := (32 : Int32)) hx hb dX4_skipBlanks_30 (by decide) ?_
          refine lv_icmp_ne (tgt := 48) hx hb dX4_skipBlanks_32 (by decide) (fun h9 => ?_) (fun h9 => ?_)
          · have hf := pg_f h9 hf
            exact WK48_1 _ _ _ _ hP hD hS (lv_sub hl [] rfl) hf
          · have hf := pg_t h9 hf
            refine lv_aload_n hx hb dX4_skipBlanks_35 rfl (lv_at hl 0 rfl) ?_
            refine lv_dup hx hb dX4_skipBlanks_36 rfl ?_
            refine va_get (D := (dC, dI)) (ci := 4) (v := .int r_next_2) (C := RX4) (T := TX4) (N := 6) hx hb hw inlX4 hown hK hP 0 rfl rfl 4 (by decide) (hw _ mw_8_14) (fun _ h9 => h9) rfl dX4_skipBlanks_37 ?_
            refine lv_iconst (v := (1 : Int32)) hx hb dX4_skipBlanks_40 (by decide) ?_
            refine lv_iadd hx hb dX4_skipBlanks_41 ?_
            refine va_put (D := (dC, dI)) (ci := 4) (v := .int (r_next_2 + (1 : Int32))) (ty := .int) (C := RX4) (T := TX4) (N := 6) hx hb hw inlX4 tyX4 tyX4_ok nmX4 hown hK hP hD hS 0 rfl rfl 4 (by decide) (hw _ mw_8_14) (fun _ h9 => h9) rfl (by decide +kernel) rfl rfl (Nat.le_of_ble_eq_true rfl) dX4_skipBlanks_42 (fun H locs hP hD hS => ?_)
            have hP : va_P (dC, dI) vwCl (W_X4r cI cZ cII qr qr_text r_length r_fault r_faultAt (r_next_2 + (1 : Int32)) r_numberFrom r_text) H := hP
            have hD : va_D A (W_X4r cI cZ cII qr qr_text r_length r_fault r_faultAt (r_next_2 + (1 : Int32)) r_numberFrom r_text) := hD
            refine lv_goto (tgt := 0) hx hb dX4_skipBlanks_45 (by decide) ?_
            exact ih _ _ _ _ hP hD hS hl (hrec2 _ hf)
  exact WL2 fu _ _ _ _ hP hD hS hl hf
def f_X4_isLetter (n1 : Int32) (r_length : Int32) (r_text : Nat → Int32) : Option (Int32) :=
  if n1 < 0 then
    some ((0 : Int32))
  else
    if r_length ≤ n1 then
      some ((0 : Int32))
    else
      if (500 : Int32) ≤ n1 then
        some ((0 : Int32))
      else
        if n1 < 0 ∨ 500 ≤ (n1).toNatClampNeg then none else
        if (r_text (n1).toNatClampNeg) < (97 : Int32) then
          some ((0 : Int32))
        else
          if (122 : Int32) < (r_text (n1).toNatClampNeg) then
            some ((0 : Int32))
          else
            some ((1 : Int32))
abbrev rm_X4_isLetter : Room := { frames := 0, cells := 0, slots := 0, locals := 0 }
theorem dk_X4_isLetter : yX4_isLetter.cls = RX4 ∧ yX4_isLetter.cls ≠ "java/lang/invoke/MethodHandle" ∧ yX4_isLetter.cls ≠ "java/lang/invoke/VarHandle" ∧ (parseMethodDescriptor yX4_isLetter.desc).map (fun d => d.parameters.length) = some 1 := by decide +kernel
set_option maxHeartbeats 4000000 in
set_option maxRecDepth 100000 in
theorem c_X4_isLetter (l : Launch) (dC : Nat → ClassId) (dI : Nat → Nat → Nat) (cI cZ cII : ClassId) (qr qr_text : Nat) (sz : Nat) (r_length : Int32) (r_fault : Int32) (r_faultAt : Int32) (r_next : Int32) (r_numberFrom : Int32) (r_text : Nat → Int32) (n1 : Int32) (rr : Int32) (hf : f_X4_isLetter n1 r_length r_text = some (rr)) : Met l yX4_isLetter (wM yX4_isLetter cX4_isLetter 2 (some .boolean)) rm_X4_isLetter (PreW (dC, dI) (tyA cI cZ cII) (W_X4r cI cZ cII qr qr_text r_length r_fault r_faultAt r_next r_numberFrom r_text) sz [.ref qr, .int n1]) (PostI (dC, dI) (tyA cI cZ cII) rr (W_X4r cI cZ cII qr qr_text r_length r_fault r_faultAt r_next r_numberFrom r_text) (W_X4r cI cZ cII qr qr_text r_length r_fault r_faultAt r_next r_numberFrom r_text) sz) 0 0 (va_A (W_X4r cI cZ cII qr qr_text r_length r_fault r_faultAt r_next r_numberFrom r_text) sz) := by
  refine Met.ofW (cc := cX4_isLetter) (maxL := 2) (ret := (some .boolean)) (by decide) rfl ?_
  intro p e s m args below meth c s₁ B hml hv
  obtain ⟨rfl, hsz, hP, hK, hD0⟩ := hv
  have hx := B.exec
  have hb := B.bytes
  have hr := B.returns
  have hts := atoms_spec (ws := wM yX4_isLetter cX4_isLetter 2 (some .boolean)) B.pre
  have hown : s.vm.findClass RX4 = some m.cls := findClass_of_methodNamed B.named
  have hlocks := B.notSynchronized
  subst hsz
  have hD := hD0.self (sz := s.heap.size)
  obtain ⟨A, hAe⟩ : ∃ A, A = va_A (W_X4r cI cZ cII qr qr_text r_length r_fault r_faultAt r_next r_numberFrom r_text) s.heap.size := ⟨_, rfl⟩
  rw [← hAe] at hD
  have hA : ∀ q : Nat, s.heap.size ≤ q → A q := fun q h => by rw [hAe]; exact Or.inr h
  have hS : va_S A s.heap s.heap [] := va_S.rf
  have hl := lv_entry ([.ref qr, .int n1]) (n := 2) (Nat.le_of_ble_eq_true rfl)
  rw [lg_entry_eq]
  generalize (lg_sl ([.ref qr, .int n1]) ++ List.replicate (2 - (lg_sl ([.ref qr, .int n1])).length) Slot.unset).toArray = ls at hl ⊢
  have hl : lv_has ls 2 [(0, .ref qr), (1, .int n1)] := hl
  generalize ([.ref qr, .int n1] : List Value).toArray = args at hts ⊢
  have hw : ∀ w ∈ wsL_law, w.before args s = true := fun w h => hts w (List.mem_cons_of_mem _ h)
  refine pg_start (fun Q hQ => ?_)
  have RET : ∀ (H : Heap) (locs : List Loc) (ls : Array Slot) (pc : Nat) (v : Int32) , decode cX4_isLetter pc = .ok (.ireturn, 1) → (v = 0 ∨ v = 1) → va_P (dC, dI) vwCl (W_X4r cI cZ cII qr qr_text r_length r_fault r_faultAt r_next r_numberFrom r_text) H → va_D A (W_X4r cI cZ cII qr qr_text r_length r_fault r_faultAt r_next r_numberFrom r_text) → va_S A s.heap H locs → (some (v) : Option (Int32)) = some (rr) → W p l e rm_X4_isLetter s m args below meth c H locs 0 0 Q (F0 m pc ls [.int v]) := by
    intro H locs ls pc v hd hz hP hD hS he
    subst hAe; subst hQ
    obtain rfl := Option.some.inj he
    exact pg_zret hx hb hr hlocks hz hK hP hD hS hd
  unfold f_X4_isLetter at hf
  refine lv_iload_n hx hb dX4_isLetter_0 rfl (lv_at hl 1 rfl) ?_
  refine lv_if_lt (tgt := 45) hx hb dX4_isLetter_1 (by decide) (fun h9 => ?_) (fun h9 => ?_)
  · have hf := pg_t h9 hf
    refine lv_iconst (v := (0 : Int32)) hx hb dX4_isLetter_45 (by decide) ?_
    exact RET _ _ _ _ _ dX4_isLetter_46 (by decide) hP hD hS hf
  · have hf := pg_f h9 hf
    refine lv_iload_n hx hb dX4_isLetter_4 rfl (lv_at hl 1 rfl) ?_
    refine lv_aload_n hx hb dX4_isLetter_5 rfl (lv_at hl 0 rfl) ?_
    refine va_get (D := (dC, dI)) (ci := 4) (v := .int r_length) (C := RX4) (T := TX4) (N := 6) hx hb hw inlX4 hown hK hP 0 rfl rfl 1 (by decide) (hw _ mw_7_14) (fun _ h9 => h9) rfl dX4_isLetter_6 ?_
    refine lv_icmp_ge (tgt := 45) hx hb dX4_isLetter_9 (by decide) (fun h9 => ?_) (fun h9 => ?_)
    · have hf := pg_t h9 hf
      refine lv_iconst (v := (0 : Int32)) hx hb dX4_isLetter_45 (by decide) ?_
      exact RET _ _ _ _ _ dX4_isLetter_46 (by decide) hP hD hS hf
    · have hf := pg_f h9 hf
      refine lv_iload_n hx hb dX4_isLetter_12 rfl (lv_at hl 1 rfl) ?_
      refine lv_sipush (v := (500 : Int32)) hx hb dX4_isLetter_13 (by decide) ?_
      refine lv_icmp_ge (tgt := 45) hx hb dX4_isLetter_16 (by decide) (fun h9 => ?_) (fun h9 => ?_)
      · have hf := pg_t h9 hf
        refine lv_iconst (v := (0 : Int32)) hx hb dX4_isLetter_45 (by decide) ?_
        exact RET _ _ _ _ _ dX4_isLetter_46 (by decide) hP hD hS hf
      · have hf := pg_f h9 hf
        refine lv_aload_n hx hb dX4_isLetter_19 rfl (lv_at hl 0 rfl) ?_
        refine va_get (D := (dC, dI)) (ci := 4) (v := .ref qr_text) (C := RX4) (T := TX4) (N := 6) hx hb hw inlX4 hown hK hP 0 rfl rfl 0 (by decide) (hw _ mw_3_13) (fun _ h9 => h9) rfl dX4_isLetter_20 ?_
        refine lv_iload_n hx hb dX4_isLetter_23 rfl (lv_at hl 1 rfl) ?_
        obtain ⟨hi1, hf⟩ := pg_chk hf
        refine va_iald hx hb hK hP 1 0 rfl rfl hi1 dX4_isLetter_24 ?_
        refine lv_bipush (v := (97 : Int32)) hx hb dX4_isLetter_25 (by decide) ?_
        refine lv_icmp_lt (tgt := 45) hx hb dX4_isLetter_27 (by decide) (fun h9 => ?_) (fun h9 => ?_)
        · have hf := pg_t h9 hf
          refine lv_iconst (v := (0 : Int32)) hx hb dX4_isLetter_45 (by decide) ?_
          exact RET _ _ _ _ _ dX4_isLetter_46 (by decide) hP hD hS hf
        · have hf := pg_f h9 hf
          refine lv_aload_n hx hb dX4_isLetter_30 rfl (lv_at hl 0 rfl) ?_
          refine va_get (D := (dC, dI)) (ci := 4) (v := .ref qr_text) (C := RX4) (T := TX4) (N := 6) hx hb hw inlX4 hown hK hP 0 rfl rfl 0 (by decide) (hw _ mw_3_13) (fun _ h9 => h9) rfl dX4_isLetter_31 ?_
          refine lv_iload_n hx hb dX4_isLetter_34 rfl (lv_at hl 1 rfl) ?_
          refine va_iald hx hb hK hP 1 0 rfl rfl hi1 dX4_isLetter_35 ?_
          refine lv_bipush (v := (122 : Int32)) hx hb dX4_isLetter_36 (by decide) ?_
          refine lv_icmp_gt (tgt := 45) hx hb dX4_isLetter_38 (by decide) (fun h9 => ?_) (fun h9 => ?_)
          · have hf := pg_t h9 hf
            refine lv_iconst (v := (0 : Int32)) hx hb dX4_isLetter_45 (by decide) ?_
            exact RET _ _ _ _ _ dX4_isLetter_46 (by decide) hP hD hS hf
          · have hf := pg_f h9 hf
            refine lv_iconst (v := (1 : Int32)) hx hb dX4_isLetter_41 (by decide) ?_
            refine lv_goto (tgt := 46) hx hb dX4_isLetter_42 (by decide) ?_
            exact RET _ _ _ _ _ dX4_isLetter_46 (by decide) hP hD hS hf
def f_X4_wordEnd (n1 : Int32) (r_length : Int32) (r_text : Nat → Int32) : Option (Int32) :=
  jn1 (fun (y2_1 : Int32) =>
    some (y2_1)
  ) (fun K30_1 =>
  lq2 (fun rec2 (y2_2 : Int32) (y3_2 : Int32) =>
    if r_length ≤ y3_2 then
      K30_1 y2_2
    else
      bn1 (f_X4_isLetter y3_2 r_length r_text) (fun (r_3 : Int32) =>
        if r_3 = 0 then
          K30_1 y2_2
        else
          rec2 (y3_2 + (1 : Int32)) (y3_2 + (1 : Int32))
      )
  ) fu n1 n1
  )
set_option maxRecDepth 100000 in
theorem plC_9 (cI cZ cII : ClassId) (qr qr_text : Nat) (r_length : Int32) (r_fault : Int32) (r_faultAt : Int32) (r_next : Int32) (r_numberFrom : Int32) (r_text : Nat → Int32) : ([0, 1] : List Nat).map (fun i => (W_X4r cI cZ cII qr qr_text r_length r_fault r_faultAt r_next r_numberFrom r_text)[i]?) = (W_X4r cI cZ cII qr qr_text r_length r_fault r_faultAt r_next r_numberFrom r_text).map some := rfl
set_option maxRecDepth 100000 in
theorem plF_9 (cI cZ cII : ClassId) (qr qr_text : Nat) (r_length : Int32) (r_fault : Int32) (r_faultAt : Int32) (r_next : Int32) (r_numberFrom : Int32) (r_text : Nat → Int32) (b9r_length : Int32) (b9r_fault : Int32) (b9r_faultAt : Int32) (b9r_next : Int32) (b9r_numberFrom : Int32) (b9r_text : Nat → Int32) : ([0, 1] : List Nat).map (fun i => (pickW (W_X4r cI cZ cII qr qr_text r_length r_fault r_faultAt r_next r_numberFrom r_text) ([] : List Nat) ++ (W_X4r cI cZ cII qr qr_text b9r_length b9r_fault b9r_faultAt b9r_next b9r_numberFrom b9r_text))[i]?) = (W_X4r cI cZ cII qr qr_text b9r_length b9r_fault b9r_faultAt b9r_next b9r_numberFrom b9r_text).map some := rfl
abbrev rm_X4_wordEnd : Room := { frames := 1, cells := 0, slots := 0, locals := 21 }
theorem dk_X4_wordEnd : yX4_wordEnd.cls = RX4 ∧ yX4_wordEnd.cls ≠ "java/lang/invoke/MethodHandle" ∧ yX4_wordEnd.cls ≠ "java/lang/invoke/VarHandle" ∧ (parseMethodDescriptor yX4_wordEnd.desc).map (fun d => d.parameters.length) = some 1 := by decide +kernel
set_option maxHeartbeats 4000000 in
set_option maxRecDepth 100000 in
theorem c_X4_wordEnd (l : Launch) (dC : Nat → ClassId) (dI : Nat → Nat → Nat) (cI cZ cII : ClassId) (qr qr_text : Nat) (sz : Nat) (r_length : Int32) (r_fault : Int32) (r_faultAt : Int32) (r_next : Int32) (r_numberFrom : Int32) (r_text : Nat → Int32) (n1 : Int32) (rr : Int32) (hf : f_X4_wordEnd n1 r_length r_text = some (rr)) : Met l yX4_wordEnd (wM yX4_wordEnd cX4_wordEnd 4 (some .int)) rm_X4_wordEnd (PreW (dC, dI) (tyA cI cZ cII) (W_X4r cI cZ cII qr qr_text r_length r_fault r_faultAt r_next r_numberFrom r_text) sz [.ref qr, .int n1]) (PostI (dC, dI) (tyA cI cZ cII) rr (W_X4r cI cZ cII qr qr_text r_length r_fault r_faultAt r_next r_numberFrom r_text) (W_X4r cI cZ cII qr qr_text r_length r_fault r_faultAt r_next r_numberFrom r_text) sz) 0 0 (va_A (W_X4r cI cZ cII qr qr_text r_length r_fault r_faultAt r_next r_numberFrom r_text) sz) := by
  refine Met.ofW (cc := cX4_wordEnd) (maxL := 4) (ret := (some .int)) (by decide) rfl ?_
  intro p e s m args below meth c s₁ B hml hv
  obtain ⟨rfl, hsz, hP, hK, hD0⟩ := hv
  have hx := B.exec
  have hb := B.bytes
  have hr := B.returns
  have hts := atoms_spec (ws := wM yX4_wordEnd cX4_wordEnd 4 (some .int)) B.pre
  have hown : s.vm.findClass RX4 = some m.cls := findClass_of_methodNamed B.named
  have hlocks := B.notSynchronized
  subst hsz
  have hD := hD0.self (sz := s.heap.size)
  obtain ⟨A, hAe⟩ : ∃ A, A = va_A (W_X4r cI cZ cII qr qr_text r_length r_fault r_faultAt r_next r_numberFrom r_text) s.heap.size := ⟨_, rfl⟩
  rw [← hAe] at hD
  have hA : ∀ q : Nat, s.heap.size ≤ q → A q := fun q h => by rw [hAe]; exact Or.inr h
  have hS : va_S A s.heap s.heap [] := va_S.rf
  have hl := lv_entry ([.ref qr, .int n1]) (n := 4) (Nat.le_of_ble_eq_true rfl)
  rw [lg_entry_eq]
  generalize (lg_sl ([.ref qr, .int n1]) ++ List.replicate (4 - (lg_sl ([.ref qr, .int n1])).length) Slot.unset).toArray = ls at hl ⊢
  have hl : lv_has ls 4 [(0, .ref qr), (1, .int n1)] := hl
  generalize ([.ref qr, .int n1] : List Value).toArray = args at hts ⊢
  have hw : ∀ w ∈ wsL_law, w.before args s = true := fun w h => hts w (List.mem_cons_of_mem _ h)
  refine pg_start (fun Q hQ => ?_)
  have RET : ∀ (H : Heap) (locs : List Loc) (ls : Array Slot) (pc : Nat) (v : Int32) , decode cX4_wordEnd pc = .ok (.ireturn, 1) → va_P (dC, dI) vwCl (W_X4r cI cZ cII qr qr_text r_length r_fault r_faultAt r_next r_numberFrom r_text) H → va_D A (W_X4r cI cZ cII qr qr_text r_length r_fault r_faultAt r_next r_numberFrom r_text) → va_S A s.heap H locs → (some (v) : Option (Int32)) = some (rr) → W p l e rm_X4_wordEnd s m args below meth c H locs 0 0 Q (F0 m pc ls [.int v]) := by
    intro H locs ls pc v hd hP hD hS he
    subst hAe; subst hQ
    obtain rfl := Option.some.inj he
    exact pg_iret hx hb hr hlocks hK hP hD hS hd
  unfold f_X4_wordEnd at hf
  refine lv_iload_n hx hb dX4_wordEnd_0 rfl (lv_at hl 1 rfl) ?_
  refine lv_istore_n (lv' := [(2, .int n1), (0, .ref qr), (1, .int n1)]) hx hb dX4_wordEnd_1 rfl hl (by decide) rfl (fun ls hl => ?_)
  refine lv_iload_n hx hb dX4_wordEnd_2 rfl (lv_at hl 2 rfl) ?_
  refine lv_istore_n (lv' := [(3, .int n1), (2, .int n1), (0, .ref qr), (1, .int n1)]) hx hb dX4_wordEnd_3 rfl hl (by decide) rfl (fun ls hl => ?_)
  obtain ⟨K30_1, hK30_1, hf⟩ := jn1_s hf
  have WK30_1 : ∀ (y2_1 : Int32) (H : Heap) (locs : List Loc) (ls : Array Slot), va_P (dC, dI) vwCl (W_X4r cI cZ cII qr qr_text r_length r_fault r_faultAt r_next r_numberFrom r_text) H → va_D A (W_X4r cI cZ cII qr qr_text r_length r_fault r_faultAt r_next r_numberFrom r_text) → va_S A s.heap H locs → lv_has ls 4 [(2, .int y2_1)] → K30_1 y2_1 = some (rr) → W p l e rm_X4_wordEnd s m args below meth c H locs 0 0 Q (F0 m 30 ls []) := by
    intro y2_1 H locs ls hP hD hS hl hf
    have hf := hK30_1 _ hf
    refine lv_iload_n hx hb dX4_wordEnd_30 rfl (lv_at hl 0 rfl) ?_
    exact RET _ _ _ _ _ dX4_wordEnd_31 hP hD hS hf
  obtain ⟨B2, hB2, hf⟩ := lq2_n hf
  have WL2 : ∀ (n9 : Nat) (y2_2 : Int32) (y3_2 : Int32) (H : Heap) (locs : List Loc) (ls : Array Slot), va_P (dC, dI) vwCl (W_X4r cI cZ cII qr qr_text r_length r_fault r_faultAt r_next r_numberFrom r_text) H → va_D A (W_X4r cI cZ cII qr qr_text r_length r_fault r_faultAt r_next r_numberFrom r_text) → va_S A s.heap H locs → lv_has ls 4 [(0, .ref qr), (2, .int y2_2), (3, .int y3_2)] → lq2 B2 n9 y2_2 y3_2 = some (rr) → W p l e rm_X4_wordEnd s m args below meth c H locs 0 0 Q (F0 m 4 ls []) := by
    intro n9
    induction n9 with
    | zero => intro y2_2 y3_2 H locs ls hP hD hS hl hf; cases hf
    | succ n9 ih =>
      intro y2_2 y3_2 H locs ls hP hD hS hl hf
      obtain ⟨rec2, hrec2, hf⟩ := lq2_s hf
      have hf := hB2 rec2 _ _ hf
      refine lv_iload_n hx hb dX4_wordEnd_4 rfl (lv_at hl 2 rfl) ?_
      refine lv_aload_n hx hb dX4_wordEnd_5 rfl (lv_at hl 0 rfl) ?_
      refine va_get (D := (dC, dI)) (ci := 4) (v := .int r_length) (C := RX4) (T := TX4) (N := 6) hx hb hw inlX4 hown hK hP 0 rfl rfl 1 (by decide) (hw _ mw_7_14) (fun _ h9 => h9) rfl dX4_wordEnd_6 ?_
      refine lv_icmp_ge (tgt := 30) hx hb dX4_wordEnd_9 (by decide) (fun h9 => ?_) (fun h9 => ?_)
      · have hf := pg_t h9 hf
        exact WK30_1 _ _ _ _ hP hD hS (lv_sub hl [1] rfl) hf
      · have hf := pg_f h9 hf
        refine lv_aload_n hx hb dX4_wordEnd_12 rfl (lv_at hl 0 rfl) ?_
        refine lv_iload_n hx hb dX4_wordEnd_13 rfl (lv_at hl 2 rfl) ?_
        obtain ⟨r_3, hc, hf⟩ := bn1_s hf
        refine pg_cVi (As := [.int y3_2]) (rest := []) (wf := (W_X4r cI cZ cII qr qr_text r_length r_fault r_faultAt r_next r_numberFrom r_text)) ⟨hx, hb, hml, hown, hw⟩ (c_X4_isLetter l dC dI cI cZ cII qr qr_text H.size r_length r_fault r_faultAt r_next r_numberFrom r_text y3_2 r_3 hc) (cwV 1 hts (wM_V mw_9_19 mw_9_20 mw_9_21 mw_1_20 mw_9_22) rfl rfl rfl dk_X4_isLetter ⟨Nat.le_of_ble_eq_true rfl, Nat.le_of_ble_eq_true rfl⟩) hK hP hD hS hA 4 0 rfl rfl rfl [0, 1] [] [0, 1] (plC_9 cI cZ cII qr qr_text r_length r_fault r_faultAt r_next r_numberFrom r_text) rfl (plF_9 cI cZ cII qr qr_text r_length r_fault r_faultAt r_next r_numberFrom r_text r_length r_fault r_faultAt r_next r_numberFrom r_text) (by decide) rfl hl.1 rfl (Nat.le_of_ble_eq_true rfl) dX4_wordEnd_14 ⟨Nat.zero_le _, Nat.zero_le _⟩ (fun H locs hP hD hS => ?_)
        refine lv_if_eq (tgt := 30) hx hb dX4_wordEnd_17 (by decide) (fun h9 => ?_) (fun h9 => ?_)
        · have hf := pg_t h9 hf
          exact WK30_1 _ _ _ _ hP hD hS (lv_sub hl [1] rfl) hf
        · have hf := pg_f h9 hf
          refine lv_iload_n hx hb dX4_wordEnd_20 rfl (lv_at hl 2 rfl) ?_
          refine lv_iconst (v := (1 : Int32)) hx hb dX4_wordEnd_21 (by decide) ?_
          refine lv_iadd hx hb dX4_wordEnd_22 ?_
          refine lv_istore_n (lv' := [(2, .int (y3_2 + (1 : Int32))), (0, .ref qr), (3, .int y3_2)]) hx hb dX4_wordEnd_23 rfl hl (by decide) rfl (fun ls hl => ?_)
          refine lv_iinc (v := (y3_2 + (1 : Int32))) (lv' := [(3, .int (y3_2 + (1 : Int32))), (2, .int (y3_2 + (1 : Int32))), (0, .ref qr)]) hx hb dX4_wordEnd_24 hl (k := 2) rfl rfl (by decide) rfl (fun ls hl => ?_)
          refine lv_goto (tgt := 4) hx hb dX4_wordEnd_27 (by decide) ?_
          exact ih _ _ _ _ _ hP hD hS (lv_sub hl [2, 1, 0] rfl) (hrec2 _ _ hf)
  exact WL2 fu _ _ _ _ _ hP hD hS (lv_sub hl [2, 1, 0] rfl) hf
def f_X4_isWord (n1 : Nat) (n2 : Int32) (n3 : Int32) (r_text : Nat → Int32) : Option (Int32) :=
  if (n3 - n2) = (slen n1) then
    if n2 < 0 then
      some ((0 : Int32))
    else
      if n3 ≤ (500 : Int32) then
        jn1 (fun (u_1 : Unit) =>
          some ((1 : Int32))
        ) (fun K61_1 =>
        lq1 (fun rec2 (y4_2 : Int32) =>
          if (slen n1) ≤ y4_2 then
            K61_1 ()
          else
            if (n2 + y4_2) < 0 ∨ 500 ≤ ((n2 + y4_2)).toNatClampNeg then none else
            if y4_2 < 0 ∨ lenS.getD n1 0 ≤ (y4_2).toNatClampNeg then none else
            if (r_text ((n2 + y4_2)).toNatClampNeg) = (sch n1 y4_2) then
              rec2 (y4_2 + (1 : Int32))
            else
              some ((0 : Int32))
        ) fu (0 : Int32)
        )
      else
        some ((0 : Int32))
  else
    some ((0 : Int32))
abbrev rm_X4_isWord : Room := { frames := 5, cells := 0, slots := 0, locals := 160 }
theorem dk_X4_isWord : yX4_isWord.cls = RX4 ∧ yX4_isWord.cls ≠ "java/lang/invoke/MethodHandle" ∧ yX4_isWord.cls ≠ "java/lang/invoke/VarHandle" ∧ (parseMethodDescriptor yX4_isWord.desc).map (fun d => d.parameters.length) = some 3 := by decide +kernel
set_option maxHeartbeats 4000000 in
set_option maxRecDepth 100000 in
theorem c_X4_isWord (l : Launch) (dC : Nat → ClassId) (dI : Nat → Nat → Nat) (cI cZ cII : ClassId) (adK adV : Nat → Nat) (qr qr_text : Nat) (sz : Nat) (r_length : Int32) (r_fault : Int32) (r_faultAt : Int32) (r_next : Int32) (r_numberFrom : Int32) (r_text : Nat → Int32) (n1 : Nat) (n2 : Int32) (n3 : Int32) (rr : Int32) (hn1 : n1 < 9) (hf : f_X4_isWord n1 n2 n3 r_text = some (rr)) : Met l yX4_isWord (wM yX4_isWord cX4_isWord 5 (some .boolean)) rm_X4_isWord (PreWS (dC, dI) (tyA cI cZ cII) adK adV (W_X4r cI cZ cII qr qr_text r_length r_fault r_faultAt r_next r_numberFrom r_text) sz [.ref qr, .ref (adK n1), .int n2, .int n3]) (PostI (dC, dI) (tyA cI cZ cII) rr (W_X4r cI cZ cII qr qr_text r_length r_fault r_faultAt r_next r_numberFrom r_text) (W_X4r cI cZ cII qr qr_text r_length r_fault r_faultAt r_next r_numberFrom r_text) sz) 0 0 (va_A (W_X4r cI cZ cII qr qr_text r_length r_fault r_faultAt r_next r_numberFrom r_text) sz) := by
  refine Met.ofW (cc := cX4_isWord) (maxL := 5) (ret := (some .boolean)) (by decide) rfl ?_
  intro p e s m args below meth c s₁ B hml hv
  obtain ⟨rfl, hsz, hP, hK, hD0, hE⟩ := hv
  have hx := B.exec
  have hb := B.bytes
  have hr := B.returns
  have hts := atoms_spec (ws := wM yX4_isWord cX4_isWord 5 (some .boolean)) B.pre
  have hown : s.vm.findClass RX4 = some m.cls := findClass_of_methodNamed B.named
  have hlocks := B.notSynchronized
  subst hsz
  have hD := hD0.self (sz := s.heap.size)
  obtain ⟨A, hAe⟩ : ∃ A, A = va_A (W_X4r cI cZ cII qr qr_text r_length r_fault r_faultAt r_next r_numberFrom r_text) s.heap.size := ⟨_, rfl⟩
  rw [← hAe] at hD hE
  have hA : ∀ q : Nat, s.heap.size ≤ q → A q := fun q h => by rw [hAe]; exact Or.inr h
  have hS : va_S A s.heap s.heap [] := va_S.rf
  have hl := lv_entry ([.ref qr, .ref (adK n1), .int n2, .int n3]) (n := 5) (Nat.le_of_ble_eq_true rfl)
  rw [lg_entry_eq]
  generalize (lg_sl ([.ref qr, .ref (adK n1), .int n2, .int n3]) ++ List.replicate (5 - (lg_sl ([.ref qr, .ref (adK n1), .int n2, .int n3])).length) Slot.unset).toArray = ls at hl ⊢
  have hl : lv_has ls 5 [(0, .ref qr), (1, .ref (adK n1)), (2, .int n2), (3, .int n3)] := hl
  generalize ([.ref qr, .ref (adK n1), .int n2, .int n3] : List Value).toArray = args at hts ⊢
  have hw : ∀ w ∈ wsL_law, w.before args s = true := fun w h => hts w (List.mem_cons_of_mem _ h)
  refine pg_start (fun Q hQ => ?_)
  have RET : ∀ (H : Heap) (locs : List Loc) (ls : Array Slot) (pc : Nat) (v : Int32) , decode cX4_isWord pc = .ok (.ireturn, 1) → (v = 0 ∨ v = 1) → va_P (dC, dI) vwCl (W_X4r cI cZ cII qr qr_text r_length r_fault r_faultAt r_next r_numberFrom r_text) H → va_D A (W_X4r cI cZ cII qr qr_text r_length r_fault r_faultAt r_next r_numberFrom r_text) → va_S A s.heap H locs → (some (v) : Option (Int32)) = some (rr) → W p l e rm_X4_isWord s m args below meth c H locs 0 0 Q (F0 m pc ls [.int v]) := by
    intro H locs ls pc v hd hz hP hD hS he
    subst hAe; subst hQ
    obtain rfl := Option.some.inj he
    exact pg_zret hx hb hr hlocks hz hK hP hD hS hd
  unfold f_X4_isWord at hf
  refine lv_iload_n hx hb dX4_isWord_0 rfl (lv_at hl 3 rfl) ?_
  refine lv_iload_n hx hb dX4_isWord_1 rfl (lv_at hl 2 rfl) ?_
  refine lv_isub hx hb dX4_isWord_2 ?_
  refine lv_aload_n hx hb dX4_isWord_3 rfl (lv_at hl 1 rfl) ?_
  refine pg_jVi (As := []) (rest := [.int (n3 - n2)]) hE ⟨hx, hb, hml, hown, hw⟩ (c_J0_length_8abf5 l (dC, dI) (tyA cI cZ cII) adK adV s.heap.size n1 hn1) (cwV 0 hts (wM_V mw_10_7 mw_10_8 mw_10_9 mw_10_10 mw_10_11) rfl rfl rfl dk_J0_length_8abf5 ⟨Nat.le_of_ble_eq_true rfl, Nat.le_of_ble_eq_true rfl⟩) hn1 rfl hK hP hD hS hA rfl hl.1 rfl (Nat.le_of_ble_eq_true rfl) dX4_isWord_4 ⟨Nat.zero_le _, Nat.zero_le _⟩ (fun H locs hP hD hS => ?_)
  refine lv_icmp_ne (tgt := 21) hx hb dX4_isWord_7 (by decide) (fun h9 => ?_) (fun h9 => ?_)
  · have hf := pg_f h9 hf
    refine lv_iconst (v := (0 : Int32)) hx hb dX4_isWord_21 (by decide) ?_
    exact RET _ _ _ _ _ dX4_isWord_22 (by decide) hP hD hS hf
  · have hf := pg_t h9 hf
    refine lv_iload_n hx hb dX4_isWord_10 rfl (lv_at hl 2 rfl) ?_
    refine lv_if_lt (tgt := 21) hx hb dX4_isWord_11 (by decide) (fun h9 => ?_) (fun h9 => ?_)
    · have hf := pg_t h9 hf
      refine lv_iconst (v := (0 : Int32)) hx hb dX4_isWord_21 (by decide) ?_
      exact RET _ _ _ _ _ dX4_isWord_22 (by decide) hP hD hS hf
    · have hf := pg_f h9 hf
      refine lv_iload_n hx hb dX4_isWord_14 rfl (lv_at hl 3 rfl) ?_
      refine lv_sipush (v := (500 : Int32)) hx hb dX4_isWord_15 (by decide) ?_
      refine lv_icmp_le (tgt := 23) hx hb dX4_isWord_18 (by decide) (fun h9 => ?_) (fun h9 => ?_)
      · have hf := pg_t h9 hf
        refine lv_iconst (v := (0 : Int32)) hx hb dX4_isWord_23 (by decide) ?_
        refine lv_istore (lv' := [(4, .int (0 : Int32)), (0, .ref qr), (1, .ref (adK n1)), (2, .int n2), (3, .int n3)]) hx hb dX4_isWord_24 hl (by decide) rfl (fun ls hl => ?_)
        obtain ⟨K61_1, hK61_1, hf⟩ := jn1_s hf
        have WK61_1 : ∀ (u_1 : Unit) (H : Heap) (locs : List Loc) (ls : Array Slot), va_P (dC, dI) vwCl (W_X4r cI cZ cII qr qr_text r_length r_fault r_faultAt r_next r_numberFrom r_text) H → va_D A (W_X4r cI cZ cII qr qr_text r_length r_fault r_faultAt r_next r_numberFrom r_text) → va_S A s.heap H locs → lv_has ls 5 [] → K61_1 u_1 = some (rr) → W p l e rm_X4_isWord s m args below meth c H locs 0 0 Q (F0 m 61 ls []) := by
          intro u_1 H locs ls hP hD hS hl hf
          have hf := hK61_1 _ hf
          refine lv_iconst (v := (1 : Int32)) hx hb dX4_isWord_61 (by decide) ?_
          exact RET _ _ _ _ _ dX4_isWord_62 (by decide) hP hD hS hf
        obtain ⟨B2, hB2, hf⟩ := lq1_n hf
        have WL2 : ∀ (n9 : Nat) (y4_2 : Int32) (H : Heap) (locs : List Loc) (ls : Array Slot), va_P (dC, dI) vwCl (W_X4r cI cZ cII qr qr_text r_length r_fault r_faultAt r_next r_numberFrom r_text) H → va_D A (W_X4r cI cZ cII qr qr_text r_length r_fault r_faultAt r_next r_numberFrom r_text) → va_S A s.heap H locs → lv_has ls 5 [(0, .ref qr), (1, .ref (adK n1)), (2, .int n2), (4, .int y4_2)] → lq1 B2 n9 y4_2 = some (rr) → W p l e rm_X4_isWord s m args below meth c H locs 0 0 Q (F0 m 26 ls []) := by
          intro n9
          induction n9 with
          | zero => intro y4_2 H locs ls hP hD hS hl hf; cases hf
          | succ n9 ih =>
            intro y4_2 H locs ls hP hD hS hl hf
            obtain ⟨rec2, hrec2, hf⟩ := lq1_s hf
            have hf := hB2 rec2 _ hf
            refine lv_iload hx hb dX4_isWord_26 (lv_at hl 3 rfl) ?_
            refine lv_aload_n hx hb dX4_isWord_28 rfl (lv_at hl 1 rfl) ?_
            refine pg_jVi (As := []) (rest := [.int y4_2]) hE ⟨hx, hb, hml, hown, hw⟩ (c_J0_length_8abf5 l (dC, dI) (tyA cI cZ cII) adK adV H.size n1 hn1) (cwV 0 hts (wM_V mw_10_7 mw_10_8 mw_10_9 mw_10_10 mw_10_11) rfl rfl rfl dk_J0_length_8abf5 ⟨Nat.le_of_ble_eq_true rfl, Nat.le_of_ble_eq_true rfl⟩) hn1 rfl hK hP hD hS hA rfl hl.1 rfl (Nat.le_of_ble_eq_true rfl) dX4_isWord_29 ⟨Nat.zero_le _, Nat.zero_le _⟩ (fun H locs hP hD hS => ?_)
            refine lv_icmp_ge (tgt := 61) hx hb dX4_isWord_32 (by decide) (fun h9 => ?_) (fun h9 => ?_)
            · have hf := pg_t h9 hf
              exact WK61_1 _ _ _ _ hP hD hS (lv_sub hl [] rfl) hf
            · have hf := pg_f h9 hf
              refine lv_aload_n hx hb dX4_isWord_35 rfl (lv_at hl 0 rfl) ?_
              refine va_get (D := (dC, dI)) (ci := 4) (v := .ref qr_text) (C := RX4) (T := TX4) (N := 6) hx hb hw inlX4 hown hK hP 0 rfl rfl 0 (by decide) (hw _ mw_3_13) (fun _ h9 => h9) rfl dX4_isWord_36 ?_
              refine lv_iload_n hx hb dX4_isWord_39 rfl (lv_at hl 2 rfl) ?_
              refine lv_iload hx hb dX4_isWord_40 (lv_at hl 3 rfl) ?_
              refine lv_iadd hx hb dX4_isWord_42 ?_
              obtain ⟨hi3, hf⟩ := pg_chk hf
              refine va_iald hx hb hK hP 1 0 rfl rfl hi3 dX4_isWord_43 ?_
              refine lv_aload_n hx hb dX4_isWord_44 rfl (lv_at hl 1 rfl) ?_
              refine lv_iload hx hb dX4_isWord_45 (lv_at hl 3 rfl) ?_
              obtain ⟨hi4, hf⟩ := pg_chk hf
              refine pg_jVi (As := [.int y4_2]) (rest := [.int (r_text ((n2 + y4_2)).toNatClampNeg)]) hE ⟨hx, hb, hml, hown, hw⟩ (c_J0_charAt_5068e l (dC, dI) (tyA cI cZ cII) adK adV H.size n1 hn1 y4_2 hi4) (cwV 1 hts (wM_V mw_10_19 mw_10_20 mw_10_21 mw_10_10 mw_10_22) rfl rfl rfl dk_J0_charAt_5068e ⟨Nat.le_of_ble_eq_true rfl, Nat.le_of_ble_eq_true rfl⟩) hn1 rfl hK hP hD hS hA rfl hl.1 rfl (Nat.le_of_ble_eq_true rfl) dX4_isWord_47 ⟨Nat.zero_le _, Nat.zero_le _⟩ (fun H locs hP hD hS => ?_)
              refine lv_icmp_eq (tgt := 55) hx hb dX4_isWord_50 (by decide) (fun h9 => ?_) (fun h9 => ?_)
              · have hf := pg_t h9 hf
                refine lv_iinc (v := (y4_2 + (1 : Int32))) (lv' := [(4, .int (y4_2 + (1 : Int32))), (0, .ref qr), (1, .ref (adK n1)), (2, .int n2)]) hx hb dX4_isWord_55 hl (k := 3) rfl rfl (by decide) rfl (fun ls hl => ?_)
                refine lv_goto (tgt := 26) hx hb dX4_isWord_58 (by decide) ?_
                exact ih _ _ _ _ hP hD hS (lv_sub hl [1, 2, 3, 0] rfl) (hrec2 _ hf)
              · have hf := pg_f h9 hf
                refine lv_iconst (v := (0 : Int32)) hx hb dX4_isWord_53 (by decide) ?_
                exact RET _ _ _ _ _ dX4_isWord_54 (by decide) hP hD hS hf
        exact WL2 fu _ _ _ _ hP hD hS (lv_sub hl [1, 2, 3, 0] rfl) hf
      · have hf := pg_f h9 hf
        refine lv_iconst (v := (0 : Int32)) hx hb dX4_isWord_21 (by decide) ?_
        exact RET _ _ _ _ _ dX4_isWord_22 (by decide) hP hD hS hf
def f_X4_kindOf (n1 : Int32) (n2 : Int32) (r_text : Nat → Int32) : Option (Int32) :=
  bn1 (f_X4_isWord 0 n1 n2 r_text) (fun (r_1 : Int32) =>
    if r_1 = 0 then
      bn1 (f_X4_isWord 1 n1 n2 r_text) (fun (r_2 : Int32) =>
        if r_2 = 0 then
          bn1 (f_X4_isWord 2 n1 n2 r_text) (fun (r_3 : Int32) =>
            if r_3 = 0 then
              bn1 (f_X4_isWord 3 n1 n2 r_text) (fun (r_4 : Int32) =>
                if r_4 = 0 then
                  bn1 (f_X4_isWord 4 n1 n2 r_text) (fun (r_5 : Int32) =>
                    if r_5 = 0 then
                      bn1 (f_X4_isWord 5 n1 n2 r_text) (fun (r_6 : Int32) =>
                        if r_6 = 0 then
                          bn1 (f_X4_isWord 6 n1 n2 r_text) (fun (r_7 : Int32) =>
                            if r_7 = 0 then
                              some ((-1 : Int32))
                            else
                              some ((6 : Int32))
                          )
                        else
                          some ((5 : Int32))
                      )
                    else
                      some ((4 : Int32))
                  )
                else
                  some ((3 : Int32))
              )
            else
              some ((2 : Int32))
          )
        else
          some ((1 : Int32))
      )
    else
      some ((0 : Int32))
  )
abbrev rm_X4_kindOf : Room := { frames := 6, cells := 0, slots := 0, locals := 184 }
theorem dk_X4_kindOf : yX4_kindOf.cls = RX4 ∧ yX4_kindOf.cls ≠ "java/lang/invoke/MethodHandle" ∧ yX4_kindOf.cls ≠ "java/lang/invoke/VarHandle" ∧ (parseMethodDescriptor yX4_kindOf.desc).map (fun d => d.parameters.length) = some 2 := by decide +kernel
set_option maxHeartbeats 4000000 in
set_option maxRecDepth 100000 in
theorem c_X4_kindOf (l : Launch) (dC : Nat → ClassId) (dI : Nat → Nat → Nat) (cI cZ cII : ClassId) (adK adV : Nat → Nat) (qr qr_text : Nat) (sz : Nat) (r_length : Int32) (r_fault : Int32) (r_faultAt : Int32) (r_next : Int32) (r_numberFrom : Int32) (r_text : Nat → Int32) (n1 : Int32) (n2 : Int32) (rr : Int32) (hf : f_X4_kindOf n1 n2 r_text = some (rr)) : Met l yX4_kindOf (wM yX4_kindOf cX4_kindOf 3 (some .int)) rm_X4_kindOf (PreWS (dC, dI) (tyA cI cZ cII) adK adV (W_X4r cI cZ cII qr qr_text r_length r_fault r_faultAt r_next r_numberFrom r_text) sz [.ref qr, .int n1, .int n2]) (PostI (dC, dI) (tyA cI cZ cII) rr (W_X4r cI cZ cII qr qr_text r_length r_fault r_faultAt r_next r_numberFrom r_text) (W_X4r cI cZ cII qr qr_text r_length r_fault r_faultAt r_next r_numberFrom r_text) sz) 0 0 (va_A (W_X4r cI cZ cII qr qr_text r_length r_fault r_faultAt r_next r_numberFrom r_text) sz) := by
  refine Met.ofW (cc := cX4_kindOf) (maxL := 3) (ret := (some .int)) (by decide) rfl ?_
  intro p e s m args below meth c s₁ B hml hv
  obtain ⟨rfl, hsz, hP, hK, hD0, hE⟩ := hv
  have hx := B.exec
  have hb := B.bytes
  have hr := B.returns
  have hts := atoms_spec (ws := wM yX4_kindOf cX4_kindOf 3 (some .int)) B.pre
  have hown : s.vm.findClass RX4 = some m.cls := findClass_of_methodNamed B.named
  have hlocks := B.notSynchronized
  subst hsz
  have hD := hD0.self (sz := s.heap.size)
  obtain ⟨A, hAe⟩ : ∃ A, A = va_A (W_X4r cI cZ cII qr qr_text r_length r_fault r_faultAt r_next r_numberFrom r_text) s.heap.size := ⟨_, rfl⟩
  rw [← hAe] at hD hE
  have hA : ∀ q : Nat, s.heap.size ≤ q → A q := fun q h => by rw [hAe]; exact Or.inr h
  have hS : va_S A s.heap s.heap [] := va_S.rf
  have hl := lv_entry ([.ref qr, .int n1, .int n2]) (n := 3) (Nat.le_of_ble_eq_true rfl)
  rw [lg_entry_eq]
  generalize (lg_sl ([.ref qr, .int n1, .int n2]) ++ List.replicate (3 - (lg_sl ([.ref qr, .int n1, .int n2])).length) Slot.unset).toArray = ls at hl ⊢
  have hl : lv_has ls 3 [(0, .ref qr), (1, .int n1), (2, .int n2)] := hl
  generalize ([.ref qr, .int n1, .int n2] : List Value).toArray = args at hts ⊢
  have hw : ∀ w ∈ wsL_law, w.before args s = true := fun w h => hts w (List.mem_cons_of_mem _ h)
  refine pg_start (fun Q hQ => ?_)
  have RET : ∀ (H : Heap) (locs : List Loc) (ls : Array Slot) (pc : Nat) (v : Int32) , decode cX4_kindOf pc = .ok (.ireturn, 1) → va_P (dC, dI) vwCl (W_X4r cI cZ cII qr qr_text r_length r_fault r_faultAt r_next r_numberFrom r_text) H → va_D A (W_X4r cI cZ cII qr qr_text r_length r_fault r_faultAt r_next r_numberFrom r_text) → va_S A s.heap H locs → (some (v) : Option (Int32)) = some (rr) → W p l e rm_X4_kindOf s m args below meth c H locs 0 0 Q (F0 m pc ls [.int v]) := by
    intro H locs ls pc v hd hP hD hS he
    subst hAe; subst hQ
    obtain rfl := Option.some.inj he
    exact pg_iret hx hb hr hlocks hK hP hD hS hd
  unfold f_X4_kindOf at hf
  refine lv_aload_n hx hb dX4_kindOf_0 rfl (lv_at hl 0 rfl) ?_
  refine va_ldcS (tx := "belt") (q := adK 0) hx hb hown (hE.2.2.2 0 (by decide)) dX4_kindOf_1 ?_
  refine lv_iload_n hx hb dX4_kindOf_3 rfl (lv_at hl 1 rfl) ?_
  refine lv_iload_n hx hb dX4_kindOf_4 rfl (lv_at hl 2 rfl) ?_
  obtain ⟨r_1, hc, hf⟩ := bn1_s hf
  refine pg_sVi (As := [.ref (adK 0), .int n1, .int n2]) (rest := []) (wf := (W_X4r cI cZ cII qr qr_text r_length r_fault r_faultAt r_next r_numberFrom r_text)) hE ⟨hx, hb, hml, hown, hw⟩ (c_X4_isWord l dC dI cI cZ cII adK adV qr qr_text s.heap.size r_length r_fault r_faultAt r_next r_numberFrom r_text 0 n1 n2 r_1 (by decide) hc) (cwV 3 hts (wM_V mw_10_3 mw_10_4 mw_10_5 mw_1_20 mw_10_6) rfl rfl rfl dk_X4_isWord ⟨Nat.le_of_ble_eq_true rfl, Nat.le_of_ble_eq_true rfl⟩) hK hP hD hS hA 4 0 rfl rfl rfl [0, 1] [] [0, 1] (plC_9 cI cZ cII qr qr_text r_length r_fault r_faultAt r_next r_numberFrom r_text) rfl (plF_9 cI cZ cII qr qr_text r_length r_fault r_faultAt r_next r_numberFrom r_text r_length r_fault r_faultAt r_next r_numberFrom r_text) (by decide) rfl hl.1 rfl (Nat.le_of_ble_eq_true rfl) dX4_kindOf_5 ⟨Nat.zero_le _, Nat.zero_le _⟩ (fun H locs hP hD hS => ?_)
  refine lv_if_eq (tgt := 13) hx hb dX4_kindOf_8 (by decide) (fun h9 => ?_) (fun h9 => ?_)
  · have hf := pg_t h9 hf
    refine lv_aload_n hx hb dX4_kindOf_13 rfl (lv_at hl 0 rfl) ?_
    refine va_ldcS (tx := "horse") (q := adK 1) hx hb hown (hE.2.2.2 1 (by decide)) dX4_kindOf_14 ?_
    refine lv_iload_n hx hb dX4_kindOf_16 rfl (lv_at hl 1 rfl) ?_
    refine lv_iload_n hx hb dX4_kindOf_17 rfl (lv_at hl 2 rfl) ?_
    obtain ⟨r_2, hc, hf⟩ := bn1_s hf
    refine pg_sVi (As := [.ref (adK 1), .int n1, .int n2]) (rest := []) (wf := (W_X4r cI cZ cII qr qr_text r_length r_fault r_faultAt r_next r_numberFrom r_text)) hE ⟨hx, hb, hml, hown, hw⟩ (c_X4_isWord l dC dI cI cZ cII adK adV qr qr_text H.size r_length r_fault r_faultAt r_next r_numberFrom r_text 1 n1 n2 r_2 (by decide) hc) (cwV 3 hts (wM_V mw_10_3 mw_10_4 mw_10_5 mw_1_20 mw_10_6) rfl rfl rfl dk_X4_isWord ⟨Nat.le_of_ble_eq_true rfl, Nat.le_of_ble_eq_true rfl⟩) hK hP hD hS hA 4 0 rfl rfl rfl [0, 1] [] [0, 1] (plC_9 cI cZ cII qr qr_text r_length r_fault r_faultAt r_next r_numberFrom r_text) rfl (plF_9 cI cZ cII qr qr_text r_length r_fault r_faultAt r_next r_numberFrom r_text r_length r_fault r_faultAt r_next r_numberFrom r_text) (by decide) rfl hl.1 rfl (Nat.le_of_ble_eq_true rfl) dX4_kindOf_18 ⟨Nat.zero_le _, Nat.zero_le _⟩ (fun H locs hP hD hS => ?_)
    refine lv_if_eq (tgt := 26) hx hb dX4_kindOf_21 (by decide) (fun h9 => ?_) (fun h9 => ?_)
    · have hf := pg_t h9 hf
      refine lv_aload_n hx hb dX4_kindOf_26 rfl (lv_at hl 0 rfl) ?_
      refine va_ldcS (tx := "blind") (q := adK 2) hx hb hown (hE.2.2.2 2 (by decide)) dX4_kindOf_27 ?_
      refine lv_iload_n hx hb dX4_kindOf_29 rfl (lv_at hl 1 rfl) ?_
      refine lv_iload_n hx hb dX4_kindOf_30 rfl (lv_at hl 2 rfl) ?_
      obtain ⟨r_3, hc, hf⟩ := bn1_s hf
      refine pg_sVi (As := [.ref (adK 2), .int n1, .int n2]) (rest := []) (wf := (W_X4r cI cZ cII qr qr_text r_length r_fault r_faultAt r_next r_numberFrom r_text)) hE ⟨hx, hb, hml, hown, hw⟩ (c_X4_isWord l dC dI cI cZ cII adK adV qr qr_text H.size r_length r_fault r_faultAt r_next r_numberFrom r_text 2 n1 n2 r_3 (by decide) hc) (cwV 3 hts (wM_V mw_10_3 mw_10_4 mw_10_5 mw_1_20 mw_10_6) rfl rfl rfl dk_X4_isWord ⟨Nat.le_of_ble_eq_true rfl, Nat.le_of_ble_eq_true rfl⟩) hK hP hD hS hA 4 0 rfl rfl rfl [0, 1] [] [0, 1] (plC_9 cI cZ cII qr qr_text r_length r_fault r_faultAt r_next r_numberFrom r_text) rfl (plF_9 cI cZ cII qr qr_text r_length r_fault r_faultAt r_next r_numberFrom r_text r_length r_fault r_faultAt r_next r_numberFrom r_text) (by decide) rfl hl.1 rfl (Nat.le_of_ble_eq_true rfl) dX4_kindOf_31 ⟨Nat.zero_le _, Nat.zero_le _⟩ (fun H locs hP hD hS => ?_)
      refine lv_if_eq (tgt := 39) hx hb dX4_kindOf_34 (by decide) (fun h9 => ?_) (fun h9 => ?_)
      · have hf := pg_t h9 hf
        refine lv_aload_n hx hb dX4_kindOf_39 rfl (lv_at hl 0 rfl) ?_
        refine va_ldcS (tx := "beside") (q := adK 3) hx hb hown (hE.2.2.2 3 (by decide)) dX4_kindOf_40 ?_
        refine lv_iload_n hx hb dX4_kindOf_42 rfl (lv_at hl 1 rfl) ?_
        refine lv_iload_n hx hb dX4_kindOf_43 rfl (lv_at hl 2 rfl) ?_
        obtain ⟨r_4, hc, hf⟩ := bn1_s hf
        refine pg_sVi (As := [.ref (adK 3), .int n1, .int n2]) (rest := []) (wf := (W_X4r cI cZ cII qr qr_text r_length r_fault r_faultAt r_next r_numberFrom r_text)) hE ⟨hx, hb, hml, hown, hw⟩ (c_X4_isWord l dC dI cI cZ cII adK adV qr qr_text H.size r_length r_fault r_faultAt r_next r_numberFrom r_text 3 n1 n2 r_4 (by decide) hc) (cwV 3 hts (wM_V mw_10_3 mw_10_4 mw_10_5 mw_1_20 mw_10_6) rfl rfl rfl dk_X4_isWord ⟨Nat.le_of_ble_eq_true rfl, Nat.le_of_ble_eq_true rfl⟩) hK hP hD hS hA 4 0 rfl rfl rfl [0, 1] [] [0, 1] (plC_9 cI cZ cII qr qr_text r_length r_fault r_faultAt r_next r_numberFrom r_text) rfl (plF_9 cI cZ cII qr qr_text r_length r_fault r_faultAt r_next r_numberFrom r_text r_length r_fault r_faultAt r_next r_numberFrom r_text) (by decide) rfl hl.1 rfl (Nat.le_of_ble_eq_true rfl) dX4_kindOf_44 ⟨Nat.zero_le _, Nat.zero_le _⟩ (fun H locs hP hD hS => ?_)
        refine lv_if_eq (tgt := 52) hx hb dX4_kindOf_47 (by decide) (fun h9 => ?_) (fun h9 => ?_)
        · have hf := pg_t h9 hf
          refine lv_aload_n hx hb dX4_kindOf_52 rfl (lv_at hl 0 rfl) ?_
          refine va_ldcS (tx := "tide") (q := adK 4) hx hb hown (hE.2.2.2 4 (by decide)) dX4_kindOf_53 ?_
          refine lv_iload_n hx hb dX4_kindOf_55 rfl (lv_at hl 1 rfl) ?_
          refine lv_iload_n hx hb dX4_kindOf_56 rfl (lv_at hl 2 rfl) ?_
          obtain ⟨r_5, hc, hf⟩ := bn1_s hf
          refine pg_sVi (As := [.ref (adK 4), .int n1, .int n2]) (rest := []) (wf := (W_X4r cI cZ cII qr qr_text r_length r_fault r_faultAt r_next r_numberFrom r_text)) hE ⟨hx, hb, hml, hown, hw⟩ (c_X4_isWord l dC dI cI cZ cII adK adV qr qr_text H.size r_length r_fault r_faultAt r_next r_numberFrom r_text 4 n1 n2 r_5 (by decide) hc) (cwV 3 hts (wM_V mw_10_3 mw_10_4 mw_10_5 mw_1_20 mw_10_6) rfl rfl rfl dk_X4_isWord ⟨Nat.le_of_ble_eq_true rfl, Nat.le_of_ble_eq_true rfl⟩) hK hP hD hS hA 4 0 rfl rfl rfl [0, 1] [] [0, 1] (plC_9 cI cZ cII qr qr_text r_length r_fault r_faultAt r_next r_numberFrom r_text) rfl (plF_9 cI cZ cII qr qr_text r_length r_fault r_faultAt r_next r_numberFrom r_text r_length r_fault r_faultAt r_next r_numberFrom r_text) (by decide) rfl hl.1 rfl (Nat.le_of_ble_eq_true rfl) dX4_kindOf_57 ⟨Nat.zero_le _, Nat.zero_le _⟩ (fun H locs hP hD hS => ?_)
          refine lv_if_eq (tgt := 65) hx hb dX4_kindOf_60 (by decide) (fun h9 => ?_) (fun h9 => ?_)
          · have hf := pg_t h9 hf
            refine lv_aload_n hx hb dX4_kindOf_65 rfl (lv_at hl 0 rfl) ?_
            refine va_ldcS (tx := "cart") (q := adK 5) hx hb hown (hE.2.2.2 5 (by decide)) dX4_kindOf_66 ?_
            refine lv_iload_n hx hb dX4_kindOf_68 rfl (lv_at hl 1 rfl) ?_
            refine lv_iload_n hx hb dX4_kindOf_69 rfl (lv_at hl 2 rfl) ?_
            obtain ⟨r_6, hc, hf⟩ := bn1_s hf
            refine pg_sVi (As := [.ref (adK 5), .int n1, .int n2]) (rest := []) (wf := (W_X4r cI cZ cII qr qr_text r_length r_fault r_faultAt r_next r_numberFrom r_text)) hE ⟨hx, hb, hml, hown, hw⟩ (c_X4_isWord l dC dI cI cZ cII adK adV qr qr_text H.size r_length r_fault r_faultAt r_next r_numberFrom r_text 5 n1 n2 r_6 (by decide) hc) (cwV 3 hts (wM_V mw_10_3 mw_10_4 mw_10_5 mw_1_20 mw_10_6) rfl rfl rfl dk_X4_isWord ⟨Nat.le_of_ble_eq_true rfl, Nat.le_of_ble_eq_true rfl⟩) hK hP hD hS hA 4 0 rfl rfl rfl [0, 1] [] [0, 1] (plC_9 cI cZ cII qr qr_text r_length r_fault r_faultAt r_next r_numberFrom r_text) rfl (plF_9 cI cZ cII qr qr_text r_length r_fault r_faultAt r_next r_numberFrom r_text r_length r_fault r_faultAt r_next r_numberFrom r_text) (by decide) rfl hl.1 rfl (Nat.le_of_ble_eq_true rfl) dX4_kindOf_70 ⟨Nat.zero_le _, Nat.zero_le _⟩ (fun H locs hP hD hS => ?_)
            refine lv_if_eq (tgt := 78) hx hb dX4_kindOf_73 (by decide) (fun h9 => ?_) (fun h9 => ?_)
            · have hf := pg_t h9 hf
              refine lv_aload_n hx hb dX4_kindOf_78 rfl (lv_at hl 0 rfl) ?_
              refine va_ldcS (tx := "due") (q := adK 6) hx hb hown (hE.2.2.2 6 (by decide)) dX4_kindOf_79 ?_
              refine lv_iload_n hx hb dX4_kindOf_81 rfl (lv_at hl 1 rfl) ?_
              refine lv_iload_n hx hb dX4_kindOf_82 rfl (lv_at hl 2 rfl) ?_
              obtain ⟨r_7, hc, hf⟩ := bn1_s hf
              refine pg_sVi (As := [.ref (adK 6), .int n1, .int n2]) (rest := []) (wf := (W_X4r cI cZ cII qr qr_text r_length r_fault r_faultAt r_next r_numberFrom r_text)) hE ⟨hx, hb, hml, hown, hw⟩ (c_X4_isWord l dC dI cI cZ cII adK adV qr qr_text H.size r_length r_fault r_faultAt r_next r_numberFrom r_text 6 n1 n2 r_7 (by decide) hc) (cwV 3 hts (wM_V mw_10_3 mw_10_4 mw_10_5 mw_1_20 mw_10_6) rfl rfl rfl dk_X4_isWord ⟨Nat.le_of_ble_eq_true rfl, Nat.le_of_ble_eq_true rfl⟩) hK hP hD hS hA 4 0 rfl rfl rfl [0, 1] [] [0, 1] (plC_9 cI cZ cII qr qr_text r_length r_fault r_faultAt r_next r_numberFrom r_text) rfl (plF_9 cI cZ cII qr qr_text r_length r_fault r_faultAt r_next r_numberFrom r_text r_length r_fault r_faultAt r_next r_numberFrom r_text) (by decide) rfl hl.1 rfl (Nat.le_of_ble_eq_true rfl) dX4_kindOf_83 ⟨Nat.zero_le _, Nat.zero_le _⟩ (fun H locs hP hD hS => ?_)
              refine lv_if_eq (tgt := 94) hx hb dX4_kindOf_86 (by decide) (fun h9 => ?_) (fun h9 => ?_)
              · have hf := pg_t h9 hf
                refine lv_iconst (v := (-1 : Int32)) hx hb dX4_kindOf_94 (by decide) ?_
                exact RET _ _ _ _ _ dX4_kindOf_95 hP hD hS hf
              · have hf := pg_f h9 hf
                refine lv_bipush (v := (6 : Int32)) hx hb dX4_kindOf_89 (by decide) ?_
                refine lv_goto (tgt := 95) hx hb dX4_kindOf_91 (by decide) ?_
                exact RET _ _ _ _ _ dX4_kindOf_95 hP hD hS hf
            · have hf := pg_f h9 hf
              refine lv_iconst (v := (5 : Int32)) hx hb dX4_kindOf_76 (by decide) ?_
              exact RET _ _ _ _ _ dX4_kindOf_77 hP hD hS hf
          · have hf := pg_f h9 hf
            refine lv_iconst (v := (4 : Int32)) hx hb dX4_kindOf_63 (by decide) ?_
            exact RET _ _ _ _ _ dX4_kindOf_64 hP hD hS hf
        · have hf := pg_f h9 hf
          refine lv_iconst (v := (3 : Int32)) hx hb dX4_kindOf_50 (by decide) ?_
          exact RET _ _ _ _ _ dX4_kindOf_51 hP hD hS hf
      · have hf := pg_f h9 hf
        refine lv_iconst (v := (2 : Int32)) hx hb dX4_kindOf_37 (by decide) ?_
        exact RET _ _ _ _ _ dX4_kindOf_38 hP hD hS hf
    · have hf := pg_f h9 hf
      refine lv_iconst (v := (1 : Int32)) hx hb dX4_kindOf_24 (by decide) ?_
      exact RET _ _ _ _ _ dX4_kindOf_25 hP hD hS hf
  · have hf := pg_f h9 hf
    refine lv_iconst (v := (0 : Int32)) hx hb dX4_kindOf_11 (by decide) ?_
    exact RET _ _ _ _ _ dX4_kindOf_12 hP hD hS hf
def f_X4_fail (n1 : Int32) (n2 : Int32) (r_fault : Int32) (r_faultAt : Int32) : Option (Int32 × Int32) :=
  if r_fault = 0 then
    some (n1, n2)
  else
    some (r_fault, r_faultAt)
abbrev rm_X4_fail : Room := { frames := 0, cells := 0, slots := 0, locals := 0 }
theorem dk_X4_fail : yX4_fail.cls = RX4 ∧ yX4_fail.cls ≠ "java/lang/invoke/MethodHandle" ∧ yX4_fail.cls ≠ "java/lang/invoke/VarHandle" ∧ (parseMethodDescriptor yX4_fail.desc).map (fun d => d.parameters.length) = some 2 := by decide +kernel
set_option maxHeartbeats 4000000 in
set_option maxRecDepth 100000 in
theorem c_X4_fail (l : Launch) (dC : Nat → ClassId) (dI : Nat → Nat → Nat) (cI cZ cII : ClassId) (qr qr_text : Nat) (sz : Nat) (r_length : Int32) (r_fault : Int32) (r_faultAt : Int32) (r_next : Int32) (r_numberFrom : Int32) (r_text : Nat → Int32) (n1 : Int32) (n2 : Int32) (r_fault' : Int32) (r_faultAt' : Int32) (hf : f_X4_fail n1 n2 r_fault r_faultAt = some (r_fault', r_faultAt')) : Met l yX4_fail (wM yX4_fail cX4_fail 3 none) rm_X4_fail (PreW (dC, dI) (tyA cI cZ cII) (W_X4r cI cZ cII qr qr_text r_length r_fault r_faultAt r_next r_numberFrom r_text) sz [.ref qr, .int n1, .int n2]) (PostV (dC, dI) (tyA cI cZ cII) (W_X4r cI cZ cII qr qr_text r_length r_fault r_faultAt r_next r_numberFrom r_text) (W_X4r cI cZ cII qr qr_text r_length r_fault' r_faultAt' r_next r_numberFrom r_text) sz) 0 0 (va_A (W_X4r cI cZ cII qr qr_text r_length r_fault r_faultAt r_next r_numberFrom r_text) sz) := by
  refine Met.ofW (cc := cX4_fail) (maxL := 3) (ret := none) (by decide) rfl ?_
  intro p e s m args below meth c s₁ B hml hv
  obtain ⟨rfl, hsz, hP, hK, hD0⟩ := hv
  have hx := B.exec
  have hb := B.bytes
  have hr := B.returns
  have hts := atoms_spec (ws := wM yX4_fail cX4_fail 3 none) B.pre
  have hown : s.vm.findClass RX4 = some m.cls := findClass_of_methodNamed B.named
  have hlocks := B.notSynchronized
  subst hsz
  have hD := hD0.self (sz := s.heap.size)
  obtain ⟨A, hAe⟩ : ∃ A, A = va_A (W_X4r cI cZ cII qr qr_text r_length r_fault r_faultAt r_next r_numberFrom r_text) s.heap.size := ⟨_, rfl⟩
  rw [← hAe] at hD
  have hA : ∀ q : Nat, s.heap.size ≤ q → A q := fun q h => by rw [hAe]; exact Or.inr h
  have hS : va_S A s.heap s.heap [] := va_S.rf
  have hl := lv_entry ([.ref qr, .int n1, .int n2]) (n := 3) (Nat.le_of_ble_eq_true rfl)
  rw [lg_entry_eq]
  generalize (lg_sl ([.ref qr, .int n1, .int n2]) ++ List.replicate (3 - (lg_sl ([.ref qr, .int n1, .int n2])).length) Slot.unset).toArray = ls at hl ⊢
  have hl : lv_has ls 3 [(0, .ref qr), (1, .int n1), (2, .int n2)] := hl
  generalize ([.ref qr, .int n1, .int n2] : List Value).toArray = args at hts ⊢
  have hw : ∀ w ∈ wsL_law, w.before args s = true := fun w h => hts w (List.mem_cons_of_mem _ h)
  refine pg_start (fun Q hQ => ?_)
  have RET : ∀ (H : Heap) (locs : List Loc) (ls : Array Slot) (pc : Nat) (x0 : Int32) (x1 : Int32) , decode cX4_fail pc = .ok (.return_, 1) → va_P (dC, dI) vwCl (W_X4r cI cZ cII qr qr_text r_length x0 x1 r_next r_numberFrom r_text) H → va_D A (W_X4r cI cZ cII qr qr_text r_length x0 x1 r_next r_numberFrom r_text) → va_S A s.heap H locs → (some (x0, x1) : Option (Int32 × Int32)) = some (r_fault', r_faultAt') → W p l e rm_X4_fail s m args below meth c H locs 0 0 Q (F0 m pc ls []) := by
    intro H locs ls pc x0 x1 hd hP hD hS he
    subst hAe; subst hQ
    simp only [Option.some.injEq, Prod.mk.injEq] at he
    obtain ⟨rfl, rfl⟩ := he
    exact pg_vret hx hb hr hlocks hK hP hD hS hd
  unfold f_X4_fail at hf
  refine lv_aload_n hx hb dX4_fail_0 rfl (lv_at hl 0 rfl) ?_
  refine va_get (D := (dC, dI)) (ci := 4) (v := .int r_fault) (C := RX4) (T := TX4) (N := 6) hx hb hw inlX4 hown hK hP 0 rfl rfl 2 (by decide) (hw _ mw_8_13) (fun _ h9 => h9) rfl dX4_fail_1 ?_
  refine lv_if_ne (tgt := 17) hx hb dX4_fail_4 (by decide) (fun h9 => ?_) (fun h9 => ?_)
  · have hf := pg_f h9 hf
    exact RET _ _ _ _ _ _ dX4_fail_17 hP hD hS hf
  · have hf := pg_t h9 hf
    refine lv_aload_n hx hb dX4_fail_7 rfl (lv_at hl 0 rfl) ?_
    refine lv_iload_n hx hb dX4_fail_8 rfl (lv_at hl 1 rfl) ?_
    refine va_put (D := (dC, dI)) (ci := 4) (v := .int n1) (ty := .int) (C := RX4) (T := TX4) (N := 6) hx hb hw inlX4 tyX4 tyX4_ok nmX4 hown hK hP hD hS 0 rfl rfl 2 (by decide) (hw _ mw_8_13) (fun _ h9 => h9) rfl (by decide +kernel) rfl rfl (Nat.le_of_ble_eq_true rfl) dX4_fail_9 (fun H locs hP hD hS => ?_)
    have hP : va_P (dC, dI) vwCl (W_X4r cI cZ cII qr qr_text r_length n1 r_faultAt r_next r_numberFrom r_text) H := hP
    have hD : va_D A (W_X4r cI cZ cII qr qr_text r_length n1 r_faultAt r_next r_numberFrom r_text) := hD
    refine lv_aload_n hx hb dX4_fail_12 rfl (lv_at hl 0 rfl) ?_
    refine lv_iload_n hx hb dX4_fail_13 rfl (lv_at hl 2 rfl) ?_
    refine va_put (D := (dC, dI)) (ci := 4) (v := .int n2) (ty := .int) (C := RX4) (T := TX4) (N := 6) hx hb hw inlX4 tyX4 tyX4_ok nmX4 hown hK hP hD hS 0 rfl rfl 3 (by decide) (hw _ mw_3_14) (fun _ h9 => h9) rfl (by decide +kernel) rfl rfl (Nat.le_of_ble_eq_true rfl) dX4_fail_14 (fun H locs hP hD hS => ?_)
    have hP : va_P (dC, dI) vwCl (W_X4r cI cZ cII qr qr_text r_length n1 n2 r_next r_numberFrom r_text) H := hP
    have hD : va_D A (W_X4r cI cZ cII qr qr_text r_length n1 n2 r_next r_numberFrom r_text) := hD
    exact RET _ _ _ _ _ _ dX4_fail_17 hP hD hS hf
def f_X4_isTooMany (n1 : Int32) (b_places : Int32) (b_horses : Int32) (b_besides : Int32) (b_tideCount : Int32) (b_cartCount : Int32) (b_due : Int32) : Option (Int32) :=
  if n1 = (0 : Int32) then
    if b_places ≤ 0 then
      some ((0 : Int32))
    else
      some ((1 : Int32))
  else
  if n1 = (1 : Int32) then
    if b_horses < (6 : Int32) then
      some ((0 : Int32))
    else
      some ((1 : Int32))
  else
  if n1 = (2 : Int32) then
    some ((0 : Int32))
  else
  if n1 = (3 : Int32) then
    if b_besides < (12 : Int32) then
      some ((0 : Int32))
    else
      some ((1 : Int32))
  else
  if n1 = (4 : Int32) then
    if b_tideCount ≤ 0 then
      some ((0 : Int32))
    else
      some ((1 : Int32))
  else
  if n1 = (5 : Int32) then
    if b_cartCount < (4 : Int32) then
      some ((0 : Int32))
    else
      some ((1 : Int32))
  else
  if n1 = (6 : Int32) then
    if b_due = 0 then
      some ((0 : Int32))
    else
      some ((1 : Int32))
  else
  some ((0 : Int32))
abbrev rm_X4_isTooMany : Room := { frames := 0, cells := 0, slots := 0, locals := 0 }
theorem dk_X4_isTooMany : yX4_isTooMany.cls = RX4 ∧ yX4_isTooMany.cls ≠ "java/lang/invoke/MethodHandle" ∧ yX4_isTooMany.cls ≠ "java/lang/invoke/VarHandle" ∧ (parseMethodDescriptor yX4_isTooMany.desc).map (fun d => d.parameters.length) = some 2 := by decide +kernel
set_option maxHeartbeats 4000000 in
set_option maxRecDepth 100000 in
theorem c_X4_isTooMany (l : Launch) (dC : Nat → ClassId) (dI : Nat → Nat → Nat) (cI cZ cII : ClassId) (qr qr_text qb qb_pull qb_strength qb_back qb_moods qb_tides qb_carts : Nat) (sz : Nat) (r_length : Int32) (r_fault : Int32) (r_faultAt : Int32) (r_next : Int32) (r_numberFrom : Int32) (r_text : Nat → Int32) (b_law : Int32) (b_places : Int32) (b_broad : Int32) (b_horses : Int32) (b_blinds : Int32) (b_besides : Int32) (b_tideCount : Int32) (b_cartCount : Int32) (b_due : Int32) (b_pairs : Int64) (b_pull : Nat → Int32) (b_strength : Nat → Int32) (b_back : Nat → Int32) (b_moods : Nat → Int32) (b_tides : Nat → Int32) (b_carts : Nat → Int32) (n1 : Int32) (rr : Int32) (hf : f_X4_isTooMany n1 b_places b_horses b_besides b_tideCount b_cartCount b_due = some (rr)) : Met l yX4_isTooMany (wM yX4_isTooMany cX4_isTooMany 3 (some .boolean)) rm_X4_isTooMany (PreW (dC, dI) (tyA cI cZ cII) (W_X4r_X0b cI cZ cII qr qr_text qb qb_pull qb_strength qb_back qb_moods qb_tides qb_carts r_length r_fault r_faultAt r_next r_numberFrom r_text b_law b_places b_broad b_horses b_blinds b_besides b_tideCount b_cartCount b_due b_pairs b_pull b_strength b_back b_moods b_tides b_carts) sz [.ref qr, .int n1, .ref qb]) (PostI (dC, dI) (tyA cI cZ cII) rr (W_X4r_X0b cI cZ cII qr qr_text qb qb_pull qb_strength qb_back qb_moods qb_tides qb_carts r_length r_fault r_faultAt r_next r_numberFrom r_text b_law b_places b_broad b_horses b_blinds b_besides b_tideCount b_cartCount b_due b_pairs b_pull b_strength b_back b_moods b_tides b_carts) (W_X4r_X0b cI cZ cII qr qr_text qb qb_pull qb_strength qb_back qb_moods qb_tides qb_carts r_length r_fault r_faultAt r_next r_numberFrom r_text b_law b_places b_broad b_horses b_blinds b_besides b_tideCount b_cartCount b_due b_pairs b_pull b_strength b_back b_moods b_tides b_carts) sz) 0 0 (va_A (W_X4r_X0b cI cZ cII qr qr_text qb qb_pull qb_strength qb_back qb_moods qb_tides qb_carts r_length r_fault r_faultAt r_next r_numberFrom r_text b_law b_places b_broad b_horses b_blinds b_besides b_tideCount b_cartCount b_due b_pairs b_pull b_strength b_back b_moods b_tides b_carts) sz) := by
  refine Met.ofW (cc := cX4_isTooMany) (maxL := 3) (ret := (some .boolean)) (by decide) rfl ?_
  intro p e s m args below meth c s₁ B hml hv
  obtain ⟨rfl, hsz, hP, hK, hD0⟩ := hv
  have hx := B.exec
  have hb := B.bytes
  have hr := B.returns
  have hts := atoms_spec (ws := wM yX4_isTooMany cX4_isTooMany 3 (some .boolean)) B.pre
  have hown : s.vm.findClass RX4 = some m.cls := findClass_of_methodNamed B.named
  have hlocks := B.notSynchronized
  subst hsz
  have hD := hD0.self (sz := s.heap.size)
  obtain ⟨A, hAe⟩ : ∃ A, A = va_A (W_X4r_X0b cI cZ cII qr qr_text qb qb_pull qb_strength qb_back qb_moods qb_tides qb_carts r_length r_fault r_faultAt r_next r_numberFrom r_text b_law b_places b_broad b_horses b_blinds b_besides b_tideCount b_cartCount b_due b_pairs b_pull b_strength b_back b_moods b_tides b_carts) s.heap.size := ⟨_, rfl⟩
  rw [← hAe] at hD
  have hA : ∀ q : Nat, s.heap.size ≤ q → A q := fun q h => by rw [hAe]; exact Or.inr h
  have hS : va_S A s.heap s.heap [] := va_S.rf
  have hl := lv_entry ([.ref qr, .int n1, .ref qb]) (n := 3) (Nat.le_of_ble_eq_true rfl)
  rw [lg_entry_eq]
  generalize (lg_sl ([.ref qr, .int n1, .ref qb]) ++ List.replicate (3 - (lg_sl ([.ref qr, .int n1, .ref qb])).length) Slot.unset).toArray = ls at hl ⊢
  have hl : lv_has ls 3 [(0, .ref qr), (1, .int n1), (2, .ref qb)] := hl
  generalize ([.ref qr, .int n1, .ref qb] : List Value).toArray = args at hts ⊢
  have hw : ∀ w ∈ wsL_law, w.before args s = true := fun w h => hts w (List.mem_cons_of_mem _ h)
  refine pg_start (fun Q hQ => ?_)
  have RET : ∀ (H : Heap) (locs : List Loc) (ls : Array Slot) (pc : Nat) (v : Int32) , decode cX4_isTooMany pc = .ok (.ireturn, 1) → (v = 0 ∨ v = 1) → va_P (dC, dI) vwCl (W_X4r_X0b cI cZ cII qr qr_text qb qb_pull qb_strength qb_back qb_moods qb_tides qb_carts r_length r_fault r_faultAt r_next r_numberFrom r_text b_law b_places b_broad b_horses b_blinds b_besides b_tideCount b_cartCount b_due b_pairs b_pull b_strength b_back b_moods b_tides b_carts) H → va_D A (W_X4r_X0b cI cZ cII qr qr_text qb qb_pull qb_strength qb_back qb_moods qb_tides qb_carts r_length r_fault r_faultAt r_next r_numberFrom r_text b_law b_places b_broad b_horses b_blinds b_besides b_tideCount b_cartCount b_due b_pairs b_pull b_strength b_back b_moods b_tides b_carts) → va_S A s.heap H locs → (some (v) : Option (Int32)) = some (rr) → W p l e rm_X4_isTooMany s m args below meth c H locs 0 0 Q (F0 m pc ls [.int v]) := by
    intro H locs ls pc v hd hz hP hD hS he
    subst hAe; subst hQ
    obtain rfl := Option.some.inj he
    exact pg_zret hx hb hr hlocks hz hK hP hD hS hd
  unfold f_X4_isTooMany at hf
  refine lv_iload_n hx hb dX4_isTooMany_0 rfl (lv_at hl 1 rfl) ?_
  by_cases h9_0 : n1 = (0 : Int32)
  · have hf := pg_t h9_0 hf
    refine lv_tableIn (tgt := 44) hx hb dX4_isTooMany_1 (by rw [h9_0]; decide) (by rw [h9_0]; decide) (by rw [h9_0]; rfl) (by decide) ?_
    refine lv_aload_n hx hb dX4_isTooMany_44 rfl (lv_at hl 2 rfl) ?_
    refine va_get (D := (dC, dI)) (ci := 0) (v := .int b_places) (C := RX0) (T := TX0) (N := 16) hx hb hw inlX0 hown hK hP 2 rfl rfl 1 (by decide) (hw _ mw_9_14) (fun _ h9 => h9) rfl dX4_isTooMany_45 ?_
    refine lv_if_le (tgt := 55) hx hb dX4_isTooMany_48 (by decide) (fun h9 => ?_) (fun h9 => ?_)
    · have hf := pg_t h9 hf
      refine lv_iconst (v := (0 : Int32)) hx hb dX4_isTooMany_55 (by decide) ?_
      exact RET _ _ _ _ _ dX4_isTooMany_56 (by decide) hP hD hS hf
    · have hf := pg_f h9 hf
      refine lv_iconst (v := (1 : Int32)) hx hb dX4_isTooMany_51 (by decide) ?_
      refine lv_goto (tgt := 56) hx hb dX4_isTooMany_52 (by decide) ?_
      exact RET _ _ _ _ _ dX4_isTooMany_56 (by decide) hP hD hS hf
  have hf := pg_f h9_0 hf
  by_cases h9_1 : n1 = (1 : Int32)
  · have hf := pg_t h9_1 hf
    refine lv_tableIn (tgt := 57) hx hb dX4_isTooMany_1 (by rw [h9_1]; decide) (by rw [h9_1]; decide) (by rw [h9_1]; rfl) (by decide) ?_
    refine lv_aload_n hx hb dX4_isTooMany_57 rfl (lv_at hl 2 rfl) ?_
    refine va_get (D := (dC, dI)) (ci := 0) (v := .int b_horses) (C := RX0) (T := TX0) (N := 16) hx hb hw inlX0 hown hK hP 2 rfl rfl 3 (by decide) (hw _ mw_12_16) (fun _ h9 => h9) rfl dX4_isTooMany_58 ?_
    refine lv_bipush (v := (6 : Int32)) hx hb dX4_isTooMany_61 (by decide) ?_
    refine lv_icmp_lt (tgt := 70) hx hb dX4_isTooMany_63 (by decide) (fun h9 => ?_) (fun h9 => ?_)
    · have hf := pg_t h9 hf
      refine lv_iconst (v := (0 : Int32)) hx hb dX4_isTooMany_70 (by decide) ?_
      exact RET _ _ _ _ _ dX4_isTooMany_71 (by decide) hP hD hS hf
    · have hf := pg_f h9 hf
      refine lv_iconst (v := (1 : Int32)) hx hb dX4_isTooMany_66 (by decide) ?_
      refine lv_goto (tgt := 71) hx hb dX4_isTooMany_67 (by decide) ?_
      exact RET _ _ _ _ _ dX4_isTooMany_71 (by decide) hP hD hS hf
  have hf := pg_f h9_1 hf
  by_cases h9_2 : n1 = (2 : Int32)
  · have hf := pg_t h9_2 hf
    refine lv_tableIn (tgt := 127) hx hb dX4_isTooMany_1 (by rw [h9_2]; decide) (by rw [h9_2]; decide) (by rw [h9_2]; rfl) (by decide) ?_
    refine lv_iconst (v := (0 : Int32)) hx hb dX4_isTooMany_127 (by decide) ?_
    exact RET _ _ _ _ _ dX4_isTooMany_128 (by decide) hP hD hS hf
  have hf := pg_f h9_2 hf
  by_cases h9_3 : n1 = (3 : Int32)
  · have hf := pg_t h9_3 hf
    refine lv_tableIn (tgt := 72) hx hb dX4_isTooMany_1 (by rw [h9_3]; decide) (by rw [h9_3]; decide) (by rw [h9_3]; rfl) (by decide) ?_
    refine lv_aload_n hx hb dX4_isTooMany_72 rfl (lv_at hl 2 rfl) ?_
    refine va_get (D := (dC, dI)) (ci := 0) (v := .int b_besides) (C := RX0) (T := TX0) (N := 16) hx hb hw inlX0 hown hK hP 2 rfl rfl 5 (by decide) (hw _ mw_12_17) (fun _ h9 => h9) rfl dX4_isTooMany_73 ?_
    refine lv_bipush (v := (12 : Int32)) hx hb dX4_isTooMany_76 (by decide) ?_
    refine lv_icmp_lt (tgt := 85) hx hb dX4_isTooMany_78 (by decide) (fun h9 => ?_) (fun h9 => ?_)
    · have hf := pg_t h9 hf
      refine lv_iconst (v := (0 : Int32)) hx hb dX4_isTooMany_85 (by decide) ?_
      exact RET _ _ _ _ _ dX4_isTooMany_86 (by decide) hP hD hS hf
    · have hf := pg_f h9 hf
      refine lv_iconst (v := (1 : Int32)) hx hb dX4_isTooMany_81 (by decide) ?_
      refine lv_goto (tgt := 86) hx hb dX4_isTooMany_82 (by decide) ?_
      exact RET _ _ _ _ _ dX4_isTooMany_86 (by decide) hP hD hS hf
  have hf := pg_f h9_3 hf
  by_cases h9_4 : n1 = (4 : Int32)
  · have hf := pg_t h9_4 hf
    refine lv_tableIn (tgt := 87) hx hb dX4_isTooMany_1 (by rw [h9_4]; decide) (by rw [h9_4]; decide) (by rw [h9_4]; rfl) (by decide) ?_
    refine lv_aload_n hx hb dX4_isTooMany_87 rfl (lv_at hl 2 rfl) ?_
    refine va_get (D := (dC, dI)) (ci := 0) (v := .int b_tideCount) (C := RX0) (T := TX0) (N := 16) hx hb hw inlX0 hown hK hP 2 rfl rfl 6 (by decide) (hw _ mw_12_18) (fun _ h9 => h9) rfl dX4_isTooMany_88 ?_
    refine lv_if_le (tgt := 98) hx hb dX4_isTooMany_91 (by decide) (fun h9 => ?_) (fun h9 => ?_)
    · have hf := pg_t h9 hf
      refine lv_iconst (v := (0 : Int32)) hx hb dX4_isTooMany_98 (by decide) ?_
      exact RET _ _ _ _ _ dX4_isTooMany_99 (by decide) hP hD hS hf
    · have hf := pg_f h9 hf
      refine lv_iconst (v := (1 : Int32)) hx hb dX4_isTooMany_94 (by decide) ?_
      refine lv_goto (tgt := 99) hx hb dX4_isTooMany_95 (by decide) ?_
      exact RET _ _ _ _ _ dX4_isTooMany_99 (by decide) hP hD hS hf
  have hf := pg_f h9_4 hf
  by_cases h9_5 : n1 = (5 : Int32)
  · have hf := pg_t h9_5 hf
    refine lv_tableIn (tgt := 100) hx hb dX4_isTooMany_1 (by rw [h9_5]; decide) (by rw [h9_5]; decide) (by rw [h9_5]; rfl) (by decide) ?_
    refine lv_aload_n hx hb dX4_isTooMany_100 rfl (lv_at hl 2 rfl) ?_
    refine va_get (D := (dC, dI)) (ci := 0) (v := .int b_cartCount) (C := RX0) (T := TX0) (N := 16) hx hb hw inlX0 hown hK hP 2 rfl rfl 7 (by decide) (hw _ mw_12_19) (fun _ h9 => h9) rfl dX4_isTooMany_101 ?_
    refine lv_iconst (v := (4 : Int32)) hx hb dX4_isTooMany_104 (by decide) ?_
    refine lv_icmp_lt (tgt := 112) hx hb dX4_isTooMany_105 (by decide) (fun h9 => ?_) (fun h9 => ?_)
    · have hf := pg_t h9 hf
      refine lv_iconst (v := (0 : Int32)) hx hb dX4_isTooMany_112 (by decide) ?_
      exact RET _ _ _ _ _ dX4_isTooMany_113 (by decide) hP hD hS hf
    · have hf := pg_f h9 hf
      refine lv_iconst (v := (1 : Int32)) hx hb dX4_isTooMany_108 (by decide) ?_
      refine lv_goto (tgt := 113) hx hb dX4_isTooMany_109 (by decide) ?_
      exact RET _ _ _ _ _ dX4_isTooMany_113 (by decide) hP hD hS hf
  have hf := pg_f h9_5 hf
  by_cases h9_6 : n1 = (6 : Int32)
  · have hf := pg_t h9_6 hf
    refine lv_tableIn (tgt := 114) hx hb dX4_isTooMany_1 (by rw [h9_6]; decide) (by rw [h9_6]; decide) (by rw [h9_6]; rfl) (by decide) ?_
    refine lv_aload_n hx hb dX4_isTooMany_114 rfl (lv_at hl 2 rfl) ?_
    refine va_get (D := (dC, dI)) (ci := 0) (v := .int b_due) (C := RX0) (T := TX0) (N := 16) hx hb hw inlX0 hown hK hP 2 rfl rfl 8 (by decide) (hw _ mw_12_20) (fun _ h9 => h9) rfl dX4_isTooMany_115 ?_
    refine lv_if_eq (tgt := 125) hx hb dX4_isTooMany_118 (by decide) (fun h9 => ?_) (fun h9 => ?_)
    · have hf := pg_t h9 hf
      refine lv_iconst (v := (0 : Int32)) hx hb dX4_isTooMany_125 (by decide) ?_
      exact RET _ _ _ _ _ dX4_isTooMany_126 (by decide) hP hD hS hf
    · have hf := pg_f h9 hf
      refine lv_iconst (v := (1 : Int32)) hx hb dX4_isTooMany_121 (by decide) ?_
      refine lv_goto (tgt := 126) hx hb dX4_isTooMany_122 (by decide) ?_
      exact RET _ _ _ _ _ dX4_isTooMany_126 (by decide) hP hD hS hf
  have hf := pg_f h9_6 hf
  refine lv_tableOut (tgt := 127) hx hb dX4_isTooMany_1 (pg_sw 6 (by decide) (fun k hk => match k, hk with | 0, _ => h9_0 | 1, _ => h9_1 | 2, _ => h9_2 | 3, _ => h9_3 | 4, _ => h9_4 | 5, _ => h9_5 | 6, _ => h9_6 | k + 7, hk => absurd hk (by omega))) (by decide) ?_
  refine lv_iconst (v := (0 : Int32)) hx hb dX4_isTooMany_127 (by decide) ?_
  exact RET _ _ _ _ _ dX4_isTooMany_128 (by decide) hP hD hS hf
def f_X4_isFigure (n1 : Int32) (r_length : Int32) (r_text : Nat → Int32) : Option (Int32) :=
  if n1 < 0 then
    some ((0 : Int32))
  else
    if r_length ≤ n1 then
      some ((0 : Int32))
    else
      if (500 : Int32) ≤ n1 then
        some ((0 : Int32))
      else
        if n1 < 0 ∨ 500 ≤ (n1).toNatClampNeg then none else
        if (r_text (n1).toNatClampNeg) < (48 : Int32) then
          some ((0 : Int32))
        else
          if (57 : Int32) < (r_text (n1).toNatClampNeg) then
            some ((0 : Int32))
          else
            some ((1 : Int32))
abbrev rm_X4_isFigure : Room := { frames := 0, cells := 0, slots := 0, locals := 0 }
theorem dk_X4_isFigure : yX4_isFigure.cls = RX4 ∧ yX4_isFigure.cls ≠ "java/lang/invoke/MethodHandle" ∧ yX4_isFigure.cls ≠ "java/lang/invoke/VarHandle" ∧ (parseMethodDescriptor yX4_isFigure.desc).map (fun d => d.parameters.length) = some 1 := by decide +kernel
set_option maxHeartbeats 4000000 in
set_option maxRecDepth 100000 in
theorem c_X4_isFigure (l : Launch) (dC : Nat → ClassId) (dI : Nat → Nat → Nat) (cI cZ cII : ClassId) (qr qr_text : Nat) (sz : Nat) (r_length : Int32) (r_fault : Int32) (r_faultAt : Int32) (r_next : Int32) (r_numberFrom : Int32) (r_text : Nat → Int32) (n1 : Int32) (rr : Int32) (hf : f_X4_isFigure n1 r_length r_text = some (rr)) : Met l yX4_isFigure (wM yX4_isFigure cX4_isFigure 2 (some .boolean)) rm_X4_isFigure (PreW (dC, dI) (tyA cI cZ cII) (W_X4r cI cZ cII qr qr_text r_length r_fault r_faultAt r_next r_numberFrom r_text) sz [.ref qr, .int n1]) (PostI (dC, dI) (tyA cI cZ cII) rr (W_X4r cI cZ cII qr qr_text r_length r_fault r_faultAt r_next r_numberFrom r_text) (W_X4r cI cZ cII qr qr_text r_length r_fault r_faultAt r_next r_numberFrom r_text) sz) 0 0 (va_A (W_X4r cI cZ cII qr qr_text r_length r_fault r_faultAt r_next r_numberFrom r_text) sz) := by
  refine Met.ofW (cc := cX4_isFigure) (maxL := 2) (ret := (some .boolean)) (by decide) rfl ?_
  intro p e s m args below meth c s₁ B hml hv
  obtain ⟨rfl, hsz, hP, hK, hD0⟩ := hv
  have hx := B.exec
  have hb := B.bytes
  have hr := B.returns
  have hts := atoms_spec (ws := wM yX4_isFigure cX4_isFigure 2 (some .boolean)) B.pre
  have hown : s.vm.findClass RX4 = some m.cls := findClass_of_methodNamed B.named
  have hlocks := B.notSynchronized
  subst hsz
  have hD := hD0.self (sz := s.heap.size)
  obtain ⟨A, hAe⟩ : ∃ A, A = va_A (W_X4r cI cZ cII qr qr_text r_length r_fault r_faultAt r_next r_numberFrom r_text) s.heap.size := ⟨_, rfl⟩
  rw [← hAe] at hD
  have hA : ∀ q : Nat, s.heap.size ≤ q → A q := fun q h => by rw [hAe]; exact Or.inr h
  have hS : va_S A s.heap s.heap [] := va_S.rf
  have hl := lv_entry ([.ref qr, .int n1]) (n := 2) (Nat.le_of_ble_eq_true rfl)
  rw [lg_entry_eq]
  generalize (lg_sl ([.ref qr, .int n1]) ++ List.replicate (2 - (lg_sl ([.ref qr, .int n1])).length) Slot.unset).toArray = ls at hl ⊢
  have hl : lv_has ls 2 [(0, .ref qr), (1, .int n1)] := hl
  generalize ([.ref qr, .int n1] : List Value).toArray = args at hts ⊢
  have hw : ∀ w ∈ wsL_law, w.before args s = true := fun w h => hts w (List.mem_cons_of_mem _ h)
  refine pg_start (fun Q hQ => ?_)
  have RET : ∀ (H : Heap) (locs : List Loc) (ls : Array Slot) (pc : Nat) (v : Int32) , decode cX4_isFigure pc = .ok (.ireturn, 1) → (v = 0 ∨ v = 1) → va_P (dC, dI) vwCl (W_X4r cI cZ cII qr qr_text r_length r_fault r_faultAt r_next r_numberFrom r_text) H → va_D A (W_X4r cI cZ cII qr qr_text r_length r_fault r_faultAt r_next r_numberFrom r_text) → va_S A s.heap H locs → (some (v) : Option (Int32)) = some (rr) → W p l e rm_X4_isFigure s m args below meth c H locs 0 0 Q (F0 m pc ls [.int v]) := by
    intro H locs ls pc v hd hz hP hD hS he
    subst hAe; subst hQ
    obtain rfl := Option.some.inj he
    exact pg_zret hx hb hr hlocks hz hK hP hD hS hd
  unfold f_X4_isFigure at hf
  refine lv_iload_n hx hb dX4_isFigure_0 rfl (lv_at hl 1 rfl) ?_
  refine lv_if_lt (tgt := 45) hx hb dX4_isFigure_1 (by decide) (fun h9 => ?_) (fun h9 => ?_)
  · have hf := pg_t h9 hf
    refine lv_iconst (v := (0 : Int32)) hx hb dX4_isFigure_45 (by decide) ?_
    exact RET _ _ _ _ _ dX4_isFigure_46 (by decide) hP hD hS hf
  · have hf := pg_f h9 hf
    refine lv_iload_n hx hb dX4_isFigure_4 rfl (lv_at hl 1 rfl) ?_
    refine lv_aload_n hx hb dX4_isFigure_5 rfl (lv_at hl 0 rfl) ?_
    refine va_get (D := (dC, dI)) (ci := 4) (v := .int r_length) (C := RX4) (T := TX4) (N := 6) hx hb hw inlX4 hown hK hP 0 rfl rfl 1 (by decide) (hw _ mw_7_14) (fun _ h9 => h9) rfl dX4_isFigure_6 ?_
    refine lv_icmp_ge (tgt := 45) hx hb dX4_isFigure_9 (by decide) (fun h9 => ?_) (fun h9 => ?_)
    · have hf := pg_t h9 hf
      refine lv_iconst (v := (0 : Int32)) hx hb dX4_isFigure_45 (by decide) ?_
      exact RET _ _ _ _ _ dX4_isFigure_46 (by decide) hP hD hS hf
    · have hf := pg_f h9 hf
      refine lv_iload_n hx hb dX4_isFigure_12 rfl (lv_at hl 1 rfl) ?_
      refine lv_sipush (v := (500 : Int32)) hx hb dX4_isFigure_13 (by decide) ?_
      refine lv_icmp_ge (tgt := 45) hx hb dX4_isFigure_16 (by decide) (fun h9 => ?_) (fun h9 => ?_)
      · have hf := pg_t h9 hf
        refine lv_iconst (v := (0 : Int32)) hx hb dX4_isFigure_45 (by decide) ?_
        exact RET _ _ _ _ _ dX4_isFigure_46 (by decide) hP hD hS hf
      · have hf := pg_f h9 hf
        refine lv_aload_n hx hb dX4_isFigure_19 rfl (lv_at hl 0 rfl) ?_
        refine va_get (D := (dC, dI)) (ci := 4) (v := .ref qr_text) (C := RX4) (T := TX4) (N := 6) hx hb hw inlX4 hown hK hP 0 rfl rfl 0 (by decide) (hw _ mw_3_13) (fun _ h9 => h9) rfl dX4_isFigure_20 ?_
        refine lv_iload_n hx hb dX4_isFigure_23 rfl (lv_at hl 1 rfl) ?_
        obtain ⟨hi1, hf⟩ := pg_chk hf
        refine va_iald hx hb hK hP 1 0 rfl rfl hi1 dX4_isFigure_24 ?_
        refine lv_bipush (v := (48 : Int32)) hx hb dX4_isFigure_25 (by decide) ?_
        refine lv_icmp_lt (tgt := 45) hx hb dX4_isFigure_27 (by decide) (fun h9 => ?_) (fun h9 => ?_)
        · have hf := pg_t h9 hf
          refine lv_iconst (v := (0 : Int32)) hx hb dX4_isFigure_45 (by decide) ?_
          exact RET _ _ _ _ _ dX4_isFigure_46 (by decide) hP hD hS hf
        · have hf := pg_f h9 hf
          refine lv_aload_n hx hb dX4_isFigure_30 rfl (lv_at hl 0 rfl) ?_
          refine va_get (D := (dC, dI)) (ci := 4) (v := .ref qr_text) (C := RX4) (T := TX4) (N := 6) hx hb hw inlX4 hown hK hP 0 rfl rfl 0 (by decide) (hw _ mw_3_13) (fun _ h9 => h9) rfl dX4_isFigure_31 ?_
          refine lv_iload_n hx hb dX4_isFigure_34 rfl (lv_at hl 1 rfl) ?_
          refine va_iald hx hb hK hP 1 0 rfl rfl hi1 dX4_isFigure_35 ?_
          refine lv_bipush (v := (57 : Int32)) hx hb dX4_isFigure_36 (by decide) ?_
          refine lv_icmp_gt (tgt := 45) hx hb dX4_isFigure_38 (by decide) (fun h9 => ?_) (fun h9 => ?_)
          · have hf := pg_t h9 hf
            refine lv_iconst (v := (0 : Int32)) hx hb dX4_isFigure_45 (by decide) ?_
            exact RET _ _ _ _ _ dX4_isFigure_46 (by decide) hP hD hS hf
          · have hf := pg_f h9 hf
            refine lv_iconst (v := (1 : Int32)) hx hb dX4_isFigure_41 (by decide) ?_
            refine lv_goto (tgt := 46) hx hb dX4_isFigure_42 (by decide) ?_
            exact RET _ _ _ _ _ dX4_isFigure_46 (by decide) hP hD hS hf
def f_X4_readNumber (n1 : Int32) (n2 : Int32) (r_length : Int32) (r_fault : Int32) (r_faultAt : Int32) (r_next : Int32) (r_numberFrom : Int32) (r_text : Nat → Int32) : Option (Int32 × Int32 × Int32 × Int32 × Int32) :=
  bn1 (f_X4_skipBlanks r_length r_next r_text) (fun (r_next_1 : Int32) =>
    bn1 (f_X4_isFigure r_next_1 r_length r_text) (fun (r_2 : Int32) =>
      jn2 (fun (r_fault_3 : Int32) (r_faultAt_3 : Int32) =>
        if r_fault_3 = 0 then
          jn2 (fun (y3_4 : Int32) (r_next_4 : Int32) =>
            jn1 (fun (u_5 : Unit) =>
              bn2 (f_X4_fail (2 : Int32) r_next_1 r_fault_3 r_faultAt_3) (fun (r_fault_6 : Int32) (r_faultAt_6 : Int32) =>
                some ((-1 : Int32), r_fault_6, r_faultAt_6, r_next_4, r_next_1)
              )
            ) (fun J120_5 =>
            if (3 : Int32) < (r_next_4 - r_next_1) then
              J120_5 ()
            else
              if y3_4 < n1 then
                J120_5 ()
              else
                if y3_4 ≤ n2 then
                  some (y3_4, r_fault_3, r_faultAt_3, r_next_4, r_next_1)
                else
                  J120_5 ()
            )
          ) (fun K97_4 =>
          lq3 (fun rec7 (y3_7 : Int32) (y4_7 : Int32) (r_next_7 : Int32) =>
            if r_length ≤ y4_7 then
              K97_4 y3_7 r_next_7
            else
              bn1 (f_X4_isFigure y4_7 r_length r_text) (fun (r_8 : Int32) =>
                if r_8 = 0 then
                  K97_4 y3_7 r_next_7
                else
                  if y4_7 < 0 ∨ 500 ≤ (y4_7).toNatClampNeg then none else
                  rec7 (((y3_7 * (10 : Int32)) + (r_text (y4_7).toNatClampNeg)) - (48 : Int32)) (y4_7 + (1 : Int32)) (y4_7 + (1 : Int32))
              )
          ) fu (0 : Int32) r_next_1 r_next_1
          )
        else
          some ((-1 : Int32), r_fault_3, r_faultAt_3, r_next_1, r_numberFrom)
      ) (fun J24_3 =>
      if r_2 = 0 then
        bn2 (f_X4_fail (1 : Int32) r_next_1 r_fault r_faultAt) (fun (r_fault_10 : Int32) (r_faultAt_10 : Int32) =>
          J24_3 r_fault_10 r_faultAt_10
        )
      else
        J24_3 r_fault r_faultAt
      )
    )
  )
abbrev rm_X4_readNumber : Room := { frames := 1, cells := 0, slots := 0, locals := 22 }
theorem dk_X4_readNumber : yX4_readNumber.cls = RX4 ∧ yX4_readNumber.cls ≠ "java/lang/invoke/MethodHandle" ∧ yX4_readNumber.cls ≠ "java/lang/invoke/VarHandle" ∧ (parseMethodDescriptor yX4_readNumber.desc).map (fun d => d.parameters.length) = some 2 := by decide +kernel
set_option maxHeartbeats 4000000 in
set_option maxRecDepth 100000 in
theorem c_X4_readNumber (l : Launch) (dC : Nat → ClassId) (dI : Nat → Nat → Nat) (cI cZ cII : ClassId) (qr qr_text : Nat) (sz : Nat) (r_length : Int32) (r_fault : Int32) (r_faultAt : Int32) (r_next : Int32) (r_numberFrom : Int32) (r_text : Nat → Int32) (n1 : Int32) (n2 : Int32) (rr : Int32) (r_fault' : Int32) (r_faultAt' : Int32) (r_next' : Int32) (r_numberFrom' : Int32) (hf : f_X4_readNumber n1 n2 r_length r_fault r_faultAt r_next r_numberFrom r_text = some (rr, r_fault', r_faultAt', r_next', r_numberFrom')) : Met l yX4_readNumber (wM yX4_readNumber cX4_readNumber 5 (some .int)) rm_X4_readNumber (PreW (dC, dI) (tyA cI cZ cII) (W_X4r cI cZ cII qr qr_text r_length r_fault r_faultAt r_next r_numberFrom r_text) sz [.ref qr, .int n1, .int n2]) (PostI (dC, dI) (tyA cI cZ cII) rr (W_X4r cI cZ cII qr qr_text r_length r_fault r_faultAt r_next r_numberFrom r_text) (W_X4r cI cZ cII qr qr_text r_length r_fault' r_faultAt' r_next' r_numberFrom' r_text) sz) 0 0 (va_A (W_X4r cI cZ cII qr qr_text r_length r_fault r_faultAt r_next r_numberFrom r_text) sz) := by
  refine Met.ofW (cc := cX4_readNumber) (maxL := 5) (ret := (some .int)) (by decide) rfl ?_
  intro p e s m args below meth c s₁ B hml hv
  obtain ⟨rfl, hsz, hP, hK, hD0⟩ := hv
  have hx := B.exec
  have hb := B.bytes
  have hr := B.returns
  have hts := atoms_spec (ws := wM yX4_readNumber cX4_readNumber 5 (some .int)) B.pre
  have hown : s.vm.findClass RX4 = some m.cls := findClass_of_methodNamed B.named
  have hlocks := B.notSynchronized
  subst hsz
  have hD := hD0.self (sz := s.heap.size)
  obtain ⟨A, hAe⟩ : ∃ A, A = va_A (W_X4r cI cZ cII qr qr_text r_length r_fault r_faultAt r_next r_numberFrom r_text) s.heap.size := ⟨_, rfl⟩
  rw [← hAe] at hD
  have hA : ∀ q : Nat, s.heap.size ≤ q → A q := fun q h => by rw [hAe]; exact Or.inr h
  have hS : va_S A s.heap s.heap [] := va_S.rf
  have hl := lv_entry ([.ref qr, .int n1, .int n2]) (n := 5) (Nat.le_of_ble_eq_true rfl)
  rw [lg_entry_eq]
  generalize (lg_sl ([.ref qr, .int n1, .int n2]) ++ List.replicate (5 - (lg_sl ([.ref qr, .int n1, .int n2])).length) Slot.unset).toArray = ls at hl ⊢
  have hl : lv_has ls 5 [(0, .ref qr), (1, .int n1), (2, .int n2)] := hl
  generalize ([.ref qr, .int n1, .int n2] : List Value).toArray = args at hts ⊢
  have hw : ∀ w ∈ wsL_law, w.before args s = true := fun w h => hts w (List.mem_cons_of_mem _ h)
  refine pg_start (fun Q hQ => ?_)
  have RET : ∀ (H : Heap) (locs : List Loc) (ls : Array Slot) (pc : Nat) (v : Int32) (x0 : Int32) (x1 : Int32) (x2 : Int32) (x3 : Int32) , decode cX4_readNumber pc = .ok (.ireturn, 1) → va_P (dC, dI) vwCl (W_X4r cI cZ cII qr qr_text r_length x0 x1 x2 x3 r_text) H → va_D A (W_X4r cI cZ cII qr qr_text r_length x0 x1 x2 x3 r_text) → va_S A s.heap H locs → (some (v, x0, x1, x2, x3) : Option (Int32 × Int32 × Int32 × Int32 × Int32)) = some (rr, r_fault', r_faultAt', r_next', r_numberFrom') → W p l e rm_X4_readNumber s m args below meth c H locs 0 0 Q (F0 m pc ls [.int v]) := by
    intro H locs ls pc v x0 x1 x2 x3 hd hP hD hS he
    subst hAe; subst hQ
    simp only [Option.some.injEq, Prod.mk.injEq] at he
    obtain ⟨rfl, rfl, rfl, rfl, rfl⟩ := he
    exact pg_iret hx hb hr hlocks hK hP hD hS hd
  unfold f_X4_readNumber at hf
  refine lv_aload_n hx hb dX4_readNumber_0 rfl (lv_at hl 0 rfl) ?_
  obtain ⟨r_next_1, hc, hf⟩ := bn1_s hf
  refine pg_cVv (As := []) (rest := []) (wf := (W_X4r cI cZ cII qr qr_text r_length r_fault r_faultAt r_next_1 r_numberFrom r_text)) ⟨hx, hb, hml, hown, hw⟩ (c_X4_skipBlanks l dC dI cI cZ cII qr qr_text s.heap.size r_length r_fault r_faultAt r_next r_numberFrom r_text  r_next_1 hc) (cwV 0 hts (wM_V mw_9_6 mw_9_7 mw_9_8 mw_1_20 mw_9_9) rfl rfl rfl dk_X4_skipBlanks ⟨Nat.le_of_ble_eq_true rfl, Nat.le_of_ble_eq_true rfl⟩) hK hP hD hS hA 4 0 rfl rfl rfl [0, 1] [] [0, 1] (plC_9 cI cZ cII qr qr_text r_length r_fault r_faultAt r_next r_numberFrom r_text) rfl (plF_9 cI cZ cII qr qr_text r_length r_fault r_faultAt r_next r_numberFrom r_text r_length r_fault r_faultAt r_next_1 r_numberFrom r_text) (by decide) rfl hl.1 rfl (Nat.le_of_ble_eq_true rfl) dX4_readNumber_1 ⟨Nat.zero_le _, Nat.zero_le _⟩ (fun H locs hP hD hS => ?_)
  refine lv_aload_n hx hb dX4_readNumber_4 rfl (lv_at hl 0 rfl) ?_
  refine lv_aload_n hx hb dX4_readNumber_5 rfl (lv_at hl 0 rfl) ?_
  refine va_get (D := (dC, dI)) (ci := 4) (v := .int r_next_1) (C := RX4) (T := TX4) (N := 6) hx hb hw inlX4 hown hK hP 0 rfl rfl 4 (by decide) (hw _ mw_8_14) (fun _ h9 => h9) rfl dX4_readNumber_6 ?_
  obtain ⟨r_2, hc, hf⟩ := bn1_s hf
  refine pg_cVi (As := [.int r_next_1]) (rest := []) (wf := (W_X4r cI cZ cII qr qr_text r_length r_fault r_faultAt r_next_1 r_numberFrom r_text)) ⟨hx, hb, hml, hown, hw⟩ (c_X4_isFigure l dC dI cI cZ cII qr qr_text H.size r_length r_fault r_faultAt r_next_1 r_numberFrom r_text r_next_1 r_2 hc) (cwV 1 hts (wM_V mw_13_16 mw_13_17 mw_13_18 mw_1_20 mw_13_19) rfl rfl rfl dk_X4_isFigure ⟨Nat.le_of_ble_eq_true rfl, Nat.le_of_ble_eq_true rfl⟩) hK hP hD hS hA 4 0 rfl rfl rfl [0, 1] [] [0, 1] (plC_9 cI cZ cII qr qr_text r_length r_fault r_faultAt r_next_1 r_numberFrom r_text) rfl (plF_9 cI cZ cII qr qr_text r_length r_fault r_faultAt r_next_1 r_numberFrom r_text r_length r_fault r_faultAt r_next_1 r_numberFrom r_text) (by decide) rfl hl.1 rfl (Nat.le_of_ble_eq_true rfl) dX4_readNumber_9 ⟨Nat.zero_le _, Nat.zero_le _⟩ (fun H locs hP hD hS => ?_)
  obtain ⟨J24_3, hJ24_3, hf⟩ := jn2_s hf
  have WJ24_3 : ∀ (r_fault_3 : Int32) (r_faultAt_3 : Int32) (H : Heap) (locs : List Loc) (ls : Array Slot), va_P (dC, dI) vwCl (W_X4r cI cZ cII qr qr_text r_length r_fault_3 r_faultAt_3 r_next_1 r_numberFrom r_text) H → va_D A (W_X4r cI cZ cII qr qr_text r_length r_fault_3 r_faultAt_3 r_next_1 r_numberFrom r_text) → va_S A s.heap H locs → lv_has ls 5 [(0, .ref qr), (1, .int n1), (2, .int n2)] → J24_3 r_fault_3 r_faultAt_3 = some (rr, r_fault', r_faultAt', r_next', r_numberFrom') → W p l e rm_X4_readNumber s m args below meth c H locs 0 0 Q (F0 m 24 ls []) := by
    intro r_fault_3 r_faultAt_3 H locs ls hP hD hS hl hf
    have hf := hJ24_3 _ _ hf
    refine lv_aload_n hx hb dX4_readNumber_24 rfl (lv_at hl 0 rfl) ?_
    refine va_get (D := (dC, dI)) (ci := 4) (v := .int r_fault_3) (C := RX4) (T := TX4) (N := 6) hx hb hw inlX4 hown hK hP 0 rfl rfl 2 (by decide) (hw _ mw_8_13) (fun _ h9 => h9) rfl dX4_readNumber_25 ?_
    refine lv_if_eq (tgt := 33) hx hb dX4_readNumber_28 (by decide) (fun h9 => ?_) (fun h9 => ?_)
    · have hf := pg_t h9 hf
      refine lv_aload_n hx hb dX4_readNumber_33 rfl (lv_at hl 0 rfl) ?_
      refine lv_aload_n hx hb dX4_readNumber_34 rfl (lv_at hl 0 rfl) ?_
      refine va_get (D := (dC, dI)) (ci := 4) (v := .int r_next_1) (C := RX4) (T := TX4) (N := 6) hx hb hw inlX4 hown hK hP 0 rfl rfl 4 (by decide) (hw _ mw_8_14) (fun _ h9 => h9) rfl dX4_readNumber_35 ?_
      refine va_put (D := (dC, dI)) (ci := 4) (v := .int r_next_1) (ty := .int) (C := RX4) (T := TX4) (N := 6) hx hb hw inlX4 tyX4 tyX4_ok nmX4 hown hK hP hD hS 0 rfl rfl 5 (by decide) (hw _ mw_13_15) (fun _ h9 => h9) rfl (by decide +kernel) rfl rfl (Nat.le_of_ble_eq_true rfl) dX4_readNumber_38 (fun H locs hP hD hS => ?_)
      have hP : va_P (dC, dI) vwCl (W_X4r cI cZ cII qr qr_text r_length r_fault_3 r_faultAt_3 r_next_1 r_next_1 r_text) H := hP
      have hD : va_D A (W_X4r cI cZ cII qr qr_text r_length r_fault_3 r_faultAt_3 r_next_1 r_next_1 r_text) := hD
      refine lv_iconst (v := (0 : Int32)) hx hb dX4_readNumber_41 (by decide) ?_
      refine lv_istore_n (lv' := [(3, .int (0 : Int32)), (0, .ref qr), (1, .int n1), (2, .int n2)]) hx hb dX4_readNumber_42 rfl hl (by decide) rfl (fun ls hl => ?_)
      refine lv_aload_n hx hb dX4_readNumber_43 rfl (lv_at hl 1 rfl) ?_
      refine va_get (D := (dC, dI)) (ci := 4) (v := .int r_next_1) (C := RX4) (T := TX4) (N := 6) hx hb hw inlX4 hown hK hP 0 rfl rfl 5 (by decide) (hw _ mw_13_15) (fun _ h9 => h9) rfl dX4_readNumber_44 ?_
      refine lv_istore (lv' := [(4, .int r_next_1), (3, .int (0 : Int32)), (0, .ref qr), (1, .int n1), (2, .int n2)]) hx hb dX4_readNumber_47 hl (by decide) rfl (fun ls hl => ?_)
      obtain ⟨K97_4, hK97_4, hf⟩ := jn2_s hf
      have WK97_4 : ∀ (y3_4 : Int32) (r_next_4 : Int32) (H : Heap) (locs : List Loc) (ls : Array Slot), va_P (dC, dI) vwCl (W_X4r cI cZ cII qr qr_text r_length r_fault_3 r_faultAt_3 r_next_4 r_next_1 r_text) H → va_D A (W_X4r cI cZ cII qr qr_text r_length r_fault_3 r_faultAt_3 r_next_4 r_next_1 r_text) → va_S A s.heap H locs → lv_has ls 5 [(0, .ref qr), (1, .int n1), (2, .int n2), (3, .int y3_4)] → K97_4 y3_4 r_next_4 = some (rr, r_fault', r_faultAt', r_next', r_numberFrom') → W p l e rm_X4_readNumber s m args below meth c H locs 0 0 Q (F0 m 97 ls []) := by
        intro y3_4 r_next_4 H locs ls hP hD hS hl hf
        have hf := hK97_4 _ _ hf
        refine lv_aload_n hx hb dX4_readNumber_97 rfl (lv_at hl 0 rfl) ?_
        refine va_get (D := (dC, dI)) (ci := 4) (v := .int r_next_4) (C := RX4) (T := TX4) (N := 6) hx hb hw inlX4 hown hK hP 0 rfl rfl 4 (by decide) (hw _ mw_8_14) (fun _ h9 => h9) rfl dX4_readNumber_98 ?_
        refine lv_aload_n hx hb dX4_readNumber_101 rfl (lv_at hl 0 rfl) ?_
        refine va_get (D := (dC, dI)) (ci := 4) (v := .int r_next_1) (C := RX4) (T := TX4) (N := 6) hx hb hw inlX4 hown hK hP 0 rfl rfl 5 (by decide) (hw _ mw_13_15) (fun _ h9 => h9) rfl dX4_readNumber_102 ?_
        refine lv_isub hx hb dX4_readNumber_105 ?_
        refine lv_iconst (v := (3 : Int32)) hx hb dX4_readNumber_106 (by decide) ?_
        obtain ⟨J120_5, hJ120_5, hf⟩ := jn1_s hf
        have WJ120_5 : ∀ (u_5 : Unit) (H : Heap) (locs : List Loc) (ls : Array Slot), va_P (dC, dI) vwCl (W_X4r cI cZ cII qr qr_text r_length r_fault_3 r_faultAt_3 r_next_4 r_next_1 r_text) H → va_D A (W_X4r cI cZ cII qr qr_text r_length r_fault_3 r_faultAt_3 r_next_4 r_next_1 r_text) → va_S A s.heap H locs → lv_has ls 5 [(0, .ref qr)] → J120_5 u_5 = some (rr, r_fault', r_faultAt', r_next', r_numberFrom') → W p l e rm_X4_readNumber s m args below meth c H locs 0 0 Q (F0 m 120 ls []) := by
          intro u_5 H locs ls hP hD hS hl hf
          have hf := hJ120_5 _ hf
          refine lv_aload_n hx hb dX4_readNumber_120 rfl (lv_at hl 0 rfl) ?_
          refine lv_iconst (v := (2 : Int32)) hx hb dX4_readNumber_121 (by decide) ?_
          refine lv_aload_n hx hb dX4_readNumber_122 rfl (lv_at hl 0 rfl) ?_
          refine va_get (D := (dC, dI)) (ci := 4) (v := .int r_next_1) (C := RX4) (T := TX4) (N := 6) hx hb hw inlX4 hown hK hP 0 rfl rfl 5 (by decide) (hw _ mw_13_15) (fun _ h9 => h9) rfl dX4_readNumber_123 ?_
          obtain ⟨r_fault_6, r_faultAt_6, hc, hf⟩ := bn2_s hf
          refine pg_cVv (As := [.int (2 : Int32), .int r_next_1]) (rest := []) (wf := (W_X4r cI cZ cII qr qr_text r_length r_fault_6 r_faultAt_6 r_next_4 r_next_1 r_text)) ⟨hx, hb, hml, hown, hw⟩ (c_X4_fail l dC dI cI cZ cII qr qr_text H.size r_length r_fault_3 r_faultAt_3 r_next_4 r_next_1 r_text (2 : Int32) r_next_1 r_fault_6 r_faultAt_6 hc) (cwV 2 hts (wM_V mw_12_8 mw_12_9 mw_12_10 mw_1_20 mw_12_11) rfl rfl rfl dk_X4_fail ⟨Nat.le_of_ble_eq_true rfl, Nat.le_of_ble_eq_true rfl⟩) hK hP hD hS hA 4 0 rfl rfl rfl [0, 1] [] [0, 1] (plC_9 cI cZ cII qr qr_text r_length r_fault_3 r_faultAt_3 r_next_4 r_next_1 r_text) rfl (plF_9 cI cZ cII qr qr_text r_length r_fault_3 r_faultAt_3 r_next_4 r_next_1 r_text r_length r_fault_6 r_faultAt_6 r_next_4 r_next_1 r_text) (by decide) rfl hl.1 rfl (Nat.le_of_ble_eq_true rfl) dX4_readNumber_126 ⟨Nat.zero_le _, Nat.zero_le _⟩ (fun H locs hP hD hS => ?_)
          refine lv_iconst (v := (-1 : Int32)) hx hb dX4_readNumber_129 (by decide) ?_
          exact RET _ _ _ _ _ _ _ _ _ dX4_readNumber_130 hP hD hS hf
        refine lv_icmp_gt (tgt := 120) hx hb dX4_readNumber_107 (by decide) (fun h9 => ?_) (fun h9 => ?_)
        · have hf := pg_t h9 hf
          exact WJ120_5 _ _ _ _ hP hD hS (lv_sub hl [0] rfl) hf
        · have hf := pg_f h9 hf
          refine lv_iload_n hx hb dX4_readNumber_110 rfl (lv_at hl 3 rfl) ?_
          refine lv_iload_n hx hb dX4_readNumber_111 rfl (lv_at hl 1 rfl) ?_
          refine lv_icmp_lt (tgt := 120) hx hb dX4_readNumber_112 (by decide) (fun h9 => ?_) (fun h9 => ?_)
          · have hf := pg_t h9 hf
            exact WJ120_5 _ _ _ _ hP hD hS (lv_sub hl [0] rfl) hf
          · have hf := pg_f h9 hf
            refine lv_iload_n hx hb dX4_readNumber_115 rfl (lv_at hl 3 rfl) ?_
            refine lv_iload_n hx hb dX4_readNumber_116 rfl (lv_at hl 2 rfl) ?_
            refine lv_icmp_le (tgt := 131) hx hb dX4_readNumber_117 (by decide) (fun h9 => ?_) (fun h9 => ?_)
            · have hf := pg_t h9 hf
              refine lv_iload_n hx hb dX4_readNumber_131 rfl (lv_at hl 3 rfl) ?_
              exact RET _ _ _ _ _ _ _ _ _ dX4_readNumber_132 hP hD hS hf
            · have hf := pg_f h9 hf
              exact WJ120_5 _ _ _ _ hP hD hS (lv_sub hl [0] rfl) hf
      obtain ⟨B7, hB7, hf⟩ := lq3_n hf
      have WL7 : ∀ (n9 : Nat) (y3_7 : Int32) (y4_7 : Int32) (r_next_7 : Int32) (H : Heap) (locs : List Loc) (ls : Array Slot), va_P (dC, dI) vwCl (W_X4r cI cZ cII qr qr_text r_length r_fault_3 r_faultAt_3 r_next_7 r_next_1 r_text) H → va_D A (W_X4r cI cZ cII qr qr_text r_length r_fault_3 r_faultAt_3 r_next_7 r_next_1 r_text) → va_S A s.heap H locs → lv_has ls 5 [(0, .ref qr), (1, .int n1), (2, .int n2), (3, .int y3_7), (4, .int y4_7)] → lq3 B7 n9 y3_7 y4_7 r_next_7 = some (rr, r_fault', r_faultAt', r_next', r_numberFrom') → W p l e rm_X4_readNumber s m args below meth c H locs 0 0 Q (F0 m 49 ls []) := by
        intro n9
        induction n9 with
        | zero => intro y3_7 y4_7 r_next_7 H locs ls hP hD hS hl hf; cases hf
        | succ n9 ih =>
          intro y3_7 y4_7 r_next_7 H locs ls hP hD hS hl hf
          obtain ⟨rec7, hrec7, hf⟩ := lq3_s hf
          have hf := hB7 rec7 _ _ _ hf
          refine lv_iload hx hb dX4_readNumber_49 (lv_at hl 4 rfl) ?_
          refine lv_aload_n hx hb dX4_readNumber_51 rfl (lv_at hl 0 rfl) ?_
          refine va_get (D := (dC, dI)) (ci := 4) (v := .int r_length) (C := RX4) (T := TX4) (N := 6) hx hb hw inlX4 hown hK hP 0 rfl rfl 1 (by decide) (hw _ mw_7_14) (fun _ h9 => h9) rfl dX4_readNumber_52 ?_
          refine lv_icmp_ge (tgt := 97) hx hb dX4_readNumber_55 (by decide) (fun h9 => ?_) (fun h9 => ?_)
          · have hf := pg_t h9 hf
            exact WK97_4 _ _ _ _ _ hP hD hS (lv_sub hl [0, 1, 2, 3] rfl) hf
          · have hf := pg_f h9 hf
            refine lv_aload_n hx hb dX4_readNumber_58 rfl (lv_at hl 0 rfl) ?_
            refine lv_iload hx hb dX4_readNumber_59 (lv_at hl 4 rfl) ?_
            obtain ⟨r_8, hc, hf⟩ := bn1_s hf
            refine pg_cVi (As := [.int y4_7]) (rest := []) (wf := (W_X4r cI cZ cII qr qr_text r_length r_fault_3 r_faultAt_3 r_next_7 r_next_1 r_text)) ⟨hx, hb, hml, hown, hw⟩ (c_X4_isFigure l dC dI cI cZ cII qr qr_text H.size r_length r_fault_3 r_faultAt_3 r_next_7 r_next_1 r_text y4_7 r_8 hc) (cwV 1 hts (wM_V mw_13_16 mw_13_17 mw_13_18 mw_1_20 mw_13_19) rfl rfl rfl dk_X4_isFigure ⟨Nat.le_of_ble_eq_true rfl, Nat.le_of_ble_eq_true rfl⟩) hK hP hD hS hA 4 0 rfl rfl rfl [0, 1] [] [0, 1] (plC_9 cI cZ cII qr qr_text r_length r_fault_3 r_faultAt_3 r_next_7 r_next_1 r_text) rfl (plF_9 cI cZ cII qr qr_text r_length r_fault_3 r_faultAt_3 r_next_7 r_next_1 r_text r_length r_fault_3 r_faultAt_3 r_next_7 r_next_1 r_text) (by decide) rfl hl.1 rfl (Nat.le_of_ble_eq_true rfl) dX4_readNumber_61 ⟨Nat.zero_le _, Nat.zero_le _⟩ (fun H locs hP hD hS => ?_)
            refine lv_if_eq (tgt := 97) hx hb dX4_readNumber_64 (by decide) (fun h9 => ?_) (fun h9 => ?_)
            · have hf := pg_t h9 hf
              exact WK97_4 _ _ _ _ _ hP hD hS (lv_sub hl [0, 1, 2, 3] rfl) hf
            · have hf := pg_f h9 hf
              refine lv_iload_n hx hb dX4_readNumber_67 rfl (lv_at hl 3 rfl) ?_
              refine lv_bipush (v := (10 : Int32)) hx hb dX4_readNumber_68 (by decide) ?_
              refine lv_imul hx hb dX4_readNumber_70 ?_
              refine lv_aload_n hx hb dX4_readNumber_71 rfl (lv_at hl 0 rfl) ?_
              refine va_get (D := (dC, dI)) (ci := 4) (v := .ref qr_text) (C := RX4) (T := TX4) (N := 6) hx hb hw inlX4 hown hK hP 0 rfl rfl 0 (by decide) (hw _ mw_3_13) (fun _ h9 => h9) rfl dX4_readNumber_72 ?_
              refine lv_iload hx hb dX4_readNumber_75 (lv_at hl 4 rfl) ?_
              obtain ⟨hi9, hf⟩ := pg_chk hf
              refine va_iald hx hb hK hP 1 0 rfl rfl hi9 dX4_readNumber_77 ?_
              refine lv_iadd hx hb dX4_readNumber_78 ?_
              refine lv_bipush (v := (48 : Int32)) hx hb dX4_readNumber_79 (by decide) ?_
              refine lv_isub hx hb dX4_readNumber_81 ?_
              refine lv_istore_n (lv' := [(3, .int (((y3_7 * (10 : Int32)) + (r_text (y4_7).toNatClampNeg)) - (48 : Int32))), (0, .ref qr), (1, .int n1), (2, .int n2), (4, .int y4_7)]) hx hb dX4_readNumber_82 rfl hl (by decide) rfl (fun ls hl => ?_)
              refine lv_aload_n hx hb dX4_readNumber_83 rfl (lv_at hl 1 rfl) ?_
              refine lv_iload hx hb dX4_readNumber_84 (lv_at hl 4 rfl) ?_
              refine lv_iconst (v := (1 : Int32)) hx hb dX4_readNumber_86 (by decide) ?_
              refine lv_iadd hx hb dX4_readNumber_87 ?_
              refine va_put (D := (dC, dI)) (ci := 4) (v := .int (y4_7 + (1 : Int32))) (ty := .int) (C := RX4) (T := TX4) (N := 6) hx hb hw inlX4 tyX4 tyX4_ok nmX4 hown hK hP hD hS 0 rfl rfl 4 (by decide) (hw _ mw_8_14) (fun _ h9 => h9) rfl (by decide +kernel) rfl rfl (Nat.le_of_ble_eq_true rfl) dX4_readNumber_88 (fun H locs hP hD hS => ?_)
              have hP : va_P (dC, dI) vwCl (W_X4r cI cZ cII qr qr_text r_length r_fault_3 r_faultAt_3 (y4_7 + (1 : Int32)) r_next_1 r_text) H := hP
              have hD : va_D A (W_X4r cI cZ cII qr qr_text r_length r_fault_3 r_faultAt_3 (y4_7 + (1 : Int32)) r_next_1 r_text) := hD
              refine lv_iinc (v := (y4_7 + (1 : Int32))) (lv' := [(4, .int (y4_7 + (1 : Int32))), (3, .int (((y3_7 * (10 : Int32)) + (r_text (y4_7).toNatClampNeg)) - (48 : Int32))), (0, .ref qr), (1, .int n1), (2, .int n2)]) hx hb dX4_readNumber_91 hl (k := 4) rfl rfl (by decide) rfl (fun ls hl => ?_)
              refine lv_goto (tgt := 49) hx hb dX4_readNumber_94 (by decide) ?_
              exact ih _ _ _ _ _ _ hP hD hS (lv_sub hl [2, 3, 4, 1, 0] rfl) (hrec7 _ _ _ hf)
      exact WL7 fu _ _ _ _ _ _ hP hD hS (lv_sub hl [2, 3, 4, 1, 0] rfl) hf
    · have hf := pg_f h9 hf
      refine lv_iconst (v := (-1 : Int32)) hx hb dX4_readNumber_31 (by decide) ?_
      exact RET _ _ _ _ _ _ _ _ _ dX4_readNumber_32 hP hD hS hf
  refine lv_if_ne (tgt := 24) hx hb dX4_readNumber_12 (by decide) (fun h9 => ?_) (fun h9 => ?_)
  · have hf := pg_f h9 hf
    exact WJ24_3 _ _ _ _ _ hP hD hS hl hf
  · have hf := pg_t h9 hf
    refine lv_aload_n hx hb dX4_readNumber_15 rfl (lv_at hl 0 rfl) ?_
    refine lv_iconst (v := (1 : Int32)) hx hb dX4_readNumber_16 (by decide) ?_
    refine lv_aload_n hx hb dX4_readNumber_17 rfl (lv_at hl 0 rfl) ?_
    refine va_get (D := (dC, dI)) (ci := 4) (v := .int r_next_1) (C := RX4) (T := TX4) (N := 6) hx hb hw inlX4 hown hK hP 0 rfl rfl 4 (by decide) (hw _ mw_8_14) (fun _ h9 => h9) rfl dX4_readNumber_18 ?_
    obtain ⟨r_fault_10, r_faultAt_10, hc, hf⟩ := bn2_s hf
    refine pg_cVv (As := [.int (1 : Int32), .int r_next_1]) (rest := []) (wf := (W_X4r cI cZ cII qr qr_text r_length r_fault_10 r_faultAt_10 r_next_1 r_numberFrom r_text)) ⟨hx, hb, hml, hown, hw⟩ (c_X4_fail l dC dI cI cZ cII qr qr_text H.size r_length r_fault r_faultAt r_next_1 r_numberFrom r_text (1 : Int32) r_next_1 r_fault_10 r_faultAt_10 hc) (cwV 2 hts (wM_V mw_12_8 mw_12_9 mw_12_10 mw_1_20 mw_12_11) rfl rfl rfl dk_X4_fail ⟨Nat.le_of_ble_eq_true rfl, Nat.le_of_ble_eq_true rfl⟩) hK hP hD hS hA 4 0 rfl rfl rfl [0, 1] [] [0, 1] (plC_9 cI cZ cII qr qr_text r_length r_fault r_faultAt r_next_1 r_numberFrom r_text) rfl (plF_9 cI cZ cII qr qr_text r_length r_fault r_faultAt r_next_1 r_numberFrom r_text r_length r_fault_10 r_faultAt_10 r_next_1 r_numberFrom r_text) (by decide) rfl hl.1 rfl (Nat.le_of_ble_eq_true rfl) dX4_readNumber_21 ⟨Nat.zero_le _, Nat.zero_le _⟩ (fun H locs hP hD hS => ?_)
    exact WJ24_3 _ _ _ _ _ hP hD hS hl hf
def f_X4_isSign (n1 : Int32) (r_length : Int32) (r_next : Int32) (r_text : Nat → Int32) : Option (Int32) :=
  if r_next < 0 then
    some ((0 : Int32))
  else
    if r_length ≤ r_next then
      some ((0 : Int32))
    else
      if (500 : Int32) ≤ r_next then
        some ((0 : Int32))
      else
        if r_next < 0 ∨ 500 ≤ (r_next).toNatClampNeg then none else
        if (r_text (r_next).toNatClampNeg) = n1 then
          some ((1 : Int32))
        else
          some ((0 : Int32))
abbrev rm_X4_isSign : Room := { frames := 0, cells := 0, slots := 0, locals := 0 }
theorem dk_X4_isSign : yX4_isSign.cls = RX4 ∧ yX4_isSign.cls ≠ "java/lang/invoke/MethodHandle" ∧ yX4_isSign.cls ≠ "java/lang/invoke/VarHandle" ∧ (parseMethodDescriptor yX4_isSign.desc).map (fun d => d.parameters.length) = some 1 := by decide +kernel
set_option maxHeartbeats 4000000 in
set_option maxRecDepth 100000 in
theorem c_X4_isSign (l : Launch) (dC : Nat → ClassId) (dI : Nat → Nat → Nat) (cI cZ cII : ClassId) (qr qr_text : Nat) (sz : Nat) (r_length : Int32) (r_fault : Int32) (r_faultAt : Int32) (r_next : Int32) (r_numberFrom : Int32) (r_text : Nat → Int32) (n1 : Int32) (rr : Int32) (hf : f_X4_isSign n1 r_length r_next r_text = some (rr)) : Met l yX4_isSign (wM yX4_isSign cX4_isSign 2 (some .boolean)) rm_X4_isSign (PreW (dC, dI) (tyA cI cZ cII) (W_X4r cI cZ cII qr qr_text r_length r_fault r_faultAt r_next r_numberFrom r_text) sz [.ref qr, .int n1]) (PostI (dC, dI) (tyA cI cZ cII) rr (W_X4r cI cZ cII qr qr_text r_length r_fault r_faultAt r_next r_numberFrom r_text) (W_X4r cI cZ cII qr qr_text r_length r_fault r_faultAt r_next r_numberFrom r_text) sz) 0 0 (va_A (W_X4r cI cZ cII qr qr_text r_length r_fault r_faultAt r_next r_numberFrom r_text) sz) := by
  refine Met.ofW (cc := cX4_isSign) (maxL := 2) (ret := (some .boolean)) (by decide) rfl ?_
  intro p e s m args below meth c s₁ B hml hv
  obtain ⟨rfl, hsz, hP, hK, hD0⟩ := hv
  have hx := B.exec
  have hb := B.bytes
  have hr := B.returns
  have hts := atoms_spec (ws := wM yX4_isSign cX4_isSign 2 (some .boolean)) B.pre
  have hown : s.vm.findClass RX4 = some m.cls := findClass_of_methodNamed B.named
  have hlocks := B.notSynchronized
  subst hsz
  have hD := hD0.self (sz := s.heap.size)
  obtain ⟨A, hAe⟩ : ∃ A, A = va_A (W_X4r cI cZ cII qr qr_text r_length r_fault r_faultAt r_next r_numberFrom r_text) s.heap.size := ⟨_, rfl⟩
  rw [← hAe] at hD
  have hA : ∀ q : Nat, s.heap.size ≤ q → A q := fun q h => by rw [hAe]; exact Or.inr h
  have hS : va_S A s.heap s.heap [] := va_S.rf
  have hl := lv_entry ([.ref qr, .int n1]) (n := 2) (Nat.le_of_ble_eq_true rfl)
  rw [lg_entry_eq]
  generalize (lg_sl ([.ref qr, .int n1]) ++ List.replicate (2 - (lg_sl ([.ref qr, .int n1])).length) Slot.unset).toArray = ls at hl ⊢
  have hl : lv_has ls 2 [(0, .ref qr), (1, .int n1)] := hl
  generalize ([.ref qr, .int n1] : List Value).toArray = args at hts ⊢
  have hw : ∀ w ∈ wsL_law, w.before args s = true := fun w h => hts w (List.mem_cons_of_mem _ h)
  refine pg_start (fun Q hQ => ?_)
  have RET : ∀ (H : Heap) (locs : List Loc) (ls : Array Slot) (pc : Nat) (v : Int32) , decode cX4_isSign pc = .ok (.ireturn, 1) → (v = 0 ∨ v = 1) → va_P (dC, dI) vwCl (W_X4r cI cZ cII qr qr_text r_length r_fault r_faultAt r_next r_numberFrom r_text) H → va_D A (W_X4r cI cZ cII qr qr_text r_length r_fault r_faultAt r_next r_numberFrom r_text) → va_S A s.heap H locs → (some (v) : Option (Int32)) = some (rr) → W p l e rm_X4_isSign s m args below meth c H locs 0 0 Q (F0 m pc ls [.int v]) := by
    intro H locs ls pc v hd hz hP hD hS he
    subst hAe; subst hQ
    obtain rfl := Option.some.inj he
    exact pg_zret hx hb hr hlocks hz hK hP hD hS hd
  unfold f_X4_isSign at hf
  refine lv_aload_n hx hb dX4_isSign_0 rfl (lv_at hl 0 rfl) ?_
  refine va_get (D := (dC, dI)) (ci := 4) (v := .int r_next) (C := RX4) (T := TX4) (N := 6) hx hb hw inlX4 hown hK hP 0 rfl rfl 4 (by decide) (hw _ mw_8_14) (fun _ h9 => h9) rfl dX4_isSign_1 ?_
  refine lv_if_lt (tgt := 45) hx hb dX4_isSign_4 (by decide) (fun h9 => ?_) (fun h9 => ?_)
  · have hf := pg_t h9 hf
    refine lv_iconst (v := (0 : Int32)) hx hb dX4_isSign_45 (by decide) ?_
    exact RET _ _ _ _ _ dX4_isSign_46 (by decide) hP hD hS hf
  · have hf := pg_f h9 hf
    refine lv_aload_n hx hb dX4_isSign_7 rfl (lv_at hl 0 rfl) ?_
    refine va_get (D := (dC, dI)) (ci := 4) (v := .int r_next) (C := RX4) (T := TX4) (N := 6) hx hb hw inlX4 hown hK hP 0 rfl rfl 4 (by decide) (hw _ mw_8_14) (fun _ h9 => h9) rfl dX4_isSign_8 ?_
    refine lv_aload_n hx hb dX4_isSign_11 rfl (lv_at hl 0 rfl) ?_
    refine va_get (D := (dC, dI)) (ci := 4) (v := .int r_length) (C := RX4) (T := TX4) (N := 6) hx hb hw inlX4 hown hK hP 0 rfl rfl 1 (by decide) (hw _ mw_7_14) (fun _ h9 => h9) rfl dX4_isSign_12 ?_
    refine lv_icmp_ge (tgt := 45) hx hb dX4_isSign_15 (by decide) (fun h9 => ?_) (fun h9 => ?_)
    · have hf := pg_t h9 hf
      refine lv_iconst (v := (0 : Int32)) hx hb dX4_isSign_45 (by decide) ?_
      exact RET _ _ _ _ _ dX4_isSign_46 (by decide) hP hD hS hf
    · have hf := pg_f h9 hf
      refine lv_aload_n hx hb dX4_isSign_18 rfl (lv_at hl 0 rfl) ?_
      refine va_get (D := (dC, dI)) (ci := 4) (v := .int r_next) (C := RX4) (T := TX4) (N := 6) hx hb hw inlX4 hown hK hP 0 rfl rfl 4 (by decide) (hw _ mw_8_14) (fun _ h9 => h9) rfl dX4_isSign_19 ?_
      refine lv_sipush (v := (500 : Int32)) hx hb dX4_isSign_22 (by decide) ?_
      refine lv_icmp_ge (tgt := 45) hx hb dX4_isSign_25 (by decide) (fun h9 => ?_) (fun h9 => ?_)
      · have hf := pg_t h9 hf
        refine lv_iconst (v := (0 : Int32)) hx hb dX4_isSign_45 (by decide) ?_
        exact RET _ _ _ _ _ dX4_isSign_46 (by decide) hP hD hS hf
      · have hf := pg_f h9 hf
        refine lv_aload_n hx hb dX4_isSign_28 rfl (lv_at hl 0 rfl) ?_
        refine va_get (D := (dC, dI)) (ci := 4) (v := .ref qr_text) (C := RX4) (T := TX4) (N := 6) hx hb hw inlX4 hown hK hP 0 rfl rfl 0 (by decide) (hw _ mw_3_13) (fun _ h9 => h9) rfl dX4_isSign_29 ?_
        refine lv_aload_n hx hb dX4_isSign_32 rfl (lv_at hl 0 rfl) ?_
        refine va_get (D := (dC, dI)) (ci := 4) (v := .int r_next) (C := RX4) (T := TX4) (N := 6) hx hb hw inlX4 hown hK hP 0 rfl rfl 4 (by decide) (hw _ mw_8_14) (fun _ h9 => h9) rfl dX4_isSign_33 ?_
        obtain ⟨hi1, hf⟩ := pg_chk hf
        refine va_iald hx hb hK hP 1 0 rfl rfl hi1 dX4_isSign_36 ?_
        refine lv_iload_n hx hb dX4_isSign_37 rfl (lv_at hl 1 rfl) ?_
        refine lv_icmp_ne (tgt := 45) hx hb dX4_isSign_38 (by decide) (fun h9 => ?_) (fun h9 => ?_)
        · have hf := pg_f h9 hf
          refine lv_iconst (v := (0 : Int32)) hx hb dX4_isSign_45 (by decide) ?_
          exact RET _ _ _ _ _ dX4_isSign_46 (by decide) hP hD hS hf
        · have hf := pg_t h9 hf
          refine lv_iconst (v := (1 : Int32)) hx hb dX4_isSign_41 (by decide) ?_
          refine lv_goto (tgt := 46) hx hb dX4_isSign_42 (by decide) ?_
          exact RET _ _ _ _ _ dX4_isSign_46 (by decide) hP hD hS hf
def f_X4_readSemicolon (r_length : Int32) (r_fault : Int32) (r_faultAt : Int32) (r_next : Int32) (r_text : Nat → Int32) : Option (Int32 × Int32 × Int32) :=
  bn1 (f_X4_skipBlanks r_length r_next r_text) (fun (r_next_1 : Int32) =>
    bn1 (f_X4_isSign (59 : Int32) r_length r_next_1 r_text) (fun (r_2 : Int32) =>
      if r_2 = 0 then
        bn2 (f_X4_fail (1 : Int32) r_next_1 r_fault r_faultAt) (fun (r_fault_3 : Int32) (r_faultAt_3 : Int32) =>
          some (r_fault_3, r_faultAt_3, r_next_1)
        )
      else
        some (r_fault, r_faultAt, (r_next_1 + (1 : Int32)))
    )
  )
abbrev rm_X4_readSemicolon : Room := { frames := 1, cells := 0, slots := 0, locals := 22 }
theorem dk_X4_readSemicolon : yX4_readSemicolon.cls = RX4 ∧ yX4_readSemicolon.cls ≠ "java/lang/invoke/MethodHandle" ∧ yX4_readSemicolon.cls ≠ "java/lang/invoke/VarHandle" ∧ (parseMethodDescriptor yX4_readSemicolon.desc).map (fun d => d.parameters.length) = some 0 := by decide +kernel
set_option maxHeartbeats 4000000 in
set_option maxRecDepth 100000 in
theorem c_X4_readSemicolon (l : Launch) (dC : Nat → ClassId) (dI : Nat → Nat → Nat) (cI cZ cII : ClassId) (qr qr_text : Nat) (sz : Nat) (r_length : Int32) (r_fault : Int32) (r_faultAt : Int32) (r_next : Int32) (r_numberFrom : Int32) (r_text : Nat → Int32) (r_fault' : Int32) (r_faultAt' : Int32) (r_next' : Int32) (hf : f_X4_readSemicolon r_length r_fault r_faultAt r_next r_text = some (r_fault', r_faultAt', r_next')) : Met l yX4_readSemicolon (wM yX4_readSemicolon cX4_readSemicolon 1 none) rm_X4_readSemicolon (PreW (dC, dI) (tyA cI cZ cII) (W_X4r cI cZ cII qr qr_text r_length r_fault r_faultAt r_next r_numberFrom r_text) sz [.ref qr]) (PostV (dC, dI) (tyA cI cZ cII) (W_X4r cI cZ cII qr qr_text r_length r_fault r_faultAt r_next r_numberFrom r_text) (W_X4r cI cZ cII qr qr_text r_length r_fault' r_faultAt' r_next' r_numberFrom r_text) sz) 0 0 (va_A (W_X4r cI cZ cII qr qr_text r_length r_fault r_faultAt r_next r_numberFrom r_text) sz) := by
  refine Met.ofW (cc := cX4_readSemicolon) (maxL := 1) (ret := none) (by decide) rfl ?_
  intro p e s m args below meth c s₁ B hml hv
  obtain ⟨rfl, hsz, hP, hK, hD0⟩ := hv
  have hx := B.exec
  have hb := B.bytes
  have hr := B.returns
  have hts := atoms_spec (ws := wM yX4_readSemicolon cX4_readSemicolon 1 none) B.pre
  have hown : s.vm.findClass RX4 = some m.cls := findClass_of_methodNamed B.named
  have hlocks := B.notSynchronized
  subst hsz
  have hD := hD0.self (sz := s.heap.size)
  obtain ⟨A, hAe⟩ : ∃ A, A = va_A (W_X4r cI cZ cII qr qr_text r_length r_fault r_faultAt r_next r_numberFrom r_text) s.heap.size := ⟨_, rfl⟩
  rw [← hAe] at hD
  have hA : ∀ q : Nat, s.heap.size ≤ q → A q := fun q h => by rw [hAe]; exact Or.inr h
  have hS : va_S A s.heap s.heap [] := va_S.rf
  have hl := lv_entry ([.ref qr]) (n := 1) (Nat.le_of_ble_eq_true rfl)
  rw [lg_entry_eq]
  generalize (lg_sl ([.ref qr]) ++ List.replicate (1 - (lg_sl ([.ref qr])).length) Slot.unset).toArray = ls at hl ⊢
  have hl : lv_has ls 1 [(0, .ref qr)] := hl
  generalize ([.ref qr] : List Value).toArray = args at hts ⊢
  have hw : ∀ w ∈ wsL_law, w.before args s = true := fun w h => hts w (List.mem_cons_of_mem _ h)
  refine pg_start (fun Q hQ => ?_)
  have RET : ∀ (H : Heap) (locs : List Loc) (ls : Array Slot) (pc : Nat) (x0 : Int32) (x1 : Int32) (x2 : Int32) , decode cX4_readSemicolon pc = .ok (.return_, 1) → va_P (dC, dI) vwCl (W_X4r cI cZ cII qr qr_text r_length x0 x1 x2 r_numberFrom r_text) H → va_D A (W_X4r cI cZ cII qr qr_text r_length x0 x1 x2 r_numberFrom r_text) → va_S A s.heap H locs → (some (x0, x1, x2) : Option (Int32 × Int32 × Int32)) = some (r_fault', r_faultAt', r_next') → W p l e rm_X4_readSemicolon s m args below meth c H locs 0 0 Q (F0 m pc ls []) := by
    intro H locs ls pc x0 x1 x2 hd hP hD hS he
    subst hAe; subst hQ
    simp only [Option.some.injEq, Prod.mk.injEq] at he
    obtain ⟨rfl, rfl, rfl⟩ := he
    exact pg_vret hx hb hr hlocks hK hP hD hS hd
  unfold f_X4_readSemicolon at hf
  refine lv_aload_n hx hb dX4_readSemicolon_0 rfl (lv_at hl 0 rfl) ?_
  obtain ⟨r_next_1, hc, hf⟩ := bn1_s hf
  refine pg_cVv (As := []) (rest := []) (wf := (W_X4r cI cZ cII qr qr_text r_length r_fault r_faultAt r_next_1 r_numberFrom r_text)) ⟨hx, hb, hml, hown, hw⟩ (c_X4_skipBlanks l dC dI cI cZ cII qr qr_text s.heap.size r_length r_fault r_faultAt r_next r_numberFrom r_text  r_next_1 hc) (cwV 0 hts (wM_V mw_9_6 mw_9_7 mw_9_8 mw_1_20 mw_9_9) rfl rfl rfl dk_X4_skipBlanks ⟨Nat.le_of_ble_eq_true rfl, Nat.le_of_ble_eq_true rfl⟩) hK hP hD hS hA 4 0 rfl rfl rfl [0, 1] [] [0, 1] (plC_9 cI cZ cII qr qr_text r_length r_fault r_faultAt r_next r_numberFrom r_text) rfl (plF_9 cI cZ cII qr qr_text r_length r_fault r_faultAt r_next r_numberFrom r_text r_length r_fault r_faultAt r_next_1 r_numberFrom r_text) (by decide) rfl hl.1 rfl (Nat.le_of_ble_eq_true rfl) dX4_readSemicolon_1 ⟨Nat.zero_le _, Nat.zero_le _⟩ (fun H locs hP hD hS => ?_)
  refine lv_aload_n hx hb dX4_readSemicolon_4 rfl (lv_at hl 0 rfl) ?_
  refine lv_bipush (v := (59 : Int32)) hx hb dX4_readSemicolon_5 (by decide) ?_
  obtain ⟨r_2, hc, hf⟩ := bn1_s hf
  refine pg_cVi (As := [.int (59 : Int32)]) (rest := []) (wf := (W_X4r cI cZ cII qr qr_text r_length r_fault r_faultAt r_next_1 r_numberFrom r_text)) ⟨hx, hb, hml, hown, hw⟩ (c_X4_isSign l dC dI cI cZ cII qr qr_text H.size r_length r_fault r_faultAt r_next_1 r_numberFrom r_text (59 : Int32) r_2 hc) (cwV 1 hts (wM_V mw_14_0 mw_14_1 mw_14_2 mw_1_20 mw_14_3) rfl rfl rfl dk_X4_isSign ⟨Nat.le_of_ble_eq_true rfl, Nat.le_of_ble_eq_true rfl⟩) hK hP hD hS hA 4 0 rfl rfl rfl [0, 1] [] [0, 1] (plC_9 cI cZ cII qr qr_text r_length r_fault r_faultAt r_next_1 r_numberFrom r_text) rfl (plF_9 cI cZ cII qr qr_text r_length r_fault r_faultAt r_next_1 r_numberFrom r_text r_length r_fault r_faultAt r_next_1 r_numberFrom r_text) (by decide) rfl hl.1 rfl (Nat.le_of_ble_eq_true rfl) dX4_readSemicolon_7 ⟨Nat.zero_le _, Nat.zero_le _⟩ (fun H locs hP hD hS => ?_)
  refine lv_if_eq (tgt := 26) hx hb dX4_readSemicolon_10 (by decide) (fun h9 => ?_) (fun h9 => ?_)
  · have hf := pg_t h9 hf
    refine lv_aload_n hx hb dX4_readSemicolon_26 rfl (lv_at hl 0 rfl) ?_
    refine lv_iconst (v := (1 : Int32)) hx hb dX4_readSemicolon_27 (by decide) ?_
    refine lv_aload_n hx hb dX4_readSemicolon_28 rfl (lv_at hl 0 rfl) ?_
    refine va_get (D := (dC, dI)) (ci := 4) (v := .int r_next_1) (C := RX4) (T := TX4) (N := 6) hx hb hw inlX4 hown hK hP 0 rfl rfl 4 (by decide) (hw _ mw_8_14) (fun _ h9 => h9) rfl dX4_readSemicolon_29 ?_
    obtain ⟨r_fault_3, r_faultAt_3, hc, hf⟩ := bn2_s hf
    refine pg_cVv (As := [.int (1 : Int32), .int r_next_1]) (rest := []) (wf := (W_X4r cI cZ cII qr qr_text r_length r_fault_3 r_faultAt_3 r_next_1 r_numberFrom r_text)) ⟨hx, hb, hml, hown, hw⟩ (c_X4_fail l dC dI cI cZ cII qr qr_text H.size r_length r_fault r_faultAt r_next_1 r_numberFrom r_text (1 : Int32) r_next_1 r_fault_3 r_faultAt_3 hc) (cwV 2 hts (wM_V mw_12_8 mw_12_9 mw_12_10 mw_1_20 mw_12_11) rfl rfl rfl dk_X4_fail ⟨Nat.le_of_ble_eq_true rfl, Nat.le_of_ble_eq_true rfl⟩) hK hP hD hS hA 4 0 rfl rfl rfl [0, 1] [] [0, 1] (plC_9 cI cZ cII qr qr_text r_length r_fault r_faultAt r_next_1 r_numberFrom r_text) rfl (plF_9 cI cZ cII qr qr_text r_length r_fault r_faultAt r_next_1 r_numberFrom r_text r_length r_fault_3 r_faultAt_3 r_next_1 r_numberFrom r_text) (by decide) rfl hl.1 rfl (Nat.le_of_ble_eq_true rfl) dX4_readSemicolon_32 ⟨Nat.zero_le _, Nat.zero_le _⟩ (fun H locs hP hD hS => ?_)
    exact RET _ _ _ _ _ _ _ dX4_readSemicolon_35 hP hD hS hf
  · have hf := pg_f h9 hf
    refine lv_aload_n hx hb dX4_readSemicolon_13 rfl (lv_at hl 0 rfl) ?_
    refine lv_dup hx hb dX4_readSemicolon_14 rfl ?_
    refine va_get (D := (dC, dI)) (ci := 4) (v := .int r_next_1) (C := RX4) (T := TX4) (N := 6) hx hb hw inlX4 hown hK hP 0 rfl rfl 4 (by decide) (hw _ mw_8_14) (fun _ h9 => h9) rfl dX4_readSemicolon_15 ?_
    refine lv_iconst (v := (1 : Int32)) hx hb dX4_readSemicolon_18 (by decide) ?_
    refine lv_iadd hx hb dX4_readSemicolon_19 ?_
    refine va_put (D := (dC, dI)) (ci := 4) (v := .int (r_next_1 + (1 : Int32))) (ty := .int) (C := RX4) (T := TX4) (N := 6) hx hb hw inlX4 tyX4 tyX4_ok nmX4 hown hK hP hD hS 0 rfl rfl 4 (by decide) (hw _ mw_8_14) (fun _ h9 => h9) rfl (by decide +kernel) rfl rfl (Nat.le_of_ble_eq_true rfl) dX4_readSemicolon_20 (fun H locs hP hD hS => ?_)
    have hP : va_P (dC, dI) vwCl (W_X4r cI cZ cII qr qr_text r_length r_fault r_faultAt (r_next_1 + (1 : Int32)) r_numberFrom r_text) H := hP
    have hD : va_D A (W_X4r cI cZ cII qr qr_text r_length r_fault r_faultAt (r_next_1 + (1 : Int32)) r_numberFrom r_text) := hD
    refine lv_goto (tgt := 35) hx hb dX4_readSemicolon_23 (by decide) ?_
    exact RET _ _ _ _ _ _ _ dX4_readSemicolon_35 hP hD hS hf
def f_X4_readDue (r_length : Int32) (r_fault : Int32) (r_faultAt : Int32) (r_next : Int32) (r_numberFrom : Int32) (r_text : Nat → Int32) (b_due : Int32) : Option (Int32 × Int32 × Int32 × Int32 × Int32) :=
  bn5 (f_X4_readNumber (1 : Int32) (120 : Int32) r_length r_fault r_faultAt r_next r_numberFrom r_text) (fun (r_1 : Int32) (r_fault_1 : Int32) (r_faultAt_1 : Int32) (r_next_1 : Int32) (r_numberFrom_1 : Int32) =>
    bn3 (f_X4_readSemicolon r_length r_fault_1 r_faultAt_1 r_next_1 r_text) (fun (r_fault_2 : Int32) (r_faultAt_2 : Int32) (r_next_2 : Int32) =>
      if r_fault_2 = 0 then
        some (r_fault_2, r_faultAt_2, r_next_2, r_numberFrom_1, r_1)
      else
        some (r_fault_2, r_faultAt_2, r_next_2, r_numberFrom_1, b_due)
    )
  )
set_option maxRecDepth 100000 in
theorem plC_10 (cI cZ cII : ClassId) (qr qr_text qb qb_pull qb_strength qb_back qb_moods qb_tides qb_carts : Nat) (r_length : Int32) (r_fault : Int32) (r_faultAt : Int32) (r_next : Int32) (r_numberFrom : Int32) (r_text : Nat → Int32) (b_law : Int32) (b_places : Int32) (b_broad : Int32) (b_horses : Int32) (b_blinds : Int32) (b_besides : Int32) (b_tideCount : Int32) (b_cartCount : Int32) (b_due : Int32) (b_pairs : Int64) (b_pull : Nat → Int32) (b_strength : Nat → Int32) (b_back : Nat → Int32) (b_moods : Nat → Int32) (b_tides : Nat → Int32) (b_carts : Nat → Int32) : ([0, 1] : List Nat).map (fun i => (W_X4r_X0b cI cZ cII qr qr_text qb qb_pull qb_strength qb_back qb_moods qb_tides qb_carts r_length r_fault r_faultAt r_next r_numberFrom r_text b_law b_places b_broad b_horses b_blinds b_besides b_tideCount b_cartCount b_due b_pairs b_pull b_strength b_back b_moods b_tides b_carts)[i]?) = (W_X4r cI cZ cII qr qr_text r_length r_fault r_faultAt r_next r_numberFrom r_text).map some := rfl
set_option maxRecDepth 100000 in
theorem plF_10 (cI cZ cII : ClassId) (qr qr_text qb qb_pull qb_strength qb_back qb_moods qb_tides qb_carts : Nat) (r_length : Int32) (r_fault : Int32) (r_faultAt : Int32) (r_next : Int32) (r_numberFrom : Int32) (r_text : Nat → Int32) (b_law : Int32) (b_places : Int32) (b_broad : Int32) (b_horses : Int32) (b_blinds : Int32) (b_besides : Int32) (b_tideCount : Int32) (b_cartCount : Int32) (b_due : Int32) (b_pairs : Int64) (b_pull : Nat → Int32) (b_strength : Nat → Int32) (b_back : Nat → Int32) (b_moods : Nat → Int32) (b_tides : Nat → Int32) (b_carts : Nat → Int32) (b9r_length : Int32) (b9r_fault : Int32) (b9r_faultAt : Int32) (b9r_next : Int32) (b9r_numberFrom : Int32) (b9r_text : Nat → Int32) : ([7, 8, 0, 1, 2, 3, 4, 5, 6] : List Nat).map (fun i => (pickW (W_X4r_X0b cI cZ cII qr qr_text qb qb_pull qb_strength qb_back qb_moods qb_tides qb_carts r_length r_fault r_faultAt r_next r_numberFrom r_text b_law b_places b_broad b_horses b_blinds b_besides b_tideCount b_cartCount b_due b_pairs b_pull b_strength b_back b_moods b_tides b_carts) ([2, 3, 4, 5, 6, 7, 8] : List Nat) ++ (W_X4r cI cZ cII qr qr_text b9r_length b9r_fault b9r_faultAt b9r_next b9r_numberFrom b9r_text))[i]?) = (W_X4r_X0b cI cZ cII qr qr_text qb qb_pull qb_strength qb_back qb_moods qb_tides qb_carts b9r_length b9r_fault b9r_faultAt b9r_next b9r_numberFrom b9r_text b_law b_places b_broad b_horses b_blinds b_besides b_tideCount b_cartCount b_due b_pairs b_pull b_strength b_back b_moods b_tides b_carts).map some := rfl
abbrev rm_X4_readDue : Room := { frames := 2, cells := 0, slots := 0, locals := 46 }
theorem dk_X4_readDue : yX4_readDue.cls = RX4 ∧ yX4_readDue.cls ≠ "java/lang/invoke/MethodHandle" ∧ yX4_readDue.cls ≠ "java/lang/invoke/VarHandle" ∧ (parseMethodDescriptor yX4_readDue.desc).map (fun d => d.parameters.length) = some 1 := by decide +kernel
set_option maxHeartbeats 4000000 in
set_option maxRecDepth 100000 in
theorem c_X4_readDue (l : Launch) (dC : Nat → ClassId) (dI : Nat → Nat → Nat) (cI cZ cII : ClassId) (qr qr_text qb qb_pull qb_strength qb_back qb_moods qb_tides qb_carts : Nat) (sz : Nat) (r_length : Int32) (r_fault : Int32) (r_faultAt : Int32) (r_next : Int32) (r_numberFrom : Int32) (r_text : Nat → Int32) (b_law : Int32) (b_places : Int32) (b_broad : Int32) (b_horses : Int32) (b_blinds : Int32) (b_besides : Int32) (b_tideCount : Int32) (b_cartCount : Int32) (b_due : Int32) (b_pairs : Int64) (b_pull : Nat → Int32) (b_strength : Nat → Int32) (b_back : Nat → Int32) (b_moods : Nat → Int32) (b_tides : Nat → Int32) (b_carts : Nat → Int32) (r_fault' : Int32) (r_faultAt' : Int32) (r_next' : Int32) (r_numberFrom' : Int32) (b_due' : Int32) (hf : f_X4_readDue r_length r_fault r_faultAt r_next r_numberFrom r_text b_due = some (r_fault', r_faultAt', r_next', r_numberFrom', b_due')) : Met l yX4_readDue (wM yX4_readDue cX4_readDue 3 none) rm_X4_readDue (PreW (dC, dI) (tyA cI cZ cII) (W_X4r_X0b cI cZ cII qr qr_text qb qb_pull qb_strength qb_back qb_moods qb_tides qb_carts r_length r_fault r_faultAt r_next r_numberFrom r_text b_law b_places b_broad b_horses b_blinds b_besides b_tideCount b_cartCount b_due b_pairs b_pull b_strength b_back b_moods b_tides b_carts) sz [.ref qr, .ref qb]) (PostV (dC, dI) (tyA cI cZ cII) (W_X4r_X0b cI cZ cII qr qr_text qb qb_pull qb_strength qb_back qb_moods qb_tides qb_carts r_length r_fault r_faultAt r_next r_numberFrom r_text b_law b_places b_broad b_horses b_blinds b_besides b_tideCount b_cartCount b_due b_pairs b_pull b_strength b_back b_moods b_tides b_carts) (W_X4r_X0b cI cZ cII qr qr_text qb qb_pull qb_strength qb_back qb_moods qb_tides qb_carts r_length r_fault' r_faultAt' r_next' r_numberFrom' r_text b_law b_places b_broad b_horses b_blinds b_besides b_tideCount b_cartCount b_due' b_pairs b_pull b_strength b_back b_moods b_tides b_carts) sz) 0 0 (va_A (W_X4r_X0b cI cZ cII qr qr_text qb qb_pull qb_strength qb_back qb_moods qb_tides qb_carts r_length r_fault r_faultAt r_next r_numberFrom r_text b_law b_places b_broad b_horses b_blinds b_besides b_tideCount b_cartCount b_due b_pairs b_pull b_strength b_back b_moods b_tides b_carts) sz) := by
  refine Met.ofW (cc := cX4_readDue) (maxL := 3) (ret := none) (by decide) rfl ?_
  intro p e s m args below meth c s₁ B hml hv
  obtain ⟨rfl, hsz, hP, hK, hD0⟩ := hv
  have hx := B.exec
  have hb := B.bytes
  have hr := B.returns
  have hts := atoms_spec (ws := wM yX4_readDue cX4_readDue 3 none) B.pre
  have hown : s.vm.findClass RX4 = some m.cls := findClass_of_methodNamed B.named
  have hlocks := B.notSynchronized
  subst hsz
  have hD := hD0.self (sz := s.heap.size)
  obtain ⟨A, hAe⟩ : ∃ A, A = va_A (W_X4r_X0b cI cZ cII qr qr_text qb qb_pull qb_strength qb_back qb_moods qb_tides qb_carts r_length r_fault r_faultAt r_next r_numberFrom r_text b_law b_places b_broad b_horses b_blinds b_besides b_tideCount b_cartCount b_due b_pairs b_pull b_strength b_back b_moods b_tides b_carts) s.heap.size := ⟨_, rfl⟩
  rw [← hAe] at hD
  have hA : ∀ q : Nat, s.heap.size ≤ q → A q := fun q h => by rw [hAe]; exact Or.inr h
  have hS : va_S A s.heap s.heap [] := va_S.rf
  have hl := lv_entry ([.ref qr, .ref qb]) (n := 3) (Nat.le_of_ble_eq_true rfl)
  rw [lg_entry_eq]
  generalize (lg_sl ([.ref qr, .ref qb]) ++ List.replicate (3 - (lg_sl ([.ref qr, .ref qb])).length) Slot.unset).toArray = ls at hl ⊢
  have hl : lv_has ls 3 [(0, .ref qr), (1, .ref qb)] := hl
  generalize ([.ref qr, .ref qb] : List Value).toArray = args at hts ⊢
  have hw : ∀ w ∈ wsL_law, w.before args s = true := fun w h => hts w (List.mem_cons_of_mem _ h)
  refine pg_start (fun Q hQ => ?_)
  have RET : ∀ (H : Heap) (locs : List Loc) (ls : Array Slot) (pc : Nat) (x0 : Int32) (x1 : Int32) (x2 : Int32) (x3 : Int32) (x4 : Int32) , decode cX4_readDue pc = .ok (.return_, 1) → va_P (dC, dI) vwCl (W_X4r_X0b cI cZ cII qr qr_text qb qb_pull qb_strength qb_back qb_moods qb_tides qb_carts r_length x0 x1 x2 x3 r_text b_law b_places b_broad b_horses b_blinds b_besides b_tideCount b_cartCount x4 b_pairs b_pull b_strength b_back b_moods b_tides b_carts) H → va_D A (W_X4r_X0b cI cZ cII qr qr_text qb qb_pull qb_strength qb_back qb_moods qb_tides qb_carts r_length x0 x1 x2 x3 r_text b_law b_places b_broad b_horses b_blinds b_besides b_tideCount b_cartCount x4 b_pairs b_pull b_strength b_back b_moods b_tides b_carts) → va_S A s.heap H locs → (some (x0, x1, x2, x3, x4) : Option (Int32 × Int32 × Int32 × Int32 × Int32)) = some (r_fault', r_faultAt', r_next', r_numberFrom', b_due') → W p l e rm_X4_readDue s m args below meth c H locs 0 0 Q (F0 m pc ls []) := by
    intro H locs ls pc x0 x1 x2 x3 x4 hd hP hD hS he
    subst hAe; subst hQ
    simp only [Option.some.injEq, Prod.mk.injEq] at he
    obtain ⟨rfl, rfl, rfl, rfl, rfl⟩ := he
    exact pg_vret hx hb hr hlocks hK hP hD hS hd
  unfold f_X4_readDue at hf
  refine lv_aload_n hx hb dX4_readDue_0 rfl (lv_at hl 0 rfl) ?_
  refine lv_iconst (v := (1 : Int32)) hx hb dX4_readDue_1 (by decide) ?_
  refine lv_bipush (v := (120 : Int32)) hx hb dX4_readDue_2 (by decide) ?_
  obtain ⟨r_1, r_fault_1, r_faultAt_1, r_next_1, r_numberFrom_1, hc, hf⟩ := bn5_s hf
  refine pg_cVi (As := [.int (1 : Int32), .int (120 : Int32)]) (rest := []) (wf := (W_X4r_X0b cI cZ cII qr qr_text qb qb_pull qb_strength qb_back qb_moods qb_tides qb_carts r_length r_fault_1 r_faultAt_1 r_next_1 r_numberFrom_1 r_text b_law b_places b_broad b_horses b_blinds b_besides b_tideCount b_cartCount b_due b_pairs b_pull b_strength b_back b_moods b_tides b_carts)) ⟨hx, hb, hml, hown, hw⟩ (c_X4_readNumber l dC dI cI cZ cII qr qr_text s.heap.size r_length r_fault r_faultAt r_next r_numberFrom r_text (1 : Int32) (120 : Int32) r_1 r_fault_1 r_faultAt_1 r_next_1 r_numberFrom_1 hc) (cwV 2 hts (wM_V mw_13_11 mw_13_12 mw_13_13 mw_1_20 mw_13_14) rfl rfl rfl dk_X4_readNumber ⟨Nat.le_of_ble_eq_true rfl, Nat.le_of_ble_eq_true rfl⟩) hK hP hD hS hA 4 0 rfl rfl rfl [0, 1] [2, 3, 4, 5, 6, 7, 8] [7, 8, 0, 1, 2, 3, 4, 5, 6] (plC_10 cI cZ cII qr qr_text qb qb_pull qb_strength qb_back qb_moods qb_tides qb_carts r_length r_fault r_faultAt r_next r_numberFrom r_text b_law b_places b_broad b_horses b_blinds b_besides b_tideCount b_cartCount b_due b_pairs b_pull b_strength b_back b_moods b_tides b_carts) rfl (plF_10 cI cZ cII qr qr_text qb qb_pull qb_strength qb_back qb_moods qb_tides qb_carts r_length r_fault r_faultAt r_next r_numberFrom r_text b_law b_places b_broad b_horses b_blinds b_besides b_tideCount b_cartCount b_due b_pairs b_pull b_strength b_back b_moods b_tides b_carts r_length r_fault_1 r_faultAt_1 r_next_1 r_numberFrom_1 r_text) (by decide) rfl hl.1 rfl (Nat.le_of_ble_eq_true rfl) dX4_readDue_4 ⟨Nat.zero_le _, Nat.zero_le _⟩ (fun H locs hP hD hS => ?_)
  refine lv_istore_n (lv' := [(2, .int r_1), (0, .ref qr), (1, .ref qb)]) hx hb dX4_readDue_7 rfl hl (by decide) rfl (fun ls hl => ?_)
  refine lv_aload_n hx hb dX4_readDue_8 rfl (lv_at hl 1 rfl) ?_
  obtain ⟨r_fault_2, r_faultAt_2, r_next_2, hc, hf⟩ := bn3_s hf
  refine pg_cVv (As := []) (rest := []) (wf := (W_X4r_X0b cI cZ cII qr qr_text qb qb_pull qb_strength qb_back qb_moods qb_tides qb_carts r_length r_fault_2 r_faultAt_2 r_next_2 r_numberFrom_1 r_text b_law b_places b_broad b_horses b_blinds b_besides b_tideCount b_cartCount b_due b_pairs b_pull b_strength b_back b_moods b_tides b_carts)) ⟨hx, hb, hml, hown, hw⟩ (c_X4_readSemicolon l dC dI cI cZ cII qr qr_text H.size r_length r_fault_1 r_faultAt_1 r_next_1 r_numberFrom_1 r_text  r_fault_2 r_faultAt_2 r_next_2 hc) (cwV 0 hts (wM_V mw_13_20 mw_13_21 mw_13_22 mw_1_20 mw_13_23) rfl rfl rfl dk_X4_readSemicolon ⟨Nat.le_of_ble_eq_true rfl, Nat.le_of_ble_eq_true rfl⟩) hK hP hD hS hA 4 0 rfl rfl rfl [0, 1] [2, 3, 4, 5, 6, 7, 8] [7, 8, 0, 1, 2, 3, 4, 5, 6] (plC_10 cI cZ cII qr qr_text qb qb_pull qb_strength qb_back qb_moods qb_tides qb_carts r_length r_fault_1 r_faultAt_1 r_next_1 r_numberFrom_1 r_text b_law b_places b_broad b_horses b_blinds b_besides b_tideCount b_cartCount b_due b_pairs b_pull b_strength b_back b_moods b_tides b_carts) rfl (plF_10 cI cZ cII qr qr_text qb qb_pull qb_strength qb_back qb_moods qb_tides qb_carts r_length r_fault_1 r_faultAt_1 r_next_1 r_numberFrom_1 r_text b_law b_places b_broad b_horses b_blinds b_besides b_tideCount b_cartCount b_due b_pairs b_pull b_strength b_back b_moods b_tides b_carts r_length r_fault_2 r_faultAt_2 r_next_2 r_numberFrom_1 r_text) (by decide) rfl hl.1 rfl (Nat.le_of_ble_eq_true rfl) dX4_readDue_9 ⟨Nat.zero_le _, Nat.zero_le _⟩ (fun H locs hP hD hS => ?_)
  refine lv_aload_n hx hb dX4_readDue_12 rfl (lv_at hl 1 rfl) ?_
  refine va_get (D := (dC, dI)) (ci := 4) (v := .int r_fault_2) (C := RX4) (T := TX4) (N := 6) hx hb hw inlX4 hown hK hP 0 rfl rfl 2 (by decide) (hw _ mw_8_13) (fun _ h9 => h9) rfl dX4_readDue_13 ?_
  refine lv_if_ne (tgt := 24) hx hb dX4_readDue_16 (by decide) (fun h9 => ?_) (fun h9 => ?_)
  · have hf := pg_f h9 hf
    exact RET _ _ _ _ _ _ _ _ _ dX4_readDue_24 hP hD hS hf
  · have hf := pg_t h9 hf
    refine lv_aload_n hx hb dX4_readDue_19 rfl (lv_at hl 2 rfl) ?_
    refine lv_iload_n hx hb dX4_readDue_20 rfl (lv_at hl 0 rfl) ?_
    refine va_put (D := (dC, dI)) (ci := 0) (v := .int r_1) (ty := .int) (C := RX0) (T := TX0) (N := 16) hx hb hw inlX0 tyX0 tyX0_ok nmX0 hown hK hP hD hS 2 rfl rfl 8 (by decide) (hw _ mw_12_20) (fun _ h9 => h9) rfl (by decide +kernel) rfl rfl (Nat.le_of_ble_eq_true rfl) dX4_readDue_21 (fun H locs hP hD hS => ?_)
    have hP : va_P (dC, dI) vwCl (W_X4r_X0b cI cZ cII qr qr_text qb qb_pull qb_strength qb_back qb_moods qb_tides qb_carts r_length r_fault_2 r_faultAt_2 r_next_2 r_numberFrom_1 r_text b_law b_places b_broad b_horses b_blinds b_besides b_tideCount b_cartCount r_1 b_pairs b_pull b_strength b_back b_moods b_tides b_carts) H := hP
    have hD : va_D A (W_X4r_X0b cI cZ cII qr qr_text qb qb_pull qb_strength qb_back qb_moods qb_tides qb_carts r_length r_fault_2 r_faultAt_2 r_next_2 r_numberFrom_1 r_text b_law b_places b_broad b_horses b_blinds b_besides b_tideCount b_cartCount r_1 b_pairs b_pull b_strength b_back b_moods b_tides b_carts) := hD
    exact RET _ _ _ _ _ _ _ _ _ dX4_readDue_24 hP hD hS hf
def f_X4_readCart (r_length : Int32) (r_fault : Int32) (r_faultAt : Int32) (r_next : Int32) (r_numberFrom : Int32) (r_text : Nat → Int32) (b_cartCount : Int32) (b_carts : Nat → Int32) : Option (Int32 × Int32 × Int32 × Int32 × Int32 × (Nat → Int32)) :=
  bn5 (f_X4_readNumber (0 : Int32) (60 : Int32) r_length r_fault r_faultAt r_next r_numberFrom r_text) (fun (r_1 : Int32) (r_fault_1 : Int32) (r_faultAt_1 : Int32) (r_next_1 : Int32) (r_numberFrom_1 : Int32) =>
    bn3 (f_X4_readSemicolon r_length r_fault_1 r_faultAt_1 r_next_1 r_text) (fun (r_fault_2 : Int32) (r_faultAt_2 : Int32) (r_next_2 : Int32) =>
      if r_fault_2 = 0 then
        bn2 (f_X0_addCart r_1 b_cartCount b_carts) (fun (b_cartCount_3 : Int32) (b_carts_3 : Nat → Int32) =>
          some (r_fault_2, r_faultAt_2, r_next_2, r_numberFrom_1, b_cartCount_3, b_carts_3)
        )
      else
        some (r_fault_2, r_faultAt_2, r_next_2, r_numberFrom_1, b_cartCount, b_carts)
    )
  )
set_option maxRecDepth 100000 in
theorem plC_11 (cI cZ cII : ClassId) (qr qr_text qb qb_pull qb_strength qb_back qb_moods qb_tides qb_carts : Nat) (r_length : Int32) (r_fault : Int32) (r_faultAt : Int32) (r_next : Int32) (r_numberFrom : Int32) (r_text : Nat → Int32) (b_law : Int32) (b_places : Int32) (b_broad : Int32) (b_horses : Int32) (b_blinds : Int32) (b_besides : Int32) (b_tideCount : Int32) (b_cartCount : Int32) (b_due : Int32) (b_pairs : Int64) (b_pull : Nat → Int32) (b_strength : Nat → Int32) (b_back : Nat → Int32) (b_moods : Nat → Int32) (b_tides : Nat → Int32) (b_carts : Nat → Int32) : ([2, 3, 4, 5, 6, 7, 8] : List Nat).map (fun i => (W_X4r_X0b cI cZ cII qr qr_text qb qb_pull qb_strength qb_back qb_moods qb_tides qb_carts r_length r_fault r_faultAt r_next r_numberFrom r_text b_law b_places b_broad b_horses b_blinds b_besides b_tideCount b_cartCount b_due b_pairs b_pull b_strength b_back b_moods b_tides b_carts)[i]?) = (W_X0b cI cZ cII qb qb_pull qb_strength qb_back qb_moods qb_tides qb_carts b_law b_places b_broad b_horses b_blinds b_besides b_tideCount b_cartCount b_due b_pairs b_pull b_strength b_back b_moods b_tides b_carts).map some := rfl
set_option maxRecDepth 100000 in
theorem plF_11 (cI cZ cII : ClassId) (qr qr_text qb qb_pull qb_strength qb_back qb_moods qb_tides qb_carts : Nat) (r_length : Int32) (r_fault : Int32) (r_faultAt : Int32) (r_next : Int32) (r_numberFrom : Int32) (r_text : Nat → Int32) (b_law : Int32) (b_places : Int32) (b_broad : Int32) (b_horses : Int32) (b_blinds : Int32) (b_besides : Int32) (b_tideCount : Int32) (b_cartCount : Int32) (b_due : Int32) (b_pairs : Int64) (b_pull : Nat → Int32) (b_strength : Nat → Int32) (b_back : Nat → Int32) (b_moods : Nat → Int32) (b_tides : Nat → Int32) (b_carts : Nat → Int32) (b9b_law : Int32) (b9b_places : Int32) (b9b_broad : Int32) (b9b_horses : Int32) (b9b_blinds : Int32) (b9b_besides : Int32) (b9b_tideCount : Int32) (b9b_cartCount : Int32) (b9b_due : Int32) (b9b_pairs : Int64) (b9b_pull : Nat → Int32) (b9b_strength : Nat → Int32) (b9b_back : Nat → Int32) (b9b_moods : Nat → Int32) (b9b_tides : Nat → Int32) (b9b_carts : Nat → Int32) : ([0, 1, 2, 3, 4, 5, 6, 7, 8] : List Nat).map (fun i => (pickW (W_X4r_X0b cI cZ cII qr qr_text qb qb_pull qb_strength qb_back qb_moods qb_tides qb_carts r_length r_fault r_faultAt r_next r_numberFrom r_text b_law b_places b_broad b_horses b_blinds b_besides b_tideCount b_cartCount b_due b_pairs b_pull b_strength b_back b_moods b_tides b_carts) ([0, 1] : List Nat) ++ (W_X0b cI cZ cII qb qb_pull qb_strength qb_back qb_moods qb_tides qb_carts b9b_law b9b_places b9b_broad b9b_horses b9b_blinds b9b_besides b9b_tideCount b9b_cartCount b9b_due b9b_pairs b9b_pull b9b_strength b9b_back b9b_moods b9b_tides b9b_carts))[i]?) = (W_X4r_X0b cI cZ cII qr qr_text qb qb_pull qb_strength qb_back qb_moods qb_tides qb_carts r_length r_fault r_faultAt r_next r_numberFrom r_text b9b_law b9b_places b9b_broad b9b_horses b9b_blinds b9b_besides b9b_tideCount b9b_cartCount b9b_due b9b_pairs b9b_pull b9b_strength b9b_back b9b_moods b9b_tides b9b_carts).map some := rfl
abbrev rm_X4_readCart : Room := { frames := 2, cells := 0, slots := 0, locals := 46 }
theorem dk_X4_readCart : yX4_readCart.cls = RX4 ∧ yX4_readCart.cls ≠ "java/lang/invoke/MethodHandle" ∧ yX4_readCart.cls ≠ "java/lang/invoke/VarHandle" ∧ (parseMethodDescriptor yX4_readCart.desc).map (fun d => d.parameters.length) = some 1 := by decide +kernel
set_option maxHeartbeats 4000000 in
set_option maxRecDepth 100000 in
theorem c_X4_readCart (l : Launch) (dC : Nat → ClassId) (dI : Nat → Nat → Nat) (cI cZ cII : ClassId) (qr qr_text qb qb_pull qb_strength qb_back qb_moods qb_tides qb_carts : Nat) (sz : Nat) (r_length : Int32) (r_fault : Int32) (r_faultAt : Int32) (r_next : Int32) (r_numberFrom : Int32) (r_text : Nat → Int32) (b_law : Int32) (b_places : Int32) (b_broad : Int32) (b_horses : Int32) (b_blinds : Int32) (b_besides : Int32) (b_tideCount : Int32) (b_cartCount : Int32) (b_due : Int32) (b_pairs : Int64) (b_pull : Nat → Int32) (b_strength : Nat → Int32) (b_back : Nat → Int32) (b_moods : Nat → Int32) (b_tides : Nat → Int32) (b_carts : Nat → Int32) (r_fault' : Int32) (r_faultAt' : Int32) (r_next' : Int32) (r_numberFrom' : Int32) (b_cartCount' : Int32) (b_carts' : Nat → Int32) (hf : f_X4_readCart r_length r_fault r_faultAt r_next r_numberFrom r_text b_cartCount b_carts = some (r_fault', r_faultAt', r_next', r_numberFrom', b_cartCount', b_carts')) : Met l yX4_readCart (wM yX4_readCart cX4_readCart 3 none) rm_X4_readCart (PreW (dC, dI) (tyA cI cZ cII) (W_X4r_X0b cI cZ cII qr qr_text qb qb_pull qb_strength qb_back qb_moods qb_tides qb_carts r_length r_fault r_faultAt r_next r_numberFrom r_text b_law b_places b_broad b_horses b_blinds b_besides b_tideCount b_cartCount b_due b_pairs b_pull b_strength b_back b_moods b_tides b_carts) sz [.ref qr, .ref qb]) (PostV (dC, dI) (tyA cI cZ cII) (W_X4r_X0b cI cZ cII qr qr_text qb qb_pull qb_strength qb_back qb_moods qb_tides qb_carts r_length r_fault r_faultAt r_next r_numberFrom r_text b_law b_places b_broad b_horses b_blinds b_besides b_tideCount b_cartCount b_due b_pairs b_pull b_strength b_back b_moods b_tides b_carts) (W_X4r_X0b cI cZ cII qr qr_text qb qb_pull qb_strength qb_back qb_moods qb_tides qb_carts r_length r_fault' r_faultAt' r_next' r_numberFrom' r_text b_law b_places b_broad b_horses b_blinds b_besides b_tideCount b_cartCount' b_due b_pairs b_pull b_strength b_back b_moods b_tides b_carts') sz) 0 0 (va_A (W_X4r_X0b cI cZ cII qr qr_text qb qb_pull qb_strength qb_back qb_moods qb_tides qb_carts r_length r_fault r_faultAt r_next r_numberFrom r_text b_law b_places b_broad b_horses b_blinds b_besides b_tideCount b_cartCount b_due b_pairs b_pull b_strength b_back b_moods b_tides b_carts) sz) := by
  refine Met.ofW (cc := cX4_readCart) (maxL := 3) (ret := none) (by decide) rfl ?_
  intro p e s m args below meth c s₁ B hml hv
  obtain ⟨rfl, hsz, hP, hK, hD0⟩ := hv
  have hx := B.exec
  have hb := B.bytes
  have hr := B.returns
  have hts := atoms_spec (ws := wM yX4_readCart cX4_readCart 3 none) B.pre
  have hown : s.vm.findClass RX4 = some m.cls := findClass_of_methodNamed B.named
  have hlocks := B.notSynchronized
  subst hsz
  have hD := hD0.self (sz := s.heap.size)
  obtain ⟨A, hAe⟩ : ∃ A, A = va_A (W_X4r_X0b cI cZ cII qr qr_text qb qb_pull qb_strength qb_back qb_moods qb_tides qb_carts r_length r_fault r_faultAt r_next r_numberFrom r_text b_law b_places b_broad b_horses b_blinds b_besides b_tideCount b_cartCount b_due b_pairs b_pull b_strength b_back b_moods b_tides b_carts) s.heap.size := ⟨_, rfl⟩
  rw [← hAe] at hD
  have hA : ∀ q : Nat, s.heap.size ≤ q → A q := fun q h => by rw [hAe]; exact Or.inr h
  have hS : va_S A s.heap s.heap [] := va_S.rf
  have hl := lv_entry ([.ref qr, .ref qb]) (n := 3) (Nat.le_of_ble_eq_true rfl)
  rw [lg_entry_eq]
  generalize (lg_sl ([.ref qr, .ref qb]) ++ List.replicate (3 - (lg_sl ([.ref qr, .ref qb])).length) Slot.unset).toArray = ls at hl ⊢
  have hl : lv_has ls 3 [(0, .ref qr), (1, .ref qb)] := hl
  generalize ([.ref qr, .ref qb] : List Value).toArray = args at hts ⊢
  have hw : ∀ w ∈ wsL_law, w.before args s = true := fun w h => hts w (List.mem_cons_of_mem _ h)
  refine pg_start (fun Q hQ => ?_)
  have RET : ∀ (H : Heap) (locs : List Loc) (ls : Array Slot) (pc : Nat) (x0 : Int32) (x1 : Int32) (x2 : Int32) (x3 : Int32) (x4 : Int32) (x5 : Nat → Int32) , decode cX4_readCart pc = .ok (.return_, 1) → va_P (dC, dI) vwCl (W_X4r_X0b cI cZ cII qr qr_text qb qb_pull qb_strength qb_back qb_moods qb_tides qb_carts r_length x0 x1 x2 x3 r_text b_law b_places b_broad b_horses b_blinds b_besides b_tideCount x4 b_due b_pairs b_pull b_strength b_back b_moods b_tides x5) H → va_D A (W_X4r_X0b cI cZ cII qr qr_text qb qb_pull qb_strength qb_back qb_moods qb_tides qb_carts r_length x0 x1 x2 x3 r_text b_law b_places b_broad b_horses b_blinds b_besides b_tideCount x4 b_due b_pairs b_pull b_strength b_back b_moods b_tides x5) → va_S A s.heap H locs → (some (x0, x1, x2, x3, x4, x5) : Option (Int32 × Int32 × Int32 × Int32 × Int32 × (Nat → Int32))) = some (r_fault', r_faultAt', r_next', r_numberFrom', b_cartCount', b_carts') → W p l e rm_X4_readCart s m args below meth c H locs 0 0 Q (F0 m pc ls []) := by
    intro H locs ls pc x0 x1 x2 x3 x4 x5 hd hP hD hS he
    subst hAe; subst hQ
    simp only [Option.some.injEq, Prod.mk.injEq] at he
    obtain ⟨rfl, rfl, rfl, rfl, rfl, rfl⟩ := he
    exact pg_vret hx hb hr hlocks hK hP hD hS hd
  unfold f_X4_readCart at hf
  refine lv_aload_n hx hb dX4_readCart_0 rfl (lv_at hl 0 rfl) ?_
  refine lv_iconst (v := (0 : Int32)) hx hb dX4_readCart_1 (by decide) ?_
  refine lv_bipush (v := (60 : Int32)) hx hb dX4_readCart_2 (by decide) ?_
  obtain ⟨r_1, r_fault_1, r_faultAt_1, r_next_1, r_numberFrom_1, hc, hf⟩ := bn5_s hf
  refine pg_cVi (As := [.int (0 : Int32), .int (60 : Int32)]) (rest := []) (wf := (W_X4r_X0b cI cZ cII qr qr_text qb qb_pull qb_strength qb_back qb_moods qb_tides qb_carts r_length r_fault_1 r_faultAt_1 r_next_1 r_numberFrom_1 r_text b_law b_places b_broad b_horses b_blinds b_besides b_tideCount b_cartCount b_due b_pairs b_pull b_strength b_back b_moods b_tides b_carts)) ⟨hx, hb, hml, hown, hw⟩ (c_X4_readNumber l dC dI cI cZ cII qr qr_text s.heap.size r_length r_fault r_faultAt r_next r_numberFrom r_text (0 : Int32) (60 : Int32) r_1 r_fault_1 r_faultAt_1 r_next_1 r_numberFrom_1 hc) (cwV 2 hts (wM_V mw_13_11 mw_13_12 mw_13_13 mw_1_20 mw_13_14) rfl rfl rfl dk_X4_readNumber ⟨Nat.le_of_ble_eq_true rfl, Nat.le_of_ble_eq_true rfl⟩) hK hP hD hS hA 4 0 rfl rfl rfl [0, 1] [2, 3, 4, 5, 6, 7, 8] [7, 8, 0, 1, 2, 3, 4, 5, 6] (plC_10 cI cZ cII qr qr_text qb qb_pull qb_strength qb_back qb_moods qb_tides qb_carts r_length r_fault r_faultAt r_next r_numberFrom r_text b_law b_places b_broad b_horses b_blinds b_besides b_tideCount b_cartCount b_due b_pairs b_pull b_strength b_back b_moods b_tides b_carts) rfl (plF_10 cI cZ cII qr qr_text qb qb_pull qb_strength qb_back qb_moods qb_tides qb_carts r_length r_fault r_faultAt r_next r_numberFrom r_text b_law b_places b_broad b_horses b_blinds b_besides b_tideCount b_cartCount b_due b_pairs b_pull b_strength b_back b_moods b_tides b_carts r_length r_fault_1 r_faultAt_1 r_next_1 r_numberFrom_1 r_text) (by decide) rfl hl.1 rfl (Nat.le_of_ble_eq_true rfl) dX4_readCart_4 ⟨Nat.zero_le _, Nat.zero_le _⟩ (fun H locs hP hD hS => ?_)
  refine lv_istore_n (lv' := [(2, .int r_1), (0, .ref qr), (1, .ref qb)]) hx hb dX4_readCart_7 rfl hl (by decide) rfl (fun ls hl => ?_)
  refine lv_aload_n hx hb dX4_readCart_8 rfl (lv_at hl 1 rfl) ?_
  obtain ⟨r_fault_2, r_faultAt_2, r_next_2, hc, hf⟩ := bn3_s hf
  refine pg_cVv (As := []) (rest := []) (wf := (W_X4r_X0b cI cZ cII qr qr_text qb qb_pull qb_strength qb_back qb_moods qb_tides qb_carts r_length r_fault_2 r_faultAt_2 r_next_2 r_numberFrom_1 r_text b_law b_places b_broad b_horses b_blinds b_besides b_tideCount b_cartCount b_due b_pairs b_pull b_strength b_back b_moods b_tides b_carts)) ⟨hx, hb, hml, hown, hw⟩ (c_X4_readSemicolon l dC dI cI cZ cII qr qr_text H.size r_length r_fault_1 r_faultAt_1 r_next_1 r_numberFrom_1 r_text  r_fault_2 r_faultAt_2 r_next_2 hc) (cwV 0 hts (wM_V mw_13_20 mw_13_21 mw_13_22 mw_1_20 mw_13_23) rfl rfl rfl dk_X4_readSemicolon ⟨Nat.le_of_ble_eq_true rfl, Nat.le_of_ble_eq_true rfl⟩) hK hP hD hS hA 4 0 rfl rfl rfl [0, 1] [2, 3, 4, 5, 6, 7, 8] [7, 8, 0, 1, 2, 3, 4, 5, 6] (plC_10 cI cZ cII qr qr_text qb qb_pull qb_strength qb_back qb_moods qb_tides qb_carts r_length r_fault_1 r_faultAt_1 r_next_1 r_numberFrom_1 r_text b_law b_places b_broad b_horses b_blinds b_besides b_tideCount b_cartCount b_due b_pairs b_pull b_strength b_back b_moods b_tides b_carts) rfl (plF_10 cI cZ cII qr qr_text qb qb_pull qb_strength qb_back qb_moods qb_tides qb_carts r_length r_fault_1 r_faultAt_1 r_next_1 r_numberFrom_1 r_text b_law b_places b_broad b_horses b_blinds b_besides b_tideCount b_cartCount b_due b_pairs b_pull b_strength b_back b_moods b_tides b_carts r_length r_fault_2 r_faultAt_2 r_next_2 r_numberFrom_1 r_text) (by decide) rfl hl.1 rfl (Nat.le_of_ble_eq_true rfl) dX4_readCart_9 ⟨Nat.zero_le _, Nat.zero_le _⟩ (fun H locs hP hD hS => ?_)
  refine lv_aload_n hx hb dX4_readCart_12 rfl (lv_at hl 1 rfl) ?_
  refine va_get (D := (dC, dI)) (ci := 4) (v := .int r_fault_2) (C := RX4) (T := TX4) (N := 6) hx hb hw inlX4 hown hK hP 0 rfl rfl 2 (by decide) (hw _ mw_8_13) (fun _ h9 => h9) rfl dX4_readCart_13 ?_
  refine lv_if_ne (tgt := 24) hx hb dX4_readCart_16 (by decide) (fun h9 => ?_) (fun h9 => ?_)
  · have hf := pg_f h9 hf
    exact RET _ _ _ _ _ _ _ _ _ _ dX4_readCart_24 hP hD hS hf
  · have hf := pg_t h9 hf
    refine lv_aload_n hx hb dX4_readCart_19 rfl (lv_at hl 2 rfl) ?_
    refine lv_iload_n hx hb dX4_readCart_20 rfl (lv_at hl 0 rfl) ?_
    obtain ⟨b_cartCount_3, b_carts_3, hc, hf⟩ := bn2_s hf
    refine pg_cVv (As := [.int r_1]) (rest := []) (wf := (W_X4r_X0b cI cZ cII qr qr_text qb qb_pull qb_strength qb_back qb_moods qb_tides qb_carts r_length r_fault_2 r_faultAt_2 r_next_2 r_numberFrom_1 r_text b_law b_places b_broad b_horses b_blinds b_besides b_tideCount b_cartCount_3 b_due b_pairs b_pull b_strength b_back b_moods b_tides b_carts_3)) ⟨hx, hb, hml, hown, hw⟩ (c_X0_addCart l dC dI cI cZ cII qb qb_pull qb_strength qb_back qb_moods qb_tides qb_carts H.size b_law b_places b_broad b_horses b_blinds b_besides b_tideCount b_cartCount b_due b_pairs b_pull b_strength b_back b_moods b_tides b_carts r_1 b_cartCount_3 b_carts_3 hc) (cwV 1 hts (wM_V mw_16_5 mw_16_6 mw_16_7 mw_1_15 mw_16_8) rfl rfl rfl dk_X0_addCart ⟨Nat.le_of_ble_eq_true rfl, Nat.le_of_ble_eq_true rfl⟩) hK hP hD hS hA 0 0 rfl rfl rfl [2, 3, 4, 5, 6, 7, 8] [0, 1] [0, 1, 2, 3, 4, 5, 6, 7, 8] (plC_11 cI cZ cII qr qr_text qb qb_pull qb_strength qb_back qb_moods qb_tides qb_carts r_length r_fault_2 r_faultAt_2 r_next_2 r_numberFrom_1 r_text b_law b_places b_broad b_horses b_blinds b_besides b_tideCount b_cartCount b_due b_pairs b_pull b_strength b_back b_moods b_tides b_carts) rfl (plF_11 cI cZ cII qr qr_text qb qb_pull qb_strength qb_back qb_moods qb_tides qb_carts r_length r_fault_2 r_faultAt_2 r_next_2 r_numberFrom_1 r_text b_law b_places b_broad b_horses b_blinds b_besides b_tideCount b_cartCount b_due b_pairs b_pull b_strength b_back b_moods b_tides b_carts b_law b_places b_broad b_horses b_blinds b_besides b_tideCount b_cartCount_3 b_due b_pairs b_pull b_strength b_back b_moods b_tides b_carts_3) (by decide) rfl hl.1 rfl (Nat.le_of_ble_eq_true rfl) dX4_readCart_21 ⟨Nat.zero_le _, Nat.zero_le _⟩ (fun H locs hP hD hS => ?_)
    exact RET _ _ _ _ _ _ _ _ _ _ dX4_readCart_24 hP hD hS hf
def f_X4_takeComma (r_length : Int32) (r_fault : Int32) (r_next : Int32) (r_text : Nat → Int32) : Option (Int32 × Int32) :=
  bn1 (f_X4_skipBlanks r_length r_next r_text) (fun (r_next_1 : Int32) =>
    if r_fault = 0 then
      bn1 (f_X4_isSign (44 : Int32) r_length r_next_1 r_text) (fun (r_2 : Int32) =>
        if r_2 = 0 then
          some ((0 : Int32), r_next_1)
        else
          some ((1 : Int32), (r_next_1 + (1 : Int32)))
      )
    else
      some ((0 : Int32), r_next_1)
  )
abbrev rm_X4_takeComma : Room := { frames := 1, cells := 0, slots := 0, locals := 21 }
theorem dk_X4_takeComma : yX4_takeComma.cls = RX4 ∧ yX4_takeComma.cls ≠ "java/lang/invoke/MethodHandle" ∧ yX4_takeComma.cls ≠ "java/lang/invoke/VarHandle" ∧ (parseMethodDescriptor yX4_takeComma.desc).map (fun d => d.parameters.length) = some 0 := by decide +kernel
set_option maxHeartbeats 4000000 in
set_option maxRecDepth 100000 in
theorem c_X4_takeComma (l : Launch) (dC : Nat → ClassId) (dI : Nat → Nat → Nat) (cI cZ cII : ClassId) (qr qr_text : Nat) (sz : Nat) (r_length : Int32) (r_fault : Int32) (r_faultAt : Int32) (r_next : Int32) (r_numberFrom : Int32) (r_text : Nat → Int32) (rr : Int32) (r_next' : Int32) (hf : f_X4_takeComma r_length r_fault r_next r_text = some (rr, r_next')) : Met l yX4_takeComma (wM yX4_takeComma cX4_takeComma 1 (some .boolean)) rm_X4_takeComma (PreW (dC, dI) (tyA cI cZ cII) (W_X4r cI cZ cII qr qr_text r_length r_fault r_faultAt r_next r_numberFrom r_text) sz [.ref qr]) (PostI (dC, dI) (tyA cI cZ cII) rr (W_X4r cI cZ cII qr qr_text r_length r_fault r_faultAt r_next r_numberFrom r_text) (W_X4r cI cZ cII qr qr_text r_length r_fault r_faultAt r_next' r_numberFrom r_text) sz) 0 0 (va_A (W_X4r cI cZ cII qr qr_text r_length r_fault r_faultAt r_next r_numberFrom r_text) sz) := by
  refine Met.ofW (cc := cX4_takeComma) (maxL := 1) (ret := (some .boolean)) (by decide) rfl ?_
  intro p e s m args below meth c s₁ B hml hv
  obtain ⟨rfl, hsz, hP, hK, hD0⟩ := hv
  have hx := B.exec
  have hb := B.bytes
  have hr := B.returns
  have hts := atoms_spec (ws := wM yX4_takeComma cX4_takeComma 1 (some .boolean)) B.pre
  have hown : s.vm.findClass RX4 = some m.cls := findClass_of_methodNamed B.named
  have hlocks := B.notSynchronized
  subst hsz
  have hD := hD0.self (sz := s.heap.size)
  obtain ⟨A, hAe⟩ : ∃ A, A = va_A (W_X4r cI cZ cII qr qr_text r_length r_fault r_faultAt r_next r_numberFrom r_text) s.heap.size := ⟨_, rfl⟩
  rw [← hAe] at hD
  have hA : ∀ q : Nat, s.heap.size ≤ q → A q := fun q h => by rw [hAe]; exact Or.inr h
  have hS : va_S A s.heap s.heap [] := va_S.rf
  have hl := lv_entry ([.ref qr]) (n := 1) (Nat.le_of_ble_eq_true rfl)
  rw [lg_entry_eq]
  generalize (lg_sl ([.ref qr]) ++ List.replicate (1 - (lg_sl ([.ref qr])).length) Slot.unset).toArray = ls at hl ⊢
  have hl : lv_has ls 1 [(0, .ref qr)] := hl
  generalize ([.ref qr] : List Value).toArray = args at hts ⊢
  have hw : ∀ w ∈ wsL_law, w.before args s = true := fun w h => hts w (List.mem_cons_of_mem _ h)
  refine pg_start (fun Q hQ => ?_)
  have RET : ∀ (H : Heap) (locs : List Loc) (ls : Array Slot) (pc : Nat) (v : Int32) (x0 : Int32) , decode cX4_takeComma pc = .ok (.ireturn, 1) → (v = 0 ∨ v = 1) → va_P (dC, dI) vwCl (W_X4r cI cZ cII qr qr_text r_length r_fault r_faultAt x0 r_numberFrom r_text) H → va_D A (W_X4r cI cZ cII qr qr_text r_length r_fault r_faultAt x0 r_numberFrom r_text) → va_S A s.heap H locs → (some (v, x0) : Option (Int32 × Int32)) = some (rr, r_next') → W p l e rm_X4_takeComma s m args below meth c H locs 0 0 Q (F0 m pc ls [.int v]) := by
    intro H locs ls pc v x0 hd hz hP hD hS he
    subst hAe; subst hQ
    simp only [Option.some.injEq, Prod.mk.injEq] at he
    obtain ⟨rfl, rfl⟩ := he
    exact pg_zret hx hb hr hlocks hz hK hP hD hS hd
  unfold f_X4_takeComma at hf
  refine lv_aload_n hx hb dX4_takeComma_0 rfl (lv_at hl 0 rfl) ?_
  obtain ⟨r_next_1, hc, hf⟩ := bn1_s hf
  refine pg_cVv (As := []) (rest := []) (wf := (W_X4r cI cZ cII qr qr_text r_length r_fault r_faultAt r_next_1 r_numberFrom r_text)) ⟨hx, hb, hml, hown, hw⟩ (c_X4_skipBlanks l dC dI cI cZ cII qr qr_text s.heap.size r_length r_fault r_faultAt r_next r_numberFrom r_text  r_next_1 hc) (cwV 0 hts (wM_V mw_9_6 mw_9_7 mw_9_8 mw_1_20 mw_9_9) rfl rfl rfl dk_X4_skipBlanks ⟨Nat.le_of_ble_eq_true rfl, Nat.le_of_ble_eq_true rfl⟩) hK hP hD hS hA 4 0 rfl rfl rfl [0, 1] [] [0, 1] (plC_9 cI cZ cII qr qr_text r_length r_fault r_faultAt r_next r_numberFrom r_text) rfl (plF_9 cI cZ cII qr qr_text r_length r_fault r_faultAt r_next r_numberFrom r_text r_length r_fault r_faultAt r_next_1 r_numberFrom r_text) (by decide) rfl hl.1 rfl (Nat.le_of_ble_eq_true rfl) dX4_takeComma_1 ⟨Nat.zero_le _, Nat.zero_le _⟩ (fun H locs hP hD hS => ?_)
  refine lv_aload_n hx hb dX4_takeComma_4 rfl (lv_at hl 0 rfl) ?_
  refine va_get (D := (dC, dI)) (ci := 4) (v := .int r_fault) (C := RX4) (T := TX4) (N := 6) hx hb hw inlX4 hown hK hP 0 rfl rfl 2 (by decide) (hw _ mw_8_13) (fun _ h9 => h9) rfl dX4_takeComma_5 ?_
  refine lv_if_ne (tgt := 20) hx hb dX4_takeComma_8 (by decide) (fun h9 => ?_) (fun h9 => ?_)
  · have hf := pg_f h9 hf
    refine lv_iconst (v := (0 : Int32)) hx hb dX4_takeComma_20 (by decide) ?_
    exact RET _ _ _ _ _ _ dX4_takeComma_21 (by decide) hP hD hS hf
  · have hf := pg_t h9 hf
    refine lv_aload_n hx hb dX4_takeComma_11 rfl (lv_at hl 0 rfl) ?_
    refine lv_bipush (v := (44 : Int32)) hx hb dX4_takeComma_12 (by decide) ?_
    obtain ⟨r_2, hc, hf⟩ := bn1_s hf
    refine pg_cVi (As := [.int (44 : Int32)]) (rest := []) (wf := (W_X4r cI cZ cII qr qr_text r_length r_fault r_faultAt r_next_1 r_numberFrom r_text)) ⟨hx, hb, hml, hown, hw⟩ (c_X4_isSign l dC dI cI cZ cII qr qr_text H.size r_length r_fault r_faultAt r_next_1 r_numberFrom r_text (44 : Int32) r_2 hc) (cwV 1 hts (wM_V mw_14_0 mw_14_1 mw_14_2 mw_1_20 mw_14_3) rfl rfl rfl dk_X4_isSign ⟨Nat.le_of_ble_eq_true rfl, Nat.le_of_ble_eq_true rfl⟩) hK hP hD hS hA 4 0 rfl rfl rfl [0, 1] [] [0, 1] (plC_9 cI cZ cII qr qr_text r_length r_fault r_faultAt r_next_1 r_numberFrom r_text) rfl (plF_9 cI cZ cII qr qr_text r_length r_fault r_faultAt r_next_1 r_numberFrom r_text r_length r_fault r_faultAt r_next_1 r_numberFrom r_text) (by decide) rfl hl.1 rfl (Nat.le_of_ble_eq_true rfl) dX4_takeComma_14 ⟨Nat.zero_le _, Nat.zero_le _⟩ (fun H locs hP hD hS => ?_)
    refine lv_if_ne (tgt := 22) hx hb dX4_takeComma_17 (by decide) (fun h9 => ?_) (fun h9 => ?_)
    · have hf := pg_f h9 hf
      refine lv_aload_n hx hb dX4_takeComma_22 rfl (lv_at hl 0 rfl) ?_
      refine lv_dup hx hb dX4_takeComma_23 rfl ?_
      refine va_get (D := (dC, dI)) (ci := 4) (v := .int r_next_1) (C := RX4) (T := TX4) (N := 6) hx hb hw inlX4 hown hK hP 0 rfl rfl 4 (by decide) (hw _ mw_8_14) (fun _ h9 => h9) rfl dX4_takeComma_24 ?_
      refine lv_iconst (v := (1 : Int32)) hx hb dX4_takeComma_27 (by decide) ?_
      refine lv_iadd hx hb dX4_takeComma_28 ?_
      refine va_put (D := (dC, dI)) (ci := 4) (v := .int (r_next_1 + (1 : Int32))) (ty := .int) (C := RX4) (T := TX4) (N := 6) hx hb hw inlX4 tyX4 tyX4_ok nmX4 hown hK hP hD hS 0 rfl rfl 4 (by decide) (hw _ mw_8_14) (fun _ h9 => h9) rfl (by decide +kernel) rfl rfl (Nat.le_of_ble_eq_true rfl) dX4_takeComma_29 (fun H locs hP hD hS => ?_)
      have hP : va_P (dC, dI) vwCl (W_X4r cI cZ cII qr qr_text r_length r_fault r_faultAt (r_next_1 + (1 : Int32)) r_numberFrom r_text) H := hP
      have hD : va_D A (W_X4r cI cZ cII qr qr_text r_length r_fault r_faultAt (r_next_1 + (1 : Int32)) r_numberFrom r_text) := hD
      refine lv_iconst (v := (1 : Int32)) hx hb dX4_takeComma_32 (by decide) ?_
      exact RET _ _ _ _ _ _ dX4_takeComma_33 (by decide) hP hD hS hf
    · have hf := pg_t h9 hf
      refine lv_iconst (v := (0 : Int32)) hx hb dX4_takeComma_20 (by decide) ?_
      exact RET _ _ _ _ _ _ dX4_takeComma_21 (by decide) hP hD hS hf
def f_X4_readTide (r_length : Int32) (r_fault : Int32) (r_faultAt : Int32) (r_next : Int32) (r_numberFrom : Int32) (r_text : Nat → Int32) (b_tideCount : Int32) (b_tides : Nat → Int32) : Option (Int32 × Int32 × Int32 × Int32 × Int32 × (Nat → Int32)) :=
  jn6 (fun (r_fault_1 : Int32) (r_faultAt_1 : Int32) (r_next_1 : Int32) (r_numberFrom_1 : Int32) (b_tideCount_1 : Int32) (b_tides_1 : Nat → Int32) =>
    bn3 (f_X4_readSemicolon r_length r_fault_1 r_faultAt_1 r_next_1 r_text) (fun (r_fault_2 : Int32) (r_faultAt_2 : Int32) (r_next_2 : Int32) =>
      some (r_fault_2, r_faultAt_2, r_next_2, r_numberFrom_1, b_tideCount_1, b_tides_1)
    )
  ) (fun K61_1 =>
  lq8 (fun rec3 (y2_3 : Int32) (y3_3 : Int32) (r_fault_3 : Int32) (r_faultAt_3 : Int32) (r_next_3 : Int32) (r_numberFrom_3 : Int32) (b_tideCount_3 : Int32) (b_tides_3 : Nat → Int32) =>
    if (12 : Int32) ≤ y3_3 then
      K61_1 r_fault_3 r_faultAt_3 r_next_3 r_numberFrom_3 b_tideCount_3 b_tides_3
    else
      if y2_3 = 0 then
        K61_1 r_fault_3 r_faultAt_3 r_next_3 r_numberFrom_3 b_tideCount_3 b_tides_3
      else
        bn5 (f_X4_readNumber (0 : Int32) (40 : Int32) r_length r_fault_3 r_faultAt_3 r_next_3 r_numberFrom_3 r_text) (fun (r_4 : Int32) (r_fault_4 : Int32) (r_faultAt_4 : Int32) (r_next_4 : Int32) (r_numberFrom_4 : Int32) =>
          jn2 (fun (b_tideCount_5 : Int32) (b_tides_5 : Nat → Int32) =>
            jn2 (fun (r_next_6 : Int32) (z0_6 : Int32) =>
              rec3 z0_6 (y3_3 + (1 : Int32)) r_fault_4 r_faultAt_4 r_next_6 r_numberFrom_4 b_tideCount_5 b_tides_5
            ) (fun J54_6 =>
            jn1 (fun (r_next_7 : Int32) =>
              J54_6 r_next_7 (0 : Int32)
            ) (fun J53_7 =>
            if (11 : Int32) ≤ y3_3 then
              J53_7 r_next_4
            else
              bn2 (f_X4_takeComma r_length r_fault_4 r_next_4 r_text) (fun (r_8 : Int32) (r_next_8 : Int32) =>
                if r_8 = 0 then
                  J53_7 r_next_8
                else
                  J54_6 r_next_8 (1 : Int32)
              )
            )
            )
          ) (fun J36_5 =>
          if r_fault_4 = 0 then
            bn2 (f_X0_addTide r_4 b_tideCount_3 b_tides_3) (fun (b_tideCount_9 : Int32) (b_tides_9 : Nat → Int32) =>
              J36_5 b_tideCount_9 b_tides_9
            )
          else
            J36_5 b_tideCount_3 b_tides_3
          )
        )
  ) fu (1 : Int32) (0 : Int32) r_fault r_faultAt r_next r_numberFrom b_tideCount b_tides
  )
abbrev rm_X4_readTide : Room := { frames := 2, cells := 0, slots := 0, locals := 46 }
theorem dk_X4_readTide : yX4_readTide.cls = RX4 ∧ yX4_readTide.cls ≠ "java/lang/invoke/MethodHandle" ∧ yX4_readTide.cls ≠ "java/lang/invoke/VarHandle" ∧ (parseMethodDescriptor yX4_readTide.desc).map (fun d => d.parameters.length) = some 1 := by decide +kernel
set_option maxHeartbeats 4000000 in
set_option maxRecDepth 100000 in
theorem c_X4_readTide (l : Launch) (dC : Nat → ClassId) (dI : Nat → Nat → Nat) (cI cZ cII : ClassId) (qr qr_text qb qb_pull qb_strength qb_back qb_moods qb_tides qb_carts : Nat) (sz : Nat) (r_length : Int32) (r_fault : Int32) (r_faultAt : Int32) (r_next : Int32) (r_numberFrom : Int32) (r_text : Nat → Int32) (b_law : Int32) (b_places : Int32) (b_broad : Int32) (b_horses : Int32) (b_blinds : Int32) (b_besides : Int32) (b_tideCount : Int32) (b_cartCount : Int32) (b_due : Int32) (b_pairs : Int64) (b_pull : Nat → Int32) (b_strength : Nat → Int32) (b_back : Nat → Int32) (b_moods : Nat → Int32) (b_tides : Nat → Int32) (b_carts : Nat → Int32) (r_fault' : Int32) (r_faultAt' : Int32) (r_next' : Int32) (r_numberFrom' : Int32) (b_tideCount' : Int32) (b_tides' : Nat → Int32) (hf : f_X4_readTide r_length r_fault r_faultAt r_next r_numberFrom r_text b_tideCount b_tides = some (r_fault', r_faultAt', r_next', r_numberFrom', b_tideCount', b_tides')) : Met l yX4_readTide (wM yX4_readTide cX4_readTide 5 none) rm_X4_readTide (PreW (dC, dI) (tyA cI cZ cII) (W_X4r_X0b cI cZ cII qr qr_text qb qb_pull qb_strength qb_back qb_moods qb_tides qb_carts r_length r_fault r_faultAt r_next r_numberFrom r_text b_law b_places b_broad b_horses b_blinds b_besides b_tideCount b_cartCount b_due b_pairs b_pull b_strength b_back b_moods b_tides b_carts) sz [.ref qr, .ref qb]) (PostV (dC, dI) (tyA cI cZ cII) (W_X4r_X0b cI cZ cII qr qr_text qb qb_pull qb_strength qb_back qb_moods qb_tides qb_carts r_length r_fault r_faultAt r_next r_numberFrom r_text b_law b_places b_broad b_horses b_blinds b_besides b_tideCount b_cartCount b_due b_pairs b_pull b_strength b_back b_moods b_tides b_carts) (W_X4r_X0b cI cZ cII qr qr_text qb qb_pull qb_strength qb_back qb_moods qb_tides qb_carts r_length r_fault' r_faultAt' r_next' r_numberFrom' r_text b_law b_places b_broad b_horses b_blinds b_besides b_tideCount' b_cartCount b_due b_pairs b_pull b_strength b_back b_moods b_tides' b_carts) sz) 0 0 (va_A (W_X4r_X0b cI cZ cII qr qr_text qb qb_pull qb_strength qb_back qb_moods qb_tides qb_carts r_length r_fault r_faultAt r_next r_numberFrom r_text b_law b_places b_broad b_horses b_blinds b_besides b_tideCount b_cartCount b_due b_pairs b_pull b_strength b_back b_moods b_tides b_carts) sz) := by
  refine Met.ofW (cc := cX4_readTide) (maxL := 5) (ret := none) (by decide) rfl ?_
  intro p e s m args below meth c s₁ B hml hv
  obtain ⟨rfl, hsz, hP, hK, hD0⟩ := hv
  have hx := B.exec
  have hb := B.bytes
  have hr := B.returns
  have hts := atoms_spec (ws := wM yX4_readTide cX4_readTide 5 none) B.pre
  have hown : s.vm.findClass RX4 = some m.cls := findClass_of_methodNamed B.named
  have hlocks := B.notSynchronized
  subst hsz
  have hD := hD0.self (sz := s.heap.size)
  obtain ⟨A, hAe⟩ : ∃ A, A = va_A (W_X4r_X0b cI cZ cII qr qr_text qb qb_pull qb_strength qb_back qb_moods qb_tides qb_carts r_length r_fault r_faultAt r_next r_numberFrom r_text b_law b_places b_broad b_horses b_blinds b_besides b_tideCount b_cartCount b_due b_pairs b_pull b_strength b_back b_moods b_tides b_carts) s.heap.size := ⟨_, rfl⟩
  rw [← hAe] at hD
  have hA : ∀ q : Nat, s.heap.size ≤ q → A q := fun q h => by rw [hAe]; exact Or.inr h
  have hS : va_S A s.heap s.heap [] := va_S.rf
  have hl := lv_entry ([.ref qr, .ref qb]) (n := 5) (Nat.le_of_ble_eq_true rfl)
  rw [lg_entry_eq]
  generalize (lg_sl ([.ref qr, .ref qb]) ++ List.replicate (5 - (lg_sl ([.ref qr, .ref qb])).length) Slot.unset).toArray = ls at hl ⊢
  have hl : lv_has ls 5 [(0, .ref qr), (1, .ref qb)] := hl
  generalize ([.ref qr, .ref qb] : List Value).toArray = args at hts ⊢
  have hw : ∀ w ∈ wsL_law, w.before args s = true := fun w h => hts w (List.mem_cons_of_mem _ h)
  refine pg_start (fun Q hQ => ?_)
  have RET : ∀ (H : Heap) (locs : List Loc) (ls : Array Slot) (pc : Nat) (x0 : Int32) (x1 : Int32) (x2 : Int32) (x3 : Int32) (x4 : Int32) (x5 : Nat → Int32) , decode cX4_readTide pc = .ok (.return_, 1) → va_P (dC, dI) vwCl (W_X4r_X0b cI cZ cII qr qr_text qb qb_pull qb_strength qb_back qb_moods qb_tides qb_carts r_length x0 x1 x2 x3 r_text b_law b_places b_broad b_horses b_blinds b_besides x4 b_cartCount b_due b_pairs b_pull b_strength b_back b_moods x5 b_carts) H → va_D A (W_X4r_X0b cI cZ cII qr qr_text qb qb_pull qb_strength qb_back qb_moods qb_tides qb_carts r_length x0 x1 x2 x3 r_text b_law b_places b_broad b_horses b_blinds b_besides x4 b_cartCount b_due b_pairs b_pull b_strength b_back b_moods x5 b_carts) → va_S A s.heap H locs → (some (x0, x1, x2, x3, x4, x5) : Option (Int32 × Int32 × Int32 × Int32 × Int32 × (Nat → Int32))) = some (r_fault', r_faultAt', r_next', r_numberFrom', b_tideCount', b_tides') → W p l e rm_X4_readTide s m args below meth c H locs 0 0 Q (F0 m pc ls []) := by
    intro H locs ls pc x0 x1 x2 x3 x4 x5 hd hP hD hS he
    subst hAe; subst hQ
    simp only [Option.some.injEq, Prod.mk.injEq] at he
    obtain ⟨rfl, rfl, rfl, rfl, rfl, rfl⟩ := he
    exact pg_vret hx hb hr hlocks hK hP hD hS hd
  unfold f_X4_readTide at hf
  refine lv_iconst (v := (1 : Int32)) hx hb dX4_readTide_0 (by decide) ?_
  refine lv_istore_n (lv' := [(2, .int (1 : Int32)), (0, .ref qr), (1, .ref qb)]) hx hb dX4_readTide_1 rfl hl (by decide) rfl (fun ls hl => ?_)
  refine lv_iconst (v := (0 : Int32)) hx hb dX4_readTide_2 (by decide) ?_
  refine lv_istore_n (lv' := [(3, .int (0 : Int32)), (2, .int (1 : Int32)), (0, .ref qr), (1, .ref qb)]) hx hb dX4_readTide_3 rfl hl (by decide) rfl (fun ls hl => ?_)
  obtain ⟨K61_1, hK61_1, hf⟩ := jn6_s hf
  have WK61_1 : ∀ (r_fault_1 : Int32) (r_faultAt_1 : Int32) (r_next_1 : Int32) (r_numberFrom_1 : Int32) (b_tideCount_1 : Int32) (b_tides_1 : Nat → Int32) (H : Heap) (locs : List Loc) (ls : Array Slot), va_P (dC, dI) vwCl (W_X4r_X0b cI cZ cII qr qr_text qb qb_pull qb_strength qb_back qb_moods qb_tides qb_carts r_length r_fault_1 r_faultAt_1 r_next_1 r_numberFrom_1 r_text b_law b_places b_broad b_horses b_blinds b_besides b_tideCount_1 b_cartCount b_due b_pairs b_pull b_strength b_back b_moods b_tides_1 b_carts) H → va_D A (W_X4r_X0b cI cZ cII qr qr_text qb qb_pull qb_strength qb_back qb_moods qb_tides qb_carts r_length r_fault_1 r_faultAt_1 r_next_1 r_numberFrom_1 r_text b_law b_places b_broad b_horses b_blinds b_besides b_tideCount_1 b_cartCount b_due b_pairs b_pull b_strength b_back b_moods b_tides_1 b_carts) → va_S A s.heap H locs → lv_has ls 5 [(0, .ref qr)] → K61_1 r_fault_1 r_faultAt_1 r_next_1 r_numberFrom_1 b_tideCount_1 b_tides_1 = some (r_fault', r_faultAt', r_next', r_numberFrom', b_tideCount', b_tides') → W p l e rm_X4_readTide s m args below meth c H locs 0 0 Q (F0 m 61 ls []) := by
    intro r_fault_1 r_faultAt_1 r_next_1 r_numberFrom_1 b_tideCount_1 b_tides_1 H locs ls hP hD hS hl hf
    have hf := hK61_1 _ _ _ _ _ _ hf
    refine lv_aload_n hx hb dX4_readTide_61 rfl (lv_at hl 0 rfl) ?_
    obtain ⟨r_fault_2, r_faultAt_2, r_next_2, hc, hf⟩ := bn3_s hf
    refine pg_cVv (As := []) (rest := []) (wf := (W_X4r_X0b cI cZ cII qr qr_text qb qb_pull qb_strength qb_back qb_moods qb_tides qb_carts r_length r_fault_2 r_faultAt_2 r_next_2 r_numberFrom_1 r_text b_law b_places b_broad b_horses b_blinds b_besides b_tideCount_1 b_cartCount b_due b_pairs b_pull b_strength b_back b_moods b_tides_1 b_carts)) ⟨hx, hb, hml, hown, hw⟩ (c_X4_readSemicolon l dC dI cI cZ cII qr qr_text H.size r_length r_fault_1 r_faultAt_1 r_next_1 r_numberFrom_1 r_text  r_fault_2 r_faultAt_2 r_next_2 hc) (cwV 0 hts (wM_V mw_13_20 mw_13_21 mw_13_22 mw_1_20 mw_13_23) rfl rfl rfl dk_X4_readSemicolon ⟨Nat.le_of_ble_eq_true rfl, Nat.le_of_ble_eq_true rfl⟩) hK hP hD hS hA 4 0 rfl rfl rfl [0, 1] [2, 3, 4, 5, 6, 7, 8] [7, 8, 0, 1, 2, 3, 4, 5, 6] (plC_10 cI cZ cII qr qr_text qb qb_pull qb_strength qb_back qb_moods qb_tides qb_carts r_length r_fault_1 r_faultAt_1 r_next_1 r_numberFrom_1 r_text b_law b_places b_broad b_horses b_blinds b_besides b_tideCount_1 b_cartCount b_due b_pairs b_pull b_strength b_back b_moods b_tides_1 b_carts) rfl (plF_10 cI cZ cII qr qr_text qb qb_pull qb_strength qb_back qb_moods qb_tides qb_carts r_length r_fault_1 r_faultAt_1 r_next_1 r_numberFrom_1 r_text b_law b_places b_broad b_horses b_blinds b_besides b_tideCount_1 b_cartCount b_due b_pairs b_pull b_strength b_back b_moods b_tides_1 b_carts r_length r_fault_2 r_faultAt_2 r_next_2 r_numberFrom_1 r_text) (by decide) rfl hl.1 rfl (Nat.le_of_ble_eq_true rfl) dX4_readTide_62 ⟨Nat.zero_le _, Nat.zero_le _⟩ (fun H locs hP hD hS => ?_)
    exact RET _ _ _ _ _ _ _ _ _ _ dX4_readTide_65 hP hD hS hf
  obtain ⟨B3, hB3, hf⟩ := lq8_n hf
  have WL3 : ∀ (n9 : Nat) (y2_3 : Int32) (y3_3 : Int32) (r_fault_3 : Int32) (r_faultAt_3 : Int32) (r_next_3 : Int32) (r_numberFrom_3 : Int32) (b_tideCount_3 : Int32) (b_tides_3 : Nat → Int32) (H : Heap) (locs : List Loc) (ls : Array Slot), va_P (dC, dI) vwCl (W_X4r_X0b cI cZ cII qr qr_text qb qb_pull qb_strength qb_back qb_moods qb_tides qb_carts r_length r_fault_3 r_faultAt_3 r_next_3 r_numberFrom_3 r_text b_law b_places b_broad b_horses b_blinds b_besides b_tideCount_3 b_cartCount b_due b_pairs b_pull b_strength b_back b_moods b_tides_3 b_carts) H → va_D A (W_X4r_X0b cI cZ cII qr qr_text qb qb_pull qb_strength qb_back qb_moods qb_tides qb_carts r_length r_fault_3 r_faultAt_3 r_next_3 r_numberFrom_3 r_text b_law b_places b_broad b_horses b_blinds b_besides b_tideCount_3 b_cartCount b_due b_pairs b_pull b_strength b_back b_moods b_tides_3 b_carts) → va_S A s.heap H locs → lv_has ls 5 [(0, .ref qr), (1, .ref qb), (2, .int y2_3), (3, .int y3_3)] → lq8 B3 n9 y2_3 y3_3 r_fault_3 r_faultAt_3 r_next_3 r_numberFrom_3 b_tideCount_3 b_tides_3 = some (r_fault', r_faultAt', r_next', r_numberFrom', b_tideCount', b_tides') → W p l e rm_X4_readTide s m args below meth c H locs 0 0 Q (F0 m 4 ls []) := by
    intro n9
    induction n9 with
    | zero => intro y2_3 y3_3 r_fault_3 r_faultAt_3 r_next_3 r_numberFrom_3 b_tideCount_3 b_tides_3 H locs ls hP hD hS hl hf; cases hf
    | succ n9 ih =>
      intro y2_3 y3_3 r_fault_3 r_faultAt_3 r_next_3 r_numberFrom_3 b_tideCount_3 b_tides_3 H locs ls hP hD hS hl hf
      obtain ⟨rec3, hrec3, hf⟩ := lq8_s hf
      have hf := hB3 rec3 _ _ _ _ _ _ _ _ hf
      refine lv_iload_n hx hb dX4_readTide_4 rfl (lv_at hl 3 rfl) ?_
      refine lv_bipush (v := (12 : Int32)) hx hb dX4_readTide_5 (by decide) ?_
      refine lv_icmp_ge (tgt := 61) hx hb dX4_readTide_7 (by decide) (fun h9 => ?_) (fun h9 => ?_)
      · have hf := pg_t h9 hf
        exact WK61_1 _ _ _ _ _ _ _ _ _ hP hD hS (lv_sub hl [0] rfl) hf
      · have hf := pg_f h9 hf
        refine lv_iload_n hx hb dX4_readTide_10 rfl (lv_at hl 2 rfl) ?_
        refine lv_if_eq (tgt := 61) hx hb dX4_readTide_11 (by decide) (fun h9 => ?_) (fun h9 => ?_)
        · have hf := pg_t h9 hf
          exact WK61_1 _ _ _ _ _ _ _ _ _ hP hD hS (lv_sub hl [0] rfl) hf
        · have hf := pg_f h9 hf
          refine lv_aload_n hx hb dX4_readTide_14 rfl (lv_at hl 0 rfl) ?_
          refine lv_iconst (v := (0 : Int32)) hx hb dX4_readTide_15 (by decide) ?_
          refine lv_bipush (v := (40 : Int32)) hx hb dX4_readTide_16 (by decide) ?_
          obtain ⟨r_4, r_fault_4, r_faultAt_4, r_next_4, r_numberFrom_4, hc, hf⟩ := bn5_s hf
          refine pg_cVi (As := [.int (0 : Int32), .int (40 : Int32)]) (rest := []) (wf := (W_X4r_X0b cI cZ cII qr qr_text qb qb_pull qb_strength qb_back qb_moods qb_tides qb_carts r_length r_fault_4 r_faultAt_4 r_next_4 r_numberFrom_4 r_text b_law b_places b_broad b_horses b_blinds b_besides b_tideCount_3 b_cartCount b_due b_pairs b_pull b_strength b_back b_moods b_tides_3 b_carts)) ⟨hx, hb, hml, hown, hw⟩ (c_X4_readNumber l dC dI cI cZ cII qr qr_text H.size r_length r_fault_3 r_faultAt_3 r_next_3 r_numberFrom_3 r_text (0 : Int32) (40 : Int32) r_4 r_fault_4 r_faultAt_4 r_next_4 r_numberFrom_4 hc) (cwV 2 hts (wM_V mw_13_11 mw_13_12 mw_13_13 mw_1_20 mw_13_14) rfl rfl rfl dk_X4_readNumber ⟨Nat.le_of_ble_eq_true rfl, Nat.le_of_ble_eq_true rfl⟩) hK hP hD hS hA 4 0 rfl rfl rfl [0, 1] [2, 3, 4, 5, 6, 7, 8] [7, 8, 0, 1, 2, 3, 4, 5, 6] (plC_10 cI cZ cII qr qr_text qb qb_pull qb_strength qb_back qb_moods qb_tides qb_carts r_length r_fault_3 r_faultAt_3 r_next_3 r_numberFrom_3 r_text b_law b_places b_broad b_horses b_blinds b_besides b_tideCount_3 b_cartCount b_due b_pairs b_pull b_strength b_back b_moods b_tides_3 b_carts) rfl (plF_10 cI cZ cII qr qr_text qb qb_pull qb_strength qb_back qb_moods qb_tides qb_carts r_length r_fault_3 r_faultAt_3 r_next_3 r_numberFrom_3 r_text b_law b_places b_broad b_horses b_blinds b_besides b_tideCount_3 b_cartCount b_due b_pairs b_pull b_strength b_back b_moods b_tides_3 b_carts r_length r_fault_4 r_faultAt_4 r_next_4 r_numberFrom_4 r_text) (by decide) rfl hl.1 rfl (Nat.le_of_ble_eq_true rfl) dX4_readTide_18 ⟨Nat.zero_le _, Nat.zero_le _⟩ (fun H locs hP hD hS => ?_)
          refine lv_istore (lv' := [(4, .int r_4), (0, .ref qr), (1, .ref qb), (2, .int y2_3), (3, .int y3_3)]) hx hb dX4_readTide_21 hl (by decide) rfl (fun ls hl => ?_)
          refine lv_aload_n hx hb dX4_readTide_23 rfl (lv_at hl 1 rfl) ?_
          refine va_get (D := (dC, dI)) (ci := 4) (v := .int r_fault_4) (C := RX4) (T := TX4) (N := 6) hx hb hw inlX4 hown hK hP 0 rfl rfl 2 (by decide) (hw _ mw_8_13) (fun _ h9 => h9) rfl dX4_readTide_24 ?_
          obtain ⟨J36_5, hJ36_5, hf⟩ := jn2_s hf
          have WJ36_5 : ∀ (b_tideCount_5 : Int32) (b_tides_5 : Nat → Int32) (H : Heap) (locs : List Loc) (ls : Array Slot), va_P (dC, dI) vwCl (W_X4r_X0b cI cZ cII qr qr_text qb qb_pull qb_strength qb_back qb_moods qb_tides qb_carts r_length r_fault_4 r_faultAt_4 r_next_4 r_numberFrom_4 r_text b_law b_places b_broad b_horses b_blinds b_besides b_tideCount_5 b_cartCount b_due b_pairs b_pull b_strength b_back b_moods b_tides_5 b_carts) H → va_D A (W_X4r_X0b cI cZ cII qr qr_text qb qb_pull qb_strength qb_back qb_moods qb_tides qb_carts r_length r_fault_4 r_faultAt_4 r_next_4 r_numberFrom_4 r_text b_law b_places b_broad b_horses b_blinds b_besides b_tideCount_5 b_cartCount b_due b_pairs b_pull b_strength b_back b_moods b_tides_5 b_carts) → va_S A s.heap H locs → lv_has ls 5 [(0, .ref qr), (1, .ref qb), (3, .int y3_3)] → J36_5 b_tideCount_5 b_tides_5 = some (r_fault', r_faultAt', r_next', r_numberFrom', b_tideCount', b_tides') → W p l e rm_X4_readTide s m args below meth c H locs 0 0 Q (F0 m 36 ls []) := by
            intro b_tideCount_5 b_tides_5 H locs ls hP hD hS hl hf
            have hf := hJ36_5 _ _ hf
            refine lv_iload_n hx hb dX4_readTide_36 rfl (lv_at hl 2 rfl) ?_
            refine lv_bipush (v := (11 : Int32)) hx hb dX4_readTide_37 (by decide) ?_
            obtain ⟨J54_6, hJ54_6, hf⟩ := jn2_s hf
            have WJ54_6 : ∀ (r_next_6 : Int32) (z0_6 : Int32) (H : Heap) (locs : List Loc) (ls : Array Slot), va_P (dC, dI) vwCl (W_X4r_X0b cI cZ cII qr qr_text qb qb_pull qb_strength qb_back qb_moods qb_tides qb_carts r_length r_fault_4 r_faultAt_4 r_next_6 r_numberFrom_4 r_text b_law b_places b_broad b_horses b_blinds b_besides b_tideCount_5 b_cartCount b_due b_pairs b_pull b_strength b_back b_moods b_tides_5 b_carts) H → va_D A (W_X4r_X0b cI cZ cII qr qr_text qb qb_pull qb_strength qb_back qb_moods qb_tides qb_carts r_length r_fault_4 r_faultAt_4 r_next_6 r_numberFrom_4 r_text b_law b_places b_broad b_horses b_blinds b_besides b_tideCount_5 b_cartCount b_due b_pairs b_pull b_strength b_back b_moods b_tides_5 b_carts) → va_S A s.heap H locs → lv_has ls 5 [(0, .ref qr), (1, .ref qb), (3, .int y3_3)] → J54_6 r_next_6 z0_6 = some (r_fault', r_faultAt', r_next', r_numberFrom', b_tideCount', b_tides') → W p l e rm_X4_readTide s m args below meth c H locs 0 0 Q (F0 m 54 ls [.int z0_6]) := by
              intro r_next_6 z0_6 H locs ls hP hD hS hl hf
              have hf := hJ54_6 _ _ hf
              refine lv_istore_n (lv' := [(2, .int z0_6), (0, .ref qr), (1, .ref qb), (3, .int y3_3)]) hx hb dX4_readTide_54 rfl hl (by decide) rfl (fun ls hl => ?_)
              refine lv_iinc (v := (y3_3 + (1 : Int32))) (lv' := [(3, .int (y3_3 + (1 : Int32))), (2, .int z0_6), (0, .ref qr), (1, .ref qb)]) hx hb dX4_readTide_55 hl (k := 3) rfl rfl (by decide) rfl (fun ls hl => ?_)
              refine lv_goto (tgt := 4) hx hb dX4_readTide_58 (by decide) ?_
              exact ih _ _ _ _ _ _ _ _ _ _ _ hP hD hS (lv_sub hl [2, 3, 1, 0] rfl) (hrec3 _ _ _ _ _ _ _ _ hf)
            obtain ⟨J53_7, hJ53_7, hf⟩ := jn1_s hf
            have WJ53_7 : ∀ (r_next_7 : Int32) (H : Heap) (locs : List Loc) (ls : Array Slot), va_P (dC, dI) vwCl (W_X4r_X0b cI cZ cII qr qr_text qb qb_pull qb_strength qb_back qb_moods qb_tides qb_carts r_length r_fault_4 r_faultAt_4 r_next_7 r_numberFrom_4 r_text b_law b_places b_broad b_horses b_blinds b_besides b_tideCount_5 b_cartCount b_due b_pairs b_pull b_strength b_back b_moods b_tides_5 b_carts) H → va_D A (W_X4r_X0b cI cZ cII qr qr_text qb qb_pull qb_strength qb_back qb_moods qb_tides qb_carts r_length r_fault_4 r_faultAt_4 r_next_7 r_numberFrom_4 r_text b_law b_places b_broad b_horses b_blinds b_besides b_tideCount_5 b_cartCount b_due b_pairs b_pull b_strength b_back b_moods b_tides_5 b_carts) → va_S A s.heap H locs → lv_has ls 5 [(0, .ref qr), (1, .ref qb), (3, .int y3_3)] → J53_7 r_next_7 = some (r_fault', r_faultAt', r_next', r_numberFrom', b_tideCount', b_tides') → W p l e rm_X4_readTide s m args below meth c H locs 0 0 Q (F0 m 53 ls []) := by
              intro r_next_7 H locs ls hP hD hS hl hf
              have hf := hJ53_7 _ hf
              refine lv_iconst (v := (0 : Int32)) hx hb dX4_readTide_53 (by decide) ?_
              exact WJ54_6 _ _ _ _ _ hP hD hS hl hf
            refine lv_icmp_ge (tgt := 53) hx hb dX4_readTide_39 (by decide) (fun h9 => ?_) (fun h9 => ?_)
            · have hf := pg_t h9 hf
              exact WJ53_7 _ _ _ _ hP hD hS hl hf
            · have hf := pg_f h9 hf
              refine lv_aload_n hx hb dX4_readTide_42 rfl (lv_at hl 0 rfl) ?_
              obtain ⟨r_8, r_next_8, hc, hf⟩ := bn2_s hf
              refine pg_cVi (As := []) (rest := []) (wf := (W_X4r_X0b cI cZ cII qr qr_text qb qb_pull qb_strength qb_back qb_moods qb_tides qb_carts r_length r_fault_4 r_faultAt_4 r_next_8 r_numberFrom_4 r_text b_law b_places b_broad b_horses b_blinds b_besides b_tideCount_5 b_cartCount b_due b_pairs b_pull b_strength b_back b_moods b_tides_5 b_carts)) ⟨hx, hb, hml, hown, hw⟩ (c_X4_takeComma l dC dI cI cZ cII qr qr_text H.size r_length r_fault_4 r_faultAt_4 r_next_4 r_numberFrom_4 r_text  r_8 r_next_8 hc) (cwV 0 hts (wM_V mw_15_21 mw_15_22 mw_15_23 mw_1_20 mw_16_0) rfl rfl rfl dk_X4_takeComma ⟨Nat.le_of_ble_eq_true rfl, Nat.le_of_ble_eq_true rfl⟩) hK hP hD hS hA 4 0 rfl rfl rfl [0, 1] [2, 3, 4, 5, 6, 7, 8] [7, 8, 0, 1, 2, 3, 4, 5, 6] (plC_10 cI cZ cII qr qr_text qb qb_pull qb_strength qb_back qb_moods qb_tides qb_carts r_length r_fault_4 r_faultAt_4 r_next_4 r_numberFrom_4 r_text b_law b_places b_broad b_horses b_blinds b_besides b_tideCount_5 b_cartCount b_due b_pairs b_pull b_strength b_back b_moods b_tides_5 b_carts) rfl (plF_10 cI cZ cII qr qr_text qb qb_pull qb_strength qb_back qb_moods qb_tides qb_carts r_length r_fault_4 r_faultAt_4 r_next_4 r_numberFrom_4 r_text b_law b_places b_broad b_horses b_blinds b_besides b_tideCount_5 b_cartCount b_due b_pairs b_pull b_strength b_back b_moods b_tides_5 b_carts r_length r_fault_4 r_faultAt_4 r_next_8 r_numberFrom_4 r_text) (by decide) rfl hl.1 rfl (Nat.le_of_ble_eq_true rfl) dX4_readTide_43 ⟨Nat.zero_le _, Nat.zero_le _⟩ (fun H locs hP hD hS => ?_)
              refine lv_if_eq (tgt := 53) hx hb dX4_readTide_46 (by decide) (fun h9 => ?_) (fun h9 => ?_)
              · have hf := pg_t h9 hf
                exact WJ53_7 _ _ _ _ hP hD hS hl hf
              · have hf := pg_f h9 hf
                refine lv_iconst (v := (1 : Int32)) hx hb dX4_readTide_49 (by decide) ?_
                refine lv_goto (tgt := 54) hx hb dX4_readTide_50 (by decide) ?_
                exact WJ54_6 _ _ _ _ _ hP hD hS hl hf
          refine lv_if_ne (tgt := 36) hx hb dX4_readTide_27 (by decide) (fun h9 => ?_) (fun h9 => ?_)
          · have hf := pg_f h9 hf
            exact WJ36_5 _ _ _ _ _ hP hD hS (lv_sub hl [1, 2, 4] rfl) hf
          · have hf := pg_t h9 hf
            refine lv_aload_n hx hb dX4_readTide_30 rfl (lv_at hl 2 rfl) ?_
            refine lv_iload hx hb dX4_readTide_31 (lv_at hl 0 rfl) ?_
            obtain ⟨b_tideCount_9, b_tides_9, hc, hf⟩ := bn2_s hf
            refine pg_cVv (As := [.int r_4]) (rest := []) (wf := (W_X4r_X0b cI cZ cII qr qr_text qb qb_pull qb_strength qb_back qb_moods qb_tides qb_carts r_length r_fault_4 r_faultAt_4 r_next_4 r_numberFrom_4 r_text b_law b_places b_broad b_horses b_blinds b_besides b_tideCount_9 b_cartCount b_due b_pairs b_pull b_strength b_back b_moods b_tides_9 b_carts)) ⟨hx, hb, hml, hown, hw⟩ (c_X0_addTide l dC dI cI cZ cII qb qb_pull qb_strength qb_back qb_moods qb_tides qb_carts H.size b_law b_places b_broad b_horses b_blinds b_besides b_tideCount_3 b_cartCount b_due b_pairs b_pull b_strength b_back b_moods b_tides_3 b_carts r_4 b_tideCount_9 b_tides_9 hc) (cwV 1 hts (wM_V mw_15_17 mw_15_18 mw_15_19 mw_1_15 mw_15_20) rfl rfl rfl dk_X0_addTide ⟨Nat.le_of_ble_eq_true rfl, Nat.le_of_ble_eq_true rfl⟩) hK hP hD hS hA 0 0 rfl rfl rfl [2, 3, 4, 5, 6, 7, 8] [0, 1] [0, 1, 2, 3, 4, 5, 6, 7, 8] (plC_11 cI cZ cII qr qr_text qb qb_pull qb_strength qb_back qb_moods qb_tides qb_carts r_length r_fault_4 r_faultAt_4 r_next_4 r_numberFrom_4 r_text b_law b_places b_broad b_horses b_blinds b_besides b_tideCount_3 b_cartCount b_due b_pairs b_pull b_strength b_back b_moods b_tides_3 b_carts) rfl (plF_11 cI cZ cII qr qr_text qb qb_pull qb_strength qb_back qb_moods qb_tides qb_carts r_length r_fault_4 r_faultAt_4 r_next_4 r_numberFrom_4 r_text b_law b_places b_broad b_horses b_blinds b_besides b_tideCount_3 b_cartCount b_due b_pairs b_pull b_strength b_back b_moods b_tides_3 b_carts b_law b_places b_broad b_horses b_blinds b_besides b_tideCount_9 b_cartCount b_due b_pairs b_pull b_strength b_back b_moods b_tides_9 b_carts) (by decide) rfl hl.1 rfl (Nat.le_of_ble_eq_true rfl) dX4_readTide_33 ⟨Nat.zero_le _, Nat.zero_le _⟩ (fun H locs hP hD hS => ?_)
            exact WJ36_5 _ _ _ _ _ hP hD hS (lv_sub hl [1, 2, 4] rfl) hf
  exact WL3 fu _ _ _ _ _ _ _ _ _ _ _ hP hD hS (lv_sub hl [2, 3, 1, 0] rfl) hf
def f_X4_readBeside (r_length : Int32) (r_fault : Int32) (r_faultAt : Int32) (r_next : Int32) (r_numberFrom : Int32) (r_text : Nat → Int32) (b_horses : Int32) (b_besides : Int32) (b_pairs : Int64) (b_moods : Nat → Int32) : Option (Int32 × Int32 × Int32 × Int32 × Int32 × Int64 × (Nat → Int32)) :=
  bn5 (f_X4_readNumber (0 : Int32) (b_horses - (1 : Int32)) r_length r_fault r_faultAt r_next r_numberFrom r_text) (fun (r_1 : Int32) (r_fault_1 : Int32) (r_faultAt_1 : Int32) (r_next_1 : Int32) (r_numberFrom_1 : Int32) =>
    bn5 (f_X4_readNumber (0 : Int32) (b_horses - (1 : Int32)) r_length r_fault_1 r_faultAt_1 r_next_1 r_numberFrom_1 r_text) (fun (r_2 : Int32) (r_fault_2 : Int32) (r_faultAt_2 : Int32) (r_next_2 : Int32) (r_numberFrom_2 : Int32) =>
      jn2 (fun (r_fault_3 : Int32) (r_faultAt_3 : Int32) =>
        bn5 (f_X4_readNumber (0 : Int32) (10 : Int32) r_length r_fault_3 r_faultAt_3 r_next_2 r_numberFrom_2 r_text) (fun (r_4 : Int32) (r_fault_4 : Int32) (r_faultAt_4 : Int32) (r_next_4 : Int32) (r_numberFrom_4 : Int32) =>
          bn3 (f_X4_readSemicolon r_length r_fault_4 r_faultAt_4 r_next_4 r_text) (fun (r_fault_5 : Int32) (r_faultAt_5 : Int32) (r_next_5 : Int32) =>
            if r_fault_5 = 0 then
              bn3 (f_X0_addBeside r_1 r_2 (r_4 - (5 : Int32)) b_horses b_besides b_pairs b_moods) (fun (b_besides_6 : Int32) (b_pairs_6 : Int64) (b_moods_6 : Nat → Int32) =>
                some (r_fault_5, r_faultAt_5, r_next_5, r_numberFrom_4, b_besides_6, b_pairs_6, b_moods_6)
              )
            else
              some (r_fault_5, r_faultAt_5, r_next_5, r_numberFrom_4, b_besides, b_pairs, b_moods)
          )
        )
      ) (fun J47_3 =>
      jn1 (fun (u_7 : Unit) =>
        bn2 (f_X4_fail (4 : Int32) r_numberFrom_2 r_fault_2 r_faultAt_2) (fun (r_fault_8 : Int32) (r_faultAt_8 : Int32) =>
          J47_3 r_fault_8 r_faultAt_8
        )
      ) (fun J38_7 =>
      if r_1 = r_2 then
        J38_7 ()
      else
        bn1 (f_X0_hasPair r_1 r_2 b_horses b_pairs) (fun (r_9 : Int32) =>
          if r_9 = 0 then
            J47_3 r_fault_2 r_faultAt_2
          else
            J38_7 ()
        )
      )
      )
    )
  )
abbrev rm_X4_readBeside : Room := { frames := 2, cells := 0, slots := 0, locals := 46 }
theorem dk_X4_readBeside : yX4_readBeside.cls = RX4 ∧ yX4_readBeside.cls ≠ "java/lang/invoke/MethodHandle" ∧ yX4_readBeside.cls ≠ "java/lang/invoke/VarHandle" ∧ (parseMethodDescriptor yX4_readBeside.desc).map (fun d => d.parameters.length) = some 1 := by decide +kernel
set_option maxHeartbeats 4000000 in
set_option maxRecDepth 100000 in
theorem c_X4_readBeside (l : Launch) (dC : Nat → ClassId) (dI : Nat → Nat → Nat) (cI cZ cII : ClassId) (qr qr_text qb qb_pull qb_strength qb_back qb_moods qb_tides qb_carts : Nat) (sz : Nat) (r_length : Int32) (r_fault : Int32) (r_faultAt : Int32) (r_next : Int32) (r_numberFrom : Int32) (r_text : Nat → Int32) (b_law : Int32) (b_places : Int32) (b_broad : Int32) (b_horses : Int32) (b_blinds : Int32) (b_besides : Int32) (b_tideCount : Int32) (b_cartCount : Int32) (b_due : Int32) (b_pairs : Int64) (b_pull : Nat → Int32) (b_strength : Nat → Int32) (b_back : Nat → Int32) (b_moods : Nat → Int32) (b_tides : Nat → Int32) (b_carts : Nat → Int32) (r_fault' : Int32) (r_faultAt' : Int32) (r_next' : Int32) (r_numberFrom' : Int32) (b_besides' : Int32) (b_pairs' : Int64) (b_moods' : Nat → Int32) (hf : f_X4_readBeside r_length r_fault r_faultAt r_next r_numberFrom r_text b_horses b_besides b_pairs b_moods = some (r_fault', r_faultAt', r_next', r_numberFrom', b_besides', b_pairs', b_moods')) : Met l yX4_readBeside (wM yX4_readBeside cX4_readBeside 5 none) rm_X4_readBeside (PreW (dC, dI) (tyA cI cZ cII) (W_X4r_X0b cI cZ cII qr qr_text qb qb_pull qb_strength qb_back qb_moods qb_tides qb_carts r_length r_fault r_faultAt r_next r_numberFrom r_text b_law b_places b_broad b_horses b_blinds b_besides b_tideCount b_cartCount b_due b_pairs b_pull b_strength b_back b_moods b_tides b_carts) sz [.ref qr, .ref qb]) (PostV (dC, dI) (tyA cI cZ cII) (W_X4r_X0b cI cZ cII qr qr_text qb qb_pull qb_strength qb_back qb_moods qb_tides qb_carts r_length r_fault r_faultAt r_next r_numberFrom r_text b_law b_places b_broad b_horses b_blinds b_besides b_tideCount b_cartCount b_due b_pairs b_pull b_strength b_back b_moods b_tides b_carts) (W_X4r_X0b cI cZ cII qr qr_text qb qb_pull qb_strength qb_back qb_moods qb_tides qb_carts r_length r_fault' r_faultAt' r_next' r_numberFrom' r_text b_law b_places b_broad b_horses b_blinds b_besides' b_tideCount b_cartCount b_due b_pairs' b_pull b_strength b_back b_moods' b_tides b_carts) sz) 0 0 (va_A (W_X4r_X0b cI cZ cII qr qr_text qb qb_pull qb_strength qb_back qb_moods qb_tides qb_carts r_length r_fault r_faultAt r_next r_numberFrom r_text b_law b_places b_broad b_horses b_blinds b_besides b_tideCount b_cartCount b_due b_pairs b_pull b_strength b_back b_moods b_tides b_carts) sz) := by
  refine Met.ofW (cc := cX4_readBeside) (maxL := 5) (ret := none) (by decide) rfl ?_
  intro p e s m args below meth c s₁ B hml hv
  obtain ⟨rfl, hsz, hP, hK, hD0⟩ := hv
  have hx := B.exec
  have hb := B.bytes
  have hr := B.returns
  have hts := atoms_spec (ws := wM yX4_readBeside cX4_readBeside 5 none) B.pre
  have hown : s.vm.findClass RX4 = some m.cls := findClass_of_methodNamed B.named
  have hlocks := B.notSynchronized
  subst hsz
  have hD := hD0.self (sz := s.heap.size)
  obtain ⟨A, hAe⟩ : ∃ A, A = va_A (W_X4r_X0b cI cZ cII qr qr_text qb qb_pull qb_strength qb_back qb_moods qb_tides qb_carts r_length r_fault r_faultAt r_next r_numberFrom r_text b_law b_places b_broad b_horses b_blinds b_besides b_tideCount b_cartCount b_due b_pairs b_pull b_strength b_back b_moods b_tides b_carts) s.heap.size := ⟨_, rfl⟩
  rw [← hAe] at hD
  have hA : ∀ q : Nat, s.heap.size ≤ q → A q := fun q h => by rw [hAe]; exact Or.inr h
  have hS : va_S A s.heap s.heap [] := va_S.rf
  have hl := lv_entry ([.ref qr, .ref qb]) (n := 5) (Nat.le_of_ble_eq_true rfl)
  rw [lg_entry_eq]
  generalize (lg_sl ([.ref qr, .ref qb]) ++ List.replicate (5 - (lg_sl ([.ref qr, .ref qb])).length) Slot.unset).toArray = ls at hl ⊢
  have hl : lv_has ls 5 [(0, .ref qr), (1, .ref qb)] := hl
  generalize ([.ref qr, .ref qb] : List Value).toArray = args at hts ⊢
  have hw : ∀ w ∈ wsL_law, w.before args s = true := fun w h => hts w (List.mem_cons_of_mem _ h)
  refine pg_start (fun Q hQ => ?_)
  have RET : ∀ (H : Heap) (locs : List Loc) (ls : Array Slot) (pc : Nat) (x0 : Int32) (x1 : Int32) (x2 : Int32) (x3 : Int32) (x4 : Int32) (x5 : Int64) (x6 : Nat → Int32) , decode cX4_readBeside pc = .ok (.return_, 1) → va_P (dC, dI) vwCl (W_X4r_X0b cI cZ cII qr qr_text qb qb_pull qb_strength qb_back qb_moods qb_tides qb_carts r_length x0 x1 x2 x3 r_text b_law b_places b_broad b_horses b_blinds x4 b_tideCount b_cartCount b_due x5 b_pull b_strength b_back x6 b_tides b_carts) H → va_D A (W_X4r_X0b cI cZ cII qr qr_text qb qb_pull qb_strength qb_back qb_moods qb_tides qb_carts r_length x0 x1 x2 x3 r_text b_law b_places b_broad b_horses b_blinds x4 b_tideCount b_cartCount b_due x5 b_pull b_strength b_back x6 b_tides b_carts) → va_S A s.heap H locs → (some (x0, x1, x2, x3, x4, x5, x6) : Option (Int32 × Int32 × Int32 × Int32 × Int32 × Int64 × (Nat → Int32))) = some (r_fault', r_faultAt', r_next', r_numberFrom', b_besides', b_pairs', b_moods') → W p l e rm_X4_readBeside s m args below meth c H locs 0 0 Q (F0 m pc ls []) := by
    intro H locs ls pc x0 x1 x2 x3 x4 x5 x6 hd hP hD hS he
    subst hAe; subst hQ
    simp only [Option.some.injEq, Prod.mk.injEq] at he
    obtain ⟨rfl, rfl, rfl, rfl, rfl, rfl, rfl⟩ := he
    exact pg_vret hx hb hr hlocks hK hP hD hS hd
  unfold f_X4_readBeside at hf
  refine lv_aload_n hx hb dX4_readBeside_0 rfl (lv_at hl 0 rfl) ?_
  refine lv_iconst (v := (0 : Int32)) hx hb dX4_readBeside_1 (by decide) ?_
  refine lv_aload_n hx hb dX4_readBeside_2 rfl (lv_at hl 1 rfl) ?_
  refine va_get (D := (dC, dI)) (ci := 0) (v := .int b_horses) (C := RX0) (T := TX0) (N := 16) hx hb hw inlX0 hown hK hP 2 rfl rfl 3 (by decide) (hw _ mw_12_16) (fun _ h9 => h9) rfl dX4_readBeside_3 ?_
  refine lv_iconst (v := (1 : Int32)) hx hb dX4_readBeside_6 (by decide) ?_
  refine lv_isub hx hb dX4_readBeside_7 ?_
  obtain ⟨r_1, r_fault_1, r_faultAt_1, r_next_1, r_numberFrom_1, hc, hf⟩ := bn5_s hf
  refine pg_cVi (As := [.int (0 : Int32), .int (b_horses - (1 : Int32))]) (rest := []) (wf := (W_X4r_X0b cI cZ cII qr qr_text qb qb_pull qb_strength qb_back qb_moods qb_tides qb_carts r_length r_fault_1 r_faultAt_1 r_next_1 r_numberFrom_1 r_text b_law b_places b_broad b_horses b_blinds b_besides b_tideCount b_cartCount b_due b_pairs b_pull b_strength b_back b_moods b_tides b_carts)) ⟨hx, hb, hml, hown, hw⟩ (c_X4_readNumber l dC dI cI cZ cII qr qr_text s.heap.size r_length r_fault r_faultAt r_next r_numberFrom r_text (0 : Int32) (b_horses - (1 : Int32)) r_1 r_fault_1 r_faultAt_1 r_next_1 r_numberFrom_1 hc) (cwV 2 hts (wM_V mw_13_11 mw_13_12 mw_13_13 mw_1_20 mw_13_14) rfl rfl rfl dk_X4_readNumber ⟨Nat.le_of_ble_eq_true rfl, Nat.le_of_ble_eq_true rfl⟩) hK hP hD hS hA 4 0 rfl rfl rfl [0, 1] [2, 3, 4, 5, 6, 7, 8] [7, 8, 0, 1, 2, 3, 4, 5, 6] (plC_10 cI cZ cII qr qr_text qb qb_pull qb_strength qb_back qb_moods qb_tides qb_carts r_length r_fault r_faultAt r_next r_numberFrom r_text b_law b_places b_broad b_horses b_blinds b_besides b_tideCount b_cartCount b_due b_pairs b_pull b_strength b_back b_moods b_tides b_carts) rfl (plF_10 cI cZ cII qr qr_text qb qb_pull qb_strength qb_back qb_moods qb_tides qb_carts r_length r_fault r_faultAt r_next r_numberFrom r_text b_law b_places b_broad b_horses b_blinds b_besides b_tideCount b_cartCount b_due b_pairs b_pull b_strength b_back b_moods b_tides b_carts r_length r_fault_1 r_faultAt_1 r_next_1 r_numberFrom_1 r_text) (by decide) rfl hl.1 rfl (Nat.le_of_ble_eq_true rfl) dX4_readBeside_8 ⟨Nat.zero_le _, Nat.zero_le _⟩ (fun H locs hP hD hS => ?_)
  refine lv_istore_n (lv' := [(2, .int r_1), (0, .ref qr), (1, .ref qb)]) hx hb dX4_readBeside_11 rfl hl (by decide) rfl (fun ls hl => ?_)
  refine lv_aload_n hx hb dX4_readBeside_12 rfl (lv_at hl 1 rfl) ?_
  refine lv_iconst (v := (0 : Int32)) hx hb dX4_readBeside_13 (by decide) ?_
  refine lv_aload_n hx hb dX4_readBeside_14 rfl (lv_at hl 2 rfl) ?_
  refine va_get (D := (dC, dI)) (ci := 0) (v := .int b_horses) (C := RX0) (T := TX0) (N := 16) hx hb hw inlX0 hown hK hP 2 rfl rfl 3 (by decide) (hw _ mw_12_16) (fun _ h9 => h9) rfl dX4_readBeside_15 ?_
  refine lv_iconst (v := (1 : Int32)) hx hb dX4_readBeside_18 (by decide) ?_
  refine lv_isub hx hb dX4_readBeside_19 ?_
  obtain ⟨r_2, r_fault_2, r_faultAt_2, r_next_2, r_numberFrom_2, hc, hf⟩ := bn5_s hf
  refine pg_cVi (As := [.int (0 : Int32), .int (b_horses - (1 : Int32))]) (rest := []) (wf := (W_X4r_X0b cI cZ cII qr qr_text qb qb_pull qb_strength qb_back qb_moods qb_tides qb_carts r_length r_fault_2 r_faultAt_2 r_next_2 r_numberFrom_2 r_text b_law b_places b_broad b_horses b_blinds b_besides b_tideCount b_cartCount b_due b_pairs b_pull b_strength b_back b_moods b_tides b_carts)) ⟨hx, hb, hml, hown, hw⟩ (c_X4_readNumber l dC dI cI cZ cII qr qr_text H.size r_length r_fault_1 r_faultAt_1 r_next_1 r_numberFrom_1 r_text (0 : Int32) (b_horses - (1 : Int32)) r_2 r_fault_2 r_faultAt_2 r_next_2 r_numberFrom_2 hc) (cwV 2 hts (wM_V mw_13_11 mw_13_12 mw_13_13 mw_1_20 mw_13_14) rfl rfl rfl dk_X4_readNumber ⟨Nat.le_of_ble_eq_true rfl, Nat.le_of_ble_eq_true rfl⟩) hK hP hD hS hA 4 0 rfl rfl rfl [0, 1] [2, 3, 4, 5, 6, 7, 8] [7, 8, 0, 1, 2, 3, 4, 5, 6] (plC_10 cI cZ cII qr qr_text qb qb_pull qb_strength qb_back qb_moods qb_tides qb_carts r_length r_fault_1 r_faultAt_1 r_next_1 r_numberFrom_1 r_text b_law b_places b_broad b_horses b_blinds b_besides b_tideCount b_cartCount b_due b_pairs b_pull b_strength b_back b_moods b_tides b_carts) rfl (plF_10 cI cZ cII qr qr_text qb qb_pull qb_strength qb_back qb_moods qb_tides qb_carts r_length r_fault_1 r_faultAt_1 r_next_1 r_numberFrom_1 r_text b_law b_places b_broad b_horses b_blinds b_besides b_tideCount b_cartCount b_due b_pairs b_pull b_strength b_back b_moods b_tides b_carts r_length r_fault_2 r_faultAt_2 r_next_2 r_numberFrom_2 r_text) (by decide) rfl hl.1 rfl (Nat.le_of_ble_eq_true rfl) dX4_readBeside_20 ⟨Nat.zero_le _, Nat.zero_le _⟩ (fun H locs hP hD hS => ?_)
  refine lv_istore_n (lv' := [(3, .int r_2), (2, .int r_1), (0, .ref qr), (1, .ref qb)]) hx hb dX4_readBeside_23 rfl hl (by decide) rfl (fun ls hl => ?_)
  refine lv_iload_n hx hb dX4_readBeside_24 rfl (lv_at hl 1 rfl) ?_
  refine lv_iload_n hx hb dX4_readBeside_25 rfl (lv_at hl 0 rfl) ?_
  obtain ⟨J47_3, hJ47_3, hf⟩ := jn2_s hf
  have WJ47_3 : ∀ (r_fault_3 : Int32) (r_faultAt_3 : Int32) (H : Heap) (locs : List Loc) (ls : Array Slot), va_P (dC, dI) vwCl (W_X4r_X0b cI cZ cII qr qr_text qb qb_pull qb_strength qb_back qb_moods qb_tides qb_carts r_length r_fault_3 r_faultAt_3 r_next_2 r_numberFrom_2 r_text b_law b_places b_broad b_horses b_blinds b_besides b_tideCount b_cartCount b_due b_pairs b_pull b_strength b_back b_moods b_tides b_carts) H → va_D A (W_X4r_X0b cI cZ cII qr qr_text qb qb_pull qb_strength qb_back qb_moods qb_tides qb_carts r_length r_fault_3 r_faultAt_3 r_next_2 r_numberFrom_2 r_text b_law b_places b_broad b_horses b_blinds b_besides b_tideCount b_cartCount b_due b_pairs b_pull b_strength b_back b_moods b_tides b_carts) → va_S A s.heap H locs → lv_has ls 5 [(0, .ref qr), (1, .ref qb), (2, .int r_1), (3, .int r_2)] → J47_3 r_fault_3 r_faultAt_3 = some (r_fault', r_faultAt', r_next', r_numberFrom', b_besides', b_pairs', b_moods') → W p l e rm_X4_readBeside s m args below meth c H locs 0 0 Q (F0 m 47 ls []) := by
    intro r_fault_3 r_faultAt_3 H locs ls hP hD hS hl hf
    have hf := hJ47_3 _ _ hf
    refine lv_aload_n hx hb dX4_readBeside_47 rfl (lv_at hl 0 rfl) ?_
    refine lv_iconst (v := (0 : Int32)) hx hb dX4_readBeside_48 (by decide) ?_
    refine lv_bipush (v := (10 : Int32)) hx hb dX4_readBeside_49 (by decide) ?_
    obtain ⟨r_4, r_fault_4, r_faultAt_4, r_next_4, r_numberFrom_4, hc, hf⟩ := bn5_s hf
    refine pg_cVi (As := [.int (0 : Int32), .int (10 : Int32)]) (rest := []) (wf := (W_X4r_X0b cI cZ cII qr qr_text qb qb_pull qb_strength qb_back qb_moods qb_tides qb_carts r_length r_fault_4 r_faultAt_4 r_next_4 r_numberFrom_4 r_text b_law b_places b_broad b_horses b_blinds b_besides b_tideCount b_cartCount b_due b_pairs b_pull b_strength b_back b_moods b_tides b_carts)) ⟨hx, hb, hml, hown, hw⟩ (c_X4_readNumber l dC dI cI cZ cII qr qr_text H.size r_length r_fault_3 r_faultAt_3 r_next_2 r_numberFrom_2 r_text (0 : Int32) (10 : Int32) r_4 r_fault_4 r_faultAt_4 r_next_4 r_numberFrom_4 hc) (cwV 2 hts (wM_V mw_13_11 mw_13_12 mw_13_13 mw_1_20 mw_13_14) rfl rfl rfl dk_X4_readNumber ⟨Nat.le_of_ble_eq_true rfl, Nat.le_of_ble_eq_true rfl⟩) hK hP hD hS hA 4 0 rfl rfl rfl [0, 1] [2, 3, 4, 5, 6, 7, 8] [7, 8, 0, 1, 2, 3, 4, 5, 6] (plC_10 cI cZ cII qr qr_text qb qb_pull qb_strength qb_back qb_moods qb_tides qb_carts r_length r_fault_3 r_faultAt_3 r_next_2 r_numberFrom_2 r_text b_law b_places b_broad b_horses b_blinds b_besides b_tideCount b_cartCount b_due b_pairs b_pull b_strength b_back b_moods b_tides b_carts) rfl (plF_10 cI cZ cII qr qr_text qb qb_pull qb_strength qb_back qb_moods qb_tides qb_carts r_length r_fault_3 r_faultAt_3 r_next_2 r_numberFrom_2 r_text b_law b_places b_broad b_horses b_blinds b_besides b_tideCount b_cartCount b_due b_pairs b_pull b_strength b_back b_moods b_tides b_carts r_length r_fault_4 r_faultAt_4 r_next_4 r_numberFrom_4 r_text) (by decide) rfl hl.1 rfl (Nat.le_of_ble_eq_true rfl) dX4_readBeside_51 ⟨Nat.zero_le _, Nat.zero_le _⟩ (fun H locs hP hD hS => ?_)
    refine lv_istore (lv' := [(4, .int r_4), (0, .ref qr), (1, .ref qb), (2, .int r_1), (3, .int r_2)]) hx hb dX4_readBeside_54 hl (by decide) rfl (fun ls hl => ?_)
    refine lv_aload_n hx hb dX4_readBeside_56 rfl (lv_at hl 1 rfl) ?_
    obtain ⟨r_fault_5, r_faultAt_5, r_next_5, hc, hf⟩ := bn3_s hf
    refine pg_cVv (As := []) (rest := []) (wf := (W_X4r_X0b cI cZ cII qr qr_text qb qb_pull qb_strength qb_back qb_moods qb_tides qb_carts r_length r_fault_5 r_faultAt_5 r_next_5 r_numberFrom_4 r_text b_law b_places b_broad b_horses b_blinds b_besides b_tideCount b_cartCount b_due b_pairs b_pull b_strength b_back b_moods b_tides b_carts)) ⟨hx, hb, hml, hown, hw⟩ (c_X4_readSemicolon l dC dI cI cZ cII qr qr_text H.size r_length r_fault_4 r_faultAt_4 r_next_4 r_numberFrom_4 r_text  r_fault_5 r_faultAt_5 r_next_5 hc) (cwV 0 hts (wM_V mw_13_20 mw_13_21 mw_13_22 mw_1_20 mw_13_23) rfl rfl rfl dk_X4_readSemicolon ⟨Nat.le_of_ble_eq_true rfl, Nat.le_of_ble_eq_true rfl⟩) hK hP hD hS hA 4 0 rfl rfl rfl [0, 1] [2, 3, 4, 5, 6, 7, 8] [7, 8, 0, 1, 2, 3, 4, 5, 6] (plC_10 cI cZ cII qr qr_text qb qb_pull qb_strength qb_back qb_moods qb_tides qb_carts r_length r_fault_4 r_faultAt_4 r_next_4 r_numberFrom_4 r_text b_law b_places b_broad b_horses b_blinds b_besides b_tideCount b_cartCount b_due b_pairs b_pull b_strength b_back b_moods b_tides b_carts) rfl (plF_10 cI cZ cII qr qr_text qb qb_pull qb_strength qb_back qb_moods qb_tides qb_carts r_length r_fault_4 r_faultAt_4 r_next_4 r_numberFrom_4 r_text b_law b_places b_broad b_horses b_blinds b_besides b_tideCount b_cartCount b_due b_pairs b_pull b_strength b_back b_moods b_tides b_carts r_length r_fault_5 r_faultAt_5 r_next_5 r_numberFrom_4 r_text) (by decide) rfl hl.1 rfl (Nat.le_of_ble_eq_true rfl) dX4_readBeside_57 ⟨Nat.zero_le _, Nat.zero_le _⟩ (fun H locs hP hD hS => ?_)
    refine lv_aload_n hx hb dX4_readBeside_60 rfl (lv_at hl 1 rfl) ?_
    refine va_get (D := (dC, dI)) (ci := 4) (v := .int r_fault_5) (C := RX4) (T := TX4) (N := 6) hx hb hw inlX4 hown hK hP 0 rfl rfl 2 (by decide) (hw _ mw_8_13) (fun _ h9 => h9) rfl dX4_readBeside_61 ?_
    refine lv_if_ne (tgt := 77) hx hb dX4_readBeside_64 (by decide) (fun h9 => ?_) (fun h9 => ?_)
    · have hf := pg_f h9 hf
      exact RET _ _ _ _ _ _ _ _ _ _ _ dX4_readBeside_77 hP hD hS hf
    · have hf := pg_t h9 hf
      refine lv_aload_n hx hb dX4_readBeside_67 rfl (lv_at hl 2 rfl) ?_
      refine lv_iload_n hx hb dX4_readBeside_68 rfl (lv_at hl 3 rfl) ?_
      refine lv_iload_n hx hb dX4_readBeside_69 rfl (lv_at hl 4 rfl) ?_
      refine lv_iload hx hb dX4_readBeside_70 (lv_at hl 0 rfl) ?_
      refine lv_iconst (v := (5 : Int32)) hx hb dX4_readBeside_72 (by decide) ?_
      refine lv_isub hx hb dX4_readBeside_73 ?_
      obtain ⟨b_besides_6, b_pairs_6, b_moods_6, hc, hf⟩ := bn3_s hf
      refine pg_cVv (As := [.int r_1, .int r_2, .int (r_4 - (5 : Int32))]) (rest := []) (wf := (W_X4r_X0b cI cZ cII qr qr_text qb qb_pull qb_strength qb_back qb_moods qb_tides qb_carts r_length r_fault_5 r_faultAt_5 r_next_5 r_numberFrom_4 r_text b_law b_places b_broad b_horses b_blinds b_besides_6 b_tideCount b_cartCount b_due b_pairs_6 b_pull b_strength b_back b_moods_6 b_tides b_carts)) ⟨hx, hb, hml, hown, hw⟩ (c_X0_addBeside l dC dI cI cZ cII qb qb_pull qb_strength qb_back qb_moods qb_tides qb_carts H.size b_law b_places b_broad b_horses b_blinds b_besides b_tideCount b_cartCount b_due b_pairs b_pull b_strength b_back b_moods b_tides b_carts r_1 r_2 (r_4 - (5 : Int32)) b_besides_6 b_pairs_6 b_moods_6 hc) (cwV 3 hts (wM_V mw_15_9 mw_15_10 mw_15_11 mw_1_15 mw_15_12) rfl rfl rfl dk_X0_addBeside ⟨Nat.le_of_ble_eq_true rfl, Nat.le_of_ble_eq_true rfl⟩) hK hP hD hS hA 0 0 rfl rfl rfl [2, 3, 4, 5, 6, 7, 8] [0, 1] [0, 1, 2, 3, 4, 5, 6, 7, 8] (plC_11 cI cZ cII qr qr_text qb qb_pull qb_strength qb_back qb_moods qb_tides qb_carts r_length r_fault_5 r_faultAt_5 r_next_5 r_numberFrom_4 r_text b_law b_places b_broad b_horses b_blinds b_besides b_tideCount b_cartCount b_due b_pairs b_pull b_strength b_back b_moods b_tides b_carts) rfl (plF_11 cI cZ cII qr qr_text qb qb_pull qb_strength qb_back qb_moods qb_tides qb_carts r_length r_fault_5 r_faultAt_5 r_next_5 r_numberFrom_4 r_text b_law b_places b_broad b_horses b_blinds b_besides b_tideCount b_cartCount b_due b_pairs b_pull b_strength b_back b_moods b_tides b_carts b_law b_places b_broad b_horses b_blinds b_besides_6 b_tideCount b_cartCount b_due b_pairs_6 b_pull b_strength b_back b_moods_6 b_tides b_carts) (by decide) rfl hl.1 rfl (Nat.le_of_ble_eq_true rfl) dX4_readBeside_74 ⟨Nat.zero_le _, Nat.zero_le _⟩ (fun H locs hP hD hS => ?_)
      exact RET _ _ _ _ _ _ _ _ _ _ _ dX4_readBeside_77 hP hD hS hf
  obtain ⟨J38_7, hJ38_7, hf⟩ := jn1_s hf
  have WJ38_7 : ∀ (u_7 : Unit) (H : Heap) (locs : List Loc) (ls : Array Slot), va_P (dC, dI) vwCl (W_X4r_X0b cI cZ cII qr qr_text qb qb_pull qb_strength qb_back qb_moods qb_tides qb_carts r_length r_fault_2 r_faultAt_2 r_next_2 r_numberFrom_2 r_text b_law b_places b_broad b_horses b_blinds b_besides b_tideCount b_cartCount b_due b_pairs b_pull b_strength b_back b_moods b_tides b_carts) H → va_D A (W_X4r_X0b cI cZ cII qr qr_text qb qb_pull qb_strength qb_back qb_moods qb_tides qb_carts r_length r_fault_2 r_faultAt_2 r_next_2 r_numberFrom_2 r_text b_law b_places b_broad b_horses b_blinds b_besides b_tideCount b_cartCount b_due b_pairs b_pull b_strength b_back b_moods b_tides b_carts) → va_S A s.heap H locs → lv_has ls 5 [(0, .ref qr), (1, .ref qb), (2, .int r_1), (3, .int r_2)] → J38_7 u_7 = some (r_fault', r_faultAt', r_next', r_numberFrom', b_besides', b_pairs', b_moods') → W p l e rm_X4_readBeside s m args below meth c H locs 0 0 Q (F0 m 38 ls []) := by
    intro u_7 H locs ls hP hD hS hl hf
    have hf := hJ38_7 _ hf
    refine lv_aload_n hx hb dX4_readBeside_38 rfl (lv_at hl 0 rfl) ?_
    refine lv_iconst (v := (4 : Int32)) hx hb dX4_readBeside_39 (by decide) ?_
    refine lv_aload_n hx hb dX4_readBeside_40 rfl (lv_at hl 0 rfl) ?_
    refine va_get (D := (dC, dI)) (ci := 4) (v := .int r_numberFrom_2) (C := RX4) (T := TX4) (N := 6) hx hb hw inlX4 hown hK hP 0 rfl rfl 5 (by decide) (hw _ mw_13_15) (fun _ h9 => h9) rfl dX4_readBeside_41 ?_
    obtain ⟨r_fault_8, r_faultAt_8, hc, hf⟩ := bn2_s hf
    refine pg_cVv (As := [.int (4 : Int32), .int r_numberFrom_2]) (rest := []) (wf := (W_X4r_X0b cI cZ cII qr qr_text qb qb_pull qb_strength qb_back qb_moods qb_tides qb_carts r_length r_fault_8 r_faultAt_8 r_next_2 r_numberFrom_2 r_text b_law b_places b_broad b_horses b_blinds b_besides b_tideCount b_cartCount b_due b_pairs b_pull b_strength b_back b_moods b_tides b_carts)) ⟨hx, hb, hml, hown, hw⟩ (c_X4_fail l dC dI cI cZ cII qr qr_text H.size r_length r_fault_2 r_faultAt_2 r_next_2 r_numberFrom_2 r_text (4 : Int32) r_numberFrom_2 r_fault_8 r_faultAt_8 hc) (cwV 2 hts (wM_V mw_12_8 mw_12_9 mw_12_10 mw_1_20 mw_12_11) rfl rfl rfl dk_X4_fail ⟨Nat.le_of_ble_eq_true rfl, Nat.le_of_ble_eq_true rfl⟩) hK hP hD hS hA 4 0 rfl rfl rfl [0, 1] [2, 3, 4, 5, 6, 7, 8] [7, 8, 0, 1, 2, 3, 4, 5, 6] (plC_10 cI cZ cII qr qr_text qb qb_pull qb_strength qb_back qb_moods qb_tides qb_carts r_length r_fault_2 r_faultAt_2 r_next_2 r_numberFrom_2 r_text b_law b_places b_broad b_horses b_blinds b_besides b_tideCount b_cartCount b_due b_pairs b_pull b_strength b_back b_moods b_tides b_carts) rfl (plF_10 cI cZ cII qr qr_text qb qb_pull qb_strength qb_back qb_moods qb_tides qb_carts r_length r_fault_2 r_faultAt_2 r_next_2 r_numberFrom_2 r_text b_law b_places b_broad b_horses b_blinds b_besides b_tideCount b_cartCount b_due b_pairs b_pull b_strength b_back b_moods b_tides b_carts r_length r_fault_8 r_faultAt_8 r_next_2 r_numberFrom_2 r_text) (by decide) rfl hl.1 rfl (Nat.le_of_ble_eq_true rfl) dX4_readBeside_44 ⟨Nat.zero_le _, Nat.zero_le _⟩ (fun H locs hP hD hS => ?_)
    exact WJ47_3 _ _ _ _ _ hP hD hS hl hf
  refine lv_icmp_eq (tgt := 38) hx hb dX4_readBeside_26 (by decide) (fun h9 => ?_) (fun h9 => ?_)
  · have hf := pg_t h9 hf
    exact WJ38_7 _ _ _ _ hP hD hS (lv_sub hl [2, 3, 1, 0] rfl) hf
  · have hf := pg_f h9 hf
    refine lv_aload_n hx hb dX4_readBeside_29 rfl (lv_at hl 3 rfl) ?_
    refine lv_iload_n hx hb dX4_readBeside_30 rfl (lv_at hl 1 rfl) ?_
    refine lv_iload_n hx hb dX4_readBeside_31 rfl (lv_at hl 0 rfl) ?_
    obtain ⟨r_9, hc, hf⟩ := bn1_s hf
    refine pg_cVi (As := [.int r_1, .int r_2]) (rest := []) (wf := (W_X4r_X0b cI cZ cII qr qr_text qb qb_pull qb_strength qb_back qb_moods qb_tides qb_carts r_length r_fault_2 r_faultAt_2 r_next_2 r_numberFrom_2 r_text b_law b_places b_broad b_horses b_blinds b_besides b_tideCount b_cartCount b_due b_pairs b_pull b_strength b_back b_moods b_tides b_carts)) ⟨hx, hb, hml, hown, hw⟩ (c_X0_hasPair l dC dI cI cZ cII qb qb_pull qb_strength qb_back qb_moods qb_tides qb_carts H.size b_law b_places b_broad b_horses b_blinds b_besides b_tideCount b_cartCount b_due b_pairs b_pull b_strength b_back b_moods b_tides b_carts r_1 r_2 r_9 hc) (cwV 2 hts (wM_V mw_15_1 mw_15_2 mw_15_3 mw_1_15 mw_15_4) rfl rfl rfl dk_X0_hasPair ⟨Nat.le_of_ble_eq_true rfl, Nat.le_of_ble_eq_true rfl⟩) hK hP hD hS hA 0 0 rfl rfl rfl [2, 3, 4, 5, 6, 7, 8] [0, 1] [0, 1, 2, 3, 4, 5, 6, 7, 8] (plC_11 cI cZ cII qr qr_text qb qb_pull qb_strength qb_back qb_moods qb_tides qb_carts r_length r_fault_2 r_faultAt_2 r_next_2 r_numberFrom_2 r_text b_law b_places b_broad b_horses b_blinds b_besides b_tideCount b_cartCount b_due b_pairs b_pull b_strength b_back b_moods b_tides b_carts) rfl (plF_11 cI cZ cII qr qr_text qb qb_pull qb_strength qb_back qb_moods qb_tides qb_carts r_length r_fault_2 r_faultAt_2 r_next_2 r_numberFrom_2 r_text b_law b_places b_broad b_horses b_blinds b_besides b_tideCount b_cartCount b_due b_pairs b_pull b_strength b_back b_moods b_tides b_carts b_law b_places b_broad b_horses b_blinds b_besides b_tideCount b_cartCount b_due b_pairs b_pull b_strength b_back b_moods b_tides b_carts) (by decide) rfl hl.1 rfl (Nat.le_of_ble_eq_true rfl) dX4_readBeside_32 ⟨Nat.zero_le _, Nat.zero_le _⟩ (fun H locs hP hD hS => ?_)
    refine lv_if_eq (tgt := 47) hx hb dX4_readBeside_35 (by decide) (fun h9 => ?_) (fun h9 => ?_)
    · have hf := pg_t h9 hf
      exact WJ47_3 _ _ _ _ _ hP hD hS (lv_sub hl [2, 3, 1, 0] rfl) hf
    · have hf := pg_f h9 hf
      exact WJ38_7 _ _ _ _ hP hD hS (lv_sub hl [2, 3, 1, 0] rfl) hf
def f_X4_readBlind (r_length : Int32) (r_fault : Int32) (r_faultAt : Int32) (r_next : Int32) (r_numberFrom : Int32) (r_text : Nat → Int32) (b_horses : Int32) (b_blinds : Int32) : Option (Int32 × Int32 × Int32 × Int32 × Int32) :=
  bn5 (f_X4_readNumber (0 : Int32) (b_horses - (1 : Int32)) r_length r_fault r_faultAt r_next r_numberFrom r_text) (fun (r_1 : Int32) (r_fault_1 : Int32) (r_faultAt_1 : Int32) (r_next_1 : Int32) (r_numberFrom_1 : Int32) =>
    bn1 (f_X0_isBlind r_1 b_blinds) (fun (r_2 : Int32) =>
      jn2 (fun (r_fault_3 : Int32) (r_faultAt_3 : Int32) =>
        bn3 (f_X4_readSemicolon r_length r_fault_3 r_faultAt_3 r_next_1 r_text) (fun (r_fault_4 : Int32) (r_faultAt_4 : Int32) (r_next_4 : Int32) =>
          if r_fault_4 = 0 then
            some (r_fault_4, r_faultAt_4, r_next_4, r_numberFrom_1, (b_blinds ||| ((1 : Int32) <<< (r_1 &&& 31))))
          else
            some (r_fault_4, r_faultAt_4, r_next_4, r_numberFrom_1, b_blinds)
        )
      ) (fun J29_3 =>
      if r_2 = 0 then
        J29_3 r_fault_1 r_faultAt_1
      else
        bn2 (f_X4_fail (4 : Int32) r_numberFrom_1 r_fault_1 r_faultAt_1) (fun (r_fault_5 : Int32) (r_faultAt_5 : Int32) =>
          J29_3 r_fault_5 r_faultAt_5
        )
      )
    )
  )
abbrev rm_X4_readBlind : Room := { frames := 2, cells := 0, slots := 0, locals := 46 }
theorem dk_X4_readBlind : yX4_readBlind.cls = RX4 ∧ yX4_readBlind.cls ≠ "java/lang/invoke/MethodHandle" ∧ yX4_readBlind.cls ≠ "java/lang/invoke/VarHandle" ∧ (parseMethodDescriptor yX4_readBlind.desc).map (fun d => d.parameters.length) = some 1 := by decide +kernel
set_option maxHeartbeats 4000000 in
set_option maxRecDepth 100000 in
theorem c_X4_readBlind (l : Launch) (dC : Nat → ClassId) (dI : Nat → Nat → Nat) (cI cZ cII : ClassId) (qr qr_text qb qb_pull qb_strength qb_back qb_moods qb_tides qb_carts : Nat) (sz : Nat) (r_length : Int32) (r_fault : Int32) (r_faultAt : Int32) (r_next : Int32) (r_numberFrom : Int32) (r_text : Nat → Int32) (b_law : Int32) (b_places : Int32) (b_broad : Int32) (b_horses : Int32) (b_blinds : Int32) (b_besides : Int32) (b_tideCount : Int32) (b_cartCount : Int32) (b_due : Int32) (b_pairs : Int64) (b_pull : Nat → Int32) (b_strength : Nat → Int32) (b_back : Nat → Int32) (b_moods : Nat → Int32) (b_tides : Nat → Int32) (b_carts : Nat → Int32) (r_fault' : Int32) (r_faultAt' : Int32) (r_next' : Int32) (r_numberFrom' : Int32) (b_blinds' : Int32) (hf : f_X4_readBlind r_length r_fault r_faultAt r_next r_numberFrom r_text b_horses b_blinds = some (r_fault', r_faultAt', r_next', r_numberFrom', b_blinds')) : Met l yX4_readBlind (wM yX4_readBlind cX4_readBlind 3 none) rm_X4_readBlind (PreW (dC, dI) (tyA cI cZ cII) (W_X4r_X0b cI cZ cII qr qr_text qb qb_pull qb_strength qb_back qb_moods qb_tides qb_carts r_length r_fault r_faultAt r_next r_numberFrom r_text b_law b_places b_broad b_horses b_blinds b_besides b_tideCount b_cartCount b_due b_pairs b_pull b_strength b_back b_moods b_tides b_carts) sz [.ref qr, .ref qb]) (PostV (dC, dI) (tyA cI cZ cII) (W_X4r_X0b cI cZ cII qr qr_text qb qb_pull qb_strength qb_back qb_moods qb_tides qb_carts r_length r_fault r_faultAt r_next r_numberFrom r_text b_law b_places b_broad b_horses b_blinds b_besides b_tideCount b_cartCount b_due b_pairs b_pull b_strength b_back b_moods b_tides b_carts) (W_X4r_X0b cI cZ cII qr qr_text qb qb_pull qb_strength qb_back qb_moods qb_tides qb_carts r_length r_fault' r_faultAt' r_next' r_numberFrom' r_text b_law b_places b_broad b_horses b_blinds' b_besides b_tideCount b_cartCount b_due b_pairs b_pull b_strength b_back b_moods b_tides b_carts) sz) 0 0 (va_A (W_X4r_X0b cI cZ cII qr qr_text qb qb_pull qb_strength qb_back qb_moods qb_tides qb_carts r_length r_fault r_faultAt r_next r_numberFrom r_text b_law b_places b_broad b_horses b_blinds b_besides b_tideCount b_cartCount b_due b_pairs b_pull b_strength b_back b_moods b_tides b_carts) sz) := by
  refine Met.ofW (cc := cX4_readBlind) (maxL := 3) (ret := none) (by decide) rfl ?_
  intro p e s m args below meth c s₁ B hml hv
  obtain ⟨rfl, hsz, hP, hK, hD0⟩ := hv
  have hx := B.exec
  have hb := B.bytes
  have hr := B.returns
  have hts := atoms_spec (ws := wM yX4_readBlind cX4_readBlind 3 none) B.pre
  have hown : s.vm.findClass RX4 = some m.cls := findClass_of_methodNamed B.named
  have hlocks := B.notSynchronized
  subst hsz
  have hD := hD0.self (sz := s.heap.size)
  obtain ⟨A, hAe⟩ : ∃ A, A = va_A (W_X4r_X0b cI cZ cII qr qr_text qb qb_pull qb_strength qb_back qb_moods qb_tides qb_carts r_length r_fault r_faultAt r_next r_numberFrom r_text b_law b_places b_broad b_horses b_blinds b_besides b_tideCount b_cartCount b_due b_pairs b_pull b_strength b_back b_moods b_tides b_carts) s.heap.size := ⟨_, rfl⟩
  rw [← hAe] at hD
  have hA : ∀ q : Nat, s.heap.size ≤ q → A q := fun q h => by rw [hAe]; exact Or.inr h
  have hS : va_S A s.heap s.heap [] := va_S.rf
  have hl := lv_entry ([.ref qr, .ref qb]) (n := 3) (Nat.le_of_ble_eq_true rfl)
  rw [lg_entry_eq]
  generalize (lg_sl ([.ref qr, .ref qb]) ++ List.replicate (3 - (lg_sl ([.ref qr, .ref qb])).length) Slot.unset).toArray = ls at hl ⊢
  have hl : lv_has ls 3 [(0, .ref qr), (1, .ref qb)] := hl
  generalize ([.ref qr, .ref qb] : List Value).toArray = args at hts ⊢
  have hw : ∀ w ∈ wsL_law, w.before args s = true := fun w h => hts w (List.mem_cons_of_mem _ h)
  refine pg_start (fun Q hQ => ?_)
  have RET : ∀ (H : Heap) (locs : List Loc) (ls : Array Slot) (pc : Nat) (x0 : Int32) (x1 : Int32) (x2 : Int32) (x3 : Int32) (x4 : Int32) , decode cX4_readBlind pc = .ok (.return_, 1) → va_P (dC, dI) vwCl (W_X4r_X0b cI cZ cII qr qr_text qb qb_pull qb_strength qb_back qb_moods qb_tides qb_carts r_length x0 x1 x2 x3 r_text b_law b_places b_broad b_horses x4 b_besides b_tideCount b_cartCount b_due b_pairs b_pull b_strength b_back b_moods b_tides b_carts) H → va_D A (W_X4r_X0b cI cZ cII qr qr_text qb qb_pull qb_strength qb_back qb_moods qb_tides qb_carts r_length x0 x1 x2 x3 r_text b_law b_places b_broad b_horses x4 b_besides b_tideCount b_cartCount b_due b_pairs b_pull b_strength b_back b_moods b_tides b_carts) → va_S A s.heap H locs → (some (x0, x1, x2, x3, x4) : Option (Int32 × Int32 × Int32 × Int32 × Int32)) = some (r_fault', r_faultAt', r_next', r_numberFrom', b_blinds') → W p l e rm_X4_readBlind s m args below meth c H locs 0 0 Q (F0 m pc ls []) := by
    intro H locs ls pc x0 x1 x2 x3 x4 hd hP hD hS he
    subst hAe; subst hQ
    simp only [Option.some.injEq, Prod.mk.injEq] at he
    obtain ⟨rfl, rfl, rfl, rfl, rfl⟩ := he
    exact pg_vret hx hb hr hlocks hK hP hD hS hd
  unfold f_X4_readBlind at hf
  refine lv_aload_n hx hb dX4_readBlind_0 rfl (lv_at hl 0 rfl) ?_
  refine lv_iconst (v := (0 : Int32)) hx hb dX4_readBlind_1 (by decide) ?_
  refine lv_aload_n hx hb dX4_readBlind_2 rfl (lv_at hl 1 rfl) ?_
  refine va_get (D := (dC, dI)) (ci := 0) (v := .int b_horses) (C := RX0) (T := TX0) (N := 16) hx hb hw inlX0 hown hK hP 2 rfl rfl 3 (by decide) (hw _ mw_12_16) (fun _ h9 => h9) rfl dX4_readBlind_3 ?_
  refine lv_iconst (v := (1 : Int32)) hx hb dX4_readBlind_6 (by decide) ?_
  refine lv_isub hx hb dX4_readBlind_7 ?_
  obtain ⟨r_1, r_fault_1, r_faultAt_1, r_next_1, r_numberFrom_1, hc, hf⟩ := bn5_s hf
  refine pg_cVi (As := [.int (0 : Int32), .int (b_horses - (1 : Int32))]) (rest := []) (wf := (W_X4r_X0b cI cZ cII qr qr_text qb qb_pull qb_strength qb_back qb_moods qb_tides qb_carts r_length r_fault_1 r_faultAt_1 r_next_1 r_numberFrom_1 r_text b_law b_places b_broad b_horses b_blinds b_besides b_tideCount b_cartCount b_due b_pairs b_pull b_strength b_back b_moods b_tides b_carts)) ⟨hx, hb, hml, hown, hw⟩ (c_X4_readNumber l dC dI cI cZ cII qr qr_text s.heap.size r_length r_fault r_faultAt r_next r_numberFrom r_text (0 : Int32) (b_horses - (1 : Int32)) r_1 r_fault_1 r_faultAt_1 r_next_1 r_numberFrom_1 hc) (cwV 2 hts (wM_V mw_13_11 mw_13_12 mw_13_13 mw_1_20 mw_13_14) rfl rfl rfl dk_X4_readNumber ⟨Nat.le_of_ble_eq_true rfl, Nat.le_of_ble_eq_true rfl⟩) hK hP hD hS hA 4 0 rfl rfl rfl [0, 1] [2, 3, 4, 5, 6, 7, 8] [7, 8, 0, 1, 2, 3, 4, 5, 6] (plC_10 cI cZ cII qr qr_text qb qb_pull qb_strength qb_back qb_moods qb_tides qb_carts r_length r_fault r_faultAt r_next r_numberFrom r_text b_law b_places b_broad b_horses b_blinds b_besides b_tideCount b_cartCount b_due b_pairs b_pull b_strength b_back b_moods b_tides b_carts) rfl (plF_10 cI cZ cII qr qr_text qb qb_pull qb_strength qb_back qb_moods qb_tides qb_carts r_length r_fault r_faultAt r_next r_numberFrom r_text b_law b_places b_broad b_horses b_blinds b_besides b_tideCount b_cartCount b_due b_pairs b_pull b_strength b_back b_moods b_tides b_carts r_length r_fault_1 r_faultAt_1 r_next_1 r_numberFrom_1 r_text) (by decide) rfl hl.1 rfl (Nat.le_of_ble_eq_true rfl) dX4_readBlind_8 ⟨Nat.zero_le _, Nat.zero_le _⟩ (fun H locs hP hD hS => ?_)
  refine lv_istore_n (lv' := [(2, .int r_1), (0, .ref qr), (1, .ref qb)]) hx hb dX4_readBlind_11 rfl hl (by decide) rfl (fun ls hl => ?_)
  refine lv_aload_n hx hb dX4_readBlind_12 rfl (lv_at hl 2 rfl) ?_
  refine lv_iload_n hx hb dX4_readBlind_13 rfl (lv_at hl 0 rfl) ?_
  obtain ⟨r_2, hc, hf⟩ := bn1_s hf
  refine pg_cVi (As := [.int r_1]) (rest := []) (wf := (W_X4r_X0b cI cZ cII qr qr_text qb qb_pull qb_strength qb_back qb_moods qb_tides qb_carts r_length r_fault_1 r_faultAt_1 r_next_1 r_numberFrom_1 r_text b_law b_places b_broad b_horses b_blinds b_besides b_tideCount b_cartCount b_due b_pairs b_pull b_strength b_back b_moods b_tides b_carts)) ⟨hx, hb, hml, hown, hw⟩ (c_X0_isBlind l dC dI cI cZ cII qb qb_pull qb_strength qb_back qb_moods qb_tides qb_carts H.size b_law b_places b_broad b_horses b_blinds b_besides b_tideCount b_cartCount b_due b_pairs b_pull b_strength b_back b_moods b_tides b_carts r_1 r_2 hc) (cwV 1 hts (wM_V mw_14_17 mw_14_18 mw_14_19 mw_1_15 mw_14_20) rfl rfl rfl dk_X0_isBlind ⟨Nat.le_of_ble_eq_true rfl, Nat.le_of_ble_eq_true rfl⟩) hK hP hD hS hA 0 0 rfl rfl rfl [2, 3, 4, 5, 6, 7, 8] [0, 1] [0, 1, 2, 3, 4, 5, 6, 7, 8] (plC_11 cI cZ cII qr qr_text qb qb_pull qb_strength qb_back qb_moods qb_tides qb_carts r_length r_fault_1 r_faultAt_1 r_next_1 r_numberFrom_1 r_text b_law b_places b_broad b_horses b_blinds b_besides b_tideCount b_cartCount b_due b_pairs b_pull b_strength b_back b_moods b_tides b_carts) rfl (plF_11 cI cZ cII qr qr_text qb qb_pull qb_strength qb_back qb_moods qb_tides qb_carts r_length r_fault_1 r_faultAt_1 r_next_1 r_numberFrom_1 r_text b_law b_places b_broad b_horses b_blinds b_besides b_tideCount b_cartCount b_due b_pairs b_pull b_strength b_back b_moods b_tides b_carts b_law b_places b_broad b_horses b_blinds b_besides b_tideCount b_cartCount b_due b_pairs b_pull b_strength b_back b_moods b_tides b_carts) (by decide) rfl hl.1 rfl (Nat.le_of_ble_eq_true rfl) dX4_readBlind_14 ⟨Nat.zero_le _, Nat.zero_le _⟩ (fun H locs hP hD hS => ?_)
  obtain ⟨J29_3, hJ29_3, hf⟩ := jn2_s hf
  have WJ29_3 : ∀ (r_fault_3 : Int32) (r_faultAt_3 : Int32) (H : Heap) (locs : List Loc) (ls : Array Slot), va_P (dC, dI) vwCl (W_X4r_X0b cI cZ cII qr qr_text qb qb_pull qb_strength qb_back qb_moods qb_tides qb_carts r_length r_fault_3 r_faultAt_3 r_next_1 r_numberFrom_1 r_text b_law b_places b_broad b_horses b_blinds b_besides b_tideCount b_cartCount b_due b_pairs b_pull b_strength b_back b_moods b_tides b_carts) H → va_D A (W_X4r_X0b cI cZ cII qr qr_text qb qb_pull qb_strength qb_back qb_moods qb_tides qb_carts r_length r_fault_3 r_faultAt_3 r_next_1 r_numberFrom_1 r_text b_law b_places b_broad b_horses b_blinds b_besides b_tideCount b_cartCount b_due b_pairs b_pull b_strength b_back b_moods b_tides b_carts) → va_S A s.heap H locs → lv_has ls 3 [(0, .ref qr), (1, .ref qb), (2, .int r_1)] → J29_3 r_fault_3 r_faultAt_3 = some (r_fault', r_faultAt', r_next', r_numberFrom', b_blinds') → W p l e rm_X4_readBlind s m args below meth c H locs 0 0 Q (F0 m 29 ls []) := by
    intro r_fault_3 r_faultAt_3 H locs ls hP hD hS hl hf
    have hf := hJ29_3 _ _ hf
    refine lv_aload_n hx hb dX4_readBlind_29 rfl (lv_at hl 0 rfl) ?_
    obtain ⟨r_fault_4, r_faultAt_4, r_next_4, hc, hf⟩ := bn3_s hf
    refine pg_cVv (As := []) (rest := []) (wf := (W_X4r_X0b cI cZ cII qr qr_text qb qb_pull qb_strength qb_back qb_moods qb_tides qb_carts r_length r_fault_4 r_faultAt_4 r_next_4 r_numberFrom_1 r_text b_law b_places b_broad b_horses b_blinds b_besides b_tideCount b_cartCount b_due b_pairs b_pull b_strength b_back b_moods b_tides b_carts)) ⟨hx, hb, hml, hown, hw⟩ (c_X4_readSemicolon l dC dI cI cZ cII qr qr_text H.size r_length r_fault_3 r_faultAt_3 r_next_1 r_numberFrom_1 r_text  r_fault_4 r_faultAt_4 r_next_4 hc) (cwV 0 hts (wM_V mw_13_20 mw_13_21 mw_13_22 mw_1_20 mw_13_23) rfl rfl rfl dk_X4_readSemicolon ⟨Nat.le_of_ble_eq_true rfl, Nat.le_of_ble_eq_true rfl⟩) hK hP hD hS hA 4 0 rfl rfl rfl [0, 1] [2, 3, 4, 5, 6, 7, 8] [7, 8, 0, 1, 2, 3, 4, 5, 6] (plC_10 cI cZ cII qr qr_text qb qb_pull qb_strength qb_back qb_moods qb_tides qb_carts r_length r_fault_3 r_faultAt_3 r_next_1 r_numberFrom_1 r_text b_law b_places b_broad b_horses b_blinds b_besides b_tideCount b_cartCount b_due b_pairs b_pull b_strength b_back b_moods b_tides b_carts) rfl (plF_10 cI cZ cII qr qr_text qb qb_pull qb_strength qb_back qb_moods qb_tides qb_carts r_length r_fault_3 r_faultAt_3 r_next_1 r_numberFrom_1 r_text b_law b_places b_broad b_horses b_blinds b_besides b_tideCount b_cartCount b_due b_pairs b_pull b_strength b_back b_moods b_tides b_carts r_length r_fault_4 r_faultAt_4 r_next_4 r_numberFrom_1 r_text) (by decide) rfl hl.1 rfl (Nat.le_of_ble_eq_true rfl) dX4_readBlind_30 ⟨Nat.zero_le _, Nat.zero_le _⟩ (fun H locs hP hD hS => ?_)
    refine lv_aload_n hx hb dX4_readBlind_33 rfl (lv_at hl 0 rfl) ?_
    refine va_get (D := (dC, dI)) (ci := 4) (v := .int r_fault_4) (C := RX4) (T := TX4) (N := 6) hx hb hw inlX4 hown hK hP 0 rfl rfl 2 (by decide) (hw _ mw_8_13) (fun _ h9 => h9) rfl dX4_readBlind_34 ?_
    refine lv_if_ne (tgt := 52) hx hb dX4_readBlind_37 (by decide) (fun h9 => ?_) (fun h9 => ?_)
    · have hf := pg_f h9 hf
      exact RET _ _ _ _ _ _ _ _ _ dX4_readBlind_52 hP hD hS hf
    · have hf := pg_t h9 hf
      refine lv_aload_n hx hb dX4_readBlind_40 rfl (lv_at hl 1 rfl) ?_
      refine lv_dup hx hb dX4_readBlind_41 rfl ?_
      refine va_get (D := (dC, dI)) (ci := 0) (v := .int b_blinds) (C := RX0) (T := TX0) (N := 16) hx hb hw inlX0 hown hK hP 2 rfl rfl 4 (by decide) (hw _ mw_14_16) (fun _ h9 => h9) rfl dX4_readBlind_42 ?_
      refine lv_iconst (v := (1 : Int32)) hx hb dX4_readBlind_45 (by decide) ?_
      refine lv_iload_n hx hb dX4_readBlind_46 rfl (lv_at hl 2 rfl) ?_
      refine lv_ishl hx hb dX4_readBlind_47 ?_
      refine lv_ior hx hb dX4_readBlind_48 ?_
      refine va_put (D := (dC, dI)) (ci := 0) (v := .int (b_blinds ||| ((1 : Int32) <<< (r_1 &&& 31)))) (ty := .int) (C := RX0) (T := TX0) (N := 16) hx hb hw inlX0 tyX0 tyX0_ok nmX0 hown hK hP hD hS 2 rfl rfl 4 (by decide) (hw _ mw_14_16) (fun _ h9 => h9) rfl (by decide +kernel) rfl rfl (Nat.le_of_ble_eq_true rfl) dX4_readBlind_49 (fun H locs hP hD hS => ?_)
      have hP : va_P (dC, dI) vwCl (W_X4r_X0b cI cZ cII qr qr_text qb qb_pull qb_strength qb_back qb_moods qb_tides qb_carts r_length r_fault_4 r_faultAt_4 r_next_4 r_numberFrom_1 r_text b_law b_places b_broad b_horses (b_blinds ||| ((1 : Int32) <<< (r_1 &&& 31))) b_besides b_tideCount b_cartCount b_due b_pairs b_pull b_strength b_back b_moods b_tides b_carts) H := hP
      have hD : va_D A (W_X4r_X0b cI cZ cII qr qr_text qb qb_pull qb_strength qb_back qb_moods qb_tides qb_carts r_length r_fault_4 r_faultAt_4 r_next_4 r_numberFrom_1 r_text b_law b_places b_broad b_horses (b_blinds ||| ((1 : Int32) <<< (r_1 &&& 31))) b_besides b_tideCount b_cartCount b_due b_pairs b_pull b_strength b_back b_moods b_tides b_carts) := hD
      exact RET _ _ _ _ _ _ _ _ _ dX4_readBlind_52 hP hD hS hf
  refine lv_if_eq (tgt := 29) hx hb dX4_readBlind_17 (by decide) (fun h9 => ?_) (fun h9 => ?_)
  · have hf := pg_t h9 hf
    exact WJ29_3 _ _ _ _ _ hP hD hS (lv_sub hl [1, 2, 0] rfl) hf
  · have hf := pg_f h9 hf
    refine lv_aload_n hx hb dX4_readBlind_20 rfl (lv_at hl 1 rfl) ?_
    refine lv_iconst (v := (4 : Int32)) hx hb dX4_readBlind_21 (by decide) ?_
    refine lv_aload_n hx hb dX4_readBlind_22 rfl (lv_at hl 1 rfl) ?_
    refine va_get (D := (dC, dI)) (ci := 4) (v := .int r_numberFrom_1) (C := RX4) (T := TX4) (N := 6) hx hb hw inlX4 hown hK hP 0 rfl rfl 5 (by decide) (hw _ mw_13_15) (fun _ h9 => h9) rfl dX4_readBlind_23 ?_
    obtain ⟨r_fault_5, r_faultAt_5, hc, hf⟩ := bn2_s hf
    refine pg_cVv (As := [.int (4 : Int32), .int r_numberFrom_1]) (rest := []) (wf := (W_X4r_X0b cI cZ cII qr qr_text qb qb_pull qb_strength qb_back qb_moods qb_tides qb_carts r_length r_fault_5 r_faultAt_5 r_next_1 r_numberFrom_1 r_text b_law b_places b_broad b_horses b_blinds b_besides b_tideCount b_cartCount b_due b_pairs b_pull b_strength b_back b_moods b_tides b_carts)) ⟨hx, hb, hml, hown, hw⟩ (c_X4_fail l dC dI cI cZ cII qr qr_text H.size r_length r_fault_1 r_faultAt_1 r_next_1 r_numberFrom_1 r_text (4 : Int32) r_numberFrom_1 r_fault_5 r_faultAt_5 hc) (cwV 2 hts (wM_V mw_12_8 mw_12_9 mw_12_10 mw_1_20 mw_12_11) rfl rfl rfl dk_X4_fail ⟨Nat.le_of_ble_eq_true rfl, Nat.le_of_ble_eq_true rfl⟩) hK hP hD hS hA 4 0 rfl rfl rfl [0, 1] [2, 3, 4, 5, 6, 7, 8] [7, 8, 0, 1, 2, 3, 4, 5, 6] (plC_10 cI cZ cII qr qr_text qb qb_pull qb_strength qb_back qb_moods qb_tides qb_carts r_length r_fault_1 r_faultAt_1 r_next_1 r_numberFrom_1 r_text b_law b_places b_broad b_horses b_blinds b_besides b_tideCount b_cartCount b_due b_pairs b_pull b_strength b_back b_moods b_tides b_carts) rfl (plF_10 cI cZ cII qr qr_text qb qb_pull qb_strength qb_back qb_moods qb_tides qb_carts r_length r_fault_1 r_faultAt_1 r_next_1 r_numberFrom_1 r_text b_law b_places b_broad b_horses b_blinds b_besides b_tideCount b_cartCount b_due b_pairs b_pull b_strength b_back b_moods b_tides b_carts r_length r_fault_5 r_faultAt_5 r_next_1 r_numberFrom_1 r_text) (by decide) rfl hl.1 rfl (Nat.le_of_ble_eq_true rfl) dX4_readBlind_26 ⟨Nat.zero_le _, Nat.zero_le _⟩ (fun H locs hP hD hS => ?_)
    exact WJ29_3 _ _ _ _ _ hP hD hS (lv_sub hl [1, 2, 0] rfl) hf
def f_X4_readHorse (r_length : Int32) (r_fault : Int32) (r_faultAt : Int32) (r_next : Int32) (r_numberFrom : Int32) (r_text : Nat → Int32) (b_horses : Int32) (b_pull : Nat → Int32) (b_strength : Nat → Int32) (b_back : Nat → Int32) : Option (Int32 × Int32 × Int32 × Int32 × Int32 × (Nat → Int32) × (Nat → Int32) × (Nat → Int32)) :=
  bn5 (f_X4_readNumber (1 : Int32) (30 : Int32) r_length r_fault r_faultAt r_next r_numberFrom r_text) (fun (r_1 : Int32) (r_fault_1 : Int32) (r_faultAt_1 : Int32) (r_next_1 : Int32) (r_numberFrom_1 : Int32) =>
    bn5 (f_X4_readNumber (1 : Int32) (200 : Int32) r_length r_fault_1 r_faultAt_1 r_next_1 r_numberFrom_1 r_text) (fun (r_2 : Int32) (r_fault_2 : Int32) (r_faultAt_2 : Int32) (r_next_2 : Int32) (r_numberFrom_2 : Int32) =>
      bn5 (f_X4_readNumber (0 : Int32) (60 : Int32) r_length r_fault_2 r_faultAt_2 r_next_2 r_numberFrom_2 r_text) (fun (r_3 : Int32) (r_fault_3 : Int32) (r_faultAt_3 : Int32) (r_next_3 : Int32) (r_numberFrom_3 : Int32) =>
        bn3 (f_X4_readSemicolon r_length r_fault_3 r_faultAt_3 r_next_3 r_text) (fun (r_fault_4 : Int32) (r_faultAt_4 : Int32) (r_next_4 : Int32) =>
          if r_fault_4 = 0 then
            bn4 (f_X0_addHorse r_1 r_2 r_3 b_horses b_pull b_strength b_back) (fun (b_horses_5 : Int32) (b_pull_5 : Nat → Int32) (b_strength_5 : Nat → Int32) (b_back_5 : Nat → Int32) =>
              some (r_fault_4, r_faultAt_4, r_next_4, r_numberFrom_3, b_horses_5, b_pull_5, b_strength_5, b_back_5)
            )
          else
            some (r_fault_4, r_faultAt_4, r_next_4, r_numberFrom_3, b_horses, b_pull, b_strength, b_back)
        )
      )
    )
  )
abbrev rm_X4_readHorse : Room := { frames := 2, cells := 0, slots := 0, locals := 46 }
theorem dk_X4_readHorse : yX4_readHorse.cls = RX4 ∧ yX4_readHorse.cls ≠ "java/lang/invoke/MethodHandle" ∧ yX4_readHorse.cls ≠ "java/lang/invoke/VarHandle" ∧ (parseMethodDescriptor yX4_readHorse.desc).map (fun d => d.parameters.length) = some 1 := by decide +kernel
set_option maxHeartbeats 4000000 in
set_option maxRecDepth 100000 in
theorem c_X4_readHorse (l : Launch) (dC : Nat → ClassId) (dI : Nat → Nat → Nat) (cI cZ cII : ClassId) (qr qr_text qb qb_pull qb_strength qb_back qb_moods qb_tides qb_carts : Nat) (sz : Nat) (r_length : Int32) (r_fault : Int32) (r_faultAt : Int32) (r_next : Int32) (r_numberFrom : Int32) (r_text : Nat → Int32) (b_law : Int32) (b_places : Int32) (b_broad : Int32) (b_horses : Int32) (b_blinds : Int32) (b_besides : Int32) (b_tideCount : Int32) (b_cartCount : Int32) (b_due : Int32) (b_pairs : Int64) (b_pull : Nat → Int32) (b_strength : Nat → Int32) (b_back : Nat → Int32) (b_moods : Nat → Int32) (b_tides : Nat → Int32) (b_carts : Nat → Int32) (r_fault' : Int32) (r_faultAt' : Int32) (r_next' : Int32) (r_numberFrom' : Int32) (b_horses' : Int32) (b_pull' : Nat → Int32) (b_strength' : Nat → Int32) (b_back' : Nat → Int32) (hf : f_X4_readHorse r_length r_fault r_faultAt r_next r_numberFrom r_text b_horses b_pull b_strength b_back = some (r_fault', r_faultAt', r_next', r_numberFrom', b_horses', b_pull', b_strength', b_back')) : Met l yX4_readHorse (wM yX4_readHorse cX4_readHorse 5 none) rm_X4_readHorse (PreW (dC, dI) (tyA cI cZ cII) (W_X4r_X0b cI cZ cII qr qr_text qb qb_pull qb_strength qb_back qb_moods qb_tides qb_carts r_length r_fault r_faultAt r_next r_numberFrom r_text b_law b_places b_broad b_horses b_blinds b_besides b_tideCount b_cartCount b_due b_pairs b_pull b_strength b_back b_moods b_tides b_carts) sz [.ref qr, .ref qb]) (PostV (dC, dI) (tyA cI cZ cII) (W_X4r_X0b cI cZ cII qr qr_text qb qb_pull qb_strength qb_back qb_moods qb_tides qb_carts r_length r_fault r_faultAt r_next r_numberFrom r_text b_law b_places b_broad b_horses b_blinds b_besides b_tideCount b_cartCount b_due b_pairs b_pull b_strength b_back b_moods b_tides b_carts) (W_X4r_X0b cI cZ cII qr qr_text qb qb_pull qb_strength qb_back qb_moods qb_tides qb_carts r_length r_fault' r_faultAt' r_next' r_numberFrom' r_text b_law b_places b_broad b_horses' b_blinds b_besides b_tideCount b_cartCount b_due b_pairs b_pull' b_strength' b_back' b_moods b_tides b_carts) sz) 0 0 (va_A (W_X4r_X0b cI cZ cII qr qr_text qb qb_pull qb_strength qb_back qb_moods qb_tides qb_carts r_length r_fault r_faultAt r_next r_numberFrom r_text b_law b_places b_broad b_horses b_blinds b_besides b_tideCount b_cartCount b_due b_pairs b_pull b_strength b_back b_moods b_tides b_carts) sz) := by
  refine Met.ofW (cc := cX4_readHorse) (maxL := 5) (ret := none) (by decide) rfl ?_
  intro p e s m args below meth c s₁ B hml hv
  obtain ⟨rfl, hsz, hP, hK, hD0⟩ := hv
  have hx := B.exec
  have hb := B.bytes
  have hr := B.returns
  have hts := atoms_spec (ws := wM yX4_readHorse cX4_readHorse 5 none) B.pre
  have hown : s.vm.findClass RX4 = some m.cls := findClass_of_methodNamed B.named
  have hlocks := B.notSynchronized
  subst hsz
  have hD := hD0.self (sz := s.heap.size)
  obtain ⟨A, hAe⟩ : ∃ A, A = va_A (W_X4r_X0b cI cZ cII qr qr_text qb qb_pull qb_strength qb_back qb_moods qb_tides qb_carts r_length r_fault r_faultAt r_next r_numberFrom r_text b_law b_places b_broad b_horses b_blinds b_besides b_tideCount b_cartCount b_due b_pairs b_pull b_strength b_back b_moods b_tides b_carts) s.heap.size := ⟨_, rfl⟩
  rw [← hAe] at hD
  have hA : ∀ q : Nat, s.heap.size ≤ q → A q := fun q h => by rw [hAe]; exact Or.inr h
  have hS : va_S A s.heap s.heap [] := va_S.rf
  have hl := lv_entry ([.ref qr, .ref qb]) (n := 5) (Nat.le_of_ble_eq_true rfl)
  rw [lg_entry_eq]
  generalize (lg_sl ([.ref qr, .ref qb]) ++ List.replicate (5 - (lg_sl ([.ref qr, .ref qb])).length) Slot.unset).toArray = ls at hl ⊢
  have hl : lv_has ls 5 [(0, .ref qr), (1, .ref qb)] := hl
  generalize ([.ref qr, .ref qb] : List Value).toArray = args at hts ⊢
  have hw : ∀ w ∈ wsL_law, w.before args s = true := fun w h => hts w (List.mem_cons_of_mem _ h)
  refine pg_start (fun Q hQ => ?_)
  have RET : ∀ (H : Heap) (locs : List Loc) (ls : Array Slot) (pc : Nat) (x0 : Int32) (x1 : Int32) (x2 : Int32) (x3 : Int32) (x4 : Int32) (x5 : Nat → Int32) (x6 : Nat → Int32) (x7 : Nat → Int32) , decode cX4_readHorse pc = .ok (.return_, 1) → va_P (dC, dI) vwCl (W_X4r_X0b cI cZ cII qr qr_text qb qb_pull qb_strength qb_back qb_moods qb_tides qb_carts r_length x0 x1 x2 x3 r_text b_law b_places b_broad x4 b_blinds b_besides b_tideCount b_cartCount b_due b_pairs x5 x6 x7 b_moods b_tides b_carts) H → va_D A (W_X4r_X0b cI cZ cII qr qr_text qb qb_pull qb_strength qb_back qb_moods qb_tides qb_carts r_length x0 x1 x2 x3 r_text b_law b_places b_broad x4 b_blinds b_besides b_tideCount b_cartCount b_due b_pairs x5 x6 x7 b_moods b_tides b_carts) → va_S A s.heap H locs → (some (x0, x1, x2, x3, x4, x5, x6, x7) : Option (Int32 × Int32 × Int32 × Int32 × Int32 × (Nat → Int32) × (Nat → Int32) × (Nat → Int32))) = some (r_fault', r_faultAt', r_next', r_numberFrom', b_horses', b_pull', b_strength', b_back') → W p l e rm_X4_readHorse s m args below meth c H locs 0 0 Q (F0 m pc ls []) := by
    intro H locs ls pc x0 x1 x2 x3 x4 x5 x6 x7 hd hP hD hS he
    subst hAe; subst hQ
    simp only [Option.some.injEq, Prod.mk.injEq] at he
    obtain ⟨rfl, rfl, rfl, rfl, rfl, rfl, rfl, rfl⟩ := he
    exact pg_vret hx hb hr hlocks hK hP hD hS hd
  unfold f_X4_readHorse at hf
  refine lv_aload_n hx hb dX4_readHorse_0 rfl (lv_at hl 0 rfl) ?_
  refine lv_iconst (v := (1 : Int32)) hx hb dX4_readHorse_1 (by decide) ?_
  refine lv_bipush (v := (30 : Int32)) hx hb dX4_readHorse_2 (by decide) ?_
  obtain ⟨r_1, r_fault_1, r_faultAt_1, r_next_1, r_numberFrom_1, hc, hf⟩ := bn5_s hf
  refine pg_cVi (As := [.int (1 : Int32), .int (30 : Int32)]) (rest := []) (wf := (W_X4r_X0b cI cZ cII qr qr_text qb qb_pull qb_strength qb_back qb_moods qb_tides qb_carts r_length r_fault_1 r_faultAt_1 r_next_1 r_numberFrom_1 r_text b_law b_places b_broad b_horses b_blinds b_besides b_tideCount b_cartCount b_due b_pairs b_pull b_strength b_back b_moods b_tides b_carts)) ⟨hx, hb, hml, hown, hw⟩ (c_X4_readNumber l dC dI cI cZ cII qr qr_text s.heap.size r_length r_fault r_faultAt r_next r_numberFrom r_text (1 : Int32) (30 : Int32) r_1 r_fault_1 r_faultAt_1 r_next_1 r_numberFrom_1 hc) (cwV 2 hts (wM_V mw_13_11 mw_13_12 mw_13_13 mw_1_20 mw_13_14) rfl rfl rfl dk_X4_readNumber ⟨Nat.le_of_ble_eq_true rfl, Nat.le_of_ble_eq_true rfl⟩) hK hP hD hS hA 4 0 rfl rfl rfl [0, 1] [2, 3, 4, 5, 6, 7, 8] [7, 8, 0, 1, 2, 3, 4, 5, 6] (plC_10 cI cZ cII qr qr_text qb qb_pull qb_strength qb_back qb_moods qb_tides qb_carts r_length r_fault r_faultAt r_next r_numberFrom r_text b_law b_places b_broad b_horses b_blinds b_besides b_tideCount b_cartCount b_due b_pairs b_pull b_strength b_back b_moods b_tides b_carts) rfl (plF_10 cI cZ cII qr qr_text qb qb_pull qb_strength qb_back qb_moods qb_tides qb_carts r_length r_fault r_faultAt r_next r_numberFrom r_text b_law b_places b_broad b_horses b_blinds b_besides b_tideCount b_cartCount b_due b_pairs b_pull b_strength b_back b_moods b_tides b_carts r_length r_fault_1 r_faultAt_1 r_next_1 r_numberFrom_1 r_text) (by decide) rfl hl.1 rfl (Nat.le_of_ble_eq_true rfl) dX4_readHorse_4 ⟨Nat.zero_le _, Nat.zero_le _⟩ (fun H locs hP hD hS => ?_)
  refine lv_istore_n (lv' := [(2, .int r_1), (0, .ref qr), (1, .ref qb)]) hx hb dX4_readHorse_7 rfl hl (by decide) rfl (fun ls hl => ?_)
  refine lv_aload_n hx hb dX4_readHorse_8 rfl (lv_at hl 1 rfl) ?_
  refine lv_iconst (v := (1 : Int32)) hx hb dX4_readHorse_9 (by decide) ?_
  refine lv_sipush (v := (200 : Int32)) hx hb dX4_readHorse_10 (by decide) ?_
  obtain ⟨r_2, r_fault_2, r_faultAt_2, r_next_2, r_numberFrom_2, hc, hf⟩ := bn5_s hf
  refine pg_cVi (As := [.int (1 : Int32), .int (200 : Int32)]) (rest := []) (wf := (W_X4r_X0b cI cZ cII qr qr_text qb qb_pull qb_strength qb_back qb_moods qb_tides qb_carts r_length r_fault_2 r_faultAt_2 r_next_2 r_numberFrom_2 r_text b_law b_places b_broad b_horses b_blinds b_besides b_tideCount b_cartCount b_due b_pairs b_pull b_strength b_back b_moods b_tides b_carts)) ⟨hx, hb, hml, hown, hw⟩ (c_X4_readNumber l dC dI cI cZ cII qr qr_text H.size r_length r_fault_1 r_faultAt_1 r_next_1 r_numberFrom_1 r_text (1 : Int32) (200 : Int32) r_2 r_fault_2 r_faultAt_2 r_next_2 r_numberFrom_2 hc) (cwV 2 hts (wM_V mw_13_11 mw_13_12 mw_13_13 mw_1_20 mw_13_14) rfl rfl rfl dk_X4_readNumber ⟨Nat.le_of_ble_eq_true rfl, Nat.le_of_ble_eq_true rfl⟩) hK hP hD hS hA 4 0 rfl rfl rfl [0, 1] [2, 3, 4, 5, 6, 7, 8] [7, 8, 0, 1, 2, 3, 4, 5, 6] (plC_10 cI cZ cII qr qr_text qb qb_pull qb_strength qb_back qb_moods qb_tides qb_carts r_length r_fault_1 r_faultAt_1 r_next_1 r_numberFrom_1 r_text b_law b_places b_broad b_horses b_blinds b_besides b_tideCount b_cartCount b_due b_pairs b_pull b_strength b_back b_moods b_tides b_carts) rfl (plF_10 cI cZ cII qr qr_text qb qb_pull qb_strength qb_back qb_moods qb_tides qb_carts r_length r_fault_1 r_faultAt_1 r_next_1 r_numberFrom_1 r_text b_law b_places b_broad b_horses b_blinds b_besides b_tideCount b_cartCount b_due b_pairs b_pull b_strength b_back b_moods b_tides b_carts r_length r_fault_2 r_faultAt_2 r_next_2 r_numberFrom_2 r_text) (by decide) rfl hl.1 rfl (Nat.le_of_ble_eq_true rfl) dX4_readHorse_13 ⟨Nat.zero_le _, Nat.zero_le _⟩ (fun H locs hP hD hS => ?_)
  refine lv_istore_n (lv' := [(3, .int r_2), (2, .int r_1), (0, .ref qr), (1, .ref qb)]) hx hb dX4_readHorse_16 rfl hl (by decide) rfl (fun ls hl => ?_)
  refine lv_aload_n hx hb dX4_readHorse_17 rfl (lv_at hl 2 rfl) ?_
  refine lv_iconst (v := (0 : Int32)) hx hb dX4_readHorse_18 (by decide) ?_
  refine lv_bipush (v := (60 : Int32)) hx hb dX4_readHorse_19 (by decide) ?_
  obtain ⟨r_3, r_fault_3, r_faultAt_3, r_next_3, r_numberFrom_3, hc, hf⟩ := bn5_s hf
  refine pg_cVi (As := [.int (0 : Int32), .int (60 : Int32)]) (rest := []) (wf := (W_X4r_X0b cI cZ cII qr qr_text qb qb_pull qb_strength qb_back qb_moods qb_tides qb_carts r_length r_fault_3 r_faultAt_3 r_next_3 r_numberFrom_3 r_text b_law b_places b_broad b_horses b_blinds b_besides b_tideCount b_cartCount b_due b_pairs b_pull b_strength b_back b_moods b_tides b_carts)) ⟨hx, hb, hml, hown, hw⟩ (c_X4_readNumber l dC dI cI cZ cII qr qr_text H.size r_length r_fault_2 r_faultAt_2 r_next_2 r_numberFrom_2 r_text (0 : Int32) (60 : Int32) r_3 r_fault_3 r_faultAt_3 r_next_3 r_numberFrom_3 hc) (cwV 2 hts (wM_V mw_13_11 mw_13_12 mw_13_13 mw_1_20 mw_13_14) rfl rfl rfl dk_X4_readNumber ⟨Nat.le_of_ble_eq_true rfl, Nat.le_of_ble_eq_true rfl⟩) hK hP hD hS hA 4 0 rfl rfl rfl [0, 1] [2, 3, 4, 5, 6, 7, 8] [7, 8, 0, 1, 2, 3, 4, 5, 6] (plC_10 cI cZ cII qr qr_text qb qb_pull qb_strength qb_back qb_moods qb_tides qb_carts r_length r_fault_2 r_faultAt_2 r_next_2 r_numberFrom_2 r_text b_law b_places b_broad b_horses b_blinds b_besides b_tideCount b_cartCount b_due b_pairs b_pull b_strength b_back b_moods b_tides b_carts) rfl (plF_10 cI cZ cII qr qr_text qb qb_pull qb_strength qb_back qb_moods qb_tides qb_carts r_length r_fault_2 r_faultAt_2 r_next_2 r_numberFrom_2 r_text b_law b_places b_broad b_horses b_blinds b_besides b_tideCount b_cartCount b_due b_pairs b_pull b_strength b_back b_moods b_tides b_carts r_length r_fault_3 r_faultAt_3 r_next_3 r_numberFrom_3 r_text) (by decide) rfl hl.1 rfl (Nat.le_of_ble_eq_true rfl) dX4_readHorse_21 ⟨Nat.zero_le _, Nat.zero_le _⟩ (fun H locs hP hD hS => ?_)
  refine lv_istore (lv' := [(4, .int r_3), (3, .int r_2), (2, .int r_1), (0, .ref qr), (1, .ref qb)]) hx hb dX4_readHorse_24 hl (by decide) rfl (fun ls hl => ?_)
  refine lv_aload_n hx hb dX4_readHorse_26 rfl (lv_at hl 3 rfl) ?_
  obtain ⟨r_fault_4, r_faultAt_4, r_next_4, hc, hf⟩ := bn3_s hf
  refine pg_cVv (As := []) (rest := []) (wf := (W_X4r_X0b cI cZ cII qr qr_text qb qb_pull qb_strength qb_back qb_moods qb_tides qb_carts r_length r_fault_4 r_faultAt_4 r_next_4 r_numberFrom_3 r_text b_law b_places b_broad b_horses b_blinds b_besides b_tideCount b_cartCount b_due b_pairs b_pull b_strength b_back b_moods b_tides b_carts)) ⟨hx, hb, hml, hown, hw⟩ (c_X4_readSemicolon l dC dI cI cZ cII qr qr_text H.size r_length r_fault_3 r_faultAt_3 r_next_3 r_numberFrom_3 r_text  r_fault_4 r_faultAt_4 r_next_4 hc) (cwV 0 hts (wM_V mw_13_20 mw_13_21 mw_13_22 mw_1_20 mw_13_23) rfl rfl rfl dk_X4_readSemicolon ⟨Nat.le_of_ble_eq_true rfl, Nat.le_of_ble_eq_true rfl⟩) hK hP hD hS hA 4 0 rfl rfl rfl [0, 1] [2, 3, 4, 5, 6, 7, 8] [7, 8, 0, 1, 2, 3, 4, 5, 6] (plC_10 cI cZ cII qr qr_text qb qb_pull qb_strength qb_back qb_moods qb_tides qb_carts r_length r_fault_3 r_faultAt_3 r_next_3 r_numberFrom_3 r_text b_law b_places b_broad b_horses b_blinds b_besides b_tideCount b_cartCount b_due b_pairs b_pull b_strength b_back b_moods b_tides b_carts) rfl (plF_10 cI cZ cII qr qr_text qb qb_pull qb_strength qb_back qb_moods qb_tides qb_carts r_length r_fault_3 r_faultAt_3 r_next_3 r_numberFrom_3 r_text b_law b_places b_broad b_horses b_blinds b_besides b_tideCount b_cartCount b_due b_pairs b_pull b_strength b_back b_moods b_tides b_carts r_length r_fault_4 r_faultAt_4 r_next_4 r_numberFrom_3 r_text) (by decide) rfl hl.1 rfl (Nat.le_of_ble_eq_true rfl) dX4_readHorse_27 ⟨Nat.zero_le _, Nat.zero_le _⟩ (fun H locs hP hD hS => ?_)
  refine lv_aload_n hx hb dX4_readHorse_30 rfl (lv_at hl 3 rfl) ?_
  refine va_get (D := (dC, dI)) (ci := 4) (v := .int r_fault_4) (C := RX4) (T := TX4) (N := 6) hx hb hw inlX4 hown hK hP 0 rfl rfl 2 (by decide) (hw _ mw_8_13) (fun _ h9 => h9) rfl dX4_readHorse_31 ?_
  refine lv_if_ne (tgt := 45) hx hb dX4_readHorse_34 (by decide) (fun h9 => ?_) (fun h9 => ?_)
  · have hf := pg_f h9 hf
    exact RET _ _ _ _ _ _ _ _ _ _ _ _ dX4_readHorse_45 hP hD hS hf
  · have hf := pg_t h9 hf
    refine lv_aload_n hx hb dX4_readHorse_37 rfl (lv_at hl 4 rfl) ?_
    refine lv_iload_n hx hb dX4_readHorse_38 rfl (lv_at hl 2 rfl) ?_
    refine lv_iload_n hx hb dX4_readHorse_39 rfl (lv_at hl 1 rfl) ?_
    refine lv_iload hx hb dX4_readHorse_40 (lv_at hl 0 rfl) ?_
    obtain ⟨b_horses_5, b_pull_5, b_strength_5, b_back_5, hc, hf⟩ := bn4_s hf
    refine pg_cVv (As := [.int r_1, .int r_2, .int r_3]) (rest := []) (wf := (W_X4r_X0b cI cZ cII qr qr_text qb qb_pull qb_strength qb_back qb_moods qb_tides qb_carts r_length r_fault_4 r_faultAt_4 r_next_4 r_numberFrom_3 r_text b_law b_places b_broad b_horses_5 b_blinds b_besides b_tideCount b_cartCount b_due b_pairs b_pull_5 b_strength_5 b_back_5 b_moods b_tides b_carts)) ⟨hx, hb, hml, hown, hw⟩ (c_X0_addHorse l dC dI cI cZ cII qb qb_pull qb_strength qb_back qb_moods qb_tides qb_carts H.size b_law b_places b_broad b_horses b_blinds b_besides b_tideCount b_cartCount b_due b_pairs b_pull b_strength b_back b_moods b_tides b_carts r_1 r_2 r_3 b_horses_5 b_pull_5 b_strength_5 b_back_5 hc) (cwV 3 hts (wM_V mw_14_8 mw_14_9 mw_14_10 mw_1_15 mw_14_11) rfl rfl rfl dk_X0_addHorse ⟨Nat.le_of_ble_eq_true rfl, Nat.le_of_ble_eq_true rfl⟩) hK hP hD hS hA 0 0 rfl rfl rfl [2, 3, 4, 5, 6, 7, 8] [0, 1] [0, 1, 2, 3, 4, 5, 6, 7, 8] (plC_11 cI cZ cII qr qr_text qb qb_pull qb_strength qb_back qb_moods qb_tides qb_carts r_length r_fault_4 r_faultAt_4 r_next_4 r_numberFrom_3 r_text b_law b_places b_broad b_horses b_blinds b_besides b_tideCount b_cartCount b_due b_pairs b_pull b_strength b_back b_moods b_tides b_carts) rfl (plF_11 cI cZ cII qr qr_text qb qb_pull qb_strength qb_back qb_moods qb_tides qb_carts r_length r_fault_4 r_faultAt_4 r_next_4 r_numberFrom_3 r_text b_law b_places b_broad b_horses b_blinds b_besides b_tideCount b_cartCount b_due b_pairs b_pull b_strength b_back b_moods b_tides b_carts b_law b_places b_broad b_horses_5 b_blinds b_besides b_tideCount b_cartCount b_due b_pairs b_pull_5 b_strength_5 b_back_5 b_moods b_tides b_carts) (by decide) rfl hl.1 rfl (Nat.le_of_ble_eq_true rfl) dX4_readHorse_42 ⟨Nat.zero_le _, Nat.zero_le _⟩ (fun H locs hP hD hS => ?_)
    exact RET _ _ _ _ _ _ _ _ _ _ _ _ dX4_readHorse_45 hP hD hS hf
def f_X4_readLaw (r_length : Int32) (r_fault : Int32) (r_faultAt : Int32) (r_next : Int32) (r_text : Nat → Int32) : Option (Int32 × Int32 × Int32 × Int32) :=
  bn1 (f_X4_skipBlanks r_length r_next r_text) (fun (r_next_1 : Int32) =>
    bn1 (f_X4_wordEnd r_next_1 r_length r_text) (fun (r_2 : Int32) =>
      bn1 (f_X4_isWord 7 r_next_1 r_2 r_text) (fun (r_3 : Int32) =>
        if r_3 = 0 then
          bn1 (f_X4_isWord 8 r_next_1 r_2 r_text) (fun (r_4 : Int32) =>
            if r_4 = 0 then
              bn2 (f_X4_fail (1 : Int32) r_next_1 r_fault r_faultAt) (fun (r_fault_5 : Int32) (r_faultAt_5 : Int32) =>
                some ((1 : Int32), r_fault_5, r_faultAt_5, r_2)
              )
            else
              some ((1 : Int32), r_fault, r_faultAt, r_2)
          )
        else
          some ((0 : Int32), r_fault, r_faultAt, r_2)
      )
    )
  )
abbrev rm_X4_readLaw : Room := { frames := 6, cells := 0, slots := 0, locals := 184 }
theorem dk_X4_readLaw : yX4_readLaw.cls = RX4 ∧ yX4_readLaw.cls ≠ "java/lang/invoke/MethodHandle" ∧ yX4_readLaw.cls ≠ "java/lang/invoke/VarHandle" ∧ (parseMethodDescriptor yX4_readLaw.desc).map (fun d => d.parameters.length) = some 0 := by decide +kernel
set_option maxHeartbeats 4000000 in
set_option maxRecDepth 100000 in
theorem c_X4_readLaw (l : Launch) (dC : Nat → ClassId) (dI : Nat → Nat → Nat) (cI cZ cII : ClassId) (adK adV : Nat → Nat) (qr qr_text : Nat) (sz : Nat) (r_length : Int32) (r_fault : Int32) (r_faultAt : Int32) (r_next : Int32) (r_numberFrom : Int32) (r_text : Nat → Int32) (rr : Int32) (r_fault' : Int32) (r_faultAt' : Int32) (r_next' : Int32) (hf : f_X4_readLaw r_length r_fault r_faultAt r_next r_text = some (rr, r_fault', r_faultAt', r_next')) : Met l yX4_readLaw (wM yX4_readLaw cX4_readLaw 2 (some .int)) rm_X4_readLaw (PreWS (dC, dI) (tyA cI cZ cII) adK adV (W_X4r cI cZ cII qr qr_text r_length r_fault r_faultAt r_next r_numberFrom r_text) sz [.ref qr]) (PostI (dC, dI) (tyA cI cZ cII) rr (W_X4r cI cZ cII qr qr_text r_length r_fault r_faultAt r_next r_numberFrom r_text) (W_X4r cI cZ cII qr qr_text r_length r_fault' r_faultAt' r_next' r_numberFrom r_text) sz) 0 0 (va_A (W_X4r cI cZ cII qr qr_text r_length r_fault r_faultAt r_next r_numberFrom r_text) sz) := by
  refine Met.ofW (cc := cX4_readLaw) (maxL := 2) (ret := (some .int)) (by decide) rfl ?_
  intro p e s m args below meth c s₁ B hml hv
  obtain ⟨rfl, hsz, hP, hK, hD0, hE⟩ := hv
  have hx := B.exec
  have hb := B.bytes
  have hr := B.returns
  have hts := atoms_spec (ws := wM yX4_readLaw cX4_readLaw 2 (some .int)) B.pre
  have hown : s.vm.findClass RX4 = some m.cls := findClass_of_methodNamed B.named
  have hlocks := B.notSynchronized
  subst hsz
  have hD := hD0.self (sz := s.heap.size)
  obtain ⟨A, hAe⟩ : ∃ A, A = va_A (W_X4r cI cZ cII qr qr_text r_length r_fault r_faultAt r_next r_numberFrom r_text) s.heap.size := ⟨_, rfl⟩
  rw [← hAe] at hD hE
  have hA : ∀ q : Nat, s.heap.size ≤ q → A q := fun q h => by rw [hAe]; exact Or.inr h
  have hS : va_S A s.heap s.heap [] := va_S.rf
  have hl := lv_entry ([.ref qr]) (n := 2) (Nat.le_of_ble_eq_true rfl)
  rw [lg_entry_eq]
  generalize (lg_sl ([.ref qr]) ++ List.replicate (2 - (lg_sl ([.ref qr])).length) Slot.unset).toArray = ls at hl ⊢
  have hl : lv_has ls 2 [(0, .ref qr)] := hl
  generalize ([.ref qr] : List Value).toArray = args at hts ⊢
  have hw : ∀ w ∈ wsL_law, w.before args s = true := fun w h => hts w (List.mem_cons_of_mem _ h)
  refine pg_start (fun Q hQ => ?_)
  have RET : ∀ (H : Heap) (locs : List Loc) (ls : Array Slot) (pc : Nat) (v : Int32) (x0 : Int32) (x1 : Int32) (x2 : Int32) , decode cX4_readLaw pc = .ok (.ireturn, 1) → va_P (dC, dI) vwCl (W_X4r cI cZ cII qr qr_text r_length x0 x1 x2 r_numberFrom r_text) H → va_D A (W_X4r cI cZ cII qr qr_text r_length x0 x1 x2 r_numberFrom r_text) → va_S A s.heap H locs → (some (v, x0, x1, x2) : Option (Int32 × Int32 × Int32 × Int32)) = some (rr, r_fault', r_faultAt', r_next') → W p l e rm_X4_readLaw s m args below meth c H locs 0 0 Q (F0 m pc ls [.int v]) := by
    intro H locs ls pc v x0 x1 x2 hd hP hD hS he
    subst hAe; subst hQ
    simp only [Option.some.injEq, Prod.mk.injEq] at he
    obtain ⟨rfl, rfl, rfl, rfl⟩ := he
    exact pg_iret hx hb hr hlocks hK hP hD hS hd
  unfold f_X4_readLaw at hf
  refine lv_aload_n hx hb dX4_readLaw_0 rfl (lv_at hl 0 rfl) ?_
  obtain ⟨r_next_1, hc, hf⟩ := bn1_s hf
  refine pg_cVv (As := []) (rest := []) (wf := (W_X4r cI cZ cII qr qr_text r_length r_fault r_faultAt r_next_1 r_numberFrom r_text)) ⟨hx, hb, hml, hown, hw⟩ (c_X4_skipBlanks l dC dI cI cZ cII qr qr_text s.heap.size r_length r_fault r_faultAt r_next r_numberFrom r_text  r_next_1 hc) (cwV 0 hts (wM_V mw_9_6 mw_9_7 mw_9_8 mw_1_20 mw_9_9) rfl rfl rfl dk_X4_skipBlanks ⟨Nat.le_of_ble_eq_true rfl, Nat.le_of_ble_eq_true rfl⟩) hK hP hD hS hA 4 0 rfl rfl rfl [0, 1] [] [0, 1] (plC_9 cI cZ cII qr qr_text r_length r_fault r_faultAt r_next r_numberFrom r_text) rfl (plF_9 cI cZ cII qr qr_text r_length r_fault r_faultAt r_next r_numberFrom r_text r_length r_fault r_faultAt r_next_1 r_numberFrom r_text) (by decide) rfl hl.1 rfl (Nat.le_of_ble_eq_true rfl) dX4_readLaw_1 ⟨Nat.zero_le _, Nat.zero_le _⟩ (fun H locs hP hD hS => ?_)
  refine lv_aload_n hx hb dX4_readLaw_4 rfl (lv_at hl 0 rfl) ?_
  refine va_get (D := (dC, dI)) (ci := 4) (v := .int r_next_1) (C := RX4) (T := TX4) (N := 6) hx hb hw inlX4 hown hK hP 0 rfl rfl 4 (by decide) (hw _ mw_8_14) (fun _ h9 => h9) rfl dX4_readLaw_5 ?_
  refine lv_istore_n (lv' := [(1, .int r_next_1), (0, .ref qr)]) hx hb dX4_readLaw_8 rfl hl (by decide) rfl (fun ls hl => ?_)
  refine lv_aload_n hx hb dX4_readLaw_9 rfl (lv_at hl 1 rfl) ?_
  refine lv_aload_n hx hb dX4_readLaw_10 rfl (lv_at hl 1 rfl) ?_
  refine lv_iload_n hx hb dX4_readLaw_11 rfl (lv_at hl 0 rfl) ?_
  obtain ⟨r_2, hc, hf⟩ := bn1_s hf
  refine pg_cVi (As := [.int r_next_1]) (rest := [.ref qr]) (wf := (W_X4r cI cZ cII qr qr_text r_length r_fault r_faultAt r_next_1 r_numberFrom r_text)) ⟨hx, hb, hml, hown, hw⟩ (c_X4_wordEnd l dC dI cI cZ cII qr qr_text H.size r_length r_fault r_faultAt r_next_1 r_numberFrom r_text r_next_1 r_2 hc) (cwV 1 hts (wM_V mw_9_15 mw_9_16 mw_9_17 mw_1_20 mw_9_18) rfl rfl rfl dk_X4_wordEnd ⟨Nat.le_of_ble_eq_true rfl, Nat.le_of_ble_eq_true rfl⟩) hK hP hD hS hA 4 0 rfl rfl rfl [0, 1] [] [0, 1] (plC_9 cI cZ cII qr qr_text r_length r_fault r_faultAt r_next_1 r_numberFrom r_text) rfl (plF_9 cI cZ cII qr qr_text r_length r_fault r_faultAt r_next_1 r_numberFrom r_text r_length r_fault r_faultAt r_next_1 r_numberFrom r_text) (by decide) rfl hl.1 rfl (Nat.le_of_ble_eq_true rfl) dX4_readLaw_12 ⟨Nat.zero_le _, Nat.zero_le _⟩ (fun H locs hP hD hS => ?_)
  refine va_put (D := (dC, dI)) (ci := 4) (v := .int r_2) (ty := .int) (C := RX4) (T := TX4) (N := 6) hx hb hw inlX4 tyX4 tyX4_ok nmX4 hown hK hP hD hS 0 rfl rfl 4 (by decide) (hw _ mw_8_14) (fun _ h9 => h9) rfl (by decide +kernel) rfl rfl (Nat.le_of_ble_eq_true rfl) dX4_readLaw_15 (fun H locs hP hD hS => ?_)
  have hP : va_P (dC, dI) vwCl (W_X4r cI cZ cII qr qr_text r_length r_fault r_faultAt r_2 r_numberFrom r_text) H := hP
  have hD : va_D A (W_X4r cI cZ cII qr qr_text r_length r_fault r_faultAt r_2 r_numberFrom r_text) := hD
  refine lv_aload_n hx hb dX4_readLaw_18 rfl (lv_at hl 1 rfl) ?_
  refine va_ldcS (tx := "sum") (q := adK 7) hx hb hown (hE.2.2.2 7 (by decide)) dX4_readLaw_19 ?_
  refine lv_iload_n hx hb dX4_readLaw_21 rfl (lv_at hl 0 rfl) ?_
  refine lv_aload_n hx hb dX4_readLaw_22 rfl (lv_at hl 1 rfl) ?_
  refine va_get (D := (dC, dI)) (ci := 4) (v := .int r_2) (C := RX4) (T := TX4) (N := 6) hx hb hw inlX4 hown hK hP 0 rfl rfl 4 (by decide) (hw _ mw_8_14) (fun _ h9 => h9) rfl dX4_readLaw_23 ?_
  obtain ⟨r_3, hc, hf⟩ := bn1_s hf
  refine pg_sVi (As := [.ref (adK 7), .int r_next_1, .int r_2]) (rest := []) (wf := (W_X4r cI cZ cII qr qr_text r_length r_fault r_faultAt r_2 r_numberFrom r_text)) hE ⟨hx, hb, hml, hown, hw⟩ (c_X4_isWord l dC dI cI cZ cII adK adV qr qr_text H.size r_length r_fault r_faultAt r_2 r_numberFrom r_text 7 r_next_1 r_2 r_3 (by decide) hc) (cwV 3 hts (wM_V mw_10_3 mw_10_4 mw_10_5 mw_1_20 mw_10_6) rfl rfl rfl dk_X4_isWord ⟨Nat.le_of_ble_eq_true rfl, Nat.le_of_ble_eq_true rfl⟩) hK hP hD hS hA 4 0 rfl rfl rfl [0, 1] [] [0, 1] (plC_9 cI cZ cII qr qr_text r_length r_fault r_faultAt r_2 r_numberFrom r_text) rfl (plF_9 cI cZ cII qr qr_text r_length r_fault r_faultAt r_2 r_numberFrom r_text r_length r_fault r_faultAt r_2 r_numberFrom r_text) (by decide) rfl hl.1 rfl (Nat.le_of_ble_eq_true rfl) dX4_readLaw_26 ⟨Nat.zero_le _, Nat.zero_le _⟩ (fun H locs hP hD hS => ?_)
  refine lv_if_eq (tgt := 34) hx hb dX4_readLaw_29 (by decide) (fun h9 => ?_) (fun h9 => ?_)
  · have hf := pg_t h9 hf
    refine lv_aload_n hx hb dX4_readLaw_34 rfl (lv_at hl 1 rfl) ?_
    refine va_ldcS (tx := "slowest") (q := adK 8) hx hb hown (hE.2.2.2 8 (by decide)) dX4_readLaw_35 ?_
    refine lv_iload_n hx hb dX4_readLaw_37 rfl (lv_at hl 0 rfl) ?_
    refine lv_aload_n hx hb dX4_readLaw_38 rfl (lv_at hl 1 rfl) ?_
    refine va_get (D := (dC, dI)) (ci := 4) (v := .int r_2) (C := RX4) (T := TX4) (N := 6) hx hb hw inlX4 hown hK hP 0 rfl rfl 4 (by decide) (hw _ mw_8_14) (fun _ h9 => h9) rfl dX4_readLaw_39 ?_
    obtain ⟨r_4, hc, hf⟩ := bn1_s hf
    refine pg_sVi (As := [.ref (adK 8), .int r_next_1, .int r_2]) (rest := []) (wf := (W_X4r cI cZ cII qr qr_text r_length r_fault r_faultAt r_2 r_numberFrom r_text)) hE ⟨hx, hb, hml, hown, hw⟩ (c_X4_isWord l dC dI cI cZ cII adK adV qr qr_text H.size r_length r_fault r_faultAt r_2 r_numberFrom r_text 8 r_next_1 r_2 r_4 (by decide) hc) (cwV 3 hts (wM_V mw_10_3 mw_10_4 mw_10_5 mw_1_20 mw_10_6) rfl rfl rfl dk_X4_isWord ⟨Nat.le_of_ble_eq_true rfl, Nat.le_of_ble_eq_true rfl⟩) hK hP hD hS hA 4 0 rfl rfl rfl [0, 1] [] [0, 1] (plC_9 cI cZ cII qr qr_text r_length r_fault r_faultAt r_2 r_numberFrom r_text) rfl (plF_9 cI cZ cII qr qr_text r_length r_fault r_faultAt r_2 r_numberFrom r_text r_length r_fault r_faultAt r_2 r_numberFrom r_text) (by decide) rfl hl.1 rfl (Nat.le_of_ble_eq_true rfl) dX4_readLaw_42 ⟨Nat.zero_le _, Nat.zero_le _⟩ (fun H locs hP hD hS => ?_)
    refine lv_if_ne (tgt := 54) hx hb dX4_readLaw_45 (by decide) (fun h9 => ?_) (fun h9 => ?_)
    · have hf := pg_f h9 hf
      refine lv_iconst (v := (1 : Int32)) hx hb dX4_readLaw_54 (by decide) ?_
      exact RET _ _ _ _ _ _ _ _ dX4_readLaw_55 hP hD hS hf
    · have hf := pg_t h9 hf
      refine lv_aload_n hx hb dX4_readLaw_48 rfl (lv_at hl 1 rfl) ?_
      refine lv_iconst (v := (1 : Int32)) hx hb dX4_readLaw_49 (by decide) ?_
      refine lv_iload_n hx hb dX4_readLaw_50 rfl (lv_at hl 0 rfl) ?_
      obtain ⟨r_fault_5, r_faultAt_5, hc, hf⟩ := bn2_s hf
      refine pg_cVv (As := [.int (1 : Int32), .int r_next_1]) (rest := []) (wf := (W_X4r cI cZ cII qr qr_text r_length r_fault_5 r_faultAt_5 r_2 r_numberFrom r_text)) ⟨hx, hb, hml, hown, hw⟩ (c_X4_fail l dC dI cI cZ cII qr qr_text H.size r_length r_fault r_faultAt r_2 r_numberFrom r_text (1 : Int32) r_next_1 r_fault_5 r_faultAt_5 hc) (cwV 2 hts (wM_V mw_12_8 mw_12_9 mw_12_10 mw_1_20 mw_12_11) rfl rfl rfl dk_X4_fail ⟨Nat.le_of_ble_eq_true rfl, Nat.le_of_ble_eq_true rfl⟩) hK hP hD hS hA 4 0 rfl rfl rfl [0, 1] [] [0, 1] (plC_9 cI cZ cII qr qr_text r_length r_fault r_faultAt r_2 r_numberFrom r_text) rfl (plF_9 cI cZ cII qr qr_text r_length r_fault r_faultAt r_2 r_numberFrom r_text r_length r_fault_5 r_faultAt_5 r_2 r_numberFrom r_text) (by decide) rfl hl.1 rfl (Nat.le_of_ble_eq_true rfl) dX4_readLaw_51 ⟨Nat.zero_le _, Nat.zero_le _⟩ (fun H locs hP hD hS => ?_)
      refine lv_iconst (v := (1 : Int32)) hx hb dX4_readLaw_54 (by decide) ?_
      exact RET _ _ _ _ _ _ _ _ dX4_readLaw_55 hP hD hS hf
  · have hf := pg_f h9 hf
    refine lv_iconst (v := (0 : Int32)) hx hb dX4_readLaw_32 (by decide) ?_
    exact RET _ _ _ _ _ _ _ _ dX4_readLaw_33 hP hD hS hf
def f_X4_readBelt (r_length : Int32) (r_fault : Int32) (r_faultAt : Int32) (r_next : Int32) (r_numberFrom : Int32) (r_text : Nat → Int32) (b_law : Int32) (b_places : Int32) (b_broad : Int32) : Option (Int32 × Int32 × Int32 × Int32 × Int32 × Int32 × Int32) :=
  bn4 (f_X4_readLaw r_length r_fault r_faultAt r_next r_text) (fun (r_1 : Int32) (r_fault_1 : Int32) (r_faultAt_1 : Int32) (r_next_1 : Int32) =>
    bn5 (f_X4_readNumber (1 : Int32) (3 : Int32) r_length r_fault_1 r_faultAt_1 r_next_1 r_numberFrom r_text) (fun (r_2 : Int32) (r_fault_2 : Int32) (r_faultAt_2 : Int32) (r_next_2 : Int32) (r_numberFrom_2 : Int32) =>
      bn5 (f_X4_readNumber (1 : Int32) (999 : Int32) r_length r_fault_2 r_faultAt_2 r_next_2 r_numberFrom_2 r_text) (fun (r_3 : Int32) (r_fault_3 : Int32) (r_faultAt_3 : Int32) (r_next_3 : Int32) (r_numberFrom_3 : Int32) =>
        bn3 (f_X4_readSemicolon r_length r_fault_3 r_faultAt_3 r_next_3 r_text) (fun (r_fault_4 : Int32) (r_faultAt_4 : Int32) (r_next_4 : Int32) =>
          if r_fault_4 = 0 then
            some (r_fault_4, r_faultAt_4, r_next_4, r_numberFrom_3, r_1, r_2, r_3)
          else
            some (r_fault_4, r_faultAt_4, r_next_4, r_numberFrom_3, b_law, b_places, b_broad)
        )
      )
    )
  )
abbrev rm_X4_readBelt : Room := { frames := 7, cells := 0, slots := 0, locals := 205 }
theorem dk_X4_readBelt : yX4_readBelt.cls = RX4 ∧ yX4_readBelt.cls ≠ "java/lang/invoke/MethodHandle" ∧ yX4_readBelt.cls ≠ "java/lang/invoke/VarHandle" ∧ (parseMethodDescriptor yX4_readBelt.desc).map (fun d => d.parameters.length) = some 1 := by decide +kernel
set_option maxHeartbeats 4000000 in
set_option maxRecDepth 100000 in
theorem c_X4_readBelt (l : Launch) (dC : Nat → ClassId) (dI : Nat → Nat → Nat) (cI cZ cII : ClassId) (adK adV : Nat → Nat) (qr qr_text qb qb_pull qb_strength qb_back qb_moods qb_tides qb_carts : Nat) (sz : Nat) (r_length : Int32) (r_fault : Int32) (r_faultAt : Int32) (r_next : Int32) (r_numberFrom : Int32) (r_text : Nat → Int32) (b_law : Int32) (b_places : Int32) (b_broad : Int32) (b_horses : Int32) (b_blinds : Int32) (b_besides : Int32) (b_tideCount : Int32) (b_cartCount : Int32) (b_due : Int32) (b_pairs : Int64) (b_pull : Nat → Int32) (b_strength : Nat → Int32) (b_back : Nat → Int32) (b_moods : Nat → Int32) (b_tides : Nat → Int32) (b_carts : Nat → Int32) (r_fault' : Int32) (r_faultAt' : Int32) (r_next' : Int32) (r_numberFrom' : Int32) (b_law' : Int32) (b_places' : Int32) (b_broad' : Int32) (hf : f_X4_readBelt r_length r_fault r_faultAt r_next r_numberFrom r_text b_law b_places b_broad = some (r_fault', r_faultAt', r_next', r_numberFrom', b_law', b_places', b_broad')) : Met l yX4_readBelt (wM yX4_readBelt cX4_readBelt 5 none) rm_X4_readBelt (PreWS (dC, dI) (tyA cI cZ cII) adK adV (W_X4r_X0b cI cZ cII qr qr_text qb qb_pull qb_strength qb_back qb_moods qb_tides qb_carts r_length r_fault r_faultAt r_next r_numberFrom r_text b_law b_places b_broad b_horses b_blinds b_besides b_tideCount b_cartCount b_due b_pairs b_pull b_strength b_back b_moods b_tides b_carts) sz [.ref qr, .ref qb]) (PostV (dC, dI) (tyA cI cZ cII) (W_X4r_X0b cI cZ cII qr qr_text qb qb_pull qb_strength qb_back qb_moods qb_tides qb_carts r_length r_fault r_faultAt r_next r_numberFrom r_text b_law b_places b_broad b_horses b_blinds b_besides b_tideCount b_cartCount b_due b_pairs b_pull b_strength b_back b_moods b_tides b_carts) (W_X4r_X0b cI cZ cII qr qr_text qb qb_pull qb_strength qb_back qb_moods qb_tides qb_carts r_length r_fault' r_faultAt' r_next' r_numberFrom' r_text b_law' b_places' b_broad' b_horses b_blinds b_besides b_tideCount b_cartCount b_due b_pairs b_pull b_strength b_back b_moods b_tides b_carts) sz) 0 0 (va_A (W_X4r_X0b cI cZ cII qr qr_text qb qb_pull qb_strength qb_back qb_moods qb_tides qb_carts r_length r_fault r_faultAt r_next r_numberFrom r_text b_law b_places b_broad b_horses b_blinds b_besides b_tideCount b_cartCount b_due b_pairs b_pull b_strength b_back b_moods b_tides b_carts) sz) := by
  refine Met.ofW (cc := cX4_readBelt) (maxL := 5) (ret := none) (by decide) rfl ?_
  intro p e s m args below meth c s₁ B hml hv
  obtain ⟨rfl, hsz, hP, hK, hD0, hE⟩ := hv
  have hx := B.exec
  have hb := B.bytes
  have hr := B.returns
  have hts := atoms_spec (ws := wM yX4_readBelt cX4_readBelt 5 none) B.pre
  have hown : s.vm.findClass RX4 = some m.cls := findClass_of_methodNamed B.named
  have hlocks := B.notSynchronized
  subst hsz
  have hD := hD0.self (sz := s.heap.size)
  obtain ⟨A, hAe⟩ : ∃ A, A = va_A (W_X4r_X0b cI cZ cII qr qr_text qb qb_pull qb_strength qb_back qb_moods qb_tides qb_carts r_length r_fault r_faultAt r_next r_numberFrom r_text b_law b_places b_broad b_horses b_blinds b_besides b_tideCount b_cartCount b_due b_pairs b_pull b_strength b_back b_moods b_tides b_carts) s.heap.size := ⟨_, rfl⟩
  rw [← hAe] at hD hE
  have hA : ∀ q : Nat, s.heap.size ≤ q → A q := fun q h => by rw [hAe]; exact Or.inr h
  have hS : va_S A s.heap s.heap [] := va_S.rf
  have hl := lv_entry ([.ref qr, .ref qb]) (n := 5) (Nat.le_of_ble_eq_true rfl)
  rw [lg_entry_eq]
  generalize (lg_sl ([.ref qr, .ref qb]) ++ List.replicate (5 - (lg_sl ([.ref qr, .ref qb])).length) Slot.unset).toArray = ls at hl ⊢
  have hl : lv_has ls 5 [(0, .ref qr), (1, .ref qb)] := hl
  generalize ([.ref qr, .ref qb] : List Value).toArray = args at hts ⊢
  have hw : ∀ w ∈ wsL_law, w.before args s = true := fun w h => hts w (List.mem_cons_of_mem _ h)
  refine pg_start (fun Q hQ => ?_)
  have RET : ∀ (H : Heap) (locs : List Loc) (ls : Array Slot) (pc : Nat) (x0 : Int32) (x1 : Int32) (x2 : Int32) (x3 : Int32) (x4 : Int32) (x5 : Int32) (x6 : Int32) , decode cX4_readBelt pc = .ok (.return_, 1) → va_P (dC, dI) vwCl (W_X4r_X0b cI cZ cII qr qr_text qb qb_pull qb_strength qb_back qb_moods qb_tides qb_carts r_length x0 x1 x2 x3 r_text x4 x5 x6 b_horses b_blinds b_besides b_tideCount b_cartCount b_due b_pairs b_pull b_strength b_back b_moods b_tides b_carts) H → va_D A (W_X4r_X0b cI cZ cII qr qr_text qb qb_pull qb_strength qb_back qb_moods qb_tides qb_carts r_length x0 x1 x2 x3 r_text x4 x5 x6 b_horses b_blinds b_besides b_tideCount b_cartCount b_due b_pairs b_pull b_strength b_back b_moods b_tides b_carts) → va_S A s.heap H locs → (some (x0, x1, x2, x3, x4, x5, x6) : Option (Int32 × Int32 × Int32 × Int32 × Int32 × Int32 × Int32)) = some (r_fault', r_faultAt', r_next', r_numberFrom', b_law', b_places', b_broad') → W p l e rm_X4_readBelt s m args below meth c H locs 0 0 Q (F0 m pc ls []) := by
    intro H locs ls pc x0 x1 x2 x3 x4 x5 x6 hd hP hD hS he
    subst hAe; subst hQ
    simp only [Option.some.injEq, Prod.mk.injEq] at he
    obtain ⟨rfl, rfl, rfl, rfl, rfl, rfl, rfl⟩ := he
    exact pg_vret hx hb hr hlocks hK hP hD hS hd
  unfold f_X4_readBelt at hf
  refine lv_aload_n hx hb dX4_readBelt_0 rfl (lv_at hl 0 rfl) ?_
  obtain ⟨r_1, r_fault_1, r_faultAt_1, r_next_1, hc, hf⟩ := bn4_s hf
  refine pg_sVi (As := []) (rest := []) (wf := (W_X4r_X0b cI cZ cII qr qr_text qb qb_pull qb_strength qb_back qb_moods qb_tides qb_carts r_length r_fault_1 r_faultAt_1 r_next_1 r_numberFrom r_text b_law b_places b_broad b_horses b_blinds b_besides b_tideCount b_cartCount b_due b_pairs b_pull b_strength b_back b_moods b_tides b_carts)) hE ⟨hx, hb, hml, hown, hw⟩ (c_X4_readLaw l dC dI cI cZ cII adK adV qr qr_text s.heap.size r_length r_fault r_faultAt r_next r_numberFrom r_text  r_1 r_fault_1 r_faultAt_1 r_next_1 hc) (cwV 0 hts (wM_V mw_13_7 mw_13_8 mw_13_9 mw_1_20 mw_13_10) rfl rfl rfl dk_X4_readLaw ⟨Nat.le_of_ble_eq_true rfl, Nat.le_of_ble_eq_true rfl⟩) hK hP hD hS hA 4 0 rfl rfl rfl [0, 1] [2, 3, 4, 5, 6, 7, 8] [7, 8, 0, 1, 2, 3, 4, 5, 6] (plC_10 cI cZ cII qr qr_text qb qb_pull qb_strength qb_back qb_moods qb_tides qb_carts r_length r_fault r_faultAt r_next r_numberFrom r_text b_law b_places b_broad b_horses b_blinds b_besides b_tideCount b_cartCount b_due b_pairs b_pull b_strength b_back b_moods b_tides b_carts) rfl (plF_10 cI cZ cII qr qr_text qb qb_pull qb_strength qb_back qb_moods qb_tides qb_carts r_length r_fault r_faultAt r_next r_numberFrom r_text b_law b_places b_broad b_horses b_blinds b_besides b_tideCount b_cartCount b_due b_pairs b_pull b_strength b_back b_moods b_tides b_carts r_length r_fault_1 r_faultAt_1 r_next_1 r_numberFrom r_text) (by decide) rfl hl.1 rfl (Nat.le_of_ble_eq_true rfl) dX4_readBelt_1 ⟨Nat.zero_le _, Nat.zero_le _⟩ (fun H locs hP hD hS => ?_)
  refine lv_istore_n (lv' := [(2, .int r_1), (0, .ref qr), (1, .ref qb)]) hx hb dX4_readBelt_4 rfl hl (by decide) rfl (fun ls hl => ?_)
  refine lv_aload_n hx hb dX4_readBelt_5 rfl (lv_at hl 1 rfl) ?_
  refine lv_iconst (v := (1 : Int32)) hx hb dX4_readBelt_6 (by decide) ?_
  refine lv_iconst (v := (3 : Int32)) hx hb dX4_readBelt_7 (by decide) ?_
  obtain ⟨r_2, r_fault_2, r_faultAt_2, r_next_2, r_numberFrom_2, hc, hf⟩ := bn5_s hf
  refine pg_cVi (As := [.int (1 : Int32), .int (3 : Int32)]) (rest := []) (wf := (W_X4r_X0b cI cZ cII qr qr_text qb qb_pull qb_strength qb_back qb_moods qb_tides qb_carts r_length r_fault_2 r_faultAt_2 r_next_2 r_numberFrom_2 r_text b_law b_places b_broad b_horses b_blinds b_besides b_tideCount b_cartCount b_due b_pairs b_pull b_strength b_back b_moods b_tides b_carts)) ⟨hx, hb, hml, hown, hw⟩ (c_X4_readNumber l dC dI cI cZ cII qr qr_text H.size r_length r_fault_1 r_faultAt_1 r_next_1 r_numberFrom r_text (1 : Int32) (3 : Int32) r_2 r_fault_2 r_faultAt_2 r_next_2 r_numberFrom_2 hc) (cwV 2 hts (wM_V mw_13_11 mw_13_12 mw_13_13 mw_1_20 mw_13_14) rfl rfl rfl dk_X4_readNumber ⟨Nat.le_of_ble_eq_true rfl, Nat.le_of_ble_eq_true rfl⟩) hK hP hD hS hA 4 0 rfl rfl rfl [0, 1] [2, 3, 4, 5, 6, 7, 8] [7, 8, 0, 1, 2, 3, 4, 5, 6] (plC_10 cI cZ cII qr qr_text qb qb_pull qb_strength qb_back qb_moods qb_tides qb_carts r_length r_fault_1 r_faultAt_1 r_next_1 r_numberFrom r_text b_law b_places b_broad b_horses b_blinds b_besides b_tideCount b_cartCount b_due b_pairs b_pull b_strength b_back b_moods b_tides b_carts) rfl (plF_10 cI cZ cII qr qr_text qb qb_pull qb_strength qb_back qb_moods qb_tides qb_carts r_length r_fault_1 r_faultAt_1 r_next_1 r_numberFrom r_text b_law b_places b_broad b_horses b_blinds b_besides b_tideCount b_cartCount b_due b_pairs b_pull b_strength b_back b_moods b_tides b_carts r_length r_fault_2 r_faultAt_2 r_next_2 r_numberFrom_2 r_text) (by decide) rfl hl.1 rfl (Nat.le_of_ble_eq_true rfl) dX4_readBelt_8 ⟨Nat.zero_le _, Nat.zero_le _⟩ (fun H locs hP hD hS => ?_)
  refine lv_istore_n (lv' := [(3, .int r_2), (2, .int r_1), (0, .ref qr), (1, .ref qb)]) hx hb dX4_readBelt_11 rfl hl (by decide) rfl (fun ls hl => ?_)
  refine lv_aload_n hx hb dX4_readBelt_12 rfl (lv_at hl 2 rfl) ?_
  refine lv_iconst (v := (1 : Int32)) hx hb dX4_readBelt_13 (by decide) ?_
  refine lv_sipush (v := (999 : Int32)) hx hb dX4_readBelt_14 (by decide) ?_
  obtain ⟨r_3, r_fault_3, r_faultAt_3, r_next_3, r_numberFrom_3, hc, hf⟩ := bn5_s hf
  refine pg_cVi (As := [.int (1 : Int32), .int (999 : Int32)]) (rest := []) (wf := (W_X4r_X0b cI cZ cII qr qr_text qb qb_pull qb_strength qb_back qb_moods qb_tides qb_carts r_length r_fault_3 r_faultAt_3 r_next_3 r_numberFrom_3 r_text b_law b_places b_broad b_horses b_blinds b_besides b_tideCount b_cartCount b_due b_pairs b_pull b_strength b_back b_moods b_tides b_carts)) ⟨hx, hb, hml, hown, hw⟩ (c_X4_readNumber l dC dI cI cZ cII qr qr_text H.size r_length r_fault_2 r_faultAt_2 r_next_2 r_numberFrom_2 r_text (1 : Int32) (999 : Int32) r_3 r_fault_3 r_faultAt_3 r_next_3 r_numberFrom_3 hc) (cwV 2 hts (wM_V mw_13_11 mw_13_12 mw_13_13 mw_1_20 mw_13_14) rfl rfl rfl dk_X4_readNumber ⟨Nat.le_of_ble_eq_true rfl, Nat.le_of_ble_eq_true rfl⟩) hK hP hD hS hA 4 0 rfl rfl rfl [0, 1] [2, 3, 4, 5, 6, 7, 8] [7, 8, 0, 1, 2, 3, 4, 5, 6] (plC_10 cI cZ cII qr qr_text qb qb_pull qb_strength qb_back qb_moods qb_tides qb_carts r_length r_fault_2 r_faultAt_2 r_next_2 r_numberFrom_2 r_text b_law b_places b_broad b_horses b_blinds b_besides b_tideCount b_cartCount b_due b_pairs b_pull b_strength b_back b_moods b_tides b_carts) rfl (plF_10 cI cZ cII qr qr_text qb qb_pull qb_strength qb_back qb_moods qb_tides qb_carts r_length r_fault_2 r_faultAt_2 r_next_2 r_numberFrom_2 r_text b_law b_places b_broad b_horses b_blinds b_besides b_tideCount b_cartCount b_due b_pairs b_pull b_strength b_back b_moods b_tides b_carts r_length r_fault_3 r_faultAt_3 r_next_3 r_numberFrom_3 r_text) (by decide) rfl hl.1 rfl (Nat.le_of_ble_eq_true rfl) dX4_readBelt_17 ⟨Nat.zero_le _, Nat.zero_le _⟩ (fun H locs hP hD hS => ?_)
  refine lv_istore (lv' := [(4, .int r_3), (3, .int r_2), (2, .int r_1), (0, .ref qr), (1, .ref qb)]) hx hb dX4_readBelt_20 hl (by decide) rfl (fun ls hl => ?_)
  refine lv_aload_n hx hb dX4_readBelt_22 rfl (lv_at hl 3 rfl) ?_
  obtain ⟨r_fault_4, r_faultAt_4, r_next_4, hc, hf⟩ := bn3_s hf
  refine pg_cVv (As := []) (rest := []) (wf := (W_X4r_X0b cI cZ cII qr qr_text qb qb_pull qb_strength qb_back qb_moods qb_tides qb_carts r_length r_fault_4 r_faultAt_4 r_next_4 r_numberFrom_3 r_text b_law b_places b_broad b_horses b_blinds b_besides b_tideCount b_cartCount b_due b_pairs b_pull b_strength b_back b_moods b_tides b_carts)) ⟨hx, hb, hml, hown, hw⟩ (c_X4_readSemicolon l dC dI cI cZ cII qr qr_text H.size r_length r_fault_3 r_faultAt_3 r_next_3 r_numberFrom_3 r_text  r_fault_4 r_faultAt_4 r_next_4 hc) (cwV 0 hts (wM_V mw_13_20 mw_13_21 mw_13_22 mw_1_20 mw_13_23) rfl rfl rfl dk_X4_readSemicolon ⟨Nat.le_of_ble_eq_true rfl, Nat.le_of_ble_eq_true rfl⟩) hK hP hD hS hA 4 0 rfl rfl rfl [0, 1] [2, 3, 4, 5, 6, 7, 8] [7, 8, 0, 1, 2, 3, 4, 5, 6] (plC_10 cI cZ cII qr qr_text qb qb_pull qb_strength qb_back qb_moods qb_tides qb_carts r_length r_fault_3 r_faultAt_3 r_next_3 r_numberFrom_3 r_text b_law b_places b_broad b_horses b_blinds b_besides b_tideCount b_cartCount b_due b_pairs b_pull b_strength b_back b_moods b_tides b_carts) rfl (plF_10 cI cZ cII qr qr_text qb qb_pull qb_strength qb_back qb_moods qb_tides qb_carts r_length r_fault_3 r_faultAt_3 r_next_3 r_numberFrom_3 r_text b_law b_places b_broad b_horses b_blinds b_besides b_tideCount b_cartCount b_due b_pairs b_pull b_strength b_back b_moods b_tides b_carts r_length r_fault_4 r_faultAt_4 r_next_4 r_numberFrom_3 r_text) (by decide) rfl hl.1 rfl (Nat.le_of_ble_eq_true rfl) dX4_readBelt_23 ⟨Nat.zero_le _, Nat.zero_le _⟩ (fun H locs hP hD hS => ?_)
  refine lv_aload_n hx hb dX4_readBelt_26 rfl (lv_at hl 3 rfl) ?_
  refine va_get (D := (dC, dI)) (ci := 4) (v := .int r_fault_4) (C := RX4) (T := TX4) (N := 6) hx hb hw inlX4 hown hK hP 0 rfl rfl 2 (by decide) (hw _ mw_8_13) (fun _ h9 => h9) rfl dX4_readBelt_27 ?_
  refine lv_if_ne (tgt := 49) hx hb dX4_readBelt_30 (by decide) (fun h9 => ?_) (fun h9 => ?_)
  · have hf := pg_f h9 hf
    exact RET _ _ _ _ _ _ _ _ _ _ _ dX4_readBelt_49 hP hD hS hf
  · have hf := pg_t h9 hf
    refine lv_aload_n hx hb dX4_readBelt_33 rfl (lv_at hl 4 rfl) ?_
    refine lv_iload_n hx hb dX4_readBelt_34 rfl (lv_at hl 2 rfl) ?_
    refine va_put (D := (dC, dI)) (ci := 0) (v := .int r_1) (ty := .int) (C := RX0) (T := TX0) (N := 16) hx hb hw inlX0 tyX0 tyX0_ok nmX0 hown hK hP hD hS 2 rfl rfl 0 (by decide) (hw _ mw_13_5) (fun _ h9 => h9) rfl (by decide +kernel) rfl rfl (Nat.le_of_ble_eq_true rfl) dX4_readBelt_35 (fun H locs hP hD hS => ?_)
    have hP : va_P (dC, dI) vwCl (W_X4r_X0b cI cZ cII qr qr_text qb qb_pull qb_strength qb_back qb_moods qb_tides qb_carts r_length r_fault_4 r_faultAt_4 r_next_4 r_numberFrom_3 r_text r_1 b_places b_broad b_horses b_blinds b_besides b_tideCount b_cartCount b_due b_pairs b_pull b_strength b_back b_moods b_tides b_carts) H := hP
    have hD : va_D A (W_X4r_X0b cI cZ cII qr qr_text qb qb_pull qb_strength qb_back qb_moods qb_tides qb_carts r_length r_fault_4 r_faultAt_4 r_next_4 r_numberFrom_3 r_text r_1 b_places b_broad b_horses b_blinds b_besides b_tideCount b_cartCount b_due b_pairs b_pull b_strength b_back b_moods b_tides b_carts) := hD
    refine lv_aload_n hx hb dX4_readBelt_38 rfl (lv_at hl 4 rfl) ?_
    refine lv_iload_n hx hb dX4_readBelt_39 rfl (lv_at hl 1 rfl) ?_
    refine va_put (D := (dC, dI)) (ci := 0) (v := .int r_2) (ty := .int) (C := RX0) (T := TX0) (N := 16) hx hb hw inlX0 tyX0 tyX0_ok nmX0 hown hK hP hD hS 2 rfl rfl 1 (by decide) (hw _ mw_9_14) (fun _ h9 => h9) rfl (by decide +kernel) rfl rfl (Nat.le_of_ble_eq_true rfl) dX4_readBelt_40 (fun H locs hP hD hS => ?_)
    have hP : va_P (dC, dI) vwCl (W_X4r_X0b cI cZ cII qr qr_text qb qb_pull qb_strength qb_back qb_moods qb_tides qb_carts r_length r_fault_4 r_faultAt_4 r_next_4 r_numberFrom_3 r_text r_1 r_2 b_broad b_horses b_blinds b_besides b_tideCount b_cartCount b_due b_pairs b_pull b_strength b_back b_moods b_tides b_carts) H := hP
    have hD : va_D A (W_X4r_X0b cI cZ cII qr qr_text qb qb_pull qb_strength qb_back qb_moods qb_tides qb_carts r_length r_fault_4 r_faultAt_4 r_next_4 r_numberFrom_3 r_text r_1 r_2 b_broad b_horses b_blinds b_besides b_tideCount b_cartCount b_due b_pairs b_pull b_strength b_back b_moods b_tides b_carts) := hD
    refine lv_aload_n hx hb dX4_readBelt_43 rfl (lv_at hl 4 rfl) ?_
    refine lv_iload hx hb dX4_readBelt_44 (lv_at hl 0 rfl) ?_
    refine va_put (D := (dC, dI)) (ci := 0) (v := .int r_3) (ty := .int) (C := RX0) (T := TX0) (N := 16) hx hb hw inlX0 tyX0 tyX0_ok nmX0 hown hK hP hD hS 2 rfl rfl 2 (by decide) (hw _ mw_13_6) (fun _ h9 => h9) rfl (by decide +kernel) rfl rfl (Nat.le_of_ble_eq_true rfl) dX4_readBelt_46 (fun H locs hP hD hS => ?_)
    have hP : va_P (dC, dI) vwCl (W_X4r_X0b cI cZ cII qr qr_text qb qb_pull qb_strength qb_back qb_moods qb_tides qb_carts r_length r_fault_4 r_faultAt_4 r_next_4 r_numberFrom_3 r_text r_1 r_2 r_3 b_horses b_blinds b_besides b_tideCount b_cartCount b_due b_pairs b_pull b_strength b_back b_moods b_tides b_carts) H := hP
    have hD : va_D A (W_X4r_X0b cI cZ cII qr qr_text qb qb_pull qb_strength qb_back qb_moods qb_tides qb_carts r_length r_fault_4 r_faultAt_4 r_next_4 r_numberFrom_3 r_text r_1 r_2 r_3 b_horses b_blinds b_besides b_tideCount b_cartCount b_due b_pairs b_pull b_strength b_back b_moods b_tides b_carts) := hD
    exact RET _ _ _ _ _ _ _ _ _ _ _ dX4_readBelt_49 hP hD hS hf
def f_X4_readParts (n1 : Int32) (r_length : Int32) (r_fault : Int32) (r_faultAt : Int32) (r_next : Int32) (r_numberFrom : Int32) (r_text : Nat → Int32) (b_law : Int32) (b_places : Int32) (b_broad : Int32) (b_horses : Int32) (b_blinds : Int32) (b_besides : Int32) (b_tideCount : Int32) (b_cartCount : Int32) (b_due : Int32) (b_pairs : Int64) (b_pull : Nat → Int32) (b_strength : Nat → Int32) (b_back : Nat → Int32) (b_moods : Nat → Int32) (b_tides : Nat → Int32) (b_carts : Nat → Int32) : Option (Int32 × Int32 × Int32 × Int32 × Int32 × Int32 × Int32 × Int32 × Int32 × Int32 × Int32 × Int32 × Int32 × Int64 × (Nat → Int32) × (Nat → Int32) × (Nat → Int32) × (Nat → Int32) × (Nat → Int32) × (Nat → Int32)) :=
  if n1 = (0 : Int32) then
    bn7 (f_X4_readBelt r_length r_fault r_faultAt r_next r_numberFrom r_text b_law b_places b_broad) (fun (r_fault_1 : Int32) (r_faultAt_1 : Int32) (r_next_1 : Int32) (r_numberFrom_1 : Int32) (b_law_1 : Int32) (b_places_1 : Int32) (b_broad_1 : Int32) =>
      some (r_fault_1, r_faultAt_1, r_next_1, r_numberFrom_1, b_law_1, b_places_1, b_broad_1, b_horses, b_blinds, b_besides, b_tideCount, b_cartCount, b_due, b_pairs, b_pull, b_strength, b_back, b_moods, b_tides, b_carts)
    )
  else
  if n1 = (1 : Int32) then
    bn8 (f_X4_readHorse r_length r_fault r_faultAt r_next r_numberFrom r_text b_horses b_pull b_strength b_back) (fun (r_fault_2 : Int32) (r_faultAt_2 : Int32) (r_next_2 : Int32) (r_numberFrom_2 : Int32) (b_horses_2 : Int32) (b_pull_2 : Nat → Int32) (b_strength_2 : Nat → Int32) (b_back_2 : Nat → Int32) =>
      some (r_fault_2, r_faultAt_2, r_next_2, r_numberFrom_2, b_law, b_places, b_broad, b_horses_2, b_blinds, b_besides, b_tideCount, b_cartCount, b_due, b_pairs, b_pull_2, b_strength_2, b_back_2, b_moods, b_tides, b_carts)
    )
  else
  if n1 = (2 : Int32) then
    bn5 (f_X4_readBlind r_length r_fault r_faultAt r_next r_numberFrom r_text b_horses b_blinds) (fun (r_fault_3 : Int32) (r_faultAt_3 : Int32) (r_next_3 : Int32) (r_numberFrom_3 : Int32) (b_blinds_3 : Int32) =>
      some (r_fault_3, r_faultAt_3, r_next_3, r_numberFrom_3, b_law, b_places, b_broad, b_horses, b_blinds_3, b_besides, b_tideCount, b_cartCount, b_due, b_pairs, b_pull, b_strength, b_back, b_moods, b_tides, b_carts)
    )
  else
  if n1 = (3 : Int32) then
    bn7 (f_X4_readBeside r_length r_fault r_faultAt r_next r_numberFrom r_text b_horses b_besides b_pairs b_moods) (fun (r_fault_4 : Int32) (r_faultAt_4 : Int32) (r_next_4 : Int32) (r_numberFrom_4 : Int32) (b_besides_4 : Int32) (b_pairs_4 : Int64) (b_moods_4 : Nat → Int32) =>
      some (r_fault_4, r_faultAt_4, r_next_4, r_numberFrom_4, b_law, b_places, b_broad, b_horses, b_blinds, b_besides_4, b_tideCount, b_cartCount, b_due, b_pairs_4, b_pull, b_strength, b_back, b_moods_4, b_tides, b_carts)
    )
  else
  if n1 = (4 : Int32) then
    bn6 (f_X4_readTide r_length r_fault r_faultAt r_next r_numberFrom r_text b_tideCount b_tides) (fun (r_fault_5 : Int32) (r_faultAt_5 : Int32) (r_next_5 : Int32) (r_numberFrom_5 : Int32) (b_tideCount_5 : Int32) (b_tides_5 : Nat → Int32) =>
      some (r_fault_5, r_faultAt_5, r_next_5, r_numberFrom_5, b_law, b_places, b_broad, b_horses, b_blinds, b_besides, b_tideCount_5, b_cartCount, b_due, b_pairs, b_pull, b_strength, b_back, b_moods, b_tides_5, b_carts)
    )
  else
  if n1 = (5 : Int32) then
    bn6 (f_X4_readCart r_length r_fault r_faultAt r_next r_numberFrom r_text b_cartCount b_carts) (fun (r_fault_6 : Int32) (r_faultAt_6 : Int32) (r_next_6 : Int32) (r_numberFrom_6 : Int32) (b_cartCount_6 : Int32) (b_carts_6 : Nat → Int32) =>
      some (r_fault_6, r_faultAt_6, r_next_6, r_numberFrom_6, b_law, b_places, b_broad, b_horses, b_blinds, b_besides, b_tideCount, b_cartCount_6, b_due, b_pairs, b_pull, b_strength, b_back, b_moods, b_tides, b_carts_6)
    )
  else
  bn5 (f_X4_readDue r_length r_fault r_faultAt r_next r_numberFrom r_text b_due) (fun (r_fault_7 : Int32) (r_faultAt_7 : Int32) (r_next_7 : Int32) (r_numberFrom_7 : Int32) (b_due_7 : Int32) =>
    some (r_fault_7, r_faultAt_7, r_next_7, r_numberFrom_7, b_law, b_places, b_broad, b_horses, b_blinds, b_besides, b_tideCount, b_cartCount, b_due_7, b_pairs, b_pull, b_strength, b_back, b_moods, b_tides, b_carts)
  )
set_option maxRecDepth 100000 in
theorem plC_12 (cI cZ cII : ClassId) (qr qr_text qb qb_pull qb_strength qb_back qb_moods qb_tides qb_carts : Nat) (r_length : Int32) (r_fault : Int32) (r_faultAt : Int32) (r_next : Int32) (r_numberFrom : Int32) (r_text : Nat → Int32) (b_law : Int32) (b_places : Int32) (b_broad : Int32) (b_horses : Int32) (b_blinds : Int32) (b_besides : Int32) (b_tideCount : Int32) (b_cartCount : Int32) (b_due : Int32) (b_pairs : Int64) (b_pull : Nat → Int32) (b_strength : Nat → Int32) (b_back : Nat → Int32) (b_moods : Nat → Int32) (b_tides : Nat → Int32) (b_carts : Nat → Int32) : ([0, 1, 2, 3, 4, 5, 6, 7, 8] : List Nat).map (fun i => (W_X4r_X0b cI cZ cII qr qr_text qb qb_pull qb_strength qb_back qb_moods qb_tides qb_carts r_length r_fault r_faultAt r_next r_numberFrom r_text b_law b_places b_broad b_horses b_blinds b_besides b_tideCount b_cartCount b_due b_pairs b_pull b_strength b_back b_moods b_tides b_carts)[i]?) = (W_X4r_X0b cI cZ cII qr qr_text qb qb_pull qb_strength qb_back qb_moods qb_tides qb_carts r_length r_fault r_faultAt r_next r_numberFrom r_text b_law b_places b_broad b_horses b_blinds b_besides b_tideCount b_cartCount b_due b_pairs b_pull b_strength b_back b_moods b_tides b_carts).map some := rfl
set_option maxRecDepth 100000 in
theorem plF_12 (cI cZ cII : ClassId) (qr qr_text qb qb_pull qb_strength qb_back qb_moods qb_tides qb_carts : Nat) (r_length : Int32) (r_fault : Int32) (r_faultAt : Int32) (r_next : Int32) (r_numberFrom : Int32) (r_text : Nat → Int32) (b_law : Int32) (b_places : Int32) (b_broad : Int32) (b_horses : Int32) (b_blinds : Int32) (b_besides : Int32) (b_tideCount : Int32) (b_cartCount : Int32) (b_due : Int32) (b_pairs : Int64) (b_pull : Nat → Int32) (b_strength : Nat → Int32) (b_back : Nat → Int32) (b_moods : Nat → Int32) (b_tides : Nat → Int32) (b_carts : Nat → Int32) (b9r_length : Int32) (b9r_fault : Int32) (b9r_faultAt : Int32) (b9r_next : Int32) (b9r_numberFrom : Int32) (b9r_text : Nat → Int32) (b9b_law : Int32) (b9b_places : Int32) (b9b_broad : Int32) (b9b_horses : Int32) (b9b_blinds : Int32) (b9b_besides : Int32) (b9b_tideCount : Int32) (b9b_cartCount : Int32) (b9b_due : Int32) (b9b_pairs : Int64) (b9b_pull : Nat → Int32) (b9b_strength : Nat → Int32) (b9b_back : Nat → Int32) (b9b_moods : Nat → Int32) (b9b_tides : Nat → Int32) (b9b_carts : Nat → Int32) : ([0, 1, 2, 3, 4, 5, 6, 7, 8] : List Nat).map (fun i => (pickW (W_X4r_X0b cI cZ cII qr qr_text qb qb_pull qb_strength qb_back qb_moods qb_tides qb_carts r_length r_fault r_faultAt r_next r_numberFrom r_text b_law b_places b_broad b_horses b_blinds b_besides b_tideCount b_cartCount b_due b_pairs b_pull b_strength b_back b_moods b_tides b_carts) ([] : List Nat) ++ (W_X4r_X0b cI cZ cII qr qr_text qb qb_pull qb_strength qb_back qb_moods qb_tides qb_carts b9r_length b9r_fault b9r_faultAt b9r_next b9r_numberFrom b9r_text b9b_law b9b_places b9b_broad b9b_horses b9b_blinds b9b_besides b9b_tideCount b9b_cartCount b9b_due b9b_pairs b9b_pull b9b_strength b9b_back b9b_moods b9b_tides b9b_carts))[i]?) = (W_X4r_X0b cI cZ cII qr qr_text qb qb_pull qb_strength qb_back qb_moods qb_tides qb_carts b9r_length b9r_fault b9r_faultAt b9r_next b9r_numberFrom b9r_text b9b_law b9b_places b9b_broad b9b_horses b9b_blinds b9b_besides b9b_tideCount b9b_cartCount b9b_due b9b_pairs b9b_pull b9b_strength b9b_back b9b_moods b9b_tides b9b_carts).map some := rfl
abbrev rm_X4_readParts : Room := { frames := 8, cells := 0, slots := 0, locals := 229 }
theorem dk_X4_readParts : yX4_readParts.cls = RX4 ∧ yX4_readParts.cls ≠ "java/lang/invoke/MethodHandle" ∧ yX4_readParts.cls ≠ "java/lang/invoke/VarHandle" ∧ (parseMethodDescriptor yX4_readParts.desc).map (fun d => d.parameters.length) = some 2 := by decide +kernel
set_option maxHeartbeats 4000000 in
set_option maxRecDepth 100000 in
theorem c_X4_readParts (l : Launch) (dC : Nat → ClassId) (dI : Nat → Nat → Nat) (cI cZ cII : ClassId) (adK adV : Nat → Nat) (qr qr_text qb qb_pull qb_strength qb_back qb_moods qb_tides qb_carts : Nat) (sz : Nat) (r_length : Int32) (r_fault : Int32) (r_faultAt : Int32) (r_next : Int32) (r_numberFrom : Int32) (r_text : Nat → Int32) (b_law : Int32) (b_places : Int32) (b_broad : Int32) (b_horses : Int32) (b_blinds : Int32) (b_besides : Int32) (b_tideCount : Int32) (b_cartCount : Int32) (b_due : Int32) (b_pairs : Int64) (b_pull : Nat → Int32) (b_strength : Nat → Int32) (b_back : Nat → Int32) (b_moods : Nat → Int32) (b_tides : Nat → Int32) (b_carts : Nat → Int32) (n1 : Int32) (r_fault' : Int32) (r_faultAt' : Int32) (r_next' : Int32) (r_numberFrom' : Int32) (b_law' : Int32) (b_places' : Int32) (b_broad' : Int32) (b_horses' : Int32) (b_blinds' : Int32) (b_besides' : Int32) (b_tideCount' : Int32) (b_cartCount' : Int32) (b_due' : Int32) (b_pairs' : Int64) (b_pull' : Nat → Int32) (b_strength' : Nat → Int32) (b_back' : Nat → Int32) (b_moods' : Nat → Int32) (b_tides' : Nat → Int32) (b_carts' : Nat → Int32) (hf : f_X4_readParts n1 r_length r_fault r_faultAt r_next r_numberFrom r_text b_law b_places b_broad b_horses b_blinds b_besides b_tideCount b_cartCount b_due b_pairs b_pull b_strength b_back b_moods b_tides b_carts = some (r_fault', r_faultAt', r_next', r_numberFrom', b_law', b_places', b_broad', b_horses', b_blinds', b_besides', b_tideCount', b_cartCount', b_due', b_pairs', b_pull', b_strength', b_back', b_moods', b_tides', b_carts')) : Met l yX4_readParts (wM yX4_readParts cX4_readParts 3 none) rm_X4_readParts (PreWS (dC, dI) (tyA cI cZ cII) adK adV (W_X4r_X0b cI cZ cII qr qr_text qb qb_pull qb_strength qb_back qb_moods qb_tides qb_carts r_length r_fault r_faultAt r_next r_numberFrom r_text b_law b_places b_broad b_horses b_blinds b_besides b_tideCount b_cartCount b_due b_pairs b_pull b_strength b_back b_moods b_tides b_carts) sz [.ref qr, .int n1, .ref qb]) (PostV (dC, dI) (tyA cI cZ cII) (W_X4r_X0b cI cZ cII qr qr_text qb qb_pull qb_strength qb_back qb_moods qb_tides qb_carts r_length r_fault r_faultAt r_next r_numberFrom r_text b_law b_places b_broad b_horses b_blinds b_besides b_tideCount b_cartCount b_due b_pairs b_pull b_strength b_back b_moods b_tides b_carts) (W_X4r_X0b cI cZ cII qr qr_text qb qb_pull qb_strength qb_back qb_moods qb_tides qb_carts r_length r_fault' r_faultAt' r_next' r_numberFrom' r_text b_law' b_places' b_broad' b_horses' b_blinds' b_besides' b_tideCount' b_cartCount' b_due' b_pairs' b_pull' b_strength' b_back' b_moods' b_tides' b_carts') sz) 0 0 (va_A (W_X4r_X0b cI cZ cII qr qr_text qb qb_pull qb_strength qb_back qb_moods qb_tides qb_carts r_length r_fault r_faultAt r_next r_numberFrom r_text b_law b_places b_broad b_horses b_blinds b_besides b_tideCount b_cartCount b_due b_pairs b_pull b_strength b_back b_moods b_tides b_carts) sz) := by
  refine Met.ofW (cc := cX4_readParts) (maxL := 3) (ret := none) (by decide) rfl ?_
  intro p e s m args below meth c s₁ B hml hv
  obtain ⟨rfl, hsz, hP, hK, hD0, hE⟩ := hv
  have hx := B.exec
  have hb := B.bytes
  have hr := B.returns
  have hts := atoms_spec (ws := wM yX4_readParts cX4_readParts 3 none) B.pre
  have hown : s.vm.findClass RX4 = some m.cls := findClass_of_methodNamed B.named
  have hlocks := B.notSynchronized
  subst hsz
  have hD := hD0.self (sz := s.heap.size)
  obtain ⟨A, hAe⟩ : ∃ A, A = va_A (W_X4r_X0b cI cZ cII qr qr_text qb qb_pull qb_strength qb_back qb_moods qb_tides qb_carts r_length r_fault r_faultAt r_next r_numberFrom r_text b_law b_places b_broad b_horses b_blinds b_besides b_tideCount b_cartCount b_due b_pairs b_pull b_strength b_back b_moods b_tides b_carts) s.heap.size := ⟨_, rfl⟩
  rw [← hAe] at hD hE
  have hA : ∀ q : Nat, s.heap.size ≤ q → A q := fun q h => by rw [hAe]; exact Or.inr h
  have hS : va_S A s.heap s.heap [] := va_S.rf
  have hl := lv_entry ([.ref qr, .int n1, .ref qb]) (n := 3) (Nat.le_of_ble_eq_true rfl)
  rw [lg_entry_eq]
  generalize (lg_sl ([.ref qr, .int n1, .ref qb]) ++ List.replicate (3 - (lg_sl ([.ref qr, .int n1, .ref qb])).length) Slot.unset).toArray = ls at hl ⊢
  have hl : lv_has ls 3 [(0, .ref qr), (1, .int n1), (2, .ref qb)] := hl
  generalize ([.ref qr, .int n1, .ref qb] : List Value).toArray = args at hts ⊢
  have hw : ∀ w ∈ wsL_law, w.before args s = true := fun w h => hts w (List.mem_cons_of_mem _ h)
  refine pg_start (fun Q hQ => ?_)
  have RET : ∀ (H : Heap) (locs : List Loc) (ls : Array Slot) (pc : Nat) (x0 : Int32) (x1 : Int32) (x2 : Int32) (x3 : Int32) (x4 : Int32) (x5 : Int32) (x6 : Int32) (x7 : Int32) (x8 : Int32) (x9 : Int32) (x10 : Int32) (x11 : Int32) (x12 : Int32) (x13 : Int64) (x14 : Nat → Int32) (x15 : Nat → Int32) (x16 : Nat → Int32) (x17 : Nat → Int32) (x18 : Nat → Int32) (x19 : Nat → Int32) , decode cX4_readParts pc = .ok (.return_, 1) → va_P (dC, dI) vwCl (W_X4r_X0b cI cZ cII qr qr_text qb qb_pull qb_strength qb_back qb_moods qb_tides qb_carts r_length x0 x1 x2 x3 r_text x4 x5 x6 x7 x8 x9 x10 x11 x12 x13 x14 x15 x16 x17 x18 x19) H → va_D A (W_X4r_X0b cI cZ cII qr qr_text qb qb_pull qb_strength qb_back qb_moods qb_tides qb_carts r_length x0 x1 x2 x3 r_text x4 x5 x6 x7 x8 x9 x10 x11 x12 x13 x14 x15 x16 x17 x18 x19) → va_S A s.heap H locs → (some (x0, x1, x2, x3, x4, x5, x6, x7, x8, x9, x10, x11, x12, x13, x14, x15, x16, x17, x18, x19) : Option (Int32 × Int32 × Int32 × Int32 × Int32 × Int32 × Int32 × Int32 × Int32 × Int32 × Int32 × Int32 × Int32 × Int64 × (Nat → Int32) × (Nat → Int32) × (Nat → Int32) × (Nat → Int32) × (Nat → Int32) × (Nat → Int32))) = some (r_fault', r_faultAt', r_next', r_numberFrom', b_law', b_places', b_broad', b_horses', b_blinds', b_besides', b_tideCount', b_cartCount', b_due', b_pairs', b_pull', b_strength', b_back', b_moods', b_tides', b_carts') → W p l e rm_X4_readParts s m args below meth c H locs 0 0 Q (F0 m pc ls []) := by
    intro H locs ls pc x0 x1 x2 x3 x4 x5 x6 x7 x8 x9 x10 x11 x12 x13 x14 x15 x16 x17 x18 x19 hd hP hD hS he
    subst hAe; subst hQ
    simp only [Option.some.injEq, Prod.mk.injEq] at he
    obtain ⟨rfl, rfl, rfl, rfl, rfl, rfl, rfl, rfl, rfl, rfl, rfl, rfl, rfl, rfl, rfl, rfl, rfl, rfl, rfl, rfl⟩ := he
    exact pg_vret hx hb hr hlocks hK hP hD hS hd
  unfold f_X4_readParts at hf
  refine lv_iload_n hx hb dX4_readParts_0 rfl (lv_at hl 1 rfl) ?_
  by_cases h9_0 : n1 = (0 : Int32)
  · have hf := pg_t h9_0 hf
    refine lv_tableIn (tgt := 40) hx hb dX4_readParts_1 (by rw [h9_0]; decide) (by rw [h9_0]; decide) (by rw [h9_0]; rfl) (by decide) ?_
    refine lv_aload_n hx hb dX4_readParts_40 rfl (lv_at hl 0 rfl) ?_
    refine lv_aload_n hx hb dX4_readParts_41 rfl (lv_at hl 2 rfl) ?_
    obtain ⟨r_fault_1, r_faultAt_1, r_next_1, r_numberFrom_1, b_law_1, b_places_1, b_broad_1, hc, hf⟩ := bn7_s hf
    refine pg_sVv (As := [.ref qb]) (rest := []) (wf := (W_X4r_X0b cI cZ cII qr qr_text qb qb_pull qb_strength qb_back qb_moods qb_tides qb_carts r_length r_fault_1 r_faultAt_1 r_next_1 r_numberFrom_1 r_text b_law_1 b_places_1 b_broad_1 b_horses b_blinds b_besides b_tideCount b_cartCount b_due b_pairs b_pull b_strength b_back b_moods b_tides b_carts)) hE ⟨hx, hb, hml, hown, hw⟩ (c_X4_readBelt l dC dI cI cZ cII adK adV qr qr_text qb qb_pull qb_strength qb_back qb_moods qb_tides qb_carts s.heap.size r_length r_fault r_faultAt r_next r_numberFrom r_text b_law b_places b_broad b_horses b_blinds b_besides b_tideCount b_cartCount b_due b_pairs b_pull b_strength b_back b_moods b_tides b_carts  r_fault_1 r_faultAt_1 r_next_1 r_numberFrom_1 b_law_1 b_places_1 b_broad_1 hc) (cwV 1 hts (wM_V mw_13_1 mw_13_2 mw_13_3 mw_1_20 mw_13_4) rfl rfl rfl dk_X4_readBelt ⟨Nat.le_of_ble_eq_true rfl, Nat.le_of_ble_eq_true rfl⟩) hK hP hD hS hA 4 0 rfl rfl rfl [0, 1, 2, 3, 4, 5, 6, 7, 8] [] [0, 1, 2, 3, 4, 5, 6, 7, 8] (plC_12 cI cZ cII qr qr_text qb qb_pull qb_strength qb_back qb_moods qb_tides qb_carts r_length r_fault r_faultAt r_next r_numberFrom r_text b_law b_places b_broad b_horses b_blinds b_besides b_tideCount b_cartCount b_due b_pairs b_pull b_strength b_back b_moods b_tides b_carts) rfl (plF_12 cI cZ cII qr qr_text qb qb_pull qb_strength qb_back qb_moods qb_tides qb_carts r_length r_fault r_faultAt r_next r_numberFrom r_text b_law b_places b_broad b_horses b_blinds b_besides b_tideCount b_cartCount b_due b_pairs b_pull b_strength b_back b_moods b_tides b_carts r_length r_fault_1 r_faultAt_1 r_next_1 r_numberFrom_1 r_text b_law_1 b_places_1 b_broad_1 b_horses b_blinds b_besides b_tideCount b_cartCount b_due b_pairs b_pull b_strength b_back b_moods b_tides b_carts) (by decide) rfl hl.1 rfl (Nat.le_of_ble_eq_true rfl) dX4_readParts_42 ⟨Nat.zero_le _, Nat.zero_le _⟩ (fun H locs hP hD hS => ?_)
    refine lv_goto (tgt := 93) hx hb dX4_readParts_45 (by decide) ?_
    exact RET _ _ _ _ _ _ _ _ _ _ _ _ _ _ _ _ _ _ _ _ _ _ _ _ dX4_readParts_93 hP hD hS hf
  have hf := pg_f h9_0 hf
  by_cases h9_1 : n1 = (1 : Int32)
  · have hf := pg_t h9_1 hf
    refine lv_tableIn (tgt := 48) hx hb dX4_readParts_1 (by rw [h9_1]; decide) (by rw [h9_1]; decide) (by rw [h9_1]; rfl) (by decide) ?_
    refine lv_aload_n hx hb dX4_readParts_48 rfl (lv_at hl 0 rfl) ?_
    refine lv_aload_n hx hb dX4_readParts_49 rfl (lv_at hl 2 rfl) ?_
    obtain ⟨r_fault_2, r_faultAt_2, r_next_2, r_numberFrom_2, b_horses_2, b_pull_2, b_strength_2, b_back_2, hc, hf⟩ := bn8_s hf
    refine pg_cVv (As := [.ref qb]) (rest := []) (wf := (W_X4r_X0b cI cZ cII qr qr_text qb qb_pull qb_strength qb_back qb_moods qb_tides qb_carts r_length r_fault_2 r_faultAt_2 r_next_2 r_numberFrom_2 r_text b_law b_places b_broad b_horses_2 b_blinds b_besides b_tideCount b_cartCount b_due b_pairs b_pull_2 b_strength_2 b_back_2 b_moods b_tides b_carts)) ⟨hx, hb, hml, hown, hw⟩ (c_X4_readHorse l dC dI cI cZ cII qr qr_text qb qb_pull qb_strength qb_back qb_moods qb_tides qb_carts s.heap.size r_length r_fault r_faultAt r_next r_numberFrom r_text b_law b_places b_broad b_horses b_blinds b_besides b_tideCount b_cartCount b_due b_pairs b_pull b_strength b_back b_moods b_tides b_carts  r_fault_2 r_faultAt_2 r_next_2 r_numberFrom_2 b_horses_2 b_pull_2 b_strength_2 b_back_2 hc) (cwV 1 hts (wM_V mw_14_4 mw_14_5 mw_14_6 mw_1_20 mw_14_7) rfl rfl rfl dk_X4_readHorse ⟨Nat.le_of_ble_eq_true rfl, Nat.le_of_ble_eq_true rfl⟩) hK hP hD hS hA 4 0 rfl rfl rfl [0, 1, 2, 3, 4, 5, 6, 7, 8] [] [0, 1, 2, 3, 4, 5, 6, 7, 8] (plC_12 cI cZ cII qr qr_text qb qb_pull qb_strength qb_back qb_moods qb_tides qb_carts r_length r_fault r_faultAt r_next r_numberFrom r_text b_law b_places b_broad b_horses b_blinds b_besides b_tideCount b_cartCount b_due b_pairs b_pull b_strength b_back b_moods b_tides b_carts) rfl (plF_12 cI cZ cII qr qr_text qb qb_pull qb_strength qb_back qb_moods qb_tides qb_carts r_length r_fault r_faultAt r_next r_numberFrom r_text b_law b_places b_broad b_horses b_blinds b_besides b_tideCount b_cartCount b_due b_pairs b_pull b_strength b_back b_moods b_tides b_carts r_length r_fault_2 r_faultAt_2 r_next_2 r_numberFrom_2 r_text b_law b_places b_broad b_horses_2 b_blinds b_besides b_tideCount b_cartCount b_due b_pairs b_pull_2 b_strength_2 b_back_2 b_moods b_tides b_carts) (by decide) rfl hl.1 rfl (Nat.le_of_ble_eq_true rfl) dX4_readParts_50 ⟨Nat.zero_le _, Nat.zero_le _⟩ (fun H locs hP hD hS => ?_)
    refine lv_goto (tgt := 93) hx hb dX4_readParts_53 (by decide) ?_
    exact RET _ _ _ _ _ _ _ _ _ _ _ _ _ _ _ _ _ _ _ _ _ _ _ _ dX4_readParts_93 hP hD hS hf
  have hf := pg_f h9_1 hf
  by_cases h9_2 : n1 = (2 : Int32)
  · have hf := pg_t h9_2 hf
    refine lv_tableIn (tgt := 56) hx hb dX4_readParts_1 (by rw [h9_2]; decide) (by rw [h9_2]; decide) (by rw [h9_2]; rfl) (by decide) ?_
    refine lv_aload_n hx hb dX4_readParts_56 rfl (lv_at hl 0 rfl) ?_
    refine lv_aload_n hx hb dX4_readParts_57 rfl (lv_at hl 2 rfl) ?_
    obtain ⟨r_fault_3, r_faultAt_3, r_next_3, r_numberFrom_3, b_blinds_3, hc, hf⟩ := bn5_s hf
    refine pg_cVv (As := [.ref qb]) (rest := []) (wf := (W_X4r_X0b cI cZ cII qr qr_text qb qb_pull qb_strength qb_back qb_moods qb_tides qb_carts r_length r_fault_3 r_faultAt_3 r_next_3 r_numberFrom_3 r_text b_law b_places b_broad b_horses b_blinds_3 b_besides b_tideCount b_cartCount b_due b_pairs b_pull b_strength b_back b_moods b_tides b_carts)) ⟨hx, hb, hml, hown, hw⟩ (c_X4_readBlind l dC dI cI cZ cII qr qr_text qb qb_pull qb_strength qb_back qb_moods qb_tides qb_carts s.heap.size r_length r_fault r_faultAt r_next r_numberFrom r_text b_law b_places b_broad b_horses b_blinds b_besides b_tideCount b_cartCount b_due b_pairs b_pull b_strength b_back b_moods b_tides b_carts  r_fault_3 r_faultAt_3 r_next_3 r_numberFrom_3 b_blinds_3 hc) (cwV 1 hts (wM_V mw_14_12 mw_14_13 mw_14_14 mw_1_20 mw_14_15) rfl rfl rfl dk_X4_readBlind ⟨Nat.le_of_ble_eq_true rfl, Nat.le_of_ble_eq_true rfl⟩) hK hP hD hS hA 4 0 rfl rfl rfl [0, 1, 2, 3, 4, 5, 6, 7, 8] [] [0, 1, 2, 3, 4, 5, 6, 7, 8] (plC_12 cI cZ cII qr qr_text qb qb_pull qb_strength qb_back qb_moods qb_tides qb_carts r_length r_fault r_faultAt r_next r_numberFrom r_text b_law b_places b_broad b_horses b_blinds b_besides b_tideCount b_cartCount b_due b_pairs b_pull b_strength b_back b_moods b_tides b_carts) rfl (plF_12 cI cZ cII qr qr_text qb qb_pull qb_strength qb_back qb_moods qb_tides qb_carts r_length r_fault r_faultAt r_next r_numberFrom r_text b_law b_places b_broad b_horses b_blinds b_besides b_tideCount b_cartCount b_due b_pairs b_pull b_strength b_back b_moods b_tides b_carts r_length r_fault_3 r_faultAt_3 r_next_3 r_numberFrom_3 r_text b_law b_places b_broad b_horses b_blinds_3 b_besides b_tideCount b_cartCount b_due b_pairs b_pull b_strength b_back b_moods b_tides b_carts) (by decide) rfl hl.1 rfl (Nat.le_of_ble_eq_true rfl) dX4_readParts_58 ⟨Nat.zero_le _, Nat.zero_le _⟩ (fun H locs hP hD hS => ?_)
    refine lv_goto (tgt := 93) hx hb dX4_readParts_61 (by decide) ?_
    exact RET _ _ _ _ _ _ _ _ _ _ _ _ _ _ _ _ _ _ _ _ _ _ _ _ dX4_readParts_93 hP hD hS hf
  have hf := pg_f h9_2 hf
  by_cases h9_3 : n1 = (3 : Int32)
  · have hf := pg_t h9_3 hf
    refine lv_tableIn (tgt := 64) hx hb dX4_readParts_1 (by rw [h9_3]; decide) (by rw [h9_3]; decide) (by rw [h9_3]; rfl) (by decide) ?_
    refine lv_aload_n hx hb dX4_readParts_64 rfl (lv_at hl 0 rfl) ?_
    refine lv_aload_n hx hb dX4_readParts_65 rfl (lv_at hl 2 rfl) ?_
    obtain ⟨r_fault_4, r_faultAt_4, r_next_4, r_numberFrom_4, b_besides_4, b_pairs_4, b_moods_4, hc, hf⟩ := bn7_s hf
    refine pg_cVv (As := [.ref qb]) (rest := []) (wf := (W_X4r_X0b cI cZ cII qr qr_text qb qb_pull qb_strength qb_back qb_moods qb_tides qb_carts r_length r_fault_4 r_faultAt_4 r_next_4 r_numberFrom_4 r_text b_law b_places b_broad b_horses b_blinds b_besides_4 b_tideCount b_cartCount b_due b_pairs_4 b_pull b_strength b_back b_moods_4 b_tides b_carts)) ⟨hx, hb, hml, hown, hw⟩ (c_X4_readBeside l dC dI cI cZ cII qr qr_text qb qb_pull qb_strength qb_back qb_moods qb_tides qb_carts s.heap.size r_length r_fault r_faultAt r_next r_numberFrom r_text b_law b_places b_broad b_horses b_blinds b_besides b_tideCount b_cartCount b_due b_pairs b_pull b_strength b_back b_moods b_tides b_carts  r_fault_4 r_faultAt_4 r_next_4 r_numberFrom_4 b_besides_4 b_pairs_4 b_moods_4 hc) (cwV 1 hts (wM_V mw_14_21 mw_14_22 mw_14_23 mw_1_20 mw_15_0) rfl rfl rfl dk_X4_readBeside ⟨Nat.le_of_ble_eq_true rfl, Nat.le_of_ble_eq_true rfl⟩) hK hP hD hS hA 4 0 rfl rfl rfl [0, 1, 2, 3, 4, 5, 6, 7, 8] [] [0, 1, 2, 3, 4, 5, 6, 7, 8] (plC_12 cI cZ cII qr qr_text qb qb_pull qb_strength qb_back qb_moods qb_tides qb_carts r_length r_fault r_faultAt r_next r_numberFrom r_text b_law b_places b_broad b_horses b_blinds b_besides b_tideCount b_cartCount b_due b_pairs b_pull b_strength b_back b_moods b_tides b_carts) rfl (plF_12 cI cZ cII qr qr_text qb qb_pull qb_strength qb_back qb_moods qb_tides qb_carts r_length r_fault r_faultAt r_next r_numberFrom r_text b_law b_places b_broad b_horses b_blinds b_besides b_tideCount b_cartCount b_due b_pairs b_pull b_strength b_back b_moods b_tides b_carts r_length r_fault_4 r_faultAt_4 r_next_4 r_numberFrom_4 r_text b_law b_places b_broad b_horses b_blinds b_besides_4 b_tideCount b_cartCount b_due b_pairs_4 b_pull b_strength b_back b_moods_4 b_tides b_carts) (by decide) rfl hl.1 rfl (Nat.le_of_ble_eq_true rfl) dX4_readParts_66 ⟨Nat.zero_le _, Nat.zero_le _⟩ (fun H locs hP hD hS => ?_)
    refine lv_goto (tgt := 93) hx hb dX4_readParts_69 (by decide) ?_
    exact RET _ _ _ _ _ _ _ _ _ _ _ _ _ _ _ _ _ _ _ _ _ _ _ _ dX4_readParts_93 hP hD hS hf
  have hf := pg_f h9_3 hf
  by_cases h9_4 : n1 = (4 : Int32)
  · have hf := pg_t h9_4 hf
    refine lv_tableIn (tgt := 72) hx hb dX4_readParts_1 (by rw [h9_4]; decide) (by rw [h9_4]; decide) (by rw [h9_4]; rfl) (by decide) ?_
    refine lv_aload_n hx hb dX4_readParts_72 rfl (lv_at hl 0 rfl) ?_
    refine lv_aload_n hx hb dX4_readParts_73 rfl (lv_at hl 2 rfl) ?_
    obtain ⟨r_fault_5, r_faultAt_5, r_next_5, r_numberFrom_5, b_tideCount_5, b_tides_5, hc, hf⟩ := bn6_s hf
    refine pg_cVv (As := [.ref qb]) (rest := []) (wf := (W_X4r_X0b cI cZ cII qr qr_text qb qb_pull qb_strength qb_back qb_moods qb_tides qb_carts r_length r_fault_5 r_faultAt_5 r_next_5 r_numberFrom_5 r_text b_law b_places b_broad b_horses b_blinds b_besides b_tideCount_5 b_cartCount b_due b_pairs b_pull b_strength b_back b_moods b_tides_5 b_carts)) ⟨hx, hb, hml, hown, hw⟩ (c_X4_readTide l dC dI cI cZ cII qr qr_text qb qb_pull qb_strength qb_back qb_moods qb_tides qb_carts s.heap.size r_length r_fault r_faultAt r_next r_numberFrom r_text b_law b_places b_broad b_horses b_blinds b_besides b_tideCount b_cartCount b_due b_pairs b_pull b_strength b_back b_moods b_tides b_carts  r_fault_5 r_faultAt_5 r_next_5 r_numberFrom_5 b_tideCount_5 b_tides_5 hc) (cwV 1 hts (wM_V mw_15_13 mw_15_14 mw_15_15 mw_1_20 mw_15_16) rfl rfl rfl dk_X4_readTide ⟨Nat.le_of_ble_eq_true rfl, Nat.le_of_ble_eq_true rfl⟩) hK hP hD hS hA 4 0 rfl rfl rfl [0, 1, 2, 3, 4, 5, 6, 7, 8] [] [0, 1, 2, 3, 4, 5, 6, 7, 8] (plC_12 cI cZ cII qr qr_text qb qb_pull qb_strength qb_back qb_moods qb_tides qb_carts r_length r_fault r_faultAt r_next r_numberFrom r_text b_law b_places b_broad b_horses b_blinds b_besides b_tideCount b_cartCount b_due b_pairs b_pull b_strength b_back b_moods b_tides b_carts) rfl (plF_12 cI cZ cII qr qr_text qb qb_pull qb_strength qb_back qb_moods qb_tides qb_carts r_length r_fault r_faultAt r_next r_numberFrom r_text b_law b_places b_broad b_horses b_blinds b_besides b_tideCount b_cartCount b_due b_pairs b_pull b_strength b_back b_moods b_tides b_carts r_length r_fault_5 r_faultAt_5 r_next_5 r_numberFrom_5 r_text b_law b_places b_broad b_horses b_blinds b_besides b_tideCount_5 b_cartCount b_due b_pairs b_pull b_strength b_back b_moods b_tides_5 b_carts) (by decide) rfl hl.1 rfl (Nat.le_of_ble_eq_true rfl) dX4_readParts_74 ⟨Nat.zero_le _, Nat.zero_le _⟩ (fun H locs hP hD hS => ?_)
    refine lv_goto (tgt := 93) hx hb dX4_readParts_77 (by decide) ?_
    exact RET _ _ _ _ _ _ _ _ _ _ _ _ _ _ _ _ _ _ _ _ _ _ _ _ dX4_readParts_93 hP hD hS hf
  have hf := pg_f h9_4 hf
  by_cases h9_5 : n1 = (5 : Int32)
  · have hf := pg_t h9_5 hf
    refine lv_tableIn (tgt := 80) hx hb dX4_readParts_1 (by rw [h9_5]; decide) (by rw [h9_5]; decide) (by rw [h9_5]; rfl) (by decide) ?_
    refine lv_aload_n hx hb dX4_readParts_80 rfl (lv_at hl 0 rfl) ?_
    refine lv_aload_n hx hb dX4_readParts_81 rfl (lv_at hl 2 rfl) ?_
    obtain ⟨r_fault_6, r_faultAt_6, r_next_6, r_numberFrom_6, b_cartCount_6, b_carts_6, hc, hf⟩ := bn6_s hf
    refine pg_cVv (As := [.ref qb]) (rest := []) (wf := (W_X4r_X0b cI cZ cII qr qr_text qb qb_pull qb_strength qb_back qb_moods qb_tides qb_carts r_length r_fault_6 r_faultAt_6 r_next_6 r_numberFrom_6 r_text b_law b_places b_broad b_horses b_blinds b_besides b_tideCount b_cartCount_6 b_due b_pairs b_pull b_strength b_back b_moods b_tides b_carts_6)) ⟨hx, hb, hml, hown, hw⟩ (c_X4_readCart l dC dI cI cZ cII qr qr_text qb qb_pull qb_strength qb_back qb_moods qb_tides qb_carts s.heap.size r_length r_fault r_faultAt r_next r_numberFrom r_text b_law b_places b_broad b_horses b_blinds b_besides b_tideCount b_cartCount b_due b_pairs b_pull b_strength b_back b_moods b_tides b_carts  r_fault_6 r_faultAt_6 r_next_6 r_numberFrom_6 b_cartCount_6 b_carts_6 hc) (cwV 1 hts (wM_V mw_16_1 mw_16_2 mw_16_3 mw_1_20 mw_16_4) rfl rfl rfl dk_X4_readCart ⟨Nat.le_of_ble_eq_true rfl, Nat.le_of_ble_eq_true rfl⟩) hK hP hD hS hA 4 0 rfl rfl rfl [0, 1, 2, 3, 4, 5, 6, 7, 8] [] [0, 1, 2, 3, 4, 5, 6, 7, 8] (plC_12 cI cZ cII qr qr_text qb qb_pull qb_strength qb_back qb_moods qb_tides qb_carts r_length r_fault r_faultAt r_next r_numberFrom r_text b_law b_places b_broad b_horses b_blinds b_besides b_tideCount b_cartCount b_due b_pairs b_pull b_strength b_back b_moods b_tides b_carts) rfl (plF_12 cI cZ cII qr qr_text qb qb_pull qb_strength qb_back qb_moods qb_tides qb_carts r_length r_fault r_faultAt r_next r_numberFrom r_text b_law b_places b_broad b_horses b_blinds b_besides b_tideCount b_cartCount b_due b_pairs b_pull b_strength b_back b_moods b_tides b_carts r_length r_fault_6 r_faultAt_6 r_next_6 r_numberFrom_6 r_text b_law b_places b_broad b_horses b_blinds b_besides b_tideCount b_cartCount_6 b_due b_pairs b_pull b_strength b_back b_moods b_tides b_carts_6) (by decide) rfl hl.1 rfl (Nat.le_of_ble_eq_true rfl) dX4_readParts_82 ⟨Nat.zero_le _, Nat.zero_le _⟩ (fun H locs hP hD hS => ?_)
    refine lv_goto (tgt := 93) hx hb dX4_readParts_85 (by decide) ?_
    exact RET _ _ _ _ _ _ _ _ _ _ _ _ _ _ _ _ _ _ _ _ _ _ _ _ dX4_readParts_93 hP hD hS hf
  have hf := pg_f h9_5 hf
  refine lv_tableOut (tgt := 88) hx hb dX4_readParts_1 (pg_sw 5 (by decide) (fun k hk => match k, hk with | 0, _ => h9_0 | 1, _ => h9_1 | 2, _ => h9_2 | 3, _ => h9_3 | 4, _ => h9_4 | 5, _ => h9_5 | k + 6, hk => absurd hk (by omega))) (by decide) ?_
  refine lv_aload_n hx hb dX4_readParts_88 rfl (lv_at hl 0 rfl) ?_
  refine lv_aload_n hx hb dX4_readParts_89 rfl (lv_at hl 2 rfl) ?_
  obtain ⟨r_fault_7, r_faultAt_7, r_next_7, r_numberFrom_7, b_due_7, hc, hf⟩ := bn5_s hf
  refine pg_cVv (As := [.ref qb]) (rest := []) (wf := (W_X4r_X0b cI cZ cII qr qr_text qb qb_pull qb_strength qb_back qb_moods qb_tides qb_carts r_length r_fault_7 r_faultAt_7 r_next_7 r_numberFrom_7 r_text b_law b_places b_broad b_horses b_blinds b_besides b_tideCount b_cartCount b_due_7 b_pairs b_pull b_strength b_back b_moods b_tides b_carts)) ⟨hx, hb, hml, hown, hw⟩ (c_X4_readDue l dC dI cI cZ cII qr qr_text qb qb_pull qb_strength qb_back qb_moods qb_tides qb_carts s.heap.size r_length r_fault r_faultAt r_next r_numberFrom r_text b_law b_places b_broad b_horses b_blinds b_besides b_tideCount b_cartCount b_due b_pairs b_pull b_strength b_back b_moods b_tides b_carts  r_fault_7 r_faultAt_7 r_next_7 r_numberFrom_7 b_due_7 hc) (cwV 1 hts (wM_V mw_16_9 mw_16_10 mw_16_11 mw_1_20 mw_16_12) rfl rfl rfl dk_X4_readDue ⟨Nat.le_of_ble_eq_true rfl, Nat.le_of_ble_eq_true rfl⟩) hK hP hD hS hA 4 0 rfl rfl rfl [0, 1, 2, 3, 4, 5, 6, 7, 8] [] [0, 1, 2, 3, 4, 5, 6, 7, 8] (plC_12 cI cZ cII qr qr_text qb qb_pull qb_strength qb_back qb_moods qb_tides qb_carts r_length r_fault r_faultAt r_next r_numberFrom r_text b_law b_places b_broad b_horses b_blinds b_besides b_tideCount b_cartCount b_due b_pairs b_pull b_strength b_back b_moods b_tides b_carts) rfl (plF_12 cI cZ cII qr qr_text qb qb_pull qb_strength qb_back qb_moods qb_tides qb_carts r_length r_fault r_faultAt r_next r_numberFrom r_text b_law b_places b_broad b_horses b_blinds b_besides b_tideCount b_cartCount b_due b_pairs b_pull b_strength b_back b_moods b_tides b_carts r_length r_fault_7 r_faultAt_7 r_next_7 r_numberFrom_7 r_text b_law b_places b_broad b_horses b_blinds b_besides b_tideCount b_cartCount b_due_7 b_pairs b_pull b_strength b_back b_moods b_tides b_carts) (by decide) rfl hl.1 rfl (Nat.le_of_ble_eq_true rfl) dX4_readParts_90 ⟨Nat.zero_le _, Nat.zero_le _⟩ (fun H locs hP hD hS => ?_)
  exact RET _ _ _ _ _ _ _ _ _ _ _ _ _ _ _ _ _ _ _ _ _ _ _ _ dX4_readParts_93 hP hD hS hf
def f_X4_readClause (r_length : Int32) (r_fault : Int32) (r_faultAt : Int32) (r_next : Int32) (r_numberFrom : Int32) (r_text : Nat → Int32) (b_law : Int32) (b_places : Int32) (b_broad : Int32) (b_horses : Int32) (b_blinds : Int32) (b_besides : Int32) (b_tideCount : Int32) (b_cartCount : Int32) (b_due : Int32) (b_pairs : Int64) (b_pull : Nat → Int32) (b_strength : Nat → Int32) (b_back : Nat → Int32) (b_moods : Nat → Int32) (b_tides : Nat → Int32) (b_carts : Nat → Int32) : Option (Int32 × Int32 × Int32 × Int32 × Int32 × Int32 × Int32 × Int32 × Int32 × Int32 × Int32 × Int32 × Int32 × Int64 × (Nat → Int32) × (Nat → Int32) × (Nat → Int32) × (Nat → Int32) × (Nat → Int32) × (Nat → Int32)) :=
  bn1 (f_X4_wordEnd r_next r_length r_text) (fun (r_1 : Int32) =>
    bn1 (f_X4_kindOf r_next r_1 r_text) (fun (r_2 : Int32) =>
      jn1 (fun (u_3 : Unit) =>
        bn2 (f_X4_fail (1 : Int32) r_next r_fault r_faultAt) (fun (r_fault_4 : Int32) (r_faultAt_4 : Int32) =>
          some (r_fault_4, r_faultAt_4, r_next, r_numberFrom, b_law, b_places, b_broad, b_horses, b_blinds, b_besides, b_tideCount, b_cartCount, b_due, b_pairs, b_pull, b_strength, b_back, b_moods, b_tides, b_carts)
        )
      ) (fun J32_3 =>
      if r_2 = (-1 : Int32) then
        J32_3 ()
      else
        jn1 (fun (u_5 : Unit) =>
          bn1 (f_X4_isTooMany r_2 b_places b_horses b_besides b_tideCount b_cartCount b_due) (fun (r_6 : Int32) =>
            if r_6 = 0 then
              bn1 (f_X4_wordEnd r_next r_length r_text) (fun (r_7 : Int32) =>
                bn20 (f_X4_readParts r_2 r_length r_fault r_faultAt r_7 r_numberFrom r_text b_law b_places b_broad b_horses b_blinds b_besides b_tideCount b_cartCount b_due b_pairs b_pull b_strength b_back b_moods b_tides b_carts) (fun (r_fault_8 : Int32) (r_faultAt_8 : Int32) (r_next_8 : Int32) (r_numberFrom_8 : Int32) (b_law_8 : Int32) (b_places_8 : Int32) (b_broad_8 : Int32) (b_horses_8 : Int32) (b_blinds_8 : Int32) (b_besides_8 : Int32) (b_tideCount_8 : Int32) (b_cartCount_8 : Int32) (b_due_8 : Int32) (b_pairs_8 : Int64) (b_pull_8 : Nat → Int32) (b_strength_8 : Nat → Int32) (b_back_8 : Nat → Int32) (b_moods_8 : Nat → Int32) (b_tides_8 : Nat → Int32) (b_carts_8 : Nat → Int32) =>
                  some (r_fault_8, r_faultAt_8, r_next_8, r_numberFrom_8, b_law_8, b_places_8, b_broad_8, b_horses_8, b_blinds_8, b_besides_8, b_tideCount_8, b_cartCount_8, b_due_8, b_pairs_8, b_pull_8, b_strength_8, b_back_8, b_moods_8, b_tides_8, b_carts_8)
                )
              )
            else
              bn2 (f_X4_fail (3 : Int32) r_next r_fault r_faultAt) (fun (r_fault_9 : Int32) (r_faultAt_9 : Int32) =>
                some (r_fault_9, r_faultAt_9, r_next, r_numberFrom, b_law, b_places, b_broad, b_horses, b_blinds, b_besides, b_tideCount, b_cartCount, b_due, b_pairs, b_pull, b_strength, b_back, b_moods, b_tides, b_carts)
              )
          )
        ) (fun J41_5 =>
        if r_2 = 0 then
          J41_5 ()
        else
          if b_places = 0 then
            J32_3 ()
          else
            J41_5 ()
        )
      )
    )
  )
abbrev rm_X4_readClause : Room := { frames := 9, cells := 0, slots := 0, locals := 251 }
theorem dk_X4_readClause : yX4_readClause.cls = RX4 ∧ yX4_readClause.cls ≠ "java/lang/invoke/MethodHandle" ∧ yX4_readClause.cls ≠ "java/lang/invoke/VarHandle" ∧ (parseMethodDescriptor yX4_readClause.desc).map (fun d => d.parameters.length) = some 1 := by decide +kernel
set_option maxHeartbeats 4000000 in
set_option maxRecDepth 100000 in
theorem c_X4_readClause (l : Launch) (dC : Nat → ClassId) (dI : Nat → Nat → Nat) (cI cZ cII : ClassId) (adK adV : Nat → Nat) (qr qr_text qb qb_pull qb_strength qb_back qb_moods qb_tides qb_carts : Nat) (sz : Nat) (r_length : Int32) (r_fault : Int32) (r_faultAt : Int32) (r_next : Int32) (r_numberFrom : Int32) (r_text : Nat → Int32) (b_law : Int32) (b_places : Int32) (b_broad : Int32) (b_horses : Int32) (b_blinds : Int32) (b_besides : Int32) (b_tideCount : Int32) (b_cartCount : Int32) (b_due : Int32) (b_pairs : Int64) (b_pull : Nat → Int32) (b_strength : Nat → Int32) (b_back : Nat → Int32) (b_moods : Nat → Int32) (b_tides : Nat → Int32) (b_carts : Nat → Int32) (r_fault' : Int32) (r_faultAt' : Int32) (r_next' : Int32) (r_numberFrom' : Int32) (b_law' : Int32) (b_places' : Int32) (b_broad' : Int32) (b_horses' : Int32) (b_blinds' : Int32) (b_besides' : Int32) (b_tideCount' : Int32) (b_cartCount' : Int32) (b_due' : Int32) (b_pairs' : Int64) (b_pull' : Nat → Int32) (b_strength' : Nat → Int32) (b_back' : Nat → Int32) (b_moods' : Nat → Int32) (b_tides' : Nat → Int32) (b_carts' : Nat → Int32) (hf : f_X4_readClause r_length r_fault r_faultAt r_next r_numberFrom r_text b_law b_places b_broad b_horses b_blinds b_besides b_tideCount b_cartCount b_due b_pairs b_pull b_strength b_back b_moods b_tides b_carts = some (r_fault', r_faultAt', r_next', r_numberFrom', b_law', b_places', b_broad', b_horses', b_blinds', b_besides', b_tideCount', b_cartCount', b_due', b_pairs', b_pull', b_strength', b_back', b_moods', b_tides', b_carts')) : Met l yX4_readClause (wM yX4_readClause cX4_readClause 4 none) rm_X4_readClause (PreWS (dC, dI) (tyA cI cZ cII) adK adV (W_X4r_X0b cI cZ cII qr qr_text qb qb_pull qb_strength qb_back qb_moods qb_tides qb_carts r_length r_fault r_faultAt r_next r_numberFrom r_text b_law b_places b_broad b_horses b_blinds b_besides b_tideCount b_cartCount b_due b_pairs b_pull b_strength b_back b_moods b_tides b_carts) sz [.ref qr, .ref qb]) (PostV (dC, dI) (tyA cI cZ cII) (W_X4r_X0b cI cZ cII qr qr_text qb qb_pull qb_strength qb_back qb_moods qb_tides qb_carts r_length r_fault r_faultAt r_next r_numberFrom r_text b_law b_places b_broad b_horses b_blinds b_besides b_tideCount b_cartCount b_due b_pairs b_pull b_strength b_back b_moods b_tides b_carts) (W_X4r_X0b cI cZ cII qr qr_text qb qb_pull qb_strength qb_back qb_moods qb_tides qb_carts r_length r_fault' r_faultAt' r_next' r_numberFrom' r_text b_law' b_places' b_broad' b_horses' b_blinds' b_besides' b_tideCount' b_cartCount' b_due' b_pairs' b_pull' b_strength' b_back' b_moods' b_tides' b_carts') sz) 0 0 (va_A (W_X4r_X0b cI cZ cII qr qr_text qb qb_pull qb_strength qb_back qb_moods qb_tides qb_carts r_length r_fault r_faultAt r_next r_numberFrom r_text b_law b_places b_broad b_horses b_blinds b_besides b_tideCount b_cartCount b_due b_pairs b_pull b_strength b_back b_moods b_tides b_carts) sz) := by
  refine Met.ofW (cc := cX4_readClause) (maxL := 4) (ret := none) (by decide) rfl ?_
  intro p e s m args below meth c s₁ B hml hv
  obtain ⟨rfl, hsz, hP, hK, hD0, hE⟩ := hv
  have hx := B.exec
  have hb := B.bytes
  have hr := B.returns
  have hts := atoms_spec (ws := wM yX4_readClause cX4_readClause 4 none) B.pre
  have hown : s.vm.findClass RX4 = some m.cls := findClass_of_methodNamed B.named
  have hlocks := B.notSynchronized
  subst hsz
  have hD := hD0.self (sz := s.heap.size)
  obtain ⟨A, hAe⟩ : ∃ A, A = va_A (W_X4r_X0b cI cZ cII qr qr_text qb qb_pull qb_strength qb_back qb_moods qb_tides qb_carts r_length r_fault r_faultAt r_next r_numberFrom r_text b_law b_places b_broad b_horses b_blinds b_besides b_tideCount b_cartCount b_due b_pairs b_pull b_strength b_back b_moods b_tides b_carts) s.heap.size := ⟨_, rfl⟩
  rw [← hAe] at hD hE
  have hA : ∀ q : Nat, s.heap.size ≤ q → A q := fun q h => by rw [hAe]; exact Or.inr h
  have hS : va_S A s.heap s.heap [] := va_S.rf
  have hl := lv_entry ([.ref qr, .ref qb]) (n := 4) (Nat.le_of_ble_eq_true rfl)
  rw [lg_entry_eq]
  generalize (lg_sl ([.ref qr, .ref qb]) ++ List.replicate (4 - (lg_sl ([.ref qr, .ref qb])).length) Slot.unset).toArray = ls at hl ⊢
  have hl : lv_has ls 4 [(0, .ref qr), (1, .ref qb)] := hl
  generalize ([.ref qr, .ref qb] : List Value).toArray = args at hts ⊢
  have hw : ∀ w ∈ wsL_law, w.before args s = true := fun w h => hts w (List.mem_cons_of_mem _ h)
  refine pg_start (fun Q hQ => ?_)
  have RET : ∀ (H : Heap) (locs : List Loc) (ls : Array Slot) (pc : Nat) (x0 : Int32) (x1 : Int32) (x2 : Int32) (x3 : Int32) (x4 : Int32) (x5 : Int32) (x6 : Int32) (x7 : Int32) (x8 : Int32) (x9 : Int32) (x10 : Int32) (x11 : Int32) (x12 : Int32) (x13 : Int64) (x14 : Nat → Int32) (x15 : Nat → Int32) (x16 : Nat → Int32) (x17 : Nat → Int32) (x18 : Nat → Int32) (x19 : Nat → Int32) , decode cX4_readClause pc = .ok (.return_, 1) → va_P (dC, dI) vwCl (W_X4r_X0b cI cZ cII qr qr_text qb qb_pull qb_strength qb_back qb_moods qb_tides qb_carts r_length x0 x1 x2 x3 r_text x4 x5 x6 x7 x8 x9 x10 x11 x12 x13 x14 x15 x16 x17 x18 x19) H → va_D A (W_X4r_X0b cI cZ cII qr qr_text qb qb_pull qb_strength qb_back qb_moods qb_tides qb_carts r_length x0 x1 x2 x3 r_text x4 x5 x6 x7 x8 x9 x10 x11 x12 x13 x14 x15 x16 x17 x18 x19) → va_S A s.heap H locs → (some (x0, x1, x2, x3, x4, x5, x6, x7, x8, x9, x10, x11, x12, x13, x14, x15, x16, x17, x18, x19) : Option (Int32 × Int32 × Int32 × Int32 × Int32 × Int32 × Int32 × Int32 × Int32 × Int32 × Int32 × Int32 × Int32 × Int64 × (Nat → Int32) × (Nat → Int32) × (Nat → Int32) × (Nat → Int32) × (Nat → Int32) × (Nat → Int32))) = some (r_fault', r_faultAt', r_next', r_numberFrom', b_law', b_places', b_broad', b_horses', b_blinds', b_besides', b_tideCount', b_cartCount', b_due', b_pairs', b_pull', b_strength', b_back', b_moods', b_tides', b_carts') → W p l e rm_X4_readClause s m args below meth c H locs 0 0 Q (F0 m pc ls []) := by
    intro H locs ls pc x0 x1 x2 x3 x4 x5 x6 x7 x8 x9 x10 x11 x12 x13 x14 x15 x16 x17 x18 x19 hd hP hD hS he
    subst hAe; subst hQ
    simp only [Option.some.injEq, Prod.mk.injEq] at he
    obtain ⟨rfl, rfl, rfl, rfl, rfl, rfl, rfl, rfl, rfl, rfl, rfl, rfl, rfl, rfl, rfl, rfl, rfl, rfl, rfl, rfl⟩ := he
    exact pg_vret hx hb hr hlocks hK hP hD hS hd
  unfold f_X4_readClause at hf
  refine lv_aload_n hx hb dX4_readClause_0 rfl (lv_at hl 0 rfl) ?_
  refine va_get (D := (dC, dI)) (ci := 4) (v := .int r_next) (C := RX4) (T := TX4) (N := 6) hx hb hw inlX4 hown hK hP 0 rfl rfl 4 (by decide) (hw _ mw_8_14) (fun _ h9 => h9) rfl dX4_readClause_1 ?_
  refine lv_istore_n (lv' := [(2, .int r_next), (0, .ref qr), (1, .ref qb)]) hx hb dX4_readClause_4 rfl hl (by decide) rfl (fun ls hl => ?_)
  refine lv_aload_n hx hb dX4_readClause_5 rfl (lv_at hl 1 rfl) ?_
  refine lv_iload_n hx hb dX4_readClause_6 rfl (lv_at hl 0 rfl) ?_
  refine lv_aload_n hx hb dX4_readClause_7 rfl (lv_at hl 1 rfl) ?_
  refine lv_iload_n hx hb dX4_readClause_8 rfl (lv_at hl 0 rfl) ?_
  obtain ⟨r_1, hc, hf⟩ := bn1_s hf
  refine pg_cVi (As := [.int r_next]) (rest := [.int r_next, .ref qr]) (wf := (W_X4r_X0b cI cZ cII qr qr_text qb qb_pull qb_strength qb_back qb_moods qb_tides qb_carts r_length r_fault r_faultAt r_next r_numberFrom r_text b_law b_places b_broad b_horses b_blinds b_besides b_tideCount b_cartCount b_due b_pairs b_pull b_strength b_back b_moods b_tides b_carts)) ⟨hx, hb, hml, hown, hw⟩ (c_X4_wordEnd l dC dI cI cZ cII qr qr_text s.heap.size r_length r_fault r_faultAt r_next r_numberFrom r_text r_next r_1 hc) (cwV 1 hts (wM_V mw_9_15 mw_9_16 mw_9_17 mw_1_20 mw_9_18) rfl rfl rfl dk_X4_wordEnd ⟨Nat.le_of_ble_eq_true rfl, Nat.le_of_ble_eq_true rfl⟩) hK hP hD hS hA 4 0 rfl rfl rfl [0, 1] [2, 3, 4, 5, 6, 7, 8] [7, 8, 0, 1, 2, 3, 4, 5, 6] (plC_10 cI cZ cII qr qr_text qb qb_pull qb_strength qb_back qb_moods qb_tides qb_carts r_length r_fault r_faultAt r_next r_numberFrom r_text b_law b_places b_broad b_horses b_blinds b_besides b_tideCount b_cartCount b_due b_pairs b_pull b_strength b_back b_moods b_tides b_carts) rfl (plF_10 cI cZ cII qr qr_text qb qb_pull qb_strength qb_back qb_moods qb_tides qb_carts r_length r_fault r_faultAt r_next r_numberFrom r_text b_law b_places b_broad b_horses b_blinds b_besides b_tideCount b_cartCount b_due b_pairs b_pull b_strength b_back b_moods b_tides b_carts r_length r_fault r_faultAt r_next r_numberFrom r_text) (by decide) rfl hl.1 rfl (Nat.le_of_ble_eq_true rfl) dX4_readClause_9 ⟨Nat.zero_le _, Nat.zero_le _⟩ (fun H locs hP hD hS => ?_)
  obtain ⟨r_2, hc, hf⟩ := bn1_s hf
  refine pg_sVi (As := [.int r_next, .int r_1]) (rest := []) (wf := (W_X4r_X0b cI cZ cII qr qr_text qb qb_pull qb_strength qb_back qb_moods qb_tides qb_carts r_length r_fault r_faultAt r_next r_numberFrom r_text b_law b_places b_broad b_horses b_blinds b_besides b_tideCount b_cartCount b_due b_pairs b_pull b_strength b_back b_moods b_tides b_carts)) hE ⟨hx, hb, hml, hown, hw⟩ (c_X4_kindOf l dC dI cI cZ cII adK adV qr qr_text H.size r_length r_fault r_faultAt r_next r_numberFrom r_text r_next r_1 r_2 hc) (cwV 2 hts (wM_V mw_9_23 mw_10_0 mw_10_1 mw_1_20 mw_10_2) rfl rfl rfl dk_X4_kindOf ⟨Nat.le_of_ble_eq_true rfl, Nat.le_of_ble_eq_true rfl⟩) hK hP hD hS hA 4 0 rfl rfl rfl [0, 1] [2, 3, 4, 5, 6, 7, 8] [7, 8, 0, 1, 2, 3, 4, 5, 6] (plC_10 cI cZ cII qr qr_text qb qb_pull qb_strength qb_back qb_moods qb_tides qb_carts r_length r_fault r_faultAt r_next r_numberFrom r_text b_law b_places b_broad b_horses b_blinds b_besides b_tideCount b_cartCount b_due b_pairs b_pull b_strength b_back b_moods b_tides b_carts) rfl (plF_10 cI cZ cII qr qr_text qb qb_pull qb_strength qb_back qb_moods qb_tides qb_carts r_length r_fault r_faultAt r_next r_numberFrom r_text b_law b_places b_broad b_horses b_blinds b_besides b_tideCount b_cartCount b_due b_pairs b_pull b_strength b_back b_moods b_tides b_carts r_length r_fault r_faultAt r_next r_numberFrom r_text) (by decide) rfl hl.1 rfl (Nat.le_of_ble_eq_true rfl) dX4_readClause_12 ⟨Nat.zero_le _, Nat.zero_le _⟩ (fun H locs hP hD hS => ?_)
  refine lv_istore_n (lv' := [(3, .int r_2), (2, .int r_next), (0, .ref qr), (1, .ref qb)]) hx hb dX4_readClause_15 rfl hl (by decide) rfl (fun ls hl => ?_)
  refine lv_iload_n hx hb dX4_readClause_16 rfl (lv_at hl 0 rfl) ?_
  refine lv_iconst (v := (-1 : Int32)) hx hb dX4_readClause_17 (by decide) ?_
  obtain ⟨J32_3, hJ32_3, hf⟩ := jn1_s hf
  have WJ32_3 : ∀ (u_3 : Unit) (H : Heap) (locs : List Loc) (ls : Array Slot), va_P (dC, dI) vwCl (W_X4r_X0b cI cZ cII qr qr_text qb qb_pull qb_strength qb_back qb_moods qb_tides qb_carts r_length r_fault r_faultAt r_next r_numberFrom r_text b_law b_places b_broad b_horses b_blinds b_besides b_tideCount b_cartCount b_due b_pairs b_pull b_strength b_back b_moods b_tides b_carts) H → va_D A (W_X4r_X0b cI cZ cII qr qr_text qb qb_pull qb_strength qb_back qb_moods qb_tides qb_carts r_length r_fault r_faultAt r_next r_numberFrom r_text b_law b_places b_broad b_horses b_blinds b_besides b_tideCount b_cartCount b_due b_pairs b_pull b_strength b_back b_moods b_tides b_carts) → va_S A s.heap H locs → lv_has ls 4 [(0, .ref qr), (2, .int r_next)] → J32_3 u_3 = some (r_fault', r_faultAt', r_next', r_numberFrom', b_law', b_places', b_broad', b_horses', b_blinds', b_besides', b_tideCount', b_cartCount', b_due', b_pairs', b_pull', b_strength', b_back', b_moods', b_tides', b_carts') → W p l e rm_X4_readClause s m args below meth c H locs 0 0 Q (F0 m 32 ls []) := by
    intro u_3 H locs ls hP hD hS hl hf
    have hf := hJ32_3 _ hf
    refine lv_aload_n hx hb dX4_readClause_32 rfl (lv_at hl 0 rfl) ?_
    refine lv_iconst (v := (1 : Int32)) hx hb dX4_readClause_33 (by decide) ?_
    refine lv_iload_n hx hb dX4_readClause_34 rfl (lv_at hl 1 rfl) ?_
    obtain ⟨r_fault_4, r_faultAt_4, hc, hf⟩ := bn2_s hf
    refine pg_cVv (As := [.int (1 : Int32), .int r_next]) (rest := []) (wf := (W_X4r_X0b cI cZ cII qr qr_text qb qb_pull qb_strength qb_back qb_moods qb_tides qb_carts r_length r_fault_4 r_faultAt_4 r_next r_numberFrom r_text b_law b_places b_broad b_horses b_blinds b_besides b_tideCount b_cartCount b_due b_pairs b_pull b_strength b_back b_moods b_tides b_carts)) ⟨hx, hb, hml, hown, hw⟩ (c_X4_fail l dC dI cI cZ cII qr qr_text H.size r_length r_fault r_faultAt r_next r_numberFrom r_text (1 : Int32) r_next r_fault_4 r_faultAt_4 hc) (cwV 2 hts (wM_V mw_12_8 mw_12_9 mw_12_10 mw_1_20 mw_12_11) rfl rfl rfl dk_X4_fail ⟨Nat.le_of_ble_eq_true rfl, Nat.le_of_ble_eq_true rfl⟩) hK hP hD hS hA 4 0 rfl rfl rfl [0, 1] [2, 3, 4, 5, 6, 7, 8] [7, 8, 0, 1, 2, 3, 4, 5, 6] (plC_10 cI cZ cII qr qr_text qb qb_pull qb_strength qb_back qb_moods qb_tides qb_carts r_length r_fault r_faultAt r_next r_numberFrom r_text b_law b_places b_broad b_horses b_blinds b_besides b_tideCount b_cartCount b_due b_pairs b_pull b_strength b_back b_moods b_tides b_carts) rfl (plF_10 cI cZ cII qr qr_text qb qb_pull qb_strength qb_back qb_moods qb_tides qb_carts r_length r_fault r_faultAt r_next r_numberFrom r_text b_law b_places b_broad b_horses b_blinds b_besides b_tideCount b_cartCount b_due b_pairs b_pull b_strength b_back b_moods b_tides b_carts r_length r_fault_4 r_faultAt_4 r_next r_numberFrom r_text) (by decide) rfl hl.1 rfl (Nat.le_of_ble_eq_true rfl) dX4_readClause_35 ⟨Nat.zero_le _, Nat.zero_le _⟩ (fun H locs hP hD hS => ?_)
    refine lv_goto (tgt := 74) hx hb dX4_readClause_38 (by decide) ?_
    exact RET _ _ _ _ _ _ _ _ _ _ _ _ _ _ _ _ _ _ _ _ _ _ _ _ dX4_readClause_74 hP hD hS hf
  refine lv_icmp_eq (tgt := 32) hx hb dX4_readClause_18 (by decide) (fun h9 => ?_) (fun h9 => ?_)
  · have hf := pg_t h9 hf
    exact WJ32_3 _ _ _ _ hP hD hS (lv_sub hl [2, 1] rfl) hf
  · have hf := pg_f h9 hf
    refine lv_iload_n hx hb dX4_readClause_21 rfl (lv_at hl 0 rfl) ?_
    obtain ⟨J41_5, hJ41_5, hf⟩ := jn1_s hf
    have WJ41_5 : ∀ (u_5 : Unit) (H : Heap) (locs : List Loc) (ls : Array Slot), va_P (dC, dI) vwCl (W_X4r_X0b cI cZ cII qr qr_text qb qb_pull qb_strength qb_back qb_moods qb_tides qb_carts r_length r_fault r_faultAt r_next r_numberFrom r_text b_law b_places b_broad b_horses b_blinds b_besides b_tideCount b_cartCount b_due b_pairs b_pull b_strength b_back b_moods b_tides b_carts) H → va_D A (W_X4r_X0b cI cZ cII qr qr_text qb qb_pull qb_strength qb_back qb_moods qb_tides qb_carts r_length r_fault r_faultAt r_next r_numberFrom r_text b_law b_places b_broad b_horses b_blinds b_besides b_tideCount b_cartCount b_due b_pairs b_pull b_strength b_back b_moods b_tides b_carts) → va_S A s.heap H locs → lv_has ls 4 [(0, .ref qr), (1, .ref qb), (2, .int r_next), (3, .int r_2)] → J41_5 u_5 = some (r_fault', r_faultAt', r_next', r_numberFrom', b_law', b_places', b_broad', b_horses', b_blinds', b_besides', b_tideCount', b_cartCount', b_due', b_pairs', b_pull', b_strength', b_back', b_moods', b_tides', b_carts') → W p l e rm_X4_readClause s m args below meth c H locs 0 0 Q (F0 m 41 ls []) := by
      intro u_5 H locs ls hP hD hS hl hf
      have hf := hJ41_5 _ hf
      refine lv_aload_n hx hb dX4_readClause_41 rfl (lv_at hl 0 rfl) ?_
      refine lv_iload_n hx hb dX4_readClause_42 rfl (lv_at hl 3 rfl) ?_
      refine lv_aload_n hx hb dX4_readClause_43 rfl (lv_at hl 1 rfl) ?_
      obtain ⟨r_6, hc, hf⟩ := bn1_s hf
      refine pg_cVi (As := [.int r_2, .ref qb]) (rest := []) (wf := (W_X4r_X0b cI cZ cII qr qr_text qb qb_pull qb_strength qb_back qb_moods qb_tides qb_carts r_length r_fault r_faultAt r_next r_numberFrom r_text b_law b_places b_broad b_horses b_blinds b_besides b_tideCount b_cartCount b_due b_pairs b_pull b_strength b_back b_moods b_tides b_carts)) ⟨hx, hb, hml, hown, hw⟩ (c_X4_isTooMany l dC dI cI cZ cII qr qr_text qb qb_pull qb_strength qb_back qb_moods qb_tides qb_carts H.size r_length r_fault r_faultAt r_next r_numberFrom r_text b_law b_places b_broad b_horses b_blinds b_besides b_tideCount b_cartCount b_due b_pairs b_pull b_strength b_back b_moods b_tides b_carts r_2 r_6 hc) (cwV 2 hts (wM_V mw_12_12 mw_12_13 mw_12_14 mw_1_20 mw_12_15) rfl rfl rfl dk_X4_isTooMany ⟨Nat.le_of_ble_eq_true rfl, Nat.le_of_ble_eq_true rfl⟩) hK hP hD hS hA 4 0 rfl rfl rfl [0, 1, 2, 3, 4, 5, 6, 7, 8] [] [0, 1, 2, 3, 4, 5, 6, 7, 8] (plC_12 cI cZ cII qr qr_text qb qb_pull qb_strength qb_back qb_moods qb_tides qb_carts r_length r_fault r_faultAt r_next r_numberFrom r_text b_law b_places b_broad b_horses b_blinds b_besides b_tideCount b_cartCount b_due b_pairs b_pull b_strength b_back b_moods b_tides b_carts) rfl (plF_12 cI cZ cII qr qr_text qb qb_pull qb_strength qb_back qb_moods qb_tides qb_carts r_length r_fault r_faultAt r_next r_numberFrom r_text b_law b_places b_broad b_horses b_blinds b_besides b_tideCount b_cartCount b_due b_pairs b_pull b_strength b_back b_moods b_tides b_carts r_length r_fault r_faultAt r_next r_numberFrom r_text b_law b_places b_broad b_horses b_blinds b_besides b_tideCount b_cartCount b_due b_pairs b_pull b_strength b_back b_moods b_tides b_carts) (by decide) rfl hl.1 rfl (Nat.le_of_ble_eq_true rfl) dX4_readClause_44 ⟨Nat.zero_le _, Nat.zero_le _⟩ (fun H locs hP hD hS => ?_)
      refine lv_if_eq (tgt := 59) hx hb dX4_readClause_47 (by decide) (fun h9 => ?_) (fun h9 => ?_)
      · have hf := pg_t h9 hf
        refine lv_aload_n hx hb dX4_readClause_59 rfl (lv_at hl 0 rfl) ?_
        refine lv_aload_n hx hb dX4_readClause_60 rfl (lv_at hl 0 rfl) ?_
        refine lv_iload_n hx hb dX4_readClause_61 rfl (lv_at hl 2 rfl) ?_
        obtain ⟨r_7, hc, hf⟩ := bn1_s hf
        refine pg_cVi (As := [.int r_next]) (rest := [.ref qr]) (wf := (W_X4r_X0b cI cZ cII qr qr_text qb qb_pull qb_strength qb_back qb_moods qb_tides qb_carts r_length r_fault r_faultAt r_next r_numberFrom r_text b_law b_places b_broad b_horses b_blinds b_besides b_tideCount b_cartCount b_due b_pairs b_pull b_strength b_back b_moods b_tides b_carts)) ⟨hx, hb, hml, hown, hw⟩ (c_X4_wordEnd l dC dI cI cZ cII qr qr_text H.size r_length r_fault r_faultAt r_next r_numberFrom r_text r_next r_7 hc) (cwV 1 hts (wM_V mw_9_15 mw_9_16 mw_9_17 mw_1_20 mw_9_18) rfl rfl rfl dk_X4_wordEnd ⟨Nat.le_of_ble_eq_true rfl, Nat.le_of_ble_eq_true rfl⟩) hK hP hD hS hA 4 0 rfl rfl rfl [0, 1] [2, 3, 4, 5, 6, 7, 8] [7, 8, 0, 1, 2, 3, 4, 5, 6] (plC_10 cI cZ cII qr qr_text qb qb_pull qb_strength qb_back qb_moods qb_tides qb_carts r_length r_fault r_faultAt r_next r_numberFrom r_text b_law b_places b_broad b_horses b_blinds b_besides b_tideCount b_cartCount b_due b_pairs b_pull b_strength b_back b_moods b_tides b_carts) rfl (plF_10 cI cZ cII qr qr_text qb qb_pull qb_strength qb_back qb_moods qb_tides qb_carts r_length r_fault r_faultAt r_next r_numberFrom r_text b_law b_places b_broad b_horses b_blinds b_besides b_tideCount b_cartCount b_due b_pairs b_pull b_strength b_back b_moods b_tides b_carts r_length r_fault r_faultAt r_next r_numberFrom r_text) (by decide) rfl hl.1 rfl (Nat.le_of_ble_eq_true rfl) dX4_readClause_62 ⟨Nat.zero_le _, Nat.zero_le _⟩ (fun H locs hP hD hS => ?_)
        refine va_put (D := (dC, dI)) (ci := 4) (v := .int r_7) (ty := .int) (C := RX4) (T := TX4) (N := 6) hx hb hw inlX4 tyX4 tyX4_ok nmX4 hown hK hP hD hS 0 rfl rfl 4 (by decide) (hw _ mw_8_14) (fun _ h9 => h9) rfl (by decide +kernel) rfl rfl (Nat.le_of_ble_eq_true rfl) dX4_readClause_65 (fun H locs hP hD hS => ?_)
        have hP : va_P (dC, dI) vwCl (W_X4r_X0b cI cZ cII qr qr_text qb qb_pull qb_strength qb_back qb_moods qb_tides qb_carts r_length r_fault r_faultAt r_7 r_numberFrom r_text b_law b_places b_broad b_horses b_blinds b_besides b_tideCount b_cartCount b_due b_pairs b_pull b_strength b_back b_moods b_tides b_carts) H := hP
        have hD : va_D A (W_X4r_X0b cI cZ cII qr qr_text qb qb_pull qb_strength qb_back qb_moods qb_tides qb_carts r_length r_fault r_faultAt r_7 r_numberFrom r_text b_law b_places b_broad b_horses b_blinds b_besides b_tideCount b_cartCount b_due b_pairs b_pull b_strength b_back b_moods b_tides b_carts) := hD
        refine lv_aload_n hx hb dX4_readClause_68 rfl (lv_at hl 0 rfl) ?_
        refine lv_iload_n hx hb dX4_readClause_69 rfl (lv_at hl 3 rfl) ?_
        refine lv_aload_n hx hb dX4_readClause_70 rfl (lv_at hl 1 rfl) ?_
        obtain ⟨r_fault_8, r_faultAt_8, r_next_8, r_numberFrom_8, b_law_8, b_places_8, b_broad_8, b_horses_8, b_blinds_8, b_besides_8, b_tideCount_8, b_cartCount_8, b_due_8, b_pairs_8, b_pull_8, b_strength_8, b_back_8, b_moods_8, b_tides_8, b_carts_8, hc, hf⟩ := bn20_s hf
        refine pg_sVv (As := [.int r_2, .ref qb]) (rest := []) (wf := (W_X4r_X0b cI cZ cII qr qr_text qb qb_pull qb_strength qb_back qb_moods qb_tides qb_carts r_length r_fault_8 r_faultAt_8 r_next_8 r_numberFrom_8 r_text b_law_8 b_places_8 b_broad_8 b_horses_8 b_blinds_8 b_besides_8 b_tideCount_8 b_cartCount_8 b_due_8 b_pairs_8 b_pull_8 b_strength_8 b_back_8 b_moods_8 b_tides_8 b_carts_8)) hE ⟨hx, hb, hml, hown, hw⟩ (c_X4_readParts l dC dI cI cZ cII adK adV qr qr_text qb qb_pull qb_strength qb_back qb_moods qb_tides qb_carts H.size r_length r_fault r_faultAt r_7 r_numberFrom r_text b_law b_places b_broad b_horses b_blinds b_besides b_tideCount b_cartCount b_due b_pairs b_pull b_strength b_back b_moods b_tides b_carts r_2 r_fault_8 r_faultAt_8 r_next_8 r_numberFrom_8 b_law_8 b_places_8 b_broad_8 b_horses_8 b_blinds_8 b_besides_8 b_tideCount_8 b_cartCount_8 b_due_8 b_pairs_8 b_pull_8 b_strength_8 b_back_8 b_moods_8 b_tides_8 b_carts_8 hc) (cwV 2 hts (wM_V mw_12_21 mw_12_22 mw_12_23 mw_1_20 mw_13_0) rfl rfl rfl dk_X4_readParts ⟨Nat.le_of_ble_eq_true rfl, Nat.le_of_ble_eq_true rfl⟩) hK hP hD hS hA 4 0 rfl rfl rfl [0, 1, 2, 3, 4, 5, 6, 7, 8] [] [0, 1, 2, 3, 4, 5, 6, 7, 8] (plC_12 cI cZ cII qr qr_text qb qb_pull qb_strength qb_back qb_moods qb_tides qb_carts r_length r_fault r_faultAt r_7 r_numberFrom r_text b_law b_places b_broad b_horses b_blinds b_besides b_tideCount b_cartCount b_due b_pairs b_pull b_strength b_back b_moods b_tides b_carts) rfl (plF_12 cI cZ cII qr qr_text qb qb_pull qb_strength qb_back qb_moods qb_tides qb_carts r_length r_fault r_faultAt r_7 r_numberFrom r_text b_law b_places b_broad b_horses b_blinds b_besides b_tideCount b_cartCount b_due b_pairs b_pull b_strength b_back b_moods b_tides b_carts r_length r_fault_8 r_faultAt_8 r_next_8 r_numberFrom_8 r_text b_law_8 b_places_8 b_broad_8 b_horses_8 b_blinds_8 b_besides_8 b_tideCount_8 b_cartCount_8 b_due_8 b_pairs_8 b_pull_8 b_strength_8 b_back_8 b_moods_8 b_tides_8 b_carts_8) (by decide) rfl hl.1 rfl (Nat.le_of_ble_eq_true rfl) dX4_readClause_71 ⟨Nat.zero_le _, Nat.zero_le _⟩ (fun H locs hP hD hS => ?_)
        exact RET _ _ _ _ _ _ _ _ _ _ _ _ _ _ _ _ _ _ _ _ _ _ _ _ dX4_readClause_74 hP hD hS hf
      · have hf := pg_f h9 hf
        refine lv_aload_n hx hb dX4_readClause_50 rfl (lv_at hl 0 rfl) ?_
        refine lv_iconst (v := (3 : Int32)) hx hb dX4_readClause_51 (by decide) ?_
        refine lv_iload_n hx hb dX4_readClause_52 rfl (lv_at hl 2 rfl) ?_
        obtain ⟨r_fault_9, r_faultAt_9, hc, hf⟩ := bn2_s hf
        refine pg_cVv (As := [.int (3 : Int32), .int r_next]) (rest := []) (wf := (W_X4r_X0b cI cZ cII qr qr_text qb qb_pull qb_strength qb_back qb_moods qb_tides qb_carts r_length r_fault_9 r_faultAt_9 r_next r_numberFrom r_text b_law b_places b_broad b_horses b_blinds b_besides b_tideCount b_cartCount b_due b_pairs b_pull b_strength b_back b_moods b_tides b_carts)) ⟨hx, hb, hml, hown, hw⟩ (c_X4_fail l dC dI cI cZ cII qr qr_text H.size r_length r_fault r_faultAt r_next r_numberFrom r_text (3 : Int32) r_next r_fault_9 r_faultAt_9 hc) (cwV 2 hts (wM_V mw_12_8 mw_12_9 mw_12_10 mw_1_20 mw_12_11) rfl rfl rfl dk_X4_fail ⟨Nat.le_of_ble_eq_true rfl, Nat.le_of_ble_eq_true rfl⟩) hK hP hD hS hA 4 0 rfl rfl rfl [0, 1] [2, 3, 4, 5, 6, 7, 8] [7, 8, 0, 1, 2, 3, 4, 5, 6] (plC_10 cI cZ cII qr qr_text qb qb_pull qb_strength qb_back qb_moods qb_tides qb_carts r_length r_fault r_faultAt r_next r_numberFrom r_text b_law b_places b_broad b_horses b_blinds b_besides b_tideCount b_cartCount b_due b_pairs b_pull b_strength b_back b_moods b_tides b_carts) rfl (plF_10 cI cZ cII qr qr_text qb qb_pull qb_strength qb_back qb_moods qb_tides qb_carts r_length r_fault r_faultAt r_next r_numberFrom r_text b_law b_places b_broad b_horses b_blinds b_besides b_tideCount b_cartCount b_due b_pairs b_pull b_strength b_back b_moods b_tides b_carts r_length r_fault_9 r_faultAt_9 r_next r_numberFrom r_text) (by decide) rfl hl.1 rfl (Nat.le_of_ble_eq_true rfl) dX4_readClause_53 ⟨Nat.zero_le _, Nat.zero_le _⟩ (fun H locs hP hD hS => ?_)
        refine lv_goto (tgt := 74) hx hb dX4_readClause_56 (by decide) ?_
        exact RET _ _ _ _ _ _ _ _ _ _ _ _ _ _ _ _ _ _ _ _ _ _ _ _ dX4_readClause_74 hP hD hS hf
    refine lv_if_eq (tgt := 41) hx hb dX4_readClause_22 (by decide) (fun h9 => ?_) (fun h9 => ?_)
    · have hf := pg_t h9 hf
      exact WJ41_5 _ _ _ _ hP hD hS (lv_sub hl [2, 3, 1, 0] rfl) hf
    · have hf := pg_f h9 hf
      refine lv_aload_n hx hb dX4_readClause_25 rfl (lv_at hl 3 rfl) ?_
      refine va_get (D := (dC, dI)) (ci := 0) (v := .int b_places) (C := RX0) (T := TX0) (N := 16) hx hb hw inlX0 hown hK hP 2 rfl rfl 1 (by decide) (hw _ mw_9_14) (fun _ h9 => h9) rfl dX4_readClause_26 ?_
      refine lv_if_ne (tgt := 41) hx hb dX4_readClause_29 (by decide) (fun h9 => ?_) (fun h9 => ?_)
      · have hf := pg_f h9 hf
        exact WJ41_5 _ _ _ _ hP hD hS (lv_sub hl [2, 3, 1, 0] rfl) hf
      · have hf := pg_t h9 hf
        exact WJ32_3 _ _ _ _ hP hD hS (lv_sub hl [2, 1] rfl) hf
def f_X4_read (r_length : Int32) (r_fault : Int32) (r_faultAt : Int32) (r_next : Int32) (r_numberFrom : Int32) (r_text : Nat → Int32) (b_law : Int32) (b_places : Int32) (b_broad : Int32) (b_horses : Int32) (b_blinds : Int32) (b_besides : Int32) (b_tideCount : Int32) (b_cartCount : Int32) (b_due : Int32) (b_pairs : Int64) (b_pull : Nat → Int32) (b_strength : Nat → Int32) (b_back : Nat → Int32) (b_moods : Nat → Int32) (b_tides : Nat → Int32) (b_carts : Nat → Int32) : Option (Int32 × Int32 × Int32 × Int32 × Int32 × Int32 × Int32 × Int32 × Int32 × Int32 × Int32 × Int32 × Int32 × Int32 × Int64 × (Nat → Int32) × (Nat → Int32) × (Nat → Int32) × (Nat → Int32) × (Nat → Int32) × (Nat → Int32)) :=
  bn11 (f_X0_clear b_law b_places b_broad b_horses b_blinds b_besides b_tideCount b_cartCount b_due b_pairs b_moods) (fun (b_law_1 : Int32) (b_places_1 : Int32) (b_broad_1 : Int32) (b_horses_1 : Int32) (b_blinds_1 : Int32) (b_besides_1 : Int32) (b_tideCount_1 : Int32) (b_cartCount_1 : Int32) (b_due_1 : Int32) (b_pairs_1 : Int64) (b_moods_1 : Nat → Int32) =>
    jn20 (fun (r_fault_2 : Int32) (r_faultAt_2 : Int32) (r_next_2 : Int32) (r_numberFrom_2 : Int32) (b_law_2 : Int32) (b_places_2 : Int32) (b_broad_2 : Int32) (b_horses_2 : Int32) (b_blinds_2 : Int32) (b_besides_2 : Int32) (b_tideCount_2 : Int32) (b_cartCount_2 : Int32) (b_due_2 : Int32) (b_pairs_2 : Int64) (b_pull_2 : Nat → Int32) (b_strength_2 : Nat → Int32) (b_back_2 : Nat → Int32) (b_moods_2 : Nat → Int32) (b_tides_2 : Nat → Int32) (b_carts_2 : Nat → Int32) =>
      if r_fault_2 = 0 then
        some ((1 : Int32), r_fault_2, r_faultAt_2, r_next_2, r_numberFrom_2, b_law_2, b_places_2, b_broad_2, b_horses_2, b_blinds_2, b_besides_2, b_tideCount_2, b_cartCount_2, b_due_2, b_pairs_2, b_pull_2, b_strength_2, b_back_2, b_moods_2, b_tides_2, b_carts_2)
      else
        some ((0 : Int32), r_fault_2, r_faultAt_2, r_next_2, r_numberFrom_2, b_law_2, b_places_2, b_broad_2, b_horses_2, b_blinds_2, b_besides_2, b_tideCount_2, b_cartCount_2, b_due_2, b_pairs_2, b_pull_2, b_strength_2, b_back_2, b_moods_2, b_tides_2, b_carts_2)
    ) (fun K64_2 =>
    lq21 (fun rec3 (y2_3 : Int32) (r_fault_3 : Int32) (r_faultAt_3 : Int32) (r_next_3 : Int32) (r_numberFrom_3 : Int32) (b_law_3 : Int32) (b_places_3 : Int32) (b_broad_3 : Int32) (b_horses_3 : Int32) (b_blinds_3 : Int32) (b_besides_3 : Int32) (b_tideCount_3 : Int32) (b_cartCount_3 : Int32) (b_due_3 : Int32) (b_pairs_3 : Int64) (b_pull_3 : Nat → Int32) (b_strength_3 : Nat → Int32) (b_back_3 : Nat → Int32) (b_moods_3 : Nat → Int32) (b_tides_3 : Nat → Int32) (b_carts_3 : Nat → Int32) =>
      if (500 : Int32) ≤ y2_3 then
        K64_2 r_fault_3 r_faultAt_3 r_next_3 r_numberFrom_3 b_law_3 b_places_3 b_broad_3 b_horses_3 b_blinds_3 b_besides_3 b_tideCount_3 b_cartCount_3 b_due_3 b_pairs_3 b_pull_3 b_strength_3 b_back_3 b_moods_3 b_tides_3 b_carts_3
      else
        if r_fault_3 = 0 then
          bn1 (f_X4_skipBlanks r_length r_next_3 r_text) (fun (r_next_4 : Int32) =>
            if r_next_4 < r_length then
              bn20 (f_X4_readClause r_length r_fault_3 r_faultAt_3 r_next_4 r_numberFrom_3 r_text b_law_3 b_places_3 b_broad_3 b_horses_3 b_blinds_3 b_besides_3 b_tideCount_3 b_cartCount_3 b_due_3 b_pairs_3 b_pull_3 b_strength_3 b_back_3 b_moods_3 b_tides_3 b_carts_3) (fun (r_fault_5 : Int32) (r_faultAt_5 : Int32) (r_next_5 : Int32) (r_numberFrom_5 : Int32) (b_law_5 : Int32) (b_places_5 : Int32) (b_broad_5 : Int32) (b_horses_5 : Int32) (b_blinds_5 : Int32) (b_besides_5 : Int32) (b_tideCount_5 : Int32) (b_cartCount_5 : Int32) (b_due_5 : Int32) (b_pairs_5 : Int64) (b_pull_5 : Nat → Int32) (b_strength_5 : Nat → Int32) (b_back_5 : Nat → Int32) (b_moods_5 : Nat → Int32) (b_tides_5 : Nat → Int32) (b_carts_5 : Nat → Int32) =>
                rec3 (y2_3 + (1 : Int32)) r_fault_5 r_faultAt_5 r_next_5 r_numberFrom_5 b_law_5 b_places_5 b_broad_5 b_horses_5 b_blinds_5 b_besides_5 b_tideCount_5 b_cartCount_5 b_due_5 b_pairs_5 b_pull_5 b_strength_5 b_back_5 b_moods_5 b_tides_5 b_carts_5
              )
            else
              K64_2 r_fault_3 r_faultAt_3 r_next_4 r_numberFrom_3 b_law_3 b_places_3 b_broad_3 b_horses_3 b_blinds_3 b_besides_3 b_tideCount_3 b_cartCount_3 b_due_3 b_pairs_3 b_pull_3 b_strength_3 b_back_3 b_moods_3 b_tides_3 b_carts_3
          )
        else
          K64_2 r_fault_3 r_faultAt_3 r_next_3 r_numberFrom_3 b_law_3 b_places_3 b_broad_3 b_horses_3 b_blinds_3 b_besides_3 b_tideCount_3 b_cartCount_3 b_due_3 b_pairs_3 b_pull_3 b_strength_3 b_back_3 b_moods_3 b_tides_3 b_carts_3
    ) fu (0 : Int32) (0 : Int32) (-1 : Int32) (0 : Int32) r_numberFrom b_law_1 b_places_1 b_broad_1 b_horses_1 b_blinds_1 b_besides_1 b_tideCount_1 b_cartCount_1 b_due_1 b_pairs_1 b_pull b_strength b_back b_moods_1 b_tides b_carts
    )
  )
abbrev rm_X4_read : Room := { frames := 10, cells := 0, slots := 0, locals := 274 }
theorem dk_X4_read : yX4_read.cls = RX4 ∧ yX4_read.cls ≠ "java/lang/invoke/MethodHandle" ∧ yX4_read.cls ≠ "java/lang/invoke/VarHandle" ∧ (parseMethodDescriptor yX4_read.desc).map (fun d => d.parameters.length) = some 1 := by decide +kernel
set_option maxHeartbeats 4000000 in
set_option maxRecDepth 100000 in
theorem c_X4_read (l : Launch) (dC : Nat → ClassId) (dI : Nat → Nat → Nat) (cI cZ cII : ClassId) (adK adV : Nat → Nat) (qr qr_text qb qb_pull qb_strength qb_back qb_moods qb_tides qb_carts : Nat) (sz : Nat) (r_length : Int32) (r_fault : Int32) (r_faultAt : Int32) (r_next : Int32) (r_numberFrom : Int32) (r_text : Nat → Int32) (b_law : Int32) (b_places : Int32) (b_broad : Int32) (b_horses : Int32) (b_blinds : Int32) (b_besides : Int32) (b_tideCount : Int32) (b_cartCount : Int32) (b_due : Int32) (b_pairs : Int64) (b_pull : Nat → Int32) (b_strength : Nat → Int32) (b_back : Nat → Int32) (b_moods : Nat → Int32) (b_tides : Nat → Int32) (b_carts : Nat → Int32) (rr : Int32) (r_fault' : Int32) (r_faultAt' : Int32) (r_next' : Int32) (r_numberFrom' : Int32) (b_law' : Int32) (b_places' : Int32) (b_broad' : Int32) (b_horses' : Int32) (b_blinds' : Int32) (b_besides' : Int32) (b_tideCount' : Int32) (b_cartCount' : Int32) (b_due' : Int32) (b_pairs' : Int64) (b_pull' : Nat → Int32) (b_strength' : Nat → Int32) (b_back' : Nat → Int32) (b_moods' : Nat → Int32) (b_tides' : Nat → Int32) (b_carts' : Nat → Int32) (hf : f_X4_read r_length r_fault r_faultAt r_next r_numberFrom r_text b_law b_places b_broad b_horses b_blinds b_besides b_tideCount b_cartCount b_due b_pairs b_pull b_strength b_back b_moods b_tides b_carts = some (rr, r_fault', r_faultAt', r_next', r_numberFrom', b_law', b_places', b_broad', b_horses', b_blinds', b_besides', b_tideCount', b_cartCount', b_due', b_pairs', b_pull', b_strength', b_back', b_moods', b_tides', b_carts')) : Met l yX4_read (wM yX4_read cX4_read 3 (some .boolean)) rm_X4_read (PreWS (dC, dI) (tyA cI cZ cII) adK adV (W_X4r_X0b cI cZ cII qr qr_text qb qb_pull qb_strength qb_back qb_moods qb_tides qb_carts r_length r_fault r_faultAt r_next r_numberFrom r_text b_law b_places b_broad b_horses b_blinds b_besides b_tideCount b_cartCount b_due b_pairs b_pull b_strength b_back b_moods b_tides b_carts) sz [.ref qr, .ref qb]) (PostI (dC, dI) (tyA cI cZ cII) rr (W_X4r_X0b cI cZ cII qr qr_text qb qb_pull qb_strength qb_back qb_moods qb_tides qb_carts r_length r_fault r_faultAt r_next r_numberFrom r_text b_law b_places b_broad b_horses b_blinds b_besides b_tideCount b_cartCount b_due b_pairs b_pull b_strength b_back b_moods b_tides b_carts) (W_X4r_X0b cI cZ cII qr qr_text qb qb_pull qb_strength qb_back qb_moods qb_tides qb_carts r_length r_fault' r_faultAt' r_next' r_numberFrom' r_text b_law' b_places' b_broad' b_horses' b_blinds' b_besides' b_tideCount' b_cartCount' b_due' b_pairs' b_pull' b_strength' b_back' b_moods' b_tides' b_carts') sz) 0 0 (va_A (W_X4r_X0b cI cZ cII qr qr_text qb qb_pull qb_strength qb_back qb_moods qb_tides qb_carts r_length r_fault r_faultAt r_next r_numberFrom r_text b_law b_places b_broad b_horses b_blinds b_besides b_tideCount b_cartCount b_due b_pairs b_pull b_strength b_back b_moods b_tides b_carts) sz) := by
  refine Met.ofW (cc := cX4_read) (maxL := 3) (ret := (some .boolean)) (by decide) rfl ?_
  intro p e s m args below meth c s₁ B hml hv
  obtain ⟨rfl, hsz, hP, hK, hD0, hE⟩ := hv
  have hx := B.exec
  have hb := B.bytes
  have hr := B.returns
  have hts := atoms_spec (ws := wM yX4_read cX4_read 3 (some .boolean)) B.pre
  have hown : s.vm.findClass RX4 = some m.cls := findClass_of_methodNamed B.named
  have hlocks := B.notSynchronized
  subst hsz
  have hD := hD0.self (sz := s.heap.size)
  obtain ⟨A, hAe⟩ : ∃ A, A = va_A (W_X4r_X0b cI cZ cII qr qr_text qb qb_pull qb_strength qb_back qb_moods qb_tides qb_carts r_length r_fault r_faultAt r_next r_numberFrom r_text b_law b_places b_broad b_horses b_blinds b_besides b_tideCount b_cartCount b_due b_pairs b_pull b_strength b_back b_moods b_tides b_carts) s.heap.size := ⟨_, rfl⟩
  rw [← hAe] at hD hE
  have hA : ∀ q : Nat, s.heap.size ≤ q → A q := fun q h => by rw [hAe]; exact Or.inr h
  have hS : va_S A s.heap s.heap [] := va_S.rf
  have hl := lv_entry ([.ref qr, .ref qb]) (n := 3) (Nat.le_of_ble_eq_true rfl)
  rw [lg_entry_eq]
  generalize (lg_sl ([.ref qr, .ref qb]) ++ List.replicate (3 - (lg_sl ([.ref qr, .ref qb])).length) Slot.unset).toArray = ls at hl ⊢
  have hl : lv_has ls 3 [(0, .ref qr), (1, .ref qb)] := hl
  generalize ([.ref qr, .ref qb] : List Value).toArray = args at hts ⊢
  have hw : ∀ w ∈ wsL_law, w.before args s = true := fun w h => hts w (List.mem_cons_of_mem _ h)
  refine pg_start (fun Q hQ => ?_)
  have RET : ∀ (H : Heap) (locs : List Loc) (ls : Array Slot) (pc : Nat) (v : Int32) (x0 : Int32) (x1 : Int32) (x2 : Int32) (x3 : Int32) (x4 : Int32) (x5 : Int32) (x6 : Int32) (x7 : Int32) (x8 : Int32) (x9 : Int32) (x10 : Int32) (x11 : Int32) (x12 : Int32) (x13 : Int64) (x14 : Nat → Int32) (x15 : Nat → Int32) (x16 : Nat → Int32) (x17 : Nat → Int32) (x18 : Nat → Int32) (x19 : Nat → Int32) , decode cX4_read pc = .ok (.ireturn, 1) → (v = 0 ∨ v = 1) → va_P (dC, dI) vwCl (W_X4r_X0b cI cZ cII qr qr_text qb qb_pull qb_strength qb_back qb_moods qb_tides qb_carts r_length x0 x1 x2 x3 r_text x4 x5 x6 x7 x8 x9 x10 x11 x12 x13 x14 x15 x16 x17 x18 x19) H → va_D A (W_X4r_X0b cI cZ cII qr qr_text qb qb_pull qb_strength qb_back qb_moods qb_tides qb_carts r_length x0 x1 x2 x3 r_text x4 x5 x6 x7 x8 x9 x10 x11 x12 x13 x14 x15 x16 x17 x18 x19) → va_S A s.heap H locs → (some (v, x0, x1, x2, x3, x4, x5, x6, x7, x8, x9, x10, x11, x12, x13, x14, x15, x16, x17, x18, x19) : Option (Int32 × Int32 × Int32 × Int32 × Int32 × Int32 × Int32 × Int32 × Int32 × Int32 × Int32 × Int32 × Int32 × Int32 × Int64 × (Nat → Int32) × (Nat → Int32) × (Nat → Int32) × (Nat → Int32) × (Nat → Int32) × (Nat → Int32))) = some (rr, r_fault', r_faultAt', r_next', r_numberFrom', b_law', b_places', b_broad', b_horses', b_blinds', b_besides', b_tideCount', b_cartCount', b_due', b_pairs', b_pull', b_strength', b_back', b_moods', b_tides', b_carts') → W p l e rm_X4_read s m args below meth c H locs 0 0 Q (F0 m pc ls [.int v]) := by
    intro H locs ls pc v x0 x1 x2 x3 x4 x5 x6 x7 x8 x9 x10 x11 x12 x13 x14 x15 x16 x17 x18 x19 hd hz hP hD hS he
    subst hAe; subst hQ
    simp only [Option.some.injEq, Prod.mk.injEq] at he
    obtain ⟨rfl, rfl, rfl, rfl, rfl, rfl, rfl, rfl, rfl, rfl, rfl, rfl, rfl, rfl, rfl, rfl, rfl, rfl, rfl, rfl, rfl⟩ := he
    exact pg_zret hx hb hr hlocks hz hK hP hD hS hd
  unfold f_X4_read at hf
  refine lv_aload_n hx hb dX4_read_0 rfl (lv_at hl 1 rfl) ?_
  obtain ⟨b_law_1, b_places_1, b_broad_1, b_horses_1, b_blinds_1, b_besides_1, b_tideCount_1, b_cartCount_1, b_due_1, b_pairs_1, b_moods_1, hc, hf⟩ := bn11_s hf
  refine pg_cVv (As := []) (rest := []) (wf := (W_X4r_X0b cI cZ cII qr qr_text qb qb_pull qb_strength qb_back qb_moods qb_tides qb_carts r_length r_fault r_faultAt r_next r_numberFrom r_text b_law_1 b_places_1 b_broad_1 b_horses_1 b_blinds_1 b_besides_1 b_tideCount_1 b_cartCount_1 b_due_1 b_pairs_1 b_pull b_strength b_back b_moods_1 b_tides b_carts)) ⟨hx, hb, hml, hown, hw⟩ (c_X0_clear l dC dI cI cZ cII qb qb_pull qb_strength qb_back qb_moods qb_tides qb_carts s.heap.size b_law b_places b_broad b_horses b_blinds b_besides b_tideCount b_cartCount b_due b_pairs b_pull b_strength b_back b_moods b_tides b_carts  b_law_1 b_places_1 b_broad_1 b_horses_1 b_blinds_1 b_besides_1 b_tideCount_1 b_cartCount_1 b_due_1 b_pairs_1 b_moods_1 hc) (cwV 0 hts (wM_V mw_8_15 mw_8_16 mw_8_17 mw_1_15 mw_8_18) rfl rfl rfl dk_X0_clear ⟨Nat.le_of_ble_eq_true rfl, Nat.le_of_ble_eq_true rfl⟩) hK hP hD hS hA 0 0 rfl rfl rfl [2, 3, 4, 5, 6, 7, 8] [0, 1] [0, 1, 2, 3, 4, 5, 6, 7, 8] (plC_11 cI cZ cII qr qr_text qb qb_pull qb_strength qb_back qb_moods qb_tides qb_carts r_length r_fault r_faultAt r_next r_numberFrom r_text b_law b_places b_broad b_horses b_blinds b_besides b_tideCount b_cartCount b_due b_pairs b_pull b_strength b_back b_moods b_tides b_carts) rfl (plF_11 cI cZ cII qr qr_text qb qb_pull qb_strength qb_back qb_moods qb_tides qb_carts r_length r_fault r_faultAt r_next r_numberFrom r_text b_law b_places b_broad b_horses b_blinds b_besides b_tideCount b_cartCount b_due b_pairs b_pull b_strength b_back b_moods b_tides b_carts b_law_1 b_places_1 b_broad_1 b_horses_1 b_blinds_1 b_besides_1 b_tideCount_1 b_cartCount_1 b_due_1 b_pairs_1 b_pull b_strength b_back b_moods_1 b_tides b_carts) (by decide) rfl hl.1 rfl (Nat.le_of_ble_eq_true rfl) dX4_read_1 ⟨Nat.zero_le _, Nat.zero_le _⟩ (fun H locs hP hD hS => ?_)
  refine lv_aload_n hx hb dX4_read_4 rfl (lv_at hl 0 rfl) ?_
  refine lv_iconst (v := (0 : Int32)) hx hb dX4_read_5 (by decide) ?_
  refine va_put (D := (dC, dI)) (ci := 4) (v := .int (0 : Int32)) (ty := .int) (C := RX4) (T := TX4) (N := 6) hx hb hw inlX4 tyX4 tyX4_ok nmX4 hown hK hP hD hS 0 rfl rfl 2 (by decide) (hw _ mw_8_13) (fun _ h9 => h9) rfl (by decide +kernel) rfl rfl (Nat.le_of_ble_eq_true rfl) dX4_read_6 (fun H locs hP hD hS => ?_)
  have hP : va_P (dC, dI) vwCl (W_X4r_X0b cI cZ cII qr qr_text qb qb_pull qb_strength qb_back qb_moods qb_tides qb_carts r_length (0 : Int32) r_faultAt r_next r_numberFrom r_text b_law_1 b_places_1 b_broad_1 b_horses_1 b_blinds_1 b_besides_1 b_tideCount_1 b_cartCount_1 b_due_1 b_pairs_1 b_pull b_strength b_back b_moods_1 b_tides b_carts) H := hP
  have hD : va_D A (W_X4r_X0b cI cZ cII qr qr_text qb qb_pull qb_strength qb_back qb_moods qb_tides qb_carts r_length (0 : Int32) r_faultAt r_next r_numberFrom r_text b_law_1 b_places_1 b_broad_1 b_horses_1 b_blinds_1 b_besides_1 b_tideCount_1 b_cartCount_1 b_due_1 b_pairs_1 b_pull b_strength b_back b_moods_1 b_tides b_carts) := hD
  refine lv_aload_n hx hb dX4_read_9 rfl (lv_at hl 0 rfl) ?_
  refine lv_iconst (v := (-1 : Int32)) hx hb dX4_read_10 (by decide) ?_
  refine va_put (D := (dC, dI)) (ci := 4) (v := .int (-1 : Int32)) (ty := .int) (C := RX4) (T := TX4) (N := 6) hx hb hw inlX4 tyX4 tyX4_ok nmX4 hown hK hP hD hS 0 rfl rfl 3 (by decide) (hw _ mw_3_14) (fun _ h9 => h9) rfl (by decide +kernel) rfl rfl (Nat.le_of_ble_eq_true rfl) dX4_read_11 (fun H locs hP hD hS => ?_)
  have hP : va_P (dC, dI) vwCl (W_X4r_X0b cI cZ cII qr qr_text qb qb_pull qb_strength qb_back qb_moods qb_tides qb_carts r_length (0 : Int32) (-1 : Int32) r_next r_numberFrom r_text b_law_1 b_places_1 b_broad_1 b_horses_1 b_blinds_1 b_besides_1 b_tideCount_1 b_cartCount_1 b_due_1 b_pairs_1 b_pull b_strength b_back b_moods_1 b_tides b_carts) H := hP
  have hD : va_D A (W_X4r_X0b cI cZ cII qr qr_text qb qb_pull qb_strength qb_back qb_moods qb_tides qb_carts r_length (0 : Int32) (-1 : Int32) r_next r_numberFrom r_text b_law_1 b_places_1 b_broad_1 b_horses_1 b_blinds_1 b_besides_1 b_tideCount_1 b_cartCount_1 b_due_1 b_pairs_1 b_pull b_strength b_back b_moods_1 b_tides b_carts) := hD
  refine lv_aload_n hx hb dX4_read_14 rfl (lv_at hl 0 rfl) ?_
  refine lv_iconst (v := (0 : Int32)) hx hb dX4_read_15 (by decide) ?_
  refine va_put (D := (dC, dI)) (ci := 4) (v := .int (0 : Int32)) (ty := .int) (C := RX4) (T := TX4) (N := 6) hx hb hw inlX4 tyX4 tyX4_ok nmX4 hown hK hP hD hS 0 rfl rfl 4 (by decide) (hw _ mw_8_14) (fun _ h9 => h9) rfl (by decide +kernel) rfl rfl (Nat.le_of_ble_eq_true rfl) dX4_read_16 (fun H locs hP hD hS => ?_)
  have hP : va_P (dC, dI) vwCl (W_X4r_X0b cI cZ cII qr qr_text qb qb_pull qb_strength qb_back qb_moods qb_tides qb_carts r_length (0 : Int32) (-1 : Int32) (0 : Int32) r_numberFrom r_text b_law_1 b_places_1 b_broad_1 b_horses_1 b_blinds_1 b_besides_1 b_tideCount_1 b_cartCount_1 b_due_1 b_pairs_1 b_pull b_strength b_back b_moods_1 b_tides b_carts) H := hP
  have hD : va_D A (W_X4r_X0b cI cZ cII qr qr_text qb qb_pull qb_strength qb_back qb_moods qb_tides qb_carts r_length (0 : Int32) (-1 : Int32) (0 : Int32) r_numberFrom r_text b_law_1 b_places_1 b_broad_1 b_horses_1 b_blinds_1 b_besides_1 b_tideCount_1 b_cartCount_1 b_due_1 b_pairs_1 b_pull b_strength b_back b_moods_1 b_tides b_carts) := hD
  refine lv_iconst (v := (0 : Int32)) hx hb dX4_read_19 (by decide) ?_
  refine lv_istore_n (lv' := [(2, .int (0 : Int32)), (0, .ref qr), (1, .ref qb)]) hx hb dX4_read_20 rfl hl (by decide) rfl (fun ls hl => ?_)
  obtain ⟨K64_2, hK64_2, hf⟩ := jn20_s hf
  have WK64_2 : ∀ (r_fault_2 : Int32) (r_faultAt_2 : Int32) (r_next_2 : Int32) (r_numberFrom_2 : Int32) (b_law_2 : Int32) (b_places_2 : Int32) (b_broad_2 : Int32) (b_horses_2 : Int32) (b_blinds_2 : Int32) (b_besides_2 : Int32) (b_tideCount_2 : Int32) (b_cartCount_2 : Int32) (b_due_2 : Int32) (b_pairs_2 : Int64) (b_pull_2 : Nat → Int32) (b_strength_2 : Nat → Int32) (b_back_2 : Nat → Int32) (b_moods_2 : Nat → Int32) (b_tides_2 : Nat → Int32) (b_carts_2 : Nat → Int32) (H : Heap) (locs : List Loc) (ls : Array Slot), va_P (dC, dI) vwCl (W_X4r_X0b cI cZ cII qr qr_text qb qb_pull qb_strength qb_back qb_moods qb_tides qb_carts r_length r_fault_2 r_faultAt_2 r_next_2 r_numberFrom_2 r_text b_law_2 b_places_2 b_broad_2 b_horses_2 b_blinds_2 b_besides_2 b_tideCount_2 b_cartCount_2 b_due_2 b_pairs_2 b_pull_2 b_strength_2 b_back_2 b_moods_2 b_tides_2 b_carts_2) H → va_D A (W_X4r_X0b cI cZ cII qr qr_text qb qb_pull qb_strength qb_back qb_moods qb_tides qb_carts r_length r_fault_2 r_faultAt_2 r_next_2 r_numberFrom_2 r_text b_law_2 b_places_2 b_broad_2 b_horses_2 b_blinds_2 b_besides_2 b_tideCount_2 b_cartCount_2 b_due_2 b_pairs_2 b_pull_2 b_strength_2 b_back_2 b_moods_2 b_tides_2 b_carts_2) → va_S A s.heap H locs → lv_has ls 3 [(0, .ref qr)] → K64_2 r_fault_2 r_faultAt_2 r_next_2 r_numberFrom_2 b_law_2 b_places_2 b_broad_2 b_horses_2 b_blinds_2 b_besides_2 b_tideCount_2 b_cartCount_2 b_due_2 b_pairs_2 b_pull_2 b_strength_2 b_back_2 b_moods_2 b_tides_2 b_carts_2 = some (rr, r_fault', r_faultAt', r_next', r_numberFrom', b_law', b_places', b_broad', b_horses', b_blinds', b_besides', b_tideCount', b_cartCount', b_due', b_pairs', b_pull', b_strength', b_back', b_moods', b_tides', b_carts') → W p l e rm_X4_read s m args below meth c H locs 0 0 Q (F0 m 64 ls []) := by
    intro r_fault_2 r_faultAt_2 r_next_2 r_numberFrom_2 b_law_2 b_places_2 b_broad_2 b_horses_2 b_blinds_2 b_besides_2 b_tideCount_2 b_cartCount_2 b_due_2 b_pairs_2 b_pull_2 b_strength_2 b_back_2 b_moods_2 b_tides_2 b_carts_2 H locs ls hP hD hS hl hf
    have hf := hK64_2 _ _ _ _ _ _ _ _ _ _ _ _ _ _ _ _ _ _ _ _ hf
    refine lv_aload_n hx hb dX4_read_64 rfl (lv_at hl 0 rfl) ?_
    refine va_get (D := (dC, dI)) (ci := 4) (v := .int r_fault_2) (C := RX4) (T := TX4) (N := 6) hx hb hw inlX4 hown hK hP 0 rfl rfl 2 (by decide) (hw _ mw_8_13) (fun _ h9 => h9) rfl dX4_read_65 ?_
    refine lv_if_ne (tgt := 75) hx hb dX4_read_68 (by decide) (fun h9 => ?_) (fun h9 => ?_)
    · have hf := pg_f h9 hf
      refine lv_iconst (v := (0 : Int32)) hx hb dX4_read_75 (by decide) ?_
      exact RET _ _ _ _ _ _ _ _ _ _ _ _ _ _ _ _ _ _ _ _ _ _ _ _ _ dX4_read_76 (by decide) hP hD hS hf
    · have hf := pg_t h9 hf
      refine lv_iconst (v := (1 : Int32)) hx hb dX4_read_71 (by decide) ?_
      refine lv_goto (tgt := 76) hx hb dX4_read_72 (by decide) ?_
      exact RET _ _ _ _ _ _ _ _ _ _ _ _ _ _ _ _ _ _ _ _ _ _ _ _ _ dX4_read_76 (by decide) hP hD hS hf
  obtain ⟨B3, hB3, hf⟩ := lq21_n hf
  have WL3 : ∀ (n9 : Nat) (y2_3 : Int32) (r_fault_3 : Int32) (r_faultAt_3 : Int32) (r_next_3 : Int32) (r_numberFrom_3 : Int32) (b_law_3 : Int32) (b_places_3 : Int32) (b_broad_3 : Int32) (b_horses_3 : Int32) (b_blinds_3 : Int32) (b_besides_3 : Int32) (b_tideCount_3 : Int32) (b_cartCount_3 : Int32) (b_due_3 : Int32) (b_pairs_3 : Int64) (b_pull_3 : Nat → Int32) (b_strength_3 : Nat → Int32) (b_back_3 : Nat → Int32) (b_moods_3 : Nat → Int32) (b_tides_3 : Nat → Int32) (b_carts_3 : Nat → Int32) (H : Heap) (locs : List Loc) (ls : Array Slot), va_P (dC, dI) vwCl (W_X4r_X0b cI cZ cII qr qr_text qb qb_pull qb_strength qb_back qb_moods qb_tides qb_carts r_length r_fault_3 r_faultAt_3 r_next_3 r_numberFrom_3 r_text b_law_3 b_places_3 b_broad_3 b_horses_3 b_blinds_3 b_besides_3 b_tideCount_3 b_cartCount_3 b_due_3 b_pairs_3 b_pull_3 b_strength_3 b_back_3 b_moods_3 b_tides_3 b_carts_3) H → va_D A (W_X4r_X0b cI cZ cII qr qr_text qb qb_pull qb_strength qb_back qb_moods qb_tides qb_carts r_length r_fault_3 r_faultAt_3 r_next_3 r_numberFrom_3 r_text b_law_3 b_places_3 b_broad_3 b_horses_3 b_blinds_3 b_besides_3 b_tideCount_3 b_cartCount_3 b_due_3 b_pairs_3 b_pull_3 b_strength_3 b_back_3 b_moods_3 b_tides_3 b_carts_3) → va_S A s.heap H locs → lv_has ls 3 [(0, .ref qr), (1, .ref qb), (2, .int y2_3)] → lq21 B3 n9 y2_3 r_fault_3 r_faultAt_3 r_next_3 r_numberFrom_3 b_law_3 b_places_3 b_broad_3 b_horses_3 b_blinds_3 b_besides_3 b_tideCount_3 b_cartCount_3 b_due_3 b_pairs_3 b_pull_3 b_strength_3 b_back_3 b_moods_3 b_tides_3 b_carts_3 = some (rr, r_fault', r_faultAt', r_next', r_numberFrom', b_law', b_places', b_broad', b_horses', b_blinds', b_besides', b_tideCount', b_cartCount', b_due', b_pairs', b_pull', b_strength', b_back', b_moods', b_tides', b_carts') → W p l e rm_X4_read s m args below meth c H locs 0 0 Q (F0 m 21 ls []) := by
    intro n9
    induction n9 with
    | zero => intro y2_3 r_fault_3 r_faultAt_3 r_next_3 r_numberFrom_3 b_law_3 b_places_3 b_broad_3 b_horses_3 b_blinds_3 b_besides_3 b_tideCount_3 b_cartCount_3 b_due_3 b_pairs_3 b_pull_3 b_strength_3 b_back_3 b_moods_3 b_tides_3 b_carts_3 H locs ls hP hD hS hl hf; cases hf
    | succ n9 ih =>
      intro y2_3 r_fault_3 r_faultAt_3 r_next_3 r_numberFrom_3 b_law_3 b_places_3 b_broad_3 b_horses_3 b_blinds_3 b_besides_3 b_tideCount_3 b_cartCount_3 b_due_3 b_pairs_3 b_pull_3 b_strength_3 b_back_3 b_moods_3 b_tides_3 b_carts_3 H locs ls hP hD hS hl hf
      obtain ⟨rec3, hrec3, hf⟩ := lq21_s hf
      have hf := hB3 rec3 _ _ _ _ _ _ _ _ _ _ _ _ _ _ _ _ _ _ _ _ _ hf
      refine lv_iload_n hx hb dX4_read_21 rfl (lv_at hl 2 rfl) ?_
      refine lv_sipush (v := (500 : Int32)) hx hb dX4_read_22 (by decide) ?_
      refine lv_icmp_ge (tgt := 64) hx hb dX4_read_25 (by decide) (fun h9 => ?_) (fun h9 => ?_)
      · have hf := pg_t h9 hf
        exact WK64_2 _ _ _ _ _ _ _ _ _ _ _ _ _ _ _ _ _ _ _ _ _ _ _ hP hD hS (lv_sub hl [0] rfl) hf
      · have hf := pg_f h9 hf
        refine lv_aload_n hx hb dX4_read_28 rfl (lv_at hl 0 rfl) ?_
        refine va_get (D := (dC, dI)) (ci := 4) (v := .int r_fault_3) (C := RX4) (T := TX4) (N := 6) hx hb hw inlX4 hown hK hP 0 rfl rfl 2 (by decide) (hw _ mw_8_13) (fun _ h9 => h9) rfl dX4_read_29 ?_
        refine lv_if_ne (tgt := 64) hx hb dX4_read_32 (by decide) (fun h9 => ?_) (fun h9 => ?_)
        · have hf := pg_f h9 hf
          exact WK64_2 _ _ _ _ _ _ _ _ _ _ _ _ _ _ _ _ _ _ _ _ _ _ _ hP hD hS (lv_sub hl [0] rfl) hf
        · have hf := pg_t h9 hf
          refine lv_aload_n hx hb dX4_read_35 rfl (lv_at hl 0 rfl) ?_
          obtain ⟨r_next_4, hc, hf⟩ := bn1_s hf
          refine pg_cVv (As := []) (rest := []) (wf := (W_X4r_X0b cI cZ cII qr qr_text qb qb_pull qb_strength qb_back qb_moods qb_tides qb_carts r_length r_fault_3 r_faultAt_3 r_next_4 r_numberFrom_3 r_text b_law_3 b_places_3 b_broad_3 b_horses_3 b_blinds_3 b_besides_3 b_tideCount_3 b_cartCount_3 b_due_3 b_pairs_3 b_pull_3 b_strength_3 b_back_3 b_moods_3 b_tides_3 b_carts_3)) ⟨hx, hb, hml, hown, hw⟩ (c_X4_skipBlanks l dC dI cI cZ cII qr qr_text H.size r_length r_fault_3 r_faultAt_3 r_next_3 r_numberFrom_3 r_text  r_next_4 hc) (cwV 0 hts (wM_V mw_9_6 mw_9_7 mw_9_8 mw_1_20 mw_9_9) rfl rfl rfl dk_X4_skipBlanks ⟨Nat.le_of_ble_eq_true rfl, Nat.le_of_ble_eq_true rfl⟩) hK hP hD hS hA 4 0 rfl rfl rfl [0, 1] [2, 3, 4, 5, 6, 7, 8] [7, 8, 0, 1, 2, 3, 4, 5, 6] (plC_10 cI cZ cII qr qr_text qb qb_pull qb_strength qb_back qb_moods qb_tides qb_carts r_length r_fault_3 r_faultAt_3 r_next_3 r_numberFrom_3 r_text b_law_3 b_places_3 b_broad_3 b_horses_3 b_blinds_3 b_besides_3 b_tideCount_3 b_cartCount_3 b_due_3 b_pairs_3 b_pull_3 b_strength_3 b_back_3 b_moods_3 b_tides_3 b_carts_3) rfl (plF_10 cI cZ cII qr qr_text qb qb_pull qb_strength qb_back qb_moods qb_tides qb_carts r_length r_fault_3 r_faultAt_3 r_next_3 r_numberFrom_3 r_text b_law_3 b_places_3 b_broad_3 b_horses_3 b_blinds_3 b_besides_3 b_tideCount_3 b_cartCount_3 b_due_3 b_pairs_3 b_pull_3 b_strength_3 b_back_3 b_moods_3 b_tides_3 b_carts_3 r_length r_fault_3 r_faultAt_3 r_next_4 r_numberFrom_3 r_text) (by decide) rfl hl.1 rfl (Nat.le_of_ble_eq_true rfl) dX4_read_36 ⟨Nat.zero_le _, Nat.zero_le _⟩ (fun H locs hP hD hS => ?_)
          refine lv_aload_n hx hb dX4_read_39 rfl (lv_at hl 0 rfl) ?_
          refine va_get (D := (dC, dI)) (ci := 4) (v := .int r_next_4) (C := RX4) (T := TX4) (N := 6) hx hb hw inlX4 hown hK hP 0 rfl rfl 4 (by decide) (hw _ mw_8_14) (fun _ h9 => h9) rfl dX4_read_40 ?_
          refine lv_aload_n hx hb dX4_read_43 rfl (lv_at hl 0 rfl) ?_
          refine va_get (D := (dC, dI)) (ci := 4) (v := .int r_length) (C := RX4) (T := TX4) (N := 6) hx hb hw inlX4 hown hK hP 0 rfl rfl 1 (by decide) (hw _ mw_7_14) (fun _ h9 => h9) rfl dX4_read_44 ?_
          refine lv_icmp_lt (tgt := 53) hx hb dX4_read_47 (by decide) (fun h9 => ?_) (fun h9 => ?_)
          · have hf := pg_t h9 hf
            refine lv_aload_n hx hb dX4_read_53 rfl (lv_at hl 0 rfl) ?_
            refine lv_aload_n hx hb dX4_read_54 rfl (lv_at hl 1 rfl) ?_
            obtain ⟨r_fault_5, r_faultAt_5, r_next_5, r_numberFrom_5, b_law_5, b_places_5, b_broad_5, b_horses_5, b_blinds_5, b_besides_5, b_tideCount_5, b_cartCount_5, b_due_5, b_pairs_5, b_pull_5, b_strength_5, b_back_5, b_moods_5, b_tides_5, b_carts_5, hc, hf⟩ := bn20_s hf
            refine pg_sVv (As := [.ref qb]) (rest := []) (wf := (W_X4r_X0b cI cZ cII qr qr_text qb qb_pull qb_strength qb_back qb_moods qb_tides qb_carts r_length r_fault_5 r_faultAt_5 r_next_5 r_numberFrom_5 r_text b_law_5 b_places_5 b_broad_5 b_horses_5 b_blinds_5 b_besides_5 b_tideCount_5 b_cartCount_5 b_due_5 b_pairs_5 b_pull_5 b_strength_5 b_back_5 b_moods_5 b_tides_5 b_carts_5)) hE ⟨hx, hb, hml, hown, hw⟩ (c_X4_readClause l dC dI cI cZ cII adK adV qr qr_text qb qb_pull qb_strength qb_back qb_moods qb_tides qb_carts H.size r_length r_fault_3 r_faultAt_3 r_next_4 r_numberFrom_3 r_text b_law_3 b_places_3 b_broad_3 b_horses_3 b_blinds_3 b_besides_3 b_tideCount_3 b_cartCount_3 b_due_3 b_pairs_3 b_pull_3 b_strength_3 b_back_3 b_moods_3 b_tides_3 b_carts_3  r_fault_5 r_faultAt_5 r_next_5 r_numberFrom_5 b_law_5 b_places_5 b_broad_5 b_horses_5 b_blinds_5 b_besides_5 b_tideCount_5 b_cartCount_5 b_due_5 b_pairs_5 b_pull_5 b_strength_5 b_back_5 b_moods_5 b_tides_5 b_carts_5 hc) (cwV 1 hts (wM_V mw_9_10 mw_9_11 mw_9_12 mw_1_20 mw_9_13) rfl rfl rfl dk_X4_readClause ⟨Nat.le_of_ble_eq_true rfl, Nat.le_of_ble_eq_true rfl⟩) hK hP hD hS hA 4 0 rfl rfl rfl [0, 1, 2, 3, 4, 5, 6, 7, 8] [] [0, 1, 2, 3, 4, 5, 6, 7, 8] (plC_12 cI cZ cII qr qr_text qb qb_pull qb_strength qb_back qb_moods qb_tides qb_carts r_length r_fault_3 r_faultAt_3 r_next_4 r_numberFrom_3 r_text b_law_3 b_places_3 b_broad_3 b_horses_3 b_blinds_3 b_besides_3 b_tideCount_3 b_cartCount_3 b_due_3 b_pairs_3 b_pull_3 b_strength_3 b_back_3 b_moods_3 b_tides_3 b_carts_3) rfl (plF_12 cI cZ cII qr qr_text qb qb_pull qb_strength qb_back qb_moods qb_tides qb_carts r_length r_fault_3 r_faultAt_3 r_next_4 r_numberFrom_3 r_text b_law_3 b_places_3 b_broad_3 b_horses_3 b_blinds_3 b_besides_3 b_tideCount_3 b_cartCount_3 b_due_3 b_pairs_3 b_pull_3 b_strength_3 b_back_3 b_moods_3 b_tides_3 b_carts_3 r_length r_fault_5 r_faultAt_5 r_next_5 r_numberFrom_5 r_text b_law_5 b_places_5 b_broad_5 b_horses_5 b_blinds_5 b_besides_5 b_tideCount_5 b_cartCount_5 b_due_5 b_pairs_5 b_pull_5 b_strength_5 b_back_5 b_moods_5 b_tides_5 b_carts_5) (by decide) rfl hl.1 rfl (Nat.le_of_ble_eq_true rfl) dX4_read_55 ⟨Nat.zero_le _, Nat.zero_le _⟩ (fun H locs hP hD hS => ?_)
            refine lv_iinc (v := (y2_3 + (1 : Int32))) (lv' := [(2, .int (y2_3 + (1 : Int32))), (0, .ref qr), (1, .ref qb)]) hx hb dX4_read_58 hl (k := 2) rfl rfl (by decide) rfl (fun ls hl => ?_)
            refine lv_goto (tgt := 21) hx hb dX4_read_61 (by decide) ?_
            exact ih _ _ _ _ _ _ _ _ _ _ _ _ _ _ _ _ _ _ _ _ _ _ _ _ hP hD hS (lv_sub hl [1, 2, 0] rfl) (hrec3 _ _ _ _ _ _ _ _ _ _ _ _ _ _ _ _ _ _ _ _ _ hf)
          · have hf := pg_f h9 hf
            refine lv_goto (tgt := 64) hx hb dX4_read_50 (by decide) ?_
            exact WK64_2 _ _ _ _ _ _ _ _ _ _ _ _ _ _ _ _ _ _ _ _ _ _ _ hP hD hS (lv_sub hl [0] rfl) hf
  exact WL3 fu _ _ _ _ _ _ _ _ _ _ _ _ _ _ _ _ _ _ _ _ _ _ _ _ hP hD hS (lv_sub hl [1, 2, 0] rfl) hf
