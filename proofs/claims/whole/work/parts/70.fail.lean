/-! THE REFERENCE, where a number is out of range -/
set_option maxHeartbeats 8000000 in
set_option maxRecDepth 100000 in
theorem f_R_constant (l : Launch) (dC : Nat → ClassId) (dI : Nat → Nat → Nat) (cZ : ClassId) (y : Nat → Nat) (fa : Int32) (F : Nat → Nat → Bool) (g h : Nat → Bool) (sz : Nat) (x1 x2 : Int32) (hno : ¬ (okb x1 32)) : Met l y_R_constant (.code y_R_constant b_R_constant 4 none :: W0) ({ frames := 2, cells := 0, slots := 0, locals := 70 } : Room) (va_Pc [.ref (y 0), .int x1, .int x2] (dM dC dI cZ y fa F g h sz)) (va_Qv (fun _ : (Nat → Bool) × (Nat → Bool) => True) (fun u t => dE dC dI cZ y 1 F u.1 u.2 (va_A (dW cZ y fa F g h) sz) t) (va_A (dW cZ y fa F g h) sz)) 0 0 (va_A (dW cZ y fa F g h) sz) := by
  refine Met.ofW (cc := b_R_constant) (maxL := 4) (ret := none) (by decide) rfl ?_
  intro p e s m args below meth c s₁ B hml hv
  obtain ⟨rfl, hsz, hP, hK, hD0⟩ := hv
  have hx := B.exec
  have hb := B.bytes
  have hr := B.returns
  have hts1 := atoms_spec (ws := .code y_R_constant b_R_constant 4 none :: W0) B.pre
  have hts : ∀ w ∈ W0, w.before _ s = true := fun w h => hts1 w (List.mem_cons_of_mem _ h)
  have hown : s.vm.findClass R_R = some m.cls := findClass_of_methodNamed B.named
  have hlocks := B.notSynchronized
  subst hsz
  have hD := hD0.self (sz := s.heap.size)
  generalize hAe : va_A (dW cZ y fa F g h) s.heap.size = A at hD ⊢
  have hA : ∀ q : Nat, s.heap.size ≤ q → A q := fun q h => by rw [← hAe]; exact Or.inr h
  have hS : va_S A s.heap s.heap [] := va_S.rf
  have hP : va_P (dC, dI) cls0 (dW cZ y fa F g h) s.heap := hP
  have hl := lv_entry ([.ref (y 0), .int x1, .int x2]) (n := 4) (Nat.le_of_ble_eq_true rfl)
  rw [lg_entry_eq]
  generalize (lg_sl ([.ref (y 0), .int x1, .int x2]) ++ List.replicate (4 - (lg_sl ([.ref (y 0), .int x1, .int x2])).length) Slot.unset).toArray = ls at hl ⊢
  have hl : lv_has ls 4 [(0, .ref (y 0)), (1, .int x1), (2, .int x2)] := hl
  refine lv_aload_n hx hb d_R_constant_0 rfl (lv_at hl 0 rfl) ?_
  refine lv_iconst (v := 0) hx hb d_R_constant_1 (by decide) ?_
  refine dPut hx hb hts hown hK hP hD hS d_R_constant_2 (fun H locs hP hD hS => ?_)
  refine lv_aload_n hx hb d_R_constant_5 rfl (lv_at hl 0 rfl) ?_
  refine lv_iload_n hx hb d_R_constant_6 rfl (lv_at hl 1 rfl) ?_
  refine lv_bipush (v := 32) hx hb d_R_constant_7 (by decide) ?_
  by_cases k9 : okb x1 32
  · refine dRR (As := [.int x1, .int 32]) (rest := []) ⟨hx, hb, hml, hown, hts⟩ (c_R_out0 l dC dI cZ y 0 F g h x1 32 k9) (cwV 2 hts (gV kml_R_24 kim_R_out ksl_R_out kin_R kcd_R_out) rfl rfl rfl (by decide +kernel) ⟨by show 0 + 1 ≤ 2; omega, by show 8 + (3 + 11) + 0 ≤ 70; omega⟩) hP hK rfl hl.1 rfl (Nat.le_of_ble_eq_true rfl) d_R_constant_9 ⟨Nat.zero_le _, Nat.zero_le _⟩ ?_
    exact absurd k9 hno
  · refine dRR (As := [.int x1, .int 32]) (rest := []) ⟨hx, hb, hml, hown, hts⟩ (c_R_out1 l dC dI cZ y 0 F g h x1 32 k9) (cwV 2 hts (gV kml_R_24 kim_R_out ksl_R_out kin_R kcd_R_out) rfl rfl rfl (by decide +kernel) ⟨by show 0 + 1 ≤ 2; omega, by show 8 + (3 + 11) + 0 ≤ 70; omega⟩) hP hK rfl hl.1 rfl (Nat.le_of_ble_eq_true rfl) d_R_constant_9 ⟨Nat.zero_le _, Nat.zero_le _⟩ ?_
    refine lv_if_eq (tgt := 23) hx hb d_R_constant_12 (by decide) (fun c12 => ?_) (fun c12 => ?_)
    · exact absurd c12 (by decide)
    · refine lv_aload_n hx hb d_R_constant_15 rfl (lv_at hl 0 rfl) ?_
      refine lv_iconst (v := 1) hx hb d_R_constant_16 (by decide) ?_
      refine dPut hx hb hts hown hK hP hD hS d_R_constant_17 (fun H locs hP hD hS => ?_)
      refine lv_goto (tgt := 51) hx hb d_R_constant_20 (by decide) ?_
      exact W.vret hx hb hr (fun t ht hW => ⟨⟨(g, h), rfl, trivial, by rw [ht]; exact hP, va_K.moved hW.alike hK, hD⟩, hS.F ht⟩) hS.2.2 d_R_constant_51

set_option maxHeartbeats 8000000 in
set_option maxRecDepth 100000 in
theorem f_R_variable (l : Launch) (dC : Nat → ClassId) (dI : Nat → Nat → Nat) (cZ : ClassId) (y : Nat → Nat) (fa : Int32) (F : Nat → Nat → Bool) (g h : Nat → Bool) (sz : Nat) (x1 x2 : Int32) (hno : ¬ (okb x1 32 ∧ okb x2 12)) : Met l y_R_variable (.code y_R_variable b_R_variable 4 none :: W0) ({ frames := 2, cells := 0, slots := 0, locals := 70 } : Room) (va_Pc [.ref (y 0), .int x1, .int x2] (dM dC dI cZ y fa F g h sz)) (va_Qv (fun _ : (Nat → Bool) × (Nat → Bool) => True) (fun u t => dE dC dI cZ y 1 F u.1 u.2 (va_A (dW cZ y fa F g h) sz) t) (va_A (dW cZ y fa F g h) sz)) 0 0 (va_A (dW cZ y fa F g h) sz) := by
  refine Met.ofW (cc := b_R_variable) (maxL := 4) (ret := none) (by decide) rfl ?_
  intro p e s m args below meth c s₁ B hml hv
  obtain ⟨rfl, hsz, hP, hK, hD0⟩ := hv
  have hx := B.exec
  have hb := B.bytes
  have hr := B.returns
  have hts1 := atoms_spec (ws := .code y_R_variable b_R_variable 4 none :: W0) B.pre
  have hts : ∀ w ∈ W0, w.before _ s = true := fun w h => hts1 w (List.mem_cons_of_mem _ h)
  have hown : s.vm.findClass R_R = some m.cls := findClass_of_methodNamed B.named
  have hlocks := B.notSynchronized
  subst hsz
  have hD := hD0.self (sz := s.heap.size)
  generalize hAe : va_A (dW cZ y fa F g h) s.heap.size = A at hD ⊢
  have hA : ∀ q : Nat, s.heap.size ≤ q → A q := fun q h => by rw [← hAe]; exact Or.inr h
  have hS : va_S A s.heap s.heap [] := va_S.rf
  have hP : va_P (dC, dI) cls0 (dW cZ y fa F g h) s.heap := hP
  have hl := lv_entry ([.ref (y 0), .int x1, .int x2]) (n := 4) (Nat.le_of_ble_eq_true rfl)
  rw [lg_entry_eq]
  generalize (lg_sl ([.ref (y 0), .int x1, .int x2]) ++ List.replicate (4 - (lg_sl ([.ref (y 0), .int x1, .int x2])).length) Slot.unset).toArray = ls at hl ⊢
  have hl : lv_has ls 4 [(0, .ref (y 0)), (1, .int x1), (2, .int x2)] := hl
  refine lv_aload_n hx hb d_R_variable_0 rfl (lv_at hl 0 rfl) ?_
  refine lv_iconst (v := 0) hx hb d_R_variable_1 (by decide) ?_
  refine dPut hx hb hts hown hK hP hD hS d_R_variable_2 (fun H locs hP hD hS => ?_)
  refine lv_aload_n hx hb d_R_variable_5 rfl (lv_at hl 0 rfl) ?_
  refine lv_iload_n hx hb d_R_variable_6 rfl (lv_at hl 1 rfl) ?_
  refine lv_bipush (v := 32) hx hb d_R_variable_7 (by decide) ?_
  by_cases k9 : okb x1 32
  · refine dRR (As := [.int x1, .int 32]) (rest := []) ⟨hx, hb, hml, hown, hts⟩ (c_R_out0 l dC dI cZ y 0 F g h x1 32 k9) (cwV 2 hts (gV kml_R_24 kim_R_out ksl_R_out kin_R kcd_R_out) rfl rfl rfl (by decide +kernel) ⟨by show 0 + 1 ≤ 2; omega, by show 8 + (3 + 11) + 0 ≤ 70; omega⟩) hP hK rfl hl.1 rfl (Nat.le_of_ble_eq_true rfl) d_R_variable_9 ⟨Nat.zero_le _, Nat.zero_le _⟩ ?_
    refine lv_if_ne (tgt := 25) hx hb d_R_variable_12 (by decide) (fun c12 => ?_) (fun c12 => ?_)
    · exact absurd (by decide) c12
    · refine lv_aload_n hx hb d_R_variable_15 rfl (lv_at hl 0 rfl) ?_
      refine lv_iload_n hx hb d_R_variable_16 rfl (lv_at hl 2 rfl) ?_
      refine lv_bipush (v := 12) hx hb d_R_variable_17 (by decide) ?_
      by_cases k19 : okb x2 12
      · refine dRR (As := [.int x2, .int 12]) (rest := []) ⟨hx, hb, hml, hown, hts⟩ (c_R_out0 l dC dI cZ y 0 F g h x2 12 k19) (cwV 2 hts (gV kml_R_24 kim_R_out ksl_R_out kin_R kcd_R_out) rfl rfl rfl (by decide +kernel) ⟨by show 0 + 1 ≤ 2; omega, by show 8 + (3 + 11) + 0 ≤ 70; omega⟩) hP hK rfl hl.1 rfl (Nat.le_of_ble_eq_true rfl) d_R_variable_19 ⟨Nat.zero_le _, Nat.zero_le _⟩ ?_
        exact absurd ⟨k9, k19⟩ hno
      · refine dRR (As := [.int x2, .int 12]) (rest := []) ⟨hx, hb, hml, hown, hts⟩ (c_R_out1 l dC dI cZ y 0 F g h x2 12 k19) (cwV 2 hts (gV kml_R_24 kim_R_out ksl_R_out kin_R kcd_R_out) rfl rfl rfl (by decide +kernel) ⟨by show 0 + 1 ≤ 2; omega, by show 8 + (3 + 11) + 0 ≤ 70; omega⟩) hP hK rfl hl.1 rfl (Nat.le_of_ble_eq_true rfl) d_R_variable_19 ⟨Nat.zero_le _, Nat.zero_le _⟩ ?_
        refine lv_if_eq (tgt := 33) hx hb d_R_variable_22 (by decide) (fun c22 => ?_) (fun c22 => ?_)
        · exact absurd c22 (by decide)
        · refine lv_aload_n hx hb d_R_variable_25 rfl (lv_at hl 0 rfl) ?_
          refine lv_iconst (v := 1) hx hb d_R_variable_26 (by decide) ?_
          refine dPut hx hb hts hown hK hP hD hS d_R_variable_27 (fun H locs hP hD hS => ?_)
          refine lv_goto (tgt := 74) hx hb d_R_variable_30 (by decide) ?_
          exact W.vret hx hb hr (fun t ht hW => ⟨⟨(g, h), rfl, trivial, by rw [ht]; exact hP, va_K.moved hW.alike hK, hD⟩, hS.F ht⟩) hS.2.2 d_R_variable_74
  · refine dRR (As := [.int x1, .int 32]) (rest := []) ⟨hx, hb, hml, hown, hts⟩ (c_R_out1 l dC dI cZ y 0 F g h x1 32 k9) (cwV 2 hts (gV kml_R_24 kim_R_out ksl_R_out kin_R kcd_R_out) rfl rfl rfl (by decide +kernel) ⟨by show 0 + 1 ≤ 2; omega, by show 8 + (3 + 11) + 0 ≤ 70; omega⟩) hP hK rfl hl.1 rfl (Nat.le_of_ble_eq_true rfl) d_R_variable_9 ⟨Nat.zero_le _, Nat.zero_le _⟩ ?_
    refine lv_if_ne (tgt := 25) hx hb d_R_variable_12 (by decide) (fun c12 => ?_) (fun c12 => ?_)
    · refine lv_aload_n hx hb d_R_variable_25 rfl (lv_at hl 0 rfl) ?_
      refine lv_iconst (v := 1) hx hb d_R_variable_26 (by decide) ?_
      refine dPut hx hb hts hown hK hP hD hS d_R_variable_27 (fun H locs hP hD hS => ?_)
      refine lv_goto (tgt := 74) hx hb d_R_variable_30 (by decide) ?_
      exact W.vret hx hb hr (fun t ht hW => ⟨⟨(g, h), rfl, trivial, by rw [ht]; exact hP, va_K.moved hW.alike hK, hD⟩, hS.F ht⟩) hS.2.2 d_R_variable_74
    · exact absurd c12 (by decide)

set_option maxHeartbeats 8000000 in
set_option maxRecDepth 100000 in
theorem f_R_choose (l : Launch) (dC : Nat → ClassId) (dI : Nat → Nat → Nat) (cZ : ClassId) (y : Nat → Nat) (fa : Int32) (F : Nat → Nat → Bool) (g h : Nat → Bool) (sz : Nat) (x1 x2 x3 x4 : Int32) (hno : ¬ (okb x1 32 ∧ okb x2 32 ∧ okb x3 32 ∧ okb x4 32)) : Met l y_R_choose (.code y_R_choose b_R_choose 6 (some .boolean) :: W0) ({ frames := 2, cells := 0, slots := 0, locals := 70 } : Room) (va_Pc [.ref (y 0), .int x1, .int x2, .int x3, .int x4] (dM dC dI cZ y fa F g h sz)) (va_Qi (fun (x : Int32) (_ : (Nat → Bool) × (Nat → Bool)) => x = 0) (fun u t => dE dC dI cZ y 1 F u.1 u.2 (va_A (dW cZ y fa F g h) sz) t) (va_A (dW cZ y fa F g h) sz)) 0 0 (va_A (dW cZ y fa F g h) sz) := by
  refine Met.ofW (cc := b_R_choose) (maxL := 6) (ret := (some .boolean)) (by decide) rfl ?_
  intro p e s m args below meth c s₁ B hml hv
  obtain ⟨rfl, hsz, hP, hK, hD0⟩ := hv
  have hx := B.exec
  have hb := B.bytes
  have hr := B.returns
  have hts1 := atoms_spec (ws := .code y_R_choose b_R_choose 6 (some .boolean) :: W0) B.pre
  have hts : ∀ w ∈ W0, w.before _ s = true := fun w h => hts1 w (List.mem_cons_of_mem _ h)
  have hown : s.vm.findClass R_R = some m.cls := findClass_of_methodNamed B.named
  have hlocks := B.notSynchronized
  subst hsz
  have hD := hD0.self (sz := s.heap.size)
  generalize hAe : va_A (dW cZ y fa F g h) s.heap.size = A at hD ⊢
  have hA : ∀ q : Nat, s.heap.size ≤ q → A q := fun q h => by rw [← hAe]; exact Or.inr h
  have hS : va_S A s.heap s.heap [] := va_S.rf
  have hP : va_P (dC, dI) cls0 (dW cZ y fa F g h) s.heap := hP
  have hl := lv_entry ([.ref (y 0), .int x1, .int x2, .int x3, .int x4]) (n := 6) (Nat.le_of_ble_eq_true rfl)
  rw [lg_entry_eq]
  generalize (lg_sl ([.ref (y 0), .int x1, .int x2, .int x3, .int x4]) ++ List.replicate (6 - (lg_sl ([.ref (y 0), .int x1, .int x2, .int x3, .int x4])).length) Slot.unset).toArray = ls at hl ⊢
  have hl : lv_has ls 6 [(0, .ref (y 0)), (1, .int x1), (2, .int x2), (3, .int x3), (4, .int x4)] := hl
  refine lv_aload_n hx hb d_R_choose_0 rfl (lv_at hl 0 rfl) ?_
  refine lv_iconst (v := 0) hx hb d_R_choose_1 (by decide) ?_
  refine dPut hx hb hts hown hK hP hD hS d_R_choose_2 (fun H locs hP hD hS => ?_)
  refine lv_aload_n hx hb d_R_choose_5 rfl (lv_at hl 0 rfl) ?_
  refine lv_iload_n hx hb d_R_choose_6 rfl (lv_at hl 1 rfl) ?_
  refine lv_bipush (v := 32) hx hb d_R_choose_7 (by decide) ?_
  by_cases k9 : okb x1 32
  · refine dRR (As := [.int x1, .int 32]) (rest := []) ⟨hx, hb, hml, hown, hts⟩ (c_R_out0 l dC dI cZ y 0 F g h x1 32 k9) (cwV 2 hts (gV kml_R_24 kim_R_out ksl_R_out kin_R kcd_R_out) rfl rfl rfl (by decide +kernel) ⟨by show 0 + 1 ≤ 2; omega, by show 8 + (3 + 11) + 0 ≤ 70; omega⟩) hP hK rfl hl.1 rfl (Nat.le_of_ble_eq_true rfl) d_R_choose_9 ⟨Nat.zero_le _, Nat.zero_le _⟩ ?_
    refine lv_if_ne (tgt := 46) hx hb d_R_choose_12 (by decide) (fun c12 => ?_) (fun c12 => ?_)
    · exact absurd (by decide) c12
    · refine lv_aload_n hx hb d_R_choose_15 rfl (lv_at hl 0 rfl) ?_
      refine lv_iload_n hx hb d_R_choose_16 rfl (lv_at hl 2 rfl) ?_
      refine lv_bipush (v := 32) hx hb d_R_choose_17 (by decide) ?_
      by_cases k19 : okb x2 32
      · refine dRR (As := [.int x2, .int 32]) (rest := []) ⟨hx, hb, hml, hown, hts⟩ (c_R_out0 l dC dI cZ y 0 F g h x2 32 k19) (cwV 2 hts (gV kml_R_24 kim_R_out ksl_R_out kin_R kcd_R_out) rfl rfl rfl (by decide +kernel) ⟨by show 0 + 1 ≤ 2; omega, by show 8 + (3 + 11) + 0 ≤ 70; omega⟩) hP hK rfl hl.1 rfl (Nat.le_of_ble_eq_true rfl) d_R_choose_19 ⟨Nat.zero_le _, Nat.zero_le _⟩ ?_
        refine lv_if_ne (tgt := 46) hx hb d_R_choose_22 (by decide) (fun c22 => ?_) (fun c22 => ?_)
        · exact absurd (by decide) c22
        · refine lv_aload_n hx hb d_R_choose_25 rfl (lv_at hl 0 rfl) ?_
          refine lv_iload_n hx hb d_R_choose_26 rfl (lv_at hl 3 rfl) ?_
          refine lv_bipush (v := 32) hx hb d_R_choose_27 (by decide) ?_
          by_cases k29 : okb x3 32
          · refine dRR (As := [.int x3, .int 32]) (rest := []) ⟨hx, hb, hml, hown, hts⟩ (c_R_out0 l dC dI cZ y 0 F g h x3 32 k29) (cwV 2 hts (gV kml_R_24 kim_R_out ksl_R_out kin_R kcd_R_out) rfl rfl rfl (by decide +kernel) ⟨by show 0 + 1 ≤ 2; omega, by show 8 + (3 + 11) + 0 ≤ 70; omega⟩) hP hK rfl hl.1 rfl (Nat.le_of_ble_eq_true rfl) d_R_choose_29 ⟨Nat.zero_le _, Nat.zero_le _⟩ ?_
            refine lv_if_ne (tgt := 46) hx hb d_R_choose_32 (by decide) (fun c32 => ?_) (fun c32 => ?_)
            · exact absurd (by decide) c32
            · refine lv_aload_n hx hb d_R_choose_35 rfl (lv_at hl 0 rfl) ?_
              refine lv_iload hx hb d_R_choose_36 (lv_at hl 4 rfl) ?_
              refine lv_bipush (v := 32) hx hb d_R_choose_38 (by decide) ?_
              by_cases k40 : okb x4 32
              · refine dRR (As := [.int x4, .int 32]) (rest := []) ⟨hx, hb, hml, hown, hts⟩ (c_R_out0 l dC dI cZ y 0 F g h x4 32 k40) (cwV 2 hts (gV kml_R_24 kim_R_out ksl_R_out kin_R kcd_R_out) rfl rfl rfl (by decide +kernel) ⟨by show 0 + 1 ≤ 2; omega, by show 8 + (3 + 11) + 0 ≤ 70; omega⟩) hP hK rfl hl.1 rfl (Nat.le_of_ble_eq_true rfl) d_R_choose_40 ⟨Nat.zero_le _, Nat.zero_le _⟩ ?_
                exact absurd ⟨k9, k19, k29, k40⟩ hno
              · refine dRR (As := [.int x4, .int 32]) (rest := []) ⟨hx, hb, hml, hown, hts⟩ (c_R_out1 l dC dI cZ y 0 F g h x4 32 k40) (cwV 2 hts (gV kml_R_24 kim_R_out ksl_R_out kin_R kcd_R_out) rfl rfl rfl (by decide +kernel) ⟨by show 0 + 1 ≤ 2; omega, by show 8 + (3 + 11) + 0 ≤ 70; omega⟩) hP hK rfl hl.1 rfl (Nat.le_of_ble_eq_true rfl) d_R_choose_40 ⟨Nat.zero_le _, Nat.zero_le _⟩ ?_
                refine lv_if_eq (tgt := 52) hx hb d_R_choose_43 (by decide) (fun c43 => ?_) (fun c43 => ?_)
                · exact absurd c43 (by decide)
                · refine lv_aload_n hx hb d_R_choose_46 rfl (lv_at hl 0 rfl) ?_
                  refine lv_iconst (v := 1) hx hb d_R_choose_47 (by decide) ?_
                  refine dRi (As := [.int 1]) (rest := []) ⟨hx, hb, hml, hown, hts⟩ (c_R_fail l dC dI cZ y 0 F g h _ 1) (cwV 1 hts (gV kml_R_28 kim_R_fail ksl_R_fail kin_R kcd_R_fail) rfl rfl rfl (by decide +kernel) ⟨by show 0 + 1 ≤ 2; omega, by show 8 + (2 + 11) + 0 ≤ 70; omega⟩) hP hK hD hS hA rfl hl.1 rfl (Nat.le_of_ble_eq_true rfl) d_R_choose_48 ⟨Nat.zero_le _, Nat.zero_le _⟩ (fun H locs hP hD hS => ?_)
                  exact W.zret (ty := .boolean) (v := 0) hx hb hr rfl (fun t ht hW => ⟨⟨0, (g, h), rfl, rfl, by rw [ht]; exact hP, va_K.moved hW.alike hK, hD⟩, hS.F ht⟩) hS.2.2 d_R_choose_51
          · refine dRR (As := [.int x3, .int 32]) (rest := []) ⟨hx, hb, hml, hown, hts⟩ (c_R_out1 l dC dI cZ y 0 F g h x3 32 k29) (cwV 2 hts (gV kml_R_24 kim_R_out ksl_R_out kin_R kcd_R_out) rfl rfl rfl (by decide +kernel) ⟨by show 0 + 1 ≤ 2; omega, by show 8 + (3 + 11) + 0 ≤ 70; omega⟩) hP hK rfl hl.1 rfl (Nat.le_of_ble_eq_true rfl) d_R_choose_29 ⟨Nat.zero_le _, Nat.zero_le _⟩ ?_
            refine lv_if_ne (tgt := 46) hx hb d_R_choose_32 (by decide) (fun c32 => ?_) (fun c32 => ?_)
            · refine lv_aload_n hx hb d_R_choose_46 rfl (lv_at hl 0 rfl) ?_
              refine lv_iconst (v := 1) hx hb d_R_choose_47 (by decide) ?_
              refine dRi (As := [.int 1]) (rest := []) ⟨hx, hb, hml, hown, hts⟩ (c_R_fail l dC dI cZ y 0 F g h _ 1) (cwV 1 hts (gV kml_R_28 kim_R_fail ksl_R_fail kin_R kcd_R_fail) rfl rfl rfl (by decide +kernel) ⟨by show 0 + 1 ≤ 2; omega, by show 8 + (2 + 11) + 0 ≤ 70; omega⟩) hP hK hD hS hA rfl hl.1 rfl (Nat.le_of_ble_eq_true rfl) d_R_choose_48 ⟨Nat.zero_le _, Nat.zero_le _⟩ (fun H locs hP hD hS => ?_)
              exact W.zret (ty := .boolean) (v := 0) hx hb hr rfl (fun t ht hW => ⟨⟨0, (g, h), rfl, rfl, by rw [ht]; exact hP, va_K.moved hW.alike hK, hD⟩, hS.F ht⟩) hS.2.2 d_R_choose_51
            · exact absurd c32 (by decide)
      · refine dRR (As := [.int x2, .int 32]) (rest := []) ⟨hx, hb, hml, hown, hts⟩ (c_R_out1 l dC dI cZ y 0 F g h x2 32 k19) (cwV 2 hts (gV kml_R_24 kim_R_out ksl_R_out kin_R kcd_R_out) rfl rfl rfl (by decide +kernel) ⟨by show 0 + 1 ≤ 2; omega, by show 8 + (3 + 11) + 0 ≤ 70; omega⟩) hP hK rfl hl.1 rfl (Nat.le_of_ble_eq_true rfl) d_R_choose_19 ⟨Nat.zero_le _, Nat.zero_le _⟩ ?_
        refine lv_if_ne (tgt := 46) hx hb d_R_choose_22 (by decide) (fun c22 => ?_) (fun c22 => ?_)
        · refine lv_aload_n hx hb d_R_choose_46 rfl (lv_at hl 0 rfl) ?_
          refine lv_iconst (v := 1) hx hb d_R_choose_47 (by decide) ?_
          refine dRi (As := [.int 1]) (rest := []) ⟨hx, hb, hml, hown, hts⟩ (c_R_fail l dC dI cZ y 0 F g h _ 1) (cwV 1 hts (gV kml_R_28 kim_R_fail ksl_R_fail kin_R kcd_R_fail) rfl rfl rfl (by decide +kernel) ⟨by show 0 + 1 ≤ 2; omega, by show 8 + (2 + 11) + 0 ≤ 70; omega⟩) hP hK hD hS hA rfl hl.1 rfl (Nat.le_of_ble_eq_true rfl) d_R_choose_48 ⟨Nat.zero_le _, Nat.zero_le _⟩ (fun H locs hP hD hS => ?_)
          exact W.zret (ty := .boolean) (v := 0) hx hb hr rfl (fun t ht hW => ⟨⟨0, (g, h), rfl, rfl, by rw [ht]; exact hP, va_K.moved hW.alike hK, hD⟩, hS.F ht⟩) hS.2.2 d_R_choose_51
        · exact absurd c22 (by decide)
  · refine dRR (As := [.int x1, .int 32]) (rest := []) ⟨hx, hb, hml, hown, hts⟩ (c_R_out1 l dC dI cZ y 0 F g h x1 32 k9) (cwV 2 hts (gV kml_R_24 kim_R_out ksl_R_out kin_R kcd_R_out) rfl rfl rfl (by decide +kernel) ⟨by show 0 + 1 ≤ 2; omega, by show 8 + (3 + 11) + 0 ≤ 70; omega⟩) hP hK rfl hl.1 rfl (Nat.le_of_ble_eq_true rfl) d_R_choose_9 ⟨Nat.zero_le _, Nat.zero_le _⟩ ?_
    refine lv_if_ne (tgt := 46) hx hb d_R_choose_12 (by decide) (fun c12 => ?_) (fun c12 => ?_)
    · refine lv_aload_n hx hb d_R_choose_46 rfl (lv_at hl 0 rfl) ?_
      refine lv_iconst (v := 1) hx hb d_R_choose_47 (by decide) ?_
      refine dRi (As := [.int 1]) (rest := []) ⟨hx, hb, hml, hown, hts⟩ (c_R_fail l dC dI cZ y 0 F g h _ 1) (cwV 1 hts (gV kml_R_28 kim_R_fail ksl_R_fail kin_R kcd_R_fail) rfl rfl rfl (by decide +kernel) ⟨by show 0 + 1 ≤ 2; omega, by show 8 + (2 + 11) + 0 ≤ 70; omega⟩) hP hK hD hS hA rfl hl.1 rfl (Nat.le_of_ble_eq_true rfl) d_R_choose_48 ⟨Nat.zero_le _, Nat.zero_le _⟩ (fun H locs hP hD hS => ?_)
      exact W.zret (ty := .boolean) (v := 0) hx hb hr rfl (fun t ht hW => ⟨⟨0, (g, h), rfl, rfl, by rw [ht]; exact hP, va_K.moved hW.alike hK, hD⟩, hS.F ht⟩) hS.2.2 d_R_choose_51
    · exact absurd c12 (by decide)

set_option maxHeartbeats 8000000 in
set_option maxRecDepth 100000 in
theorem f_R_join (l : Launch) (dC : Nat → ClassId) (dI : Nat → Nat → Nat) (cZ : ClassId) (y : Nat → Nat) (fa : Int32) (F : Nat → Nat → Bool) (g h : Nat → Bool) (sz : Nat) (x1 x2 x3 x4 : Int32) (hno : ¬ (okb x1 32 ∧ okb x2 5 ∧ okb x3 32 ∧ okb x4 32)) : Met l y_R_join (.code y_R_join b_R_join 8 (some .boolean) :: W0) ({ frames := 2, cells := 0, slots := 0, locals := 70 } : Room) (va_Pc [.ref (y 0), .int x1, .int x2, .int x3, .int x4] (dM dC dI cZ y fa F g h sz)) (va_Qi (fun (x : Int32) (_ : (Nat → Bool) × (Nat → Bool)) => x = 0) (fun u t => dE dC dI cZ y 1 F u.1 u.2 (va_A (dW cZ y fa F g h) sz) t) (va_A (dW cZ y fa F g h) sz)) 0 0 (va_A (dW cZ y fa F g h) sz) := by
  refine Met.ofW (cc := b_R_join) (maxL := 8) (ret := (some .boolean)) (by decide) rfl ?_
  intro p e s m args below meth c s₁ B hml hv
  obtain ⟨rfl, hsz, hP, hK, hD0⟩ := hv
  have hx := B.exec
  have hb := B.bytes
  have hr := B.returns
  have hts1 := atoms_spec (ws := .code y_R_join b_R_join 8 (some .boolean) :: W0) B.pre
  have hts : ∀ w ∈ W0, w.before _ s = true := fun w h => hts1 w (List.mem_cons_of_mem _ h)
  have hown : s.vm.findClass R_R = some m.cls := findClass_of_methodNamed B.named
  have hlocks := B.notSynchronized
  subst hsz
  have hD := hD0.self (sz := s.heap.size)
  generalize hAe : va_A (dW cZ y fa F g h) s.heap.size = A at hD ⊢
  have hA : ∀ q : Nat, s.heap.size ≤ q → A q := fun q h => by rw [← hAe]; exact Or.inr h
  have hS : va_S A s.heap s.heap [] := va_S.rf
  have hP : va_P (dC, dI) cls0 (dW cZ y fa F g h) s.heap := hP
  have hl := lv_entry ([.ref (y 0), .int x1, .int x2, .int x3, .int x4]) (n := 8) (Nat.le_of_ble_eq_true rfl)
  rw [lg_entry_eq]
  generalize (lg_sl ([.ref (y 0), .int x1, .int x2, .int x3, .int x4]) ++ List.replicate (8 - (lg_sl ([.ref (y 0), .int x1, .int x2, .int x3, .int x4])).length) Slot.unset).toArray = ls at hl ⊢
  have hl : lv_has ls 8 [(0, .ref (y 0)), (1, .int x1), (2, .int x2), (3, .int x3), (4, .int x4)] := hl
  refine lv_aload_n hx hb d_R_join_0 rfl (lv_at hl 0 rfl) ?_
  refine lv_iconst (v := 0) hx hb d_R_join_1 (by decide) ?_
  refine dPut hx hb hts hown hK hP hD hS d_R_join_2 (fun H locs hP hD hS => ?_)
  refine lv_aload_n hx hb d_R_join_5 rfl (lv_at hl 0 rfl) ?_
  refine lv_iload_n hx hb d_R_join_6 rfl (lv_at hl 1 rfl) ?_
  refine lv_bipush (v := 32) hx hb d_R_join_7 (by decide) ?_
  by_cases k9 : okb x1 32
  · refine dRR (As := [.int x1, .int 32]) (rest := []) ⟨hx, hb, hml, hown, hts⟩ (c_R_out0 l dC dI cZ y 0 F g h x1 32 k9) (cwV 2 hts (gV kml_R_24 kim_R_out ksl_R_out kin_R kcd_R_out) rfl rfl rfl (by decide +kernel) ⟨by show 0 + 1 ≤ 2; omega, by show 8 + (3 + 11) + 0 ≤ 70; omega⟩) hP hK rfl hl.1 rfl (Nat.le_of_ble_eq_true rfl) d_R_join_9 ⟨Nat.zero_le _, Nat.zero_le _⟩ ?_
    refine lv_if_ne (tgt := 45) hx hb d_R_join_12 (by decide) (fun c12 => ?_) (fun c12 => ?_)
    · exact absurd (by decide) c12
    · refine lv_aload_n hx hb d_R_join_15 rfl (lv_at hl 0 rfl) ?_
      refine lv_iload_n hx hb d_R_join_16 rfl (lv_at hl 2 rfl) ?_
      refine lv_iconst (v := 5) hx hb d_R_join_17 (by decide) ?_
      by_cases k18 : okb x2 5
      · refine dRR (As := [.int x2, .int 5]) (rest := []) ⟨hx, hb, hml, hown, hts⟩ (c_R_out0 l dC dI cZ y 0 F g h x2 5 k18) (cwV 2 hts (gV kml_R_24 kim_R_out ksl_R_out kin_R kcd_R_out) rfl rfl rfl (by decide +kernel) ⟨by show 0 + 1 ≤ 2; omega, by show 8 + (3 + 11) + 0 ≤ 70; omega⟩) hP hK rfl hl.1 rfl (Nat.le_of_ble_eq_true rfl) d_R_join_18 ⟨Nat.zero_le _, Nat.zero_le _⟩ ?_
        refine lv_if_ne (tgt := 45) hx hb d_R_join_21 (by decide) (fun c21 => ?_) (fun c21 => ?_)
        · exact absurd (by decide) c21
        · refine lv_aload_n hx hb d_R_join_24 rfl (lv_at hl 0 rfl) ?_
          refine lv_iload_n hx hb d_R_join_25 rfl (lv_at hl 3 rfl) ?_
          refine lv_bipush (v := 32) hx hb d_R_join_26 (by decide) ?_
          by_cases k28 : okb x3 32
          · refine dRR (As := [.int x3, .int 32]) (rest := []) ⟨hx, hb, hml, hown, hts⟩ (c_R_out0 l dC dI cZ y 0 F g h x3 32 k28) (cwV 2 hts (gV kml_R_24 kim_R_out ksl_R_out kin_R kcd_R_out) rfl rfl rfl (by decide +kernel) ⟨by show 0 + 1 ≤ 2; omega, by show 8 + (3 + 11) + 0 ≤ 70; omega⟩) hP hK rfl hl.1 rfl (Nat.le_of_ble_eq_true rfl) d_R_join_28 ⟨Nat.zero_le _, Nat.zero_le _⟩ ?_
            refine lv_if_ne (tgt := 45) hx hb d_R_join_31 (by decide) (fun c31 => ?_) (fun c31 => ?_)
            · exact absurd (by decide) c31
            · refine lv_aload_n hx hb d_R_join_34 rfl (lv_at hl 0 rfl) ?_
              refine lv_iload hx hb d_R_join_35 (lv_at hl 4 rfl) ?_
              refine lv_bipush (v := 32) hx hb d_R_join_37 (by decide) ?_
              by_cases k39 : okb x4 32
              · refine dRR (As := [.int x4, .int 32]) (rest := []) ⟨hx, hb, hml, hown, hts⟩ (c_R_out0 l dC dI cZ y 0 F g h x4 32 k39) (cwV 2 hts (gV kml_R_24 kim_R_out ksl_R_out kin_R kcd_R_out) rfl rfl rfl (by decide +kernel) ⟨by show 0 + 1 ≤ 2; omega, by show 8 + (3 + 11) + 0 ≤ 70; omega⟩) hP hK rfl hl.1 rfl (Nat.le_of_ble_eq_true rfl) d_R_join_39 ⟨Nat.zero_le _, Nat.zero_le _⟩ ?_
                exact absurd ⟨k9, k18, k28, k39⟩ hno
              · refine dRR (As := [.int x4, .int 32]) (rest := []) ⟨hx, hb, hml, hown, hts⟩ (c_R_out1 l dC dI cZ y 0 F g h x4 32 k39) (cwV 2 hts (gV kml_R_24 kim_R_out ksl_R_out kin_R kcd_R_out) rfl rfl rfl (by decide +kernel) ⟨by show 0 + 1 ≤ 2; omega, by show 8 + (3 + 11) + 0 ≤ 70; omega⟩) hP hK rfl hl.1 rfl (Nat.le_of_ble_eq_true rfl) d_R_join_39 ⟨Nat.zero_le _, Nat.zero_le _⟩ ?_
                refine lv_if_eq (tgt := 51) hx hb d_R_join_42 (by decide) (fun c42 => ?_) (fun c42 => ?_)
                · exact absurd c42 (by decide)
                · refine lv_aload_n hx hb d_R_join_45 rfl (lv_at hl 0 rfl) ?_
                  refine lv_iconst (v := 1) hx hb d_R_join_46 (by decide) ?_
                  refine dRi (As := [.int 1]) (rest := []) ⟨hx, hb, hml, hown, hts⟩ (c_R_fail l dC dI cZ y 0 F g h _ 1) (cwV 1 hts (gV kml_R_28 kim_R_fail ksl_R_fail kin_R kcd_R_fail) rfl rfl rfl (by decide +kernel) ⟨by show 0 + 1 ≤ 2; omega, by show 8 + (2 + 11) + 0 ≤ 70; omega⟩) hP hK hD hS hA rfl hl.1 rfl (Nat.le_of_ble_eq_true rfl) d_R_join_47 ⟨Nat.zero_le _, Nat.zero_le _⟩ (fun H locs hP hD hS => ?_)
                  exact W.zret (ty := .boolean) (v := 0) hx hb hr rfl (fun t ht hW => ⟨⟨0, (g, h), rfl, rfl, by rw [ht]; exact hP, va_K.moved hW.alike hK, hD⟩, hS.F ht⟩) hS.2.2 d_R_join_50
          · refine dRR (As := [.int x3, .int 32]) (rest := []) ⟨hx, hb, hml, hown, hts⟩ (c_R_out1 l dC dI cZ y 0 F g h x3 32 k28) (cwV 2 hts (gV kml_R_24 kim_R_out ksl_R_out kin_R kcd_R_out) rfl rfl rfl (by decide +kernel) ⟨by show 0 + 1 ≤ 2; omega, by show 8 + (3 + 11) + 0 ≤ 70; omega⟩) hP hK rfl hl.1 rfl (Nat.le_of_ble_eq_true rfl) d_R_join_28 ⟨Nat.zero_le _, Nat.zero_le _⟩ ?_
            refine lv_if_ne (tgt := 45) hx hb d_R_join_31 (by decide) (fun c31 => ?_) (fun c31 => ?_)
            · refine lv_aload_n hx hb d_R_join_45 rfl (lv_at hl 0 rfl) ?_
              refine lv_iconst (v := 1) hx hb d_R_join_46 (by decide) ?_
              refine dRi (As := [.int 1]) (rest := []) ⟨hx, hb, hml, hown, hts⟩ (c_R_fail l dC dI cZ y 0 F g h _ 1) (cwV 1 hts (gV kml_R_28 kim_R_fail ksl_R_fail kin_R kcd_R_fail) rfl rfl rfl (by decide +kernel) ⟨by show 0 + 1 ≤ 2; omega, by show 8 + (2 + 11) + 0 ≤ 70; omega⟩) hP hK hD hS hA rfl hl.1 rfl (Nat.le_of_ble_eq_true rfl) d_R_join_47 ⟨Nat.zero_le _, Nat.zero_le _⟩ (fun H locs hP hD hS => ?_)
              exact W.zret (ty := .boolean) (v := 0) hx hb hr rfl (fun t ht hW => ⟨⟨0, (g, h), rfl, rfl, by rw [ht]; exact hP, va_K.moved hW.alike hK, hD⟩, hS.F ht⟩) hS.2.2 d_R_join_50
            · exact absurd c31 (by decide)
      · refine dRR (As := [.int x2, .int 5]) (rest := []) ⟨hx, hb, hml, hown, hts⟩ (c_R_out1 l dC dI cZ y 0 F g h x2 5 k18) (cwV 2 hts (gV kml_R_24 kim_R_out ksl_R_out kin_R kcd_R_out) rfl rfl rfl (by decide +kernel) ⟨by show 0 + 1 ≤ 2; omega, by show 8 + (3 + 11) + 0 ≤ 70; omega⟩) hP hK rfl hl.1 rfl (Nat.le_of_ble_eq_true rfl) d_R_join_18 ⟨Nat.zero_le _, Nat.zero_le _⟩ ?_
        refine lv_if_ne (tgt := 45) hx hb d_R_join_21 (by decide) (fun c21 => ?_) (fun c21 => ?_)
        · refine lv_aload_n hx hb d_R_join_45 rfl (lv_at hl 0 rfl) ?_
          refine lv_iconst (v := 1) hx hb d_R_join_46 (by decide) ?_
          refine dRi (As := [.int 1]) (rest := []) ⟨hx, hb, hml, hown, hts⟩ (c_R_fail l dC dI cZ y 0 F g h _ 1) (cwV 1 hts (gV kml_R_28 kim_R_fail ksl_R_fail kin_R kcd_R_fail) rfl rfl rfl (by decide +kernel) ⟨by show 0 + 1 ≤ 2; omega, by show 8 + (2 + 11) + 0 ≤ 70; omega⟩) hP hK hD hS hA rfl hl.1 rfl (Nat.le_of_ble_eq_true rfl) d_R_join_47 ⟨Nat.zero_le _, Nat.zero_le _⟩ (fun H locs hP hD hS => ?_)
          exact W.zret (ty := .boolean) (v := 0) hx hb hr rfl (fun t ht hW => ⟨⟨0, (g, h), rfl, rfl, by rw [ht]; exact hP, va_K.moved hW.alike hK, hD⟩, hS.F ht⟩) hS.2.2 d_R_join_50
        · exact absurd c21 (by decide)
  · refine dRR (As := [.int x1, .int 32]) (rest := []) ⟨hx, hb, hml, hown, hts⟩ (c_R_out1 l dC dI cZ y 0 F g h x1 32 k9) (cwV 2 hts (gV kml_R_24 kim_R_out ksl_R_out kin_R kcd_R_out) rfl rfl rfl (by decide +kernel) ⟨by show 0 + 1 ≤ 2; omega, by show 8 + (3 + 11) + 0 ≤ 70; omega⟩) hP hK rfl hl.1 rfl (Nat.le_of_ble_eq_true rfl) d_R_join_9 ⟨Nat.zero_le _, Nat.zero_le _⟩ ?_
    refine lv_if_ne (tgt := 45) hx hb d_R_join_12 (by decide) (fun c12 => ?_) (fun c12 => ?_)
    · refine lv_aload_n hx hb d_R_join_45 rfl (lv_at hl 0 rfl) ?_
      refine lv_iconst (v := 1) hx hb d_R_join_46 (by decide) ?_
      refine dRi (As := [.int 1]) (rest := []) ⟨hx, hb, hml, hown, hts⟩ (c_R_fail l dC dI cZ y 0 F g h _ 1) (cwV 1 hts (gV kml_R_28 kim_R_fail ksl_R_fail kin_R kcd_R_fail) rfl rfl rfl (by decide +kernel) ⟨by show 0 + 1 ≤ 2; omega, by show 8 + (2 + 11) + 0 ≤ 70; omega⟩) hP hK hD hS hA rfl hl.1 rfl (Nat.le_of_ble_eq_true rfl) d_R_join_47 ⟨Nat.zero_le _, Nat.zero_le _⟩ (fun H locs hP hD hS => ?_)
      exact W.zret (ty := .boolean) (v := 0) hx hb hr rfl (fun t ht hW => ⟨⟨0, (g, h), rfl, rfl, by rw [ht]; exact hP, va_K.moved hW.alike hK, hD⟩, hS.F ht⟩) hS.2.2 d_R_join_50
    · exact absurd c12 (by decide)

set_option maxHeartbeats 8000000 in
set_option maxRecDepth 100000 in
theorem f_R_some (l : Launch) (dC : Nat → ClassId) (dI : Nat → Nat → Nat) (cZ : ClassId) (y : Nat → Nat) (fa : Int32) (F : Nat → Nat → Bool) (g h : Nat → Bool) (sz : Nat) (x1 x2 x3 x4 : Int32) (hno : ¬ (okb x1 32 ∧ okb x2 32 ∧ okb x3 32 ∧ okb x4 4096)) : Met l y_R_some (.code y_R_some b_R_some 6 (some .boolean) :: W0) ({ frames := 2, cells := 0, slots := 0, locals := 70 } : Room) (va_Pc [.ref (y 0), .int x1, .int x2, .int x3, .int x4] (dM dC dI cZ y fa F g h sz)) (va_Qi (fun (x : Int32) (_ : (Nat → Bool) × (Nat → Bool)) => x = 0) (fun u t => dE dC dI cZ y 1 F u.1 u.2 (va_A (dW cZ y fa F g h) sz) t) (va_A (dW cZ y fa F g h) sz)) 0 0 (va_A (dW cZ y fa F g h) sz) := by
  refine Met.ofW (cc := b_R_some) (maxL := 6) (ret := (some .boolean)) (by decide) rfl ?_
  intro p e s m args below meth c s₁ B hml hv
  obtain ⟨rfl, hsz, hP, hK, hD0⟩ := hv
  have hx := B.exec
  have hb := B.bytes
  have hr := B.returns
  have hts1 := atoms_spec (ws := .code y_R_some b_R_some 6 (some .boolean) :: W0) B.pre
  have hts : ∀ w ∈ W0, w.before _ s = true := fun w h => hts1 w (List.mem_cons_of_mem _ h)
  have hown : s.vm.findClass R_R = some m.cls := findClass_of_methodNamed B.named
  have hlocks := B.notSynchronized
  subst hsz
  have hD := hD0.self (sz := s.heap.size)
  generalize hAe : va_A (dW cZ y fa F g h) s.heap.size = A at hD ⊢
  have hA : ∀ q : Nat, s.heap.size ≤ q → A q := fun q h => by rw [← hAe]; exact Or.inr h
  have hS : va_S A s.heap s.heap [] := va_S.rf
  have hP : va_P (dC, dI) cls0 (dW cZ y fa F g h) s.heap := hP
  have hl := lv_entry ([.ref (y 0), .int x1, .int x2, .int x3, .int x4]) (n := 6) (Nat.le_of_ble_eq_true rfl)
  rw [lg_entry_eq]
  generalize (lg_sl ([.ref (y 0), .int x1, .int x2, .int x3, .int x4]) ++ List.replicate (6 - (lg_sl ([.ref (y 0), .int x1, .int x2, .int x3, .int x4])).length) Slot.unset).toArray = ls at hl ⊢
  have hl : lv_has ls 6 [(0, .ref (y 0)), (1, .int x1), (2, .int x2), (3, .int x3), (4, .int x4)] := hl
  refine lv_aload_n hx hb d_R_some_0 rfl (lv_at hl 0 rfl) ?_
  refine lv_iconst (v := 0) hx hb d_R_some_1 (by decide) ?_
  refine dPut hx hb hts hown hK hP hD hS d_R_some_2 (fun H locs hP hD hS => ?_)
  refine lv_aload_n hx hb d_R_some_5 rfl (lv_at hl 0 rfl) ?_
  refine lv_iload_n hx hb d_R_some_6 rfl (lv_at hl 1 rfl) ?_
  refine lv_bipush (v := 32) hx hb d_R_some_7 (by decide) ?_
  by_cases k9 : okb x1 32
  · refine dRR (As := [.int x1, .int 32]) (rest := []) ⟨hx, hb, hml, hown, hts⟩ (c_R_out0 l dC dI cZ y 0 F g h x1 32 k9) (cwV 2 hts (gV kml_R_24 kim_R_out ksl_R_out kin_R kcd_R_out) rfl rfl rfl (by decide +kernel) ⟨by show 0 + 1 ≤ 2; omega, by show 8 + (3 + 11) + 0 ≤ 70; omega⟩) hP hK rfl hl.1 rfl (Nat.le_of_ble_eq_true rfl) d_R_some_9 ⟨Nat.zero_le _, Nat.zero_le _⟩ ?_
    refine lv_if_ne (tgt := 47) hx hb d_R_some_12 (by decide) (fun c12 => ?_) (fun c12 => ?_)
    · exact absurd (by decide) c12
    · refine lv_aload_n hx hb d_R_some_15 rfl (lv_at hl 0 rfl) ?_
      refine lv_iload_n hx hb d_R_some_16 rfl (lv_at hl 2 rfl) ?_
      refine lv_bipush (v := 32) hx hb d_R_some_17 (by decide) ?_
      by_cases k19 : okb x2 32
      · refine dRR (As := [.int x2, .int 32]) (rest := []) ⟨hx, hb, hml, hown, hts⟩ (c_R_out0 l dC dI cZ y 0 F g h x2 32 k19) (cwV 2 hts (gV kml_R_24 kim_R_out ksl_R_out kin_R kcd_R_out) rfl rfl rfl (by decide +kernel) ⟨by show 0 + 1 ≤ 2; omega, by show 8 + (3 + 11) + 0 ≤ 70; omega⟩) hP hK rfl hl.1 rfl (Nat.le_of_ble_eq_true rfl) d_R_some_19 ⟨Nat.zero_le _, Nat.zero_le _⟩ ?_
        refine lv_if_ne (tgt := 47) hx hb d_R_some_22 (by decide) (fun c22 => ?_) (fun c22 => ?_)
        · exact absurd (by decide) c22
        · refine lv_aload_n hx hb d_R_some_25 rfl (lv_at hl 0 rfl) ?_
          refine lv_iload_n hx hb d_R_some_26 rfl (lv_at hl 3 rfl) ?_
          refine lv_bipush (v := 32) hx hb d_R_some_27 (by decide) ?_
          by_cases k29 : okb x3 32
          · refine dRR (As := [.int x3, .int 32]) (rest := []) ⟨hx, hb, hml, hown, hts⟩ (c_R_out0 l dC dI cZ y 0 F g h x3 32 k29) (cwV 2 hts (gV kml_R_24 kim_R_out ksl_R_out kin_R kcd_R_out) rfl rfl rfl (by decide +kernel) ⟨by show 0 + 1 ≤ 2; omega, by show 8 + (3 + 11) + 0 ≤ 70; omega⟩) hP hK rfl hl.1 rfl (Nat.le_of_ble_eq_true rfl) d_R_some_29 ⟨Nat.zero_le _, Nat.zero_le _⟩ ?_
            refine lv_if_ne (tgt := 47) hx hb d_R_some_32 (by decide) (fun c32 => ?_) (fun c32 => ?_)
            · exact absurd (by decide) c32
            · refine lv_aload_n hx hb d_R_some_35 rfl (lv_at hl 0 rfl) ?_
              refine lv_iload hx hb d_R_some_36 (lv_at hl 4 rfl) ?_
              refine lv_sipush (v := 4096) hx hb d_R_some_38 (by decide) ?_
              by_cases k41 : okb x4 4096
              · refine dRR (As := [.int x4, .int 4096]) (rest := []) ⟨hx, hb, hml, hown, hts⟩ (c_R_out0 l dC dI cZ y 0 F g h x4 4096 k41) (cwV 2 hts (gV kml_R_24 kim_R_out ksl_R_out kin_R kcd_R_out) rfl rfl rfl (by decide +kernel) ⟨by show 0 + 1 ≤ 2; omega, by show 8 + (3 + 11) + 0 ≤ 70; omega⟩) hP hK rfl hl.1 rfl (Nat.le_of_ble_eq_true rfl) d_R_some_41 ⟨Nat.zero_le _, Nat.zero_le _⟩ ?_
                exact absurd ⟨k9, k19, k29, k41⟩ hno
              · refine dRR (As := [.int x4, .int 4096]) (rest := []) ⟨hx, hb, hml, hown, hts⟩ (c_R_out1 l dC dI cZ y 0 F g h x4 4096 k41) (cwV 2 hts (gV kml_R_24 kim_R_out ksl_R_out kin_R kcd_R_out) rfl rfl rfl (by decide +kernel) ⟨by show 0 + 1 ≤ 2; omega, by show 8 + (3 + 11) + 0 ≤ 70; omega⟩) hP hK rfl hl.1 rfl (Nat.le_of_ble_eq_true rfl) d_R_some_41 ⟨Nat.zero_le _, Nat.zero_le _⟩ ?_
                refine lv_if_eq (tgt := 53) hx hb d_R_some_44 (by decide) (fun c44 => ?_) (fun c44 => ?_)
                · exact absurd c44 (by decide)
                · refine lv_aload_n hx hb d_R_some_47 rfl (lv_at hl 0 rfl) ?_
                  refine lv_iconst (v := 1) hx hb d_R_some_48 (by decide) ?_
                  refine dRi (As := [.int 1]) (rest := []) ⟨hx, hb, hml, hown, hts⟩ (c_R_fail l dC dI cZ y 0 F g h _ 1) (cwV 1 hts (gV kml_R_28 kim_R_fail ksl_R_fail kin_R kcd_R_fail) rfl rfl rfl (by decide +kernel) ⟨by show 0 + 1 ≤ 2; omega, by show 8 + (2 + 11) + 0 ≤ 70; omega⟩) hP hK hD hS hA rfl hl.1 rfl (Nat.le_of_ble_eq_true rfl) d_R_some_49 ⟨Nat.zero_le _, Nat.zero_le _⟩ (fun H locs hP hD hS => ?_)
                  exact W.zret (ty := .boolean) (v := 0) hx hb hr rfl (fun t ht hW => ⟨⟨0, (g, h), rfl, rfl, by rw [ht]; exact hP, va_K.moved hW.alike hK, hD⟩, hS.F ht⟩) hS.2.2 d_R_some_52
          · refine dRR (As := [.int x3, .int 32]) (rest := []) ⟨hx, hb, hml, hown, hts⟩ (c_R_out1 l dC dI cZ y 0 F g h x3 32 k29) (cwV 2 hts (gV kml_R_24 kim_R_out ksl_R_out kin_R kcd_R_out) rfl rfl rfl (by decide +kernel) ⟨by show 0 + 1 ≤ 2; omega, by show 8 + (3 + 11) + 0 ≤ 70; omega⟩) hP hK rfl hl.1 rfl (Nat.le_of_ble_eq_true rfl) d_R_some_29 ⟨Nat.zero_le _, Nat.zero_le _⟩ ?_
            refine lv_if_ne (tgt := 47) hx hb d_R_some_32 (by decide) (fun c32 => ?_) (fun c32 => ?_)
            · refine lv_aload_n hx hb d_R_some_47 rfl (lv_at hl 0 rfl) ?_
              refine lv_iconst (v := 1) hx hb d_R_some_48 (by decide) ?_
              refine dRi (As := [.int 1]) (rest := []) ⟨hx, hb, hml, hown, hts⟩ (c_R_fail l dC dI cZ y 0 F g h _ 1) (cwV 1 hts (gV kml_R_28 kim_R_fail ksl_R_fail kin_R kcd_R_fail) rfl rfl rfl (by decide +kernel) ⟨by show 0 + 1 ≤ 2; omega, by show 8 + (2 + 11) + 0 ≤ 70; omega⟩) hP hK hD hS hA rfl hl.1 rfl (Nat.le_of_ble_eq_true rfl) d_R_some_49 ⟨Nat.zero_le _, Nat.zero_le _⟩ (fun H locs hP hD hS => ?_)
              exact W.zret (ty := .boolean) (v := 0) hx hb hr rfl (fun t ht hW => ⟨⟨0, (g, h), rfl, rfl, by rw [ht]; exact hP, va_K.moved hW.alike hK, hD⟩, hS.F ht⟩) hS.2.2 d_R_some_52
            · exact absurd c32 (by decide)
      · refine dRR (As := [.int x2, .int 32]) (rest := []) ⟨hx, hb, hml, hown, hts⟩ (c_R_out1 l dC dI cZ y 0 F g h x2 32 k19) (cwV 2 hts (gV kml_R_24 kim_R_out ksl_R_out kin_R kcd_R_out) rfl rfl rfl (by decide +kernel) ⟨by show 0 + 1 ≤ 2; omega, by show 8 + (3 + 11) + 0 ≤ 70; omega⟩) hP hK rfl hl.1 rfl (Nat.le_of_ble_eq_true rfl) d_R_some_19 ⟨Nat.zero_le _, Nat.zero_le _⟩ ?_
        refine lv_if_ne (tgt := 47) hx hb d_R_some_22 (by decide) (fun c22 => ?_) (fun c22 => ?_)
        · refine lv_aload_n hx hb d_R_some_47 rfl (lv_at hl 0 rfl) ?_
          refine lv_iconst (v := 1) hx hb d_R_some_48 (by decide) ?_
          refine dRi (As := [.int 1]) (rest := []) ⟨hx, hb, hml, hown, hts⟩ (c_R_fail l dC dI cZ y 0 F g h _ 1) (cwV 1 hts (gV kml_R_28 kim_R_fail ksl_R_fail kin_R kcd_R_fail) rfl rfl rfl (by decide +kernel) ⟨by show 0 + 1 ≤ 2; omega, by show 8 + (2 + 11) + 0 ≤ 70; omega⟩) hP hK hD hS hA rfl hl.1 rfl (Nat.le_of_ble_eq_true rfl) d_R_some_49 ⟨Nat.zero_le _, Nat.zero_le _⟩ (fun H locs hP hD hS => ?_)
          exact W.zret (ty := .boolean) (v := 0) hx hb hr rfl (fun t ht hW => ⟨⟨0, (g, h), rfl, rfl, by rw [ht]; exact hP, va_K.moved hW.alike hK, hD⟩, hS.F ht⟩) hS.2.2 d_R_some_52
        · exact absurd c22 (by decide)
  · refine dRR (As := [.int x1, .int 32]) (rest := []) ⟨hx, hb, hml, hown, hts⟩ (c_R_out1 l dC dI cZ y 0 F g h x1 32 k9) (cwV 2 hts (gV kml_R_24 kim_R_out ksl_R_out kin_R kcd_R_out) rfl rfl rfl (by decide +kernel) ⟨by show 0 + 1 ≤ 2; omega, by show 8 + (3 + 11) + 0 ≤ 70; omega⟩) hP hK rfl hl.1 rfl (Nat.le_of_ble_eq_true rfl) d_R_some_9 ⟨Nat.zero_le _, Nat.zero_le _⟩ ?_
    refine lv_if_ne (tgt := 47) hx hb d_R_some_12 (by decide) (fun c12 => ?_) (fun c12 => ?_)
    · refine lv_aload_n hx hb d_R_some_47 rfl (lv_at hl 0 rfl) ?_
      refine lv_iconst (v := 1) hx hb d_R_some_48 (by decide) ?_
      refine dRi (As := [.int 1]) (rest := []) ⟨hx, hb, hml, hown, hts⟩ (c_R_fail l dC dI cZ y 0 F g h _ 1) (cwV 1 hts (gV kml_R_28 kim_R_fail ksl_R_fail kin_R kcd_R_fail) rfl rfl rfl (by decide +kernel) ⟨by show 0 + 1 ≤ 2; omega, by show 8 + (2 + 11) + 0 ≤ 70; omega⟩) hP hK hD hS hA rfl hl.1 rfl (Nat.le_of_ble_eq_true rfl) d_R_some_49 ⟨Nat.zero_le _, Nat.zero_le _⟩ (fun H locs hP hD hS => ?_)
      exact W.zret (ty := .boolean) (v := 0) hx hb hr rfl (fun t ht hW => ⟨⟨0, (g, h), rfl, rfl, by rw [ht]; exact hP, va_K.moved hW.alike hK, hD⟩, hS.F ht⟩) hS.2.2 d_R_some_52
    · exact absurd c12 (by decide)

set_option maxHeartbeats 8000000 in
set_option maxRecDepth 100000 in
theorem f_R_turn (l : Launch) (dC : Nat → ClassId) (dI : Nat → Nat → Nat) (cZ : ClassId) (y : Nat → Nat) (fa : Int32) (F : Nat → Nat → Bool) (g h : Nat → Bool) (sz : Nat) (x1 x2 : Int32) (hno : ¬ (okb x1 32 ∧ okb x2 32)) : Met l y_R_turn (.code y_R_turn b_R_turn 4 (some .boolean) :: W0) ({ frames := 2, cells := 0, slots := 0, locals := 70 } : Room) (va_Pc [.ref (y 0), .int x1, .int x2] (dM dC dI cZ y fa F g h sz)) (va_Qi (fun (x : Int32) (_ : (Nat → Bool) × (Nat → Bool)) => x = 0) (fun u t => dE dC dI cZ y 1 F u.1 u.2 (va_A (dW cZ y fa F g h) sz) t) (va_A (dW cZ y fa F g h) sz)) 0 0 (va_A (dW cZ y fa F g h) sz) := by
  refine Met.ofW (cc := b_R_turn) (maxL := 4) (ret := (some .boolean)) (by decide) rfl ?_
  intro p e s m args below meth c s₁ B hml hv
  obtain ⟨rfl, hsz, hP, hK, hD0⟩ := hv
  have hx := B.exec
  have hb := B.bytes
  have hr := B.returns
  have hts1 := atoms_spec (ws := .code y_R_turn b_R_turn 4 (some .boolean) :: W0) B.pre
  have hts : ∀ w ∈ W0, w.before _ s = true := fun w h => hts1 w (List.mem_cons_of_mem _ h)
  have hown : s.vm.findClass R_R = some m.cls := findClass_of_methodNamed B.named
  have hlocks := B.notSynchronized
  subst hsz
  have hD := hD0.self (sz := s.heap.size)
  generalize hAe : va_A (dW cZ y fa F g h) s.heap.size = A at hD ⊢
  have hA : ∀ q : Nat, s.heap.size ≤ q → A q := fun q h => by rw [← hAe]; exact Or.inr h
  have hS : va_S A s.heap s.heap [] := va_S.rf
  have hP : va_P (dC, dI) cls0 (dW cZ y fa F g h) s.heap := hP
  have hl := lv_entry ([.ref (y 0), .int x1, .int x2]) (n := 4) (Nat.le_of_ble_eq_true rfl)
  rw [lg_entry_eq]
  generalize (lg_sl ([.ref (y 0), .int x1, .int x2]) ++ List.replicate (4 - (lg_sl ([.ref (y 0), .int x1, .int x2])).length) Slot.unset).toArray = ls at hl ⊢
  have hl : lv_has ls 4 [(0, .ref (y 0)), (1, .int x1), (2, .int x2)] := hl
  refine lv_aload_n hx hb d_R_turn_0 rfl (lv_at hl 0 rfl) ?_
  refine lv_iconst (v := 0) hx hb d_R_turn_1 (by decide) ?_
  refine dPut hx hb hts hown hK hP hD hS d_R_turn_2 (fun H locs hP hD hS => ?_)
  refine lv_aload_n hx hb d_R_turn_5 rfl (lv_at hl 0 rfl) ?_
  refine lv_iload_n hx hb d_R_turn_6 rfl (lv_at hl 1 rfl) ?_
  refine lv_bipush (v := 32) hx hb d_R_turn_7 (by decide) ?_
  by_cases k9 : okb x1 32
  · refine dRR (As := [.int x1, .int 32]) (rest := []) ⟨hx, hb, hml, hown, hts⟩ (c_R_out0 l dC dI cZ y 0 F g h x1 32 k9) (cwV 2 hts (gV kml_R_24 kim_R_out ksl_R_out kin_R kcd_R_out) rfl rfl rfl (by decide +kernel) ⟨by show 0 + 1 ≤ 2; omega, by show 8 + (3 + 11) + 0 ≤ 70; omega⟩) hP hK rfl hl.1 rfl (Nat.le_of_ble_eq_true rfl) d_R_turn_9 ⟨Nat.zero_le _, Nat.zero_le _⟩ ?_
    refine lv_if_ne (tgt := 25) hx hb d_R_turn_12 (by decide) (fun c12 => ?_) (fun c12 => ?_)
    · exact absurd (by decide) c12
    · refine lv_aload_n hx hb d_R_turn_15 rfl (lv_at hl 0 rfl) ?_
      refine lv_iload_n hx hb d_R_turn_16 rfl (lv_at hl 2 rfl) ?_
      refine lv_bipush (v := 32) hx hb d_R_turn_17 (by decide) ?_
      by_cases k19 : okb x2 32
      · refine dRR (As := [.int x2, .int 32]) (rest := []) ⟨hx, hb, hml, hown, hts⟩ (c_R_out0 l dC dI cZ y 0 F g h x2 32 k19) (cwV 2 hts (gV kml_R_24 kim_R_out ksl_R_out kin_R kcd_R_out) rfl rfl rfl (by decide +kernel) ⟨by show 0 + 1 ≤ 2; omega, by show 8 + (3 + 11) + 0 ≤ 70; omega⟩) hP hK rfl hl.1 rfl (Nat.le_of_ble_eq_true rfl) d_R_turn_19 ⟨Nat.zero_le _, Nat.zero_le _⟩ ?_
        exact absurd ⟨k9, k19⟩ hno
      · refine dRR (As := [.int x2, .int 32]) (rest := []) ⟨hx, hb, hml, hown, hts⟩ (c_R_out1 l dC dI cZ y 0 F g h x2 32 k19) (cwV 2 hts (gV kml_R_24 kim_R_out ksl_R_out kin_R kcd_R_out) rfl rfl rfl (by decide +kernel) ⟨by show 0 + 1 ≤ 2; omega, by show 8 + (3 + 11) + 0 ≤ 70; omega⟩) hP hK rfl hl.1 rfl (Nat.le_of_ble_eq_true rfl) d_R_turn_19 ⟨Nat.zero_le _, Nat.zero_le _⟩ ?_
        refine lv_if_eq (tgt := 31) hx hb d_R_turn_22 (by decide) (fun c22 => ?_) (fun c22 => ?_)
        · exact absurd c22 (by decide)
        · refine lv_aload_n hx hb d_R_turn_25 rfl (lv_at hl 0 rfl) ?_
          refine lv_iconst (v := 1) hx hb d_R_turn_26 (by decide) ?_
          refine dRi (As := [.int 1]) (rest := []) ⟨hx, hb, hml, hown, hts⟩ (c_R_fail l dC dI cZ y 0 F g h _ 1) (cwV 1 hts (gV kml_R_28 kim_R_fail ksl_R_fail kin_R kcd_R_fail) rfl rfl rfl (by decide +kernel) ⟨by show 0 + 1 ≤ 2; omega, by show 8 + (2 + 11) + 0 ≤ 70; omega⟩) hP hK hD hS hA rfl hl.1 rfl (Nat.le_of_ble_eq_true rfl) d_R_turn_27 ⟨Nat.zero_le _, Nat.zero_le _⟩ (fun H locs hP hD hS => ?_)
          exact W.zret (ty := .boolean) (v := 0) hx hb hr rfl (fun t ht hW => ⟨⟨0, (g, h), rfl, rfl, by rw [ht]; exact hP, va_K.moved hW.alike hK, hD⟩, hS.F ht⟩) hS.2.2 d_R_turn_30
  · refine dRR (As := [.int x1, .int 32]) (rest := []) ⟨hx, hb, hml, hown, hts⟩ (c_R_out1 l dC dI cZ y 0 F g h x1 32 k9) (cwV 2 hts (gV kml_R_24 kim_R_out ksl_R_out kin_R kcd_R_out) rfl rfl rfl (by decide +kernel) ⟨by show 0 + 1 ≤ 2; omega, by show 8 + (3 + 11) + 0 ≤ 70; omega⟩) hP hK rfl hl.1 rfl (Nat.le_of_ble_eq_true rfl) d_R_turn_9 ⟨Nat.zero_le _, Nat.zero_le _⟩ ?_
    refine lv_if_ne (tgt := 25) hx hb d_R_turn_12 (by decide) (fun c12 => ?_) (fun c12 => ?_)
    · refine lv_aload_n hx hb d_R_turn_25 rfl (lv_at hl 0 rfl) ?_
      refine lv_iconst (v := 1) hx hb d_R_turn_26 (by decide) ?_
      refine dRi (As := [.int 1]) (rest := []) ⟨hx, hb, hml, hown, hts⟩ (c_R_fail l dC dI cZ y 0 F g h _ 1) (cwV 1 hts (gV kml_R_28 kim_R_fail ksl_R_fail kin_R kcd_R_fail) rfl rfl rfl (by decide +kernel) ⟨by show 0 + 1 ≤ 2; omega, by show 8 + (2 + 11) + 0 ≤ 70; omega⟩) hP hK hD hS hA rfl hl.1 rfl (Nat.le_of_ble_eq_true rfl) d_R_turn_27 ⟨Nat.zero_le _, Nat.zero_le _⟩ (fun H locs hP hD hS => ?_)
      exact W.zret (ty := .boolean) (v := 0) hx hb hr rfl (fun t ht hW => ⟨⟨0, (g, h), rfl, rfl, by rw [ht]; exact hP, va_K.moved hW.alike hK, hD⟩, hS.F ht⟩) hS.2.2 d_R_turn_30
    · exact absurd c12 (by decide)

set_option maxHeartbeats 8000000 in
set_option maxRecDepth 100000 in
theorem f_R_value (l : Launch) (dC : Nat → ClassId) (dI : Nat → Nat → Nat) (cZ : ClassId) (y : Nat → Nat) (fa : Int32) (F : Nat → Nat → Bool) (g h : Nat → Bool) (sz : Nat) (x1 x2 : Int32) (hno : ¬ (okb x1 32 ∧ okb x2 4096)) : Met l y_R_value (.code y_R_value b_R_value 3 (some .boolean) :: W0) ({ frames := 2, cells := 0, slots := 0, locals := 70 } : Room) (va_Pc [.ref (y 0), .int x1, .int x2] (dM dC dI cZ y fa F g h sz)) (va_Qi (fun (x : Int32) (_ : (Nat → Bool) × (Nat → Bool)) => x = 0) (fun u t => dE dC dI cZ y 1 F u.1 u.2 (va_A (dW cZ y fa F g h) sz) t) (va_A (dW cZ y fa F g h) sz)) 0 0 (va_A (dW cZ y fa F g h) sz) := by
  refine Met.ofW (cc := b_R_value) (maxL := 3) (ret := (some .boolean)) (by decide) rfl ?_
  intro p e s m args below meth c s₁ B hml hv
  obtain ⟨rfl, hsz, hP, hK, hD0⟩ := hv
  have hx := B.exec
  have hb := B.bytes
  have hr := B.returns
  have hts1 := atoms_spec (ws := .code y_R_value b_R_value 3 (some .boolean) :: W0) B.pre
  have hts : ∀ w ∈ W0, w.before _ s = true := fun w h => hts1 w (List.mem_cons_of_mem _ h)
  have hown : s.vm.findClass R_R = some m.cls := findClass_of_methodNamed B.named
  have hlocks := B.notSynchronized
  subst hsz
  have hD := hD0.self (sz := s.heap.size)
  generalize hAe : va_A (dW cZ y fa F g h) s.heap.size = A at hD ⊢
  have hA : ∀ q : Nat, s.heap.size ≤ q → A q := fun q h => by rw [← hAe]; exact Or.inr h
  have hS : va_S A s.heap s.heap [] := va_S.rf
  have hP : va_P (dC, dI) cls0 (dW cZ y fa F g h) s.heap := hP
  have hl := lv_entry ([.ref (y 0), .int x1, .int x2]) (n := 3) (Nat.le_of_ble_eq_true rfl)
  rw [lg_entry_eq]
  generalize (lg_sl ([.ref (y 0), .int x1, .int x2]) ++ List.replicate (3 - (lg_sl ([.ref (y 0), .int x1, .int x2])).length) Slot.unset).toArray = ls at hl ⊢
  have hl : lv_has ls 3 [(0, .ref (y 0)), (1, .int x1), (2, .int x2)] := hl
  refine lv_aload_n hx hb d_R_value_0 rfl (lv_at hl 0 rfl) ?_
  refine lv_iconst (v := 0) hx hb d_R_value_1 (by decide) ?_
  refine dPut hx hb hts hown hK hP hD hS d_R_value_2 (fun H locs hP hD hS => ?_)
  refine lv_aload_n hx hb d_R_value_5 rfl (lv_at hl 0 rfl) ?_
  refine lv_iload_n hx hb d_R_value_6 rfl (lv_at hl 1 rfl) ?_
  refine lv_bipush (v := 32) hx hb d_R_value_7 (by decide) ?_
  by_cases k9 : okb x1 32
  · refine dRR (As := [.int x1, .int 32]) (rest := []) ⟨hx, hb, hml, hown, hts⟩ (c_R_out0 l dC dI cZ y 0 F g h x1 32 k9) (cwV 2 hts (gV kml_R_24 kim_R_out ksl_R_out kin_R kcd_R_out) rfl rfl rfl (by decide +kernel) ⟨by show 0 + 1 ≤ 2; omega, by show 8 + (3 + 11) + 0 ≤ 70; omega⟩) hP hK rfl hl.1 rfl (Nat.le_of_ble_eq_true rfl) d_R_value_9 ⟨Nat.zero_le _, Nat.zero_le _⟩ ?_
    refine lv_if_ne (tgt := 26) hx hb d_R_value_12 (by decide) (fun c12 => ?_) (fun c12 => ?_)
    · exact absurd (by decide) c12
    · refine lv_aload_n hx hb d_R_value_15 rfl (lv_at hl 0 rfl) ?_
      refine lv_iload_n hx hb d_R_value_16 rfl (lv_at hl 2 rfl) ?_
      refine lv_sipush (v := 4096) hx hb d_R_value_17 (by decide) ?_
      by_cases k20 : okb x2 4096
      · refine dRR (As := [.int x2, .int 4096]) (rest := []) ⟨hx, hb, hml, hown, hts⟩ (c_R_out0 l dC dI cZ y 0 F g h x2 4096 k20) (cwV 2 hts (gV kml_R_24 kim_R_out ksl_R_out kin_R kcd_R_out) rfl rfl rfl (by decide +kernel) ⟨by show 0 + 1 ≤ 2; omega, by show 8 + (3 + 11) + 0 ≤ 70; omega⟩) hP hK rfl hl.1 rfl (Nat.le_of_ble_eq_true rfl) d_R_value_20 ⟨Nat.zero_le _, Nat.zero_le _⟩ ?_
        exact absurd ⟨k9, k20⟩ hno
      · refine dRR (As := [.int x2, .int 4096]) (rest := []) ⟨hx, hb, hml, hown, hts⟩ (c_R_out1 l dC dI cZ y 0 F g h x2 4096 k20) (cwV 2 hts (gV kml_R_24 kim_R_out ksl_R_out kin_R kcd_R_out) rfl rfl rfl (by decide +kernel) ⟨by show 0 + 1 ≤ 2; omega, by show 8 + (3 + 11) + 0 ≤ 70; omega⟩) hP hK rfl hl.1 rfl (Nat.le_of_ble_eq_true rfl) d_R_value_20 ⟨Nat.zero_le _, Nat.zero_le _⟩ ?_
        refine lv_if_eq (tgt := 32) hx hb d_R_value_23 (by decide) (fun c23 => ?_) (fun c23 => ?_)
        · exact absurd c23 (by decide)
        · refine lv_aload_n hx hb d_R_value_26 rfl (lv_at hl 0 rfl) ?_
          refine lv_iconst (v := 1) hx hb d_R_value_27 (by decide) ?_
          refine dRi (As := [.int 1]) (rest := []) ⟨hx, hb, hml, hown, hts⟩ (c_R_fail l dC dI cZ y 0 F g h _ 1) (cwV 1 hts (gV kml_R_28 kim_R_fail ksl_R_fail kin_R kcd_R_fail) rfl rfl rfl (by decide +kernel) ⟨by show 0 + 1 ≤ 2; omega, by show 8 + (2 + 11) + 0 ≤ 70; omega⟩) hP hK hD hS hA rfl hl.1 rfl (Nat.le_of_ble_eq_true rfl) d_R_value_28 ⟨Nat.zero_le _, Nat.zero_le _⟩ (fun H locs hP hD hS => ?_)
          exact W.zret (ty := .boolean) (v := 0) hx hb hr rfl (fun t ht hW => ⟨⟨0, (g, h), rfl, rfl, by rw [ht]; exact hP, va_K.moved hW.alike hK, hD⟩, hS.F ht⟩) hS.2.2 d_R_value_31
  · refine dRR (As := [.int x1, .int 32]) (rest := []) ⟨hx, hb, hml, hown, hts⟩ (c_R_out1 l dC dI cZ y 0 F g h x1 32 k9) (cwV 2 hts (gV kml_R_24 kim_R_out ksl_R_out kin_R kcd_R_out) rfl rfl rfl (by decide +kernel) ⟨by show 0 + 1 ≤ 2; omega, by show 8 + (3 + 11) + 0 ≤ 70; omega⟩) hP hK rfl hl.1 rfl (Nat.le_of_ble_eq_true rfl) d_R_value_9 ⟨Nat.zero_le _, Nat.zero_le _⟩ ?_
    refine lv_if_ne (tgt := 26) hx hb d_R_value_12 (by decide) (fun c12 => ?_) (fun c12 => ?_)
    · refine lv_aload_n hx hb d_R_value_26 rfl (lv_at hl 0 rfl) ?_
      refine lv_iconst (v := 1) hx hb d_R_value_27 (by decide) ?_
      refine dRi (As := [.int 1]) (rest := []) ⟨hx, hb, hml, hown, hts⟩ (c_R_fail l dC dI cZ y 0 F g h _ 1) (cwV 1 hts (gV kml_R_28 kim_R_fail ksl_R_fail kin_R kcd_R_fail) rfl rfl rfl (by decide +kernel) ⟨by show 0 + 1 ≤ 2; omega, by show 8 + (2 + 11) + 0 ≤ 70; omega⟩) hP hK hD hS hA rfl hl.1 rfl (Nat.le_of_ble_eq_true rfl) d_R_value_28 ⟨Nat.zero_le _, Nat.zero_le _⟩ (fun H locs hP hD hS => ?_)
      exact W.zret (ty := .boolean) (v := 0) hx hb hr rfl (fun t ht hW => ⟨⟨0, (g, h), rfl, rfl, by rw [ht]; exact hP, va_K.moved hW.alike hK, hD⟩, hS.F ht⟩) hS.2.2 d_R_value_31
    · exact absurd c12 (by decide)

set_option maxHeartbeats 8000000 in
set_option maxRecDepth 100000 in
theorem f_R_same (l : Launch) (dC : Nat → ClassId) (dI : Nat → Nat → Nat) (cZ : ClassId) (y : Nat → Nat) (fa : Int32) (F : Nat → Nat → Bool) (g h : Nat → Bool) (sz : Nat) (x1 x2 : Int32) (hno : ¬ (okb x1 32 ∧ okb x2 32)) : Met l y_R_same (.code y_R_same b_R_same 4 (some .boolean) :: W0) ({ frames := 2, cells := 0, slots := 0, locals := 70 } : Room) (va_Pc [.ref (y 0), .int x1, .int x2] (dM dC dI cZ y fa F g h sz)) (va_Qi (fun (x : Int32) (_ : (Nat → Bool) × (Nat → Bool)) => x = 0) (fun u t => dE dC dI cZ y 1 F u.1 u.2 (va_A (dW cZ y fa F g h) sz) t) (va_A (dW cZ y fa F g h) sz)) 0 0 (va_A (dW cZ y fa F g h) sz) := by
  refine Met.ofW (cc := b_R_same) (maxL := 4) (ret := (some .boolean)) (by decide) rfl ?_
  intro p e s m args below meth c s₁ B hml hv
  obtain ⟨rfl, hsz, hP, hK, hD0⟩ := hv
  have hx := B.exec
  have hb := B.bytes
  have hr := B.returns
  have hts1 := atoms_spec (ws := .code y_R_same b_R_same 4 (some .boolean) :: W0) B.pre
  have hts : ∀ w ∈ W0, w.before _ s = true := fun w h => hts1 w (List.mem_cons_of_mem _ h)
  have hown : s.vm.findClass R_R = some m.cls := findClass_of_methodNamed B.named
  have hlocks := B.notSynchronized
  subst hsz
  have hD := hD0.self (sz := s.heap.size)
  generalize hAe : va_A (dW cZ y fa F g h) s.heap.size = A at hD ⊢
  have hA : ∀ q : Nat, s.heap.size ≤ q → A q := fun q h => by rw [← hAe]; exact Or.inr h
  have hS : va_S A s.heap s.heap [] := va_S.rf
  have hP : va_P (dC, dI) cls0 (dW cZ y fa F g h) s.heap := hP
  have hl := lv_entry ([.ref (y 0), .int x1, .int x2]) (n := 4) (Nat.le_of_ble_eq_true rfl)
  rw [lg_entry_eq]
  generalize (lg_sl ([.ref (y 0), .int x1, .int x2]) ++ List.replicate (4 - (lg_sl ([.ref (y 0), .int x1, .int x2])).length) Slot.unset).toArray = ls at hl ⊢
  have hl : lv_has ls 4 [(0, .ref (y 0)), (1, .int x1), (2, .int x2)] := hl
  refine lv_aload_n hx hb d_R_same_0 rfl (lv_at hl 0 rfl) ?_
  refine lv_iconst (v := 0) hx hb d_R_same_1 (by decide) ?_
  refine dPut hx hb hts hown hK hP hD hS d_R_same_2 (fun H locs hP hD hS => ?_)
  refine lv_aload_n hx hb d_R_same_5 rfl (lv_at hl 0 rfl) ?_
  refine lv_iload_n hx hb d_R_same_6 rfl (lv_at hl 1 rfl) ?_
  refine lv_bipush (v := 32) hx hb d_R_same_7 (by decide) ?_
  by_cases k9 : okb x1 32
  · refine dRR (As := [.int x1, .int 32]) (rest := []) ⟨hx, hb, hml, hown, hts⟩ (c_R_out0 l dC dI cZ y 0 F g h x1 32 k9) (cwV 2 hts (gV kml_R_24 kim_R_out ksl_R_out kin_R kcd_R_out) rfl rfl rfl (by decide +kernel) ⟨by show 0 + 1 ≤ 2; omega, by show 8 + (3 + 11) + 0 ≤ 70; omega⟩) hP hK rfl hl.1 rfl (Nat.le_of_ble_eq_true rfl) d_R_same_9 ⟨Nat.zero_le _, Nat.zero_le _⟩ ?_
    refine lv_if_ne (tgt := 25) hx hb d_R_same_12 (by decide) (fun c12 => ?_) (fun c12 => ?_)
    · exact absurd (by decide) c12
    · refine lv_aload_n hx hb d_R_same_15 rfl (lv_at hl 0 rfl) ?_
      refine lv_iload_n hx hb d_R_same_16 rfl (lv_at hl 2 rfl) ?_
      refine lv_bipush (v := 32) hx hb d_R_same_17 (by decide) ?_
      by_cases k19 : okb x2 32
      · refine dRR (As := [.int x2, .int 32]) (rest := []) ⟨hx, hb, hml, hown, hts⟩ (c_R_out0 l dC dI cZ y 0 F g h x2 32 k19) (cwV 2 hts (gV kml_R_24 kim_R_out ksl_R_out kin_R kcd_R_out) rfl rfl rfl (by decide +kernel) ⟨by show 0 + 1 ≤ 2; omega, by show 8 + (3 + 11) + 0 ≤ 70; omega⟩) hP hK rfl hl.1 rfl (Nat.le_of_ble_eq_true rfl) d_R_same_19 ⟨Nat.zero_le _, Nat.zero_le _⟩ ?_
        exact absurd ⟨k9, k19⟩ hno
      · refine dRR (As := [.int x2, .int 32]) (rest := []) ⟨hx, hb, hml, hown, hts⟩ (c_R_out1 l dC dI cZ y 0 F g h x2 32 k19) (cwV 2 hts (gV kml_R_24 kim_R_out ksl_R_out kin_R kcd_R_out) rfl rfl rfl (by decide +kernel) ⟨by show 0 + 1 ≤ 2; omega, by show 8 + (3 + 11) + 0 ≤ 70; omega⟩) hP hK rfl hl.1 rfl (Nat.le_of_ble_eq_true rfl) d_R_same_19 ⟨Nat.zero_le _, Nat.zero_le _⟩ ?_
        refine lv_if_eq (tgt := 31) hx hb d_R_same_22 (by decide) (fun c22 => ?_) (fun c22 => ?_)
        · exact absurd c22 (by decide)
        · refine lv_aload_n hx hb d_R_same_25 rfl (lv_at hl 0 rfl) ?_
          refine lv_iconst (v := 1) hx hb d_R_same_26 (by decide) ?_
          refine dRi (As := [.int 1]) (rest := []) ⟨hx, hb, hml, hown, hts⟩ (c_R_fail l dC dI cZ y 0 F g h _ 1) (cwV 1 hts (gV kml_R_28 kim_R_fail ksl_R_fail kin_R kcd_R_fail) rfl rfl rfl (by decide +kernel) ⟨by show 0 + 1 ≤ 2; omega, by show 8 + (2 + 11) + 0 ≤ 70; omega⟩) hP hK hD hS hA rfl hl.1 rfl (Nat.le_of_ble_eq_true rfl) d_R_same_27 ⟨Nat.zero_le _, Nat.zero_le _⟩ (fun H locs hP hD hS => ?_)
          exact W.zret (ty := .boolean) (v := 0) hx hb hr rfl (fun t ht hW => ⟨⟨0, (g, h), rfl, rfl, by rw [ht]; exact hP, va_K.moved hW.alike hK, hD⟩, hS.F ht⟩) hS.2.2 d_R_same_30
  · refine dRR (As := [.int x1, .int 32]) (rest := []) ⟨hx, hb, hml, hown, hts⟩ (c_R_out1 l dC dI cZ y 0 F g h x1 32 k9) (cwV 2 hts (gV kml_R_24 kim_R_out ksl_R_out kin_R kcd_R_out) rfl rfl rfl (by decide +kernel) ⟨by show 0 + 1 ≤ 2; omega, by show 8 + (3 + 11) + 0 ≤ 70; omega⟩) hP hK rfl hl.1 rfl (Nat.le_of_ble_eq_true rfl) d_R_same_9 ⟨Nat.zero_le _, Nat.zero_le _⟩ ?_
    refine lv_if_ne (tgt := 25) hx hb d_R_same_12 (by decide) (fun c12 => ?_) (fun c12 => ?_)
    · refine lv_aload_n hx hb d_R_same_25 rfl (lv_at hl 0 rfl) ?_
      refine lv_iconst (v := 1) hx hb d_R_same_26 (by decide) ?_
      refine dRi (As := [.int 1]) (rest := []) ⟨hx, hb, hml, hown, hts⟩ (c_R_fail l dC dI cZ y 0 F g h _ 1) (cwV 1 hts (gV kml_R_28 kim_R_fail ksl_R_fail kin_R kcd_R_fail) rfl rfl rfl (by decide +kernel) ⟨by show 0 + 1 ≤ 2; omega, by show 8 + (2 + 11) + 0 ≤ 70; omega⟩) hP hK hD hS hA rfl hl.1 rfl (Nat.le_of_ble_eq_true rfl) d_R_same_27 ⟨Nat.zero_le _, Nat.zero_le _⟩ (fun H locs hP hD hS => ?_)
      exact W.zret (ty := .boolean) (v := 0) hx hb hr rfl (fun t ht hW => ⟨⟨0, (g, h), rfl, rfl, by rw [ht]; exact hP, va_K.moved hW.alike hK, hD⟩, hS.F ht⟩) hS.2.2 d_R_same_30
    · exact absurd c12 (by decide)

set_option maxHeartbeats 8000000 in
set_option maxRecDepth 100000 in
theorem f_R_count (l : Launch) (dC : Nat → ClassId) (dI : Nat → Nat → Nat) (cZ : ClassId) (y : Nat → Nat) (fa : Int32) (F : Nat → Nat → Bool) (g h : Nat → Bool) (sz : Nat) (x1 : Int32) (hno : ¬ (okb x1 32)) : Met l y_R_count (.code y_R_count b_R_count 4 (some .int) :: W0) ({ frames := 2, cells := 0, slots := 0, locals := 70 } : Room) (va_Pc [.ref (y 0), .int x1] (dM dC dI cZ y fa F g h sz)) (va_Qi (fun (x : Int32) (_ : (Nat → Bool) × (Nat → Bool)) => x = 0) (fun u t => dE dC dI cZ y 1 F u.1 u.2 (va_A (dW cZ y fa F g h) sz) t) (va_A (dW cZ y fa F g h) sz)) 0 0 (va_A (dW cZ y fa F g h) sz) := by
  refine Met.ofW (cc := b_R_count) (maxL := 4) (ret := (some .int)) (by decide) rfl ?_
  intro p e s m args below meth c s₁ B hml hv
  obtain ⟨rfl, hsz, hP, hK, hD0⟩ := hv
  have hx := B.exec
  have hb := B.bytes
  have hr := B.returns
  have hts1 := atoms_spec (ws := .code y_R_count b_R_count 4 (some .int) :: W0) B.pre
  have hts : ∀ w ∈ W0, w.before _ s = true := fun w h => hts1 w (List.mem_cons_of_mem _ h)
  have hown : s.vm.findClass R_R = some m.cls := findClass_of_methodNamed B.named
  have hlocks := B.notSynchronized
  subst hsz
  have hD := hD0.self (sz := s.heap.size)
  generalize hAe : va_A (dW cZ y fa F g h) s.heap.size = A at hD ⊢
  have hA : ∀ q : Nat, s.heap.size ≤ q → A q := fun q h => by rw [← hAe]; exact Or.inr h
  have hS : va_S A s.heap s.heap [] := va_S.rf
  have hP : va_P (dC, dI) cls0 (dW cZ y fa F g h) s.heap := hP
  have hl := lv_entry ([.ref (y 0), .int x1]) (n := 4) (Nat.le_of_ble_eq_true rfl)
  rw [lg_entry_eq]
  generalize (lg_sl ([.ref (y 0), .int x1]) ++ List.replicate (4 - (lg_sl ([.ref (y 0), .int x1])).length) Slot.unset).toArray = ls at hl ⊢
  have hl : lv_has ls 4 [(0, .ref (y 0)), (1, .int x1)] := hl
  refine lv_aload_n hx hb d_R_count_0 rfl (lv_at hl 0 rfl) ?_
  refine lv_iconst (v := 0) hx hb d_R_count_1 (by decide) ?_
  refine dPut hx hb hts hown hK hP hD hS d_R_count_2 (fun H locs hP hD hS => ?_)
  refine lv_aload_n hx hb d_R_count_5 rfl (lv_at hl 0 rfl) ?_
  refine lv_iload_n hx hb d_R_count_6 rfl (lv_at hl 1 rfl) ?_
  refine lv_bipush (v := 32) hx hb d_R_count_7 (by decide) ?_
  by_cases k9 : okb x1 32
  · refine dRR (As := [.int x1, .int 32]) (rest := []) ⟨hx, hb, hml, hown, hts⟩ (c_R_out0 l dC dI cZ y 0 F g h x1 32 k9) (cwV 2 hts (gV kml_R_24 kim_R_out ksl_R_out kin_R kcd_R_out) rfl rfl rfl (by decide +kernel) ⟨by show 0 + 1 ≤ 2; omega, by show 8 + (3 + 11) + 0 ≤ 70; omega⟩) hP hK rfl hl.1 rfl (Nat.le_of_ble_eq_true rfl) d_R_count_9 ⟨Nat.zero_le _, Nat.zero_le _⟩ ?_
    exact absurd k9 hno
  · refine dRR (As := [.int x1, .int 32]) (rest := []) ⟨hx, hb, hml, hown, hts⟩ (c_R_out1 l dC dI cZ y 0 F g h x1 32 k9) (cwV 2 hts (gV kml_R_24 kim_R_out ksl_R_out kin_R kcd_R_out) rfl rfl rfl (by decide +kernel) ⟨by show 0 + 1 ≤ 2; omega, by show 8 + (3 + 11) + 0 ≤ 70; omega⟩) hP hK rfl hl.1 rfl (Nat.le_of_ble_eq_true rfl) d_R_count_9 ⟨Nat.zero_le _, Nat.zero_le _⟩ ?_
    refine lv_if_eq (tgt := 22) hx hb d_R_count_12 (by decide) (fun c12 => ?_) (fun c12 => ?_)
    · exact absurd c12 (by decide)
    · refine lv_aload_n hx hb d_R_count_15 rfl (lv_at hl 0 rfl) ?_
      refine lv_iconst (v := 1) hx hb d_R_count_16 (by decide) ?_
      refine dPut hx hb hts hown hK hP hD hS d_R_count_17 (fun H locs hP hD hS => ?_)
      refine lv_iconst (v := 0) hx hb d_R_count_20 (by decide) ?_
      exact W.iret (v := 0) hx hb hr (fun t ht hW => ⟨⟨0, (g, h), rfl, rfl, by rw [ht]; exact hP, va_K.moved hW.alike hK, hD⟩, hS.F ht⟩) hS.2.2 d_R_count_21

set_option maxHeartbeats 8000000 in
set_option maxRecDepth 100000 in
theorem f_R_support (l : Launch) (dC : Nat → ClassId) (dI : Nat → Nat → Nat) (cZ : ClassId) (y : Nat → Nat) (fa : Int32) (F : Nat → Nat → Bool) (g h : Nat → Bool) (sz : Nat) (x1 : Int32) (hno : ¬ (okb x1 32)) : Met l y_R_support (.code y_R_support b_R_support 2 (some .int) :: W0) ({ frames := 2, cells := 0, slots := 0, locals := 70 } : Room) (va_Pc [.ref (y 0), .int x1] (dM dC dI cZ y fa F g h sz)) (va_Qi (fun (x : Int32) (_ : (Nat → Bool) × (Nat → Bool)) => x = 0) (fun u t => dE dC dI cZ y 1 F u.1 u.2 (va_A (dW cZ y fa F g h) sz) t) (va_A (dW cZ y fa F g h) sz)) 0 0 (va_A (dW cZ y fa F g h) sz) := by
  refine Met.ofW (cc := b_R_support) (maxL := 2) (ret := (some .int)) (by decide) rfl ?_
  intro p e s m args below meth c s₁ B hml hv
  obtain ⟨rfl, hsz, hP, hK, hD0⟩ := hv
  have hx := B.exec
  have hb := B.bytes
  have hr := B.returns
  have hts1 := atoms_spec (ws := .code y_R_support b_R_support 2 (some .int) :: W0) B.pre
  have hts : ∀ w ∈ W0, w.before _ s = true := fun w h => hts1 w (List.mem_cons_of_mem _ h)
  have hown : s.vm.findClass R_R = some m.cls := findClass_of_methodNamed B.named
  have hlocks := B.notSynchronized
  subst hsz
  have hD := hD0.self (sz := s.heap.size)
  generalize hAe : va_A (dW cZ y fa F g h) s.heap.size = A at hD ⊢
  have hA : ∀ q : Nat, s.heap.size ≤ q → A q := fun q h => by rw [← hAe]; exact Or.inr h
  have hS : va_S A s.heap s.heap [] := va_S.rf
  have hP : va_P (dC, dI) cls0 (dW cZ y fa F g h) s.heap := hP
  have hl := lv_entry ([.ref (y 0), .int x1]) (n := 2) (Nat.le_of_ble_eq_true rfl)
  rw [lg_entry_eq]
  generalize (lg_sl ([.ref (y 0), .int x1]) ++ List.replicate (2 - (lg_sl ([.ref (y 0), .int x1])).length) Slot.unset).toArray = ls at hl ⊢
  have hl : lv_has ls 2 [(0, .ref (y 0)), (1, .int x1)] := hl
  refine lv_aload_n hx hb d_R_support_0 rfl (lv_at hl 0 rfl) ?_
  refine lv_iconst (v := 0) hx hb d_R_support_1 (by decide) ?_
  refine dPut hx hb hts hown hK hP hD hS d_R_support_2 (fun H locs hP hD hS => ?_)
  refine lv_aload_n hx hb d_R_support_5 rfl (lv_at hl 0 rfl) ?_
  refine lv_iload_n hx hb d_R_support_6 rfl (lv_at hl 1 rfl) ?_
  refine lv_bipush (v := 32) hx hb d_R_support_7 (by decide) ?_
  by_cases k9 : okb x1 32
  · refine dRR (As := [.int x1, .int 32]) (rest := []) ⟨hx, hb, hml, hown, hts⟩ (c_R_out0 l dC dI cZ y 0 F g h x1 32 k9) (cwV 2 hts (gV kml_R_24 kim_R_out ksl_R_out kin_R kcd_R_out) rfl rfl rfl (by decide +kernel) ⟨by show 0 + 1 ≤ 2; omega, by show 8 + (3 + 11) + 0 ≤ 70; omega⟩) hP hK rfl hl.1 rfl (Nat.le_of_ble_eq_true rfl) d_R_support_9 ⟨Nat.zero_le _, Nat.zero_le _⟩ ?_
    exact absurd k9 hno
  · refine dRR (As := [.int x1, .int 32]) (rest := []) ⟨hx, hb, hml, hown, hts⟩ (c_R_out1 l dC dI cZ y 0 F g h x1 32 k9) (cwV 2 hts (gV kml_R_24 kim_R_out ksl_R_out kin_R kcd_R_out) rfl rfl rfl (by decide +kernel) ⟨by show 0 + 1 ≤ 2; omega, by show 8 + (3 + 11) + 0 ≤ 70; omega⟩) hP hK rfl hl.1 rfl (Nat.le_of_ble_eq_true rfl) d_R_support_9 ⟨Nat.zero_le _, Nat.zero_le _⟩ ?_
    refine lv_if_ne (tgt := 21) hx hb d_R_support_12 (by decide) (fun c12 => ?_) (fun c12 => ?_)
    · refine lv_aload_n hx hb d_R_support_21 rfl (lv_at hl 0 rfl) ?_
      refine lv_iconst (v := 1) hx hb d_R_support_22 (by decide) ?_
      refine dPut hx hb hts hown hK hP hD hS d_R_support_23 (fun H locs hP hD hS => ?_)
      refine lv_iconst (v := 0) hx hb d_R_support_26 (by decide) ?_
      exact W.iret (v := 0) hx hb hr (fun t ht hW => ⟨⟨0, (g, h), rfl, rfl, by rw [ht]; exact hP, va_K.moved hW.alike hK, hD⟩, hS.F ht⟩) hS.2.2 d_R_support_27
    · exact absurd c12 (by decide)

set_option maxHeartbeats 8000000 in
set_option maxRecDepth 100000 in
theorem f_R_tidy (l : Launch) (dC : Nat → ClassId) (dI : Nat → Nat → Nat) (cZ : ClassId) (y : Nat → Nat) (fa : Int32) (F : Nat → Nat → Bool) (g h : Nat → Bool) (sz : Nat) (x1 : Int32) (hno : ¬ (okb x1 3)) : Met l y_R_tidy (.code y_R_tidy b_R_tidy 6 (some .int) :: W0) ({ frames := 2, cells := 0, slots := 0, locals := 70 } : Room) (va_Pc [.ref (y 0), .int x1] (dM dC dI cZ y fa F g h sz)) (va_Qi (fun (x : Int32) (_ : (Nat → Bool) × (Nat → Bool)) => x = 0) (fun u t => dE dC dI cZ y 1 F u.1 u.2 (va_A (dW cZ y fa F g h) sz) t) (va_A (dW cZ y fa F g h) sz)) 0 0 (va_A (dW cZ y fa F g h) sz) := by
  refine Met.ofW (cc := b_R_tidy) (maxL := 6) (ret := (some .int)) (by decide) rfl ?_
  intro p e s m args below meth c s₁ B hml hv
  obtain ⟨rfl, hsz, hP, hK, hD0⟩ := hv
  have hx := B.exec
  have hb := B.bytes
  have hr := B.returns
  have hts1 := atoms_spec (ws := .code y_R_tidy b_R_tidy 6 (some .int) :: W0) B.pre
  have hts : ∀ w ∈ W0, w.before _ s = true := fun w h => hts1 w (List.mem_cons_of_mem _ h)
  have hown : s.vm.findClass R_R = some m.cls := findClass_of_methodNamed B.named
  have hlocks := B.notSynchronized
  subst hsz
  have hD := hD0.self (sz := s.heap.size)
  generalize hAe : va_A (dW cZ y fa F g h) s.heap.size = A at hD ⊢
  have hA : ∀ q : Nat, s.heap.size ≤ q → A q := fun q h => by rw [← hAe]; exact Or.inr h
  have hS : va_S A s.heap s.heap [] := va_S.rf
  have hP : va_P (dC, dI) cls0 (dW cZ y fa F g h) s.heap := hP
  have hl := lv_entry ([.ref (y 0), .int x1]) (n := 6) (Nat.le_of_ble_eq_true rfl)
  rw [lg_entry_eq]
  generalize (lg_sl ([.ref (y 0), .int x1]) ++ List.replicate (6 - (lg_sl ([.ref (y 0), .int x1])).length) Slot.unset).toArray = ls at hl ⊢
  have hl : lv_has ls 6 [(0, .ref (y 0)), (1, .int x1)] := hl
  refine lv_aload_n hx hb d_R_tidy_0 rfl (lv_at hl 0 rfl) ?_
  refine lv_iconst (v := 0) hx hb d_R_tidy_1 (by decide) ?_
  refine dPut hx hb hts hown hK hP hD hS d_R_tidy_2 (fun H locs hP hD hS => ?_)
  refine lv_aload_n hx hb d_R_tidy_5 rfl (lv_at hl 0 rfl) ?_
  refine lv_iload_n hx hb d_R_tidy_6 rfl (lv_at hl 1 rfl) ?_
  refine lv_iconst (v := 3) hx hb d_R_tidy_7 (by decide) ?_
  by_cases k8 : okb x1 3
  · refine dRR (As := [.int x1, .int 3]) (rest := []) ⟨hx, hb, hml, hown, hts⟩ (c_R_out0 l dC dI cZ y 0 F g h x1 3 k8) (cwV 2 hts (gV kml_R_24 kim_R_out ksl_R_out kin_R kcd_R_out) rfl rfl rfl (by decide +kernel) ⟨by show 0 + 1 ≤ 2; omega, by show 8 + (3 + 11) + 0 ≤ 70; omega⟩) hP hK rfl hl.1 rfl (Nat.le_of_ble_eq_true rfl) d_R_tidy_8 ⟨Nat.zero_le _, Nat.zero_le _⟩ ?_
    exact absurd k8 hno
  · refine dRR (As := [.int x1, .int 3]) (rest := []) ⟨hx, hb, hml, hown, hts⟩ (c_R_out1 l dC dI cZ y 0 F g h x1 3 k8) (cwV 2 hts (gV kml_R_24 kim_R_out ksl_R_out kin_R kcd_R_out) rfl rfl rfl (by decide +kernel) ⟨by show 0 + 1 ≤ 2; omega, by show 8 + (3 + 11) + 0 ≤ 70; omega⟩) hP hK rfl hl.1 rfl (Nat.le_of_ble_eq_true rfl) d_R_tidy_8 ⟨Nat.zero_le _, Nat.zero_le _⟩ ?_
    refine lv_if_eq (tgt := 21) hx hb d_R_tidy_11 (by decide) (fun c11 => ?_) (fun c11 => ?_)
    · exact absurd c11 (by decide)
    · refine lv_aload_n hx hb d_R_tidy_14 rfl (lv_at hl 0 rfl) ?_
      refine lv_iconst (v := 1) hx hb d_R_tidy_15 (by decide) ?_
      refine dPut hx hb hts hown hK hP hD hS d_R_tidy_16 (fun H locs hP hD hS => ?_)
      refine lv_iconst (v := 0) hx hb d_R_tidy_19 (by decide) ?_
      exact W.iret (v := 0) hx hb hr (fun t ht hW => ⟨⟨0, (g, h), rfl, rfl, by rw [ht]; exact hP, va_K.moved hW.alike hK, hD⟩, hS.F ht⟩) hS.2.2 d_R_tidy_20
