set_option maxHeartbeats 4000000 in
set_option maxRecDepth 100000 in
/-- M_placeFor -/
theorem c_M_placeFor (l : Launch) (x1 x2 x3 : Int32) : Met l y_M_placeFor (.code y_M_placeFor b_M_placeFor 4 (some .int) :: W0) ({ frames := 0, cells := 0, slots := 0, locals := 0 } : Room) (va_Pc [.int x1, .int x2, .int x3] (fun _ => True)) (QcRead (j_place x1 x2 x3)) 0 0 (fun _ => False) := by
  refine Met.ofW (cc := b_M_placeFor) (maxL := 4) (ret := (some .int)) (by decide) rfl ?_
  intro p e s m args below meth c s₁ B hml hv
  obtain ⟨rfl, -⟩ := hv
  have hx := B.exec
  have hb := B.bytes
  have hr := B.returns
  have hts1 := atoms_spec (ws := .code y_M_placeFor b_M_placeFor 4 (some .int) :: W0) B.pre
  have hts : ∀ w ∈ W0, w.before _ s = true := fun w h => hts1 w (List.mem_cons_of_mem _ h)
  have hown : s.vm.findClass R_M = some m.cls := findClass_of_methodNamed B.named
  have hlocks := B.notSynchronized
  have hl := lv_entry ([.int x1, .int x2, .int x3]) (n := 4) (Nat.le_of_ble_eq_true rfl)
  rw [lg_entry_eq]
  generalize (lg_sl ([.int x1, .int x2, .int x3]) ++ List.replicate (4 - (lg_sl ([.int x1, .int x2, .int x3])).length) Slot.unset).toArray = ls at hl ⊢
  have hl : lv_has ls 4 [(0, .int x1), (1, .int x2), (2, .int x3)] := hl
  refine lv_iload_n hx hb d_M_placeFor_0 rfl (lv_at hl 0 rfl) ?_
  refine lv_ldc (v := -1640531535) hx hb hown (hts _ kco_M_19) d_M_placeFor_1 ?_
  refine lv_imul hx hb d_M_placeFor_3 ?_
  refine lv_iload_n hx hb d_M_placeFor_4 rfl (lv_at hl 1 rfl) ?_
  refine lv_ldc (v := -2048144789) hx hb hown (hts _ kco_M_20) d_M_placeFor_5 ?_
  refine lv_imul hx hb d_M_placeFor_7 ?_
  refine lv_iadd hx hb d_M_placeFor_8 ?_
  refine lv_iload_n hx hb d_M_placeFor_9 rfl (lv_at hl 2 rfl) ?_
  refine lv_ldc (v := -1028477387) hx hb hown (hts _ kco_M_21) d_M_placeFor_10 ?_
  refine lv_imul hx hb d_M_placeFor_12 ?_
  refine lv_iadd hx hb d_M_placeFor_13 ?_
  refine lv_istore_n (lv' := [(3, .int (((x1 * (-1640531535)) + (x2 * (-2048144789))) + (x3 * (-1028477387)))), (0, .int x1), (1, .int x2), (2, .int x3)]) hx hb d_M_placeFor_14 rfl hl (by decide) rfl (fun ls hl => ?_)
  refine lv_iload_n hx hb d_M_placeFor_15 rfl (lv_at hl 0 rfl) ?_
  refine lv_bipush (v := 20) hx hb d_M_placeFor_16 (by decide) ?_
  refine lv_iushr hx hb d_M_placeFor_18 rfl ?_
  refine lv_sipush (v := 1023) hx hb d_M_placeFor_19 (by decide) ?_
  refine lv_iand hx hb d_M_placeFor_22 ?_
  refine lv_iconst (v := 5) hx hb d_M_placeFor_23 (by decide) ?_
  refine lv_imul hx hb d_M_placeFor_24 ?_
  exact W.iret (v := (((((((x1 * (-1640531535)) + (x2 * (-2048144789))) + (x3 * (-1028477387))).toUInt32 >>> ((20 : Int32).toUInt32 &&& Int32.toUInt32 31)).toInt32) &&& 1023) * 5)) hx hb hr (fun t ht hW => ⟨by rw [show j_place x1 x2 x3 = (((((((x1 * (-1640531535)) + (x2 * (-2048144789))) + (x3 * (-1028477387))).toUInt32 >>> ((20 : Int32).toUInt32 &&& Int32.toUInt32 31)).toInt32) &&& 1023) * 5) from by rfl], ht⟩) (fun q h => by cases h) d_M_placeFor_25

set_option maxHeartbeats 4000000 in
set_option maxRecDepth 100000 in
/-- M_forget -/
theorem c_M_forget (l : Launch) (dC : Nat → ClassId) (dI : Nat → Nat → Nat) (cI : ClassId) (b : Nat → Nat) (E : Mm) (sz : Nat) : Met l y_M_forget (.code y_M_forget b_M_forget 1 none :: W0) ({ frames := 0, cells := 0, slots := 0, locals := 0 } : Room) (va_Pc [.ref (b 0)] (mM dC dI cI b E sz)) (va_Qv (fun _ : Unit => True) (fun _ t => mE dC dI cI b (j_forget E) (va_A (mW cI b E) sz) t) (va_A (mW cI b E) sz)) 0 0 (va_A (mW cI b E) sz) := by
  refine Met.ofW (cc := b_M_forget) (maxL := 1) (ret := none) (by decide) rfl ?_
  intro p e s m args below meth c s₁ B hml hv
  obtain ⟨rfl, hsz, hP, hK, hD0⟩ := hv
  have hx := B.exec
  have hb := B.bytes
  have hr := B.returns
  have hts1 := atoms_spec (ws := .code y_M_forget b_M_forget 1 none :: W0) B.pre
  have hts : ∀ w ∈ W0, w.before _ s = true := fun w h => hts1 w (List.mem_cons_of_mem _ h)
  have hown : s.vm.findClass R_M = some m.cls := findClass_of_methodNamed B.named
  have hlocks := B.notSynchronized
  subst hsz
  have hD := hD0.self (sz := s.heap.size)
  generalize hAe : va_A (mW cI b E) s.heap.size = A at hD ⊢
  have hA : ∀ q : Nat, s.heap.size ≤ q → A q := fun q h => by rw [← hAe]; exact Or.inr h
  have hS : va_S A s.heap s.heap [] := va_S.rf
  have hP : va_P (dC, dI) cls0 (mW cI b E) s.heap := hP
  have hl := lv_entry ([.ref (b 0)]) (n := 1) (Nat.le_of_ble_eq_true rfl)
  rw [lg_entry_eq]
  generalize (lg_sl ([.ref (b 0)]) ++ List.replicate (1 - (lg_sl ([.ref (b 0)])).length) Slot.unset).toArray = ls at hl ⊢
  have hl : lv_has ls 1 [(0, .ref (b 0))] := hl
  refine lv_aload_n hx hb d_M_forget_0 rfl (lv_at hl 0 rfl) ?_
  refine lv_dup hx hb d_M_forget_1 rfl ?_
  refine va_get (D := (dC, dI)) (ci := 3) (v := .int (E 1 0)) (C := R_M) (T := T_M) (N := 2) hx hb hts in_M hown hK hP 0 rfl rfl 1 (by decide) (hts _ kfl_M_15) (fun _ h9 => h9) rfl d_M_forget_2 ?_
  refine lv_iconst (v := 1) hx hb d_M_forget_5 (by decide) ?_
  refine lv_iadd hx hb d_M_forget_6 ?_
  refine mPut hx hb hts hown hK hP hD hS kfl_M_15 d_M_forget_7 (fun H locs hP hD hS => ?_)
  have hP9 : va_P (dC, dI) cls0 (mW cI b (j_forget E)) _ := (show up E 1 0 ((E 1 0) + 1) = j_forget E from by rfl) ▸ hP
  have hD9 : va_D A (mW cI b (j_forget E)) := (show up E 1 0 ((E 1 0) + 1) = j_forget E from by rfl) ▸ hD
  exact W.vret hx hb hr (fun t ht hW => ⟨⟨(), rfl, trivial, by rw [ht]; exact hP9, va_K.moved hW.alike hK, hD9⟩, hS.F ht⟩) hS.2.2 d_M_forget_10

set_option maxHeartbeats 4000000 in
set_option maxRecDepth 100000 in
/-- M_answerFor -/
theorem c_M_answerFor (l : Launch) (dC : Nat → ClassId) (dI : Nat → Nat → Nat) (cI : ClassId) (b : Nat → Nat) (E : Mm) (x1 x2 x3 : Int32) : Met l y_M_answerFor (.code y_M_answerFor b_M_answerFor 6 (some .int) :: W0) ({ frames := 1, cells := 0, slots := 0, locals := 23 } : Room) (va_Pc [.ref (b 0), .int x1, .int x2, .int x3] (mR dC dI cI b E)) (QcRead (j_answerFor E x1 x2 x3)) 0 0 (fun _ => False) := by
  refine Met.ofW (cc := b_M_answerFor) (maxL := 6) (ret := (some .int)) (by decide) rfl ?_
  intro p e s m args below meth c s₁ B hml hv
  obtain ⟨rfl, hP, hK⟩ := hv
  have hx := B.exec
  have hb := B.bytes
  have hr := B.returns
  have hts1 := atoms_spec (ws := .code y_M_answerFor b_M_answerFor 6 (some .int) :: W0) B.pre
  have hts : ∀ w ∈ W0, w.before _ s = true := fun w h => hts1 w (List.mem_cons_of_mem _ h)
  have hown : s.vm.findClass R_M = some m.cls := findClass_of_methodNamed B.named
  have hlocks := B.notSynchronized
  have hl := lv_entry ([.ref (b 0), .int x1, .int x2, .int x3]) (n := 6) (Nat.le_of_ble_eq_true rfl)
  rw [lg_entry_eq]
  generalize (lg_sl ([.ref (b 0), .int x1, .int x2, .int x3]) ++ List.replicate (6 - (lg_sl ([.ref (b 0), .int x1, .int x2, .int x3])).length) Slot.unset).toArray = ls at hl ⊢
  have hl : lv_has ls 6 [(0, .ref (b 0)), (1, .int x1), (2, .int x2), (3, .int x3)] := hl
  refine lv_iload_n hx hb d_M_answerFor_0 rfl (lv_at hl 1 rfl) ?_
  refine lv_iload_n hx hb d_M_answerFor_1 rfl (lv_at hl 2 rfl) ?_
  refine lv_iload_n hx hb d_M_answerFor_2 rfl (lv_at hl 3 rfl) ?_
  refine nCallS (As := [.int x1, .int x2, .int x3]) (rest := []) ⟨hx, hb, hml, hown, hts⟩ (c_M_placeFor l x1 x2 x3) (va_cwS 3 hts (gS kml_M_22 kst_M_placeFor kin_M kcd_M_placeFor) rfl rfl rfl (by decide +kernel) ⟨Nat.le_of_ble_eq_true rfl, Nat.le_of_ble_eq_true rfl⟩) rfl hl.1 rfl (Nat.le_of_ble_eq_true rfl) d_M_answerFor_3 ⟨Nat.zero_le _, Nat.zero_le _⟩ ?_
  refine lv_istore (lv' := [(4, .int (j_place x1 x2 x3)), (0, .ref (b 0)), (1, .int x1), (2, .int x2), (3, .int x3)]) hx hb d_M_answerFor_6 hl (by decide) rfl (fun ls hl => ?_)
  refine lv_iload hx hb d_M_answerFor_8 (lv_at hl 0 rfl) ?_
  refine lv_if_lt (tgt := 41) hx hb d_M_answerFor_10 (by decide) (fun c10 => ?_) (fun c10 => ?_)
  · refine lv_iconst (v := -1) hx hb d_M_answerFor_41 (by decide) ?_
    exact W.iret (v := (-1)) hx hb hr (fun t ht hW => ⟨by rw [show j_answerFor E x1 x2 x3 = (-1) from by simp only [j_answerFor, c10, Int32.not_le.mpr c10, if_true, if_false, not_true_eq_false, not_false_eq_true, true_and, and_true, false_and, and_false, true_or, or_true, false_or, or_false, ite_true, ite_false, eq_self]], ht⟩) (fun q h => by cases h) d_M_answerFor_42
  · refine lv_iload hx hb d_M_answerFor_13 (lv_at hl 0 rfl) ?_
    refine lv_iconst (v := 5) hx hb d_M_answerFor_15 (by decide) ?_
    refine lv_iadd hx hb d_M_answerFor_16 ?_
    refine lv_aload_n hx hb d_M_answerFor_17 rfl (lv_at hl 1 rfl) ?_
    refine va_get (D := (dC, dI)) (ci := 3) (v := .ref (b 1)) (C := R_M) (T := T_M) (N := 2) hx hb hts in_M hown hK hP 0 rfl rfl 0 (by decide) (hts _ kfl_M_11) (fun _ h9 => h9) rfl d_M_answerFor_18 ?_
    refine va_alen (v := nI 5120) hx hb hK hP 1 0 rfl rfl rfl d_M_answerFor_21 ?_
    refine lv_icmp_gt (tgt := 41) hx hb d_M_answerFor_22 (by decide) (fun c22 => ?_) (fun c22 => ?_)
    · refine lv_iconst (v := -1) hx hb d_M_answerFor_41 (by decide) ?_
      exact W.iret (v := (-1)) hx hb hr (fun t ht hW => ⟨by rw [show j_answerFor E x1 x2 x3 = (-1) from by simp only [j_answerFor, c10, c22, Int32.not_lt.mp c10, Int32.not_le.mpr c22, if_true, if_false, not_true_eq_false, not_false_eq_true, true_and, and_true, false_and, and_false, true_or, or_true, false_or, or_false, ite_true, ite_false, eq_self]], ht⟩) (fun q h => by cases h) d_M_answerFor_42
    · refine lv_aload_n hx hb d_M_answerFor_25 rfl (lv_at hl 1 rfl) ?_
      refine va_get (D := (dC, dI)) (ci := 3) (v := .ref (b 1)) (C := R_M) (T := T_M) (N := 2) hx hb hts in_M hown hK hP 0 rfl rfl 0 (by decide) (hts _ kfl_M_11) (fun _ h9 => h9) rfl d_M_answerFor_26 ?_
      refine lv_iload hx hb d_M_answerFor_29 (lv_at hl 0 rfl) ?_
      refine lv_iconst (v := 3) hx hb d_M_answerFor_31 (by decide) ?_
      refine lv_iadd hx hb d_M_answerFor_32 ?_
      refine va_iald hx hb hK hP 1 0 rfl rfl (place_in3 x1 x2 x3) d_M_answerFor_33 ?_
      refine lv_aload_n hx hb d_M_answerFor_34 rfl (lv_at hl 1 rfl) ?_
      refine va_get (D := (dC, dI)) (ci := 3) (v := .int (E 1 0)) (C := R_M) (T := T_M) (N := 2) hx hb hts in_M hown hK hP 0 rfl rfl 1 (by decide) (hts _ kfl_M_15) (fun _ h9 => h9) rfl d_M_answerFor_35 ?_
      refine lv_icmp_eq (tgt := 43) hx hb d_M_answerFor_38 (by decide) (fun c38 => ?_) (fun c38 => ?_)
      · refine lv_aload_n hx hb d_M_answerFor_43 rfl (lv_at hl 1 rfl) ?_
        refine va_get (D := (dC, dI)) (ci := 3) (v := .ref (b 1)) (C := R_M) (T := T_M) (N := 2) hx hb hts in_M hown hK hP 0 rfl rfl 0 (by decide) (hts _ kfl_M_11) (fun _ h9 => h9) rfl d_M_answerFor_44 ?_
        refine lv_iload hx hb d_M_answerFor_47 (lv_at hl 0 rfl) ?_
        refine va_iald hx hb hK hP 1 0 rfl rfl (place_in0 x1 x2 x3) d_M_answerFor_49 ?_
        refine lv_iload_n hx hb d_M_answerFor_50 rfl (lv_at hl 2 rfl) ?_
        refine lv_icmp_ne (tgt := 84) hx hb d_M_answerFor_51 (by decide) (fun c51 => ?_) (fun c51 => ?_)
        · refine lv_iconst (v := 0) hx hb d_M_answerFor_84 (by decide) ?_
          refine lv_istore (lv' := [(5, .int 0), (4, .int (j_place x1 x2 x3)), (0, .ref (b 0)), (1, .int x1), (2, .int x2), (3, .int x3)]) hx hb d_M_answerFor_85 hl (by decide) rfl (fun ls hl => ?_)
          refine lv_iload hx hb d_M_answerFor_87 (lv_at hl 0 rfl) ?_
          refine lv_if_eq (tgt := 104) hx hb d_M_answerFor_89 (by decide) (fun c89 => ?_) (fun c89 => ?_)
          · refine lv_iconst (v := -1) hx hb d_M_answerFor_104 (by decide) ?_
            exact W.iret (v := (-1)) hx hb hr (fun t ht hW => ⟨by rw [show j_answerFor E x1 x2 x3 = (-1) from by (first | (simp only [j_answerFor, c10, c22, if_pos c38, c51, Int32.not_lt.mp c10, Int32.not_lt.mp c22, if_true, if_false, not_true_eq_false, not_false_eq_true, true_and, and_true, false_and, and_false, true_or, or_true, false_or, or_false, ite_true, ite_false, eq_self]; done) | (simp only [j_answerFor, c10, c22, c38, c51, Int32.not_lt.mp c10, Int32.not_lt.mp c22, if_true, if_false, not_true_eq_false, not_false_eq_true, true_and, and_true, false_and, and_false, true_or, or_true, false_or, or_false, ite_true, ite_false, eq_self]; done) | (simp only [j_answerFor, c10, c22, c51, Int32.not_lt.mp c10, Int32.not_lt.mp c22, if_true, if_false, not_true_eq_false, not_false_eq_true, true_and, and_true, false_and, and_false, true_or, or_true, false_or, or_false, ite_true, ite_false, eq_self]; rw [if_pos c38]; done))], ht⟩) (fun q h => by cases h) d_M_answerFor_105
          · exact absurd (by decide) c89
        · refine lv_aload_n hx hb d_M_answerFor_54 rfl (lv_at hl 1 rfl) ?_
          refine va_get (D := (dC, dI)) (ci := 3) (v := .ref (b 1)) (C := R_M) (T := T_M) (N := 2) hx hb hts in_M hown hK hP 0 rfl rfl 0 (by decide) (hts _ kfl_M_11) (fun _ h9 => h9) rfl d_M_answerFor_55 ?_
          refine lv_iload hx hb d_M_answerFor_58 (lv_at hl 0 rfl) ?_
          refine lv_iconst (v := 1) hx hb d_M_answerFor_60 (by decide) ?_
          refine lv_iadd hx hb d_M_answerFor_61 ?_
          refine va_iald hx hb hK hP 1 0 rfl rfl (place_in1 x1 x2 x3) d_M_answerFor_62 ?_
          refine lv_iload_n hx hb d_M_answerFor_63 rfl (lv_at hl 3 rfl) ?_
          refine lv_icmp_ne (tgt := 84) hx hb d_M_answerFor_64 (by decide) (fun c64 => ?_) (fun c64 => ?_)
          · refine lv_iconst (v := 0) hx hb d_M_answerFor_84 (by decide) ?_
            refine lv_istore (lv' := [(5, .int 0), (4, .int (j_place x1 x2 x3)), (0, .ref (b 0)), (1, .int x1), (2, .int x2), (3, .int x3)]) hx hb d_M_answerFor_85 hl (by decide) rfl (fun ls hl => ?_)
            refine lv_iload hx hb d_M_answerFor_87 (lv_at hl 0 rfl) ?_
            refine lv_if_eq (tgt := 104) hx hb d_M_answerFor_89 (by decide) (fun c89 => ?_) (fun c89 => ?_)
            · refine lv_iconst (v := -1) hx hb d_M_answerFor_104 (by decide) ?_
              exact W.iret (v := (-1)) hx hb hr (fun t ht hW => ⟨by rw [show j_answerFor E x1 x2 x3 = (-1) from by (first | (simp only [j_answerFor, c10, c22, if_pos c38, if_pos c51, c64, Int32.not_lt.mp c10, Int32.not_lt.mp c22, if_true, if_false, not_true_eq_false, not_false_eq_true, true_and, and_true, false_and, and_false, true_or, or_true, false_or, or_false, ite_true, ite_false, eq_self]; done) | (simp only [j_answerFor, c10, c22, c38, c51, c64, Int32.not_lt.mp c10, Int32.not_lt.mp c22, if_true, if_false, not_true_eq_false, not_false_eq_true, true_and, and_true, false_and, and_false, true_or, or_true, false_or, or_false, ite_true, ite_false, eq_self]; done) | (simp only [j_answerFor, c10, c22, c64, Int32.not_lt.mp c10, Int32.not_lt.mp c22, if_true, if_false, not_true_eq_false, not_false_eq_true, true_and, and_true, false_and, and_false, true_or, or_true, false_or, or_false, ite_true, ite_false, eq_self]; rw [if_pos c38, if_pos c51]; done))], ht⟩) (fun q h => by cases h) d_M_answerFor_105
            · exact absurd (by decide) c89
          · refine lv_aload_n hx hb d_M_answerFor_67 rfl (lv_at hl 1 rfl) ?_
            refine va_get (D := (dC, dI)) (ci := 3) (v := .ref (b 1)) (C := R_M) (T := T_M) (N := 2) hx hb hts in_M hown hK hP 0 rfl rfl 0 (by decide) (hts _ kfl_M_11) (fun _ h9 => h9) rfl d_M_answerFor_68 ?_
            refine lv_iload hx hb d_M_answerFor_71 (lv_at hl 0 rfl) ?_
            refine lv_iconst (v := 2) hx hb d_M_answerFor_73 (by decide) ?_
            refine lv_iadd hx hb d_M_answerFor_74 ?_
            refine va_iald hx hb hK hP 1 0 rfl rfl (place_in2 x1 x2 x3) d_M_answerFor_75 ?_
            refine lv_iload_n hx hb d_M_answerFor_76 rfl (lv_at hl 4 rfl) ?_
            refine lv_icmp_ne (tgt := 84) hx hb d_M_answerFor_77 (by decide) (fun c77 => ?_) (fun c77 => ?_)
            · refine lv_iconst (v := 0) hx hb d_M_answerFor_84 (by decide) ?_
              refine lv_istore (lv' := [(5, .int 0), (4, .int (j_place x1 x2 x3)), (0, .ref (b 0)), (1, .int x1), (2, .int x2), (3, .int x3)]) hx hb d_M_answerFor_85 hl (by decide) rfl (fun ls hl => ?_)
              refine lv_iload hx hb d_M_answerFor_87 (lv_at hl 0 rfl) ?_
              refine lv_if_eq (tgt := 104) hx hb d_M_answerFor_89 (by decide) (fun c89 => ?_) (fun c89 => ?_)
              · refine lv_iconst (v := -1) hx hb d_M_answerFor_104 (by decide) ?_
                exact W.iret (v := (-1)) hx hb hr (fun t ht hW => ⟨by rw [show j_answerFor E x1 x2 x3 = (-1) from by (first | (simp only [j_answerFor, c10, c22, if_pos c38, if_pos c51, if_pos c64, c77, Int32.not_lt.mp c10, Int32.not_lt.mp c22, if_true, if_false, not_true_eq_false, not_false_eq_true, true_and, and_true, false_and, and_false, true_or, or_true, false_or, or_false, ite_true, ite_false, eq_self]; done) | (simp only [j_answerFor, c10, c22, c38, c51, c64, c77, Int32.not_lt.mp c10, Int32.not_lt.mp c22, if_true, if_false, not_true_eq_false, not_false_eq_true, true_and, and_true, false_and, and_false, true_or, or_true, false_or, or_false, ite_true, ite_false, eq_self]; done) | (simp only [j_answerFor, c10, c22, c77, Int32.not_lt.mp c10, Int32.not_lt.mp c22, if_true, if_false, not_true_eq_false, not_false_eq_true, true_and, and_true, false_and, and_false, true_or, or_true, false_or, or_false, ite_true, ite_false, eq_self]; rw [if_pos c38, if_pos c51, if_pos c64]; done))], ht⟩) (fun q h => by cases h) d_M_answerFor_105
              · exact absurd (by decide) c89
            · refine lv_iconst (v := 1) hx hb d_M_answerFor_80 (by decide) ?_
              refine lv_goto (tgt := 85) hx hb d_M_answerFor_81 (by decide) ?_
              refine lv_istore (lv' := [(5, .int 1), (4, .int (j_place x1 x2 x3)), (0, .ref (b 0)), (1, .int x1), (2, .int x2), (3, .int x3)]) hx hb d_M_answerFor_85 hl (by decide) rfl (fun ls hl => ?_)
              refine lv_iload hx hb d_M_answerFor_87 (lv_at hl 0 rfl) ?_
              refine lv_if_eq (tgt := 104) hx hb d_M_answerFor_89 (by decide) (fun c89 => ?_) (fun c89 => ?_)
              · exact absurd c89 (by decide)
              · refine lv_aload_n hx hb d_M_answerFor_92 rfl (lv_at hl 2 rfl) ?_
                refine va_get (D := (dC, dI)) (ci := 3) (v := .ref (b 1)) (C := R_M) (T := T_M) (N := 2) hx hb hts in_M hown hK hP 0 rfl rfl 0 (by decide) (hts _ kfl_M_11) (fun _ h9 => h9) rfl d_M_answerFor_93 ?_
                refine lv_iload hx hb d_M_answerFor_96 (lv_at hl 1 rfl) ?_
                refine lv_iconst (v := 4) hx hb d_M_answerFor_98 (by decide) ?_
                refine lv_iadd hx hb d_M_answerFor_99 ?_
                refine va_iald hx hb hK hP 1 0 rfl rfl (place_in4 x1 x2 x3) d_M_answerFor_100 ?_
                refine lv_goto (tgt := 105) hx hb d_M_answerFor_101 (by decide) ?_
                exact W.iret (v := (E 0 ((j_place x1 x2 x3) + 4).toNatClampNeg)) hx hb hr (fun t ht hW => ⟨by rw [show j_answerFor E x1 x2 x3 = E 0 ((j_place x1 x2 x3) + 4).toNatClampNeg from by (first | (simp only [j_answerFor, c10, c22, if_pos c38, if_pos c51, if_pos c64, if_pos c77, Int32.not_lt.mp c10, Int32.not_lt.mp c22, if_true, if_false, not_true_eq_false, not_false_eq_true, true_and, and_true, false_and, and_false, true_or, or_true, false_or, or_false, ite_true, ite_false, eq_self]; done) | (simp only [j_answerFor, c10, c22, c38, c51, c64, c77, Int32.not_lt.mp c10, Int32.not_lt.mp c22, if_true, if_false, not_true_eq_false, not_false_eq_true, true_and, and_true, false_and, and_false, true_or, or_true, false_or, or_false, ite_true, ite_false, eq_self]; done) | (simp only [j_answerFor, c10, c22, Int32.not_lt.mp c10, Int32.not_lt.mp c22, if_true, if_false, not_true_eq_false, not_false_eq_true, true_and, and_true, false_and, and_false, true_or, or_true, false_or, or_false, ite_true, ite_false, eq_self]; rw [if_pos c38, if_pos c51, if_pos c64, if_pos c77]; done))], ht⟩) (fun q h => by cases h) d_M_answerFor_105
      · refine lv_iconst (v := -1) hx hb d_M_answerFor_41 (by decide) ?_
        exact W.iret (v := (-1)) hx hb hr (fun t ht hW => ⟨by rw [show j_answerFor E x1 x2 x3 = (-1) from by simp only [j_answerFor, c10, c22, c38, Int32.not_lt.mp c10, Int32.not_lt.mp c22, if_true, if_false, not_true_eq_false, not_false_eq_true, true_and, and_true, false_and, and_false, true_or, or_true, false_or, or_false, ite_true, ite_false, eq_self]], ht⟩) (fun q h => by cases h) d_M_answerFor_42

set_option maxHeartbeats 4000000 in
set_option maxRecDepth 100000 in
/-- M_keep -/
theorem c_M_keep (l : Launch) (dC : Nat → ClassId) (dI : Nat → Nat → Nat) (cI : ClassId) (b : Nat → Nat) (E : Mm) (sz : Nat) (x1 x2 x3 x4 : Int32) : Met l y_M_keep (.code y_M_keep b_M_keep 6 none :: W0) ({ frames := 1, cells := 0, slots := 0, locals := 23 } : Room) (va_Pc [.ref (b 0), .int x1, .int x2, .int x3, .int x4] (mM dC dI cI b E sz)) (va_Qv (fun _ : Unit => True) (fun _ t => mE dC dI cI b (j_keep E x1 x2 x3 x4) (va_A (mW cI b E) sz) t) (va_A (mW cI b E) sz)) 0 0 (va_A (mW cI b E) sz) := by
  refine Met.ofW (cc := b_M_keep) (maxL := 6) (ret := none) (by decide) rfl ?_
  intro p e s m args below meth c s₁ B hml hv
  obtain ⟨rfl, hsz, hP, hK, hD0⟩ := hv
  have hx := B.exec
  have hb := B.bytes
  have hr := B.returns
  have hts1 := atoms_spec (ws := .code y_M_keep b_M_keep 6 none :: W0) B.pre
  have hts : ∀ w ∈ W0, w.before _ s = true := fun w h => hts1 w (List.mem_cons_of_mem _ h)
  have hown : s.vm.findClass R_M = some m.cls := findClass_of_methodNamed B.named
  have hlocks := B.notSynchronized
  subst hsz
  have hD := hD0.self (sz := s.heap.size)
  generalize hAe : va_A (mW cI b E) s.heap.size = A at hD ⊢
  have hA : ∀ q : Nat, s.heap.size ≤ q → A q := fun q h => by rw [← hAe]; exact Or.inr h
  have hS : va_S A s.heap s.heap [] := va_S.rf
  have hP : va_P (dC, dI) cls0 (mW cI b E) s.heap := hP
  have hl := lv_entry ([.ref (b 0), .int x1, .int x2, .int x3, .int x4]) (n := 6) (Nat.le_of_ble_eq_true rfl)
  rw [lg_entry_eq]
  generalize (lg_sl ([.ref (b 0), .int x1, .int x2, .int x3, .int x4]) ++ List.replicate (6 - (lg_sl ([.ref (b 0), .int x1, .int x2, .int x3, .int x4])).length) Slot.unset).toArray = ls at hl ⊢
  have hl : lv_has ls 6 [(0, .ref (b 0)), (1, .int x1), (2, .int x2), (3, .int x3), (4, .int x4)] := hl
  refine lv_iload_n hx hb d_M_keep_0 rfl (lv_at hl 1 rfl) ?_
  refine lv_iload_n hx hb d_M_keep_1 rfl (lv_at hl 2 rfl) ?_
  refine lv_iload_n hx hb d_M_keep_2 rfl (lv_at hl 3 rfl) ?_
  refine nCallS (As := [.int x1, .int x2, .int x3]) (rest := []) ⟨hx, hb, hml, hown, hts⟩ (c_M_placeFor l x1 x2 x3) (va_cwS 3 hts (gS kml_M_22 kst_M_placeFor kin_M kcd_M_placeFor) rfl rfl rfl (by decide +kernel) ⟨Nat.le_of_ble_eq_true rfl, Nat.le_of_ble_eq_true rfl⟩) rfl hl.1 rfl (Nat.le_of_ble_eq_true rfl) d_M_keep_3 ⟨Nat.zero_le _, Nat.zero_le _⟩ ?_
  refine lv_istore (lv' := [(5, .int (j_place x1 x2 x3)), (0, .ref (b 0)), (1, .int x1), (2, .int x2), (3, .int x3), (4, .int x4)]) hx hb d_M_keep_6 hl (by decide) rfl (fun ls hl => ?_)
  refine lv_iload hx hb d_M_keep_8 (lv_at hl 0 rfl) ?_
  refine lv_if_lt (tgt := 25) hx hb d_M_keep_10 (by decide) (fun c10 => ?_) (fun c10 => ?_)
  · have hP9 : va_P (dC, dI) cls0 (mW cI b (j_keep E x1 x2 x3 x4)) _ := (show E = j_keep E x1 x2 x3 x4 from by simp only [j_keep, ue_1, c10, Int32.not_le.mpr c10, if_true, if_false, not_true_eq_false, not_false_eq_true, true_and, and_true, false_and, and_false, true_or, or_true, false_or, or_false, ite_true, ite_false, eq_self]) ▸ hP
    have hD9 : va_D A (mW cI b (j_keep E x1 x2 x3 x4)) := (show E = j_keep E x1 x2 x3 x4 from by simp only [j_keep, ue_1, c10, Int32.not_le.mpr c10, if_true, if_false, not_true_eq_false, not_false_eq_true, true_and, and_true, false_and, and_false, true_or, or_true, false_or, or_false, ite_true, ite_false, eq_self]) ▸ hD
    exact W.vret hx hb hr (fun t ht hW => ⟨⟨(), rfl, trivial, by rw [ht]; exact hP9, va_K.moved hW.alike hK, hD9⟩, hS.F ht⟩) hS.2.2 d_M_keep_25
  · refine lv_iload hx hb d_M_keep_13 (lv_at hl 0 rfl) ?_
    refine lv_iconst (v := 5) hx hb d_M_keep_15 (by decide) ?_
    refine lv_iadd hx hb d_M_keep_16 ?_
    refine lv_aload_n hx hb d_M_keep_17 rfl (lv_at hl 1 rfl) ?_
    refine va_get (D := (dC, dI)) (ci := 3) (v := .ref (b 1)) (C := R_M) (T := T_M) (N := 2) hx hb hts in_M hown hK hP 0 rfl rfl 0 (by decide) (hts _ kfl_M_11) (fun _ h9 => h9) rfl d_M_keep_18 ?_
    refine va_alen (v := nI 5120) hx hb hK hP 1 0 rfl rfl rfl d_M_keep_21 ?_
    refine lv_icmp_le (tgt := 26) hx hb d_M_keep_22 (by decide) (fun c22 => ?_) (fun c22 => ?_)
    · refine lv_aload_n hx hb d_M_keep_26 rfl (lv_at hl 1 rfl) ?_
      refine va_get (D := (dC, dI)) (ci := 3) (v := .ref (b 1)) (C := R_M) (T := T_M) (N := 2) hx hb hts in_M hown hK hP 0 rfl rfl 0 (by decide) (hts _ kfl_M_11) (fun _ h9 => h9) rfl d_M_keep_27 ?_
      refine lv_iload hx hb d_M_keep_30 (lv_at hl 0 rfl) ?_
      refine lv_iload_n hx hb d_M_keep_32 rfl (lv_at hl 2 rfl) ?_
      refine mAst hx hb hK hP hD hS (place_in0 x1 x2 x3) d_M_keep_33 (fun H locs hP hD hS => ?_)
      refine lv_aload_n hx hb d_M_keep_34 rfl (lv_at hl 1 rfl) ?_
      refine va_get (D := (dC, dI)) (ci := 3) (v := .ref (b 1)) (C := R_M) (T := T_M) (N := 2) hx hb hts in_M hown hK hP 0 rfl rfl 0 (by decide) (hts _ kfl_M_11) (fun _ h9 => h9) rfl d_M_keep_35 ?_
      refine lv_iload hx hb d_M_keep_38 (lv_at hl 0 rfl) ?_
      refine lv_iconst (v := 1) hx hb d_M_keep_40 (by decide) ?_
      refine lv_iadd hx hb d_M_keep_41 ?_
      refine lv_iload_n hx hb d_M_keep_42 rfl (lv_at hl 3 rfl) ?_
      refine mAst hx hb hK hP hD hS (place_in1 x1 x2 x3) d_M_keep_43 (fun H locs hP hD hS => ?_)
      refine lv_aload_n hx hb d_M_keep_44 rfl (lv_at hl 1 rfl) ?_
      refine va_get (D := (dC, dI)) (ci := 3) (v := .ref (b 1)) (C := R_M) (T := T_M) (N := 2) hx hb hts in_M hown hK hP 0 rfl rfl 0 (by decide) (hts _ kfl_M_11) (fun _ h9 => h9) rfl d_M_keep_45 ?_
      refine lv_iload hx hb d_M_keep_48 (lv_at hl 0 rfl) ?_
      refine lv_iconst (v := 2) hx hb d_M_keep_50 (by decide) ?_
      refine lv_iadd hx hb d_M_keep_51 ?_
      refine lv_iload_n hx hb d_M_keep_52 rfl (lv_at hl 4 rfl) ?_
      refine mAst hx hb hK hP hD hS (place_in2 x1 x2 x3) d_M_keep_53 (fun H locs hP hD hS => ?_)
      refine lv_aload_n hx hb d_M_keep_54 rfl (lv_at hl 1 rfl) ?_
      refine va_get (D := (dC, dI)) (ci := 3) (v := .ref (b 1)) (C := R_M) (T := T_M) (N := 2) hx hb hts in_M hown hK hP 0 rfl rfl 0 (by decide) (hts _ kfl_M_11) (fun _ h9 => h9) rfl d_M_keep_55 ?_
      refine lv_iload hx hb d_M_keep_58 (lv_at hl 0 rfl) ?_
      refine lv_iconst (v := 3) hx hb d_M_keep_60 (by decide) ?_
      refine lv_iadd hx hb d_M_keep_61 ?_
      refine lv_aload_n hx hb d_M_keep_62 rfl (lv_at hl 1 rfl) ?_
      refine va_get (D := (dC, dI)) (ci := 3) (v := .int ((up (up (up E 0 (j_place x1 x2 x3).toNatClampNeg x1) 0 ((j_place x1 x2 x3) + 1).toNatClampNeg x2) 0 ((j_place x1 x2 x3) + 2).toNatClampNeg x3) 1 0)) (C := R_M) (T := T_M) (N := 2) hx hb hts in_M hown hK hP 0 rfl rfl 1 (by decide) (hts _ kfl_M_15) (fun _ h9 => h9) rfl d_M_keep_63 ?_
      refine mAst hx hb hK hP hD hS (place_in3 x1 x2 x3) d_M_keep_66 (fun H locs hP hD hS => ?_)
      refine lv_aload_n hx hb d_M_keep_67 rfl (lv_at hl 1 rfl) ?_
      refine va_get (D := (dC, dI)) (ci := 3) (v := .ref (b 1)) (C := R_M) (T := T_M) (N := 2) hx hb hts in_M hown hK hP 0 rfl rfl 0 (by decide) (hts _ kfl_M_11) (fun _ h9 => h9) rfl d_M_keep_68 ?_
      refine lv_iload hx hb d_M_keep_71 (lv_at hl 0 rfl) ?_
      refine lv_iconst (v := 4) hx hb d_M_keep_73 (by decide) ?_
      refine lv_iadd hx hb d_M_keep_74 ?_
      refine lv_iload hx hb d_M_keep_75 (lv_at hl 5 rfl) ?_
      refine mAst hx hb hK hP hD hS (place_in4 x1 x2 x3) d_M_keep_77 (fun H locs hP hD hS => ?_)
      have hP9 : va_P (dC, dI) cls0 (mW cI b (j_keep E x1 x2 x3 x4)) _ := (show up (up (up (up (up E 0 (j_place x1 x2 x3).toNatClampNeg x1) 0 ((j_place x1 x2 x3) + 1).toNatClampNeg x2) 0 ((j_place x1 x2 x3) + 2).toNatClampNeg x3) 0 ((j_place x1 x2 x3) + 3).toNatClampNeg ((up (up (up E 0 (j_place x1 x2 x3).toNatClampNeg x1) 0 ((j_place x1 x2 x3) + 1).toNatClampNeg x2) 0 ((j_place x1 x2 x3) + 2).toNatClampNeg x3) 1 0)) 0 ((j_place x1 x2 x3) + 4).toNatClampNeg x4 = j_keep E x1 x2 x3 x4 from by simp only [j_keep, ue_1, c10, c22, Int32.not_lt.mp c10, Int32.not_lt.mpr c22, if_true, if_false, not_true_eq_false, not_false_eq_true, true_and, and_true, false_and, and_false, true_or, or_true, false_or, or_false, ite_true, ite_false, eq_self]) ▸ hP
      have hD9 : va_D A (mW cI b (j_keep E x1 x2 x3 x4)) := (show up (up (up (up (up E 0 (j_place x1 x2 x3).toNatClampNeg x1) 0 ((j_place x1 x2 x3) + 1).toNatClampNeg x2) 0 ((j_place x1 x2 x3) + 2).toNatClampNeg x3) 0 ((j_place x1 x2 x3) + 3).toNatClampNeg ((up (up (up E 0 (j_place x1 x2 x3).toNatClampNeg x1) 0 ((j_place x1 x2 x3) + 1).toNatClampNeg x2) 0 ((j_place x1 x2 x3) + 2).toNatClampNeg x3) 1 0)) 0 ((j_place x1 x2 x3) + 4).toNatClampNeg x4 = j_keep E x1 x2 x3 x4 from by simp only [j_keep, ue_1, c10, c22, Int32.not_lt.mp c10, Int32.not_lt.mpr c22, if_true, if_false, not_true_eq_false, not_false_eq_true, true_and, and_true, false_and, and_false, true_or, or_true, false_or, or_false, ite_true, ite_false, eq_self]) ▸ hD
      exact W.vret hx hb hr (fun t ht hW => ⟨⟨(), rfl, trivial, by rw [ht]; exact hP9, va_K.moved hW.alike hK, hD9⟩, hS.F ht⟩) hS.2.2 d_M_keep_78
    · have hP9 : va_P (dC, dI) cls0 (mW cI b (j_keep E x1 x2 x3 x4)) _ := (show E = j_keep E x1 x2 x3 x4 from by simp only [j_keep, ue_1, c10, c22, Int32.not_lt.mp c10, Int32.not_le.mp c22, if_true, if_false, not_true_eq_false, not_false_eq_true, true_and, and_true, false_and, and_false, true_or, or_true, false_or, or_false, ite_true, ite_false, eq_self]) ▸ hP
      have hD9 : va_D A (mW cI b (j_keep E x1 x2 x3 x4)) := (show E = j_keep E x1 x2 x3 x4 from by simp only [j_keep, ue_1, c10, c22, Int32.not_lt.mp c10, Int32.not_le.mp c22, if_true, if_false, not_true_eq_false, not_false_eq_true, true_and, and_true, false_and, and_false, true_or, or_true, false_or, or_false, ite_true, ite_false, eq_self]) ▸ hD
      exact W.vret hx hb hr (fun t ht hW => ⟨⟨(), rfl, trivial, by rw [ht]; exact hP9, va_K.moved hW.alike hK, hD9⟩, hS.F ht⟩) hS.2.2 d_M_keep_25
