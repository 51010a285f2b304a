def rmP (d : Nat) : Room := { frames := 6 + d, cells := 0, slots := 0, locals := 200 + 60 * d }
set_option maxHeartbeats 8000000 in
set_option maxRecDepth 100000 in
theorem c_A_pick (l : Launch) (dC : Nat → ClassId) (dI : Nat → Nat → Nat) (cI : ClassId) (g : Nat) (a b : Nat → Nat) : ∀ (d : Nat) (N E : Mm) (sz : Nat) (x1 x2 x3 x4 : Int32) (N' E' : Mm) (r : Int32), d ≤ 12 → x4 = nI (12 - d) → j_pick d N E x1 x2 x3 = (N', E', r) → Met l y_A_pick (.code y_A_pick b_A_pick 10 (some .int) :: W0) (rmP d) (va_Pc [.ref g, .int x1, .int x2, .int x3, .int x4] (gM dC dI cI g a b N E sz)) (va_Qi (fun (z : Int32) (_ : Unit) => z = r) (fun _ t => gE dC dI cI g a b (N') (E') (va_A (gW cI g a b N E) sz) t) (va_A (gW cI g a b N E) sz)) 0 0 (va_A (gW cI g a b N E) sz) := by
  intro d
  induction d with
  | zero =>
    intro N E sz x1 x2 x3 x4 N' E' r hd hx4 hres
    refine Met.ofW (cc := b_A_pick) (maxL := 10) (ret := (some .int)) (by decide) rfl ?_
    intro p e s m args below meth c s₁ B hml hv
    obtain ⟨rfl, hsz, hP, hK, hD0⟩ := hv
    have hx := B.exec
    have hb := B.bytes
    have hr := B.returns
    have hts1 := atoms_spec (ws := .code y_A_pick b_A_pick 10 (some .int) :: W0) B.pre
    have hts : ∀ w ∈ W0, w.before _ s = true := fun w h => hts1 w (List.mem_cons_of_mem _ h)
    have hown : s.vm.findClass R_A = some m.cls := findClass_of_methodNamed B.named
    have hlocks := B.notSynchronized
    subst hsz
    have hD := hD0.self (sz := s.heap.size)
    generalize hAe : va_A (gW cI g a b N E) s.heap.size = A at hD ⊢
    have hA : ∀ q : Nat, s.heap.size ≤ q → A q := fun q h => by rw [← hAe]; exact Or.inr h
    have hS : va_S A s.heap s.heap [] := va_S.rf
    have hP : va_P (dC, dI) cls0 (gW cI g a b N E) s.heap := hP
    have hl := lv_entry ([.ref g, .int x1, .int x2, .int x3, .int x4]) (n := 10) (Nat.le_of_ble_eq_true rfl)
    rw [lg_entry_eq]
    generalize (lg_sl ([.ref g, .int x1, .int x2, .int x3, .int x4]) ++ List.replicate (10 - (lg_sl ([.ref g, .int x1, .int x2, .int x3, .int x4])).length) Slot.unset).toArray = ls at hl ⊢
    have hl : lv_has ls 10 [(0, .ref g), (1, .int x1), (2, .int x2), (3, .int x3), (4, .int x4)] := hl
    refine lv_iload_n hx hb d_A_pick_0 rfl (lv_at hl 1 rfl) ?_
    refine lv_iconst (v := 1) hx hb d_A_pick_1 (by decide) ?_
    refine lv_icmp_eq (tgt := 10) hx hb d_A_pick_2 (by decide) (fun c2 => ?_) (fun c2 => ?_)
    · refine lv_iload_n hx hb d_A_pick_10 rfl (lv_at hl 2 rfl) ?_
      have eq : j_pick 0 N E x1 x2 x3 = (N, E, x2) := by first | (rw [pick_0]; unfold j_pickB; simp only [if_pos c2, if_true, if_false, not_true_eq_false, not_false_eq_true, true_and, and_true, false_and, and_false, true_or, or_true, false_or, or_false, ite_true, ite_false, eq_self]) | (rw [pick_0]; unfold j_pickB; simp only [c2, if_true, if_false, not_true_eq_false, not_false_eq_true, true_and, and_true, false_and, and_false, true_or, or_true, false_or, or_false, ite_true, ite_false, eq_self])
      obtain ⟨eN, eE, eR⟩ := pe3 (hres.symm.trans eq)
      have hP9 : va_P (dC, dI) cls0 (gW cI g a b (N') (E')) s.heap := by rw [eN, eE]; exact hP
      have hD9 : va_D A (gW cI g a b (N') (E')) := by rw [eN, eE]; exact hD
      exact W.iret (v := x2) hx hb hr (fun t ht hW => ⟨⟨x2, (), rfl, eR.symm, by rw [ht]; exact hP9, va_K.moved hW.alike hK, hD9⟩, hS.F ht⟩) hS.2.2 d_A_pick_11
    · refine lv_iload_n hx hb d_A_pick_5 rfl (lv_at hl 2 rfl) ?_
      refine lv_iload_n hx hb d_A_pick_6 rfl (lv_at hl 3 rfl) ?_
      refine lv_icmp_ne (tgt := 12) hx hb d_A_pick_7 (by decide) (fun c7 => ?_) (fun c7 => ?_)
      · refine lv_iload_n hx hb d_A_pick_12 rfl (lv_at hl 1 rfl) ?_
        refine lv_if_ne (tgt := 18) hx hb d_A_pick_13 (by decide) (fun c13 => ?_) (fun c13 => ?_)
        · refine lv_iload_n hx hb d_A_pick_18 rfl (lv_at hl 2 rfl) ?_
          refine lv_iconst (v := 1) hx hb d_A_pick_19 (by decide) ?_
          refine lv_icmp_ne (tgt := 27) hx hb d_A_pick_20 (by decide) (fun c20 => ?_) (fun c20 => ?_)
          · refine lv_iload hx hb d_A_pick_27 (lv_at hl 4 rfl) ?_
            refine lv_bipush (v := 12) hx hb d_A_pick_29 (by decide) ?_
            refine lv_icmp_lt (tgt := 36) hx hb d_A_pick_31 (by decide) (fun c31 => ?_) (fun c31 => ?_)
            · exact absurd c31 (by rw [hx4]; exact nI_nlt (a := 12 - 0) (b := 12) (by omega) (by omega))
            · refine lv_iload_n hx hb d_A_pick_34 rfl (lv_at hl 1 rfl) ?_
              have eq : j_pick 0 N E x1 x2 x3 = (N, E, x1) := by first | (rw [pick_0]; unfold j_pickB; simp only [c2, c7, c13, c20, c31, Int32.not_lt.mp c31, if_true, if_false, not_true_eq_false, not_false_eq_true, true_and, and_true, false_and, and_false, true_or, or_true, false_or, or_false, ite_true, ite_false, eq_self]) | (rw [pick_0]; unfold j_pickB; simp only [c2, c7, c13, c20, c31, Int32.not_lt.mp c31, if_true, if_false, not_true_eq_false, not_false_eq_true, true_and, and_true, false_and, and_false, true_or, or_true, false_or, or_false, ite_true, ite_false, eq_self])
              obtain ⟨eN, eE, eR⟩ := pe3 (hres.symm.trans eq)
              have hP9 : va_P (dC, dI) cls0 (gW cI g a b (N') (E')) s.heap := by rw [eN, eE]; exact hP
              have hD9 : va_D A (gW cI g a b (N') (E')) := by rw [eN, eE]; exact hD
              exact W.iret (v := x1) hx hb hr (fun t ht hW => ⟨⟨x1, (), rfl, eR.symm, by rw [ht]; exact hP9, va_K.moved hW.alike hK, hD9⟩, hS.F ht⟩) hS.2.2 d_A_pick_35
          · refine lv_iload_n hx hb d_A_pick_23 rfl (lv_at hl 3 rfl) ?_
            refine lv_if_eq (tgt := 34) hx hb d_A_pick_24 (by decide) (fun c24 => ?_) (fun c24 => ?_)
            · refine lv_iload_n hx hb d_A_pick_34 rfl (lv_at hl 1 rfl) ?_
              have eq : j_pick 0 N E x1 x2 x3 = (N, E, x1) := by first | (rw [pick_0]; unfold j_pickB; simp only [c2, c7, c13, if_pos c20, if_pos c24, if_true, if_false, not_true_eq_false, not_false_eq_true, true_and, and_true, false_and, and_false, true_or, or_true, false_or, or_false, ite_true, ite_false, eq_self]) | (rw [pick_0]; unfold j_pickB; simp only [c2, c7, c13, c20, c24, if_true, if_false, not_true_eq_false, not_false_eq_true, true_and, and_true, false_and, and_false, true_or, or_true, false_or, or_false, ite_true, ite_false, eq_self])
              obtain ⟨eN, eE, eR⟩ := pe3 (hres.symm.trans eq)
              have hP9 : va_P (dC, dI) cls0 (gW cI g a b (N') (E')) s.heap := by rw [eN, eE]; exact hP
              have hD9 : va_D A (gW cI g a b (N') (E')) := by rw [eN, eE]; exact hD
              exact W.iret (v := x1) hx hb hr (fun t ht hW => ⟨⟨x1, (), rfl, eR.symm, by rw [ht]; exact hP9, va_K.moved hW.alike hK, hD9⟩, hS.F ht⟩) hS.2.2 d_A_pick_35
            · refine lv_iload hx hb d_A_pick_27 (lv_at hl 4 rfl) ?_
              refine lv_bipush (v := 12) hx hb d_A_pick_29 (by decide) ?_
              refine lv_icmp_lt (tgt := 36) hx hb d_A_pick_31 (by decide) (fun c31 => ?_) (fun c31 => ?_)
              · exact absurd c31 (by rw [hx4]; exact nI_nlt (a := 12 - 0) (b := 12) (by omega) (by omega))
              · refine lv_iload_n hx hb d_A_pick_34 rfl (lv_at hl 1 rfl) ?_
                have eq : j_pick 0 N E x1 x2 x3 = (N, E, x1) := by first | (rw [pick_0]; unfold j_pickB; simp only [c2, c7, c13, if_pos c20, c24, c31, Int32.not_lt.mp c31, if_true, if_false, not_true_eq_false, not_false_eq_true, true_and, and_true, false_and, and_false, true_or, or_true, false_or, or_false, ite_true, ite_false, eq_self]) | (rw [pick_0]; unfold j_pickB; simp only [c2, c7, c13, c20, c24, c31, Int32.not_lt.mp c31, if_true, if_false, not_true_eq_false, not_false_eq_true, true_and, and_true, false_and, and_false, true_or, or_true, false_or, or_false, ite_true, ite_false, eq_self])
                obtain ⟨eN, eE, eR⟩ := pe3 (hres.symm.trans eq)
                have hP9 : va_P (dC, dI) cls0 (gW cI g a b (N') (E')) s.heap := by rw [eN, eE]; exact hP
                have hD9 : va_D A (gW cI g a b (N') (E')) := by rw [eN, eE]; exact hD
                exact W.iret (v := x1) hx hb hr (fun t ht hW => ⟨⟨x1, (), rfl, eR.symm, by rw [ht]; exact hP9, va_K.moved hW.alike hK, hD9⟩, hS.F ht⟩) hS.2.2 d_A_pick_35
        · refine lv_iload_n hx hb d_A_pick_16 rfl (lv_at hl 3 rfl) ?_
          have eq : j_pick 0 N E x1 x2 x3 = (N, E, x3) := by first | (rw [pick_0]; unfold j_pickB; simp only [c2, c7, if_pos c13, if_true, if_false, not_true_eq_false, not_false_eq_true, true_and, and_true, false_and, and_false, true_or, or_true, false_or, or_false, ite_true, ite_false, eq_self]) | (rw [pick_0]; unfold j_pickB; simp only [c2, c7, c13, if_true, if_false, not_true_eq_false, not_false_eq_true, true_and, and_true, false_and, and_false, true_or, or_true, false_or, or_false, ite_true, ite_false, eq_self])
          obtain ⟨eN, eE, eR⟩ := pe3 (hres.symm.trans eq)
          have hP9 : va_P (dC, dI) cls0 (gW cI g a b (N') (E')) s.heap := by rw [eN, eE]; exact hP
          have hD9 : va_D A (gW cI g a b (N') (E')) := by rw [eN, eE]; exact hD
          exact W.iret (v := x3) hx hb hr (fun t ht hW => ⟨⟨x3, (), rfl, eR.symm, by rw [ht]; exact hP9, va_K.moved hW.alike hK, hD9⟩, hS.F ht⟩) hS.2.2 d_A_pick_17
      · refine lv_iload_n hx hb d_A_pick_10 rfl (lv_at hl 2 rfl) ?_
        have eq : j_pick 0 N E x1 x2 x3 = (N, E, x2) := by first | (rw [pick_0]; unfold j_pickB; simp only [c2, if_pos c7, if_true, if_false, not_true_eq_false, not_false_eq_true, true_and, and_true, false_and, and_false, true_or, or_true, false_or, or_false, ite_true, ite_false, eq_self]) | (rw [pick_0]; unfold j_pickB; simp only [c2, c7, if_true, if_false, not_true_eq_false, not_false_eq_true, true_and, and_true, false_and, and_false, true_or, or_true, false_or, or_false, ite_true, ite_false, eq_self])
        obtain ⟨eN, eE, eR⟩ := pe3 (hres.symm.trans eq)
        have hP9 : va_P (dC, dI) cls0 (gW cI g a b (N') (E')) s.heap := by rw [eN, eE]; exact hP
        have hD9 : va_D A (gW cI g a b (N') (E')) := by rw [eN, eE]; exact hD
        exact W.iret (v := x2) hx hb hr (fun t ht hW => ⟨⟨x2, (), rfl, eR.symm, by rw [ht]; exact hP9, va_K.moved hW.alike hK, hD9⟩, hS.F ht⟩) hS.2.2 d_A_pick_11
  | succ d ih =>
    intro N E sz x1 x2 x3 x4 N' E' r hd hx4 hres
    refine Met.ofW (cc := b_A_pick) (maxL := 10) (ret := (some .int)) (by decide) rfl ?_
    intro p e s m args below meth c s₁ B hml hv
    obtain ⟨rfl, hsz, hP, hK, hD0⟩ := hv
    have hx := B.exec
    have hb := B.bytes
    have hr := B.returns
    have hts1 := atoms_spec (ws := .code y_A_pick b_A_pick 10 (some .int) :: W0) B.pre
    have hts : ∀ w ∈ W0, w.before _ s = true := fun w h => hts1 w (List.mem_cons_of_mem _ h)
    have hown : s.vm.findClass R_A = some m.cls := findClass_of_methodNamed B.named
    have hlocks := B.notSynchronized
    subst hsz
    have hD := hD0.self (sz := s.heap.size)
    generalize hAe : va_A (gW cI g a b N E) s.heap.size = A at hD ⊢
    have hA : ∀ q : Nat, s.heap.size ≤ q → A q := fun q h => by rw [← hAe]; exact Or.inr h
    have hS : va_S A s.heap s.heap [] := va_S.rf
    have hP : va_P (dC, dI) cls0 (gW cI g a b N E) s.heap := hP
    have hl := lv_entry ([.ref g, .int x1, .int x2, .int x3, .int x4]) (n := 10) (Nat.le_of_ble_eq_true rfl)
    rw [lg_entry_eq]
    generalize (lg_sl ([.ref g, .int x1, .int x2, .int x3, .int x4]) ++ List.replicate (10 - (lg_sl ([.ref g, .int x1, .int x2, .int x3, .int x4])).length) Slot.unset).toArray = ls at hl ⊢
    have hl : lv_has ls 10 [(0, .ref g), (1, .int x1), (2, .int x2), (3, .int x3), (4, .int x4)] := hl
    refine lv_iload_n hx hb d_A_pick_0 rfl (lv_at hl 1 rfl) ?_
    refine lv_iconst (v := 1) hx hb d_A_pick_1 (by decide) ?_
    refine lv_icmp_eq (tgt := 10) hx hb d_A_pick_2 (by decide) (fun c2 => ?_) (fun c2 => ?_)
    · refine lv_iload_n hx hb d_A_pick_10 rfl (lv_at hl 2 rfl) ?_
      have eq : j_pick (d + 1) N E x1 x2 x3 = (N, E, x2) := by first | (rw [pick_b (by simp only [c2, if_true, if_false, not_true_eq_false, not_false_eq_true, true_and, and_true, false_and, and_false, true_or, or_true, false_or, or_false, ite_true, ite_false, eq_self, or_self, and_self, not_false_iff])]; unfold j_pickB; simp only [if_pos c2, if_true, if_false, not_true_eq_false, not_false_eq_true, true_and, and_true, false_and, and_false, true_or, or_true, false_or, or_false, ite_true, ite_false, eq_self]; done) | (rw [pick_b (by simp only [c2, if_true, if_false, not_true_eq_false, not_false_eq_true, true_and, and_true, false_and, and_false, true_or, or_true, false_or, or_false, ite_true, ite_false, eq_self, or_self, and_self, not_false_iff])]; unfold j_pickB; simp only [c2, if_true, if_false, not_true_eq_false, not_false_eq_true, true_and, and_true, false_and, and_false, true_or, or_true, false_or, or_false, ite_true, ite_false, eq_self])
      obtain ⟨eN, eE, eR⟩ := pe3 (hres.symm.trans eq)
      have hP9 : va_P (dC, dI) cls0 (gW cI g a b (N') (E')) s.heap := by rw [eN, eE]; exact hP
      have hD9 : va_D A (gW cI g a b (N') (E')) := by rw [eN, eE]; exact hD
      exact W.iret (v := x2) hx hb hr (fun t ht hW => ⟨⟨x2, (), rfl, eR.symm, by rw [ht]; exact hP9, va_K.moved hW.alike hK, hD9⟩, hS.F ht⟩) hS.2.2 d_A_pick_11
    · refine lv_iload_n hx hb d_A_pick_5 rfl (lv_at hl 2 rfl) ?_
      refine lv_iload_n hx hb d_A_pick_6 rfl (lv_at hl 3 rfl) ?_
      refine lv_icmp_ne (tgt := 12) hx hb d_A_pick_7 (by decide) (fun c7 => ?_) (fun c7 => ?_)
      · refine lv_iload_n hx hb d_A_pick_12 rfl (lv_at hl 1 rfl) ?_
        refine lv_if_ne (tgt := 18) hx hb d_A_pick_13 (by decide) (fun c13 => ?_) (fun c13 => ?_)
        · refine lv_iload_n hx hb d_A_pick_18 rfl (lv_at hl 2 rfl) ?_
          refine lv_iconst (v := 1) hx hb d_A_pick_19 (by decide) ?_
          refine lv_icmp_ne (tgt := 27) hx hb d_A_pick_20 (by decide) (fun c20 => ?_) (fun c20 => ?_)
          · refine lv_iload hx hb d_A_pick_27 (lv_at hl 4 rfl) ?_
            refine lv_bipush (v := 12) hx hb d_A_pick_29 (by decide) ?_
            refine lv_icmp_lt (tgt := 36) hx hb d_A_pick_31 (by decide) (fun c31 => ?_) (fun c31 => ?_)
            · refine lv_aload_n hx hb d_A_pick_36 rfl (lv_at hl 0 rfl) ?_
              refine va_get (D := (dC, dI)) (ci := 2) (v := .ref (b 0)) (C := R_A) (T := T_A) (N := 2) hx hb hts in_A hown hK hP 0 rfl rfl 1 (by decide) (hts _ kfl_A_18) (fun _ h9 => h9) rfl d_A_pick_37 ?_
              refine lv_iload_n hx hb d_A_pick_40 rfl (lv_at hl 1 rfl) ?_
              refine lv_iload_n hx hb d_A_pick_41 rfl (lv_at hl 2 rfl) ?_
              refine lv_iload_n hx hb d_A_pick_42 rfl (lv_at hl 3 rfl) ?_
              refine aMR (As := [.int x1, .int x2, .int x3]) (rest := []) ⟨hx, hb, hml, hown, hts⟩ (c_M_answerFor l dC dI cI b E x1 x2 x3) (cwV 3 hts (gV kml_A_53 kim_M_answerFor ksl_M_answerFor kin_M kcd_M_answerFor) rfl rfl rfl (by decide +kernel) ⟨by show 1 + 1 ≤ 6 + (d + 1); omega, by show 8 + (6 + 11) + 23 ≤ 200 + 60 * (d + 1); omega⟩) hP hK rfl hl.1 rfl (Nat.le_of_ble_eq_true rfl) d_A_pick_43 ⟨Nat.zero_le _, Nat.zero_le _⟩ ?_
              refine lv_istore (lv' := [(5, .int (j_answerFor E x1 x2 x3)), (0, .ref g), (1, .int x1), (2, .int x2), (3, .int x3), (4, .int x4)]) hx hb d_A_pick_46 hl (by decide) rfl (fun ls hl => ?_)
              refine lv_iload hx hb d_A_pick_48 (lv_at hl 0 rfl) ?_
              refine lv_iconst (v := -1) hx hb d_A_pick_50 (by decide) ?_
              refine lv_icmp_eq (tgt := 57) hx hb d_A_pick_51 (by decide) (fun c51 => ?_) (fun c51 => ?_)
              · refine lv_aload_n hx hb d_A_pick_57 rfl (lv_at hl 1 rfl) ?_
                refine va_get (D := (dC, dI)) (ci := 2) (v := .ref (a 0)) (C := R_A) (T := T_A) (N := 2) hx hb hts in_A hown hK hP 0 rfl rfl 0 (by decide) (hts _ kfl_A_9) (fun _ h9 => h9) rfl d_A_pick_58 ?_
                refine lv_iload_n hx hb d_A_pick_61 rfl (lv_at hl 2 rfl) ?_
                refine lv_iload_n hx hb d_A_pick_62 rfl (lv_at hl 3 rfl) ?_
                refine lv_iload_n hx hb d_A_pick_63 rfl (lv_at hl 4 rfl) ?_
                refine aNR (As := [.int x1, .int x2, .int x3]) (rest := []) ⟨hx, hb, hml, hown, hts⟩ (c_N_firstAsked l dC dI cI a N x1 x2 x3) (cwV 3 hts (gV kml_A_56 kim_N_firstAsked ksl_N_firstAsked kin_N kcd_N_firstAsked) rfl rfl rfl (by decide +kernel) ⟨by show 2 + 1 ≤ 6 + (d + 1); omega, by show 8 + (5 + 11) + 44 ≤ 200 + 60 * (d + 1); omega⟩) hP hK rfl hl.1 rfl (Nat.le_of_ble_eq_true rfl) d_A_pick_64 ⟨Nat.zero_le _, Nat.zero_le _⟩ ?_
                refine lv_istore (lv' := [(6, .int (j_firstAsked N x1 x2 x3)), (5, .int (j_answerFor E x1 x2 x3)), (0, .ref g), (1, .int x1), (2, .int x2), (3, .int x3), (4, .int x4)]) hx hb d_A_pick_67 hl (by decide) rfl (fun ls hl => ?_)
                refine lv_aload_n hx hb d_A_pick_69 rfl (lv_at hl 2 rfl) ?_
                refine lv_aload_n hx hb d_A_pick_70 rfl (lv_at hl 2 rfl) ?_
                refine va_get (D := (dC, dI)) (ci := 2) (v := .ref (a 0)) (C := R_A) (T := T_A) (N := 2) hx hb hts in_A hown hK hP 0 rfl rfl 0 (by decide) (hts _ kfl_A_9) (fun _ h9 => h9) rfl d_A_pick_71 ?_
                refine lv_iload_n hx hb d_A_pick_74 rfl (lv_at hl 3 rfl) ?_
                refine lv_iload hx hb d_A_pick_75 (lv_at hl 0 rfl) ?_
                refine aNR (As := [.int x1, .int (j_firstAsked N x1 x2 x3)]) (rest := [.ref g]) ⟨hx, hb, hml, hown, hts⟩ (c_N_lowFor l dC dI cI a N x1 (j_firstAsked N x1 x2 x3)) (cwV 2 hts (gV kml_A_59 kim_N_lowFor ksl_N_lowFor kin_N kcd_N_lowFor) rfl rfl rfl (by decide +kernel) ⟨by show 1 + 1 ≤ 6 + (d + 1); omega, by show 8 + (3 + 11) + 23 ≤ 200 + 60 * (d + 1); omega⟩) hP hK rfl hl.1 rfl (Nat.le_of_ble_eq_true rfl) d_A_pick_77 ⟨Nat.zero_le _, Nat.zero_le _⟩ ?_
                refine lv_aload_n hx hb d_A_pick_80 rfl (lv_at hl 2 rfl) ?_
                refine va_get (D := (dC, dI)) (ci := 2) (v := .ref (a 0)) (C := R_A) (T := T_A) (N := 2) hx hb hts in_A hown hK hP 0 rfl rfl 0 (by decide) (hts _ kfl_A_9) (fun _ h9 => h9) rfl d_A_pick_81 ?_
                refine lv_iload_n hx hb d_A_pick_84 rfl (lv_at hl 4 rfl) ?_
                refine lv_iload hx hb d_A_pick_85 (lv_at hl 0 rfl) ?_
                refine aNR (As := [.int x2, .int (j_firstAsked N x1 x2 x3)]) (rest := [.int (j_lowFor N x1 (j_firstAsked N x1 x2 x3)), .ref g]) ⟨hx, hb, hml, hown, hts⟩ (c_N_lowFor l dC dI cI a N x2 (j_firstAsked N x1 x2 x3)) (cwV 2 hts (gV kml_A_59 kim_N_lowFor ksl_N_lowFor kin_N kcd_N_lowFor) rfl rfl rfl (by decide +kernel) ⟨by show 1 + 1 ≤ 6 + (d + 1); omega, by show 8 + (3 + 11) + 23 ≤ 200 + 60 * (d + 1); omega⟩) hP hK rfl hl.1 rfl (Nat.le_of_ble_eq_true rfl) d_A_pick_87 ⟨Nat.zero_le _, Nat.zero_le _⟩ ?_
                refine lv_aload_n hx hb d_A_pick_90 rfl (lv_at hl 2 rfl) ?_
                refine va_get (D := (dC, dI)) (ci := 2) (v := .ref (a 0)) (C := R_A) (T := T_A) (N := 2) hx hb hts in_A hown hK hP 0 rfl rfl 0 (by decide) (hts _ kfl_A_9) (fun _ h9 => h9) rfl d_A_pick_91 ?_
                refine lv_iload_n hx hb d_A_pick_94 rfl (lv_at hl 5 rfl) ?_
                refine lv_iload hx hb d_A_pick_95 (lv_at hl 0 rfl) ?_
                refine aNR (As := [.int x3, .int (j_firstAsked N x1 x2 x3)]) (rest := [.int (j_lowFor N x2 (j_firstAsked N x1 x2 x3)), .int (j_lowFor N x1 (j_firstAsked N x1 x2 x3)), .ref g]) ⟨hx, hb, hml, hown, hts⟩ (c_N_lowFor l dC dI cI a N x3 (j_firstAsked N x1 x2 x3)) (cwV 2 hts (gV kml_A_59 kim_N_lowFor ksl_N_lowFor kin_N kcd_N_lowFor) rfl rfl rfl (by decide +kernel) ⟨by show 1 + 1 ≤ 6 + (d + 1); omega, by show 8 + (3 + 11) + 23 ≤ 200 + 60 * (d + 1); omega⟩) hP hK rfl hl.1 rfl (Nat.le_of_ble_eq_true rfl) d_A_pick_97 ⟨Nat.zero_le _, Nat.zero_le _⟩ ?_
                refine lv_iload hx hb d_A_pick_100 (lv_at hl 6 rfl) ?_
                refine lv_iconst (v := 1) hx hb d_A_pick_102 (by decide) ?_
                refine lv_iadd hx hb d_A_pick_103 ?_
                obtain ⟨N104, E104, r104, h104⟩ := ex3 (j_pick d N E (j_lowFor N x1 (j_firstAsked N x1 x2 x3)) (j_lowFor N x2 (j_firstAsked N x1 x2 x3)) (j_lowFor N x3 (j_firstAsked N x1 x2 x3)))
                refine aAi (As := [.int (j_lowFor N x1 (j_firstAsked N x1 x2 x3)), .int (j_lowFor N x2 (j_firstAsked N x1 x2 x3)), .int (j_lowFor N x3 (j_firstAsked N x1 x2 x3)), .int (x4 + 1)]) (rest := []) ⟨hx, hb, hml, hown, hts⟩ (ih N E _ (j_lowFor N x1 (j_firstAsked N x1 x2 x3)) (j_lowFor N x2 (j_firstAsked N x1 x2 x3)) (j_lowFor N x3 (j_firstAsked N x1 x2 x3)) (x4 + 1) _ _ _ (by omega) (by rw [hx4, nI_1]; congr 1; omega) h104) (cwV 4 hts (gV kml_A_38 kim_A_pick ksl_A_pick kin_A kcd_A_pick) rfl rfl rfl (by decide +kernel) ⟨by show 6 + d + 1 ≤ 6 + (d + 1); omega, by show 8 + (10 + 11) + (200 + 60 * d) ≤ 200 + 60 * (d + 1); omega⟩) hP hK hD hS hA rfl hl.1 rfl (Nat.le_of_ble_eq_true rfl) d_A_pick_104 ⟨Nat.zero_le _, Nat.zero_le _⟩ (fun H locs hP hD hS => ?_)
                refine lv_istore (lv' := [(7, .int r104), (6, .int (j_firstAsked N x1 x2 x3)), (5, .int (j_answerFor E x1 x2 x3)), (0, .ref g), (1, .int x1), (2, .int x2), (3, .int x3), (4, .int x4)]) hx hb d_A_pick_107 hl (by decide) rfl (fun ls hl => ?_)
                refine lv_aload_n hx hb d_A_pick_109 rfl (lv_at hl 3 rfl) ?_
                refine lv_aload_n hx hb d_A_pick_110 rfl (lv_at hl 3 rfl) ?_
                refine va_get (D := (dC, dI)) (ci := 2) (v := .ref (a 0)) (C := R_A) (T := T_A) (N := 2) hx hb hts in_A hown hK hP 0 rfl rfl 0 (by decide) (hts _ kfl_A_9) (fun _ h9 => h9) rfl d_A_pick_111 ?_
                refine lv_iload_n hx hb d_A_pick_114 rfl (lv_at hl 4 rfl) ?_
                refine lv_iload hx hb d_A_pick_115 (lv_at hl 1 rfl) ?_
                refine aNR (As := [.int x1, .int (j_firstAsked N x1 x2 x3)]) (rest := [.ref g]) ⟨hx, hb, hml, hown, hts⟩ (c_N_highFor l dC dI cI a N104 x1 (j_firstAsked N x1 x2 x3)) (cwV 2 hts (gV kml_A_62 kim_N_highFor ksl_N_highFor kin_N kcd_N_highFor) rfl rfl rfl (by decide +kernel) ⟨by show 1 + 1 ≤ 6 + (d + 1); omega, by show 8 + (3 + 11) + 23 ≤ 200 + 60 * (d + 1); omega⟩) hP hK rfl hl.1 rfl (Nat.le_of_ble_eq_true rfl) d_A_pick_117 ⟨Nat.zero_le _, Nat.zero_le _⟩ ?_
                refine lv_aload_n hx hb d_A_pick_120 rfl (lv_at hl 3 rfl) ?_
                refine va_get (D := (dC, dI)) (ci := 2) (v := .ref (a 0)) (C := R_A) (T := T_A) (N := 2) hx hb hts in_A hown hK hP 0 rfl rfl 0 (by decide) (hts _ kfl_A_9) (fun _ h9 => h9) rfl d_A_pick_121 ?_
                refine lv_iload_n hx hb d_A_pick_124 rfl (lv_at hl 5 rfl) ?_
                refine lv_iload hx hb d_A_pick_125 (lv_at hl 1 rfl) ?_
                refine aNR (As := [.int x2, .int (j_firstAsked N x1 x2 x3)]) (rest := [.int (j_highFor N104 x1 (j_firstAsked N x1 x2 x3)), .ref g]) ⟨hx, hb, hml, hown, hts⟩ (c_N_highFor l dC dI cI a N104 x2 (j_firstAsked N x1 x2 x3)) (cwV 2 hts (gV kml_A_62 kim_N_highFor ksl_N_highFor kin_N kcd_N_highFor) rfl rfl rfl (by decide +kernel) ⟨by show 1 + 1 ≤ 6 + (d + 1); omega, by show 8 + (3 + 11) + 23 ≤ 200 + 60 * (d + 1); omega⟩) hP hK rfl hl.1 rfl (Nat.le_of_ble_eq_true rfl) d_A_pick_127 ⟨Nat.zero_le _, Nat.zero_le _⟩ ?_
                refine lv_aload_n hx hb d_A_pick_130 rfl (lv_at hl 3 rfl) ?_
                refine va_get (D := (dC, dI)) (ci := 2) (v := .ref (a 0)) (C := R_A) (T := T_A) (N := 2) hx hb hts in_A hown hK hP 0 rfl rfl 0 (by decide) (hts _ kfl_A_9) (fun _ h9 => h9) rfl d_A_pick_131 ?_
                refine lv_iload_n hx hb d_A_pick_134 rfl (lv_at hl 6 rfl) ?_
                refine lv_iload hx hb d_A_pick_135 (lv_at hl 1 rfl) ?_
                refine aNR (As := [.int x3, .int (j_firstAsked N x1 x2 x3)]) (rest := [.int (j_highFor N104 x2 (j_firstAsked N x1 x2 x3)), .int (j_highFor N104 x1 (j_firstAsked N x1 x2 x3)), .ref g]) ⟨hx, hb, hml, hown, hts⟩ (c_N_highFor l dC dI cI a N104 x3 (j_firstAsked N x1 x2 x3)) (cwV 2 hts (gV kml_A_62 kim_N_highFor ksl_N_highFor kin_N kcd_N_highFor) rfl rfl rfl (by decide +kernel) ⟨by show 1 + 1 ≤ 6 + (d + 1); omega, by show 8 + (3 + 11) + 23 ≤ 200 + 60 * (d + 1); omega⟩) hP hK rfl hl.1 rfl (Nat.le_of_ble_eq_true rfl) d_A_pick_137 ⟨Nat.zero_le _, Nat.zero_le _⟩ ?_
                refine lv_iload hx hb d_A_pick_140 (lv_at hl 7 rfl) ?_
                refine lv_iconst (v := 1) hx hb d_A_pick_142 (by decide) ?_
                refine lv_iadd hx hb d_A_pick_143 ?_
                obtain ⟨N144, E144, r144, h144⟩ := ex3 (j_pick d N104 E104 (j_highFor N104 x1 (j_firstAsked N x1 x2 x3)) (j_highFor N104 x2 (j_firstAsked N x1 x2 x3)) (j_highFor N104 x3 (j_firstAsked N x1 x2 x3)))
                refine aAi (As := [.int (j_highFor N104 x1 (j_firstAsked N x1 x2 x3)), .int (j_highFor N104 x2 (j_firstAsked N x1 x2 x3)), .int (j_highFor N104 x3 (j_firstAsked N x1 x2 x3)), .int (x4 + 1)]) (rest := []) ⟨hx, hb, hml, hown, hts⟩ (ih N104 E104 _ (j_highFor N104 x1 (j_firstAsked N x1 x2 x3)) (j_highFor N104 x2 (j_firstAsked N x1 x2 x3)) (j_highFor N104 x3 (j_firstAsked N x1 x2 x3)) (x4 + 1) _ _ _ (by omega) (by rw [hx4, nI_1]; congr 1; omega) h144) (cwV 4 hts (gV kml_A_38 kim_A_pick ksl_A_pick kin_A kcd_A_pick) rfl rfl rfl (by decide +kernel) ⟨by show 6 + d + 1 ≤ 6 + (d + 1); omega, by show 8 + (10 + 11) + (200 + 60 * d) ≤ 200 + 60 * (d + 1); omega⟩) hP hK hD hS hA rfl hl.1 rfl (Nat.le_of_ble_eq_true rfl) d_A_pick_144 ⟨Nat.zero_le _, Nat.zero_le _⟩ (fun H locs hP hD hS => ?_)
                refine lv_istore (lv' := [(8, .int r144), (7, .int r104), (6, .int (j_firstAsked N x1 x2 x3)), (5, .int (j_answerFor E x1 x2 x3)), (0, .ref g), (1, .int x1), (2, .int x2), (3, .int x3), (4, .int x4)]) hx hb d_A_pick_147 hl (by decide) rfl (fun ls hl => ?_)
                refine lv_aload_n hx hb d_A_pick_149 rfl (lv_at hl 4 rfl) ?_
                refine va_get (D := (dC, dI)) (ci := 2) (v := .ref (a 0)) (C := R_A) (T := T_A) (N := 2) hx hb hts in_A hown hK hP 0 rfl rfl 0 (by decide) (hts _ kfl_A_9) (fun _ h9 => h9) rfl d_A_pick_150 ?_
                refine lv_iload hx hb d_A_pick_153 (lv_at hl 2 rfl) ?_
                refine lv_iload hx hb d_A_pick_155 (lv_at hl 1 rfl) ?_
                refine lv_iload hx hb d_A_pick_157 (lv_at hl 0 rfl) ?_
                obtain ⟨N159, r159, h159⟩ := ex2 (j_make N144 (j_firstAsked N x1 x2 x3) r104 r144)
                refine aNi (As := [.int (j_firstAsked N x1 x2 x3), .int r104, .int r144]) (rest := []) ⟨hx, hb, hml, hown, hts⟩ (c_N_make' l dC dI cI a N144 _ (j_firstAsked N x1 x2 x3) r104 r144 h159) (cwV 3 hts (gV kml_A_34 kim_N_make ksl_N_make kin_N kcd_N_make) rfl rfl rfl (by decide +kernel) ⟨by show 2 + 1 ≤ 6 + (d + 1); omega, by show 8 + (7 + 11) + 49 ≤ 200 + 60 * (d + 1); omega⟩) hP hK hD hS hA rfl hl.1 rfl (Nat.le_of_ble_eq_true rfl) d_A_pick_159 ⟨Nat.zero_le _, Nat.zero_le _⟩ (fun H locs hP hD hS => ?_)
                refine lv_istore (lv' := [(9, .int r159), (8, .int r144), (7, .int r104), (6, .int (j_firstAsked N x1 x2 x3)), (5, .int (j_answerFor E x1 x2 x3)), (0, .ref g), (1, .int x1), (2, .int x2), (3, .int x3), (4, .int x4)]) hx hb d_A_pick_162 hl (by decide) rfl (fun ls hl => ?_)
                refine lv_aload_n hx hb d_A_pick_164 rfl (lv_at hl 5 rfl) ?_
                refine va_get (D := (dC, dI)) (ci := 2) (v := .ref (b 0)) (C := R_A) (T := T_A) (N := 2) hx hb hts in_A hown hK hP 0 rfl rfl 1 (by decide) (hts _ kfl_A_18) (fun _ h9 => h9) rfl d_A_pick_165 ?_
                refine lv_iload_n hx hb d_A_pick_168 rfl (lv_at hl 6 rfl) ?_
                refine lv_iload_n hx hb d_A_pick_169 rfl (lv_at hl 7 rfl) ?_
                refine lv_iload_n hx hb d_A_pick_170 rfl (lv_at hl 8 rfl) ?_
                refine lv_iload hx hb d_A_pick_171 (lv_at hl 0 rfl) ?_
                refine aMv (As := [.int x1, .int x2, .int x3, .int r159]) (rest := []) ⟨hx, hb, hml, hown, hts⟩ (c_M_keep l dC dI cI b E144 _ x1 x2 x3 r159) (cwV 4 hts (gV kml_A_65 kim_M_keep ksl_M_keep kin_M kcd_M_keep) rfl rfl rfl (by decide +kernel) ⟨by show 1 + 1 ≤ 6 + (d + 1); omega, by show 8 + (6 + 11) + 23 ≤ 200 + 60 * (d + 1); omega⟩) hP hK hD hS hA rfl hl.1 rfl (Nat.le_of_ble_eq_true rfl) d_A_pick_173 ⟨Nat.zero_le _, Nat.zero_le _⟩ (fun H locs hP hD hS => ?_)
                refine lv_iload hx hb d_A_pick_176 (lv_at hl 0 rfl) ?_
                have eq : j_pick (d + 1) N E x1 x2 x3 = (N159, j_keep E144 x1 x2 x3 r159, r159) := pick_r (by rintro (h | h | h | ⟨h, h2⟩) <;> first | exact absurd h c2 | exact absurd h2 c2 | exact absurd h c7 | exact absurd h2 c7 | exact absurd h c13 | exact absurd h2 c13 | exact absurd h c20 | exact absurd h2 c20 | exact absurd h c31 | exact absurd h2 c31) c51 rfl h104 h144 h159
                obtain ⟨eN, eE, eR⟩ := pe3 (hres.symm.trans eq)
                have hP9 : va_P (dC, dI) cls0 (gW cI g a b (N') (E')) H := by rw [eN, eE]; exact hP
                have hD9 : va_D A (gW cI g a b (N') (E')) := by rw [eN, eE]; exact hD
                exact W.iret (v := r159) hx hb hr (fun t ht hW => ⟨⟨r159, (), rfl, eR.symm, by rw [ht]; exact hP9, va_K.moved hW.alike hK, hD9⟩, hS.F ht⟩) hS.2.2 d_A_pick_178
              · refine lv_iload hx hb d_A_pick_54 (lv_at hl 0 rfl) ?_
                have eq : j_pick (d + 1) N E x1 x2 x3 = (N, E, j_answerFor E x1 x2 x3) := by first | exact pick_m (by rintro (h | h | h | ⟨h, h2⟩) <;> first | exact absurd h c2 | exact absurd h2 c2 | exact absurd h c7 | exact absurd h2 c7 | exact absurd h c13 | exact absurd h2 c13 | exact absurd h c20 | exact absurd h2 c20 | exact absurd h c31 | exact absurd h2 c31) c51
                obtain ⟨eN, eE, eR⟩ := pe3 (hres.symm.trans eq)
                have hP9 : va_P (dC, dI) cls0 (gW cI g a b (N') (E')) s.heap := by rw [eN, eE]; exact hP
                have hD9 : va_D A (gW cI g a b (N') (E')) := by rw [eN, eE]; exact hD
                exact W.iret (v := (j_answerFor E x1 x2 x3)) hx hb hr (fun t ht hW => ⟨⟨j_answerFor E x1 x2 x3, (), rfl, eR.symm, by rw [ht]; exact hP9, va_K.moved hW.alike hK, hD9⟩, hS.F ht⟩) hS.2.2 d_A_pick_56
            · exact absurd (by rw [hx4]; exact nI_lt (b := 12) (by omega) (by omega)) c31
          · refine lv_iload_n hx hb d_A_pick_23 rfl (lv_at hl 3 rfl) ?_
            refine lv_if_eq (tgt := 34) hx hb d_A_pick_24 (by decide) (fun c24 => ?_) (fun c24 => ?_)
            · refine lv_iload_n hx hb d_A_pick_34 rfl (lv_at hl 1 rfl) ?_
              have eq : j_pick (d + 1) N E x1 x2 x3 = (N, E, x1) := by first | (rw [pick_b (by simp only [c2, c7, c13, c20, c24, if_true, if_false, not_true_eq_false, not_false_eq_true, true_and, and_true, false_and, and_false, true_or, or_true, false_or, or_false, ite_true, ite_false, eq_self, or_self, and_self, not_false_iff])]; unfold j_pickB; simp only [c2, c7, c13, if_pos c20, if_pos c24, if_true, if_false, not_true_eq_false, not_false_eq_true, true_and, and_true, false_and, and_false, true_or, or_true, false_or, or_false, ite_true, ite_false, eq_self]; done) | (rw [pick_b (by simp only [c2, c7, c13, c20, c24, if_true, if_false, not_true_eq_false, not_false_eq_true, true_and, and_true, false_and, and_false, true_or, or_true, false_or, or_false, ite_true, ite_false, eq_self, or_self, and_self, not_false_iff])]; unfold j_pickB; simp only [c2, c7, c13, c20, c24, if_true, if_false, not_true_eq_false, not_false_eq_true, true_and, and_true, false_and, and_false, true_or, or_true, false_or, or_false, ite_true, ite_false, eq_self])
              obtain ⟨eN, eE, eR⟩ := pe3 (hres.symm.trans eq)
              have hP9 : va_P (dC, dI) cls0 (gW cI g a b (N') (E')) s.heap := by rw [eN, eE]; exact hP
              have hD9 : va_D A (gW cI g a b (N') (E')) := by rw [eN, eE]; exact hD
              exact W.iret (v := x1) hx hb hr (fun t ht hW => ⟨⟨x1, (), rfl, eR.symm, by rw [ht]; exact hP9, va_K.moved hW.alike hK, hD9⟩, hS.F ht⟩) hS.2.2 d_A_pick_35
            · refine lv_iload hx hb d_A_pick_27 (lv_at hl 4 rfl) ?_
              refine lv_bipush (v := 12) hx hb d_A_pick_29 (by decide) ?_
              refine lv_icmp_lt (tgt := 36) hx hb d_A_pick_31 (by decide) (fun c31 => ?_) (fun c31 => ?_)
              · refine lv_aload_n hx hb d_A_pick_36 rfl (lv_at hl 0 rfl) ?_
                refine va_get (D := (dC, dI)) (ci := 2) (v := .ref (b 0)) (C := R_A) (T := T_A) (N := 2) hx hb hts in_A hown hK hP 0 rfl rfl 1 (by decide) (hts _ kfl_A_18) (fun _ h9 => h9) rfl d_A_pick_37 ?_
                refine lv_iload_n hx hb d_A_pick_40 rfl (lv_at hl 1 rfl) ?_
                refine lv_iload_n hx hb d_A_pick_41 rfl (lv_at hl 2 rfl) ?_
                refine lv_iload_n hx hb d_A_pick_42 rfl (lv_at hl 3 rfl) ?_
                refine aMR (As := [.int x1, .int x2, .int x3]) (rest := []) ⟨hx, hb, hml, hown, hts⟩ (c_M_answerFor l dC dI cI b E x1 x2 x3) (cwV 3 hts (gV kml_A_53 kim_M_answerFor ksl_M_answerFor kin_M kcd_M_answerFor) rfl rfl rfl (by decide +kernel) ⟨by show 1 + 1 ≤ 6 + (d + 1); omega, by show 8 + (6 + 11) + 23 ≤ 200 + 60 * (d + 1); omega⟩) hP hK rfl hl.1 rfl (Nat.le_of_ble_eq_true rfl) d_A_pick_43 ⟨Nat.zero_le _, Nat.zero_le _⟩ ?_
                refine lv_istore (lv' := [(5, .int (j_answerFor E x1 x2 x3)), (0, .ref g), (1, .int x1), (2, .int x2), (3, .int x3), (4, .int x4)]) hx hb d_A_pick_46 hl (by decide) rfl (fun ls hl => ?_)
                refine lv_iload hx hb d_A_pick_48 (lv_at hl 0 rfl) ?_
                refine lv_iconst (v := -1) hx hb d_A_pick_50 (by decide) ?_
                refine lv_icmp_eq (tgt := 57) hx hb d_A_pick_51 (by decide) (fun c51 => ?_) (fun c51 => ?_)
                · refine lv_aload_n hx hb d_A_pick_57 rfl (lv_at hl 1 rfl) ?_
                  refine va_get (D := (dC, dI)) (ci := 2) (v := .ref (a 0)) (C := R_A) (T := T_A) (N := 2) hx hb hts in_A hown hK hP 0 rfl rfl 0 (by decide) (hts _ kfl_A_9) (fun _ h9 => h9) rfl d_A_pick_58 ?_
                  refine lv_iload_n hx hb d_A_pick_61 rfl (lv_at hl 2 rfl) ?_
                  refine lv_iload_n hx hb d_A_pick_62 rfl (lv_at hl 3 rfl) ?_
                  refine lv_iload_n hx hb d_A_pick_63 rfl (lv_at hl 4 rfl) ?_
                  refine aNR (As := [.int x1, .int x2, .int x3]) (rest := []) ⟨hx, hb, hml, hown, hts⟩ (c_N_firstAsked l dC dI cI a N x1 x2 x3) (cwV 3 hts (gV kml_A_56 kim_N_firstAsked ksl_N_firstAsked kin_N kcd_N_firstAsked) rfl rfl rfl (by decide +kernel) ⟨by show 2 + 1 ≤ 6 + (d + 1); omega, by show 8 + (5 + 11) + 44 ≤ 200 + 60 * (d + 1); omega⟩) hP hK rfl hl.1 rfl (Nat.le_of_ble_eq_true rfl) d_A_pick_64 ⟨Nat.zero_le _, Nat.zero_le _⟩ ?_
                  refine lv_istore (lv' := [(6, .int (j_firstAsked N x1 x2 x3)), (5, .int (j_answerFor E x1 x2 x3)), (0, .ref g), (1, .int x1), (2, .int x2), (3, .int x3), (4, .int x4)]) hx hb d_A_pick_67 hl (by decide) rfl (fun ls hl => ?_)
                  refine lv_aload_n hx hb d_A_pick_69 rfl (lv_at hl 2 rfl) ?_
                  refine lv_aload_n hx hb d_A_pick_70 rfl (lv_at hl 2 rfl) ?_
                  refine va_get (D := (dC, dI)) (ci := 2) (v := .ref (a 0)) (C := R_A) (T := T_A) (N := 2) hx hb hts in_A hown hK hP 0 rfl rfl 0 (by decide) (hts _ kfl_A_9) (fun _ h9 => h9) rfl d_A_pick_71 ?_
                  refine lv_iload_n hx hb d_A_pick_74 rfl (lv_at hl 3 rfl) ?_
                  refine lv_iload hx hb d_A_pick_75 (lv_at hl 0 rfl) ?_
                  refine aNR (As := [.int x1, .int (j_firstAsked N x1 x2 x3)]) (rest := [.ref g]) ⟨hx, hb, hml, hown, hts⟩ (c_N_lowFor l dC dI cI a N x1 (j_firstAsked N x1 x2 x3)) (cwV 2 hts (gV kml_A_59 kim_N_lowFor ksl_N_lowFor kin_N kcd_N_lowFor) rfl rfl rfl (by decide +kernel) ⟨by show 1 + 1 ≤ 6 + (d + 1); omega, by show 8 + (3 + 11) + 23 ≤ 200 + 60 * (d + 1); omega⟩) hP hK rfl hl.1 rfl (Nat.le_of_ble_eq_true rfl) d_A_pick_77 ⟨Nat.zero_le _, Nat.zero_le _⟩ ?_
                  refine lv_aload_n hx hb d_A_pick_80 rfl (lv_at hl 2 rfl) ?_
                  refine va_get (D := (dC, dI)) (ci := 2) (v := .ref (a 0)) (C := R_A) (T := T_A) (N := 2) hx hb hts in_A hown hK hP 0 rfl rfl 0 (by decide) (hts _ kfl_A_9) (fun _ h9 => h9) rfl d_A_pick_81 ?_
                  refine lv_iload_n hx hb d_A_pick_84 rfl (lv_at hl 4 rfl) ?_
                  refine lv_iload hx hb d_A_pick_85 (lv_at hl 0 rfl) ?_
                  refine aNR (As := [.int x2, .int (j_firstAsked N x1 x2 x3)]) (rest := [.int (j_lowFor N x1 (j_firstAsked N x1 x2 x3)), .ref g]) ⟨hx, hb, hml, hown, hts⟩ (c_N_lowFor l dC dI cI a N x2 (j_firstAsked N x1 x2 x3)) (cwV 2 hts (gV kml_A_59 kim_N_lowFor ksl_N_lowFor kin_N kcd_N_lowFor) rfl rfl rfl (by decide +kernel) ⟨by show 1 + 1 ≤ 6 + (d + 1); omega, by show 8 + (3 + 11) + 23 ≤ 200 + 60 * (d + 1); omega⟩) hP hK rfl hl.1 rfl (Nat.le_of_ble_eq_true rfl) d_A_pick_87 ⟨Nat.zero_le _, Nat.zero_le _⟩ ?_
                  refine lv_aload_n hx hb d_A_pick_90 rfl (lv_at hl 2 rfl) ?_
                  refine va_get (D := (dC, dI)) (ci := 2) (v := .ref (a 0)) (C := R_A) (T := T_A) (N := 2) hx hb hts in_A hown hK hP 0 rfl rfl 0 (by decide) (hts _ kfl_A_9) (fun _ h9 => h9) rfl d_A_pick_91 ?_
                  refine lv_iload_n hx hb d_A_pick_94 rfl (lv_at hl 5 rfl) ?_
                  refine lv_iload hx hb d_A_pick_95 (lv_at hl 0 rfl) ?_
                  refine aNR (As := [.int x3, .int (j_firstAsked N x1 x2 x3)]) (rest := [.int (j_lowFor N x2 (j_firstAsked N x1 x2 x3)), .int (j_lowFor N x1 (j_firstAsked N x1 x2 x3)), .ref g]) ⟨hx, hb, hml, hown, hts⟩ (c_N_lowFor l dC dI cI a N x3 (j_firstAsked N x1 x2 x3)) (cwV 2 hts (gV kml_A_59 kim_N_lowFor ksl_N_lowFor kin_N kcd_N_lowFor) rfl rfl rfl (by decide +kernel) ⟨by show 1 + 1 ≤ 6 + (d + 1); omega, by show 8 + (3 + 11) + 23 ≤ 200 + 60 * (d + 1); omega⟩) hP hK rfl hl.1 rfl (Nat.le_of_ble_eq_true rfl) d_A_pick_97 ⟨Nat.zero_le _, Nat.zero_le _⟩ ?_
                  refine lv_iload hx hb d_A_pick_100 (lv_at hl 6 rfl) ?_
                  refine lv_iconst (v := 1) hx hb d_A_pick_102 (by decide) ?_
                  refine lv_iadd hx hb d_A_pick_103 ?_
                  obtain ⟨N104, E104, r104, h104⟩ := ex3 (j_pick d N E (j_lowFor N x1 (j_firstAsked N x1 x2 x3)) (j_lowFor N x2 (j_firstAsked N x1 x2 x3)) (j_lowFor N x3 (j_firstAsked N x1 x2 x3)))
                  refine aAi (As := [.int (j_lowFor N x1 (j_firstAsked N x1 x2 x3)), .int (j_lowFor N x2 (j_firstAsked N x1 x2 x3)), .int (j_lowFor N x3 (j_firstAsked N x1 x2 x3)), .int (x4 + 1)]) (rest := []) ⟨hx, hb, hml, hown, hts⟩ (ih N E _ (j_lowFor N x1 (j_firstAsked N x1 x2 x3)) (j_lowFor N x2 (j_firstAsked N x1 x2 x3)) (j_lowFor N x3 (j_firstAsked N x1 x2 x3)) (x4 + 1) _ _ _ (by omega) (by rw [hx4, nI_1]; congr 1; omega) h104) (cwV 4 hts (gV kml_A_38 kim_A_pick ksl_A_pick kin_A kcd_A_pick) rfl rfl rfl (by decide +kernel) ⟨by show 6 + d + 1 ≤ 6 + (d + 1); omega, by show 8 + (10 + 11) + (200 + 60 * d) ≤ 200 + 60 * (d + 1); omega⟩) hP hK hD hS hA rfl hl.1 rfl (Nat.le_of_ble_eq_true rfl) d_A_pick_104 ⟨Nat.zero_le _, Nat.zero_le _⟩ (fun H locs hP hD hS => ?_)
                  refine lv_istore (lv' := [(7, .int r104), (6, .int (j_firstAsked N x1 x2 x3)), (5, .int (j_answerFor E x1 x2 x3)), (0, .ref g), (1, .int x1), (2, .int x2), (3, .int x3), (4, .int x4)]) hx hb d_A_pick_107 hl (by decide) rfl (fun ls hl => ?_)
                  refine lv_aload_n hx hb d_A_pick_109 rfl (lv_at hl 3 rfl) ?_
                  refine lv_aload_n hx hb d_A_pick_110 rfl (lv_at hl 3 rfl) ?_
                  refine va_get (D := (dC, dI)) (ci := 2) (v := .ref (a 0)) (C := R_A) (T := T_A) (N := 2) hx hb hts in_A hown hK hP 0 rfl rfl 0 (by decide) (hts _ kfl_A_9) (fun _ h9 => h9) rfl d_A_pick_111 ?_
                  refine lv_iload_n hx hb d_A_pick_114 rfl (lv_at hl 4 rfl) ?_
                  refine lv_iload hx hb d_A_pick_115 (lv_at hl 1 rfl) ?_
                  refine aNR (As := [.int x1, .int (j_firstAsked N x1 x2 x3)]) (rest := [.ref g]) ⟨hx, hb, hml, hown, hts⟩ (c_N_highFor l dC dI cI a N104 x1 (j_firstAsked N x1 x2 x3)) (cwV 2 hts (gV kml_A_62 kim_N_highFor ksl_N_highFor kin_N kcd_N_highFor) rfl rfl rfl (by decide +kernel) ⟨by show 1 + 1 ≤ 6 + (d + 1); omega, by show 8 + (3 + 11) + 23 ≤ 200 + 60 * (d + 1); omega⟩) hP hK rfl hl.1 rfl (Nat.le_of_ble_eq_true rfl) d_A_pick_117 ⟨Nat.zero_le _, Nat.zero_le _⟩ ?_
                  refine lv_aload_n hx hb d_A_pick_120 rfl (lv_at hl 3 rfl) ?_
                  refine va_get (D := (dC, dI)) (ci := 2) (v := .ref (a 0)) (C := R_A) (T := T_A) (N := 2) hx hb hts in_A hown hK hP 0 rfl rfl 0 (by decide) (hts _ kfl_A_9) (fun _ h9 => h9) rfl d_A_pick_121 ?_
                  refine lv_iload_n hx hb d_A_pick_124 rfl (lv_at hl 5 rfl) ?_
                  refine lv_iload hx hb d_A_pick_125 (lv_at hl 1 rfl) ?_
                  refine aNR (As := [.int x2, .int (j_firstAsked N x1 x2 x3)]) (rest := [.int (j_highFor N104 x1 (j_firstAsked N x1 x2 x3)), .ref g]) ⟨hx, hb, hml, hown, hts⟩ (c_N_highFor l dC dI cI a N104 x2 (j_firstAsked N x1 x2 x3)) (cwV 2 hts (gV kml_A_62 kim_N_highFor ksl_N_highFor kin_N kcd_N_highFor) rfl rfl rfl (by decide +kernel) ⟨by show 1 + 1 ≤ 6 + (d + 1); omega, by show 8 + (3 + 11) + 23 ≤ 200 + 60 * (d + 1); omega⟩) hP hK rfl hl.1 rfl (Nat.le_of_ble_eq_true rfl) d_A_pick_127 ⟨Nat.zero_le _, Nat.zero_le _⟩ ?_
                  refine lv_aload_n hx hb d_A_pick_130 rfl (lv_at hl 3 rfl) ?_
                  refine va_get (D := (dC, dI)) (ci := 2) (v := .ref (a 0)) (C := R_A) (T := T_A) (N := 2) hx hb hts in_A hown hK hP 0 rfl rfl 0 (by decide) (hts _ kfl_A_9) (fun _ h9 => h9) rfl d_A_pick_131 ?_
                  refine lv_iload_n hx hb d_A_pick_134 rfl (lv_at hl 6 rfl) ?_
                  refine lv_iload hx hb d_A_pick_135 (lv_at hl 1 rfl) ?_
                  refine aNR (As := [.int x3, .int (j_firstAsked N x1 x2 x3)]) (rest := [.int (j_highFor N104 x2 (j_firstAsked N x1 x2 x3)), .int (j_highFor N104 x1 (j_firstAsked N x1 x2 x3)), .ref g]) ⟨hx, hb, hml, hown, hts⟩ (c_N_highFor l dC dI cI a N104 x3 (j_firstAsked N x1 x2 x3)) (cwV 2 hts (gV kml_A_62 kim_N_highFor ksl_N_highFor kin_N kcd_N_highFor) rfl rfl rfl (by decide +kernel) ⟨by show 1 + 1 ≤ 6 + (d + 1); omega, by show 8 + (3 + 11) + 23 ≤ 200 + 60 * (d + 1); omega⟩) hP hK rfl hl.1 rfl (Nat.le_of_ble_eq_true rfl) d_A_pick_137 ⟨Nat.zero_le _, Nat.zero_le _⟩ ?_
                  refine lv_iload hx hb d_A_pick_140 (lv_at hl 7 rfl) ?_
                  refine lv_iconst (v := 1) hx hb d_A_pick_142 (by decide) ?_
                  refine lv_iadd hx hb d_A_pick_143 ?_
                  obtain ⟨N144, E144, r144, h144⟩ := ex3 (j_pick d N104 E104 (j_highFor N104 x1 (j_firstAsked N x1 x2 x3)) (j_highFor N104 x2 (j_firstAsked N x1 x2 x3)) (j_highFor N104 x3 (j_firstAsked N x1 x2 x3)))
                  refine aAi (As := [.int (j_highFor N104 x1 (j_firstAsked N x1 x2 x3)), .int (j_highFor N104 x2 (j_firstAsked N x1 x2 x3)), .int (j_highFor N104 x3 (j_firstAsked N x1 x2 x3)), .int (x4 + 1)]) (rest := []) ⟨hx, hb, hml, hown, hts⟩ (ih N104 E104 _ (j_highFor N104 x1 (j_firstAsked N x1 x2 x3)) (j_highFor N104 x2 (j_firstAsked N x1 x2 x3)) (j_highFor N104 x3 (j_firstAsked N x1 x2 x3)) (x4 + 1) _ _ _ (by omega) (by rw [hx4, nI_1]; congr 1; omega) h144) (cwV 4 hts (gV kml_A_38 kim_A_pick ksl_A_pick kin_A kcd_A_pick) rfl rfl rfl (by decide +kernel) ⟨by show 6 + d + 1 ≤ 6 + (d + 1); omega, by show 8 + (10 + 11) + (200 + 60 * d) ≤ 200 + 60 * (d + 1); omega⟩) hP hK hD hS hA rfl hl.1 rfl (Nat.le_of_ble_eq_true rfl) d_A_pick_144 ⟨Nat.zero_le _, Nat.zero_le _⟩ (fun H locs hP hD hS => ?_)
                  refine lv_istore (lv' := [(8, .int r144), (7, .int r104), (6, .int (j_firstAsked N x1 x2 x3)), (5, .int (j_answerFor E x1 x2 x3)), (0, .ref g), (1, .int x1), (2, .int x2), (3, .int x3), (4, .int x4)]) hx hb d_A_pick_147 hl (by decide) rfl (fun ls hl => ?_)
                  refine lv_aload_n hx hb d_A_pick_149 rfl (lv_at hl 4 rfl) ?_
                  refine va_get (D := (dC, dI)) (ci := 2) (v := .ref (a 0)) (C := R_A) (T := T_A) (N := 2) hx hb hts in_A hown hK hP 0 rfl rfl 0 (by decide) (hts _ kfl_A_9) (fun _ h9 => h9) rfl d_A_pick_150 ?_
                  refine lv_iload hx hb d_A_pick_153 (lv_at hl 2 rfl) ?_
                  refine lv_iload hx hb d_A_pick_155 (lv_at hl 1 rfl) ?_
                  refine lv_iload hx hb d_A_pick_157 (lv_at hl 0 rfl) ?_
                  obtain ⟨N159, r159, h159⟩ := ex2 (j_make N144 (j_firstAsked N x1 x2 x3) r104 r144)
                  refine aNi (As := [.int (j_firstAsked N x1 x2 x3), .int r104, .int r144]) (rest := []) ⟨hx, hb, hml, hown, hts⟩ (c_N_make' l dC dI cI a N144 _ (j_firstAsked N x1 x2 x3) r104 r144 h159) (cwV 3 hts (gV kml_A_34 kim_N_make ksl_N_make kin_N kcd_N_make) rfl rfl rfl (by decide +kernel) ⟨by show 2 + 1 ≤ 6 + (d + 1); omega, by show 8 + (7 + 11) + 49 ≤ 200 + 60 * (d + 1); omega⟩) hP hK hD hS hA rfl hl.1 rfl (Nat.le_of_ble_eq_true rfl) d_A_pick_159 ⟨Nat.zero_le _, Nat.zero_le _⟩ (fun H locs hP hD hS => ?_)
                  refine lv_istore (lv' := [(9, .int r159), (8, .int r144), (7, .int r104), (6, .int (j_firstAsked N x1 x2 x3)), (5, .int (j_answerFor E x1 x2 x3)), (0, .ref g), (1, .int x1), (2, .int x2), (3, .int x3), (4, .int x4)]) hx hb d_A_pick_162 hl (by decide) rfl (fun ls hl => ?_)
                  refine lv_aload_n hx hb d_A_pick_164 rfl (lv_at hl 5 rfl) ?_
                  refine va_get (D := (dC, dI)) (ci := 2) (v := .ref (b 0)) (C := R_A) (T := T_A) (N := 2) hx hb hts in_A hown hK hP 0 rfl rfl 1 (by decide) (hts _ kfl_A_18) (fun _ h9 => h9) rfl d_A_pick_165 ?_
                  refine lv_iload_n hx hb d_A_pick_168 rfl (lv_at hl 6 rfl) ?_
                  refine lv_iload_n hx hb d_A_pick_169 rfl (lv_at hl 7 rfl) ?_
                  refine lv_iload_n hx hb d_A_pick_170 rfl (lv_at hl 8 rfl) ?_
                  refine lv_iload hx hb d_A_pick_171 (lv_at hl 0 rfl) ?_
                  refine aMv (As := [.int x1, .int x2, .int x3, .int r159]) (rest := []) ⟨hx, hb, hml, hown, hts⟩ (c_M_keep l dC dI cI b E144 _ x1 x2 x3 r159) (cwV 4 hts (gV kml_A_65 kim_M_keep ksl_M_keep kin_M kcd_M_keep) rfl rfl rfl (by decide +kernel) ⟨by show 1 + 1 ≤ 6 + (d + 1); omega, by show 8 + (6 + 11) + 23 ≤ 200 + 60 * (d + 1); omega⟩) hP hK hD hS hA rfl hl.1 rfl (Nat.le_of_ble_eq_true rfl) d_A_pick_173 ⟨Nat.zero_le _, Nat.zero_le _⟩ (fun H locs hP hD hS => ?_)
                  refine lv_iload hx hb d_A_pick_176 (lv_at hl 0 rfl) ?_
                  have eq : j_pick (d + 1) N E x1 x2 x3 = (N159, j_keep E144 x1 x2 x3 r159, r159) := pick_r (by rintro (h | h | h | ⟨h, h2⟩) <;> first | exact absurd h c2 | exact absurd h2 c2 | exact absurd h c7 | exact absurd h2 c7 | exact absurd h c13 | exact absurd h2 c13 | exact absurd h c20 | exact absurd h2 c20 | exact absurd h c24 | exact absurd h2 c24 | exact absurd h c31 | exact absurd h2 c31) c51 rfl h104 h144 h159
                  obtain ⟨eN, eE, eR⟩ := pe3 (hres.symm.trans eq)
                  have hP9 : va_P (dC, dI) cls0 (gW cI g a b (N') (E')) H := by rw [eN, eE]; exact hP
                  have hD9 : va_D A (gW cI g a b (N') (E')) := by rw [eN, eE]; exact hD
                  exact W.iret (v := r159) hx hb hr (fun t ht hW => ⟨⟨r159, (), rfl, eR.symm, by rw [ht]; exact hP9, va_K.moved hW.alike hK, hD9⟩, hS.F ht⟩) hS.2.2 d_A_pick_178
                · refine lv_iload hx hb d_A_pick_54 (lv_at hl 0 rfl) ?_
                  have eq : j_pick (d + 1) N E x1 x2 x3 = (N, E, j_answerFor E x1 x2 x3) := by first | exact pick_m (by rintro (h | h | h | ⟨h, h2⟩) <;> first | exact absurd h c2 | exact absurd h2 c2 | exact absurd h c7 | exact absurd h2 c7 | exact absurd h c13 | exact absurd h2 c13 | exact absurd h c20 | exact absurd h2 c20 | exact absurd h c24 | exact absurd h2 c24 | exact absurd h c31 | exact absurd h2 c31) c51
                  obtain ⟨eN, eE, eR⟩ := pe3 (hres.symm.trans eq)
                  have hP9 : va_P (dC, dI) cls0 (gW cI g a b (N') (E')) s.heap := by rw [eN, eE]; exact hP
                  have hD9 : va_D A (gW cI g a b (N') (E')) := by rw [eN, eE]; exact hD
                  exact W.iret (v := (j_answerFor E x1 x2 x3)) hx hb hr (fun t ht hW => ⟨⟨j_answerFor E x1 x2 x3, (), rfl, eR.symm, by rw [ht]; exact hP9, va_K.moved hW.alike hK, hD9⟩, hS.F ht⟩) hS.2.2 d_A_pick_56
              · exact absurd (by rw [hx4]; exact nI_lt (b := 12) (by omega) (by omega)) c31
        · refine lv_iload_n hx hb d_A_pick_16 rfl (lv_at hl 3 rfl) ?_
          have eq : j_pick (d + 1) N E x1 x2 x3 = (N, E, x3) := by first | (rw [pick_b (by simp only [c2, c7, c13, if_true, if_false, not_true_eq_false, not_false_eq_true, true_and, and_true, false_and, and_false, true_or, or_true, false_or, or_false, ite_true, ite_false, eq_self, or_self, and_self, not_false_iff])]; unfold j_pickB; simp only [c2, c7, if_pos c13, if_true, if_false, not_true_eq_false, not_false_eq_true, true_and, and_true, false_and, and_false, true_or, or_true, false_or, or_false, ite_true, ite_false, eq_self]; done) | (rw [pick_b (by simp only [c2, c7, c13, if_true, if_false, not_true_eq_false, not_false_eq_true, true_and, and_true, false_and, and_false, true_or, or_true, false_or, or_false, ite_true, ite_false, eq_self, or_self, and_self, not_false_iff])]; unfold j_pickB; simp only [c2, c7, c13, if_true, if_false, not_true_eq_false, not_false_eq_true, true_and, and_true, false_and, and_false, true_or, or_true, false_or, or_false, ite_true, ite_false, eq_self])
          obtain ⟨eN, eE, eR⟩ := pe3 (hres.symm.trans eq)
          have hP9 : va_P (dC, dI) cls0 (gW cI g a b (N') (E')) s.heap := by rw [eN, eE]; exact hP
          have hD9 : va_D A (gW cI g a b (N') (E')) := by rw [eN, eE]; exact hD
          exact W.iret (v := x3) hx hb hr (fun t ht hW => ⟨⟨x3, (), rfl, eR.symm, by rw [ht]; exact hP9, va_K.moved hW.alike hK, hD9⟩, hS.F ht⟩) hS.2.2 d_A_pick_17
      · refine lv_iload_n hx hb d_A_pick_10 rfl (lv_at hl 2 rfl) ?_
        have eq : j_pick (d + 1) N E x1 x2 x3 = (N, E, x2) := by first | (rw [pick_b (by simp only [c2, c7, if_true, if_false, not_true_eq_false, not_false_eq_true, true_and, and_true, false_and, and_false, true_or, or_true, false_or, or_false, ite_true, ite_false, eq_self, or_self, and_self, not_false_iff])]; unfold j_pickB; simp only [c2, if_pos c7, if_true, if_false, not_true_eq_false, not_false_eq_true, true_and, and_true, false_and, and_false, true_or, or_true, false_or, or_false, ite_true, ite_false, eq_self]; done) | (rw [pick_b (by simp only [c2, c7, if_true, if_false, not_true_eq_false, not_false_eq_true, true_and, and_true, false_and, and_false, true_or, or_true, false_or, or_false, ite_true, ite_false, eq_self, or_self, and_self, not_false_iff])]; unfold j_pickB; simp only [c2, c7, if_true, if_false, not_true_eq_false, not_false_eq_true, true_and, and_true, false_and, and_false, true_or, or_true, false_or, or_false, ite_true, ite_false, eq_self])
        obtain ⟨eN, eE, eR⟩ := pe3 (hres.symm.trans eq)
        have hP9 : va_P (dC, dI) cls0 (gW cI g a b (N') (E')) s.heap := by rw [eN, eE]; exact hP
        have hD9 : va_D A (gW cI g a b (N') (E')) := by rw [eN, eE]; exact hD
        exact W.iret (v := x2) hx hb hr (fun t ht hW => ⟨⟨x2, (), rfl, eR.symm, by rw [ht]; exact hP9, va_K.moved hW.alike hK, hD9⟩, hS.F ht⟩) hS.2.2 d_A_pick_11

set_option maxHeartbeats 8000000 in
set_option maxRecDepth 100000 in
theorem c_A_hanging (l : Launch) (dC : Nat → ClassId) (dI : Nat → Nat → Nat) (cI : ClassId) (g : Nat) (a b : Nat → Nat) : ∀ (d : Nat) (N E : Mm) (sz : Nat) (x1 x2 : Int32) (E' : Mm) (r : Int32), d ≤ 12 → x2 = nI (12 - d) → j_hang d N E x1 = (E', r) → Met l y_A_hanging (.code y_A_hanging b_A_hanging 6 (some .int) :: W0) (rmP d) (va_Pc [.ref g, .int x1, .int x2] (gM dC dI cI g a b N E sz)) (va_Qi (fun (z : Int32) (_ : Unit) => z = r) (fun _ t => gE dC dI cI g a b (N) (E') (va_A (gW cI g a b N E) sz) t) (va_A (gW cI g a b N E) sz)) 0 0 (va_A (gW cI g a b N E) sz) := by
  intro d
  induction d with
  | zero =>
    intro N E sz x1 x2 E' r hd hxd hres
    refine Met.ofW (cc := b_A_hanging) (maxL := 6) (ret := (some .int)) (by decide) rfl ?_
    intro p e s m args below meth c s₁ B hml hv
    obtain ⟨rfl, hsz, hP, hK, hD0⟩ := hv
    have hx := B.exec
    have hb := B.bytes
    have hr := B.returns
    have hts1 := atoms_spec (ws := .code y_A_hanging b_A_hanging 6 (some .int) :: W0) B.pre
    have hts : ∀ w ∈ W0, w.before _ s = true := fun w h => hts1 w (List.mem_cons_of_mem _ h)
    have hown : s.vm.findClass R_A = some m.cls := findClass_of_methodNamed B.named
    have hlocks := B.notSynchronized
    subst hsz
    have hD := hD0.self (sz := s.heap.size)
    generalize hAe : va_A (gW cI g a b N E) s.heap.size = A at hD ⊢
    have hA : ∀ q : Nat, s.heap.size ≤ q → A q := fun q h => by rw [← hAe]; exact Or.inr h
    have hS : va_S A s.heap s.heap [] := va_S.rf
    have hP : va_P (dC, dI) cls0 (gW cI g a b N E) s.heap := hP
    have hl := lv_entry ([.ref g, .int x1, .int x2]) (n := 6) (Nat.le_of_ble_eq_true rfl)
    rw [lg_entry_eq]
    generalize (lg_sl ([.ref g, .int x1, .int x2]) ++ List.replicate (6 - (lg_sl ([.ref g, .int x1, .int x2])).length) Slot.unset).toArray = ls at hl ⊢
    have hl : lv_has ls 6 [(0, .ref g), (1, .int x1), (2, .int x2)] := hl
    refine lv_iload_n hx hb d_A_hanging_0 rfl (lv_at hl 1 rfl) ?_
    refine lv_iconst (v := 1) hx hb d_A_hanging_1 (by decide) ?_
    refine lv_icmp_le (tgt := 11) hx hb d_A_hanging_2 (by decide) (fun c2 => ?_) (fun c2 => ?_)
    · refine lv_iconst (v := 0) hx hb d_A_hanging_11 (by decide) ?_
      have eq : j_hang 0 N E x1 = (E, 0) := rfl
      obtain ⟨eE, eR⟩ := pe2 (hres.symm.trans eq)
      have eN : N = N := rfl
      have hP9 : va_P (dC, dI) cls0 (gW cI g a b (N) (E')) s.heap := by rw [eN, eE]; exact hP
      have hD9 : va_D A (gW cI g a b (N) (E')) := by rw [eN, eE]; exact hD
      exact W.iret (v := 0) hx hb hr (fun t ht hW => ⟨⟨0, (), rfl, eR.symm, by rw [ht]; exact hP9, va_K.moved hW.alike hK, hD9⟩, hS.F ht⟩) hS.2.2 d_A_hanging_12
    · refine lv_iload_n hx hb d_A_hanging_5 rfl (lv_at hl 2 rfl) ?_
      refine lv_bipush (v := 12) hx hb d_A_hanging_6 (by decide) ?_
      refine lv_icmp_lt (tgt := 13) hx hb d_A_hanging_8 (by decide) (fun c8 => ?_) (fun c8 => ?_)
      · exact absurd c8 (by rw [hxd]; exact nI_nlt (a := 12 - 0) (b := 12) (by omega) (by omega))
      · refine lv_iconst (v := 0) hx hb d_A_hanging_11 (by decide) ?_
        have eq : j_hang 0 N E x1 = (E, 0) := rfl
        obtain ⟨eE, eR⟩ := pe2 (hres.symm.trans eq)
        have eN : N = N := rfl
        have hP9 : va_P (dC, dI) cls0 (gW cI g a b (N) (E')) s.heap := by rw [eN, eE]; exact hP
        have hD9 : va_D A (gW cI g a b (N) (E')) := by rw [eN, eE]; exact hD
        exact W.iret (v := 0) hx hb hr (fun t ht hW => ⟨⟨0, (), rfl, eR.symm, by rw [ht]; exact hP9, va_K.moved hW.alike hK, hD9⟩, hS.F ht⟩) hS.2.2 d_A_hanging_12
  | succ d ih =>
    intro N E sz x1 x2 E' r hd hxd hres
    refine Met.ofW (cc := b_A_hanging) (maxL := 6) (ret := (some .int)) (by decide) rfl ?_
    intro p e s m args below meth c s₁ B hml hv
    obtain ⟨rfl, hsz, hP, hK, hD0⟩ := hv
    have hx := B.exec
    have hb := B.bytes
    have hr := B.returns
    have hts1 := atoms_spec (ws := .code y_A_hanging b_A_hanging 6 (some .int) :: W0) B.pre
    have hts : ∀ w ∈ W0, w.before _ s = true := fun w h => hts1 w (List.mem_cons_of_mem _ h)
    have hown : s.vm.findClass R_A = some m.cls := findClass_of_methodNamed B.named
    have hlocks := B.notSynchronized
    subst hsz
    have hD := hD0.self (sz := s.heap.size)
    generalize hAe : va_A (gW cI g a b N E) s.heap.size = A at hD ⊢
    have hA : ∀ q : Nat, s.heap.size ≤ q → A q := fun q h => by rw [← hAe]; exact Or.inr h
    have hS : va_S A s.heap s.heap [] := va_S.rf
    have hP : va_P (dC, dI) cls0 (gW cI g a b N E) s.heap := hP
    have hl := lv_entry ([.ref g, .int x1, .int x2]) (n := 6) (Nat.le_of_ble_eq_true rfl)
    rw [lg_entry_eq]
    generalize (lg_sl ([.ref g, .int x1, .int x2]) ++ List.replicate (6 - (lg_sl ([.ref g, .int x1, .int x2])).length) Slot.unset).toArray = ls at hl ⊢
    have hl : lv_has ls 6 [(0, .ref g), (1, .int x1), (2, .int x2)] := hl
    refine lv_iload_n hx hb d_A_hanging_0 rfl (lv_at hl 1 rfl) ?_
    refine lv_iconst (v := 1) hx hb d_A_hanging_1 (by decide) ?_
    refine lv_icmp_le (tgt := 11) hx hb d_A_hanging_2 (by decide) (fun c2 => ?_) (fun c2 => ?_)
    · refine lv_iconst (v := 0) hx hb d_A_hanging_11 (by decide) ?_
      have eq : j_hang (d + 1) N E x1 = (E, 0) := hang_b c2
      obtain ⟨eE, eR⟩ := pe2 (hres.symm.trans eq)
      have eN : N = N := rfl
      have hP9 : va_P (dC, dI) cls0 (gW cI g a b (N) (E')) s.heap := by rw [eN, eE]; exact hP
      have hD9 : va_D A (gW cI g a b (N) (E')) := by rw [eN, eE]; exact hD
      exact W.iret (v := 0) hx hb hr (fun t ht hW => ⟨⟨0, (), rfl, eR.symm, by rw [ht]; exact hP9, va_K.moved hW.alike hK, hD9⟩, hS.F ht⟩) hS.2.2 d_A_hanging_12
    · refine lv_iload_n hx hb d_A_hanging_5 rfl (lv_at hl 2 rfl) ?_
      refine lv_bipush (v := 12) hx hb d_A_hanging_6 (by decide) ?_
      refine lv_icmp_lt (tgt := 13) hx hb d_A_hanging_8 (by decide) (fun c8 => ?_) (fun c8 => ?_)
      · refine lv_aload_n hx hb d_A_hanging_13 rfl (lv_at hl 0 rfl) ?_
        refine va_get (D := (dC, dI)) (ci := 2) (v := .ref (b 0)) (C := R_A) (T := T_A) (N := 2) hx hb hts in_A hown hK hP 0 rfl rfl 1 (by decide) (hts _ kfl_A_18) (fun _ h9 => h9) rfl d_A_hanging_14 ?_
        refine lv_iload_n hx hb d_A_hanging_17 rfl (lv_at hl 1 rfl) ?_
        refine lv_iconst (v := 0) hx hb d_A_hanging_18 (by decide) ?_
        refine lv_iconst (v := -1) hx hb d_A_hanging_19 (by decide) ?_
        refine aMR (As := [.int x1, .int 0, .int (-1)]) (rest := []) ⟨hx, hb, hml, hown, hts⟩ (c_M_answerFor l dC dI cI b E x1 0 (-1)) (cwV 3 hts (gV kml_A_53 kim_M_answerFor ksl_M_answerFor kin_M kcd_M_answerFor) rfl rfl rfl (by decide +kernel) ⟨by show 1 + 1 ≤ 6 + (d + 1); omega, by show 8 + (6 + 11) + 23 ≤ 200 + 60 * (d + 1); omega⟩) hP hK rfl hl.1 rfl (Nat.le_of_ble_eq_true rfl) d_A_hanging_20 ⟨Nat.zero_le _, Nat.zero_le _⟩ ?_
        refine lv_istore_n (lv' := [(3, .int (j_answerFor E x1 0 (-1))), (0, .ref g), (1, .int x1), (2, .int x2)]) hx hb d_A_hanging_23 rfl hl (by decide) rfl (fun ls hl => ?_)
        refine lv_iload_n hx hb d_A_hanging_24 rfl (lv_at hl 0 rfl) ?_
        refine lv_iconst (v := -1) hx hb d_A_hanging_25 (by decide) ?_
        refine lv_icmp_eq (tgt := 31) hx hb d_A_hanging_26 (by decide) (fun c26 => ?_) (fun c26 => ?_)
        · refine lv_aload_n hx hb d_A_hanging_31 rfl (lv_at hl 1 rfl) ?_
          refine va_get (D := (dC, dI)) (ci := 2) (v := .ref (a 0)) (C := R_A) (T := T_A) (N := 2) hx hb hts in_A hown hK hP 0 rfl rfl 0 (by decide) (hts _ kfl_A_9) (fun _ h9 => h9) rfl d_A_hanging_32 ?_
          refine lv_iload_n hx hb d_A_hanging_35 rfl (lv_at hl 2 rfl) ?_
          refine aNR (As := [.int x1]) (rest := []) ⟨hx, hb, hml, hown, hts⟩ (c_N_askedBy l dC dI cI a N x1) (cwV 1 hts (gV kml_A_69 kim_N_askedBy ksl_N_askedBy kin_N kcd_N_askedBy) rfl rfl rfl (by decide +kernel) ⟨by show 1 + 1 ≤ 6 + (d + 1); omega, by show 8 + (2 + 11) + 23 ≤ 200 + 60 * (d + 1); omega⟩) hP hK rfl hl.1 rfl (Nat.le_of_ble_eq_true rfl) d_A_hanging_36 ⟨Nat.zero_le _, Nat.zero_le _⟩ ?_
          refine lv_istore (lv' := [(4, .int (j_get N x1 0)), (3, .int (j_answerFor E x1 0 (-1))), (0, .ref g), (1, .int x1), (2, .int x2)]) hx hb d_A_hanging_39 hl (by decide) rfl (fun ls hl => ?_)
          refine lv_iconst (v := 1) hx hb d_A_hanging_41 (by decide) ?_
          refine lv_iload hx hb d_A_hanging_42 (lv_at hl 0 rfl) ?_
          refine lv_ishl hx hb d_A_hanging_44 ?_
          refine lv_istore (lv' := [(5, .int (1 <<< ((j_get N x1 0) &&& 31))), (4, .int (j_get N x1 0)), (3, .int (j_answerFor E x1 0 (-1))), (0, .ref g), (1, .int x1), (2, .int x2)]) hx hb d_A_hanging_45 hl (by decide) rfl (fun ls hl => ?_)
          refine lv_iload hx hb d_A_hanging_47 (lv_at hl 0 rfl) ?_
          refine lv_aload_n hx hb d_A_hanging_49 rfl (lv_at hl 3 rfl) ?_
          refine lv_aload_n hx hb d_A_hanging_50 rfl (lv_at hl 3 rfl) ?_
          refine va_get (D := (dC, dI)) (ci := 2) (v := .ref (a 0)) (C := R_A) (T := T_A) (N := 2) hx hb hts in_A hown hK hP 0 rfl rfl 0 (by decide) (hts _ kfl_A_9) (fun _ h9 => h9) rfl d_A_hanging_51 ?_
          refine lv_iload_n hx hb d_A_hanging_54 rfl (lv_at hl 4 rfl) ?_
          refine lv_iload hx hb d_A_hanging_55 (lv_at hl 1 rfl) ?_
          refine aNR (As := [.int x1, .int (j_get N x1 0)]) (rest := [.ref g, .int (1 <<< ((j_get N x1 0) &&& 31))]) ⟨hx, hb, hml, hown, hts⟩ (c_N_lowFor l dC dI cI a N x1 (j_get N x1 0)) (cwV 2 hts (gV kml_A_59 kim_N_lowFor ksl_N_lowFor kin_N kcd_N_lowFor) rfl rfl rfl (by decide +kernel) ⟨by show 1 + 1 ≤ 6 + (d + 1); omega, by show 8 + (3 + 11) + 23 ≤ 200 + 60 * (d + 1); omega⟩) hP hK rfl hl.1 rfl (Nat.le_of_ble_eq_true rfl) d_A_hanging_57 ⟨Nat.zero_le _, Nat.zero_le _⟩ ?_
          refine lv_iload_n hx hb d_A_hanging_60 rfl (lv_at hl 5 rfl) ?_
          refine lv_iconst (v := 1) hx hb d_A_hanging_61 (by decide) ?_
          refine lv_iadd hx hb d_A_hanging_62 ?_
          obtain ⟨E63, r63, h63⟩ := ex2 (j_hang d N E (j_lowFor N x1 (j_get N x1 0)))
          refine aAi (As := [.int (j_lowFor N x1 (j_get N x1 0)), .int (x2 + 1)]) (rest := [.int (1 <<< ((j_get N x1 0) &&& 31))]) ⟨hx, hb, hml, hown, hts⟩ (ih N E _ (j_lowFor N x1 (j_get N x1 0)) (x2 + 1) _ _ (by omega) (by rw [hxd, nI_1]; congr 1; omega) h63) (cwV 2 hts (gV kml_A_45 kim_A_hanging ksl_A_hanging kin_A kcd_A_hanging) rfl rfl rfl (by decide +kernel) ⟨by show 6 + d + 1 ≤ 6 + (d + 1); omega, by show 8 + (6 + 11) + (200 + 60 * d) ≤ 200 + 60 * (d + 1); omega⟩) hP hK hD hS hA rfl hl.1 rfl (Nat.le_of_ble_eq_true rfl) d_A_hanging_63 ⟨Nat.zero_le _, Nat.zero_le _⟩ (fun H locs hP hD hS => ?_)
          refine lv_ior hx hb d_A_hanging_66 ?_
          refine lv_istore (lv' := [(5, .int ((1 <<< ((j_get N x1 0) &&& 31)) ||| r63)), (4, .int (j_get N x1 0)), (3, .int (j_answerFor E x1 0 (-1))), (0, .ref g), (1, .int x1), (2, .int x2)]) hx hb d_A_hanging_67 hl (by decide) rfl (fun ls hl => ?_)
          refine lv_iload hx hb d_A_hanging_69 (lv_at hl 0 rfl) ?_
          refine lv_aload_n hx hb d_A_hanging_71 rfl (lv_at hl 3 rfl) ?_
          refine lv_aload_n hx hb d_A_hanging_72 rfl (lv_at hl 3 rfl) ?_
          refine va_get (D := (dC, dI)) (ci := 2) (v := .ref (a 0)) (C := R_A) (T := T_A) (N := 2) hx hb hts in_A hown hK hP 0 rfl rfl 0 (by decide) (hts _ kfl_A_9) (fun _ h9 => h9) rfl d_A_hanging_73 ?_
          refine lv_iload_n hx hb d_A_hanging_76 rfl (lv_at hl 4 rfl) ?_
          refine lv_iload hx hb d_A_hanging_77 (lv_at hl 1 rfl) ?_
          refine aNR (As := [.int x1, .int (j_get N x1 0)]) (rest := [.ref g, .int ((1 <<< ((j_get N x1 0) &&& 31)) ||| r63)]) ⟨hx, hb, hml, hown, hts⟩ (c_N_highFor l dC dI cI a N x1 (j_get N x1 0)) (cwV 2 hts (gV kml_A_62 kim_N_highFor ksl_N_highFor kin_N kcd_N_highFor) rfl rfl rfl (by decide +kernel) ⟨by show 1 + 1 ≤ 6 + (d + 1); omega, by show 8 + (3 + 11) + 23 ≤ 200 + 60 * (d + 1); omega⟩) hP hK rfl hl.1 rfl (Nat.le_of_ble_eq_true rfl) d_A_hanging_79 ⟨Nat.zero_le _, Nat.zero_le _⟩ ?_
          refine lv_iload_n hx hb d_A_hanging_82 rfl (lv_at hl 5 rfl) ?_
          refine lv_iconst (v := 1) hx hb d_A_hanging_83 (by decide) ?_
          refine lv_iadd hx hb d_A_hanging_84 ?_
          obtain ⟨E85, r85, h85⟩ := ex2 (j_hang d N E63 (j_highFor N x1 (j_get N x1 0)))
          refine aAi (As := [.int (j_highFor N x1 (j_get N x1 0)), .int (x2 + 1)]) (rest := [.int ((1 <<< ((j_get N x1 0) &&& 31)) ||| r63)]) ⟨hx, hb, hml, hown, hts⟩ (ih N E63 _ (j_highFor N x1 (j_get N x1 0)) (x2 + 1) _ _ (by omega) (by rw [hxd, nI_1]; congr 1; omega) h85) (cwV 2 hts (gV kml_A_45 kim_A_hanging ksl_A_hanging kin_A kcd_A_hanging) rfl rfl rfl (by decide +kernel) ⟨by show 6 + d + 1 ≤ 6 + (d + 1); omega, by show 8 + (6 + 11) + (200 + 60 * d) ≤ 200 + 60 * (d + 1); omega⟩) hP hK hD hS hA rfl hl.1 rfl (Nat.le_of_ble_eq_true rfl) d_A_hanging_85 ⟨Nat.zero_le _, Nat.zero_le _⟩ (fun H locs hP hD hS => ?_)
          refine lv_ior hx hb d_A_hanging_88 ?_
          refine lv_istore (lv' := [(5, .int (((1 <<< ((j_get N x1 0) &&& 31)) ||| r63) ||| r85)), (4, .int (j_get N x1 0)), (3, .int (j_answerFor E x1 0 (-1))), (0, .ref g), (1, .int x1), (2, .int x2)]) hx hb d_A_hanging_89 hl (by decide) rfl (fun ls hl => ?_)
          refine lv_aload_n hx hb d_A_hanging_91 rfl (lv_at hl 3 rfl) ?_
          refine va_get (D := (dC, dI)) (ci := 2) (v := .ref (b 0)) (C := R_A) (T := T_A) (N := 2) hx hb hts in_A hown hK hP 0 rfl rfl 1 (by decide) (hts _ kfl_A_18) (fun _ h9 => h9) rfl d_A_hanging_92 ?_
          refine lv_iload_n hx hb d_A_hanging_95 rfl (lv_at hl 4 rfl) ?_
          refine lv_iconst (v := 0) hx hb d_A_hanging_96 (by decide) ?_
          refine lv_iconst (v := -1) hx hb d_A_hanging_97 (by decide) ?_
          refine lv_iload hx hb d_A_hanging_98 (lv_at hl 0 rfl) ?_
          refine aMv (As := [.int x1, .int 0, .int (-1), .int (((1 <<< ((j_get N x1 0) &&& 31)) ||| r63) ||| r85)]) (rest := []) ⟨hx, hb, hml, hown, hts⟩ (c_M_keep l dC dI cI b E85 _ x1 0 (-1) (((1 <<< ((j_get N x1 0) &&& 31)) ||| r63) ||| r85)) (cwV 4 hts (gV kml_A_65 kim_M_keep ksl_M_keep kin_M kcd_M_keep) rfl rfl rfl (by decide +kernel) ⟨by show 1 + 1 ≤ 6 + (d + 1); omega, by show 8 + (6 + 11) + 23 ≤ 200 + 60 * (d + 1); omega⟩) hP hK hD hS hA rfl hl.1 rfl (Nat.le_of_ble_eq_true rfl) d_A_hanging_100 ⟨Nat.zero_le _, Nat.zero_le _⟩ (fun H locs hP hD hS => ?_)
          refine lv_iload hx hb d_A_hanging_103 (lv_at hl 0 rfl) ?_
          have eq : j_hang (d + 1) N E x1 = (j_keep E85 x1 0 (-1) (((1 <<< ((j_get N x1 0) &&& 31)) ||| r63) ||| r85), (((1 <<< ((j_get N x1 0) &&& 31)) ||| r63) ||| r85)) := hang_r c2 c26 h63 h85
          obtain ⟨eE, eR⟩ := pe2 (hres.symm.trans eq)
          have eN : N = N := rfl
          have hP9 : va_P (dC, dI) cls0 (gW cI g a b (N) (E')) H := by rw [eN, eE]; exact hP
          have hD9 : va_D A (gW cI g a b (N) (E')) := by rw [eN, eE]; exact hD
          exact W.iret (v := (((1 <<< ((j_get N x1 0) &&& 31)) ||| r63) ||| r85)) hx hb hr (fun t ht hW => ⟨⟨(((1 <<< ((j_get N x1 0) &&& 31)) ||| r63) ||| r85), (), rfl, eR.symm, by rw [ht]; exact hP9, va_K.moved hW.alike hK, hD9⟩, hS.F ht⟩) hS.2.2 d_A_hanging_105
        · refine lv_iload_n hx hb d_A_hanging_29 rfl (lv_at hl 0 rfl) ?_
          have eq : j_hang (d + 1) N E x1 = (E, j_answerFor E x1 0 (-1)) := hang_m c2 c26
          obtain ⟨eE, eR⟩ := pe2 (hres.symm.trans eq)
          have eN : N = N := rfl
          have hP9 : va_P (dC, dI) cls0 (gW cI g a b (N) (E')) s.heap := by rw [eN, eE]; exact hP
          have hD9 : va_D A (gW cI g a b (N) (E')) := by rw [eN, eE]; exact hD
          exact W.iret (v := (j_answerFor E x1 0 (-1))) hx hb hr (fun t ht hW => ⟨⟨j_answerFor E x1 0 (-1), (), rfl, eR.symm, by rw [ht]; exact hP9, va_K.moved hW.alike hK, hD9⟩, hS.F ht⟩) hS.2.2 d_A_hanging_30
      · exact absurd (by rw [hxd]; exact nI_lt (b := 12) (by omega) (by omega)) c8

def rmF (d : Nat) : Room := { frames := 20 + d, cells := 0, slots := 0, locals := 1200 + 60 * d }
set_option maxHeartbeats 8000000 in
set_option maxRecDepth 100000 in
theorem c_A_freed (l : Launch) (dC : Nat → ClassId) (dI : Nat → Nat → Nat) (cI : ClassId) (g : Nat) (a b : Nat → Nat) : ∀ (d : Nat) (N E : Mm) (sz : Nat) (x1 x2 x3 : Int32) (N' E' : Mm) (r : Int32), d ≤ 12 → x3 = nI (12 - d) → j_freed x2 d N E x1 = (N', E', r) → Met l y_A_freed (.code y_A_freed b_A_freed 10 (some .int) :: W0) (rmF d) (va_Pc [.ref g, .int x1, .int x2, .int x3] (gM dC dI cI g a b N E sz)) (va_Qi (fun (z : Int32) (_ : Unit) => z = r) (fun _ t => gE dC dI cI g a b (N') (E') (va_A (gW cI g a b N E) sz) t) (va_A (gW cI g a b N E) sz)) 0 0 (va_A (gW cI g a b N E) sz) := by
  intro d
  induction d with
  | zero =>
    intro N E sz x1 x2 x3 N' E' r hd hxd hres
    refine Met.ofW (cc := b_A_freed) (maxL := 10) (ret := (some .int)) (by decide) rfl ?_
    intro p e s m args below meth c s₁ B hml hv
    obtain ⟨rfl, hsz, hP, hK, hD0⟩ := hv
    have hx := B.exec
    have hb := B.bytes
    have hr := B.returns
    have hts1 := atoms_spec (ws := .code y_A_freed b_A_freed 10 (some .int) :: W0) B.pre
    have hts : ∀ w ∈ W0, w.before _ s = true := fun w h => hts1 w (List.mem_cons_of_mem _ h)
    have hown : s.vm.findClass R_A = some m.cls := findClass_of_methodNamed B.named
    have hlocks := B.notSynchronized
    subst hsz
    have hD := hD0.self (sz := s.heap.size)
    generalize hAe : va_A (gW cI g a b N E) s.heap.size = A at hD ⊢
    have hA : ∀ q : Nat, s.heap.size ≤ q → A q := fun q h => by rw [← hAe]; exact Or.inr h
    have hS : va_S A s.heap s.heap [] := va_S.rf
    have hP : va_P (dC, dI) cls0 (gW cI g a b N E) s.heap := hP
    have hl := lv_entry ([.ref g, .int x1, .int x2, .int x3]) (n := 10) (Nat.le_of_ble_eq_true rfl)
    rw [lg_entry_eq]
    generalize (lg_sl ([.ref g, .int x1, .int x2, .int x3]) ++ List.replicate (10 - (lg_sl ([.ref g, .int x1, .int x2, .int x3])).length) Slot.unset).toArray = ls at hl ⊢
    have hl : lv_has ls 10 [(0, .ref g), (1, .int x1), (2, .int x2), (3, .int x3)] := hl
    refine lv_iload_n hx hb d_A_freed_0 rfl (lv_at hl 1 rfl) ?_
    refine lv_iconst (v := 1) hx hb d_A_freed_1 (by decide) ?_
    refine lv_icmp_le (tgt := 11) hx hb d_A_freed_2 (by decide) (fun c2 => ?_) (fun c2 => ?_)
    · refine lv_iload_n hx hb d_A_freed_11 rfl (lv_at hl 1 rfl) ?_
      have eq : j_freed x2 0 N E x1 = (N, E, x1) := rfl
      obtain ⟨eN, eE, eR⟩ := pe3 (hres.symm.trans eq)
      have hP9 : va_P (dC, dI) cls0 (gW cI g a b (N') (E')) s.heap := by rw [eN, eE]; exact hP
      have hD9 : va_D A (gW cI g a b (N') (E')) := by rw [eN, eE]; exact hD
      exact W.iret (v := x1) hx hb hr (fun t ht hW => ⟨⟨x1, (), rfl, eR.symm, by rw [ht]; exact hP9, va_K.moved hW.alike hK, hD9⟩, hS.F ht⟩) hS.2.2 d_A_freed_12
    · refine lv_iload_n hx hb d_A_freed_5 rfl (lv_at hl 3 rfl) ?_
      refine lv_bipush (v := 12) hx hb d_A_freed_6 (by decide) ?_
      refine lv_icmp_lt (tgt := 13) hx hb d_A_freed_8 (by decide) (fun c8 => ?_) (fun c8 => ?_)
      · exact absurd c8 (by rw [hxd]; exact nI_nlt (a := 12 - 0) (b := 12) (by omega) (by omega))
      · refine lv_iload_n hx hb d_A_freed_11 rfl (lv_at hl 1 rfl) ?_
        have eq : j_freed x2 0 N E x1 = (N, E, x1) := rfl
        obtain ⟨eN, eE, eR⟩ := pe3 (hres.symm.trans eq)
        have hP9 : va_P (dC, dI) cls0 (gW cI g a b (N') (E')) s.heap := by rw [eN, eE]; exact hP
        have hD9 : va_D A (gW cI g a b (N') (E')) := by rw [eN, eE]; exact hD
        exact W.iret (v := x1) hx hb hr (fun t ht hW => ⟨⟨x1, (), rfl, eR.symm, by rw [ht]; exact hP9, va_K.moved hW.alike hK, hD9⟩, hS.F ht⟩) hS.2.2 d_A_freed_12
  | succ d ih =>
    intro N E sz x1 x2 x3 N' E' r hd hxd hres
    refine Met.ofW (cc := b_A_freed) (maxL := 10) (ret := (some .int)) (by decide) rfl ?_
    intro p e s m args below meth c s₁ B hml hv
    obtain ⟨rfl, hsz, hP, hK, hD0⟩ := hv
    have hx := B.exec
    have hb := B.bytes
    have hr := B.returns
    have hts1 := atoms_spec (ws := .code y_A_freed b_A_freed 10 (some .int) :: W0) B.pre
    have hts : ∀ w ∈ W0, w.before _ s = true := fun w h => hts1 w (List.mem_cons_of_mem _ h)
    have hown : s.vm.findClass R_A = some m.cls := findClass_of_methodNamed B.named
    have hlocks := B.notSynchronized
    subst hsz
    have hD := hD0.self (sz := s.heap.size)
    generalize hAe : va_A (gW cI g a b N E) s.heap.size = A at hD ⊢
    have hA : ∀ q : Nat, s.heap.size ≤ q → A q := fun q h => by rw [← hAe]; exact Or.inr h
    have hS : va_S A s.heap s.heap [] := va_S.rf
    have hP : va_P (dC, dI) cls0 (gW cI g a b N E) s.heap := hP
    have hl := lv_entry ([.ref g, .int x1, .int x2, .int x3]) (n := 10) (Nat.le_of_ble_eq_true rfl)
    rw [lg_entry_eq]
    generalize (lg_sl ([.ref g, .int x1, .int x2, .int x3]) ++ List.replicate (10 - (lg_sl ([.ref g, .int x1, .int x2, .int x3])).length) Slot.unset).toArray = ls at hl ⊢
    have hl : lv_has ls 10 [(0, .ref g), (1, .int x1), (2, .int x2), (3, .int x3)] := hl
    refine lv_iload_n hx hb d_A_freed_0 rfl (lv_at hl 1 rfl) ?_
    refine lv_iconst (v := 1) hx hb d_A_freed_1 (by decide) ?_
    refine lv_icmp_le (tgt := 11) hx hb d_A_freed_2 (by decide) (fun c2 => ?_) (fun c2 => ?_)
    · refine lv_iload_n hx hb d_A_freed_11 rfl (lv_at hl 1 rfl) ?_
      have eq : j_freed x2 (d + 1) N E x1 = (N, E, x1) := freed_b c2
      obtain ⟨eN, eE, eR⟩ := pe3 (hres.symm.trans eq)
      have hP9 : va_P (dC, dI) cls0 (gW cI g a b (N') (E')) s.heap := by rw [eN, eE]; exact hP
      have hD9 : va_D A (gW cI g a b (N') (E')) := by rw [eN, eE]; exact hD
      exact W.iret (v := x1) hx hb hr (fun t ht hW => ⟨⟨x1, (), rfl, eR.symm, by rw [ht]; exact hP9, va_K.moved hW.alike hK, hD9⟩, hS.F ht⟩) hS.2.2 d_A_freed_12
    · refine lv_iload_n hx hb d_A_freed_5 rfl (lv_at hl 3 rfl) ?_
      refine lv_bipush (v := 12) hx hb d_A_freed_6 (by decide) ?_
      refine lv_icmp_lt (tgt := 13) hx hb d_A_freed_8 (by decide) (fun c8 => ?_) (fun c8 => ?_)
      · refine lv_aload_n hx hb d_A_freed_13 rfl (lv_at hl 0 rfl) ?_
        refine va_get (D := (dC, dI)) (ci := 2) (v := .ref (b 0)) (C := R_A) (T := T_A) (N := 2) hx hb hts in_A hown hK hP 0 rfl rfl 1 (by decide) (hts _ kfl_A_18) (fun _ h9 => h9) rfl d_A_freed_14 ?_
        refine lv_iload_n hx hb d_A_freed_17 rfl (lv_at hl 1 rfl) ?_
        refine lv_iload_n hx hb d_A_freed_18 rfl (lv_at hl 2 rfl) ?_
        refine lv_iconst (v := -1) hx hb d_A_freed_19 (by decide) ?_
        refine aMR (As := [.int x1, .int x2, .int (-1)]) (rest := []) ⟨hx, hb, hml, hown, hts⟩ (c_M_answerFor l dC dI cI b E x1 x2 (-1)) (cwV 3 hts (gV kml_A_53 kim_M_answerFor ksl_M_answerFor kin_M kcd_M_answerFor) rfl rfl rfl (by decide +kernel) ⟨by show 1 + 1 ≤ 20 + (d + 1); omega, by show 8 + (6 + 11) + 23 ≤ 1200 + 60 * (d + 1); omega⟩) hP hK rfl hl.1 rfl (Nat.le_of_ble_eq_true rfl) d_A_freed_20 ⟨Nat.zero_le _, Nat.zero_le _⟩ ?_
        refine lv_istore (lv' := [(4, .int (j_answerFor E x1 x2 (-1))), (0, .ref g), (1, .int x1), (2, .int x2), (3, .int x3)]) hx hb d_A_freed_23 hl (by decide) rfl (fun ls hl => ?_)
        refine lv_iload hx hb d_A_freed_25 (lv_at hl 0 rfl) ?_
        refine lv_iconst (v := -1) hx hb d_A_freed_27 (by decide) ?_
        refine lv_icmp_eq (tgt := 34) hx hb d_A_freed_28 (by decide) (fun c28 => ?_) (fun c28 => ?_)
        · refine lv_aload_n hx hb d_A_freed_34 rfl (lv_at hl 1 rfl) ?_
          refine va_get (D := (dC, dI)) (ci := 2) (v := .ref (a 0)) (C := R_A) (T := T_A) (N := 2) hx hb hts in_A hown hK hP 0 rfl rfl 0 (by decide) (hts _ kfl_A_9) (fun _ h9 => h9) rfl d_A_freed_35 ?_
          refine lv_iload_n hx hb d_A_freed_38 rfl (lv_at hl 2 rfl) ?_
          refine aNR (As := [.int x1]) (rest := []) ⟨hx, hb, hml, hown, hts⟩ (c_N_askedBy l dC dI cI a N x1) (cwV 1 hts (gV kml_A_69 kim_N_askedBy ksl_N_askedBy kin_N kcd_N_askedBy) rfl rfl rfl (by decide +kernel) ⟨by show 1 + 1 ≤ 20 + (d + 1); omega, by show 8 + (2 + 11) + 23 ≤ 1200 + 60 * (d + 1); omega⟩) hP hK rfl hl.1 rfl (Nat.le_of_ble_eq_true rfl) d_A_freed_39 ⟨Nat.zero_le _, Nat.zero_le _⟩ ?_
          refine lv_istore (lv' := [(5, .int (j_get N x1 0)), (4, .int (j_answerFor E x1 x2 (-1))), (0, .ref g), (1, .int x1), (2, .int x2), (3, .int x3)]) hx hb d_A_freed_42 hl (by decide) rfl (fun ls hl => ?_)
          refine lv_aload_n hx hb d_A_freed_44 rfl (lv_at hl 2 rfl) ?_
          refine lv_aload_n hx hb d_A_freed_45 rfl (lv_at hl 2 rfl) ?_
          refine va_get (D := (dC, dI)) (ci := 2) (v := .ref (a 0)) (C := R_A) (T := T_A) (N := 2) hx hb hts in_A hown hK hP 0 rfl rfl 0 (by decide) (hts _ kfl_A_9) (fun _ h9 => h9) rfl d_A_freed_46 ?_
          refine lv_iload_n hx hb d_A_freed_49 rfl (lv_at hl 3 rfl) ?_
          refine lv_iload hx hb d_A_freed_50 (lv_at hl 0 rfl) ?_
          refine aNR (As := [.int x1, .int (j_get N x1 0)]) (rest := [.ref g]) ⟨hx, hb, hml, hown, hts⟩ (c_N_lowFor l dC dI cI a N x1 (j_get N x1 0)) (cwV 2 hts (gV kml_A_59 kim_N_lowFor ksl_N_lowFor kin_N kcd_N_lowFor) rfl rfl rfl (by decide +kernel) ⟨by show 1 + 1 ≤ 20 + (d + 1); omega, by show 8 + (3 + 11) + 23 ≤ 1200 + 60 * (d + 1); omega⟩) hP hK rfl hl.1 rfl (Nat.le_of_ble_eq_true rfl) d_A_freed_52 ⟨Nat.zero_le _, Nat.zero_le _⟩ ?_
          refine lv_iload_n hx hb d_A_freed_55 rfl (lv_at hl 4 rfl) ?_
          refine lv_iload_n hx hb d_A_freed_56 rfl (lv_at hl 5 rfl) ?_
          refine lv_iconst (v := 1) hx hb d_A_freed_57 (by decide) ?_
          refine lv_iadd hx hb d_A_freed_58 ?_
          obtain ⟨N59, E59, r59, h59⟩ := ex3 (j_freed x2 d N E (j_lowFor N x1 (j_get N x1 0)))
          refine aAi (As := [.int (j_lowFor N x1 (j_get N x1 0)), .int x2, .int (x3 + 1)]) (rest := []) ⟨hx, hb, hml, hown, hts⟩ (ih N E _ (j_lowFor N x1 (j_get N x1 0)) x2 (x3 + 1) _ _ _ (by omega) (by rw [hxd, nI_1]; congr 1; omega) h59) (cwV 3 hts (gV kml_A_42 kim_A_freed ksl_A_freed kin_A kcd_A_freed) rfl rfl rfl (by decide +kernel) ⟨by show 20 + d + 1 ≤ 20 + (d + 1); omega, by show 8 + (10 + 11) + (1200 + 60 * d) ≤ 1200 + 60 * (d + 1); omega⟩) hP hK hD hS hA rfl hl.1 rfl (Nat.le_of_ble_eq_true rfl) d_A_freed_59 ⟨Nat.zero_le _, Nat.zero_le _⟩ (fun H locs hP hD hS => ?_)
          refine lv_istore (lv' := [(6, .int r59), (5, .int (j_get N x1 0)), (4, .int (j_answerFor E x1 x2 (-1))), (0, .ref g), (1, .int x1), (2, .int x2), (3, .int x3)]) hx hb d_A_freed_62 hl (by decide) rfl (fun ls hl => ?_)
          refine lv_aload_n hx hb d_A_freed_64 rfl (lv_at hl 3 rfl) ?_
          refine lv_aload_n hx hb d_A_freed_65 rfl (lv_at hl 3 rfl) ?_
          refine va_get (D := (dC, dI)) (ci := 2) (v := .ref (a 0)) (C := R_A) (T := T_A) (N := 2) hx hb hts in_A hown hK hP 0 rfl rfl 0 (by decide) (hts _ kfl_A_9) (fun _ h9 => h9) rfl d_A_freed_66 ?_
          refine lv_iload_n hx hb d_A_freed_69 rfl (lv_at hl 4 rfl) ?_
          refine lv_iload hx hb d_A_freed_70 (lv_at hl 1 rfl) ?_
          refine aNR (As := [.int x1, .int (j_get N x1 0)]) (rest := [.ref g]) ⟨hx, hb, hml, hown, hts⟩ (c_N_highFor l dC dI cI a N59 x1 (j_get N x1 0)) (cwV 2 hts (gV kml_A_62 kim_N_highFor ksl_N_highFor kin_N kcd_N_highFor) rfl rfl rfl (by decide +kernel) ⟨by show 1 + 1 ≤ 20 + (d + 1); omega, by show 8 + (3 + 11) + 23 ≤ 1200 + 60 * (d + 1); omega⟩) hP hK rfl hl.1 rfl (Nat.le_of_ble_eq_true rfl) d_A_freed_72 ⟨Nat.zero_le _, Nat.zero_le _⟩ ?_
          refine lv_iload_n hx hb d_A_freed_75 rfl (lv_at hl 5 rfl) ?_
          refine lv_iload_n hx hb d_A_freed_76 rfl (lv_at hl 6 rfl) ?_
          refine lv_iconst (v := 1) hx hb d_A_freed_77 (by decide) ?_
          refine lv_iadd hx hb d_A_freed_78 ?_
          obtain ⟨N79, E79, r79, h79⟩ := ex3 (j_freed x2 d N59 E59 (j_highFor N59 x1 (j_get N x1 0)))
          refine aAi (As := [.int (j_highFor N59 x1 (j_get N x1 0)), .int x2, .int (x3 + 1)]) (rest := []) ⟨hx, hb, hml, hown, hts⟩ (ih N59 E59 _ (j_highFor N59 x1 (j_get N x1 0)) x2 (x3 + 1) _ _ _ (by omega) (by rw [hxd, nI_1]; congr 1; omega) h79) (cwV 3 hts (gV kml_A_42 kim_A_freed ksl_A_freed kin_A kcd_A_freed) rfl rfl rfl (by decide +kernel) ⟨by show 20 + d + 1 ≤ 20 + (d + 1); omega, by show 8 + (10 + 11) + (1200 + 60 * d) ≤ 1200 + 60 * (d + 1); omega⟩) hP hK hD hS hA rfl hl.1 rfl (Nat.le_of_ble_eq_true rfl) d_A_freed_79 ⟨Nat.zero_le _, Nat.zero_le _⟩ (fun H locs hP hD hS => ?_)
          refine lv_istore (lv' := [(7, .int r79), (6, .int r59), (5, .int (j_get N x1 0)), (4, .int (j_answerFor E x1 x2 (-1))), (0, .ref g), (1, .int x1), (2, .int x2), (3, .int x3)]) hx hb d_A_freed_82 hl (by decide) rfl (fun ls hl => ?_)
          refine lv_iload_n hx hb d_A_freed_84 rfl (lv_at hl 6 rfl) ?_
          refine lv_iload hx hb d_A_freed_85 (lv_at hl 2 rfl) ?_
          refine lv_ishr hx hb d_A_freed_87 ?_
          refine lv_iconst (v := 1) hx hb d_A_freed_88 (by decide) ?_
          refine lv_iand hx hb d_A_freed_89 ?_
          refine lv_if_eq (tgt := 97) hx hb d_A_freed_90 (by decide) (fun c90 => ?_) (fun c90 => ?_)
          · refine lv_iconst (v := 0) hx hb d_A_freed_97 (by decide) ?_
            refine lv_istore (lv' := [(8, .int 0), (7, .int r79), (6, .int r59), (5, .int (j_get N x1 0)), (4, .int (j_answerFor E x1 x2 (-1))), (0, .ref g), (1, .int x1), (2, .int x2), (3, .int x3)]) hx hb d_A_freed_98 hl (by decide) rfl (fun ls hl => ?_)
            refine lv_iload hx hb d_A_freed_100 (lv_at hl 0 rfl) ?_
            refine lv_if_eq (tgt := 120) hx hb d_A_freed_102 (by decide) (fun c102 => ?_) (fun c102 => ?_)
            · refine lv_aload_n hx hb d_A_freed_120 rfl (lv_at hl 5 rfl) ?_
              refine va_get (D := (dC, dI)) (ci := 2) (v := .ref (a 0)) (C := R_A) (T := T_A) (N := 2) hx hb hts in_A hown hK hP 0 rfl rfl 0 (by decide) (hts _ kfl_A_9) (fun _ h9 => h9) rfl d_A_freed_121 ?_
              refine lv_iload hx hb d_A_freed_124 (lv_at hl 3 rfl) ?_
              refine lv_iload hx hb d_A_freed_126 (lv_at hl 2 rfl) ?_
              refine lv_iload hx hb d_A_freed_128 (lv_at hl 1 rfl) ?_
              obtain ⟨N130, r130, h130⟩ := ex2 (j_make N79 (j_get N x1 0) r59 r79)
              refine aNi (As := [.int (j_get N x1 0), .int r59, .int r79]) (rest := []) ⟨hx, hb, hml, hown, hts⟩ (c_N_make' l dC dI cI a N79 _ (j_get N x1 0) r59 r79 h130) (cwV 3 hts (gV kml_A_34 kim_N_make ksl_N_make kin_N kcd_N_make) rfl rfl rfl (by decide +kernel) ⟨by show 2 + 1 ≤ 20 + (d + 1); omega, by show 8 + (7 + 11) + 49 ≤ 1200 + 60 * (d + 1); omega⟩) hP hK hD hS hA rfl hl.1 rfl (Nat.le_of_ble_eq_true rfl) d_A_freed_130 ⟨Nat.zero_le _, Nat.zero_le _⟩ (fun H locs hP hD hS => ?_)
              refine lv_istore (lv' := [(9, .int r130), (8, .int 0), (7, .int r79), (6, .int r59), (5, .int (j_get N x1 0)), (4, .int (j_answerFor E x1 x2 (-1))), (0, .ref g), (1, .int x1), (2, .int x2), (3, .int x3)]) hx hb d_A_freed_133 hl (by decide) rfl (fun ls hl => ?_)
              refine lv_aload_n hx hb d_A_freed_135 rfl (lv_at hl 6 rfl) ?_
              refine va_get (D := (dC, dI)) (ci := 2) (v := .ref (b 0)) (C := R_A) (T := T_A) (N := 2) hx hb hts in_A hown hK hP 0 rfl rfl 1 (by decide) (hts _ kfl_A_18) (fun _ h9 => h9) rfl d_A_freed_136 ?_
              refine lv_iload_n hx hb d_A_freed_139 rfl (lv_at hl 7 rfl) ?_
              refine lv_iload_n hx hb d_A_freed_140 rfl (lv_at hl 8 rfl) ?_
              refine lv_iconst (v := -1) hx hb d_A_freed_141 (by decide) ?_
              refine lv_iload hx hb d_A_freed_142 (lv_at hl 0 rfl) ?_
              refine aMv (As := [.int x1, .int x2, .int (-1), .int r130]) (rest := []) ⟨hx, hb, hml, hown, hts⟩ (c_M_keep l dC dI cI b E79 _ x1 x2 (-1) r130) (cwV 4 hts (gV kml_A_65 kim_M_keep ksl_M_keep kin_M kcd_M_keep) rfl rfl rfl (by decide +kernel) ⟨by show 1 + 1 ≤ 20 + (d + 1); omega, by show 8 + (6 + 11) + 23 ≤ 1200 + 60 * (d + 1); omega⟩) hP hK hD hS hA rfl hl.1 rfl (Nat.le_of_ble_eq_true rfl) d_A_freed_144 ⟨Nat.zero_le _, Nat.zero_le _⟩ (fun H locs hP hD hS => ?_)
              refine lv_iload hx hb d_A_freed_147 (lv_at hl 0 rfl) ?_
              have eq : j_freed x2 (d + 1) N E x1 = (N130, j_keep E79 x1 x2 (-1) r130, r130) := freed_k c2 c28 c90 h59 h79 h130
              obtain ⟨eN, eE, eR⟩ := pe3 (hres.symm.trans eq)
              have hP9 : va_P (dC, dI) cls0 (gW cI g a b (N') (E')) H := by rw [eN, eE]; exact hP
              have hD9 : va_D A (gW cI g a b (N') (E')) := by rw [eN, eE]; exact hD
              exact W.iret (v := r130) hx hb hr (fun t ht hW => ⟨⟨r130, (), rfl, eR.symm, by rw [ht]; exact hP9, va_K.moved hW.alike hK, hD9⟩, hS.F ht⟩) hS.2.2 d_A_freed_149
            · exact absurd (by decide) c102
          · refine lv_iconst (v := 1) hx hb d_A_freed_93 (by decide) ?_
            refine lv_goto (tgt := 98) hx hb d_A_freed_94 (by decide) ?_
            refine lv_istore (lv' := [(8, .int 1), (7, .int r79), (6, .int r59), (5, .int (j_get N x1 0)), (4, .int (j_answerFor E x1 x2 (-1))), (0, .ref g), (1, .int x1), (2, .int x2), (3, .int x3)]) hx hb d_A_freed_98 hl (by decide) rfl (fun ls hl => ?_)
            refine lv_iload hx hb d_A_freed_100 (lv_at hl 0 rfl) ?_
            refine lv_if_eq (tgt := 120) hx hb d_A_freed_102 (by decide) (fun c102 => ?_) (fun c102 => ?_)
            · exact absurd c102 (by decide)
            · refine lv_aload_n hx hb d_A_freed_105 rfl (lv_at hl 5 rfl) ?_
              refine lv_iload hx hb d_A_freed_106 (lv_at hl 2 rfl) ?_
              refine lv_iconst (v := 1) hx hb d_A_freed_108 (by decide) ?_
              refine lv_iload hx hb d_A_freed_109 (lv_at hl 1 rfl) ?_
              refine lv_iload_n hx hb d_A_freed_111 rfl (lv_at hl 8 rfl) ?_
              refine lv_iconst (v := 1) hx hb d_A_freed_112 (by decide) ?_
              refine lv_iadd hx hb d_A_freed_113 ?_
              obtain ⟨N114, E114, r114, h114⟩ := ex3 (j_pick d N79 E79 r59 1 r79)
              refine aAi (As := [.int r59, .int 1, .int r79, .int (x3 + 1)]) (rest := []) ⟨hx, hb, hml, hown, hts⟩ (c_A_pick l dC dI cI g a b d N79 E79 _ r59 1 r79 (x3 + 1) _ _ _ (by omega) (by rw [hxd, nI_1]; congr 1; omega) h114) (cwV 4 hts (gV kml_A_38 kim_A_pick ksl_A_pick kin_A kcd_A_pick) rfl rfl rfl (by decide +kernel) ⟨by show 6 + d + 1 ≤ 20 + (d + 1); omega, by show 8 + (10 + 11) + (200 + 60 * d) ≤ 1200 + 60 * (d + 1); omega⟩) hP hK hD hS hA rfl hl.1 rfl (Nat.le_of_ble_eq_true rfl) d_A_freed_114 ⟨Nat.zero_le _, Nat.zero_le _⟩ (fun H locs hP hD hS => ?_)
              refine lv_goto (tgt := 133) hx hb d_A_freed_117 (by decide) ?_
              refine lv_istore (lv' := [(9, .int r114), (8, .int 1), (7, .int r79), (6, .int r59), (5, .int (j_get N x1 0)), (4, .int (j_answerFor E x1 x2 (-1))), (0, .ref g), (1, .int x1), (2, .int x2), (3, .int x3)]) hx hb d_A_freed_133 hl (by decide) rfl (fun ls hl => ?_)
              refine lv_aload_n hx hb d_A_freed_135 rfl (lv_at hl 6 rfl) ?_
              refine va_get (D := (dC, dI)) (ci := 2) (v := .ref (b 0)) (C := R_A) (T := T_A) (N := 2) hx hb hts in_A hown hK hP 0 rfl rfl 1 (by decide) (hts _ kfl_A_18) (fun _ h9 => h9) rfl d_A_freed_136 ?_
              refine lv_iload_n hx hb d_A_freed_139 rfl (lv_at hl 7 rfl) ?_
              refine lv_iload_n hx hb d_A_freed_140 rfl (lv_at hl 8 rfl) ?_
              refine lv_iconst (v := -1) hx hb d_A_freed_141 (by decide) ?_
              refine lv_iload hx hb d_A_freed_142 (lv_at hl 0 rfl) ?_
              refine aMv (As := [.int x1, .int x2, .int (-1), .int r114]) (rest := []) ⟨hx, hb, hml, hown, hts⟩ (c_M_keep l dC dI cI b E114 _ x1 x2 (-1) r114) (cwV 4 hts (gV kml_A_65 kim_M_keep ksl_M_keep kin_M kcd_M_keep) rfl rfl rfl (by decide +kernel) ⟨by show 1 + 1 ≤ 20 + (d + 1); omega, by show 8 + (6 + 11) + 23 ≤ 1200 + 60 * (d + 1); omega⟩) hP hK hD hS hA rfl hl.1 rfl (Nat.le_of_ble_eq_true rfl) d_A_freed_144 ⟨Nat.zero_le _, Nat.zero_le _⟩ (fun H locs hP hD hS => ?_)
              refine lv_iload hx hb d_A_freed_147 (lv_at hl 0 rfl) ?_
              have eq : j_freed x2 (d + 1) N E x1 = (N114, j_keep E114 x1 x2 (-1) r114, r114) := freed_p c2 c28 c90 h59 h79 h114
              obtain ⟨eN, eE, eR⟩ := pe3 (hres.symm.trans eq)
              have hP9 : va_P (dC, dI) cls0 (gW cI g a b (N') (E')) H := by rw [eN, eE]; exact hP
              have hD9 : va_D A (gW cI g a b (N') (E')) := by rw [eN, eE]; exact hD
              exact W.iret (v := r114) hx hb hr (fun t ht hW => ⟨⟨r114, (), rfl, eR.symm, by rw [ht]; exact hP9, va_K.moved hW.alike hK, hD9⟩, hS.F ht⟩) hS.2.2 d_A_freed_149
        · refine lv_iload hx hb d_A_freed_31 (lv_at hl 0 rfl) ?_
          have eq : j_freed x2 (d + 1) N E x1 = (N, E, j_answerFor E x1 x2 (-1)) := freed_m c2 c28
          obtain ⟨eN, eE, eR⟩ := pe3 (hres.symm.trans eq)
          have hP9 : va_P (dC, dI) cls0 (gW cI g a b (N') (E')) s.heap := by rw [eN, eE]; exact hP
          have hD9 : va_D A (gW cI g a b (N') (E')) := by rw [eN, eE]; exact hD
          exact W.iret (v := (j_answerFor E x1 x2 (-1))) hx hb hr (fun t ht hW => ⟨⟨j_answerFor E x1 x2 (-1), (), rfl, eR.symm, by rw [ht]; exact hP9, va_K.moved hW.alike hK, hD9⟩, hS.F ht⟩) hS.2.2 d_A_freed_33
      · exact absurd (by rw [hxd]; exact nI_lt (b := 12) (by omega) (by omega)) c8

set_option maxHeartbeats 8000000 in
set_option maxRecDepth 100000 in
theorem c_A_turnedFrom (l : Launch) (dC : Nat → ClassId) (dI : Nat → Nat → Nat) (cI : ClassId) (g : Nat) (a b : Nat → Nat) : ∀ (d : Nat) (N E : Mm) (sz : Nat) (x1 x2 x3 x4 x5 : Int32) (N' : Mm) (r : Int32), d ≤ 12 → x2 = nI (12 - d) → j_turn x5 d N x1 x2 x3 x4 = (N', r) → Met l y_A_turnedFrom (.code y_A_turnedFrom b_A_turnedFrom 11 (some .int) :: W0) (rmP d) (va_Pc [.ref g, .int x1, .int x2, .int x3, .int x4, .int x5] (gM dC dI cI g a b N E sz)) (va_Qi (fun (z : Int32) (_ : Unit) => z = r) (fun _ t => gE dC dI cI g a b (N') (E) (va_A (gW cI g a b N E) sz) t) (va_A (gW cI g a b N E) sz)) 0 0 (va_A (gW cI g a b N E) sz) := by
  intro d
  induction d with
  | zero =>
    intro N E sz x1 x2 x3 x4 x5 N' r hd hxd hres
    refine Met.ofW (cc := b_A_turnedFrom) (maxL := 11) (ret := (some .int)) (by decide) rfl ?_
    intro p e s m args below meth c s₁ B hml hv
    obtain ⟨rfl, hsz, hP, hK, hD0⟩ := hv
    have hx := B.exec
    have hb := B.bytes
    have hr := B.returns
    have hts1 := atoms_spec (ws := .code y_A_turnedFrom b_A_turnedFrom 11 (some .int) :: W0) B.pre
    have hts : ∀ w ∈ W0, w.before _ s = true := fun w h => hts1 w (List.mem_cons_of_mem _ h)
    have hown : s.vm.findClass R_A = some m.cls := findClass_of_methodNamed B.named
    have hlocks := B.notSynchronized
    subst hsz
    have hD := hD0.self (sz := s.heap.size)
    generalize hAe : va_A (gW cI g a b N E) s.heap.size = A at hD ⊢
    have hA : ∀ q : Nat, s.heap.size ≤ q → A q := fun q h => by rw [← hAe]; exact Or.inr h
    have hS : va_S A s.heap s.heap [] := va_S.rf
    have hP : va_P (dC, dI) cls0 (gW cI g a b N E) s.heap := hP
    have hl := lv_entry ([.ref g, .int x1, .int x2, .int x3, .int x4, .int x5]) (n := 11) (Nat.le_of_ble_eq_true rfl)
    rw [lg_entry_eq]
    generalize (lg_sl ([.ref g, .int x1, .int x2, .int x3, .int x4, .int x5]) ++ List.replicate (11 - (lg_sl ([.ref g, .int x1, .int x2, .int x3, .int x4, .int x5])).length) Slot.unset).toArray = ls at hl ⊢
    have hl : lv_has ls 11 [(0, .ref g), (1, .int x1), (2, .int x2), (3, .int x3), (4, .int x4), (5, .int x5)] := hl
    refine lv_aload_n hx hb d_A_turnedFrom_0 rfl (lv_at hl 0 rfl) ?_
    refine va_get (D := (dC, dI)) (ci := 2) (v := .ref (a 0)) (C := R_A) (T := T_A) (N := 2) hx hb hts in_A hown hK hP 0 rfl rfl 0 (by decide) (hts _ kfl_A_9) (fun _ h9 => h9) rfl d_A_turnedFrom_1 ?_
    refine lv_iload_n hx hb d_A_turnedFrom_4 rfl (lv_at hl 1 rfl) ?_
    refine lv_iload_n hx hb d_A_turnedFrom_5 rfl (lv_at hl 3 rfl) ?_
    refine lv_iload hx hb d_A_turnedFrom_6 (lv_at hl 4 rfl) ?_
    refine aNR (As := [.int x1, .int x3, .int x4]) (rest := []) ⟨hx, hb, hml, hown, hts⟩ (c_N_followed l dC dI cI a N x1 x3 x4) (cwV 3 hts (gV kml_A_73 kim_N_followed ksl_N_followed kin_N kcd_N_followed) rfl rfl rfl (by decide +kernel) ⟨by show 1 + 1 ≤ 6 + 0; omega, by show 8 + (7 + 11) + 23 ≤ 200 + 60 * 0; omega⟩) hP hK rfl hl.1 rfl (Nat.le_of_ble_eq_true rfl) d_A_turnedFrom_8 ⟨Nat.zero_le _, Nat.zero_le _⟩ ?_
    refine lv_istore (lv' := [(6, .int (j_followed N x1 x3 x4)), (0, .ref g), (1, .int x1), (2, .int x2), (3, .int x3), (4, .int x4), (5, .int x5)]) hx hb d_A_turnedFrom_11 hl (by decide) rfl (fun ls hl => ?_)
    refine lv_iload hx hb d_A_turnedFrom_13 (lv_at hl 0 rfl) ?_
    refine lv_iconst (v := 1) hx hb d_A_turnedFrom_15 (by decide) ?_
    refine lv_icmp_le (tgt := 25) hx hb d_A_turnedFrom_16 (by decide) (fun c16 => ?_) (fun c16 => ?_)
    · refine lv_iload hx hb d_A_turnedFrom_25 (lv_at hl 0 rfl) ?_
      have eq : j_turn x5 0 N x1 x2 x3 x4 = (N, j_followed N x1 x3 x4) := rfl
      obtain ⟨eN, eR⟩ := pe2 (hres.symm.trans eq)
      have eE : E = E := rfl
      have hP9 : va_P (dC, dI) cls0 (gW cI g a b (N') (E)) s.heap := by rw [eN, eE]; exact hP
      have hD9 : va_D A (gW cI g a b (N') (E)) := by rw [eN, eE]; exact hD
      exact W.iret (v := (j_followed N x1 x3 x4)) hx hb hr (fun t ht hW => ⟨⟨j_followed N x1 x3 x4, (), rfl, eR.symm, by rw [ht]; exact hP9, va_K.moved hW.alike hK, hD9⟩, hS.F ht⟩) hS.2.2 d_A_turnedFrom_27
    · refine lv_iload_n hx hb d_A_turnedFrom_19 rfl (lv_at hl 3 rfl) ?_
      refine lv_bipush (v := 12) hx hb d_A_turnedFrom_20 (by decide) ?_
      refine lv_icmp_lt (tgt := 28) hx hb d_A_turnedFrom_22 (by decide) (fun c22 => ?_) (fun c22 => ?_)
      · exact absurd c22 (by rw [hxd]; exact nI_nlt (a := 12 - 0) (b := 12) (by omega) (by omega))
      · refine lv_iload hx hb d_A_turnedFrom_25 (lv_at hl 0 rfl) ?_
        have eq : j_turn x5 0 N x1 x2 x3 x4 = (N, j_followed N x1 x3 x4) := rfl
        obtain ⟨eN, eR⟩ := pe2 (hres.symm.trans eq)
        have eE : E = E := rfl
        have hP9 : va_P (dC, dI) cls0 (gW cI g a b (N') (E)) s.heap := by rw [eN, eE]; exact hP
        have hD9 : va_D A (gW cI g a b (N') (E)) := by rw [eN, eE]; exact hD
        exact W.iret (v := (j_followed N x1 x3 x4)) hx hb hr (fun t ht hW => ⟨⟨j_followed N x1 x3 x4, (), rfl, eR.symm, by rw [ht]; exact hP9, va_K.moved hW.alike hK, hD9⟩, hS.F ht⟩) hS.2.2 d_A_turnedFrom_27
  | succ d ih =>
    intro N E sz x1 x2 x3 x4 x5 N' r hd hxd hres
    refine Met.ofW (cc := b_A_turnedFrom) (maxL := 11) (ret := (some .int)) (by decide) rfl ?_
    intro p e s m args below meth c s₁ B hml hv
    obtain ⟨rfl, hsz, hP, hK, hD0⟩ := hv
    have hx := B.exec
    have hb := B.bytes
    have hr := B.returns
    have hts1 := atoms_spec (ws := .code y_A_turnedFrom b_A_turnedFrom 11 (some .int) :: W0) B.pre
    have hts : ∀ w ∈ W0, w.before _ s = true := fun w h => hts1 w (List.mem_cons_of_mem _ h)
    have hown : s.vm.findClass R_A = some m.cls := findClass_of_methodNamed B.named
    have hlocks := B.notSynchronized
    subst hsz
    have hD := hD0.self (sz := s.heap.size)
    generalize hAe : va_A (gW cI g a b N E) s.heap.size = A at hD ⊢
    have hA : ∀ q : Nat, s.heap.size ≤ q → A q := fun q h => by rw [← hAe]; exact Or.inr h
    have hS : va_S A s.heap s.heap [] := va_S.rf
    have hP : va_P (dC, dI) cls0 (gW cI g a b N E) s.heap := hP
    have hl := lv_entry ([.ref g, .int x1, .int x2, .int x3, .int x4, .int x5]) (n := 11) (Nat.le_of_ble_eq_true rfl)
    rw [lg_entry_eq]
    generalize (lg_sl ([.ref g, .int x1, .int x2, .int x3, .int x4, .int x5]) ++ List.replicate (11 - (lg_sl ([.ref g, .int x1, .int x2, .int x3, .int x4, .int x5])).length) Slot.unset).toArray = ls at hl ⊢
    have hl : lv_has ls 11 [(0, .ref g), (1, .int x1), (2, .int x2), (3, .int x3), (4, .int x4), (5, .int x5)] := hl
    refine lv_aload_n hx hb d_A_turnedFrom_0 rfl (lv_at hl 0 rfl) ?_
    refine va_get (D := (dC, dI)) (ci := 2) (v := .ref (a 0)) (C := R_A) (T := T_A) (N := 2) hx hb hts in_A hown hK hP 0 rfl rfl 0 (by decide) (hts _ kfl_A_9) (fun _ h9 => h9) rfl d_A_turnedFrom_1 ?_
    refine lv_iload_n hx hb d_A_turnedFrom_4 rfl (lv_at hl 1 rfl) ?_
    refine lv_iload_n hx hb d_A_turnedFrom_5 rfl (lv_at hl 3 rfl) ?_
    refine lv_iload hx hb d_A_turnedFrom_6 (lv_at hl 4 rfl) ?_
    refine aNR (As := [.int x1, .int x3, .int x4]) (rest := []) ⟨hx, hb, hml, hown, hts⟩ (c_N_followed l dC dI cI a N x1 x3 x4) (cwV 3 hts (gV kml_A_73 kim_N_followed ksl_N_followed kin_N kcd_N_followed) rfl rfl rfl (by decide +kernel) ⟨by show 1 + 1 ≤ 6 + (d + 1); omega, by show 8 + (7 + 11) + 23 ≤ 200 + 60 * (d + 1); omega⟩) hP hK rfl hl.1 rfl (Nat.le_of_ble_eq_true rfl) d_A_turnedFrom_8 ⟨Nat.zero_le _, Nat.zero_le _⟩ ?_
    refine lv_istore (lv' := [(6, .int (j_followed N x1 x3 x4)), (0, .ref g), (1, .int x1), (2, .int x2), (3, .int x3), (4, .int x4), (5, .int x5)]) hx hb d_A_turnedFrom_11 hl (by decide) rfl (fun ls hl => ?_)
    refine lv_iload hx hb d_A_turnedFrom_13 (lv_at hl 0 rfl) ?_
    refine lv_iconst (v := 1) hx hb d_A_turnedFrom_15 (by decide) ?_
    refine lv_icmp_le (tgt := 25) hx hb d_A_turnedFrom_16 (by decide) (fun c16 => ?_) (fun c16 => ?_)
    · refine lv_iload hx hb d_A_turnedFrom_25 (lv_at hl 0 rfl) ?_
      have eq : j_turn x5 (d + 1) N x1 x2 x3 x4 = (N, j_followed N x1 x3 x4) := turn_b c16
      obtain ⟨eN, eR⟩ := pe2 (hres.symm.trans eq)
      have eE : E = E := rfl
      have hP9 : va_P (dC, dI) cls0 (gW cI g a b (N') (E)) s.heap := by rw [eN, eE]; exact hP
      have hD9 : va_D A (gW cI g a b (N') (E)) := by rw [eN, eE]; exact hD
      exact W.iret (v := (j_followed N x1 x3 x4)) hx hb hr (fun t ht hW => ⟨⟨j_followed N x1 x3 x4, (), rfl, eR.symm, by rw [ht]; exact hP9, va_K.moved hW.alike hK, hD9⟩, hS.F ht⟩) hS.2.2 d_A_turnedFrom_27
    · refine lv_iload_n hx hb d_A_turnedFrom_19 rfl (lv_at hl 3 rfl) ?_
      refine lv_bipush (v := 12) hx hb d_A_turnedFrom_20 (by decide) ?_
      refine lv_icmp_lt (tgt := 28) hx hb d_A_turnedFrom_22 (by decide) (fun c22 => ?_) (fun c22 => ?_)
      · refine lv_aload_n hx hb d_A_turnedFrom_28 rfl (lv_at hl 1 rfl) ?_
        refine va_get (D := (dC, dI)) (ci := 2) (v := .ref (a 0)) (C := R_A) (T := T_A) (N := 2) hx hb hts in_A hown hK hP 0 rfl rfl 0 (by decide) (hts _ kfl_A_9) (fun _ h9 => h9) rfl d_A_turnedFrom_29 ?_
        refine lv_iload_n hx hb d_A_turnedFrom_32 rfl (lv_at hl 3 rfl) ?_
        refine aNR (As := [.int x2]) (rest := []) ⟨hx, hb, hml, hown, hts⟩ (c_N_variableAt l dC dI cI a N x2) (cwV 1 hts (gV kml_A_76 kim_N_variableAt ksl_N_variableAt kin_N kcd_N_variableAt) rfl rfl rfl (by decide +kernel) ⟨by show 0 + 1 ≤ 6 + (d + 1); omega, by show 8 + (2 + 11) + 0 ≤ 200 + 60 * (d + 1); omega⟩) hP hK rfl hl.1 rfl (Nat.le_of_ble_eq_true rfl) d_A_turnedFrom_33 ⟨Nat.zero_le _, Nat.zero_le _⟩ ?_
        refine lv_istore (lv' := [(7, .int (j_variableAt N x2)), (6, .int (j_followed N x1 x3 x4)), (0, .ref g), (1, .int x1), (2, .int x2), (3, .int x3), (4, .int x4), (5, .int x5)]) hx hb d_A_turnedFrom_36 hl (by decide) rfl (fun ls hl => ?_)
        refine lv_iconst (v := 1) hx hb d_A_turnedFrom_38 (by decide) ?_
        refine lv_iload hx hb d_A_turnedFrom_39 (lv_at hl 0 rfl) ?_
        refine lv_iconst (v := 1) hx hb d_A_turnedFrom_41 (by decide) ?_
        refine lv_ixor hx hb d_A_turnedFrom_42 ?_
        refine lv_ishl hx hb d_A_turnedFrom_43 ?_
        refine lv_istore (lv' := [(8, .int (1 <<< (((j_variableAt N x2) ^^^ 1) &&& 31))), (7, .int (j_variableAt N x2)), (6, .int (j_followed N x1 x3 x4)), (0, .ref g), (1, .int x1), (2, .int x2), (3, .int x3), (4, .int x4), (5, .int x5)]) hx hb d_A_turnedFrom_44 hl (by decide) rfl (fun ls hl => ?_)
        refine lv_iload hx hb d_A_turnedFrom_46 (lv_at hl 8 rfl) ?_
        refine lv_iload hx hb d_A_turnedFrom_48 (lv_at hl 0 rfl) ?_
        refine lv_iand hx hb d_A_turnedFrom_50 ?_
        refine lv_if_ne (tgt := 69) hx hb d_A_turnedFrom_51 (by decide) (fun c51 => ?_) (fun c51 => ?_)
        · refine lv_aload_n hx hb d_A_turnedFrom_69 rfl (lv_at hl 3 rfl) ?_
          refine lv_iload hx hb d_A_turnedFrom_70 (lv_at hl 2 rfl) ?_
          refine lv_iload_n hx hb d_A_turnedFrom_72 rfl (lv_at hl 5 rfl) ?_
          refine lv_iconst (v := 1) hx hb d_A_turnedFrom_73 (by decide) ?_
          refine lv_iadd hx hb d_A_turnedFrom_74 ?_
          refine lv_iload_n hx hb d_A_turnedFrom_75 rfl (lv_at hl 6 rfl) ?_
          refine lv_iload hx hb d_A_turnedFrom_76 (lv_at hl 0 rfl) ?_
          refine lv_ior hx hb d_A_turnedFrom_78 ?_
          refine lv_iload hx hb d_A_turnedFrom_79 (lv_at hl 7 rfl) ?_
          refine lv_iload hx hb d_A_turnedFrom_81 (lv_at hl 8 rfl) ?_
          obtain ⟨N83, r83, h83⟩ := ex2 (j_turn x5 d N (j_followed N x1 x3 x4) (x2 + 1) (x3 ||| (1 <<< (((j_variableAt N x2) ^^^ 1) &&& 31))) x4)
          refine aAi (As := [.int (j_followed N x1 x3 x4), .int (x2 + 1), .int (x3 ||| (1 <<< (((j_variableAt N x2) ^^^ 1) &&& 31))), .int x4, .int x5]) (rest := []) ⟨hx, hb, hml, hown, hts⟩ (ih N E _ (j_followed N x1 x3 x4) (x2 + 1) (x3 ||| (1 <<< (((j_variableAt N x2) ^^^ 1) &&& 31))) x4 x5 _ _ (by omega) (by rw [hxd, nI_1]; congr 1; omega) h83) (cwV 5 hts (gV kml_A_49 kim_A_turnedFrom ksl_A_turnedFrom kin_A kcd_A_turnedFrom) rfl rfl rfl (by decide +kernel) ⟨by show 6 + d + 1 ≤ 6 + (d + 1); omega, by show 8 + (11 + 11) + (200 + 60 * d) ≤ 200 + 60 * (d + 1); omega⟩) hP hK hD hS hA rfl hl.1 rfl (Nat.le_of_ble_eq_true rfl) d_A_turnedFrom_83 ⟨Nat.zero_le _, Nat.zero_le _⟩ (fun H locs hP hD hS => ?_)
          refine lv_istore (lv' := [(9, .int r83), (8, .int (1 <<< (((j_variableAt N x2) ^^^ 1) &&& 31))), (7, .int (j_variableAt N x2)), (6, .int (j_followed N x1 x3 x4)), (0, .ref g), (1, .int x1), (2, .int x2), (3, .int x3), (4, .int x4), (5, .int x5)]) hx hb d_A_turnedFrom_86 hl (by decide) rfl (fun ls hl => ?_)
          refine lv_aload_n hx hb d_A_turnedFrom_88 rfl (lv_at hl 4 rfl) ?_
          refine lv_iload hx hb d_A_turnedFrom_89 (lv_at hl 3 rfl) ?_
          refine lv_iload_n hx hb d_A_turnedFrom_91 rfl (lv_at hl 6 rfl) ?_
          refine lv_iconst (v := 1) hx hb d_A_turnedFrom_92 (by decide) ?_
          refine lv_iadd hx hb d_A_turnedFrom_93 ?_
          refine lv_iload_n hx hb d_A_turnedFrom_94 rfl (lv_at hl 7 rfl) ?_
          refine lv_iload hx hb d_A_turnedFrom_95 (lv_at hl 1 rfl) ?_
          refine lv_ior hx hb d_A_turnedFrom_97 ?_
          refine lv_iload hx hb d_A_turnedFrom_98 (lv_at hl 8 rfl) ?_
          refine lv_iload hx hb d_A_turnedFrom_100 (lv_at hl 1 rfl) ?_
          refine lv_ior hx hb d_A_turnedFrom_102 ?_
          refine lv_iload hx hb d_A_turnedFrom_103 (lv_at hl 9 rfl) ?_
          obtain ⟨N105, r105, h105⟩ := ex2 (j_turn x5 d N83 (j_followed N x1 x3 x4) (x2 + 1) (x3 ||| (1 <<< (((j_variableAt N x2) ^^^ 1) &&& 31))) (x4 ||| (1 <<< (((j_variableAt N x2) ^^^ 1) &&& 31))))
          refine aAi (As := [.int (j_followed N x1 x3 x4), .int (x2 + 1), .int (x3 ||| (1 <<< (((j_variableAt N x2) ^^^ 1) &&& 31))), .int (x4 ||| (1 <<< (((j_variableAt N x2) ^^^ 1) &&& 31))), .int x5]) (rest := []) ⟨hx, hb, hml, hown, hts⟩ (ih N83 E _ (j_followed N x1 x3 x4) (x2 + 1) (x3 ||| (1 <<< (((j_variableAt N x2) ^^^ 1) &&& 31))) (x4 ||| (1 <<< (((j_variableAt N x2) ^^^ 1) &&& 31))) x5 _ _ (by omega) (by rw [hxd, nI_1]; congr 1; omega) h105) (cwV 5 hts (gV kml_A_49 kim_A_turnedFrom ksl_A_turnedFrom kin_A kcd_A_turnedFrom) rfl rfl rfl (by decide +kernel) ⟨by show 6 + d + 1 ≤ 6 + (d + 1); omega, by show 8 + (11 + 11) + (200 + 60 * d) ≤ 200 + 60 * (d + 1); omega⟩) hP hK hD hS hA rfl hl.1 rfl (Nat.le_of_ble_eq_true rfl) d_A_turnedFrom_105 ⟨Nat.zero_le _, Nat.zero_le _⟩ (fun H locs hP hD hS => ?_)
          refine lv_istore (lv' := [(10, .int r105), (9, .int r83), (8, .int (1 <<< (((j_variableAt N x2) ^^^ 1) &&& 31))), (7, .int (j_variableAt N x2)), (6, .int (j_followed N x1 x3 x4)), (0, .ref g), (1, .int x1), (2, .int x2), (3, .int x3), (4, .int x4), (5, .int x5)]) hx hb d_A_turnedFrom_108 hl (by decide) rfl (fun ls hl => ?_)
          refine lv_aload_n hx hb d_A_turnedFrom_110 rfl (lv_at hl 5 rfl) ?_
          refine va_get (D := (dC, dI)) (ci := 2) (v := .ref (a 0)) (C := R_A) (T := T_A) (N := 2) hx hb hts in_A hown hK hP 0 rfl rfl 0 (by decide) (hts _ kfl_A_9) (fun _ h9 => h9) rfl d_A_turnedFrom_111 ?_
          refine lv_iload hx hb d_A_turnedFrom_114 (lv_at hl 3 rfl) ?_
          refine lv_iload hx hb d_A_turnedFrom_116 (lv_at hl 1 rfl) ?_
          refine lv_iload hx hb d_A_turnedFrom_118 (lv_at hl 0 rfl) ?_
          obtain ⟨N120, r120, h120⟩ := ex2 (j_make N105 (j_variableAt N x2) r83 r105)
          refine aNi (As := [.int (j_variableAt N x2), .int r83, .int r105]) (rest := []) ⟨hx, hb, hml, hown, hts⟩ (c_N_make' l dC dI cI a N105 _ (j_variableAt N x2) r83 r105 h120) (cwV 3 hts (gV kml_A_34 kim_N_make ksl_N_make kin_N kcd_N_make) rfl rfl rfl (by decide +kernel) ⟨by show 2 + 1 ≤ 6 + (d + 1); omega, by show 8 + (7 + 11) + 49 ≤ 200 + 60 * (d + 1); omega⟩) hP hK hD hS hA rfl hl.1 rfl (Nat.le_of_ble_eq_true rfl) d_A_turnedFrom_120 ⟨Nat.zero_le _, Nat.zero_le _⟩ (fun H locs hP hD hS => ?_)
          have eq : j_turn x5 (d + 1) N x1 x2 x3 x4 = (N120, r120) := turn_r c16 c51 h83 h105 h120
          obtain ⟨eN, eR⟩ := pe2 (hres.symm.trans eq)
          have eE : E = E := rfl
          have hP9 : va_P (dC, dI) cls0 (gW cI g a b (N') (E)) H := by rw [eN, eE]; exact hP
          have hD9 : va_D A (gW cI g a b (N') (E)) := by rw [eN, eE]; exact hD
          exact W.iret (v := r120) hx hb hr (fun t ht hW => ⟨⟨r120, (), rfl, eR.symm, by rw [ht]; exact hP9, va_K.moved hW.alike hK, hD9⟩, hS.F ht⟩) hS.2.2 d_A_turnedFrom_123
        · refine lv_aload_n hx hb d_A_turnedFrom_54 rfl (lv_at hl 3 rfl) ?_
          refine lv_iload hx hb d_A_turnedFrom_55 (lv_at hl 2 rfl) ?_
          refine lv_iload_n hx hb d_A_turnedFrom_57 rfl (lv_at hl 5 rfl) ?_
          refine lv_iconst (v := 1) hx hb d_A_turnedFrom_58 (by decide) ?_
          refine lv_iadd hx hb d_A_turnedFrom_59 ?_
          refine lv_iload_n hx hb d_A_turnedFrom_60 rfl (lv_at hl 6 rfl) ?_
          refine lv_iload hx hb d_A_turnedFrom_61 (lv_at hl 7 rfl) ?_
          refine lv_iload hx hb d_A_turnedFrom_63 (lv_at hl 8 rfl) ?_
          obtain ⟨N65, r65, h65⟩ := ex2 (j_turn x5 d N (j_followed N x1 x3 x4) (x2 + 1) x3 x4)
          refine aAi (As := [.int (j_followed N x1 x3 x4), .int (x2 + 1), .int x3, .int x4, .int x5]) (rest := []) ⟨hx, hb, hml, hown, hts⟩ (ih N E _ (j_followed N x1 x3 x4) (x2 + 1) x3 x4 x5 _ _ (by omega) (by rw [hxd, nI_1]; congr 1; omega) h65) (cwV 5 hts (gV kml_A_49 kim_A_turnedFrom ksl_A_turnedFrom kin_A kcd_A_turnedFrom) rfl rfl rfl (by decide +kernel) ⟨by show 6 + d + 1 ≤ 6 + (d + 1); omega, by show 8 + (11 + 11) + (200 + 60 * d) ≤ 200 + 60 * (d + 1); omega⟩) hP hK hD hS hA rfl hl.1 rfl (Nat.le_of_ble_eq_true rfl) d_A_turnedFrom_65 ⟨Nat.zero_le _, Nat.zero_le _⟩ (fun H locs hP hD hS => ?_)
          have eq : j_turn x5 (d + 1) N x1 x2 x3 x4 = (N65, r65) := turn_s c16 c51 h65
          obtain ⟨eN, eR⟩ := pe2 (hres.symm.trans eq)
          have eE : E = E := rfl
          have hP9 : va_P (dC, dI) cls0 (gW cI g a b (N') (E)) H := by rw [eN, eE]; exact hP
          have hD9 : va_D A (gW cI g a b (N') (E)) := by rw [eN, eE]; exact hD
          exact W.iret (v := r65) hx hb hr (fun t ht hW => ⟨⟨r65, (), rfl, eR.symm, by rw [ht]; exact hP9, va_K.moved hW.alike hK, hD9⟩, hS.F ht⟩) hS.2.2 d_A_turnedFrom_68
      · exact absurd (by rw [hxd]; exact nI_lt (b := 12) (by omega) (by omega)) c22
