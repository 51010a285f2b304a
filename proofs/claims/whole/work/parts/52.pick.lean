def rmP (d : Nat) : Room := { frames := 6 + d, cells := 0, slots := 0, locals := 200 + 60 * d }
set_option maxHeartbeats 8000000 in
set_option maxRecDepth 100000 in
theorem c_A_pick (l : Launch) (dC : Nat → ClassId) (dI : Nat → Nat → Nat) (cI : ClassId) (g : Nat) (a b : Nat → Nat) : ∀ (d : Nat) (N E : Mm) (sz : Nat) (x1 x2 x3 x4 : Int32) (N' E' : Mm) (r : Int32), d ≤ 12 → x4 = nI (12 - d) → j_pick d N E x1 x2 x3 = (N', E', r) → Met l y_A_pick (.code y_A_pick b_A_pick 10 (some .int) :: W0) (rmP d) (va_Pc [.ref g, .int x1, .int x2, .int x3, .int x4] (gM dC dI cI g a b N E sz)) (va_Qi (fun (z : Int32) (_ : Unit) => z = r) (fun _ t => gE dC dI cI g a b (N') (E') (va_A (gW cI g a b N E) sz) t) (va_A (gW cI g a b N E) sz)) 0 0 (va_A (gW cI g a b N E) sz) := by
  intro d
  induction d with
  | zero =>
    intro N E sz x1 x2 x3 x4 N' E' r hd hx4 hres
    refine Met.ofW (cc := b_A_pick) (maxL := 10) (ret := (some .int)) (by decide) rfl ?_
    intro p e s m args below meth c s₁ B hml hv
    obtain ⟨rfl, hsz, hP, hK, hD0⟩ := hv
    have hx := B.exec
    have hb := B.bytes
    have hr := B.returns
    have hts1 := atoms_spec (ws := .code y_A_pick b_A_pick 10 (some .int) :: W0) B.pre
    have hts : ∀ w ∈ W0, w.before _ s = true := fun w h => hts1 w (List.mem_cons_of_mem _ h)
    have hown : s.vm.findClass R_A = some m.cls := findClass_of_methodNamed B.named
    have hlocks := B.notSynchronized
    subst hsz
    have hD := hD0.self (sz := s.heap.size)
    generalize hAe : va_A (gW cI g a b N E) s.heap.size = A at hD ⊢
    have hA : ∀ q : Nat, s.heap.size ≤ q → A q := fun q h => by rw [← hAe]; exact Or.inr h
    have hS : va_S A s.heap s.heap [] := va_S.rf
    have hP : va_P (dC, dI) cls0 (gW cI g a b N E) s.heap := hP
    have hl := lv_entry ([.ref g, .int x1, .int x2, .int x3, .int x4]) (n := 10) (Nat.le_of_ble_eq_true rfl)
    rw [lg_entry_eq]
    generalize (lg_sl ([.ref g, .int x1, .int x2, .int x3, .int x4]) ++ List.replicate (10 - (lg_sl ([.ref g, .int x1, .int x2, .int x3, .int x4])).length) Slot.unset).toArray = ls at hl ⊢
    have hl : lv_has ls 10 [(0, .ref g), (1, .int x1), (2, .int x2), (3, .int x3), (4, .int x4)] := hl
    refine lv_iload_n hx hb d_A_pick_0 rfl (lv_at hl 1 rfl) ?_
    refine lv_iconst (v := 1) hx hb d_A_pick_1 (by decide) ?_
    refine lv_icmp_eq (tgt := 10) hx hb d_A_pick_2 (by decide) (fun c2 => ?_) (fun c2 => ?_)
    · refine lv_iload_n hx hb d_A_pick_10 rfl (lv_at hl 2 rfl) ?_
      have eq : j_pick 0 N E x1 x2 x3 = (N, E, x2) := by first | (rw [pick_0]; unfold j_pickB; simp only [if_pos c2, if_true, if_false, not_true_eq_false, not_false_eq_true, true_and, and_true, false_and, and_false, true_or, or_true, false_or, or_false, ite_true, ite_false, eq_self]) | (rw [pick_0]; unfold j_pickB; simp only [c2, if_true, if_false, not_true_eq_false, not_false_eq_true, true_and, and_true, false_and, and_false, true_or, or_true, false_or, or_false, ite_true, ite_false, eq_self])
      obtain ⟨eN, eE, eR⟩ := pe3 (hres.symm.trans eq)
      have hP9 : va_P (dC, dI) cls0 (gW cI g a b (N') (E')) s.heap := by rw [eN, eE]; exact hP
      have hD9 : va_D A (gW cI g a b (N') (E')) := by rw [eN, eE]; exact hD
      exact W.iret (v := x2) hx hb hr (fun t ht hW => ⟨⟨x2, (), rfl, eR.symm, by rw [ht]; exact hP9, va_K.moved hW.alike hK, hD9⟩, hS.F ht⟩) hS.2.2 d_A_pick_11
    · refine lv_iload_n hx hb d_A_pick_5 rfl (lv_at hl 2 rfl) ?_
      refine lv_iload_n hx hb d_A_pick_6 rfl (lv_at hl 3 rfl) ?_
      refine lv_icmp_ne (tgt := 12) hx hb d_A_pick_7 (by decide) (fun c7 => ?_) (fun c7 => ?_)
      · refine lv_iload_n hx hb d_A_pick_12 rfl (lv_at hl 1 rfl) ?_
        refine lv_if_ne (tgt := 18) hx hb d_A_pick_13 (by decide) (fun c13 => ?_) (fun c13 => ?_)
        · refine lv_iload_n hx hb d_A_pick_18 rfl (lv_at hl 2 rfl) ?_
          refine lv_iconst (v := 1) hx hb d_A_pick_19 (by decide) ?_
          refine lv_icmp_ne (tgt := 27) hx hb d_A_pick_20 (by decide) (fun c20 => ?_) (fun c20 => ?_)
          · refine lv_iload hx hb d_A_pick_27 (lv_at hl 4 rfl) ?_
            refine lv_bipush (v := 12) hx hb d_A_pick_29 (by decide) ?_
            refine lv_icmp_lt (tgt := 36) hx hb d_A_pick_31 (by decide) (fun c31 => ?_) (fun c31 => ?_)
            · exact absurd c31 (by rw [hx4]; exact nI_nlt (a := 12 - 0) (b := 12) (by omega) (by omega))
            · refine lv_iload_n hx hb d_A_pick_34 rfl (lv_at hl 1 rfl) ?_
              have eq : j_pick 0 N E x1 x2 x3 = (N, E, x1) := by first | (rw [pick_0]; unfold j_pickB; simp only [c2, c7, c13, c20, c31, Int32.not_lt.mp c31, if_true, if_false, not_true_eq_false, not_false_eq_true, true_and, and_true, false_and, and_false, true_or, or_true, false_or, or_false, ite_true, ite_false, eq_self]) | (rw [pick_0]; unfold j_pickB; simp only [c2, c7, c13, c20, c31, Int32.not_lt.mp c31, if_true, if_false, not_true_eq_false, not_false_eq_true, true_and, and_true, false_and, and_false, true_or, or_true, false_or, or_false, ite_true, ite_false, eq_self])
              obtain ⟨eN, eE, eR⟩ := pe3 (hres.symm.trans eq)
              have hP9 : va_P (dC, dI) cls0 (gW cI g a b (N') (E')) s.heap := by rw [eN, eE]; exact hP
              have hD9 : va_D A (gW cI g a b (N') (E')) := by rw [eN, eE]; exact hD
              exact W.iret (v := x1) hx hb hr (fun t ht hW => ⟨⟨x1, (), rfl, eR.symm, by rw [ht]; exact hP9, va_K.moved hW.alike hK, hD9⟩, hS.F ht⟩) hS.2.2 d_A_pick_35
          · refine lv_iload_n hx hb d_A_pick_23 rfl (lv_at hl 3 rfl) ?_
            refine lv_if_eq (tgt := 34) hx hb d_A_pick_24 (by decide) (fun c24 => ?_) (fun c24 => ?_)
            · refine lv_iload_n hx hb d_A_pick_34 rfl (lv_at hl 1 rfl) ?_
              have eq : j_pick 0 N E x1 x2 x3 = (N, E, x1) := by first | (rw [pick_0]; unfold j_pickB; simp only [c2, c7, c13, if_pos c20, if_pos c24, if_true, if_false, not_true_eq_false, not_false_eq_true, true_and, and_true, false_and, and_false, true_or, or_true, false_or, or_false, ite_true, ite_false, eq_self]) | (rw [pick_0]; unfold j_pickB; simp only [c2, c7, c13, c20, c24, if_true, if_false, not_true_eq_false, not_false_eq_true, true_and, and_true, false_and, and_false, true_or, or_true, false_or, or_false, ite_true, ite_false, eq_self])
              obtain ⟨eN, eE, eR⟩ := pe3 (hres.symm.trans eq)
              have hP9 : va_P (dC, dI) cls0 (gW cI g a b (N') (E')) s.heap := by rw [eN, eE]; exact hP
              have hD9 : va_D A (gW cI g a b (N') (E')) := by rw [eN, eE]; exact hD
              exact W.iret (v := x1) hx hb hr (fun t ht hW => ⟨⟨x1, (), rfl, eR.symm, by rw [ht]; exact hP9, va_K.moved hW.alike hK, hD9⟩, hS.F ht⟩) hS.2.2 d_A_pick_35
            · refine lv_iload hx hb d_A_pick_27 (lv_at hl 4 rfl) ?_
              refine lv_bipush (v := 12) hx hb d_A_pick_29 (by decide) ?_
              refine lv_icmp_lt (tgt := 36) hx hb d_A_pick_31 (by decide) (fun c31 => ?_) (fun c31 => ?_)
              · exact absurd c31 (by rw [hx4]; exact nI_nlt (a := 12 - 0) (b := 12) (by omega) (by omega))
              · refine lv_iload_n hx hb d_A_pick_34 rfl (lv_at hl 1 rfl) ?_
                have eq : j_pick 0 N E x1 x2 x3 = (N, E, x1) := by first | (rw [pick_0]; unfold j_pickB; simp only [c2, c7, c13, if_pos c20, c24, c31, Int32.not_lt.mp c31, if_true, if_false, not_true_eq_false, not_false_eq_true, true_and, and_true, false_and, and_false, true_or, or_true, false_or, or_false, ite_true, ite_false, eq_self]) | (rw [pick_0]; unfold j_pickB; simp only [c2, c7, c13, c20, c24, c31, Int32.not_lt.mp c31, if_true, if_false, not_true_eq_false, not_false_eq_true, true_and, and_true, false_and, and_false, true_or, or_true, false_or, or_false, ite_true, ite_false, eq_self])
                obtain ⟨eN, eE, eR⟩ := pe3 (hres.symm.trans eq)
                have hP9 : va_P (dC, dI) cls0 (gW cI g a b (N') (E')) s.heap := by rw [eN, eE]; exact hP
                have hD9 : va_D A (gW cI g a b (N') (E')) := by rw [eN, eE]; exact hD
                exact W.iret (v := x1) hx hb hr (fun t ht hW => ⟨⟨x1, (), rfl, eR.symm, by rw [ht]; exact hP9, va_K.moved hW.alike hK, hD9⟩, hS.F ht⟩) hS.2.2 d_A_pick_35
        · refine lv_iload_n hx hb d_A_pick_16 rfl (lv_at hl 3 rfl) ?_
          have eq : j_pick 0 N E x1 x2 x3 = (N, E, x3) := by first | (rw [pick_0]; unfold j_pickB; simp only [c2, c7, if_pos c13, if_true, if_false, not_true_eq_false, not_false_eq_true, true_and, and_true, false_and, and_false, true_or, or_true, false_or, or_false, ite_true, ite_false, eq_self]) | (rw [pick_0]; unfold j_pickB; simp only [c2, c7, c13, if_true, if_false, not_true_eq_false, not_false_eq_true, true_and, and_true, false_and, and_false, true_or, or_true, false_or, or_false, ite_true, ite_false, eq_self])
          obtain ⟨eN, eE, eR⟩ := pe3 (hres.symm.trans eq)
          have hP9 : va_P (dC, dI) cls0 (gW cI g a b (N') (E')) s.heap := by rw [eN, eE]; exact hP
          have hD9 : va_D A (gW cI g a b (N') (E')) := by rw [eN, eE]; exact hD
          exact W.iret (v := x3) hx hb hr (fun t ht hW => ⟨⟨x3, (), rfl, eR.symm, by rw [ht]; exact hP9, va_K.moved hW.alike hK, hD9⟩, hS.F ht⟩) hS.2.2 d_A_pick_17
      · refine lv_iload_n hx hb d_A_pick_10 rfl (lv_at hl 2 rfl) ?_
        have eq : j_pick 0 N E x1 x2 x3 = (N, E, x2) := by first | (rw [pick_0]; unfold j_pickB; simp only [c2, if_pos c7, if_true, if_false, not_true_eq_false, not_false_eq_true, true_and, and_true, false_and, and_false, true_or, or_true, false_or, or_false, ite_true, ite_false, eq_self]) | (rw [pick_0]; unfold j_pickB; simp only [c2, c7, if_true, if_false, not_true_eq_false, not_false_eq_true, true_and, and_true, false_and, and_false, true_or, or_true, false_or, or_false, ite_true, ite_false, eq_self])
        obtain ⟨eN, eE, eR⟩ := pe3 (hres.symm.trans eq)
        have hP9 : va_P (dC, dI) cls0 (gW cI g a b (N') (E')) s.heap := by rw [eN, eE]; exact hP
        have hD9 : va_D A (gW cI g a b (N') (E')) := by rw [eN, eE]; exact hD
        exact W.iret (v := x2) hx hb hr (fun t ht hW => ⟨⟨x2, (), rfl, eR.symm, by rw [ht]; exact hP9, va_K.moved hW.alike hK, hD9⟩, hS.F ht⟩) hS.2.2 d_A_pick_11
  | succ d ih =>
    intro N E sz x1 x2 x3 x4 N' E' r hd hx4 hres
    refine Met.ofW (cc := b_A_pick) (maxL := 10) (ret := (some .int)) (by decide) rfl ?_
    intro p e s m args below meth c s₁ B hml hv
    obtain ⟨rfl, hsz, hP, hK, hD0⟩ := hv
    have hx := B.exec
    have hb := B.bytes
    have hr := B.returns
    have hts1 := atoms_spec (ws := .code y_A_pick b_A_pick 10 (some .int) :: W0) B.pre
    have hts : ∀ w ∈ W0, w.before _ s = true := fun w h => hts1 w (List.mem_cons_of_mem _ h)
    have hown : s.vm.findClass R_A = some m.cls := findClass_of_methodNamed B.named
    have hlocks := B.notSynchronized
    subst hsz
    have hD := hD0.self (sz := s.heap.size)
    generalize hAe : va_A (gW cI g a b N E) s.heap.size = A at hD ⊢
    have hA : ∀ q : Nat, s.heap.size ≤ q → A q := fun q h => by rw [← hAe]; exact Or.inr h
    have hS : va_S A s.heap s.heap [] := va_S.rf
    have hP : va_P (dC, dI) cls0 (gW cI g a b N E) s.heap := hP
    have hl := lv_entry ([.ref g, .int x1, .int x2, .int x3, .int x4]) (n := 10) (Nat.le_of_ble_eq_true rfl)
    rw [lg_entry_eq]
    generalize (lg_sl ([.ref g, .int x1, .int x2, .int x3, .int x4]) ++ List.replicate (10 - (lg_sl ([.ref g, .int x1, .int x2, .int x3, .int x4])).length) Slot.unset).toArray = ls at hl ⊢
    have hl : lv_has ls 10 [(0, .ref g), (1, .int x1), (2, .int x2), (3, .int x3), (4, .int x4)] := hl
    refine lv_iload_n hx hb d_A_pick_0 rfl (lv_at hl 1 rfl) ?_
    refine lv_iconst (v := 1) hx hb d_A_pick_1 (by decide) ?_
    refine lv_icmp_eq (tgt := 10) hx hb d_A_pick_2 (by decide) (fun c2 => ?_) (fun c2 => ?_)
    · refine lv_iload_n hx hb d_A_pick_10 rfl (lv_at hl 2 rfl) ?_
      have eq : j_pick (d + 1) N E x1 x2 x3 = (N, E, x2) := by first | (rw [pick_b (by simp only [c2, if_true, if_false, not_true_eq_false, not_false_eq_true, true_and, and_true, false_and, and_false, true_or, or_true, false_or, or_false, ite_true, ite_false, eq_self, or_self, and_self, not_false_iff])]; unfold j_pickB; simp only [if_pos c2, if_true, if_false, not_true_eq_false, not_false_eq_true, true_and, and_true, false_and, and_false, true_or, or_true, false_or, or_false, ite_true, ite_false, eq_self]; done) | (rw [pick_b (by simp only [c2, if_true, if_false, not_true_eq_false, not_false_eq_true, true_and, and_true, false_and, and_false, true_or, or_true, false_or, or_false, ite_true, ite_false, eq_self, or_self, and_self, not_false_iff])]; unfold j_pickB; simp only [c2, if_true, if_false, not_true_eq_false, not_false_eq_true, true_and, and_true, false_and, and_false, true_or, or_true, false_or, or_false, ite_true, ite_false, eq_self])
      obtain ⟨eN, eE, eR⟩ := pe3 (hres.symm.trans eq)
      have hP9 : va_P (dC, dI) cls0 (gW cI g a b (N') (E')) s.heap := by rw [eN, eE]; exact hP
      have hD9 : va_D A (gW cI g a b (N') (E')) := by rw [eN, eE]; exact hD
      exact W.iret (v := x2) hx hb hr (fun t ht hW => ⟨⟨x2, (), rfl, eR.symm, by rw [ht]; exact hP9, va_K.moved hW.alike hK, hD9⟩, hS.F ht⟩) hS.2.2 d_A_pick_11
    · refine lv_iload_n hx hb d_A_pick_5 rfl (lv_at hl 2 rfl) ?_
      refine lv_iload_n hx hb d_A_pick_6 rfl (lv_at hl 3 rfl) ?_
      refine lv_icmp_ne (tgt := 12) hx hb d_A_pick_7 (by decide) (fun c7 => ?_) (fun c7 => ?_)
      · refine lv_iload_n hx hb d_A_pick_12 rfl (lv_at hl 1 rfl) ?_
        refine lv_if_ne (tgt := 18) hx hb d_A_pick_13 (by decide) (fun c13 => ?_) (fun c13 => ?_)
        · refine lv_iload_n hx hb d_A_pick_18 rfl (lv_at hl 2 rfl) ?_
          refine lv_iconst (v := 1) hx hb d_A_pick_19 (by decide) ?_
          refine lv_icmp_ne (tgt := 27) hx hb d_A_pick_20 (by decide) (fun c20 => ?_) (fun c20 => ?_)
          · refine lv_iload hx hb d_A_pick_27 (lv_at hl 4 rfl) ?_
            refine lv_bipush (v := 12) hx hb d_A_pick_29 (by decide) ?_
            refine lv_icmp_lt (tgt := 36) hx hb d_A_pick_31 (by decide) (fun c31 => ?_) (fun c31 => ?_)
            · refine lv_aload_n hx hb d_A_pick_36 rfl (lv_at hl 0 rfl) ?_
              refine va_get (D := (dC, dI)) (ci := 2) (v := .ref (b 0)) (C := R_A) (T := T_A) (N := 2) hx hb hts in_A hown hK hP 0 rfl rfl 1 (by decide) (hts _ kfl_A_18) (fun _ h9 => h9) rfl d_A_pick_37 ?_
              refine lv_iload_n hx hb d_A_pick_40 rfl (lv_at hl 1 rfl) ?_
              refine lv_iload_n hx hb d_A_pick_41 rfl (lv_at hl 2 rfl) ?_
              refine lv_iload_n hx hb d_A_pick_42 rfl (lv_at hl 3 rfl) ?_
              refine aMR (As := [.int x1, .int x2, .int x3]) (rest := []) ⟨hx, hb, hml, hown, hts⟩ (c_M_answerFor l dC dI cI b E x1 x2 x3) (cwV 3 hts (gV kml_A_53 kim_M_answerFor ksl_M_answerFor kin_M kcd_M_answerFor) rfl rfl rfl (by decide +kernel) ⟨by show 1 + 1 ≤ 6 + (d + 1); omega, by show 8 + (6 + 11) + 23 ≤ 200 + 60 * (d + 1); omega⟩) hP hK rfl hl.1 rfl (Nat.le_of_ble_eq_true rfl) d_A_pick_43 ⟨Nat.zero_le _, Nat.zero_le _⟩ ?_
              refine lv_istore (lv' := [(5, .int (j_answerFor E x1 x2 x3)), (0, .ref g), (1, .int x1), (2, .int x2), (3, .int x3), (4, .int x4)]) hx hb d_A_pick_46 hl (by decide) rfl (fun ls hl => ?_)
              refine lv_iload hx hb d_A_pick_48 (lv_at hl 0 rfl) ?_
              refine lv_iconst (v := -1) hx hb d_A_pick_50 (by decide) ?_
              refine lv_icmp_eq (tgt := 57) hx hb d_A_pick_51 (by decide) (fun c51 => ?_) (fun c51 => ?_)
              · refine lv_aload_n hx hb d_A_pick_57 rfl (lv_at hl 1 rfl) ?_
                refine va_get (D := (dC, dI)) (ci := 2) (v := .ref (a 0)) (C := R_A) (T := T_A) (N := 2) hx hb hts in_A hown hK hP 0 rfl rfl 0 (by decide) (hts _ kfl_A_9) (fun _ h9 => h9) rfl d_A_pick_58 ?_
                refine lv_iload_n hx hb d_A_pick_61 rfl (lv_at hl 2 rfl) ?_
                refine lv_iload_n hx hb d_A_pick_62 rfl (lv_at hl 3 rfl) ?_
                refine lv_iload_n hx hb d_A_pick_63 rfl (lv_at hl 4 rfl) ?_
                refine aNR (As := [.int x1, .int x2, .int x3]) (rest := []) ⟨hx, hb, hml, hown, hts⟩ (c_N_firstAsked l dC dI cI a N x1 x2 x3) (cwV 3 hts (gV kml_A_56 kim_N_firstAsked ksl_N_firstAsked kin_N kcd_N_firstAsked) rfl rfl rfl (by decide +kernel) ⟨by show 2 + 1 ≤ 6 + (d + 1); omega, by show 8 + (5 + 11) + 44 ≤ 200 + 60 * (d + 1); omega⟩) hP hK rfl hl.1 rfl (Nat.le_of_ble_eq_true rfl) d_A_pick_64 ⟨Nat.zero_le _, Nat.zero_le _⟩ ?_
                refine lv_istore (lv' := [(6, .int (j_firstAsked N x1 x2 x3)), (5, .int (j_answerFor E x1 x2 x3)), (0, .ref g), (1, .int x1), (2, .int x2), (3, .int x3), (4, .int x4)]) hx hb d_A_pick_67 hl (by decide) rfl (fun ls hl => ?_)
                refine lv_aload_n hx hb d_A_pick_69 rfl (lv_at hl 2 rfl) ?_
                refine lv_aload_n hx hb d_A_pick_70 rfl (lv_at hl 2 rfl) ?_
                refine va_get (D := (dC, dI)) (ci := 2) (v := .ref (a 0)) (C := R_A) (T := T_A) (N := 2) hx hb hts in_A hown hK hP 0 rfl rfl 0 (by decide) (hts _ kfl_A_9) (fun _ h9 => h9) rfl d_A_pick_71 ?_
                refine lv_iload_n hx hb d_A_pick_74 rfl (lv_at hl 3 rfl) ?_
                refine lv_iload hx hb d_A_pick_75 (lv_at hl 0 rfl) ?_
                refine aNR (As := [.int x1, .int (j_firstAsked N x1 x2 x3)]) (rest := [.ref g]) ⟨hx, hb, hml, hown, hts⟩ (c_N_lowFor l dC dI cI a N x1 (j_firstAsked N x1 x2 x3)) (cwV 2 hts (gV kml_A_59 kim_N_lowFor ksl_N_lowFor kin_N kcd_N_lowFor) rfl rfl rfl (by decide +kernel) ⟨by show 1 + 1 ≤ 6 + (d + 1); omega, by show 8 + (3 + 11) + 23 ≤ 200 + 60 * (d + 1); omega⟩) hP hK rfl hl.1 rfl (Nat.le_of_ble_eq_true rfl) d_A_pick_77 ⟨Nat.zero_le _, Nat.zero_le _⟩ ?_
                refine lv_aload_n hx hb d_A_pick_80 rfl (lv_at hl 2 rfl) ?_
                refine va_get (D := (dC, dI)) (ci := 2) (v := .ref (a 0)) (C := R_A) (T := T_A) (N := 2) hx hb hts in_A hown hK hP 0 rfl rfl 0 (by decide) (hts _ kfl_A_9) (fun _ h9 => h9) rfl d_A_pick_81 ?_
                refine lv_iload_n hx hb d_A_pick_84 rfl (lv_at hl 4 rfl) ?_
                refine lv_iload hx hb d_A_pick_85 (lv_at hl 0 rfl) ?_
                refine aNR (As := [.int x2, .int (j_firstAsked N x1 x2 x3)]) (rest := [.int (j_lowFor N x1 (j_firstAsked N x1 x2 x3)), .ref g]) ⟨hx, hb, hml, hown, hts⟩ (c_N_lowFor l dC dI cI a N x2 (j_firstAsked N x1 x2 x3)) (cwV 2 hts (gV kml_A_59 kim_N_lowFor ksl_N_lowFor kin_N kcd_N_lowFor) rfl rfl rfl (by decide +kernel) ⟨by show 1 + 1 ≤ 6 + (d + 1); omega, by show 8 + (3 + 11) + 23 ≤ 200 + 60 * (d + 1); omega⟩) hP hK rfl hl.1 rfl (Nat.le_of_ble_eq_true rfl) d_A_pick_87 ⟨Nat.zero_le _, Nat.zero_le _⟩ ?_
                refine lv_aload_n hx hb d_A_pick_90 rfl (lv_at hl 2 rfl) ?_
                refine va_get (D := (dC, dI)) (ci := 2) (v := .ref (a 0)) (C := R_A) (T := T_A) (N := 2) hx hb hts in_A hown hK hP 0 rfl rfl 0 (by decide) (hts _ kfl_A_9) (fun _ h9 => h9) rfl d_A_pick_91 ?_
                refine lv_iload_n hx hb d_A_pick_94 rfl (lv_at hl 5 rfl) ?_
                refine lv_iload hx hb d_A_pick_95 (lv_at hl 0 rfl) ?_
                refine aNR (As := [.int x3, .int (j_firstAsked N x1 x2 x3)]) (rest := [.int (j_lowFor N x2 (j_firstAsked N x1 x2 x3)), .int (j_lowFor N x1 (j_firstAsked N x1 x2 x3)), .ref g]) ⟨hx, hb, hml, hown, hts⟩ (c_N_lowFor l dC dI cI a N x3 (j_firstAsked N x1 x2 x3)) (cwV 2 hts (gV kml_A_59 kim_N_lowFor ksl_N_lowFor kin_N kcd_N_lowFor) rfl rfl rfl (by decide +kernel) ⟨by show 1 + 1 ≤ 6 + (d + 1); omega, by show 8 + (3 + 11) + 23 ≤ 200 + 60 * (d + 1); omega⟩) hP hK rfl hl.1 rfl (Nat.le_of_ble_eq_true rfl) d_A_pick_97 ⟨Nat.zero_le _, Nat.zero_le _⟩ ?_
                refine lv_iload hx hb d_A_pick_100 (lv_at hl 6 rfl) ?_
                refine lv_iconst (v := 1) hx hb d_A_pick_102 (by decide) ?_
                refine lv_iadd hx hb d_A_pick_103 ?_
                obtain ⟨N104, E104, r104, h104⟩ := ex3 (j_pick d N E (j_lowFor N x1 (j_firstAsked N x1 x2 x3)) (j_lowFor N x2 (j_firstAsked N x1 x2 x3)) (j_lowFor N x3 (j_firstAsked N x1 x2 x3)))
                refine aAi (As := [.int (j_lowFor N x1 (j_firstAsked N x1 x2 x3)), .int (j_lowFor N x2 (j_firstAsked N x1 x2 x3)), .int (j_lowFor N x3 (j_firstAsked N x1 x2 x3)), .int (x4 + 1)]) (rest := []) ⟨hx, hb, hml, hown, hts⟩ (ih N E _ (j_lowFor N x1 (j_firstAsked N x1 x2 x3)) (j_lowFor N x2 (j_firstAsked N x1 x2 x3)) (j_lowFor N x3 (j_firstAsked N x1 x2 x3)) (x4 + 1) _ _ _ (by omega) (by rw [hx4, nI_1]; congr 1; omega) h104) (cwV 4 hts (gV kml_A_38 kim_A_pick ksl_A_pick kin_A kcd_A_pick) rfl rfl rfl (by decide +kernel) ⟨by show 6 + d + 1 ≤ 6 + (d + 1); omega, by show 8 + (10 + 11) + (200 + 60 * d) ≤ 200 + 60 * (d + 1); omega⟩) hP hK hD hS hA rfl hl.1 rfl (Nat.le_of_ble_eq_true rfl) d_A_pick_104 ⟨Nat.zero_le _, Nat.zero_le _⟩ (fun H locs hP hD hS => ?_)
                refine lv_istore (lv' := [(7, .int r104), (6, .int (j_firstAsked N x1 x2 x3)), (5, .int (j_answerFor E x1 x2 x3)), (0, .ref g), (1, .int x1), (2, .int x2), (3, .int x3), (4, .int x4)]) hx hb d_A_pick_107 hl (by decide) rfl (fun ls hl => ?_)
                refine lv_aload_n hx hb d_A_pick_109 rfl (lv_at hl 3 rfl) ?_
                refine lv_aload_n hx hb d_A_pick_110 rfl (lv_at hl 3 rfl) ?_
                refine va_get (D := (dC, dI)) (ci := 2) (v := .ref (a 0)) (C := R_A) (T := T_A) (N := 2) hx hb hts in_A hown hK hP 0 rfl rfl 0 (by decide) (hts _ kfl_A_9) (fun _ h9 => h9) rfl d_A_pick_111 ?_
                refine lv_iload_n hx hb d_A_pick_114 rfl (lv_at hl 4 rfl) ?_
                refine lv_iload hx hb d_A_pick_115 (lv_at hl 1 rfl) ?_
                refine aNR (As := [.int x1, .int (j_firstAsked N x1 x2 x3)]) (rest := [.ref g]) ⟨hx, hb, hml, hown, hts⟩ (c_N_highFor l dC dI cI a N104 x1 (j_firstAsked N x1 x2 x3)) (cwV 2 hts (gV kml_A_62 kim_N_highFor ksl_N_highFor kin_N kcd_N_highFor) rfl rfl rfl (by decide +kernel) ⟨by show 1 + 1 ≤ 6 + (d + 1); omega, by show 8 + (3 + 11) + 23 ≤ 200 + 60 * (d + 1); omega⟩) hP hK rfl hl.1 rfl (Nat.le_of_ble_eq_true rfl) d_A_pick_117 ⟨Nat.zero_le _, Nat.zero_le _⟩ ?_
                refine lv_aload_n hx hb d_A_pick_120 rfl (lv_at hl 3 rfl) ?_
                refine va_get (D := (dC, dI)) (ci := 2) (v := .ref (a 0)) (C := R_A) (T := T_A) (N := 2) hx hb hts in_A hown hK hP 0 rfl rfl 0 (by decide) (hts _ kfl_A_9) (fun _ h9 => h9) rfl d_A_pick_121 ?_
                refine lv_iload_n hx hb d_A_pick_124 rfl (lv_at hl 5 rfl) ?_
                refine lv_iload hx hb d_A_pick_125 (lv_at hl 1 rfl) ?_
                refine aNR (As := [.int x2, .int (j_firstAsked N x1 x2 x3)]) (rest := [.int (j_highFor N104 x1 (j_firstAsked N x1 x2 x3)), .ref g]) ⟨hx, hb, hml, hown, hts⟩ (c_N_highFor l dC dI cI a N104 x2 (j_firstAsked N x1 x2 x3)) (cwV 2 hts (gV kml_A_62 kim_N_highFor ksl_N_highFor kin_N kcd_N_highFor) rfl rfl rfl (by decide +kernel) ⟨by show 1 + 1 ≤ 6 + (d + 1); omega, by show 8 + (3 + 11) + 23 ≤ 200 + 60 * (d + 1); omega⟩) hP hK rfl hl.1 rfl (Nat.le_of_ble_eq_true rfl) d_A_pick_127 ⟨Nat.zero_le _, Nat.zero_le _⟩ ?_
                refine lv_aload_n hx hb d_A_pick_130 rfl (lv_at hl 3 rfl) ?_
                refine va_get (D := (dC, dI)) (ci := 2) (v := .ref (a 0)) (C := R_A) (T := T_A) (N := 2) hx hb hts in_A hown hK hP 0 rfl rfl 0 (by decide) (hts _ kfl_A_9) (fun _ h9 => h9) rfl d_A_pick_131 ?_
                refine lv_iload_n hx hb d_A_pick_134 rfl (lv_at hl 6 rfl) ?_
                refine lv_iload hx hb d_A_pick_135 (lv_at hl 1 rfl) ?_
                refine aNR (As := [.int x3, .int (j_firstAsked N x1 x2 x3)]) (rest := [.int (j_highFor N104 x2 (j_firstAsked N x1 x2 x3)), .int (j_highFor N104 x1 (j_firstAsked N x1 x2 x3)), .ref g]) ⟨hx, hb, hml, hown, hts⟩ (c_N_highFor l dC dI cI a N104 x3 (j_firstAsked N x1 x2 x3)) (cwV 2 hts (gV kml_A_62 kim_N_highFor ksl_N_highFor kin_N kcd_N_highFor) rfl rfl rfl (by decide +kernel) ⟨by show 1 + 1 ≤ 6 + (d + 1); omega, by show 8 + (3 + 11) + 23 ≤ 200 + 60 * (d + 1); omega⟩) hP hK rfl hl.1 rfl (Nat.le_of_ble_eq_true rfl) d_A_pick_137 ⟨Nat.zero_le _, Nat.zero_le _⟩ ?_
                refine lv_iload hx hb d_A_pick_140 (lv_at hl 7 rfl) ?_
                refine lv_iconst (v := 1) hx hb d_A_pick_142 (by decide) ?_
                refine lv_iadd hx hb d_A_pick_143 ?_
                obtain ⟨N144, E144, r144, h144⟩ := ex3 (j_pick d N104 E104 (j_highFor N104 x1 (j_firstAsked N x1 x2 x3)) (j_highFor N104 x2 (j_firstAsked N x1 x2 x3)) (j_highFor N104 x3 (j_firstAsked N x1 x2 x3)))
                refine aAi (As := [.int (j_highFor N104 x1 (j_firstAsked N x1 x2 x3)), .int (j_highFor N104 x2 (j_firstAsked N x1 x2 x3)), .int (j_highFor N104 x3 (j_firstAsked N x1 x2 x3)), .int (x4 + 1)]) (rest := []) ⟨hx, hb, hml, hown, hts⟩ (ih N104 E104 _ (j_highFor N104 x1 (j_firstAsked N x1 x2 x3)) (j_highFor N104 x2 (j_firstAsked N x1 x2 x3)) (j_highFor N104 x3 (j_firstAsked N x1 x2 x3)) (x4 + 1) _ _ _ (by omega) (by rw [hx4, nI_1]; congr 1; omega) h144) (cwV 4 hts (gV kml_A_38 kim_A_pick ksl_A_pick kin_A kcd_A_pick) rfl rfl rfl (by decide +kernel) ⟨by show 6 + d + 1 ≤ 6 + (d + 1); omega, by show 8 + (10 + 11) + (200 + 60 * d) ≤ 200 + 60 * (d + 1); omega⟩) hP hK hD hS hA rfl hl.1 rfl (Nat.le_of_ble_eq_true rfl) d_A_pick_144 ⟨Nat.zero_le _, Nat.zero_le _⟩ (fun H locs hP hD hS => ?_)
                refine lv_istore (lv' := [(8, .int r144), (7, .int r104), (6, .int (j_firstAsked N x1 x2 x3)), (5, .int (j_answerFor E x1 x2 x3)), (0, .ref g), (1, .int x1), (2, .int x2), (3, .int x3), (4, .int x4)]) hx hb d_A_pick_147 hl (by decide) rfl (fun ls hl => ?_)
                refine lv_aload_n hx hb d_A_pick_149 rfl (lv_at hl 4 rfl) ?_
                refine va_get (D := (dC, dI)) (ci := 2) (v := .ref (a 0)) (C := R_A) (T := T_A) (N := 2) hx hb hts in_A hown hK hP 0 rfl rfl 0 (by decide) (hts _ kfl_A_9) (fun _ h9 => h9) rfl d_A_pick_150 ?_
                refine lv_iload hx hb d_A_pick_153 (lv_at hl 2 rfl) ?_
                refine lv_iload hx hb d_A_pick_155 (lv_at hl 1 rfl) ?_
                refine lv_iload hx hb d_A_pick_157 (lv_at hl 0 rfl) ?_
                obtain ⟨N159, r159, h159⟩ := ex2 (j_make N144 (j_firstAsked N x1 x2 x3) r104 r144)
                refine aNi (As := [.int (j_firstAsked N x1 x2 x3), .int r104, .int r144]) (rest := []) ⟨hx, hb, hml, hown, hts⟩ (c_N_make' l dC dI cI a N144 _ (j_firstAsked N x1 x2 x3) r104 r144 h159) (cwV 3 hts (gV kml_A_34 kim_N_make ksl_N_make kin_N kcd_N_make) rfl rfl rfl (by decide +kernel) ⟨by show 2 + 1 ≤ 6 + (d + 1); omega, by show 8 + (7 + 11) + 49 ≤ 200 + 60 * (d + 1); omega⟩) hP hK hD hS hA rfl hl.1 rfl (Nat.le_of_ble_eq_true rfl) d_A_pick_159 ⟨Nat.zero_le _, Nat.zero_le _⟩ (fun H locs hP hD hS => ?_)
                refine lv_istore (lv' := [(9, .int r159), (8, .int r144), (7, .int r104), (6, .int (j_firstAsked N x1 x2 x3)), (5, .int (j_answerFor E x1 x2 x3)), (0, .ref g), (1, .int x1), (2, .int x2), (3, .int x3), (4, .int x4)]) hx hb d_A_pick_162 hl (by decide) rfl (fun ls hl => ?_)
                refine lv_aload_n hx hb d_A_pick_164 rfl (lv_at hl 5 rfl) ?_
                refine va_get (D := (dC, dI)) (ci := 2) (v := .ref (b 0)) (C := R_A) (T := T_A) (N := 2) hx hb hts in_A hown hK hP 0 rfl rfl 1 (by decide) (hts _ kfl_A_18) (fun _ h9 => h9) rfl d_A_pick_165 ?_
                refine lv_iload_n hx hb d_A_pick_168 rfl (lv_at hl 6 rfl) ?_
                refine lv_iload_n hx hb d_A_pick_169 rfl (lv_at hl 7 rfl) ?_
                refine lv_iload_n hx hb d_A_pick_170 rfl (lv_at hl 8 rfl) ?_
                refine lv_iload hx hb d_A_pick_171 (lv_at hl 0 rfl) ?_
                refine aMv (As := [.int x1, .int x2, .int x3, .int r159]) (rest := []) ⟨hx, hb, hml, hown, hts⟩ (c_M_keep l dC dI cI b E144 _ x1 x2 x3 r159) (cwV 4 hts (gV kml_A_65 kim_M_keep ksl_M_keep kin_M kcd_M_keep) rfl rfl rfl (by decide +kernel) ⟨by show 1 + 1 ≤ 6 + (d + 1); omega, by show 8 + (6 + 11) + 23 ≤ 200 + 60 * (d + 1); omega⟩) hP hK hD hS hA rfl hl.1 rfl (Nat.le_of_ble_eq_true rfl) d_A_pick_173 ⟨Nat.zero_le _, Nat.zero_le _⟩ (fun H locs hP hD hS => ?_)
                refine lv_iload hx hb d_A_pick_176 (lv_at hl 0 rfl) ?_
                have eq : j_pick (d + 1) N E x1 x2 x3 = (N159, j_keep E144 x1 x2 x3 r159, r159) := pick_r (by rintro (h | h | h | ⟨h, h2⟩) <;> first | exact absurd h c2 | exact absurd h2 c2 | exact absurd h c7 | exact absurd h2 c7 | exact absurd h c13 | exact absurd h2 c13 | exact absurd h c20 | exact absurd h2 c20 | exact absurd h c31 | exact absurd h2 c31) c51 rfl h104 h144 h159
                obtain ⟨eN, eE, eR⟩ := pe3 (hres.symm.trans eq)
                have hP9 : va_P (dC, dI) cls0 (gW cI g a b (N') (E')) H := by rw [eN, eE]; exact hP
                have hD9 : va_D A (gW cI g a b (N') (E')) := by rw [eN, eE]; exact hD
                exact W.iret (v := r159) hx hb hr (fun t ht hW => ⟨⟨r159, (), rfl, eR.symm, by rw [ht]; exact hP9, va_K.moved hW.alike hK, hD9⟩, hS.F ht⟩) hS.2.2 d_A_pick_178
              · refine lv_iload hx hb d_A_pick_54 (lv_at hl 0 rfl) ?_
                have eq : j_pick (d + 1) N E x1 x2 x3 = (N, E, j_answerFor E x1 x2 x3) := by first | exact pick_m (by rintro (h | h | h | ⟨h, h2⟩) <;> first | exact absurd h c2 | exact absurd h2 c2 | exact absurd h c7 | exact absurd h2 c7 | exact absurd h c13 | exact absurd h2 c13 | exact absurd h c20 | exact absurd h2 c20 | exact absurd h c31 | exact absurd h2 c31) c51
                obtain ⟨eN, eE, eR⟩ := pe3 (hres.symm.trans eq)
                have hP9 : va_P (dC, dI) cls0 (gW cI g a b (N') (E')) s.heap := by rw [eN, eE]; exact hP
                have hD9 : va_D A (gW cI g a b (N') (E')) := by rw [eN, eE]; exact hD
                exact W.iret (v := (j_answerFor E x1 x2 x3)) hx hb hr (fun t ht hW => ⟨⟨j_answerFor E x1 x2 x3, (), rfl, eR.symm, by rw [ht]; exact hP9, va_K.moved hW.alike hK, hD9⟩, hS.F ht⟩) hS.2.2 d_A_pick_56
            · exact absurd (by rw [hx4]; exact nI_lt (b := 12) (by omega) (by omega)) c31
          · refine lv_iload_n hx hb d_A_pick_23 rfl (lv_at hl 3 rfl) ?_
            refine lv_if_eq (tgt := 34) hx hb d_A_pick_24 (by decide) (fun c24 => ?_) (fun c24 => ?_)
            · refine lv_iload_n hx hb d_A_pick_34 rfl (lv_at hl 1 rfl) ?_
              have eq : j_pick (d + 1) N E x1 x2 x3 = (N, E, x1) := by first | (rw [pick_b (by simp only [c2, c7, c13, c20, c24, if_true, if_false, not_true_eq_false, not_false_eq_true, true_and, and_true, false_and, and_false, true_or, or_true, false_or, or_false, ite_true, ite_false, eq_self, or_self, and_self, not_false_iff])]; unfold j_pickB; simp only [c2, c7, c13, if_pos c20, if_pos c24, if_true, if_false, not_true_eq_false, not_false_eq_true, true_and, and_true, false_and, and_false, true_or, or_true, false_or, or_false, ite_true, ite_false, eq_self]; done) | (rw [pick_b (by simp only [c2, c7, c13, c20, c24, if_true, if_false, not_true_eq_false, not_false_eq_true, true_and, and_true, false_and, and_false, true_or, or_true, false_or, or_false, ite_true, ite_false, eq_self, or_self, and_self, not_false_iff])]; unfold j_pickB; simp only [c2, c7, c13, c20, c24, if_true, if_false, not_true_eq_false, not_false_eq_true, true_and, and_true, false_and, and_false, true_or, or_true, false_or, or_false, ite_true, ite_false, eq_self])
              obtain ⟨eN, eE, eR⟩ := pe3 (hres.symm.trans eq)
              have hP9 : va_P (dC, dI) cls0 (gW cI g a b (N') (E')) s.heap := by rw [eN, eE]; exact hP
              have hD9 : va_D A (gW cI g a b (N') (E')) := by rw [eN, eE]; exact hD
              exact W.iret (v := x1) hx hb hr (fun t ht hW => ⟨⟨x1, (), rfl, eR.symm, by rw [ht]; exact hP9, va_K.moved hW.alike hK, hD9⟩, hS.F ht⟩) hS.2.2 d_A_pick_35
            · refine lv_iload hx hb d_A_pick_27 (lv_at hl 4 rfl) ?_
              refine lv_bipush (v := 12) hx hb d_A_pick_29 (by decide) ?_
              refine lv_icmp_lt (tgt := 36) hx hb d_A_pick_31 (by decide) (fun c31 => ?_) (fun c31 => ?_)
              · refine lv_aload_n hx hb d_A_pick_36 rfl (lv_at hl 0 rfl) ?_
                refine va_get (D := (dC, dI)) (ci := 2) (v := .ref (b 0)) (C := R_A) (T := T_A) (N := 2) hx hb hts in_A hown hK hP 0 rfl rfl 1 (by decide) (hts _ kfl_A_18) (fun _ h9 => h9) rfl d_A_pick_37 ?_
                refine lv_iload_n hx hb d_A_pick_40 rfl (lv_at hl 1 rfl) ?_
                refine lv_iload_n hx hb d_A_pick_41 rfl (lv_at hl 2 rfl) ?_
                refine lv_iload_n hx hb d_A_pick_42 rfl (lv_at hl 3 rfl) ?_
                refine aMR (As := [.int x1, .int x2, .int x3]) (rest := []) ⟨hx, hb, hml, hown, hts⟩ (c_M_answerFor l dC dI cI b E x1 x2 x3) (cwV 3 hts (gV kml_A_53 kim_M_answerFor ksl_M_answerFor kin_M kcd_M_answerFor) rfl rfl rfl (by decide +kernel) ⟨by show 1 + 1 ≤ 6 + (d + 1); omega, by show 8 + (6 + 11) + 23 ≤ 200 + 60 * (d + 1); omega⟩) hP hK rfl hl.1 rfl (Nat.le_of_ble_eq_true rfl) d_A_pick_43 ⟨Nat.zero_le _, Nat.zero_le _⟩ ?_
                refine lv_istore (lv' := [(5, .int (j_answerFor E x1 x2 x3)), (0, .ref g), (1, .int x1), (2, .int x2), (3, .int x3), (4, .int x4)]) hx hb d_A_pick_46 hl (by decide) rfl (fun ls hl => ?_)
                refine lv_iload hx hb d_A_pick_48 (lv_at hl 0 rfl) ?_
                refine lv_iconst (v := -1) hx hb d_A_pick_50 (by decide) ?_
                refine lv_icmp_eq (tgt := 57) hx hb d_A_pick_51 (by decide) (fun c51 => ?_) (fun c51 => ?_)
                · refine lv_aload_n hx hb d_A_pick_57 rfl (lv_at hl 1 rfl) ?_
                  refine va_get (D := (dC, dI)) (ci := 2) (v := .ref (a 0)) (C := R_A) (T := T_A) (N := 2) hx hb hts in_A hown hK hP 0 rfl rfl 0 (by decide) (hts _ kfl_A_9) (fun _ h9 => h9) rfl d_A_pick_58 ?_
                  refine lv_iload_n hx hb d_A_pick_61 rfl (lv_at hl 2 rfl) ?_
                  refine lv_iload_n hx hb d_A_pick_62 rfl (lv_at hl 3 rfl) ?_
                  refine lv_iload_n hx hb d_A_pick_63 rfl (lv_at hl 4 rfl) ?_
                  refine aNR (As := [.int x1, .int x2, .int x3]) (rest := []) ⟨hx, hb, hml, hown, hts⟩ (c_N_firstAsked l dC dI cI a N x1 x2 x3) (cwV 3 hts (gV kml_A_56 kim_N_firstAsked ksl_N_firstAsked kin_N kcd_N_firstAsked) rfl rfl rfl (by decide +kernel) ⟨by show 2 + 1 ≤ 6 + (d + 1); omega, by show 8 + (5 + 11) + 44 ≤ 200 + 60 * (d + 1); omega⟩) hP hK rfl hl.1 rfl (Nat.le_of_ble_eq_true rfl) d_A_pick_64 ⟨Nat.zero_le _, Nat.zero_le _⟩ ?_
                  refine lv_istore (lv' := [(6, .int (j_firstAsked N x1 x2 x3)), (5, .int (j_answerFor E x1 x2 x3)), (0, .ref g), (1, .int x1), (2, .int x2), (3, .int x3), (4, .int x4)]) hx hb d_A_pick_67 hl (by decide) rfl (fun ls hl => ?_)
                  refine lv_aload_n hx hb d_A_pick_69 rfl (lv_at hl 2 rfl) ?_
                  refine lv_aload_n hx hb d_A_pick_70 rfl (lv_at hl 2 rfl) ?_
                  refine va_get (D := (dC, dI)) (ci := 2) (v := .ref (a 0)) (C := R_A) (T := T_A) (N := 2) hx hb hts in_A hown hK hP 0 rfl rfl 0 (by decide) (hts _ kfl_A_9) (fun _ h9 => h9) rfl d_A_pick_71 ?_
                  refine lv_iload_n hx hb d_A_pick_74 rfl (lv_at hl 3 rfl) ?_
                  refine lv_iload hx hb d_A_pick_75 (lv_at hl 0 rfl) ?_
                  refine aNR (As := [.int x1, .int (j_firstAsked N x1 x2 x3)]) (rest := [.ref g]) ⟨hx, hb, hml, hown, hts⟩ (c_N_lowFor l dC dI cI a N x1 (j_firstAsked N x1 x2 x3)) (cwV 2 hts (gV kml_A_59 kim_N_lowFor ksl_N_lowFor kin_N kcd_N_lowFor) rfl rfl rfl (by decide +kernel) ⟨by show 1 + 1 ≤ 6 + (d + 1); omega, by show 8 + (3 + 11) + 23 ≤ 200 + 60 * (d + 1); omega⟩) hP hK rfl hl.1 rfl (Nat.le_of_ble_eq_true rfl) d_A_pick_77 ⟨Nat.zero_le _, Nat.zero_le _⟩ ?_
                  refine lv_aload_n hx hb d_A_pick_80 rfl (lv_at hl 2 rfl) ?_
                  refine va_get (D := (dC, dI)) (ci := 2) (v := .ref (a 0)) (C := R_A) (T := T_A) (N := 2) hx hb hts in_A hown hK hP 0 rfl rfl 0 (by decide) (hts _ kfl_A_9) (fun _ h9 => h9) rfl d_A_pick_81 ?_
                  refine lv_iload_n hx hb d_A_pick_84 rfl (lv_at hl 4 rfl) ?_
                  refine lv_iload hx hb d_A_pick_85 (lv_at hl 0 rfl) ?_
                  refine aNR (As := [.int x2, .int (j_firstAsked N x1 x2 x3)]) (rest := [.int (j_lowFor N x1 (j_firstAsked N x1 x2 x3)), .ref g]) ⟨hx, hb, hml, hown, hts⟩ (c_N_lowFor l dC dI cI a N x2 (j_firstAsked N x1 x2 x3)) (cwV 2 hts (gV kml_A_59 kim_N_lowFor ksl_N_lowFor kin_N kcd_N_lowFor) rfl rfl rfl (by decide +kernel) ⟨by show 1 + 1 ≤ 6 + (d + 1); omega, by show 8 + (3 + 11) + 23 ≤ 200 + 60 * (d + 1); omega⟩) hP hK rfl hl.1 rfl (Nat.le_of_ble_eq_true rfl) d_A_pick_87 ⟨Nat.zero_le _, Nat.zero_le _⟩ ?_
                  refine lv_aload_n hx hb d_A_pick_90 rfl (lv_at hl 2 rfl) ?_
                  refine va_get (D := (dC, dI)) (ci := 2) (v := .ref (a 0)) (C := R_A) (T := T_A) (N := 2) hx hb hts in_A hown hK hP 0 rfl rfl 0 (by decide) (hts _ kfl_A_9) (fun _ h9 => h9) rfl d_A_pick_91 ?_
                  refine lv_iload_n hx hb d_A_pick_94 rfl (lv_at hl 5 rfl) ?_
                  refine lv_iload hx hb d_A_pick_95 (lv_at hl 0 rfl) ?_
                  refine aNR (As := [.int x3, .int (j_firstAsked N x1 x2 x3)]) (rest := [.int (j_lowFor N x2 (j_firstAsked N x1 x2 x3)), .int (j_lowFor N x1 (j_firstAsked N x1 x2 x3)), .ref g]) ⟨hx, hb, hml, hown, hts⟩ (c_N_lowFor l dC dI cI a N x3 (j_firstAsked N x1 x2 x3)) (cwV 2 hts (gV kml_A_59 kim_N_lowFor ksl_N_lowFor kin_N kcd_N_lowFor) rfl rfl rfl (by decide +kernel) ⟨by show 1 + 1 ≤ 6 + (d + 1); omega, by show 8 + (3 + 11) + 23 ≤ 200 + 60 * (d + 1); omega⟩) hP hK rfl hl.1 rfl (Nat.le_of_ble_eq_true rfl) d_A_pick_97 ⟨Nat.zero_le _, Nat.zero_le _⟩ ?_
                  refine lv_iload hx hb d_A_pick_100 (lv_at hl 6 rfl) ?_
                  refine lv_iconst (v := 1) hx hb d_A_pick_102 (by decide) ?_
                  refine lv_iadd hx hb d_A_pick_103 ?_
                  obtain ⟨N104, E104, r104, h104⟩ := ex3 (j_pick d N E (j_lowFor N x1 (j_firstAsked N x1 x2 x3)) (j_lowFor N x2 (j_firstAsked N x1 x2 x3)) (j_lowFor N x3 (j_firstAsked N x1 x2 x3)))
                  refine aAi (As := [.int (j_lowFor N x1 (j_firstAsked N x1 x2 x3)), .int (j_lowFor N x2 (j_firstAsked N x1 x2 x3)), .int (j_lowFor N x3 (j_firstAsked N x1 x2 x3)), .int (x4 + 1)]) (rest := []) ⟨hx, hb, hml, hown, hts⟩ (ih N E _ (j_lowFor N x1 (j_firstAsked N x1 x2 x3)) (j_lowFor N x2 (j_firstAsked N x1 x2 x3)) (j_lowFor N x3 (j_firstAsked N x1 x2 x3)) (x4 + 1) _ _ _ (by omega) (by rw [hx4, nI_1]; congr 1; omega) h104) (cwV 4 hts (gV kml_A_38 kim_A_pick ksl_A_pick kin_A kcd_A_pick) rfl rfl rfl (by decide +kernel) ⟨by show 6 + d + 1 ≤ 6 + (d + 1); omega, by show 8 + (10 + 11) + (200 + 60 * d) ≤ 200 + 60 * (d + 1); omega⟩) hP hK hD hS hA rfl hl.1 rfl (Nat.le_of_ble_eq_true rfl) d_A_pick_104 ⟨Nat.zero_le _, Nat.zero_le _⟩ (fun H locs hP hD hS => ?_)
                  refine lv_istore (lv' := [(7, .int r104), (6, .int (j_firstAsked N x1 x2 x3)), (5, .int (j_answerFor E x1 x2 x3)), (0, .ref g), (1, .int x1), (2, .int x2), (3, .int x3), (4, .int x4)]) hx hb d_A_pick_107 hl (by decide) rfl (fun ls hl => ?_)
                  refine lv_aload_n hx hb d_A_pick_109 rfl (lv_at hl 3 rfl) ?_
                  refine lv_aload_n hx hb d_A_pick_110 rfl (lv_at hl 3 rfl) ?_
                  refine va_get (D := (dC, dI)) (ci := 2) (v := .ref (a 0)) (C := R_A) (T := T_A) (N := 2) hx hb hts in_A hown hK hP 0 rfl rfl 0 (by decide) (hts _ kfl_A_9) (fun _ h9 => h9) rfl d_A_pick_111 ?_
                  refine lv_iload_n hx hb d_A_pick_114 rfl (lv_at hl 4 rfl) ?_
                  refine lv_iload hx hb d_A_pick_115 (lv_at hl 1 rfl) ?_
                  refine aNR (As := [.int x1, .int (j_firstAsked N x1 x2 x3)]) (rest := [.ref g]) ⟨hx, hb, hml, hown, hts⟩ (c_N_highFor l dC dI cI a N104 x1 (j_firstAsked N x1 x2 x3)) (cwV 2 hts (gV kml_A_62 kim_N_highFor ksl_N_highFor kin_N kcd_N_highFor) rfl rfl rfl (by decide +kernel) ⟨by show 1 + 1 ≤ 6 + (d + 1); omega, by show 8 + (3 + 11) + 23 ≤ 200 + 60 * (d + 1); omega⟩) hP hK rfl hl.1 rfl (Nat.le_of_ble_eq_true rfl) d_A_pick_117 ⟨Nat.zero_le _, Nat.zero_le _⟩ ?_
                  refine lv_aload_n hx hb d_A_pick_120 rfl (lv_at hl 3 rfl) ?_
                  refine va_get (D := (dC, dI)) (ci := 2) (v := .ref (a 0)) (C := R_A) (T := T_A) (N := 2) hx hb hts in_A hown hK hP 0 rfl rfl 0 (by decide) (hts _ kfl_A_9) (fun _ h9 => h9) rfl d_A_pick_121 ?_
                  refine lv_iload_n hx hb d_A_pick_124 rfl (lv_at hl 5 rfl) ?_
                  refine lv_iload hx hb d_A_pick_125 (lv_at hl 1 rfl) ?_
                  refine aNR (As := [.int x2, .int (j_firstAsked N x1 x2 x3)]) (rest := [.int (j_highFor N104 x1 (j_firstAsked N x1 x2 x3)), .ref g]) ⟨hx, hb, hml, hown, hts⟩ (c_N_highFor l dC dI cI a N104 x2 (j_firstAsked N x1 x2 x3)) (cwV 2 hts (gV kml_A_62 kim_N_highFor ksl_N_highFor kin_N kcd_N_highFor) rfl rfl rfl (by decide +kernel) ⟨by show 1 + 1 ≤ 6 + (d + 1); omega, by show 8 + (3 + 11) + 23 ≤ 200 + 60 * (d + 1); omega⟩) hP hK rfl hl.1 rfl (Nat.le_of_ble_eq_true rfl) d_A_pick_127 ⟨Nat.zero_le _, Nat.zero_le _⟩ ?_
                  refine lv_aload_n hx hb d_A_pick_130 rfl (lv_at hl 3 rfl) ?_
                  refine va_get (D := (dC, dI)) (ci := 2) (v := .ref (a 0)) (C := R_A) (T := T_A) (N := 2) hx hb hts in_A hown hK hP 0 rfl rfl 0 (by decide) (hts _ kfl_A_9) (fun _ h9 => h9) rfl d_A_pick_131 ?_
                  refine lv_iload_n hx hb d_A_pick_134 rfl (lv_at hl 6 rfl) ?_
                  refine lv_iload hx hb d_A_pick_135 (lv_at hl 1 rfl) ?_
                  refine aNR (As := [.int x3, .int (j_firstAsked N x1 x2 x3)]) (rest := [.int (j_highFor N104 x2 (j_firstAsked N x1 x2 x3)), .int (j_highFor N104 x1 (j_firstAsked N x1 x2 x3)), .ref g]) ⟨hx, hb, hml, hown, hts⟩ (c_N_highFor l dC dI cI a N104 x3 (j_firstAsked N x1 x2 x3)) (cwV 2 hts (gV kml_A_62 kim_N_highFor ksl_N_highFor kin_N kcd_N_highFor) rfl rfl rfl (by decide +kernel) ⟨by show 1 + 1 ≤ 6 + (d + 1); omega, by show 8 + (3 + 11) + 23 ≤ 200 + 60 * (d + 1); omega⟩) hP hK rfl hl.1 rfl (Nat.le_of_ble_eq_true rfl) d_A_pick_137 ⟨Nat.zero_le _, Nat.zero_le _⟩ ?_
                  refine lv_iload hx hb d_A_pick_140 (lv_at hl 7 rfl) ?_
                  refine lv_iconst (v := 1) hx hb d_A_pick_142 (by decide) ?_
                  refine lv_iadd hx hb d_A_pick_143 ?_
                  obtain ⟨N144, E144, r144, h144⟩ := ex3 (j_pick d N104 E104 (j_highFor N104 x1 (j_firstAsked N x1 x2 x3)) (j_highFor N104 x2 (j_firstAsked N x1 x2 x3)) (j_highFor N104 x3 (j_firstAsked N x1 x2 x3)))
                  refine aAi (As := [.int (j_highFor N104 x1 (j_firstAsked N x1 x2 x3)), .int (j_highFor N104 x2 (j_firstAsked N x1 x2 x3)), .int (j_highFor N104 x3 (j_firstAsked N x1 x2 x3)), .int (x4 + 1)]) (rest := []) ⟨hx, hb, hml, hown, hts⟩ (ih N104 E104 _ (j_highFor N104 x1 (j_firstAsked N x1 x2 x3)) (j_highFor N104 x2 (j_firstAsked N x1 x2 x3)) (j_highFor N104 x3 (j_firstAsked N x1 x2 x3)) (x4 + 1) _ _ _ (by omega) (by rw [hx4, nI_1]; congr 1; omega) h144) (cwV 4 hts (gV kml_A_38 kim_A_pick ksl_A_pick kin_A kcd_A_pick) rfl rfl rfl (by decide +kernel) ⟨by show 6 + d + 1 ≤ 6 + (d + 1); omega, by show 8 + (10 + 11) + (200 + 60 * d) ≤ 200 + 60 * (d + 1); omega⟩) hP hK hD hS hA rfl hl.1 rfl (Nat.le_of_ble_eq_true rfl) d_A_pick_144 ⟨Nat.zero_le _, Nat.zero_le _⟩ (fun H locs hP hD hS => ?_)
                  refine lv_istore (lv' := [(8, .int r144), (7, .int r104), (6, .int (j_firstAsked N x1 x2 x3)), (5, .int (j_answerFor E x1 x2 x3)), (0, .ref g), (1, .int x1), (2, .int x2), (3, .int x3), (4, .int x4)]) hx hb d_A_pick_147 hl (by decide) rfl (fun ls hl => ?_)
                  refine lv_aload_n hx hb d_A_pick_149 rfl (lv_at hl 4 rfl) ?_
                  refine va_get (D := (dC, dI)) (ci := 2) (v := .ref (a 0)) (C := R_A) (T := T_A) (N := 2) hx hb hts in_A hown hK hP 0 rfl rfl 0 (by decide) (hts _ kfl_A_9) (fun _ h9 => h9) rfl d_A_pick_150 ?_
                  refine lv_iload hx hb d_A_pick_153 (lv_at hl 2 rfl) ?_
                  refine lv_iload hx hb d_A_pick_155 (lv_at hl 1 rfl) ?_
                  refine lv_iload hx hb d_A_pick_157 (lv_at hl 0 rfl) ?_
                  obtain ⟨N159, r159, h159⟩ := ex2 (j_make N144 (j_firstAsked N x1 x2 x3) r104 r144)
                  refine aNi (As := [.int (j_firstAsked N x1 x2 x3), .int r104, .int r144]) (rest := []) ⟨hx, hb, hml, hown, hts⟩ (c_N_make' l dC dI cI a N144 _ (j_firstAsked N x1 x2 x3) r104 r144 h159) (cwV 3 hts (gV kml_A_34 kim_N_make ksl_N_make kin_N kcd_N_make) rfl rfl rfl (by decide +kernel) ⟨by show 2 + 1 ≤ 6 + (d + 1); omega, by show 8 + (7 + 11) + 49 ≤ 200 + 60 * (d + 1); omega⟩) hP hK hD hS hA rfl hl.1 rfl (Nat.le_of_ble_eq_true rfl) d_A_pick_159 ⟨Nat.zero_le _, Nat.zero_le _⟩ (fun H locs hP hD hS => ?_)
                  refine lv_istore (lv' := [(9, .int r159), (8, .int r144), (7, .int r104), (6, .int (j_firstAsked N x1 x2 x3)), (5, .int (j_answerFor E x1 x2 x3)), (0, .ref g), (1, .int x1), (2, .int x2), (3, .int x3), (4, .int x4)]) hx hb d_A_pick_162 hl (by decide) rfl (fun ls hl => ?_)
                  refine lv_aload_n hx hb d_A_pick_164 rfl (lv_at hl 5 rfl) ?_
                  refine va_get (D := (dC, dI)) (ci := 2) (v := .ref (b 0)) (C := R_A) (T := T_A) (N := 2) hx hb hts in_A hown hK hP 0 rfl rfl 1 (by decide) (hts _ kfl_A_18) (fun _ h9 => h9) rfl d_A_pick_165 ?_
                  refine lv_iload_n hx hb d_A_pick_168 rfl (lv_at hl 6 rfl) ?_
                  refine lv_iload_n hx hb d_A_pick_169 rfl (lv_at hl 7 rfl) ?_
                  refine lv_iload_n hx hb d_A_pick_170 rfl (lv_at hl 8 rfl) ?_
                  refine lv_iload hx hb d_A_pick_171 (lv_at hl 0 rfl) ?_
                  refine aMv (As := [.int x1, .int x2, .int x3, .int r159]) (rest := []) ⟨hx, hb, hml, hown, hts⟩ (c_M_keep l dC dI cI b E144 _ x1 x2 x3 r159) (cwV 4 hts (gV kml_A_65 kim_M_keep ksl_M_keep kin_M kcd_M_keep) rfl rfl rfl (by decide +kernel) ⟨by show 1 + 1 ≤ 6 + (d + 1); omega, by show 8 + (6 + 11) + 23 ≤ 200 + 60 * (d + 1); omega⟩) hP hK hD hS hA rfl hl.1 rfl (Nat.le_of_ble_eq_true rfl) d_A_pick_173 ⟨Nat.zero_le _, Nat.zero_le _⟩ (fun H locs hP hD hS => ?_)
                  refine lv_iload hx hb d_A_pick_176 (lv_at hl 0 rfl) ?_
                  have eq : j_pick (d + 1) N E x1 x2 x3 = (N159, j_keep E144 x1 x2 x3 r159, r159) := pick_r (by rintro (h | h | h | ⟨h, h2⟩) <;> first | exact absurd h c2 | exact absurd h2 c2 | exact absurd h c7 | exact absurd h2 c7 | exact absurd h c13 | exact absurd h2 c13 | exact absurd h c20 | exact absurd h2 c20 | exact absurd h c24 | exact absurd h2 c24 | exact absurd h c31 | exact absurd h2 c31) c51 rfl h104 h144 h159
                  obtain ⟨eN, eE, eR⟩ := pe3 (hres.symm.trans eq)
                  have hP9 : va_P (dC, dI) cls0 (gW cI g a b (N') (E')) H := by rw [eN, eE]; exact hP
                  have hD9 : va_D A (gW cI g a b (N') (E')) := by rw [eN, eE]; exact hD
                  exact W.iret (v := r159) hx hb hr (fun t ht hW => ⟨⟨r159, (), rfl, eR.symm, by rw [ht]; exact hP9, va_K.moved hW.alike hK, hD9⟩, hS.F ht⟩) hS.2.2 d_A_pick_178
                · refine lv_iload hx hb d_A_pick_54 (lv_at hl 0 rfl) ?_
                  have eq : j_pick (d + 1) N E x1 x2 x3 = (N, E, j_answerFor E x1 x2 x3) := by first | exact pick_m (by rintro (h | h | h | ⟨h, h2⟩) <;> first | exact absurd h c2 | exact absurd h2 c2 | exact absurd h c7 | exact absurd h2 c7 | exact absurd h c13 | exact absurd h2 c13 | exact absurd h c20 | exact absurd h2 c20 | exact absurd h c24 | exact absurd h2 c24 | exact absurd h c31 | exact absurd h2 c31) c51
                  obtain ⟨eN, eE, eR⟩ := pe3 (hres.symm.trans eq)
                  have hP9 : va_P (dC, dI) cls0 (gW cI g a b (N') (E')) s.heap := by rw [eN, eE]; exact hP
                  have hD9 : va_D A (gW cI g a b (N') (E')) := by rw [eN, eE]; exact hD
                  exact W.iret (v := (j_answerFor E x1 x2 x3)) hx hb hr (fun t ht hW => ⟨⟨j_answerFor E x1 x2 x3, (), rfl, eR.symm, by rw [ht]; exact hP9, va_K.moved hW.alike hK, hD9⟩, hS.F ht⟩) hS.2.2 d_A_pick_56
              · exact absurd (by rw [hx4]; exact nI_lt (b := 12) (by omega) (by omega)) c31
        · refine lv_iload_n hx hb d_A_pick_16 rfl (lv_at hl 3 rfl) ?_
          have eq : j_pick (d + 1) N E x1 x2 x3 = (N, E, x3) := by first | (rw [pick_b (by simp only [c2, c7, c13, if_true, if_false, not_true_eq_false, not_false_eq_true, true_and, and_true, false_and, and_false, true_or, or_true, false_or, or_false, ite_true, ite_false, eq_self, or_self, and_self, not_false_iff])]; unfold j_pickB; simp only [c2, c7, if_pos c13, if_true, if_false, not_true_eq_false, not_false_eq_true, true_and, and_true, false_and, and_false, true_or, or_true, false_or, or_false, ite_true, ite_false, eq_self]; done) | (rw [pick_b (by simp only [c2, c7, c13, if_true, if_false, not_true_eq_false, not_false_eq_true, true_and, and_true, false_and, and_false, true_or, or_true, false_or, or_false, ite_true, ite_false, eq_self, or_self, and_self, not_false_iff])]; unfold j_pickB; simp only [c2, c7, c13, if_true, if_false, not_true_eq_false, not_false_eq_true, true_and, and_true, false_and, and_false, true_or, or_true, false_or, or_false, ite_true, ite_false, eq_self])
          obtain ⟨eN, eE, eR⟩ := pe3 (hres.symm.trans eq)
          have hP9 : va_P (dC, dI) cls0 (gW cI g a b (N') (E')) s.heap := by rw [eN, eE]; exact hP
          have hD9 : va_D A (gW cI g a b (N') (E')) := by rw [eN, eE]; exact hD
          exact W.iret (v := x3) hx hb hr (fun t ht hW => ⟨⟨x3, (), rfl, eR.symm, by rw [ht]; exact hP9, va_K.moved hW.alike hK, hD9⟩, hS.F ht⟩) hS.2.2 d_A_pick_17
      · refine lv_iload_n hx hb d_A_pick_10 rfl (lv_at hl 2 rfl) ?_
        have eq : j_pick (d + 1) N E x1 x2 x3 = (N, E, x2) := by first | (rw [pick_b (by simp only [c2, c7, if_true, if_false, not_true_eq_false, not_false_eq_true, true_and, and_true, false_and, and_false, true_or, or_true, false_or, or_false, ite_true, ite_false, eq_self, or_self, and_self, not_false_iff])]; unfold j_pickB; simp only [c2, if_pos c7, if_true, if_false, not_true_eq_false, not_false_eq_true, true_and, and_true, false_and, and_false, true_or, or_true, false_or, or_false, ite_true, ite_false, eq_self]; done) | (rw [pick_b (by simp only [c2, c7, if_true, if_false, not_true_eq_false, not_false_eq_true, true_and, and_true, false_and, and_false, true_or, or_true, false_or, or_false, ite_true, ite_false, eq_self, or_self, and_self, not_false_iff])]; unfold j_pickB; simp only [c2, c7, if_true, if_false, not_true_eq_false, not_false_eq_true, true_and, and_true, false_and, and_false, true_or, or_true, false_or, or_false, ite_true, ite_false, eq_self])
        obtain ⟨eN, eE, eR⟩ := pe3 (hres.symm.trans eq)
        have hP9 : va_P (dC, dI) cls0 (gW cI g a b (N') (E')) s.heap := by rw [eN, eE]; exact hP
        have hD9 : va_D A (gW cI g a b (N') (E')) := by rw [eN, eE]; exact hD
        exact W.iret (v := x2) hx hb hr (fun t ht hW => ⟨⟨x2, (), rfl, eR.symm, by rw [ht]; exact hP9, va_K.moved hW.alike hK, hD9⟩, hS.F ht⟩) hS.2.2 d_A_pick_11
