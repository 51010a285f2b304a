set_option maxHeartbeats 4000000 in
set_option maxRecDepth 100000 in
/-- N_collect -/
theorem c_N_collect (l : Launch) (dC : Nat → ClassId) (dI : Nat → Nat → Nat) (cI : ClassId) (a : Nat → Nat) (N : Mm) (sz : Nat) (hv : ∀ k, k < 13 → ∃ w, w < 13 ∧ N 5 k = nI w) : Met l y_N_collect (.code y_N_collect b_N_collect 4 none :: W0) ({ frames := 3, cells := 0, slots := 0, locals := 72 } : Room) (va_Pc [.ref (a 0)] (nM dC dI cI a N sz)) (va_Qv (fun _ : Unit => True) (fun _ t => nE dC dI cI a (j_collect N) (va_A (nW cI a N) sz) t) (va_A (nW cI a N) sz)) 0 0 (va_A (nW cI a N) sz) := by
  refine Met.ofW (cc := b_N_collect) (maxL := 4) (ret := none) (by decide) rfl ?_
  intro p e s m args below meth c s₁ B hml hv
  obtain ⟨rfl, hsz, hP, hK, hD0⟩ := hv
  have hx := B.exec
  have hb := B.bytes
  have hr := B.returns
  have hts1 := atoms_spec (ws := .code y_N_collect b_N_collect 4 none :: W0) B.pre
  have hts : ∀ w ∈ W0, w.before _ s = true := fun w h => hts1 w (List.mem_cons_of_mem _ h)
  have hown : s.vm.findClass R_N = some m.cls := findClass_of_methodNamed B.named
  have hlocks := B.notSynchronized
  subst hsz
  have hD := hD0.self (sz := s.heap.size)
  generalize hAe : va_A (nW cI a N) s.heap.size = A at hD ⊢
  have hA : ∀ q : Nat, s.heap.size ≤ q → A q := fun q h => by rw [← hAe]; exact Or.inr h
  have hS : va_S A s.heap s.heap [] := va_S.rf
  have hP : va_P (dC, dI) cls0 (nW cI a N) s.heap := hP
  have hl := lv_entry ([.ref (a 0)]) (n := 4) (Nat.le_of_ble_eq_true rfl)
  rw [lg_entry_eq]
  generalize (lg_sl ([.ref (a 0)]) ++ List.replicate (4 - (lg_sl ([.ref (a 0)])).length) Slot.unset).toArray = ls at hl ⊢
  have hl : lv_has ls 4 [(0, .ref (a 0))] := hl
  have loop : ∀ (n : Nat) (N1 : Mm) (k : Nat) (H : Heap) (locs : List Loc), k + n = 12 → N1 5 = N 5 → j_collect N = j_collectL n N1 (nI k) → va_P (dC, dI) cls0 (nW cI a N1) H → va_D A (nW cI a N1) → va_S A s.heap H locs → ∀ (ls : Array Slot), lv_has ls 4 [(1, .int (nI k)), (0, .ref (a 0))] → W p l e (headSpec (.code y_N_collect b_N_collect 4 none :: W0) ({ frames := 3, cells := 0, slots := 0, locals := 72 } : Room)).room s m ([.ref (a 0)] : List Value).toArray below meth c H locs 0 0 (MQ below (va_Qv (fun _ : Unit => True) (fun _ t => nE dC dI cI a (j_collect N) A t) A) ([.ref (a 0)] : List Value).toArray s 0 0 A) (F0 m 2 ls []) := by
    intro n
    induction n with
    | zero =>
      intro N1 k H locs hk h5 hr0 hP hD hS ls hl
      obtain ⟨w, hw, ew⟩ := hv k (by omega)
      refine lv_iload_n hx hb d_N_collect_2 rfl (lv_at hl 0 rfl) ?_
      refine lv_bipush (v := 12) hx hb d_N_collect_3 (by decide) ?_
      refine lv_icmp_ge (tgt := 68) hx hb d_N_collect_5 (by decide) (fun c5 => ?_) (fun c5 => ?_)
      · have hP9 : va_P (dC, dI) cls0 (nW cI a (j_collect N)) _ := (show N1 = j_collect N from by rw [hr0]; simp only [j_collectL, c5, Int32.not_lt.mpr c5, if_true, if_false, not_true_eq_false, not_false_eq_true, true_and, and_true, false_and, and_false, true_or, or_true, false_or, or_false, ite_true, ite_false, eq_self]) ▸ hP
        have hD9 : va_D A (nW cI a (j_collect N)) := (show N1 = j_collect N from by rw [hr0]; simp only [j_collectL, c5, Int32.not_lt.mpr c5, if_true, if_false, not_true_eq_false, not_false_eq_true, true_and, and_true, false_and, and_false, true_or, or_true, false_or, or_false, ite_true, ite_false, eq_self]) ▸ hD
        exact W.vret hx hb hr (fun t ht hW => ⟨⟨(), rfl, trivial, by rw [ht]; exact hP9, va_K.moved hW.alike hK, hD9⟩, hS.F ht⟩) hS.2.2 d_N_collect_68
      · exact absurd (nI_le (a := 12) (b := k) (by omega) (by omega)) c5
    | succ n ih =>
      intro N1 k H locs hk h5 hr0 hP hD hS ls hl
      obtain ⟨w, hw, ew⟩ := hv k (by omega)
      refine lv_iload_n hx hb d_N_collect_2 rfl (lv_at hl 0 rfl) ?_
      refine lv_bipush (v := 12) hx hb d_N_collect_3 (by decide) ?_
      refine lv_icmp_ge (tgt := 68) hx hb d_N_collect_5 (by decide) (fun c5 => ?_) (fun c5 => ?_)
      · exact absurd c5 (nI_ge (a := k) (b := 12) (by omega) (by omega))
      · refine lv_aload_n hx hb d_N_collect_8 rfl (lv_at hl 1 rfl) ?_
        refine lv_iload_n hx hb d_N_collect_9 rfl (lv_at hl 0 rfl) ?_
        refine nCallR (As := [.int (nI k)]) (rest := []) ⟨hx, hb, hml, hown, hts⟩ (c_N_variableAt l dC dI cI a N1 (nI k)) (cwV 1 hts (gV kml_N_62 kim_N_variableAt ksl_N_variableAt kin_N kcd_N_variableAt) rfl rfl rfl (by decide +kernel) ⟨Nat.le_of_ble_eq_true rfl, Nat.le_of_ble_eq_true rfl⟩) hP hK rfl hl.1 rfl (Nat.le_of_ble_eq_true rfl) d_N_collect_10 ⟨Nat.zero_le _, Nat.zero_le _⟩ ?_
        refine lv_bipush (v := 64) hx hb d_N_collect_13 (by decide) ?_
        refine lv_imul hx hb d_N_collect_15 ?_
        refine lv_istore_n (lv' := [(2, .int ((j_variableAt N1 (nI k)) * 64)), (1, .int (nI k)), (0, .ref (a 0))]) hx hb d_N_collect_16 rfl hl (by decide) rfl (fun ls hl => ?_)
        refine lv_iload_n hx hb d_N_collect_17 rfl (lv_at hl 0 rfl) ?_
        refine lv_istore_n (lv' := [(3, .int ((j_variableAt N1 (nI k)) * 64)), (2, .int ((j_variableAt N1 (nI k)) * 64)), (1, .int (nI k)), (0, .ref (a 0))]) hx hb d_N_collect_18 rfl hl (by decide) rfl (fun ls hl => ?_)
        have ef := varAt_n (N := N1) (k := k) (w := w) (by omega) (by rw [h5]; exact ew)
        rw [ef] at hl
        have loop2 : ∀ (n2 : Nat) (N1 : Mm) (j : Nat) (H : Heap) (locs : List Loc), j + n2 = 64 → N1 5 = N 5 → j_collect N = j_collectL n (j_collectH n2 N1 (nI (w * 64 + j))) (nI k + 1) → va_P (dC, dI) cls0 (nW cI a N1) H → va_D A (nW cI a N1) → va_S A s.heap H locs → ∀ (ls : Array Slot), lv_has ls 4 [(3, .int (nI (w * 64 + j))), (2, .int (nI (w * 64))), (1, .int (nI k)), (0, .ref (a 0))] → W p l e (headSpec (.code y_N_collect b_N_collect 4 none :: W0) ({ frames := 3, cells := 0, slots := 0, locals := 72 } : Room)).room s m ([.ref (a 0)] : List Value).toArray below meth c H locs 0 0 (MQ below (va_Qv (fun _ : Unit => True) (fun _ t => nE dC dI cI a (j_collect N) A t) A) ([.ref (a 0)] : List Value).toArray s 0 0 A) (F0 m 19 ls []) := by
          intro n2
          induction n2 with
          | zero =>
            intro N1 j H locs hj h5 hr0 hP hD hS ls hl
            refine lv_iload_n hx hb d_N_collect_19 rfl (lv_at hl 0 rfl) ?_
            refine lv_iload_n hx hb d_N_collect_20 rfl (lv_at hl 1 rfl) ?_
            refine lv_bipush (v := 64) hx hb d_N_collect_21 (by decide) ?_
            refine lv_iadd hx hb d_N_collect_23 ?_
            refine lv_icmp_ge (tgt := 62) hx hb d_N_collect_24 (by decide) (fun c24 => ?_) (fun c24 => ?_)
            · refine lv_iinc (v := ((nI k) + 1)) (lv' := [(1, .int ((nI k) + 1)), (3, .int (nI (w * 64 + j))), (2, .int (nI (w * 64))), (0, .ref (a 0))]) hx hb d_N_collect_62 hl (k := 2) rfl rfl (by decide) rfl (fun ls hl => ?_)
              refine lv_goto (tgt := 2) hx hb d_N_collect_65 (by decide) ?_
              rw [nI_1] at hl
              exact ih _ (k + 1) H locs (by omega) h5 (by rw [hr0, nI_1]; rfl) hP hD hS ls (lv_sub hl [0, 3] rfl)
            · exact absurd (by rw [nI_64]; exact nI_le (by omega) (by omega)) c24
          | succ n2 ih2 =>
            intro N1 j H locs hj h5 hr0 hP hD hS ls hl
            refine lv_iload_n hx hb d_N_collect_19 rfl (lv_at hl 0 rfl) ?_
            refine lv_iload_n hx hb d_N_collect_20 rfl (lv_at hl 1 rfl) ?_
            refine lv_bipush (v := 64) hx hb d_N_collect_21 (by decide) ?_
            refine lv_iadd hx hb d_N_collect_23 ?_
            refine lv_icmp_ge (tgt := 62) hx hb d_N_collect_24 (by decide) (fun c24 => ?_) (fun c24 => ?_)
            · exact absurd c24 (by rw [nI_64]; exact nI_ge (by omega) (by omega))
            · refine lv_iload_n hx hb d_N_collect_27 rfl (lv_at hl 0 rfl) ?_
              refine lv_if_lt (tgt := 56) hx hb d_N_collect_28 (by decide) (fun c28 => ?_) (fun c28 => ?_)
              · refine lv_iinc (v := ((nI (w * 64 + j)) + 1)) (lv' := [(3, .int ((nI (w * 64 + j)) + 1)), (2, .int (nI (w * 64))), (1, .int (nI k)), (0, .ref (a 0))]) hx hb d_N_collect_56 hl (k := 0) rfl rfl (by decide) rfl (fun ls hl => ?_)
                refine lv_goto (tgt := 19) hx hb d_N_collect_59 (by decide) ?_
                rw [nI_1, Nat.add_assoc] at hl
                exact ih2 _ (j + 1) H locs (by omega) (by first | exact h5 | (rw [uq_2_5, needed_5]; exact h5)) (by rw [hr0]; rw [j_collectH]; simp only [c24, c28, Int32.not_le.mp c24, Int32.not_le.mpr c28, if_true, if_false, not_true_eq_false, not_false_eq_true, true_and, and_true, false_and, and_false, true_or, or_true, false_or, or_false, ite_true, ite_false, eq_self]; rw [nI_1, Nat.add_assoc]) hP hD hS ls (lv_sub hl [0, 1, 2, 3] rfl)
              · refine lv_iload_n hx hb d_N_collect_31 rfl (lv_at hl 0 rfl) ?_
                refine lv_aload_n hx hb d_N_collect_32 rfl (lv_at hl 3 rfl) ?_
                refine va_get (D := (dC, dI)) (ci := 1) (v := .ref (a 2)) (C := R_N) (T := T_N) (N := 11) hx hb hts in_N hown hK hP 0 rfl rfl 1 (by decide) (hts _ kfl_N_25) (fun _ h9 => h9) rfl d_N_collect_33 ?_
                refine va_alen (v := nI 768) hx hb hK hP 2 0 rfl rfl rfl d_N_collect_36 ?_
                refine lv_icmp_ge (tgt := 56) hx hb d_N_collect_37 (by decide) (fun c37 => ?_) (fun c37 => ?_)
                · refine lv_iinc (v := ((nI (w * 64 + j)) + 1)) (lv' := [(3, .int ((nI (w * 64 + j)) + 1)), (2, .int (nI (w * 64))), (1, .int (nI k)), (0, .ref (a 0))]) hx hb d_N_collect_56 hl (k := 0) rfl rfl (by decide) rfl (fun ls hl => ?_)
                  refine lv_goto (tgt := 19) hx hb d_N_collect_59 (by decide) ?_
                  rw [nI_1, Nat.add_assoc] at hl
                  exact ih2 _ (j + 1) H locs (by omega) (by first | exact h5 | (rw [uq_2_5, needed_5]; exact h5)) (by rw [hr0]; rw [j_collectH]; simp only [c24, c28, c37, Int32.not_le.mp c24, Int32.not_lt.mp c28, Int32.not_lt.mpr c37, if_true, if_false, not_true_eq_false, not_false_eq_true, true_and, and_true, false_and, and_false, true_or, or_true, false_or, or_false, ite_true, ite_false, eq_self]; rw [nI_1, Nat.add_assoc]) hP hD hS ls (lv_sub hl [0, 1, 2, 3] rfl)
                · refine lv_aload_n hx hb d_N_collect_40 rfl (lv_at hl 3 rfl) ?_
                  refine va_get (D := (dC, dI)) (ci := 1) (v := .ref (a 2)) (C := R_N) (T := T_N) (N := 11) hx hb hts in_N hown hK hP 0 rfl rfl 1 (by decide) (hts _ kfl_N_25) (fun _ h9 => h9) rfl d_N_collect_41 ?_
                  refine lv_iload_n hx hb d_N_collect_44 rfl (lv_at hl 0 rfl) ?_
                  refine lv_aload_n hx hb d_N_collect_45 rfl (lv_at hl 3 rfl) ?_
                  refine lv_aload_n hx hb d_N_collect_46 rfl (lv_at hl 3 rfl) ?_
                  refine va_get (D := (dC, dI)) (ci := 1) (v := .ref (a 2)) (C := R_N) (T := T_N) (N := 11) hx hb hts in_N hown hK hP 0 rfl rfl 1 (by decide) (hts _ kfl_N_25) (fun _ h9 => h9) rfl d_N_collect_47 ?_
                  refine lv_iload_n hx hb d_N_collect_50 rfl (lv_at hl 0 rfl) ?_
                  refine va_iald hx hb hK hP 2 0 rfl rfl (lt_of_in c28 c37 (by decide)) d_N_collect_51 ?_
                  refine nCalli (As := [.int (N1 2 (nI (w * 64 + j)).toNatClampNeg)]) (rest := [.int (nI (w * 64 + j)), .ref (a 2)]) ⟨hx, hb, hml, hown, hts⟩ (c_N_needed l dC dI cI a N1 _ (N1 2 (nI (w * 64 + j)).toNatClampNeg)) (cwV 1 hts (gV kml_N_103 kim_N_needed ksl_N_needed kin_N kcd_N_needed) rfl rfl rfl (by decide +kernel) ⟨Nat.le_of_ble_eq_true rfl, Nat.le_of_ble_eq_true rfl⟩) hP hK hD hS hA rfl hl.1 rfl (Nat.le_of_ble_eq_true rfl) d_N_collect_52 ⟨Nat.zero_le _, Nat.zero_le _⟩ (fun H locs hP hD hS => ?_)
                  refine nAst2 hx hb hK hP hD hS (lt_of_in c28 c37 (by decide)) d_N_collect_55 (fun H locs hP hD hS => ?_)
                  refine lv_iinc (v := ((nI (w * 64 + j)) + 1)) (lv' := [(3, .int ((nI (w * 64 + j)) + 1)), (2, .int (nI (w * 64))), (1, .int (nI k)), (0, .ref (a 0))]) hx hb d_N_collect_56 hl (k := 0) rfl rfl (by decide) rfl (fun ls hl => ?_)
                  refine lv_goto (tgt := 19) hx hb d_N_collect_59 (by decide) ?_
                  rw [nI_1, Nat.add_assoc] at hl
                  exact ih2 _ (j + 1) H locs (by omega) (by first | exact h5 | (rw [uq_2_5, needed_5]; exact h5)) (by rw [hr0]; rw [j_collectH]; simp only [c24, c28, c37, Int32.not_le.mp c24, Int32.not_lt.mp c28, Int32.not_le.mp c37, if_true, if_false, not_true_eq_false, not_false_eq_true, true_and, and_true, false_and, and_false, true_or, or_true, false_or, or_false, ite_true, ite_false, eq_self]; rw [nI_1, Nat.add_assoc]) hP hD hS ls (lv_sub hl [0, 1, 2, 3] rfl)
        exact loop2 64 _ 0 H locs rfl h5 (by rw [hr0, j_collectL, ef]; rfl) hP hD hS ls (lv_sub hl [0, 1, 2, 3] rfl)
  refine lv_iconst (v := 0) hx hb d_N_collect_0 (by decide) ?_
  refine lv_istore_n (lv' := [(1, .int 0), (0, .ref (a 0))]) hx hb d_N_collect_1 rfl hl (by decide) rfl (fun ls hl => ?_)
  exact loop 12 _ 0 s.heap [] rfl rfl rfl hP hD hS ls (lv_sub hl [0, 1] rfl)

set_option maxHeartbeats 4000000 in
set_option maxRecDepth 100000 in
/-- N_detach -/
theorem c_N_detach (l : Launch) (dC : Nat → ClassId) (dI : Nat → Nat → Nat) (cI : ClassId) (a : Nat → Nat) (N : Mm) (sz : Nat) (x1 x2 : Int32) (u : Nat) (hu : u < 12) (hx1 : x1 = nI u) : Met l y_N_detach (.code y_N_detach b_N_detach 10 (some .int) :: W0) ({ frames := 1, cells := 0, slots := 0, locals := 24 } : Room) (va_Pc [.ref (a 0), .int x1, .int x2] (nM dC dI cI a N sz)) (va_Qi (fun (z : Int32) (_ : Unit) => z = (j_detach N x1 x2).2) (fun _ t => nE dC dI cI a ((j_detach N x1 x2).1) (va_A (nW cI a N) sz) t) (va_A (nW cI a N) sz)) 0 0 (va_A (nW cI a N) sz) := by
  refine Met.ofW (cc := b_N_detach) (maxL := 10) (ret := (some .int)) (by decide) rfl ?_
  intro p e s m args below meth c s₁ B hml hv
  obtain ⟨rfl, hsz, hP, hK, hD0⟩ := hv
  have hx := B.exec
  have hb := B.bytes
  have hr := B.returns
  have hts1 := atoms_spec (ws := .code y_N_detach b_N_detach 10 (some .int) :: W0) B.pre
  have hts : ∀ w ∈ W0, w.before _ s = true := fun w h => hts1 w (List.mem_cons_of_mem _ h)
  have hown : s.vm.findClass R_N = some m.cls := findClass_of_methodNamed B.named
  have hlocks := B.notSynchronized
  subst hsz
  have hD := hD0.self (sz := s.heap.size)
  generalize hAe : va_A (nW cI a N) s.heap.size = A at hD ⊢
  have hA : ∀ q : Nat, s.heap.size ≤ q → A q := fun q h => by rw [← hAe]; exact Or.inr h
  have hS : va_S A s.heap s.heap [] := va_S.rf
  have hP : va_P (dC, dI) cls0 (nW cI a N) s.heap := hP
  have hl := lv_entry ([.ref (a 0), .int x1, .int x2]) (n := 10) (Nat.le_of_ble_eq_true rfl)
  rw [lg_entry_eq]
  generalize (lg_sl ([.ref (a 0), .int x1, .int x2]) ++ List.replicate (10 - (lg_sl ([.ref (a 0), .int x1, .int x2])).length) Slot.unset).toArray = ls at hl ⊢
  have hl : lv_has ls 10 [(0, .ref (a 0)), (1, .int x1), (2, .int x2)] := hl
  have loop : ∀ (n : Nat) (N1 : Mm) (j : Nat) (x3 : Int32) (H : Heap) (locs : List Loc), j + n = 64 → j_detach N x1 x2 = j_detachH x2 x1 n N1 x3 (nI (u * 64 + j)) → va_P (dC, dI) cls0 (nW cI a N1) H → va_D A (nW cI a N1) → va_S A s.heap H locs → ∀ (ls : Array Slot), lv_has ls 10 [(5, .int (nI (u * 64 + j))), (4, .int (nI (u * 64))), (3, .int x3), (0, .ref (a 0)), (1, .int x1), (2, .int x2)] → W p l e (headSpec (.code y_N_detach b_N_detach 10 (some .int) :: W0) ({ frames := 1, cells := 0, slots := 0, locals := 24 } : Room)).room s m ([.ref (a 0), .int x1, .int x2] : List Value).toArray below meth c H locs 0 0 (MQ below (va_Qi (fun (z : Int32) (_ : Unit) => z = (j_detach N x1 x2).2) (fun _ t => nE dC dI cI a ((j_detach N x1 x2).1) A t) A) ([.ref (a 0), .int x1, .int x2] : List Value).toArray s 0 0 A) (F0 m 12 ls []) := by
    intro n
    induction n with
    | zero =>
      intro N1 j x3 H locs hj hr0 hP hD hS ls hl
      refine lv_iload hx hb d_N_detach_12 (lv_at hl 0 rfl) ?_
      refine lv_iload hx hb d_N_detach_14 (lv_at hl 1 rfl) ?_
      refine lv_bipush (v := 64) hx hb d_N_detach_16 (by decide) ?_
      refine lv_iadd hx hb d_N_detach_18 ?_
      refine lv_icmp_ge (tgt := 183) hx hb d_N_detach_19 (by decide) (fun c19 => ?_) (fun c19 => ?_)
      · refine lv_iload_n hx hb d_N_detach_183 rfl (lv_at hl 2 rfl) ?_
        have hP9 : va_P (dC, dI) cls0 (nW cI a ((j_detach N x1 x2).1)) _ := (show N1 = (j_detach N x1 x2).1 from by rw [hr0]; simp only [j_detachH, c19, Int32.not_lt.mpr c19, if_true, if_false, not_true_eq_false, not_false_eq_true, true_and, and_true, false_and, and_false, true_or, or_true, false_or, or_false, ite_true, ite_false, eq_self]) ▸ hP
        have hD9 : va_D A (nW cI a ((j_detach N x1 x2).1)) := (show N1 = (j_detach N x1 x2).1 from by rw [hr0]; simp only [j_detachH, c19, Int32.not_lt.mpr c19, if_true, if_false, not_true_eq_false, not_false_eq_true, true_and, and_true, false_and, and_false, true_or, or_true, false_or, or_false, ite_true, ite_false, eq_self]) ▸ hD
        exact W.iret (v := x3) hx hb hr (fun t ht hW => ⟨⟨x3, (), rfl, (show x3 = (j_detach N x1 x2).2 from by rw [hr0]; simp only [j_detachH, c19, Int32.not_lt.mpr c19, if_true, if_false, not_true_eq_false, not_false_eq_true, true_and, and_true, false_and, and_false, true_or, or_true, false_or, or_false, ite_true, ite_false, eq_self]), by rw [ht]; exact hP9, va_K.moved hW.alike hK, hD9⟩, hS.F ht⟩) hS.2.2 d_N_detach_184
      · exact absurd (by rw [nI_64]; exact nI_le (by omega) (by omega)) c19
    | succ n ih =>
      intro N1 j x3 H locs hj hr0 hP hD hS ls hl
      refine lv_iload hx hb d_N_detach_12 (lv_at hl 0 rfl) ?_
      refine lv_iload hx hb d_N_detach_14 (lv_at hl 1 rfl) ?_
      refine lv_bipush (v := 64) hx hb d_N_detach_16 (by decide) ?_
      refine lv_iadd hx hb d_N_detach_18 ?_
      refine lv_icmp_ge (tgt := 183) hx hb d_N_detach_19 (by decide) (fun c19 => ?_) (fun c19 => ?_)
      · exact absurd c19 (by rw [nI_64]; exact nI_ge (by omega) (by omega))
      · refine lv_iload hx hb d_N_detach_22 (lv_at hl 0 rfl) ?_
        refine lv_if_lt (tgt := 50) hx hb d_N_detach_24 (by decide) (fun c24 => ?_) (fun c24 => ?_)
        · refine lv_iload_n hx hb d_N_detach_50 rfl (lv_at hl 2 rfl) ?_
          have hP9 : va_P (dC, dI) cls0 (nW cI a ((j_detach N x1 x2).1)) _ := (show N1 = (j_detach N x1 x2).1 from by rw [hr0]; simp only [j_detachH, c19, c24, Int32.not_le.mp c19, Int32.not_le.mpr c24, if_true, if_false, not_true_eq_false, not_false_eq_true, true_and, and_true, false_and, and_false, true_or, or_true, false_or, or_false, ite_true, ite_false, eq_self]) ▸ hP
          have hD9 : va_D A (nW cI a ((j_detach N x1 x2).1)) := (show N1 = (j_detach N x1 x2).1 from by rw [hr0]; simp only [j_detachH, c19, c24, Int32.not_le.mp c19, Int32.not_le.mpr c24, if_true, if_false, not_true_eq_false, not_false_eq_true, true_and, and_true, false_and, and_false, true_or, or_true, false_or, or_false, ite_true, ite_false, eq_self]) ▸ hD
          exact W.iret (v := x3) hx hb hr (fun t ht hW => ⟨⟨x3, (), rfl, (show x3 = (j_detach N x1 x2).2 from by rw [hr0]; simp only [j_detachH, c19, c24, Int32.not_le.mp c19, Int32.not_le.mpr c24, if_true, if_false, not_true_eq_false, not_false_eq_true, true_and, and_true, false_and, and_false, true_or, or_true, false_or, or_false, ite_true, ite_false, eq_self]), by rw [ht]; exact hP9, va_K.moved hW.alike hK, hD9⟩, hS.F ht⟩) hS.2.2 d_N_detach_51
        · refine lv_iload hx hb d_N_detach_27 (lv_at hl 0 rfl) ?_
          refine lv_aload_n hx hb d_N_detach_29 rfl (lv_at hl 3 rfl) ?_
          refine va_get (D := (dC, dI)) (ci := 1) (v := .ref (a 2)) (C := R_N) (T := T_N) (N := 11) hx hb hts in_N hown hK hP 0 rfl rfl 1 (by decide) (hts _ kfl_N_25) (fun _ h9 => h9) rfl d_N_detach_30 ?_
          refine va_alen (v := nI 768) hx hb hK hP 2 0 rfl rfl rfl d_N_detach_33 ?_
          refine lv_icmp_ge (tgt := 50) hx hb d_N_detach_34 (by decide) (fun c34 => ?_) (fun c34 => ?_)
          · refine lv_iload_n hx hb d_N_detach_50 rfl (lv_at hl 2 rfl) ?_
            have hP9 : va_P (dC, dI) cls0 (nW cI a ((j_detach N x1 x2).1)) _ := (show N1 = (j_detach N x1 x2).1 from by rw [hr0]; simp only [j_detachH, c19, c24, c34, Int32.not_le.mp c19, Int32.not_lt.mp c24, Int32.not_lt.mpr c34, if_true, if_false, not_true_eq_false, not_false_eq_true, true_and, and_true, false_and, and_false, true_or, or_true, false_or, or_false, ite_true, ite_false, eq_self]) ▸ hP
            have hD9 : va_D A (nW cI a ((j_detach N x1 x2).1)) := (show N1 = (j_detach N x1 x2).1 from by rw [hr0]; simp only [j_detachH, c19, c24, c34, Int32.not_le.mp c19, Int32.not_lt.mp c24, Int32.not_lt.mpr c34, if_true, if_false, not_true_eq_false, not_false_eq_true, true_and, and_true, false_and, and_false, true_or, or_true, false_or, or_false, ite_true, ite_false, eq_self]) ▸ hD
            exact W.iret (v := x3) hx hb hr (fun t ht hW => ⟨⟨x3, (), rfl, (show x3 = (j_detach N x1 x2).2 from by rw [hr0]; simp only [j_detachH, c19, c24, c34, Int32.not_le.mp c19, Int32.not_lt.mp c24, Int32.not_lt.mpr c34, if_true, if_false, not_true_eq_false, not_false_eq_true, true_and, and_true, false_and, and_false, true_or, or_true, false_or, or_false, ite_true, ite_false, eq_self]), by rw [ht]; exact hP9, va_K.moved hW.alike hK, hD9⟩, hS.F ht⟩) hS.2.2 d_N_detach_51
          · refine lv_iload_n hx hb d_N_detach_37 rfl (lv_at hl 4 rfl) ?_
            refine lv_if_lt (tgt := 50) hx hb d_N_detach_38 (by decide) (fun c38 => ?_) (fun c38 => ?_)
            · refine lv_iload_n hx hb d_N_detach_50 rfl (lv_at hl 2 rfl) ?_
              have hP9 : va_P (dC, dI) cls0 (nW cI a ((j_detach N x1 x2).1)) _ := (show N1 = (j_detach N x1 x2).1 from by rw [hr0]; simp only [j_detachH, c19, c24, c34, c38, Int32.not_le.mp c19, Int32.not_lt.mp c24, Int32.not_le.mp c34, Int32.not_le.mpr c38, if_true, if_false, not_true_eq_false, not_false_eq_true, true_and, and_true, false_and, and_false, true_or, or_true, false_or, or_false, ite_true, ite_false, eq_self]) ▸ hP
              have hD9 : va_D A (nW cI a ((j_detach N x1 x2).1)) := (show N1 = (j_detach N x1 x2).1 from by rw [hr0]; simp only [j_detachH, c19, c24, c34, c38, Int32.not_le.mp c19, Int32.not_lt.mp c24, Int32.not_le.mp c34, Int32.not_le.mpr c38, if_true, if_false, not_true_eq_false, not_false_eq_true, true_and, and_true, false_and, and_false, true_or, or_true, false_or, or_false, ite_true, ite_false, eq_self]) ▸ hD
              exact W.iret (v := x3) hx hb hr (fun t ht hW => ⟨⟨x3, (), rfl, (show x3 = (j_detach N x1 x2).2 from by rw [hr0]; simp only [j_detachH, c19, c24, c34, c38, Int32.not_le.mp c19, Int32.not_lt.mp c24, Int32.not_le.mp c34, Int32.not_le.mpr c38, if_true, if_false, not_true_eq_false, not_false_eq_true, true_and, and_true, false_and, and_false, true_or, or_true, false_or, or_false, ite_true, ite_false, eq_self]), by rw [ht]; exact hP9, va_K.moved hW.alike hK, hD9⟩, hS.F ht⟩) hS.2.2 d_N_detach_51
            · refine lv_iload_n hx hb d_N_detach_41 rfl (lv_at hl 4 rfl) ?_
              refine lv_aload_n hx hb d_N_detach_42 rfl (lv_at hl 3 rfl) ?_
              refine va_get (D := (dC, dI)) (ci := 1) (v := .ref (a 3)) (C := R_N) (T := T_N) (N := 11) hx hb hts in_N hown hK hP 0 rfl rfl 2 (by decide) (hts _ kfl_N_28) (fun _ h9 => h9) rfl d_N_detach_43 ?_
              refine va_alen (v := nI 12) hx hb hK hP 3 0 rfl rfl rfl d_N_detach_46 ?_
              refine lv_icmp_lt (tgt := 52) hx hb d_N_detach_47 (by decide) (fun c47 => ?_) (fun c47 => ?_)
              · refine lv_iconst (v := 0) hx hb d_N_detach_52 (by decide) ?_
                refine lv_istore (lv' := [(6, .int 0), (5, .int (nI (u * 64 + j))), (4, .int (nI (u * 64))), (3, .int x3), (0, .ref (a 0)), (1, .int x1), (2, .int x2)]) hx hb d_N_detach_53 hl (by decide) rfl (fun ls hl => ?_)
                refine lv_aload_n hx hb d_N_detach_55 rfl (lv_at hl 4 rfl) ?_
                refine va_get (D := (dC, dI)) (ci := 1) (v := .ref (a 2)) (C := R_N) (T := T_N) (N := 11) hx hb hts in_N hown hK hP 0 rfl rfl 1 (by decide) (hts _ kfl_N_25) (fun _ h9 => h9) rfl d_N_detach_56 ?_
                refine lv_iload hx hb d_N_detach_59 (lv_at hl 1 rfl) ?_
                refine va_iald hx hb hK hP 2 0 rfl rfl (lt_of_in c24 c34 (by decide)) d_N_detach_61 ?_
                refine lv_istore (lv' := [(7, .int (N1 2 (nI (u * 64 + j)).toNatClampNeg)), (6, .int 0), (5, .int (nI (u * 64 + j))), (4, .int (nI (u * 64))), (3, .int x3), (0, .ref (a 0)), (1, .int x1), (2, .int x2)]) hx hb d_N_detach_62 hl (by decide) rfl (fun ls hl => ?_)
                refine lv_iconst (v := 0) hx hb d_N_detach_64 (by decide) ?_
                refine lv_istore (lv' := [(8, .int 0), (7, .int (N1 2 (nI (u * 64 + j)).toNatClampNeg)), (6, .int 0), (5, .int (nI (u * 64 + j))), (4, .int (nI (u * 64))), (3, .int x3), (0, .ref (a 0)), (1, .int x1), (2, .int x2)]) hx hb d_N_detach_65 hl (by decide) rfl (fun ls hl => ?_)
                have loop2 : ∀ (n2 : Nat) (N2 : Mm) (i : Nat) (x3 x6 x7 : Int32) (H : Heap) (locs : List Loc), i + n2 = 24800 → j_detach N x1 x2 = j_detachH x2 x1 n (up (j_detachC x2 x1.toNatClampNeg n2 N2 x3 x6 x7).1 2 (nI (u * 64 + j)).toNatClampNeg (j_detachC x2 x1.toNatClampNeg n2 N2 x3 x6 x7).2.2) (j_detachC x2 x1.toNatClampNeg n2 N2 x3 x6 x7).2.1 (nI (u * 64 + j) + 1) → va_P (dC, dI) cls0 (nW cI a N2) H → va_D A (nW cI a N2) → va_S A s.heap H locs → ∀ (ls : Array Slot), lv_has ls 10 [(8, .int (nI i)), (7, .int x7), (6, .int x6), (5, .int (nI (u * 64 + j))), (4, .int (nI (u * 64))), (3, .int x3), (0, .ref (a 0)), (1, .int x1), (2, .int x2)] → W p l e (headSpec (.code y_N_detach b_N_detach 10 (some .int) :: W0) ({ frames := 1, cells := 0, slots := 0, locals := 24 } : Room)).room s m ([.ref (a 0), .int x1, .int x2] : List Value).toArray below meth c H locs 0 0 (MQ below (va_Qi (fun (z : Int32) (_ : Unit) => z = (j_detach N x1 x2).2) (fun _ t => nE dC dI cI a ((j_detach N x1 x2).1) A t) A) ([.ref (a 0), .int x1, .int x2] : List Value).toArray s 0 0 A) (F0 m 67 ls []) := by
                  intro n2
                  induction n2 with
                  | zero =>
                    intro N2 i x3 x6 x7 H locs hi hr0 hP hD hS ls hl
                    refine lv_iload hx hb d_N_detach_67 (lv_at hl 0 rfl) ?_
                    refine lv_sipush (v := 24800) hx hb d_N_detach_69 (by decide) ?_
                    refine lv_icmp_ge (tgt := 168) hx hb d_N_detach_72 (by decide) (fun c72 => ?_) (fun c72 => ?_)
                    · refine lv_aload_n hx hb d_N_detach_168 rfl (lv_at hl 6 rfl) ?_
                      refine va_get (D := (dC, dI)) (ci := 1) (v := .ref (a 2)) (C := R_N) (T := T_N) (N := 11) hx hb hts in_N hown hK hP 0 rfl rfl 1 (by decide) (hts _ kfl_N_25) (fun _ h9 => h9) rfl d_N_detach_169 ?_
                      refine lv_iload hx hb d_N_detach_172 (lv_at hl 3 rfl) ?_
                      refine lv_iload hx hb d_N_detach_174 (lv_at hl 2 rfl) ?_
                      refine nAst2 hx hb hK hP hD hS (lt_of_in c24 c34 (by decide)) d_N_detach_176 (fun H locs hP hD hS => ?_)
                      refine lv_iinc (v := ((nI (u * 64 + j)) + 1)) (lv' := [(5, .int ((nI (u * 64 + j)) + 1)), (8, .int (nI i)), (7, .int x7), (6, .int x6), (4, .int (nI (u * 64))), (3, .int x3), (0, .ref (a 0)), (1, .int x1), (2, .int x2)]) hx hb d_N_detach_177 hl (k := 3) rfl rfl (by decide) rfl (fun ls hl => ?_)
                      refine lv_goto (tgt := 12) hx hb d_N_detach_180 (by decide) ?_
                      rw [nI_1, Nat.add_assoc] at hl
                      exact ih _ (j + 1) _ H locs (by omega) (by rw [hr0, nI_1, Nat.add_assoc]; simp only [j_detachC, c72, Int32.not_lt.mpr c72, if_true, if_false, not_true_eq_false, not_false_eq_true, true_and, and_true, false_and, and_false, true_or, or_true, false_or, or_false, ite_true, ite_false, eq_self]) hP hD hS ls (lv_sub hl [0, 4, 5, 6, 7, 8] rfl)
                    · exact absurd (nI_le (a := 24800) (b := i) (by omega) (by omega)) c72
                  | succ n2 ih2 =>
                    intro N2 i x3 x6 x7 H locs hi hr0 hP hD hS ls hl
                    refine lv_iload hx hb d_N_detach_67 (lv_at hl 0 rfl) ?_
                    refine lv_sipush (v := 24800) hx hb d_N_detach_69 (by decide) ?_
                    refine lv_icmp_ge (tgt := 168) hx hb d_N_detach_72 (by decide) (fun c72 => ?_) (fun c72 => ?_)
                    · exact absurd c72 (nI_ge (a := i) (b := 24800) (by omega) (by omega))
                    · refine lv_iload hx hb d_N_detach_75 (lv_at hl 1 rfl) ?_
                      refine lv_if_eq (tgt := 168) hx hb d_N_detach_77 (by decide) (fun c77 => ?_) (fun c77 => ?_)
                      · refine lv_aload_n hx hb d_N_detach_168 rfl (lv_at hl 6 rfl) ?_
                        refine va_get (D := (dC, dI)) (ci := 1) (v := .ref (a 2)) (C := R_N) (T := T_N) (N := 11) hx hb hts in_N hown hK hP 0 rfl rfl 1 (by decide) (hts _ kfl_N_25) (fun _ h9 => h9) rfl d_N_detach_169 ?_
                        refine lv_iload hx hb d_N_detach_172 (lv_at hl 3 rfl) ?_
                        refine lv_iload hx hb d_N_detach_174 (lv_at hl 2 rfl) ?_
                        refine nAst2 hx hb hK hP hD hS (lt_of_in c24 c34 (by decide)) d_N_detach_176 (fun H locs hP hD hS => ?_)
                        refine lv_iinc (v := ((nI (u * 64 + j)) + 1)) (lv' := [(5, .int ((nI (u * 64 + j)) + 1)), (8, .int (nI i)), (7, .int x7), (6, .int x6), (4, .int (nI (u * 64))), (3, .int x3), (0, .ref (a 0)), (1, .int x1), (2, .int x2)]) hx hb d_N_detach_177 hl (k := 3) rfl rfl (by decide) rfl (fun ls hl => ?_)
                        refine lv_goto (tgt := 12) hx hb d_N_detach_180 (by decide) ?_
                        rw [nI_1, Nat.add_assoc] at hl
                        exact ih _ (j + 1) _ H locs (by omega) (by rw [hr0, nI_1, Nat.add_assoc]; (first | (simp only [j_detachC, c72, if_pos c77, Int32.not_le.mp c72, if_true, if_false, not_true_eq_false, not_false_eq_true, true_and, and_true, false_and, and_false, true_or, or_true, false_or, or_false, ite_true, ite_false, eq_self]; done) | (simp only [j_detachC, c72, c77, Int32.not_le.mp c72, if_true, if_false, not_true_eq_false, not_false_eq_true, true_and, and_true, false_and, and_false, true_or, or_true, false_or, or_false, ite_true, ite_false, eq_self]; done) | (simp only [j_detachC, c72, Int32.not_le.mp c72, if_true, if_false, not_true_eq_false, not_false_eq_true, true_and, and_true, false_and, and_false, true_or, or_true, false_or, or_false, ite_true, ite_false, eq_self]; rw [if_pos c77]; done))) hP hD hS ls (lv_sub hl [0, 4, 5, 6, 7, 8] rfl)
                      · refine lv_aload_n hx hb d_N_detach_80 rfl (lv_at hl 6 rfl) ?_
                        refine lv_iload hx hb d_N_detach_81 (lv_at hl 1 rfl) ?_
                        refine lv_iconst (v := 3) hx hb d_N_detach_83 (by decide) ?_
                        refine nCallR (As := [.int x7, .int 3]) (rest := []) ⟨hx, hb, hml, hown, hts⟩ (c_N_get l dC dI cI a N2 x7 3) (cwV 2 hts (gV kml_N_46 kim_N_get ksl_N_get kin_N kcd_N_get) rfl rfl rfl (by decide +kernel) ⟨Nat.le_of_ble_eq_true rfl, Nat.le_of_ble_eq_true rfl⟩) hP hK rfl hl.1 rfl (Nat.le_of_ble_eq_true rfl) d_N_detach_84 ⟨Nat.zero_le _, Nat.zero_le _⟩ ?_
                        refine lv_istore (lv' := [(9, .int (j_get N2 x7 3)), (8, .int (nI i)), (7, .int x7), (6, .int x6), (5, .int (nI (u * 64 + j))), (4, .int (nI (u * 64))), (3, .int x3), (0, .ref (a 0)), (1, .int x1), (2, .int x2)]) hx hb d_N_detach_87 hl (by decide) rfl (fun ls hl => ?_)
                        refine lv_aload_n hx hb d_N_detach_89 rfl (lv_at hl 7 rfl) ?_
                        refine lv_aload_n hx hb d_N_detach_90 rfl (lv_at hl 7 rfl) ?_
                        refine lv_iload hx hb d_N_detach_91 (lv_at hl 2 rfl) ?_
                        refine lv_iconst (v := 1) hx hb d_N_detach_93 (by decide) ?_
                        refine nCallR (As := [.int x7, .int 1]) (rest := [.ref (a 0)]) ⟨hx, hb, hml, hown, hts⟩ (c_N_get l dC dI cI a N2 x7 1) (cwV 2 hts (gV kml_N_46 kim_N_get ksl_N_get kin_N kcd_N_get) rfl rfl rfl (by decide +kernel) ⟨Nat.le_of_ble_eq_true rfl, Nat.le_of_ble_eq_true rfl⟩) hP hK rfl hl.1 rfl (Nat.le_of_ble_eq_true rfl) d_N_detach_94 ⟨Nat.zero_le _, Nat.zero_le _⟩ ?_
                        refine lv_iconst (v := 0) hx hb d_N_detach_97 (by decide) ?_
                        refine nCallR (As := [.int (j_get N2 x7 1), .int 0]) (rest := []) ⟨hx, hb, hml, hown, hts⟩ (c_N_get l dC dI cI a N2 (j_get N2 x7 1) 0) (cwV 2 hts (gV kml_N_46 kim_N_get ksl_N_get kin_N kcd_N_get) rfl rfl rfl (by decide +kernel) ⟨Nat.le_of_ble_eq_true rfl, Nat.le_of_ble_eq_true rfl⟩) hP hK rfl hl.1 rfl (Nat.le_of_ble_eq_true rfl) d_N_detach_98 ⟨Nat.zero_le _, Nat.zero_le _⟩ ?_
                        refine lv_iload_n hx hb d_N_detach_101 rfl (lv_at hl 9 rfl) ?_
                        refine lv_icmp_eq (tgt := 121) hx hb d_N_detach_102 (by decide) (fun c102 => ?_) (fun c102 => ?_)
                        · refine lv_aload_n hx hb d_N_detach_121 rfl (lv_at hl 7 rfl) ?_
                          refine lv_iload hx hb d_N_detach_122 (lv_at hl 2 rfl) ?_
                          refine lv_iconst (v := 3) hx hb d_N_detach_124 (by decide) ?_
                          refine lv_iload_n hx hb d_N_detach_125 rfl (lv_at hl 6 rfl) ?_
                          refine nCallv (As := [.int x7, .int 3, .int x3]) (rest := []) ⟨hx, hb, hml, hown, hts⟩ (c_N_set l dC dI cI a N2 _ x7 3 x3) (cwV 3 hts (gV kml_N_65 kim_N_set ksl_N_set kin_N kcd_N_set) rfl rfl rfl (by decide +kernel) ⟨Nat.le_of_ble_eq_true rfl, Nat.le_of_ble_eq_true rfl⟩) hP hK hD hS hA rfl hl.1 rfl (Nat.le_of_ble_eq_true rfl) d_N_detach_126 ⟨Nat.zero_le _, Nat.zero_le _⟩ (fun H locs hP hD hS => ?_)
                          refine lv_iload hx hb d_N_detach_129 (lv_at hl 2 rfl) ?_
                          refine lv_istore_n (lv' := [(3, .int x7), (9, .int (j_get N2 x7 3)), (8, .int (nI i)), (7, .int x7), (6, .int x6), (5, .int (nI (u * 64 + j))), (4, .int (nI (u * 64))), (0, .ref (a 0)), (1, .int x1), (2, .int x2)]) hx hb d_N_detach_131 rfl hl (by decide) rfl (fun ls hl => ?_)
                          refine lv_aload_n hx hb d_N_detach_132 rfl (lv_at hl 7 rfl) ?_
                          refine va_get (D := (dC, dI)) (ci := 1) (v := .ref (a 3)) (C := R_N) (T := T_N) (N := 11) hx hb hts in_N hown hK hP 0 rfl rfl 2 (by decide) (hts _ kfl_N_28) (fun _ h9 => h9) rfl d_N_detach_133 ?_
                          refine lv_iload_n hx hb d_N_detach_136 rfl (lv_at hl 8 rfl) ?_
                          refine lv_dup2_11 hx hb d_N_detach_137 rfl rfl ?_
                          refine va_iald hx hb hK hP 3 0 rfl rfl (lt_of_in c38 (Int32.not_le.mpr c47) (by decide)) d_N_detach_138 ?_
                          refine lv_iconst (v := 1) hx hb d_N_detach_139 (by decide) ?_
                          refine lv_isub hx hb d_N_detach_140 ?_
                          refine nAst3 hx hb hK hP hD hS (lt_of_in c38 (Int32.not_le.mpr c47) (by decide)) d_N_detach_141 (fun H locs hP hD hS => ?_)
                          refine lv_goto (tgt := 158) hx hb d_N_detach_142 (by decide) ?_
                          refine lv_iload hx hb d_N_detach_158 (lv_at hl 1 rfl) ?_
                          refine lv_istore (lv' := [(7, .int (j_get N2 x7 3)), (3, .int x7), (9, .int (j_get N2 x7 3)), (8, .int (nI i)), (6, .int x6), (5, .int (nI (u * 64 + j))), (4, .int (nI (u * 64))), (0, .ref (a 0)), (1, .int x1), (2, .int x2)]) hx hb d_N_detach_160 hl (by decide) rfl (fun ls hl => ?_)
                          refine lv_iinc (v := ((nI i) + 1)) (lv' := [(8, .int ((nI i) + 1)), (7, .int (j_get N2 x7 3)), (3, .int x7), (9, .int (j_get N2 x7 3)), (6, .int x6), (5, .int (nI (u * 64 + j))), (4, .int (nI (u * 64))), (0, .ref (a 0)), (1, .int x1), (2, .int x2)]) hx hb d_N_detach_162 hl (k := 3) rfl rfl (by decide) rfl (fun ls hl => ?_)
                          refine lv_goto (tgt := 67) hx hb d_N_detach_165 (by decide) ?_
                          rw [nI_1] at hl
                          exact ih2 _ (i + 1) _ _ _ H locs (by omega) (by rw [hr0]; (first | (simp only [j_detachC, c72, c77, if_pos c102, Int32.not_le.mp c72, if_true, if_false, not_true_eq_false, not_false_eq_true, true_and, and_true, false_and, and_false, true_or, or_true, false_or, or_false, ite_true, ite_false, eq_self]; done) | (simp only [j_detachC, c72, c77, c102, Int32.not_le.mp c72, if_true, if_false, not_true_eq_false, not_false_eq_true, true_and, and_true, false_and, and_false, true_or, or_true, false_or, or_false, ite_true, ite_false, eq_self]; done) | (simp only [j_detachC, c72, c77, Int32.not_le.mp c72, if_true, if_false, not_true_eq_false, not_false_eq_true, true_and, and_true, false_and, and_false, true_or, or_true, false_or, or_false, ite_true, ite_false, eq_self]; rw [if_pos c102]; done) | (simp only [j_detachC, c72, c77, if_pos c102, Int32.not_le.mp c72, if_true, if_false, not_true_eq_false, not_false_eq_true, true_and, and_true, false_and, and_false, true_or, or_true, false_or, or_false, ite_true, ite_false, eq_self]; simp only [uq_0_1, uq_0_2, uq_0_3, uq_0_4, uq_0_5, uq_1_0, uq_1_2, uq_1_3, uq_1_4, uq_1_5, uq_2_0, uq_2_1, uq_2_3, uq_2_4, uq_2_5, uq_3_0, uq_3_1, uq_3_2, uq_3_4, uq_3_5, uq_4_0, uq_4_1, uq_4_2, uq_4_3, uq_4_5, uq_5_0, uq_5_1, uq_5_2, uq_5_3, uq_5_4, uf_0_0, uf_0_1, uf_0_2, uf_0_3, uf_0_4, uf_0_5, uf_1_0, uf_1_1, uf_1_2, uf_1_3, uf_1_4, uf_1_5, uf_2_0, uf_2_1, uf_2_2, uf_2_3, uf_2_4, uf_2_5, uf_3_0, uf_3_1, uf_3_2, uf_3_3, uf_3_4, uf_3_5, uf_4_0, uf_4_1, uf_4_2, uf_4_3, uf_4_4, uf_4_5, uf_5_0, uf_5_1, uf_5_2, uf_5_3, uf_5_4, uf_5_5, js_0, js_2, js_3, js_4, js_5]; done) | (simp only [j_detachC, uq_0_1, uq_0_2, uq_0_3, uq_0_4, uq_0_5, uq_1_0, uq_1_2, uq_1_3, uq_1_4, uq_1_5, uq_2_0, uq_2_1, uq_2_3, uq_2_4, uq_2_5, uq_3_0, uq_3_1, uq_3_2, uq_3_4, uq_3_5, uq_4_0, uq_4_1, uq_4_2, uq_4_3, uq_4_5, uq_5_0, uq_5_1, uq_5_2, uq_5_3, uq_5_4, uf_0_0, uf_0_1, uf_0_2, uf_0_3, uf_0_4, uf_0_5, uf_1_0, uf_1_1, uf_1_2, uf_1_3, uf_1_4, uf_1_5, uf_2_0, uf_2_1, uf_2_2, uf_2_3, uf_2_4, uf_2_5, uf_3_0, uf_3_1, uf_3_2, uf_3_3, uf_3_4, uf_3_5, uf_4_0, uf_4_1, uf_4_2, uf_4_3, uf_4_4, uf_4_5, uf_5_0, uf_5_1, uf_5_2, uf_5_3, uf_5_4, uf_5_5, js_0, js_2, js_3, js_4, js_5, c72, c77, if_pos c102, Int32.not_le.mp c72, if_true, if_false, not_true_eq_false, not_false_eq_true, true_and, and_true, false_and, and_false, true_or, or_true, false_or, or_false, ite_true, ite_false, eq_self]; done) | (simp only [j_detachC, uq_0_1, uq_0_2, uq_0_3, uq_0_4, uq_0_5, uq_1_0, uq_1_2, uq_1_3, uq_1_4, uq_1_5, uq_2_0, uq_2_1, uq_2_3, uq_2_4, uq_2_5, uq_3_0, uq_3_1, uq_3_2, uq_3_4, uq_3_5, uq_4_0, uq_4_1, uq_4_2, uq_4_3, uq_4_5, uq_5_0, uq_5_1, uq_5_2, uq_5_3, uq_5_4, uf_0_0, uf_0_1, uf_0_2, uf_0_3, uf_0_4, uf_0_5, uf_1_0, uf_1_1, uf_1_2, uf_1_3, uf_1_4, uf_1_5, uf_2_0, uf_2_1, uf_2_2, uf_2_3, uf_2_4, uf_2_5, uf_3_0, uf_3_1, uf_3_2, uf_3_3, uf_3_4, uf_3_5, uf_4_0, uf_4_1, uf_4_2, uf_4_3, uf_4_4, uf_4_5, uf_5_0, uf_5_1, uf_5_2, uf_5_3, uf_5_4, uf_5_5, js_0, js_2, js_3, js_4, js_5, c72, c77, c102, Int32.not_le.mp c72, if_true, if_false, not_true_eq_false, not_false_eq_true, true_and, and_true, false_and, and_false, true_or, or_true, false_or, or_false, ite_true, ite_false, eq_self]; done) | (simp only [j_detachC, c72, c77, c102, Int32.not_le.mp c72, if_true, if_false, not_true_eq_false, not_false_eq_true, true_and, and_true, false_and, and_false, true_or, or_true, false_or, or_false, ite_true, ite_false, eq_self]; simp only [uq_0_1, uq_0_2, uq_0_3, uq_0_4, uq_0_5, uq_1_0, uq_1_2, uq_1_3, uq_1_4, uq_1_5, uq_2_0, uq_2_1, uq_2_3, uq_2_4, uq_2_5, uq_3_0, uq_3_1, uq_3_2, uq_3_4, uq_3_5, uq_4_0, uq_4_1, uq_4_2, uq_4_3, uq_4_5, uq_5_0, uq_5_1, uq_5_2, uq_5_3, uq_5_4, uf_0_0, uf_0_1, uf_0_2, uf_0_3, uf_0_4, uf_0_5, uf_1_0, uf_1_1, uf_1_2, uf_1_3, uf_1_4, uf_1_5, uf_2_0, uf_2_1, uf_2_2, uf_2_3, uf_2_4, uf_2_5, uf_3_0, uf_3_1, uf_3_2, uf_3_3, uf_3_4, uf_3_5, uf_4_0, uf_4_1, uf_4_2, uf_4_3, uf_4_4, uf_4_5, uf_5_0, uf_5_1, uf_5_2, uf_5_3, uf_5_4, uf_5_5, js_0, js_2, js_3, js_4, js_5]; done))) hP hD hS ls (lv_sub hl [0, 1, 4, 5, 6, 2, 7, 8, 9] rfl)
                        · refine lv_aload_n hx hb d_N_detach_105 rfl (lv_at hl 7 rfl) ?_
                          refine lv_aload_n hx hb d_N_detach_106 rfl (lv_at hl 7 rfl) ?_
                          refine lv_iload hx hb d_N_detach_107 (lv_at hl 2 rfl) ?_
                          refine lv_iconst (v := 2) hx hb d_N_detach_109 (by decide) ?_
                          refine nCallR (As := [.int x7, .int 2]) (rest := [.ref (a 0)]) ⟨hx, hb, hml, hown, hts⟩ (c_N_get l dC dI cI a N2 x7 2) (cwV 2 hts (gV kml_N_46 kim_N_get ksl_N_get kin_N kcd_N_get) rfl rfl rfl (by decide +kernel) ⟨Nat.le_of_ble_eq_true rfl, Nat.le_of_ble_eq_true rfl⟩) hP hK rfl hl.1 rfl (Nat.le_of_ble_eq_true rfl) d_N_detach_110 ⟨Nat.zero_le _, Nat.zero_le _⟩ ?_
                          refine lv_iconst (v := 0) hx hb d_N_detach_113 (by decide) ?_
                          refine nCallR (As := [.int (j_get N2 x7 2), .int 0]) (rest := []) ⟨hx, hb, hml, hown, hts⟩ (c_N_get l dC dI cI a N2 (j_get N2 x7 2) 0) (cwV 2 hts (gV kml_N_46 kim_N_get ksl_N_get kin_N kcd_N_get) rfl rfl rfl (by decide +kernel) ⟨Nat.le_of_ble_eq_true rfl, Nat.le_of_ble_eq_true rfl⟩) hP hK rfl hl.1 rfl (Nat.le_of_ble_eq_true rfl) d_N_detach_114 ⟨Nat.zero_le _, Nat.zero_le _⟩ ?_
                          refine lv_iload_n hx hb d_N_detach_117 rfl (lv_at hl 9 rfl) ?_
                          refine lv_icmp_ne (tgt := 145) hx hb d_N_detach_118 (by decide) (fun c118 => ?_) (fun c118 => ?_)
                          · refine lv_aload_n hx hb d_N_detach_145 rfl (lv_at hl 7 rfl) ?_
                            refine lv_iload hx hb d_N_detach_146 (lv_at hl 2 rfl) ?_
                            refine lv_iconst (v := 3) hx hb d_N_detach_148 (by decide) ?_
                            refine lv_iload hx hb d_N_detach_149 (lv_at hl 3 rfl) ?_
                            refine nCallv (As := [.int x7, .int 3, .int x6]) (rest := []) ⟨hx, hb, hml, hown, hts⟩ (c_N_set l dC dI cI a N2 _ x7 3 x6) (cwV 3 hts (gV kml_N_65 kim_N_set ksl_N_set kin_N kcd_N_set) rfl rfl rfl (by decide +kernel) ⟨Nat.le_of_ble_eq_true rfl, Nat.le_of_ble_eq_true rfl⟩) hP hK hD hS hA rfl hl.1 rfl (Nat.le_of_ble_eq_true rfl) d_N_detach_151 ⟨Nat.zero_le _, Nat.zero_le _⟩ (fun H locs hP hD hS => ?_)
                            refine lv_iload hx hb d_N_detach_154 (lv_at hl 2 rfl) ?_
                            refine lv_istore (lv' := [(6, .int x7), (9, .int (j_get N2 x7 3)), (8, .int (nI i)), (7, .int x7), (5, .int (nI (u * 64 + j))), (4, .int (nI (u * 64))), (3, .int x3), (0, .ref (a 0)), (1, .int x1), (2, .int x2)]) hx hb d_N_detach_156 hl (by decide) rfl (fun ls hl => ?_)
                            refine lv_iload hx hb d_N_detach_158 (lv_at hl 1 rfl) ?_
                            refine lv_istore (lv' := [(7, .int (j_get N2 x7 3)), (6, .int x7), (9, .int (j_get N2 x7 3)), (8, .int (nI i)), (5, .int (nI (u * 64 + j))), (4, .int (nI (u * 64))), (3, .int x3), (0, .ref (a 0)), (1, .int x1), (2, .int x2)]) hx hb d_N_detach_160 hl (by decide) rfl (fun ls hl => ?_)
                            refine lv_iinc (v := ((nI i) + 1)) (lv' := [(8, .int ((nI i) + 1)), (7, .int (j_get N2 x7 3)), (6, .int x7), (9, .int (j_get N2 x7 3)), (5, .int (nI (u * 64 + j))), (4, .int (nI (u * 64))), (3, .int x3), (0, .ref (a 0)), (1, .int x1), (2, .int x2)]) hx hb d_N_detach_162 hl (k := 3) rfl rfl (by decide) rfl (fun ls hl => ?_)
                            refine lv_goto (tgt := 67) hx hb d_N_detach_165 (by decide) ?_
                            rw [nI_1] at hl
                            exact ih2 _ (i + 1) _ _ _ H locs (by omega) (by rw [hr0]; (first | (simp only [j_detachC, c72, c77, c102, c118, Int32.not_le.mp c72, if_true, if_false, not_true_eq_false, not_false_eq_true, true_and, and_true, false_and, and_false, true_or, or_true, false_or, or_false, ite_true, ite_false, eq_self]; done) | (simp only [j_detachC, c72, c77, c102, c118, Int32.not_le.mp c72, if_true, if_false, not_true_eq_false, not_false_eq_true, true_and, and_true, false_and, and_false, true_or, or_true, false_or, or_false, ite_true, ite_false, eq_self]; simp only [uq_0_1, uq_0_2, uq_0_3, uq_0_4, uq_0_5, uq_1_0, uq_1_2, uq_1_3, uq_1_4, uq_1_5, uq_2_0, uq_2_1, uq_2_3, uq_2_4, uq_2_5, uq_3_0, uq_3_1, uq_3_2, uq_3_4, uq_3_5, uq_4_0, uq_4_1, uq_4_2, uq_4_3, uq_4_5, uq_5_0, uq_5_1, uq_5_2, uq_5_3, uq_5_4, uf_0_0, uf_0_1, uf_0_2, uf_0_3, uf_0_4, uf_0_5, uf_1_0, uf_1_1, uf_1_2, uf_1_3, uf_1_4, uf_1_5, uf_2_0, uf_2_1, uf_2_2, uf_2_3, uf_2_4, uf_2_5, uf_3_0, uf_3_1, uf_3_2, uf_3_3, uf_3_4, uf_3_5, uf_4_0, uf_4_1, uf_4_2, uf_4_3, uf_4_4, uf_4_5, uf_5_0, uf_5_1, uf_5_2, uf_5_3, uf_5_4, uf_5_5, js_0, js_2, js_3, js_4, js_5]; done) | (simp only [j_detachC, uq_0_1, uq_0_2, uq_0_3, uq_0_4, uq_0_5, uq_1_0, uq_1_2, uq_1_3, uq_1_4, uq_1_5, uq_2_0, uq_2_1, uq_2_3, uq_2_4, uq_2_5, uq_3_0, uq_3_1, uq_3_2, uq_3_4, uq_3_5, uq_4_0, uq_4_1, uq_4_2, uq_4_3, uq_4_5, uq_5_0, uq_5_1, uq_5_2, uq_5_3, uq_5_4, uf_0_0, uf_0_1, uf_0_2, uf_0_3, uf_0_4, uf_0_5, uf_1_0, uf_1_1, uf_1_2, uf_1_3, uf_1_4, uf_1_5, uf_2_0, uf_2_1, uf_2_2, uf_2_3, uf_2_4, uf_2_5, uf_3_0, uf_3_1, uf_3_2, uf_3_3, uf_3_4, uf_3_5, uf_4_0, uf_4_1, uf_4_2, uf_4_3, uf_4_4, uf_4_5, uf_5_0, uf_5_1, uf_5_2, uf_5_3, uf_5_4, uf_5_5, js_0, js_2, js_3, js_4, js_5, c72, c77, c102, c118, Int32.not_le.mp c72, if_true, if_false, not_true_eq_false, not_false_eq_true, true_and, and_true, false_and, and_false, true_or, or_true, false_or, or_false, ite_true, ite_false, eq_self]; done))) hP hD hS ls (lv_sub hl [0, 1, 2, 4, 5, 6, 7, 8, 9] rfl)
                          · refine lv_aload_n hx hb d_N_detach_121 rfl (lv_at hl 7 rfl) ?_
                            refine lv_iload hx hb d_N_detach_122 (lv_at hl 2 rfl) ?_
                            refine lv_iconst (v := 3) hx hb d_N_detach_124 (by decide) ?_
                            refine lv_iload_n hx hb d_N_detach_125 rfl (lv_at hl 6 rfl) ?_
                            refine nCallv (As := [.int x7, .int 3, .int x3]) (rest := []) ⟨hx, hb, hml, hown, hts⟩ (c_N_set l dC dI cI a N2 _ x7 3 x3) (cwV 3 hts (gV kml_N_65 kim_N_set ksl_N_set kin_N kcd_N_set) rfl rfl rfl (by decide +kernel) ⟨Nat.le_of_ble_eq_true rfl, Nat.le_of_ble_eq_true rfl⟩) hP hK hD hS hA rfl hl.1 rfl (Nat.le_of_ble_eq_true rfl) d_N_detach_126 ⟨Nat.zero_le _, Nat.zero_le _⟩ (fun H locs hP hD hS => ?_)
                            refine lv_iload hx hb d_N_detach_129 (lv_at hl 2 rfl) ?_
                            refine lv_istore_n (lv' := [(3, .int x7), (9, .int (j_get N2 x7 3)), (8, .int (nI i)), (7, .int x7), (6, .int x6), (5, .int (nI (u * 64 + j))), (4, .int (nI (u * 64))), (0, .ref (a 0)), (1, .int x1), (2, .int x2)]) hx hb d_N_detach_131 rfl hl (by decide) rfl (fun ls hl => ?_)
                            refine lv_aload_n hx hb d_N_detach_132 rfl (lv_at hl 7 rfl) ?_
                            refine va_get (D := (dC, dI)) (ci := 1) (v := .ref (a 3)) (C := R_N) (T := T_N) (N := 11) hx hb hts in_N hown hK hP 0 rfl rfl 2 (by decide) (hts _ kfl_N_28) (fun _ h9 => h9) rfl d_N_detach_133 ?_
                            refine lv_iload_n hx hb d_N_detach_136 rfl (lv_at hl 8 rfl) ?_
                            refine lv_dup2_11 hx hb d_N_detach_137 rfl rfl ?_
                            refine va_iald hx hb hK hP 3 0 rfl rfl (lt_of_in c38 (Int32.not_le.mpr c47) (by decide)) d_N_detach_138 ?_
                            refine lv_iconst (v := 1) hx hb d_N_detach_139 (by decide) ?_
                            refine lv_isub hx hb d_N_detach_140 ?_
                            refine nAst3 hx hb hK hP hD hS (lt_of_in c38 (Int32.not_le.mpr c47) (by decide)) d_N_detach_141 (fun H locs hP hD hS => ?_)
                            refine lv_goto (tgt := 158) hx hb d_N_detach_142 (by decide) ?_
                            refine lv_iload hx hb d_N_detach_158 (lv_at hl 1 rfl) ?_
                            refine lv_istore (lv' := [(7, .int (j_get N2 x7 3)), (3, .int x7), (9, .int (j_get N2 x7 3)), (8, .int (nI i)), (6, .int x6), (5, .int (nI (u * 64 + j))), (4, .int (nI (u * 64))), (0, .ref (a 0)), (1, .int x1), (2, .int x2)]) hx hb d_N_detach_160 hl (by decide) rfl (fun ls hl => ?_)
                            refine lv_iinc (v := ((nI i) + 1)) (lv' := [(8, .int ((nI i) + 1)), (7, .int (j_get N2 x7 3)), (3, .int x7), (9, .int (j_get N2 x7 3)), (6, .int x6), (5, .int (nI (u * 64 + j))), (4, .int (nI (u * 64))), (0, .ref (a 0)), (1, .int x1), (2, .int x2)]) hx hb d_N_detach_162 hl (k := 3) rfl rfl (by decide) rfl (fun ls hl => ?_)
                            refine lv_goto (tgt := 67) hx hb d_N_detach_165 (by decide) ?_
                            rw [nI_1] at hl
                            exact ih2 _ (i + 1) _ _ _ H locs (by omega) (by rw [hr0]; (first | (simp only [j_detachC, c72, c77, c102, if_pos c118, Int32.not_le.mp c72, if_true, if_false, not_true_eq_false, not_false_eq_true, true_and, and_true, false_and, and_false, true_or, or_true, false_or, or_false, ite_true, ite_false, eq_self]; done) | (simp only [j_detachC, c72, c77, c102, c118, Int32.not_le.mp c72, if_true, if_false, not_true_eq_false, not_false_eq_true, true_and, and_true, false_and, and_false, true_or, or_true, false_or, or_false, ite_true, ite_false, eq_self]; done) | (simp only [j_detachC, c72, c77, c102, Int32.not_le.mp c72, if_true, if_false, not_true_eq_false, not_false_eq_true, true_and, and_true, false_and, and_false, true_or, or_true, false_or, or_false, ite_true, ite_false, eq_self]; rw [if_pos c118]; done) | (simp only [j_detachC, c72, c77, c102, if_pos c118, Int32.not_le.mp c72, if_true, if_false, not_true_eq_false, not_false_eq_true, true_and, and_true, false_and, and_false, true_or, or_true, false_or, or_false, ite_true, ite_false, eq_self]; simp only [uq_0_1, uq_0_2, uq_0_3, uq_0_4, uq_0_5, uq_1_0, uq_1_2, uq_1_3, uq_1_4, uq_1_5, uq_2_0, uq_2_1, uq_2_3, uq_2_4, uq_2_5, uq_3_0, uq_3_1, uq_3_2, uq_3_4, uq_3_5, uq_4_0, uq_4_1, uq_4_2, uq_4_3, uq_4_5, uq_5_0, uq_5_1, uq_5_2, uq_5_3, uq_5_4, uf_0_0, uf_0_1, uf_0_2, uf_0_3, uf_0_4, uf_0_5, uf_1_0, uf_1_1, uf_1_2, uf_1_3, uf_1_4, uf_1_5, uf_2_0, uf_2_1, uf_2_2, uf_2_3, uf_2_4, uf_2_5, uf_3_0, uf_3_1, uf_3_2, uf_3_3, uf_3_4, uf_3_5, uf_4_0, uf_4_1, uf_4_2, uf_4_3, uf_4_4, uf_4_5, uf_5_0, uf_5_1, uf_5_2, uf_5_3, uf_5_4, uf_5_5, js_0, js_2, js_3, js_4, js_5]; done) | (simp only [j_detachC, uq_0_1, uq_0_2, uq_0_3, uq_0_4, uq_0_5, uq_1_0, uq_1_2, uq_1_3, uq_1_4, uq_1_5, uq_2_0, uq_2_1, uq_2_3, uq_2_4, uq_2_5, uq_3_0, uq_3_1, uq_3_2, uq_3_4, uq_3_5, uq_4_0, uq_4_1, uq_4_2, uq_4_3, uq_4_5, uq_5_0, uq_5_1, uq_5_2, uq_5_3, uq_5_4, uf_0_0, uf_0_1, uf_0_2, uf_0_3, uf_0_4, uf_0_5, uf_1_0, uf_1_1, uf_1_2, uf_1_3, uf_1_4, uf_1_5, uf_2_0, uf_2_1, uf_2_2, uf_2_3, uf_2_4, uf_2_5, uf_3_0, uf_3_1, uf_3_2, uf_3_3, uf_3_4, uf_3_5, uf_4_0, uf_4_1, uf_4_2, uf_4_3, uf_4_4, uf_4_5, uf_5_0, uf_5_1, uf_5_2, uf_5_3, uf_5_4, uf_5_5, js_0, js_2, js_3, js_4, js_5, c72, c77, c102, if_pos c118, Int32.not_le.mp c72, if_true, if_false, not_true_eq_false, not_false_eq_true, true_and, and_true, false_and, and_false, true_or, or_true, false_or, or_false, ite_true, ite_false, eq_self]; done) | (simp only [j_detachC, uq_0_1, uq_0_2, uq_0_3, uq_0_4, uq_0_5, uq_1_0, uq_1_2, uq_1_3, uq_1_4, uq_1_5, uq_2_0, uq_2_1, uq_2_3, uq_2_4, uq_2_5, uq_3_0, uq_3_1, uq_3_2, uq_3_4, uq_3_5, uq_4_0, uq_4_1, uq_4_2, uq_4_3, uq_4_5, uq_5_0, uq_5_1, uq_5_2, uq_5_3, uq_5_4, uf_0_0, uf_0_1, uf_0_2, uf_0_3, uf_0_4, uf_0_5, uf_1_0, uf_1_1, uf_1_2, uf_1_3, uf_1_4, uf_1_5, uf_2_0, uf_2_1, uf_2_2, uf_2_3, uf_2_4, uf_2_5, uf_3_0, uf_3_1, uf_3_2, uf_3_3, uf_3_4, uf_3_5, uf_4_0, uf_4_1, uf_4_2, uf_4_3, uf_4_4, uf_4_5, uf_5_0, uf_5_1, uf_5_2, uf_5_3, uf_5_4, uf_5_5, js_0, js_2, js_3, js_4, js_5, c72, c77, c102, c118, Int32.not_le.mp c72, if_true, if_false, not_true_eq_false, not_false_eq_true, true_and, and_true, false_and, and_false, true_or, or_true, false_or, or_false, ite_true, ite_false, eq_self]; done) | (simp only [j_detachC, c72, c77, c102, c118, Int32.not_le.mp c72, if_true, if_false, not_true_eq_false, not_false_eq_true, true_and, and_true, false_and, and_false, true_or, or_true, false_or, or_false, ite_true, ite_false, eq_self]; simp only [uq_0_1, uq_0_2, uq_0_3, uq_0_4, uq_0_5, uq_1_0, uq_1_2, uq_1_3, uq_1_4, uq_1_5, uq_2_0, uq_2_1, uq_2_3, uq_2_4, uq_2_5, uq_3_0, uq_3_1, uq_3_2, uq_3_4, uq_3_5, uq_4_0, uq_4_1, uq_4_2, uq_4_3, uq_4_5, uq_5_0, uq_5_1, uq_5_2, uq_5_3, uq_5_4, uf_0_0, uf_0_1, uf_0_2, uf_0_3, uf_0_4, uf_0_5, uf_1_0, uf_1_1, uf_1_2, uf_1_3, uf_1_4, uf_1_5, uf_2_0, uf_2_1, uf_2_2, uf_2_3, uf_2_4, uf_2_5, uf_3_0, uf_3_1, uf_3_2, uf_3_3, uf_3_4, uf_3_5, uf_4_0, uf_4_1, uf_4_2, uf_4_3, uf_4_4, uf_4_5, uf_5_0, uf_5_1, uf_5_2, uf_5_3, uf_5_4, uf_5_5, js_0, js_2, js_3, js_4, js_5]; done))) hP hD hS ls (lv_sub hl [0, 1, 4, 5, 6, 2, 7, 8, 9] rfl)
                exact loop2 24800 _ 0 _ _ _ H locs rfl (by rw [hr0, j_detachH]; simp only [c19, c24, c34, c38, c47, Int32.not_le.mp c19, Int32.not_lt.mp c24, Int32.not_le.mp c34, Int32.not_lt.mp c38, Int32.not_le.mpr c47, if_true, if_false, not_true_eq_false, not_false_eq_true, true_and, and_true, false_and, and_false, true_or, or_true, false_or, or_false, ite_true, ite_false, eq_self]) hP hD hS ls (lv_sub hl [0, 1, 2, 3, 4, 5, 6, 7, 8] rfl)
              · refine lv_iload_n hx hb d_N_detach_50 rfl (lv_at hl 2 rfl) ?_
                have hP9 : va_P (dC, dI) cls0 (nW cI a ((j_detach N x1 x2).1)) _ := (show N1 = (j_detach N x1 x2).1 from by rw [hr0]; simp only [j_detachH, c19, c24, c34, c38, c47, Int32.not_le.mp c19, Int32.not_lt.mp c24, Int32.not_le.mp c34, Int32.not_lt.mp c38, Int32.not_lt.mp c47, if_true, if_false, not_true_eq_false, not_false_eq_true, true_and, and_true, false_and, and_false, true_or, or_true, false_or, or_false, ite_true, ite_false, eq_self]) ▸ hP
                have hD9 : va_D A (nW cI a ((j_detach N x1 x2).1)) := (show N1 = (j_detach N x1 x2).1 from by rw [hr0]; simp only [j_detachH, c19, c24, c34, c38, c47, Int32.not_le.mp c19, Int32.not_lt.mp c24, Int32.not_le.mp c34, Int32.not_lt.mp c38, Int32.not_lt.mp c47, if_true, if_false, not_true_eq_false, not_false_eq_true, true_and, and_true, false_and, and_false, true_or, or_true, false_or, or_false, ite_true, ite_false, eq_self]) ▸ hD
                exact W.iret (v := x3) hx hb hr (fun t ht hW => ⟨⟨x3, (), rfl, (show x3 = (j_detach N x1 x2).2 from by rw [hr0]; simp only [j_detachH, c19, c24, c34, c38, c47, Int32.not_le.mp c19, Int32.not_lt.mp c24, Int32.not_le.mp c34, Int32.not_lt.mp c38, Int32.not_lt.mp c47, if_true, if_false, not_true_eq_false, not_false_eq_true, true_and, and_true, false_and, and_false, true_or, or_true, false_or, or_false, ite_true, ite_false, eq_self]), by rw [ht]; exact hP9, va_K.moved hW.alike hK, hD9⟩, hS.F ht⟩) hS.2.2 d_N_detach_51
  refine lv_iconst (v := 0) hx hb d_N_detach_0 (by decide) ?_
  refine lv_istore_n (lv' := [(3, .int 0), (0, .ref (a 0)), (1, .int x1), (2, .int x2)]) hx hb d_N_detach_1 rfl hl (by decide) rfl (fun ls hl => ?_)
  refine lv_iload_n hx hb d_N_detach_2 rfl (lv_at hl 2 rfl) ?_
  refine lv_bipush (v := 64) hx hb d_N_detach_3 (by decide) ?_
  refine lv_imul hx hb d_N_detach_5 ?_
  refine lv_istore (lv' := [(4, .int (x1 * 64)), (3, .int 0), (0, .ref (a 0)), (1, .int x1), (2, .int x2)]) hx hb d_N_detach_6 hl (by decide) rfl (fun ls hl => ?_)
  refine lv_iload hx hb d_N_detach_8 (lv_at hl 0 rfl) ?_
  refine lv_istore (lv' := [(5, .int (x1 * 64)), (4, .int (x1 * 64)), (3, .int 0), (0, .ref (a 0)), (1, .int x1), (2, .int x2)]) hx hb d_N_detach_10 hl (by decide) rfl (fun ls hl => ?_)
  have ef : x1 * 64 = nI (u * 64) := by rw [hx1, show (64 : Int32) = nI 64 from rfl, pk_mul]
  rw [ef] at hl
  exact loop 64 _ 0 _ s.heap [] rfl (by unfold j_detach; rw [ef]; rfl) hP hD hS ls (lv_sub hl [0, 1, 2, 3, 4, 5] rfl)

set_option maxHeartbeats 4000000 in
set_option maxRecDepth 100000 in
/-- N_faults -/
theorem c_N_faults (l : Launch) (dC : Nat → ClassId) (dI : Nat → Nat → Nat) (cI : ClassId) (a : Nat → Nat) (N : Mm) : Met l y_N_faults (.code y_N_faults b_N_faults 5 (some .int) :: W0) ({ frames := 3, cells := 0, slots := 0, locals := 70 } : Room) (va_Pc [.ref (a 0)] (nR dC dI cI a N)) (QcRead (j_faults N)) 0 0 (fun _ => False) := by
  refine Met.ofW (cc := b_N_faults) (maxL := 5) (ret := (some .int)) (by decide) rfl ?_
  intro p e s m args below meth c s₁ B hml hv
  obtain ⟨rfl, hP, hK⟩ := hv
  have hx := B.exec
  have hb := B.bytes
  have hr := B.returns
  have hts1 := atoms_spec (ws := .code y_N_faults b_N_faults 5 (some .int) :: W0) B.pre
  have hts : ∀ w ∈ W0, w.before _ s = true := fun w h => hts1 w (List.mem_cons_of_mem _ h)
  have hown : s.vm.findClass R_N = some m.cls := findClass_of_methodNamed B.named
  have hlocks := B.notSynchronized
  have hl := lv_entry ([.ref (a 0)]) (n := 5) (Nat.le_of_ble_eq_true rfl)
  rw [lg_entry_eq]
  generalize (lg_sl ([.ref (a 0)]) ++ List.replicate (5 - (lg_sl ([.ref (a 0)])).length) Slot.unset).toArray = ls at hl ⊢
  have hl : lv_has ls 5 [(0, .ref (a 0))] := hl
  have loop : ∀ (n : Nat) (j : Nat) (x1 : Int32), j + n = 768 → j_faults N = j_faultsH N n (nI j) x1 → ∀ (ls : Array Slot), lv_has ls 5 [(2, .int (nI j)), (1, .int x1), (0, .ref (a 0))] → W p l e (headSpec (.code y_N_faults b_N_faults 5 (some .int) :: W0) ({ frames := 3, cells := 0, slots := 0, locals := 70 } : Room)).room s m ([.ref (a 0)] : List Value).toArray below meth c s.heap [] 0 0 (MQ below (QcRead (j_faults N)) ([.ref (a 0)] : List Value).toArray s 0 0 (fun _ => False)) (F0 m 4 ls []) := by
    intro n
    induction n with
    | zero =>
      intro j x1 hj hr0 ls hl
      refine lv_iload_n hx hb d_N_faults_4 rfl (lv_at hl 0 rfl) ?_
      refine lv_aload_n hx hb d_N_faults_5 rfl (lv_at hl 2 rfl) ?_
      refine va_get (D := (dC, dI)) (ci := 1) (v := .ref (a 2)) (C := R_N) (T := T_N) (N := 11) hx hb hts in_N hown hK hP 0 rfl rfl 1 (by decide) (hts _ kfl_N_25) (fun _ h9 => h9) rfl d_N_faults_6 ?_
      refine va_alen (v := nI 768) hx hb hK hP 2 0 rfl rfl rfl d_N_faults_9 ?_
      refine lv_icmp_ge (tgt := 74) hx hb d_N_faults_10 (by decide) (fun c10 => ?_) (fun c10 => ?_)
      · refine lv_iload_n hx hb d_N_faults_74 rfl (lv_at hl 1 rfl) ?_
        exact W.iret (v := x1) hx hb hr (fun t ht hW => ⟨by rw [show j_faults N = x1 from by rw [hr0]; simp only [j_faultsH, c10, Int32.not_lt.mpr c10, if_true, if_false, not_true_eq_false, not_false_eq_true, true_and, and_true, false_and, and_false, true_or, or_true, false_or, or_false, ite_true, ite_false, eq_self]], ht⟩) (fun q h => by cases h) d_N_faults_75
      · exact absurd (nI_le (a := 768) (b := j) (by omega) (by omega)) c10
    | succ n ih =>
      intro j x1 hj hr0 ls hl
      refine lv_iload_n hx hb d_N_faults_4 rfl (lv_at hl 0 rfl) ?_
      refine lv_aload_n hx hb d_N_faults_5 rfl (lv_at hl 2 rfl) ?_
      refine va_get (D := (dC, dI)) (ci := 1) (v := .ref (a 2)) (C := R_N) (T := T_N) (N := 11) hx hb hts in_N hown hK hP 0 rfl rfl 1 (by decide) (hts _ kfl_N_25) (fun _ h9 => h9) rfl d_N_faults_6 ?_
      refine va_alen (v := nI 768) hx hb hK hP 2 0 rfl rfl rfl d_N_faults_9 ?_
      refine lv_icmp_ge (tgt := 74) hx hb d_N_faults_10 (by decide) (fun c10 => ?_) (fun c10 => ?_)
      · exact absurd c10 (nI_ge (a := j) (b := 768) (by omega) (by omega))
      · refine lv_aload_n hx hb d_N_faults_13 rfl (lv_at hl 2 rfl) ?_
        refine va_get (D := (dC, dI)) (ci := 1) (v := .ref (a 2)) (C := R_N) (T := T_N) (N := 11) hx hb hts in_N hown hK hP 0 rfl rfl 1 (by decide) (hts _ kfl_N_25) (fun _ h9 => h9) rfl d_N_faults_14 ?_
        refine lv_iload_n hx hb d_N_faults_17 rfl (lv_at hl 0 rfl) ?_
        refine va_iald hx hb hK hP 2 0 rfl rfl (vp_in_nI (by omega) (by decide)) d_N_faults_18 ?_
        refine lv_istore_n (lv' := [(3, .int (N 2 (nI j).toNatClampNeg)), (2, .int (nI j)), (1, .int x1), (0, .ref (a 0))]) hx hb d_N_faults_19 rfl hl (by decide) rfl (fun ls hl => ?_)
        refine lv_iconst (v := 0) hx hb d_N_faults_20 (by decide) ?_
        refine lv_istore (lv' := [(4, .int 0), (3, .int (N 2 (nI j).toNatClampNeg)), (2, .int (nI j)), (1, .int x1), (0, .ref (a 0))]) hx hb d_N_faults_21 hl (by decide) rfl (fun ls hl => ?_)
        have loop2 : ∀ (n2 : Nat) (i : Nat) (x1 x3 : Int32), i + n2 = 24800 → j_faults N = j_faultsH N n (nI j + 1) (j_faultsC N (nI j) n2 x1 x3) → ∀ (ls : Array Slot), lv_has ls 5 [(4, .int (nI i)), (3, .int x3), (2, .int (nI j)), (1, .int x1), (0, .ref (a 0))] → W p l e (headSpec (.code y_N_faults b_N_faults 5 (some .int) :: W0) ({ frames := 3, cells := 0, slots := 0, locals := 70 } : Room)).room s m ([.ref (a 0)] : List Value).toArray below meth c s.heap [] 0 0 (MQ below (QcRead (j_faults N)) ([.ref (a 0)] : List Value).toArray s 0 0 (fun _ => False)) (F0 m 23 ls []) := by
          intro n2
          induction n2 with
          | zero =>
            intro i x1 x3 hi hr0 ls hl
            refine lv_iload hx hb d_N_faults_23 (lv_at hl 0 rfl) ?_
            refine lv_sipush (v := 24800) hx hb d_N_faults_25 (by decide) ?_
            refine lv_icmp_ge (tgt := 68) hx hb d_N_faults_28 (by decide) (fun c28 => ?_) (fun c28 => ?_)
            · refine lv_iinc (v := ((nI j) + 1)) (lv' := [(2, .int ((nI j) + 1)), (4, .int (nI i)), (3, .int x3), (1, .int x1), (0, .ref (a 0))]) hx hb d_N_faults_68 hl (k := 2) rfl rfl (by decide) rfl (fun ls hl => ?_)
              refine lv_goto (tgt := 4) hx hb d_N_faults_71 (by decide) ?_
              rw [nI_1] at hl
              exact ih (j + 1) _ (by omega) (by rw [hr0, nI_1]; simp only [j_faultsC, c28, Int32.not_lt.mpr c28, if_true, if_false, not_true_eq_false, not_false_eq_true, true_and, and_true, false_and, and_false, true_or, or_true, false_or, or_false, ite_true, ite_false, eq_self]) ls (lv_sub hl [0, 3, 4] rfl)
            · exact absurd (nI_le (a := 24800) (b := i) (by omega) (by omega)) c28
          | succ n2 ih2 =>
            intro i x1 x3 hi hr0 ls hl
            refine lv_iload hx hb d_N_faults_23 (lv_at hl 0 rfl) ?_
            refine lv_sipush (v := 24800) hx hb d_N_faults_25 (by decide) ?_
            refine lv_icmp_ge (tgt := 68) hx hb d_N_faults_28 (by decide) (fun c28 => ?_) (fun c28 => ?_)
            · exact absurd c28 (nI_ge (a := i) (b := 24800) (by omega) (by omega))
            · refine lv_iload_n hx hb d_N_faults_31 rfl (lv_at hl 1 rfl) ?_
              refine lv_if_eq (tgt := 68) hx hb d_N_faults_32 (by decide) (fun c32 => ?_) (fun c32 => ?_)
              · refine lv_iinc (v := ((nI j) + 1)) (lv' := [(2, .int ((nI j) + 1)), (4, .int (nI i)), (3, .int x3), (1, .int x1), (0, .ref (a 0))]) hx hb d_N_faults_68 hl (k := 2) rfl rfl (by decide) rfl (fun ls hl => ?_)
                refine lv_goto (tgt := 4) hx hb d_N_faults_71 (by decide) ?_
                rw [nI_1] at hl
                exact ih (j + 1) _ (by omega) (by rw [hr0, nI_1]; (first | (simp only [j_faultsC, c28, if_pos c32, Int32.not_le.mp c28, if_true, if_false, not_true_eq_false, not_false_eq_true, true_and, and_true, false_and, and_false, true_or, or_true, false_or, or_false, ite_true, ite_false, eq_self]; done) | (simp only [j_faultsC, c28, c32, Int32.not_le.mp c28, if_true, if_false, not_true_eq_false, not_false_eq_true, true_and, and_true, false_and, and_false, true_or, or_true, false_or, or_false, ite_true, ite_false, eq_self]; done) | (simp only [j_faultsC, c28, Int32.not_le.mp c28, if_true, if_false, not_true_eq_false, not_false_eq_true, true_and, and_true, false_and, and_false, true_or, or_true, false_or, or_false, ite_true, ite_false, eq_self]; rw [if_pos c32]; done))) ls (lv_sub hl [0, 3, 4] rfl)
              · refine lv_aload_n hx hb d_N_faults_35 rfl (lv_at hl 4 rfl) ?_
                refine lv_iload_n hx hb d_N_faults_36 rfl (lv_at hl 1 rfl) ?_
                refine lv_iload_n hx hb d_N_faults_37 rfl (lv_at hl 2 rfl) ?_
                refine nCallR (As := [.int x3, .int (nI j)]) (rest := []) ⟨hx, hb, hml, hown, hts⟩ (c_N_isMisplaced l dC dI cI a N x3 (nI j)) (cwV 2 hts (gV kml_N_133 kim_N_isMisplaced ksl_N_isMisplaced kin_N kcd_N_isMisplaced) rfl rfl rfl (by decide +kernel) ⟨Nat.le_of_ble_eq_true rfl, Nat.le_of_ble_eq_true rfl⟩) hP hK rfl hl.1 rfl (Nat.le_of_ble_eq_true rfl) d_N_faults_38 ⟨Nat.zero_le _, Nat.zero_le _⟩ ?_
                refine lv_if_ne (tgt := 52) hx hb d_N_faults_41 (by decide) (fun c41 => ?_) (fun c41 => ?_)
                · refine lv_iinc (v := (x1 + 1)) (lv' := [(1, .int (x1 + 1)), (4, .int (nI i)), (3, .int x3), (2, .int (nI j)), (0, .ref (a 0))]) hx hb d_N_faults_52 hl (k := 3) rfl rfl (by decide) rfl (fun ls hl => ?_)
                  refine lv_aload_n hx hb d_N_faults_55 rfl (lv_at hl 4 rfl) ?_
                  refine lv_iload_n hx hb d_N_faults_56 rfl (lv_at hl 2 rfl) ?_
                  refine lv_iconst (v := 3) hx hb d_N_faults_57 (by decide) ?_
                  refine nCallR (As := [.int x3, .int 3]) (rest := []) ⟨hx, hb, hml, hown, hts⟩ (c_N_get l dC dI cI a N x3 3) (cwV 2 hts (gV kml_N_46 kim_N_get ksl_N_get kin_N kcd_N_get) rfl rfl rfl (by decide +kernel) ⟨Nat.le_of_ble_eq_true rfl, Nat.le_of_ble_eq_true rfl⟩) hP hK rfl hl.1 rfl (Nat.le_of_ble_eq_true rfl) d_N_faults_58 ⟨Nat.zero_le _, Nat.zero_le _⟩ ?_
                  refine lv_istore_n (lv' := [(3, .int (j_get N x3 3)), (1, .int (x1 + 1)), (4, .int (nI i)), (2, .int (nI j)), (0, .ref (a 0))]) hx hb d_N_faults_61 rfl hl (by decide) rfl (fun ls hl => ?_)
                  refine lv_iinc (v := ((nI i) + 1)) (lv' := [(4, .int ((nI i) + 1)), (3, .int (j_get N x3 3)), (1, .int (x1 + 1)), (2, .int (nI j)), (0, .ref (a 0))]) hx hb d_N_faults_62 hl (k := 2) rfl rfl (by decide) rfl (fun ls hl => ?_)
                  refine lv_goto (tgt := 23) hx hb d_N_faults_65 (by decide) ?_
                  rw [nI_1] at hl
                  exact ih2 (i + 1) _ _ (by omega) (by rw [hr0]; simp only [j_faultsC, c28, c32, c41, Int32.not_le.mp c28, if_true, if_false, not_true_eq_false, not_false_eq_true, true_and, and_true, false_and, and_false, true_or, or_true, false_or, or_false, ite_true, ite_false, eq_self]) ls (lv_sub hl [0, 1, 3, 2, 4] rfl)
                · refine lv_aload_n hx hb d_N_faults_44 rfl (lv_at hl 4 rfl) ?_
                  refine lv_iload_n hx hb d_N_faults_45 rfl (lv_at hl 1 rfl) ?_
                  refine nCallR (As := [.int x3]) (rest := []) ⟨hx, hb, hml, hown, hts⟩ (c_N_isThereTwice l dC dI cI a N x3) (cwV 1 hts (gV kml_N_137 kim_N_isThereTwice ksl_N_isThereTwice kin_N kcd_N_isThereTwice) rfl rfl rfl (by decide +kernel) ⟨Nat.le_of_ble_eq_true rfl, Nat.le_of_ble_eq_true rfl⟩) hP hK rfl hl.1 rfl (Nat.le_of_ble_eq_true rfl) d_N_faults_46 ⟨Nat.zero_le _, Nat.zero_le _⟩ ?_
                  refine lv_if_eq (tgt := 55) hx hb d_N_faults_49 (by decide) (fun c49 => ?_) (fun c49 => ?_)
                  · refine lv_aload_n hx hb d_N_faults_55 rfl (lv_at hl 4 rfl) ?_
                    refine lv_iload_n hx hb d_N_faults_56 rfl (lv_at hl 1 rfl) ?_
                    refine lv_iconst (v := 3) hx hb d_N_faults_57 (by decide) ?_
                    refine nCallR (As := [.int x3, .int 3]) (rest := []) ⟨hx, hb, hml, hown, hts⟩ (c_N_get l dC dI cI a N x3 3) (cwV 2 hts (gV kml_N_46 kim_N_get ksl_N_get kin_N kcd_N_get) rfl rfl rfl (by decide +kernel) ⟨Nat.le_of_ble_eq_true rfl, Nat.le_of_ble_eq_true rfl⟩) hP hK rfl hl.1 rfl (Nat.le_of_ble_eq_true rfl) d_N_faults_58 ⟨Nat.zero_le _, Nat.zero_le _⟩ ?_
                    refine lv_istore_n (lv' := [(3, .int (j_get N x3 3)), (4, .int (nI i)), (2, .int (nI j)), (1, .int x1), (0, .ref (a 0))]) hx hb d_N_faults_61 rfl hl (by decide) rfl (fun ls hl => ?_)
                    refine lv_iinc (v := ((nI i) + 1)) (lv' := [(4, .int ((nI i) + 1)), (3, .int (j_get N x3 3)), (2, .int (nI j)), (1, .int x1), (0, .ref (a 0))]) hx hb d_N_faults_62 hl (k := 1) rfl rfl (by decide) rfl (fun ls hl => ?_)
                    refine lv_goto (tgt := 23) hx hb d_N_faults_65 (by decide) ?_
                    rw [nI_1] at hl
                    exact ih2 (i + 1) _ _ (by omega) (by rw [hr0]; (first | (simp only [j_faultsC, c28, c32, if_pos c41, if_pos c49, Int32.not_le.mp c28, if_true, if_false, not_true_eq_false, not_false_eq_true, true_and, and_true, false_and, and_false, true_or, or_true, false_or, or_false, ite_true, ite_false, eq_self]; done) | (simp only [j_faultsC, c28, c32, c41, c49, Int32.not_le.mp c28, if_true, if_false, not_true_eq_false, not_false_eq_true, true_and, and_true, false_and, and_false, true_or, or_true, false_or, or_false, ite_true, ite_false, eq_self]; done) | (simp only [j_faultsC, c28, c32, Int32.not_le.mp c28, if_true, if_false, not_true_eq_false, not_false_eq_true, true_and, and_true, false_and, and_false, true_or, or_true, false_or, or_false, ite_true, ite_false, eq_self]; rw [if_pos c41, if_pos c49]; done))) ls (lv_sub hl [0, 1, 2, 3, 4] rfl)
                  · refine lv_iinc (v := (x1 + 1)) (lv' := [(1, .int (x1 + 1)), (4, .int (nI i)), (3, .int x3), (2, .int (nI j)), (0, .ref (a 0))]) hx hb d_N_faults_52 hl (k := 3) rfl rfl (by decide) rfl (fun ls hl => ?_)
                    refine lv_aload_n hx hb d_N_faults_55 rfl (lv_at hl 4 rfl) ?_
                    refine lv_iload_n hx hb d_N_faults_56 rfl (lv_at hl 2 rfl) ?_
                    refine lv_iconst (v := 3) hx hb d_N_faults_57 (by decide) ?_
                    refine nCallR (As := [.int x3, .int 3]) (rest := []) ⟨hx, hb, hml, hown, hts⟩ (c_N_get l dC dI cI a N x3 3) (cwV 2 hts (gV kml_N_46 kim_N_get ksl_N_get kin_N kcd_N_get) rfl rfl rfl (by decide +kernel) ⟨Nat.le_of_ble_eq_true rfl, Nat.le_of_ble_eq_true rfl⟩) hP hK rfl hl.1 rfl (Nat.le_of_ble_eq_true rfl) d_N_faults_58 ⟨Nat.zero_le _, Nat.zero_le _⟩ ?_
                    refine lv_istore_n (lv' := [(3, .int (j_get N x3 3)), (1, .int (x1 + 1)), (4, .int (nI i)), (2, .int (nI j)), (0, .ref (a 0))]) hx hb d_N_faults_61 rfl hl (by decide) rfl (fun ls hl => ?_)
                    refine lv_iinc (v := ((nI i) + 1)) (lv' := [(4, .int ((nI i) + 1)), (3, .int (j_get N x3 3)), (1, .int (x1 + 1)), (2, .int (nI j)), (0, .ref (a 0))]) hx hb d_N_faults_62 hl (k := 2) rfl rfl (by decide) rfl (fun ls hl => ?_)
                    refine lv_goto (tgt := 23) hx hb d_N_faults_65 (by decide) ?_
                    rw [nI_1] at hl
                    exact ih2 (i + 1) _ _ (by omega) (by rw [hr0]; (first | (simp only [j_faultsC, c28, c32, if_pos c41, c49, Int32.not_le.mp c28, if_true, if_false, not_true_eq_false, not_false_eq_true, true_and, and_true, false_and, and_false, true_or, or_true, false_or, or_false, ite_true, ite_false, eq_self]; done) | (simp only [j_faultsC, c28, c32, c41, c49, Int32.not_le.mp c28, if_true, if_false, not_true_eq_false, not_false_eq_true, true_and, and_true, false_and, and_false, true_or, or_true, false_or, or_false, ite_true, ite_false, eq_self]; done) | (simp only [j_faultsC, c28, c32, c49, Int32.not_le.mp c28, if_true, if_false, not_true_eq_false, not_false_eq_true, true_and, and_true, false_and, and_false, true_or, or_true, false_or, or_false, ite_true, ite_false, eq_self]; rw [if_pos c41]; done))) ls (lv_sub hl [0, 1, 3, 2, 4] rfl)
        exact loop2 24800 0 _ _ rfl (by rw [hr0, j_faultsH]) ls (lv_sub hl [0, 1, 2, 3, 4] rfl)
  refine lv_iconst (v := 0) hx hb d_N_faults_0 (by decide) ?_
  refine lv_istore_n (lv' := [(1, .int 0), (0, .ref (a 0))]) hx hb d_N_faults_1 rfl hl (by decide) rfl (fun ls hl => ?_)
  refine lv_iconst (v := 0) hx hb d_N_faults_2 (by decide) ?_
  refine lv_istore_n (lv' := [(2, .int 0), (1, .int 0), (0, .ref (a 0))]) hx hb d_N_faults_3 rfl hl (by decide) rfl (fun ls hl => ?_)
  exact loop 768 0 _ rfl rfl ls (lv_sub hl [0, 1, 2] rfl)
