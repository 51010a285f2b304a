set_option maxHeartbeats 4000000 in
set_option maxRecDepth 100000 in
/-- N_collect -/
theorem c_N_collect (l : Launch) (dC : Nat → ClassId) (dI : Nat → Nat → Nat) (cI : ClassId) (a : Nat → Nat) (N : Mm) (sz : Nat) (hv : ∀ k, k < 13 → ∃ w, w < 13 ∧ N 5 k = nI w) : Met l y_N_collect (.code y_N_collect b_N_collect 4 none :: W0) ({ frames := 3, cells := 0, slots := 0, locals := 72 } : Room) (va_Pc [.ref (a 0)] (nM dC dI cI a N sz)) (va_Qv (fun _ : Unit => True) (fun _ t => nE dC dI cI a (j_collect N) (va_A (nW cI a N) sz) t) (va_A (nW cI a N) sz)) 0 0 (va_A (nW cI a N) sz) := by
  refine Met.ofW (cc := b_N_collect) (maxL := 4) (ret := none) (by decide) rfl ?_
  intro p e s m args below meth c s₁ B hml hv
  obtain ⟨rfl, hsz, hP, hK, hD0⟩ := hv
  have hx := B.exec
  have hb := B.bytes
  have hr := B.returns
  have hts1 := atoms_spec (ws := .code y_N_collect b_N_collect 4 none :: W0) B.pre
  have hts : ∀ w ∈ W0, w.before _ s = true := fun w h => hts1 w (List.mem_cons_of_mem _ h)
  have hown : s.vm.findClass R_N = some m.cls := findClass_of_methodNamed B.named
  have hlocks := B.notSynchronized
  subst hsz
  have hD := hD0.self (sz := s.heap.size)
  generalize hAe : va_A (nW cI a N) s.heap.size = A at hD ⊢
  have hA : ∀ q : Nat, s.heap.size ≤ q → A q := fun q h => by rw [← hAe]; exact Or.inr h
  have hS : va_S A s.heap s.heap [] := va_S.rf
  have hP : va_P (dC, dI) cls0 (nW cI a N) s.heap := hP
  have hl := lv_entry ([.ref (a 0)]) (n := 4) (Nat.le_of_ble_eq_true rfl)
  rw [lg_entry_eq]
  generalize (lg_sl ([.ref (a 0)]) ++ List.replicate (4 - (lg_sl ([.ref (a 0)])).length) Slot.unset).toArray = ls at hl ⊢
  have hl : lv_has ls 4 [(0, .ref (a 0))] := hl
  have loop : ∀ (n : Nat) (N1 : Mm) (k : Nat) (H : Heap) (locs : List Loc), k + n = 12 → N1 5 = N 5 → j_collect N = j_collectL n N1 (nI k) → va_P (dC, dI) cls0 (nW cI a N1) H → va_D A (nW cI a N1) → va_S A s.heap H locs → ∀ (ls : Array Slot), lv_has ls 4 [(1, .int (nI k)), (0, .ref (a 0))] → W p l e (headSpec (.code y_N_collect b_N_collect 4 none :: W0) ({ frames := 3, cells := 0, slots := 0, locals := 72 } : Room)).room s m ([.ref (a 0)] : List Value).toArray below meth c H locs 0 0 (MQ below (va_Qv (fun _ : Unit => True) (fun _ t => nE dC dI cI a (j_collect N) A t) A) ([.ref (a 0)] : List Value).toArray s 0 0 A) (F0 m 2 ls []) := by
    intro n
    induction n with
    | zero =>
      intro N1 k H locs hk h5 hr0 hP hD hS ls hl
      obtain ⟨w, hw, ew⟩ := hv k (by omega)
      refine lv_iload_n hx hb d_N_collect_2 rfl (lv_at hl 0 rfl) ?_
      refine lv_bipush (v := 12) hx hb d_N_collect_3 (by decide) ?_
      refine lv_icmp_ge (tgt := 68) hx hb d_N_collect_5 (by decide) (fun c5 => ?_) (fun c5 => ?_)
      · have hP9 : va_P (dC, dI) cls0 (nW cI a (j_collect N)) _ := (show N1 = j_collect N from by rw [hr0]; simp only [j_collectL, c5, Int32.not_lt.mpr c5, if_true, if_false, not_true_eq_false, not_false_eq_true, true_and, and_true, false_and, and_false, true_or, or_true, false_or, or_false, ite_true, ite_false]) ▸ hP
        have hD9 : va_D A (nW cI a (j_collect N)) := (show N1 = j_collect N from by rw [hr0]; simp only [j_collectL, c5, Int32.not_lt.mpr c5, if_true, if_false, not_true_eq_false, not_false_eq_true, true_and, and_true, false_and, and_false, true_or, or_true, false_or, or_false, ite_true, ite_false]) ▸ hD
        exact W.vret hx hb hr (fun t ht hW => ⟨⟨(), rfl, trivial, by rw [ht]; exact hP9, va_K.moved hW.alike hK, hD9⟩, hS.F ht⟩) hS.2.2 d_N_collect_68
      · exact absurd (nI_le (a := 12) (b := k) (by omega) (by omega)) c5
    | succ n ih =>
      intro N1 k H locs hk h5 hr0 hP hD hS ls hl
      obtain ⟨w, hw, ew⟩ := hv k (by omega)
      refine lv_iload_n hx hb d_N_collect_2 rfl (lv_at hl 0 rfl) ?_
      refine lv_bipush (v := 12) hx hb d_N_collect_3 (by decide) ?_
      refine lv_icmp_ge (tgt := 68) hx hb d_N_collect_5 (by decide) (fun c5 => ?_) (fun c5 => ?_)
      · exact absurd c5 (nI_ge (a := k) (b := 12) (by omega) (by omega))
      · refine lv_aload_n hx hb d_N_collect_8 rfl (lv_at hl 1 rfl) ?_
        refine lv_iload_n hx hb d_N_collect_9 rfl (lv_at hl 0 rfl) ?_
        refine nCallR (As := [.int (nI k)]) (rest := []) ⟨hx, hb, hml, hown, hts⟩ (c_N_variableAt l dC dI cI a N1 (nI k)) (cwV 1 hts (gV kml_N_62 kim_N_variableAt ksl_N_variableAt kin_N kcd_N_variableAt) rfl rfl rfl (by decide +kernel) ⟨Nat.le_of_ble_eq_true rfl, Nat.le_of_ble_eq_true rfl⟩) hP hK rfl hl.1 rfl (Nat.le_of_ble_eq_true rfl) d_N_collect_10 ⟨Nat.zero_le _, Nat.zero_le _⟩ ?_
        refine lv_bipush (v := 64) hx hb d_N_collect_13 (by decide) ?_
        refine lv_imul hx hb d_N_collect_15 ?_
        refine lv_istore_n (lv' := [(2, .int ((j_variableAt N1 (nI k)) * 64)), (1, .int (nI k)), (0, .ref (a 0))]) hx hb d_N_collect_16 rfl hl (by decide) rfl (fun ls hl => ?_)
        refine lv_iload_n hx hb d_N_collect_17 rfl (lv_at hl 0 rfl) ?_
        refine lv_istore_n (lv' := [(3, .int ((j_variableAt N1 (nI k)) * 64)), (2, .int ((j_variableAt N1 (nI k)) * 64)), (1, .int (nI k)), (0, .ref (a 0))]) hx hb d_N_collect_18 rfl hl (by decide) rfl (fun ls hl => ?_)
        have ef := varAt_n (N := N1) (k := k) (w := w) (by omega) (by rw [h5]; exact ew)
        rw [ef] at hl
        have loop2 : ∀ (n2 : Nat) (N1 : Mm) (j : Nat) (H : Heap) (locs : List Loc), j + n2 = 64 → N1 5 = N 5 → j_collect N = j_collectL n (j_collectH n2 N1 (nI (w * 64 + j))) (nI k + 1) → va_P (dC, dI) cls0 (nW cI a N1) H → va_D A (nW cI a N1) → va_S A s.heap H locs → ∀ (ls : Array Slot), lv_has ls 4 [(3, .int (nI (w * 64 + j))), (2, .int (nI (w * 64))), (1, .int (nI k)), (0, .ref (a 0))] → W p l e (headSpec (.code y_N_collect b_N_collect 4 none :: W0) ({ frames := 3, cells := 0, slots := 0, locals := 72 } : Room)).room s m ([.ref (a 0)] : List Value).toArray below meth c H locs 0 0 (MQ below (va_Qv (fun _ : Unit => True) (fun _ t => nE dC dI cI a (j_collect N) A t) A) ([.ref (a 0)] : List Value).toArray s 0 0 A) (F0 m 19 ls []) := by
          intro n2
          induction n2 with
          | zero =>
            intro N1 j H locs hj h5 hr0 hP hD hS ls hl
            refine lv_iload_n hx hb d_N_collect_19 rfl (lv_at hl 0 rfl) ?_
            refine lv_iload_n hx hb d_N_collect_20 rfl (lv_at hl 1 rfl) ?_
            refine lv_bipush (v := 64) hx hb d_N_collect_21 (by decide) ?_
            refine lv_iadd hx hb d_N_collect_23 ?_
            refine lv_icmp_ge (tgt := 62) hx hb d_N_collect_24 (by decide) (fun c24 => ?_) (fun c24 => ?_)
            · refine lv_iinc (v := ((nI k) + 1)) (lv' := [(1, .int ((nI k) + 1)), (3, .int (nI (w * 64 + j))), (2, .int (nI (w * 64))), (0, .ref (a 0))]) hx hb d_N_collect_62 hl (k := 2) rfl rfl (by decide) rfl (fun ls hl => ?_)
              refine lv_goto (tgt := 2) hx hb d_N_collect_65 (by decide) ?_
              rw [nI_1] at hl
              exact ih _ (k + 1) H locs (by omega) h5 (by rw [hr0, nI_1]; rfl) hP hD hS ls (lv_sub hl [0, 3] rfl)
            · exact absurd (by rw [nI_64]; exact nI_le (by omega) (by omega)) c24
          | succ n2 ih2 =>
            intro N1 j H locs hj h5 hr0 hP hD hS ls hl
            refine lv_iload_n hx hb d_N_collect_19 rfl (lv_at hl 0 rfl) ?_
            refine lv_iload_n hx hb d_N_collect_20 rfl (lv_at hl 1 rfl) ?_
            refine lv_bipush (v := 64) hx hb d_N_collect_21 (by decide) ?_
            refine lv_iadd hx hb d_N_collect_23 ?_
            refine lv_icmp_ge (tgt := 62) hx hb d_N_collect_24 (by decide) (fun c24 => ?_) (fun c24 => ?_)
            · exact absurd c24 (by rw [nI_64]; exact nI_ge (by omega) (by omega))
            · refine lv_iload_n hx hb d_N_collect_27 rfl (lv_at hl 0 rfl) ?_
              refine lv_if_lt (tgt := 56) hx hb d_N_collect_28 (by decide) (fun c28 => ?_) (fun c28 => ?_)
              · refine lv_iinc (v := ((nI (w * 64 + j)) + 1)) (lv' := [(3, .int ((nI (w * 64 + j)) + 1)), (2, .int (nI (w * 64))), (1, .int (nI k)), (0, .ref (a 0))]) hx hb d_N_collect_56 hl (k := 0) rfl rfl (by decide) rfl (fun ls hl => ?_)
                refine lv_goto (tgt := 19) hx hb d_N_collect_59 (by decide) ?_
                rw [nI_1, Nat.add_assoc] at hl
                exact ih2 _ (j + 1) H locs (by omega) (by first | exact h5 | (rw [uq_2_5, needed_5]; exact h5)) (by rw [hr0]; rw [j_collectH]; simp only [c24, c28, Int32.not_le.mp c24, Int32.not_le.mpr c28, if_true, if_false, not_true_eq_false, not_false_eq_true, true_and, and_true, false_and, and_false, true_or, or_true, false_or, or_false, ite_true, ite_false]; rw [nI_1, Nat.add_assoc]) hP hD hS ls (lv_sub hl [0, 1, 2, 3] rfl)
              · refine lv_iload_n hx hb d_N_collect_31 rfl (lv_at hl 0 rfl) ?_
                refine lv_aload_n hx hb d_N_collect_32 rfl (lv_at hl 3 rfl) ?_
                refine va_get (D := (dC, dI)) (ci := 1) (v := .ref (a 2)) (C := R_N) (T := T_N) (N := 11) hx hb hts in_N hown hK hP 0 rfl rfl 1 (by decide) (hts _ kfl_N_25) (fun _ h9 => h9) rfl d_N_collect_33 ?_
                refine va_alen (v := nI 768) hx hb hK hP 2 0 rfl rfl rfl d_N_collect_36 ?_
                refine lv_icmp_ge (tgt := 56) hx hb d_N_collect_37 (by decide) (fun c37 => ?_) (fun c37 => ?_)
                · refine lv_iinc (v := ((nI (w * 64 + j)) + 1)) (lv' := [(3, .int ((nI (w * 64 + j)) + 1)), (2, .int (nI (w * 64))), (1, .int (nI k)), (0, .ref (a 0))]) hx hb d_N_collect_56 hl (k := 0) rfl rfl (by decide) rfl (fun ls hl => ?_)
                  refine lv_goto (tgt := 19) hx hb d_N_collect_59 (by decide) ?_
                  rw [nI_1, Nat.add_assoc] at hl
                  exact ih2 _ (j + 1) H locs (by omega) (by first | exact h5 | (rw [uq_2_5, needed_5]; exact h5)) (by rw [hr0]; rw [j_collectH]; simp only [c24, c28, c37, Int32.not_le.mp c24, Int32.not_lt.mp c28, Int32.not_lt.mpr c37, if_true, if_false, not_true_eq_false, not_false_eq_true, true_and, and_true, false_and, and_false, true_or, or_true, false_or, or_false, ite_true, ite_false]; rw [nI_1, Nat.add_assoc]) hP hD hS ls (lv_sub hl [0, 1, 2, 3] rfl)
                · refine lv_aload_n hx hb d_N_collect_40 rfl (lv_at hl 3 rfl) ?_
                  refine va_get (D := (dC, dI)) (ci := 1) (v := .ref (a 2)) (C := R_N) (T := T_N) (N := 11) hx hb hts in_N hown hK hP 0 rfl rfl 1 (by decide) (hts _ kfl_N_25) (fun _ h9 => h9) rfl d_N_collect_41 ?_
                  refine lv_iload_n hx hb d_N_collect_44 rfl (lv_at hl 0 rfl) ?_
                  refine lv_aload_n hx hb d_N_collect_45 rfl (lv_at hl 3 rfl) ?_
                  refine lv_aload_n hx hb d_N_collect_46 rfl (lv_at hl 3 rfl) ?_
                  refine va_get (D := (dC, dI)) (ci := 1) (v := .ref (a 2)) (C := R_N) (T := T_N) (N := 11) hx hb hts in_N hown hK hP 0 rfl rfl 1 (by decide) (hts _ kfl_N_25) (fun _ h9 => h9) rfl d_N_collect_47 ?_
                  refine lv_iload_n hx hb d_N_collect_50 rfl (lv_at hl 0 rfl) ?_
                  refine va_iald hx hb hK hP 2 0 rfl rfl (lt_of_in c28 c37 (by decide)) d_N_collect_51 ?_
                  refine nCalli (As := [.int (N1 2 (nI (w * 64 + j)).toNatClampNeg)]) (rest := [.int (nI (w * 64 + j)), .ref (a 2)]) ⟨hx, hb, hml, hown, hts⟩ (c_N_needed l dC dI cI a N1 _ (N1 2 (nI (w * 64 + j)).toNatClampNeg)) (cwV 1 hts (gV kml_N_103 kim_N_needed ksl_N_needed kin_N kcd_N_needed) rfl rfl rfl (by decide +kernel) ⟨Nat.le_of_ble_eq_true rfl, Nat.le_of_ble_eq_true rfl⟩) hP hK hD hS hA rfl hl.1 rfl (Nat.le_of_ble_eq_true rfl) d_N_collect_52 ⟨Nat.zero_le _, Nat.zero_le _⟩ (fun H locs hP hD hS => ?_)
                  refine nAst2 hx hb hK hP hD hS (lt_of_in c28 c37 (by decide)) d_N_collect_55 (fun H locs hP hD hS => ?_)
                  refine lv_iinc (v := ((nI (w * 64 + j)) + 1)) (lv' := [(3, .int ((nI (w * 64 + j)) + 1)), (2, .int (nI (w * 64))), (1, .int (nI k)), (0, .ref (a 0))]) hx hb d_N_collect_56 hl (k := 0) rfl rfl (by decide) rfl (fun ls hl => ?_)
                  refine lv_goto (tgt := 19) hx hb d_N_collect_59 (by decide) ?_
                  rw [nI_1, Nat.add_assoc] at hl
                  exact ih2 _ (j + 1) H locs (by omega) (by first | exact h5 | (rw [uq_2_5, needed_5]; exact h5)) (by rw [hr0]; rw [j_collectH]; simp only [c24, c28, c37, Int32.not_le.mp c24, Int32.not_lt.mp c28, Int32.not_le.mp c37, if_true, if_false, not_true_eq_false, not_false_eq_true, true_and, and_true, false_and, and_false, true_or, or_true, false_or, or_false, ite_true, ite_false]; rw [nI_1, Nat.add_assoc]) hP hD hS ls (lv_sub hl [0, 1, 2, 3] rfl)
        exact loop2 64 _ 0 H locs rfl h5 (by rw [hr0, j_collectL, ef]; rfl) hP hD hS ls (lv_sub hl [0, 1, 2, 3] rfl)
  refine lv_iconst (v := 0) hx hb d_N_collect_0 (by decide) ?_
  refine lv_istore_n (lv' := [(1, .int 0), (0, .ref (a 0))]) hx hb d_N_collect_1 rfl hl (by decide) rfl (fun ls hl => ?_)
  exact loop 12 _ 0 s.heap [] rfl rfl rfl hP hD hS ls (lv_sub hl [0, 1] rfl)
