set_option maxHeartbeats 4000000 in
set_option maxRecDepth 100000 in
/-- N_get -/
theorem c_N_get (l : Launch) (dC : Nat → ClassId) (dI : Nat → Nat → Nat) (cI : ClassId) (a : Nat → Nat) (N : Mm) (x1 x2 : Int32) : Met l y_N_get (.code y_N_get b_N_get 4 (some .int) :: W0) ({ frames := 0, cells := 0, slots := 0, locals := 0 } : Room) (va_Pc [.ref (a 0), .int x1, .int x2] (nR dC dI cI a N)) (QcRead (j_get N x1 x2)) 0 0 (fun _ => False) := by
  refine Met.ofW (cc := b_N_get) (maxL := 4) (ret := (some .int)) (by decide) rfl ?_
  intro p e s m args below meth c s₁ B hml hv
  obtain ⟨rfl, hP, hK⟩ := hv
  have hx := B.exec
  have hb := B.bytes
  have hr := B.returns
  have hts1 := atoms_spec (ws := .code y_N_get b_N_get 4 (some .int) :: W0) B.pre
  have hts : ∀ w ∈ W0, w.before _ s = true := fun w h => hts1 w (List.mem_cons_of_mem _ h)
  have hown : s.vm.findClass R_N = some m.cls := findClass_of_methodNamed B.named
  have hlocks := B.notSynchronized
  have hl := lv_entry ([.ref (a 0), .int x1, .int x2]) (n := 4) (Nat.le_of_ble_eq_true rfl)
  rw [lg_entry_eq]
  generalize (lg_sl ([.ref (a 0), .int x1, .int x2]) ++ List.replicate (4 - (lg_sl ([.ref (a 0), .int x1, .int x2])).length) Slot.unset).toArray = ls at hl ⊢
  have hl : lv_has ls 4 [(0, .ref (a 0)), (1, .int x1), (2, .int x2)] := hl
  refine lv_iload_n hx hb d_N_get_0 rfl (lv_at hl 1 rfl) ?_
  refine lv_iconst (v := 5) hx hb d_N_get_1 (by decide) ?_
  refine lv_imul hx hb d_N_get_2 ?_
  refine lv_iload_n hx hb d_N_get_3 rfl (lv_at hl 2 rfl) ?_
  refine lv_iadd hx hb d_N_get_4 ?_
  refine lv_istore_n (lv' := [(3, .int ((x1 * 5) + x2)), (0, .ref (a 0)), (1, .int x1), (2, .int x2)]) hx hb d_N_get_5 rfl hl (by decide) rfl (fun ls hl => ?_)
  refine lv_iload_n hx hb d_N_get_6 rfl (lv_at hl 0 rfl) ?_
  refine lv_if_lt (tgt := 28) hx hb d_N_get_7 (by decide) (fun c7 => ?_) (fun c7 => ?_)
  · refine lv_iconst (v := 0) hx hb d_N_get_28 (by decide) ?_
    exact W.iret (v := 0) hx hb hr (fun t ht hW => ⟨by rw [show j_get N x1 x2 = 0 from by simp only [j_get, c7, Int32.not_le.mpr c7, if_true, if_false, not_true_eq_false, not_false_eq_true, true_and, and_true, false_and, and_false, true_or, or_true, false_or, or_false, ite_true, ite_false]], ht⟩) (fun q h => by cases h) d_N_get_29
  · refine lv_iload_n hx hb d_N_get_10 rfl (lv_at hl 0 rfl) ?_
    refine lv_aload_n hx hb d_N_get_11 rfl (lv_at hl 1 rfl) ?_
    refine va_get (D := (dC, dI)) (ci := 1) (v := .ref (a 1)) (C := R_N) (T := T_N) (N := 11) hx hb hts in_N hown hK hP 0 rfl rfl 0 (by decide) (hts _ kfl_N_11) (fun _ h9 => h9) rfl d_N_get_12 ?_
    refine va_alen (v := nI (jlen N)) hx hb hK hP 1 0 rfl rfl rfl d_N_get_15 ?_
    refine lv_icmp_ge (tgt := 28) hx hb d_N_get_16 (by decide) (fun c16 => ?_) (fun c16 => ?_)
    · refine lv_iconst (v := 0) hx hb d_N_get_28 (by decide) ?_
      exact W.iret (v := 0) hx hb hr (fun t ht hW => ⟨by rw [show j_get N x1 x2 = 0 from by simp only [j_get, c7, c16, Int32.not_lt.mp c7, Int32.not_lt.mpr c16, if_true, if_false, not_true_eq_false, not_false_eq_true, true_and, and_true, false_and, and_false, true_or, or_true, false_or, or_false, ite_true, ite_false]], ht⟩) (fun q h => by cases h) d_N_get_29
    · refine lv_aload_n hx hb d_N_get_19 rfl (lv_at hl 1 rfl) ?_
      refine va_get (D := (dC, dI)) (ci := 1) (v := .ref (a 1)) (C := R_N) (T := T_N) (N := 11) hx hb hts in_N hown hK hP 0 rfl rfl 0 (by decide) (hts _ kfl_N_11) (fun _ h9 => h9) rfl d_N_get_20 ?_
      refine lv_iload_n hx hb d_N_get_23 rfl (lv_at hl 0 rfl) ?_
      refine va_iald hx hb hK hP 1 0 rfl rfl (lt_of_in c7 c16 (jlen_lt _)) d_N_get_24 ?_
      refine lv_goto (tgt := 29) hx hb d_N_get_25 (by decide) ?_
      exact W.iret (v := (N 1 ((x1 * 5) + x2).toNatClampNeg)) hx hb hr (fun t ht hW => ⟨by rw [show j_get N x1 x2 = N 1 ((x1 * 5) + x2).toNatClampNeg from by simp only [j_get, c7, c16, Int32.not_lt.mp c7, Int32.not_le.mp c16, if_true, if_false, not_true_eq_false, not_false_eq_true, true_and, and_true, false_and, and_false, true_or, or_true, false_or, or_false, ite_true, ite_false]], ht⟩) (fun q h => by cases h) d_N_get_29

set_option maxHeartbeats 4000000 in
set_option maxRecDepth 100000 in
/-- N_set -/
theorem c_N_set (l : Launch) (dC : Nat → ClassId) (dI : Nat → Nat → Nat) (cI : ClassId) (a : Nat → Nat) (N : Mm) (sz : Nat) (x1 x2 x3 : Int32) : Met l y_N_set (.code y_N_set b_N_set 5 none :: W0) ({ frames := 0, cells := 0, slots := 0, locals := 0 } : Room) (va_Pc [.ref (a 0), .int x1, .int x2, .int x3] (nM dC dI cI a N sz)) (va_Qv (fun _ : Unit => True) (fun _ t => nE dC dI cI a (j_set N x1 x2 x3) (va_A (nW cI a N) sz) t) (va_A (nW cI a N) sz)) 0 0 (va_A (nW cI a N) sz) := by
  refine Met.ofW (cc := b_N_set) (maxL := 5) (ret := none) (by decide) rfl ?_
  intro p e s m args below meth c s₁ B hml hv
  obtain ⟨rfl, hsz, hP, hK, hD0⟩ := hv
  have hx := B.exec
  have hb := B.bytes
  have hr := B.returns
  have hts1 := atoms_spec (ws := .code y_N_set b_N_set 5 none :: W0) B.pre
  have hts : ∀ w ∈ W0, w.before _ s = true := fun w h => hts1 w (List.mem_cons_of_mem _ h)
  have hown : s.vm.findClass R_N = some m.cls := findClass_of_methodNamed B.named
  have hlocks := B.notSynchronized
  subst hsz
  have hD := hD0.self (sz := s.heap.size)
  generalize hAe : va_A (nW cI a N) s.heap.size = A at hD ⊢
  have hA : ∀ q : Nat, s.heap.size ≤ q → A q := fun q h => by rw [← hAe]; exact Or.inr h
  have hS : va_S A s.heap s.heap [] := va_S.rf
  have hP : va_P (dC, dI) cls0 (nW cI a N) s.heap := hP
  have hl := lv_entry ([.ref (a 0), .int x1, .int x2, .int x3]) (n := 5) (Nat.le_of_ble_eq_true rfl)
  rw [lg_entry_eq]
  generalize (lg_sl ([.ref (a 0), .int x1, .int x2, .int x3]) ++ List.replicate (5 - (lg_sl ([.ref (a 0), .int x1, .int x2, .int x3])).length) Slot.unset).toArray = ls at hl ⊢
  have hl : lv_has ls 5 [(0, .ref (a 0)), (1, .int x1), (2, .int x2), (3, .int x3)] := hl
  refine lv_iload_n hx hb d_N_set_0 rfl (lv_at hl 1 rfl) ?_
  refine lv_iconst (v := 5) hx hb d_N_set_1 (by decide) ?_
  refine lv_imul hx hb d_N_set_2 ?_
  refine lv_iload_n hx hb d_N_set_3 rfl (lv_at hl 2 rfl) ?_
  refine lv_iadd hx hb d_N_set_4 ?_
  refine lv_istore (lv' := [(4, .int ((x1 * 5) + x2)), (0, .ref (a 0)), (1, .int x1), (2, .int x2), (3, .int x3)]) hx hb d_N_set_5 hl (by decide) rfl (fun ls hl => ?_)
  refine lv_iload hx hb d_N_set_7 (lv_at hl 0 rfl) ?_
  refine lv_if_lt (tgt := 30) hx hb d_N_set_9 (by decide) (fun c9 => ?_) (fun c9 => ?_)
  · have hP9 : va_P (dC, dI) cls0 (nW cI a (j_set N x1 x2 x3)) _ := (show N = j_set N x1 x2 x3 from by simp only [j_set, c9, Int32.not_le.mpr c9, if_true, if_false, not_true_eq_false, not_false_eq_true, true_and, and_true, false_and, and_false, true_or, or_true, false_or, or_false, ite_true, ite_false]) ▸ hP
    have hD9 : va_D A (nW cI a (j_set N x1 x2 x3)) := (show N = j_set N x1 x2 x3 from by simp only [j_set, c9, Int32.not_le.mpr c9, if_true, if_false, not_true_eq_false, not_false_eq_true, true_and, and_true, false_and, and_false, true_or, or_true, false_or, or_false, ite_true, ite_false]) ▸ hD
    exact W.vret hx hb hr (fun t ht hW => ⟨⟨(), rfl, trivial, by rw [ht]; exact hP9, va_K.moved hW.alike hK, hD9⟩, hS.F ht⟩) hS.2.2 d_N_set_30
  · refine lv_iload hx hb d_N_set_12 (lv_at hl 0 rfl) ?_
    refine lv_aload_n hx hb d_N_set_14 rfl (lv_at hl 1 rfl) ?_
    refine va_get (D := (dC, dI)) (ci := 1) (v := .ref (a 1)) (C := R_N) (T := T_N) (N := 11) hx hb hts in_N hown hK hP 0 rfl rfl 0 (by decide) (hts _ kfl_N_11) (fun _ h9 => h9) rfl d_N_set_15 ?_
    refine va_alen (v := nI (jlen N)) hx hb hK hP 1 0 rfl rfl rfl d_N_set_18 ?_
    refine lv_icmp_ge (tgt := 30) hx hb d_N_set_19 (by decide) (fun c19 => ?_) (fun c19 => ?_)
    · have hP9 : va_P (dC, dI) cls0 (nW cI a (j_set N x1 x2 x3)) _ := (show N = j_set N x1 x2 x3 from by simp only [j_set, c9, c19, Int32.not_lt.mp c9, Int32.not_lt.mpr c19, if_true, if_false, not_true_eq_false, not_false_eq_true, true_and, and_true, false_and, and_false, true_or, or_true, false_or, or_false, ite_true, ite_false]) ▸ hP
      have hD9 : va_D A (nW cI a (j_set N x1 x2 x3)) := (show N = j_set N x1 x2 x3 from by simp only [j_set, c9, c19, Int32.not_lt.mp c9, Int32.not_lt.mpr c19, if_true, if_false, not_true_eq_false, not_false_eq_true, true_and, and_true, false_and, and_false, true_or, or_true, false_or, or_false, ite_true, ite_false]) ▸ hD
      exact W.vret hx hb hr (fun t ht hW => ⟨⟨(), rfl, trivial, by rw [ht]; exact hP9, va_K.moved hW.alike hK, hD9⟩, hS.F ht⟩) hS.2.2 d_N_set_30
    · refine lv_aload_n hx hb d_N_set_22 rfl (lv_at hl 1 rfl) ?_
      refine va_get (D := (dC, dI)) (ci := 1) (v := .ref (a 1)) (C := R_N) (T := T_N) (N := 11) hx hb hts in_N hown hK hP 0 rfl rfl 0 (by decide) (hts _ kfl_N_11) (fun _ h9 => h9) rfl d_N_set_23 ?_
      refine lv_iload hx hb d_N_set_26 (lv_at hl 0 rfl) ?_
      refine lv_iload_n hx hb d_N_set_28 rfl (lv_at hl 4 rfl) ?_
      refine nAst1 hx hb hK hP hD hS (lt_of_in c9 c19 (jlen_lt _)) d_N_set_29 (fun H locs hP hD hS => ?_)
      have hP9 : va_P (dC, dI) cls0 (nW cI a (j_set N x1 x2 x3)) _ := (show up N 1 ((x1 * 5) + x2).toNatClampNeg x3 = j_set N x1 x2 x3 from by simp only [j_set, c9, c19, Int32.not_lt.mp c9, Int32.not_le.mp c19, if_true, if_false, not_true_eq_false, not_false_eq_true, true_and, and_true, false_and, and_false, true_or, or_true, false_or, or_false, ite_true, ite_false]) ▸ hP
      have hD9 : va_D A (nW cI a (j_set N x1 x2 x3)) := (show up N 1 ((x1 * 5) + x2).toNatClampNeg x3 = j_set N x1 x2 x3 from by simp only [j_set, c9, c19, Int32.not_lt.mp c9, Int32.not_le.mp c19, if_true, if_false, not_true_eq_false, not_false_eq_true, true_and, and_true, false_and, and_false, true_or, or_true, false_or, or_false, ite_true, ite_false]) ▸ hD
      exact W.vret hx hb hr (fun t ht hW => ⟨⟨(), rfl, trivial, by rw [ht]; exact hP9, va_K.moved hW.alike hK, hD9⟩, hS.F ht⟩) hS.2.2 d_N_set_30

set_option maxHeartbeats 4000000 in
set_option maxRecDepth 100000 in
/-- N_size -/
theorem c_N_size (l : Launch) (dC : Nat → ClassId) (dI : Nat → Nat → Nat) (cI : ClassId) (a : Nat → Nat) (N : Mm) : Met l y_N_size (.code y_N_size b_N_size 1 (some .int) :: W0) ({ frames := 0, cells := 0, slots := 0, locals := 0 } : Room) (va_Pc [.ref (a 0)] (nR dC dI cI a N)) (QcRead (N 0 3)) 0 0 (fun _ => False) := by
  refine Met.ofW (cc := b_N_size) (maxL := 1) (ret := (some .int)) (by decide) rfl ?_
  intro p e s m args below meth c s₁ B hml hv
  obtain ⟨rfl, hP, hK⟩ := hv
  have hx := B.exec
  have hb := B.bytes
  have hr := B.returns
  have hts1 := atoms_spec (ws := .code y_N_size b_N_size 1 (some .int) :: W0) B.pre
  have hts : ∀ w ∈ W0, w.before _ s = true := fun w h => hts1 w (List.mem_cons_of_mem _ h)
  have hown : s.vm.findClass R_N = some m.cls := findClass_of_methodNamed B.named
  have hlocks := B.notSynchronized
  have hl := lv_entry ([.ref (a 0)]) (n := 1) (Nat.le_of_ble_eq_true rfl)
  rw [lg_entry_eq]
  generalize (lg_sl ([.ref (a 0)]) ++ List.replicate (1 - (lg_sl ([.ref (a 0)])).length) Slot.unset).toArray = ls at hl ⊢
  have hl : lv_has ls 1 [(0, .ref (a 0))] := hl
  refine lv_aload_n hx hb d_N_size_0 rfl (lv_at hl 0 rfl) ?_
  refine va_get (D := (dC, dI)) (ci := 1) (v := .int (N 0 3)) (C := R_N) (T := T_N) (N := 11) hx hb hts in_N hown hK hP 0 rfl rfl 8 (by decide) (hts _ kfl_N_40) (fun _ h9 => h9) rfl d_N_size_1 ?_
  exact W.iret (v := (N 0 3)) hx hb hr (fun t ht hW => ⟨by rw [show N 0 3 = N 0 3 from by rfl], ht⟩) (fun q h => by cases h) d_N_size_4

set_option maxHeartbeats 4000000 in
set_option maxRecDepth 100000 in
/-- N_rewritten -/
theorem c_N_rewritten (l : Launch) (dC : Nat → ClassId) (dI : Nat → Nat → Nat) (cI : ClassId) (a : Nat → Nat) (N : Mm) : Met l y_N_rewritten (.code y_N_rewritten b_N_rewritten 1 (some .int) :: W0) ({ frames := 0, cells := 0, slots := 0, locals := 0 } : Room) (va_Pc [.ref (a 0)] (nR dC dI cI a N)) (QcRead (N 0 5)) 0 0 (fun _ => False) := by
  refine Met.ofW (cc := b_N_rewritten) (maxL := 1) (ret := (some .int)) (by decide) rfl ?_
  intro p e s m args below meth c s₁ B hml hv
  obtain ⟨rfl, hP, hK⟩ := hv
  have hx := B.exec
  have hb := B.bytes
  have hr := B.returns
  have hts1 := atoms_spec (ws := .code y_N_rewritten b_N_rewritten 1 (some .int) :: W0) B.pre
  have hts : ∀ w ∈ W0, w.before _ s = true := fun w h => hts1 w (List.mem_cons_of_mem _ h)
  have hown : s.vm.findClass R_N = some m.cls := findClass_of_methodNamed B.named
  have hlocks := B.notSynchronized
  have hl := lv_entry ([.ref (a 0)]) (n := 1) (Nat.le_of_ble_eq_true rfl)
  rw [lg_entry_eq]
  generalize (lg_sl ([.ref (a 0)]) ++ List.replicate (1 - (lg_sl ([.ref (a 0)])).length) Slot.unset).toArray = ls at hl ⊢
  have hl : lv_has ls 1 [(0, .ref (a 0))] := hl
  refine lv_aload_n hx hb d_N_rewritten_0 rfl (lv_at hl 0 rfl) ?_
  refine va_get (D := (dC, dI)) (ci := 1) (v := .int (N 0 5)) (C := R_N) (T := T_N) (N := 11) hx hb hts in_N hown hK hP 0 rfl rfl 10 (by decide) (hts _ kfl_N_43) (fun _ h9 => h9) rfl d_N_rewritten_1 ?_
  exact W.iret (v := (N 0 5)) hx hb hr (fun t ht hW => ⟨by rw [show N 0 5 = N 0 5 from by rfl], ht⟩) (fun q h => by cases h) d_N_rewritten_4

set_option maxHeartbeats 4000000 in
set_option maxRecDepth 100000 in
/-- N_askedBy -/
theorem c_N_askedBy (l : Launch) (dC : Nat → ClassId) (dI : Nat → Nat → Nat) (cI : ClassId) (a : Nat → Nat) (N : Mm) (x1 : Int32) : Met l y_N_askedBy (.code y_N_askedBy b_N_askedBy 2 (some .int) :: W0) ({ frames := 1, cells := 0, slots := 0, locals := 23 } : Room) (va_Pc [.ref (a 0), .int x1] (nR dC dI cI a N)) (QcRead (j_get N x1 0)) 0 0 (fun _ => False) := by
  refine Met.ofW (cc := b_N_askedBy) (maxL := 2) (ret := (some .int)) (by decide) rfl ?_
  intro p e s m args below meth c s₁ B hml hv
  obtain ⟨rfl, hP, hK⟩ := hv
  have hx := B.exec
  have hb := B.bytes
  have hr := B.returns
  have hts1 := atoms_spec (ws := .code y_N_askedBy b_N_askedBy 2 (some .int) :: W0) B.pre
  have hts : ∀ w ∈ W0, w.before _ s = true := fun w h => hts1 w (List.mem_cons_of_mem _ h)
  have hown : s.vm.findClass R_N = some m.cls := findClass_of_methodNamed B.named
  have hlocks := B.notSynchronized
  have hl := lv_entry ([.ref (a 0), .int x1]) (n := 2) (Nat.le_of_ble_eq_true rfl)
  rw [lg_entry_eq]
  generalize (lg_sl ([.ref (a 0), .int x1]) ++ List.replicate (2 - (lg_sl ([.ref (a 0), .int x1])).length) Slot.unset).toArray = ls at hl ⊢
  have hl : lv_has ls 2 [(0, .ref (a 0)), (1, .int x1)] := hl
  refine lv_aload_n hx hb d_N_askedBy_0 rfl (lv_at hl 0 rfl) ?_
  refine lv_iload_n hx hb d_N_askedBy_1 rfl (lv_at hl 1 rfl) ?_
  refine lv_iconst (v := 0) hx hb d_N_askedBy_2 (by decide) ?_
  refine nCallR (As := [.int x1, .int 0]) (rest := []) ⟨hx, hb, hml, hown, hts⟩ (c_N_get l dC dI cI a N x1 0) (cwV 2 hts (gV kml_N_46 kim_N_get ksl_N_get kin_N kcd_N_get) rfl rfl rfl (by decide +kernel) ⟨Nat.le_of_ble_eq_true rfl, Nat.le_of_ble_eq_true rfl⟩) hP hK rfl hl.1 rfl (Nat.le_of_ble_eq_true rfl) d_N_askedBy_3 ⟨Nat.zero_le _, Nat.zero_le _⟩ ?_
  exact W.iret (v := (j_get N x1 0)) hx hb hr (fun t ht hW => ⟨by rw [show j_get N x1 0 = j_get N x1 0 from by rfl], ht⟩) (fun q h => by cases h) d_N_askedBy_6

set_option maxHeartbeats 4000000 in
set_option maxRecDepth 100000 in
/-- N_lowFor -/
theorem c_N_lowFor (l : Launch) (dC : Nat → ClassId) (dI : Nat → Nat → Nat) (cI : ClassId) (a : Nat → Nat) (N : Mm) (x1 x2 : Int32) : Met l y_N_lowFor (.code y_N_lowFor b_N_lowFor 3 (some .int) :: W0) ({ frames := 1, cells := 0, slots := 0, locals := 23 } : Room) (va_Pc [.ref (a 0), .int x1, .int x2] (nR dC dI cI a N)) (QcRead (j_lowFor N x1 x2)) 0 0 (fun _ => False) := by
  refine Met.ofW (cc := b_N_lowFor) (maxL := 3) (ret := (some .int)) (by decide) rfl ?_
  intro p e s m args below meth c s₁ B hml hv
  obtain ⟨rfl, hP, hK⟩ := hv
  have hx := B.exec
  have hb := B.bytes
  have hr := B.returns
  have hts1 := atoms_spec (ws := .code y_N_lowFor b_N_lowFor 3 (some .int) :: W0) B.pre
  have hts : ∀ w ∈ W0, w.before _ s = true := fun w h => hts1 w (List.mem_cons_of_mem _ h)
  have hown : s.vm.findClass R_N = some m.cls := findClass_of_methodNamed B.named
  have hlocks := B.notSynchronized
  have hl := lv_entry ([.ref (a 0), .int x1, .int x2]) (n := 3) (Nat.le_of_ble_eq_true rfl)
  rw [lg_entry_eq]
  generalize (lg_sl ([.ref (a 0), .int x1, .int x2]) ++ List.replicate (3 - (lg_sl ([.ref (a 0), .int x1, .int x2])).length) Slot.unset).toArray = ls at hl ⊢
  have hl : lv_has ls 3 [(0, .ref (a 0)), (1, .int x1), (2, .int x2)] := hl
  refine lv_aload_n hx hb d_N_lowFor_0 rfl (lv_at hl 0 rfl) ?_
  refine lv_iload_n hx hb d_N_lowFor_1 rfl (lv_at hl 1 rfl) ?_
  refine lv_iconst (v := 0) hx hb d_N_lowFor_2 (by decide) ?_
  refine nCallR (As := [.int x1, .int 0]) (rest := []) ⟨hx, hb, hml, hown, hts⟩ (c_N_get l dC dI cI a N x1 0) (cwV 2 hts (gV kml_N_46 kim_N_get ksl_N_get kin_N kcd_N_get) rfl rfl rfl (by decide +kernel) ⟨Nat.le_of_ble_eq_true rfl, Nat.le_of_ble_eq_true rfl⟩) hP hK rfl hl.1 rfl (Nat.le_of_ble_eq_true rfl) d_N_lowFor_3 ⟨Nat.zero_le _, Nat.zero_le _⟩ ?_
  refine lv_iload_n hx hb d_N_lowFor_6 rfl (lv_at hl 2 rfl) ?_
  refine lv_icmp_ne (tgt := 19) hx hb d_N_lowFor_7 (by decide) (fun c7 => ?_) (fun c7 => ?_)
  · refine lv_iload_n hx hb d_N_lowFor_19 rfl (lv_at hl 1 rfl) ?_
    exact W.iret (v := x1) hx hb hr (fun t ht hW => ⟨by rw [show j_lowFor N x1 x2 = x1 from by simp only [j_lowFor, c7, if_true, if_false, not_true_eq_false, not_false_eq_true, true_and, and_true, false_and, and_false, true_or, or_true, false_or, or_false, ite_true, ite_false]], ht⟩) (fun q h => by cases h) d_N_lowFor_20
  · refine lv_aload_n hx hb d_N_lowFor_10 rfl (lv_at hl 0 rfl) ?_
    refine lv_iload_n hx hb d_N_lowFor_11 rfl (lv_at hl 1 rfl) ?_
    refine lv_iconst (v := 1) hx hb d_N_lowFor_12 (by decide) ?_
    refine nCallR (As := [.int x1, .int 1]) (rest := []) ⟨hx, hb, hml, hown, hts⟩ (c_N_get l dC dI cI a N x1 1) (cwV 2 hts (gV kml_N_46 kim_N_get ksl_N_get kin_N kcd_N_get) rfl rfl rfl (by decide +kernel) ⟨Nat.le_of_ble_eq_true rfl, Nat.le_of_ble_eq_true rfl⟩) hP hK rfl hl.1 rfl (Nat.le_of_ble_eq_true rfl) d_N_lowFor_13 ⟨Nat.zero_le _, Nat.zero_le _⟩ ?_
    refine lv_goto (tgt := 20) hx hb d_N_lowFor_16 (by decide) ?_
    exact W.iret (v := (j_get N x1 1)) hx hb hr (fun t ht hW => ⟨by rw [show j_lowFor N x1 x2 = j_get N x1 1 from by simp only [j_lowFor, c7, if_true, if_false, not_true_eq_false, not_false_eq_true, true_and, and_true, false_and, and_false, true_or, or_true, false_or, or_false, ite_true, ite_false]], ht⟩) (fun q h => by cases h) d_N_lowFor_20

set_option maxHeartbeats 4000000 in
set_option maxRecDepth 100000 in
/-- N_highFor -/
theorem c_N_highFor (l : Launch) (dC : Nat → ClassId) (dI : Nat → Nat → Nat) (cI : ClassId) (a : Nat → Nat) (N : Mm) (x1 x2 : Int32) : Met l y_N_highFor (.code y_N_highFor b_N_highFor 3 (some .int) :: W0) ({ frames := 1, cells := 0, slots := 0, locals := 23 } : Room) (va_Pc [.ref (a 0), .int x1, .int x2] (nR dC dI cI a N)) (QcRead (j_highFor N x1 x2)) 0 0 (fun _ => False) := by
  refine Met.ofW (cc := b_N_highFor) (maxL := 3) (ret := (some .int)) (by decide) rfl ?_
  intro p e s m args below meth c s₁ B hml hv
  obtain ⟨rfl, hP, hK⟩ := hv
  have hx := B.exec
  have hb := B.bytes
  have hr := B.returns
  have hts1 := atoms_spec (ws := .code y_N_highFor b_N_highFor 3 (some .int) :: W0) B.pre
  have hts : ∀ w ∈ W0, w.before _ s = true := fun w h => hts1 w (List.mem_cons_of_mem _ h)
  have hown : s.vm.findClass R_N = some m.cls := findClass_of_methodNamed B.named
  have hlocks := B.notSynchronized
  have hl := lv_entry ([.ref (a 0), .int x1, .int x2]) (n := 3) (Nat.le_of_ble_eq_true rfl)
  rw [lg_entry_eq]
  generalize (lg_sl ([.ref (a 0), .int x1, .int x2]) ++ List.replicate (3 - (lg_sl ([.ref (a 0), .int x1, .int x2])).length) Slot.unset).toArray = ls at hl ⊢
  have hl : lv_has ls 3 [(0, .ref (a 0)), (1, .int x1), (2, .int x2)] := hl
  refine lv_aload_n hx hb d_N_highFor_0 rfl (lv_at hl 0 rfl) ?_
  refine lv_iload_n hx hb d_N_highFor_1 rfl (lv_at hl 1 rfl) ?_
  refine lv_iconst (v := 0) hx hb d_N_highFor_2 (by decide) ?_
  refine nCallR (As := [.int x1, .int 0]) (rest := []) ⟨hx, hb, hml, hown, hts⟩ (c_N_get l dC dI cI a N x1 0) (cwV 2 hts (gV kml_N_46 kim_N_get ksl_N_get kin_N kcd_N_get) rfl rfl rfl (by decide +kernel) ⟨Nat.le_of_ble_eq_true rfl, Nat.le_of_ble_eq_true rfl⟩) hP hK rfl hl.1 rfl (Nat.le_of_ble_eq_true rfl) d_N_highFor_3 ⟨Nat.zero_le _, Nat.zero_le _⟩ ?_
  refine lv_iload_n hx hb d_N_highFor_6 rfl (lv_at hl 2 rfl) ?_
  refine lv_icmp_ne (tgt := 19) hx hb d_N_highFor_7 (by decide) (fun c7 => ?_) (fun c7 => ?_)
  · refine lv_iload_n hx hb d_N_highFor_19 rfl (lv_at hl 1 rfl) ?_
    exact W.iret (v := x1) hx hb hr (fun t ht hW => ⟨by rw [show j_highFor N x1 x2 = x1 from by simp only [j_highFor, c7, if_true, if_false, not_true_eq_false, not_false_eq_true, true_and, and_true, false_and, and_false, true_or, or_true, false_or, or_false, ite_true, ite_false]], ht⟩) (fun q h => by cases h) d_N_highFor_20
  · refine lv_aload_n hx hb d_N_highFor_10 rfl (lv_at hl 0 rfl) ?_
    refine lv_iload_n hx hb d_N_highFor_11 rfl (lv_at hl 1 rfl) ?_
    refine lv_iconst (v := 2) hx hb d_N_highFor_12 (by decide) ?_
    refine nCallR (As := [.int x1, .int 2]) (rest := []) ⟨hx, hb, hml, hown, hts⟩ (c_N_get l dC dI cI a N x1 2) (cwV 2 hts (gV kml_N_46 kim_N_get ksl_N_get kin_N kcd_N_get) rfl rfl rfl (by decide +kernel) ⟨Nat.le_of_ble_eq_true rfl, Nat.le_of_ble_eq_true rfl⟩) hP hK rfl hl.1 rfl (Nat.le_of_ble_eq_true rfl) d_N_highFor_13 ⟨Nat.zero_le _, Nat.zero_le _⟩ ?_
    refine lv_goto (tgt := 20) hx hb d_N_highFor_16 (by decide) ?_
    exact W.iret (v := (j_get N x1 2)) hx hb hr (fun t ht hW => ⟨by rw [show j_highFor N x1 x2 = j_get N x1 2 from by simp only [j_highFor, c7, if_true, if_false, not_true_eq_false, not_false_eq_true, true_and, and_true, false_and, and_false, true_or, or_true, false_or, or_false, ite_true, ite_false]], ht⟩) (fun q h => by cases h) d_N_highFor_20

set_option maxHeartbeats 4000000 in
set_option maxRecDepth 100000 in
/-- N_levelOf -/
theorem c_N_levelOf (l : Launch) (dC : Nat → ClassId) (dI : Nat → Nat → Nat) (cI : ClassId) (a : Nat → Nat) (N : Mm) (x1 : Int32) : Met l y_N_levelOf (.code y_N_levelOf b_N_levelOf 2 (some .int) :: W0) ({ frames := 0, cells := 0, slots := 0, locals := 0 } : Room) (va_Pc [.ref (a 0), .int x1] (nR dC dI cI a N)) (QcRead (j_levelOf N x1)) 0 0 (fun _ => False) := by
  refine Met.ofW (cc := b_N_levelOf) (maxL := 2) (ret := (some .int)) (by decide) rfl ?_
  intro p e s m args below meth c s₁ B hml hv
  obtain ⟨rfl, hP, hK⟩ := hv
  have hx := B.exec
  have hb := B.bytes
  have hr := B.returns
  have hts1 := atoms_spec (ws := .code y_N_levelOf b_N_levelOf 2 (some .int) :: W0) B.pre
  have hts : ∀ w ∈ W0, w.before _ s = true := fun w h => hts1 w (List.mem_cons_of_mem _ h)
  have hown : s.vm.findClass R_N = some m.cls := findClass_of_methodNamed B.named
  have hlocks := B.notSynchronized
  have hl := lv_entry ([.ref (a 0), .int x1]) (n := 2) (Nat.le_of_ble_eq_true rfl)
  rw [lg_entry_eq]
  generalize (lg_sl ([.ref (a 0), .int x1]) ++ List.replicate (2 - (lg_sl ([.ref (a 0), .int x1])).length) Slot.unset).toArray = ls at hl ⊢
  have hl : lv_has ls 2 [(0, .ref (a 0)), (1, .int x1)] := hl
  refine lv_iload_n hx hb d_N_levelOf_0 rfl (lv_at hl 1 rfl) ?_
  refine lv_if_lt (tgt := 22) hx hb d_N_levelOf_1 (by decide) (fun c1 => ?_) (fun c1 => ?_)
  · refine lv_bipush (v := 12) hx hb d_N_levelOf_22 (by decide) ?_
    exact W.iret (v := 12) hx hb hr (fun t ht hW => ⟨by rw [show j_levelOf N x1 = 12 from by simp only [j_levelOf, c1, Int32.not_le.mpr c1, if_true, if_false, not_true_eq_false, not_false_eq_true, true_and, and_true, false_and, and_false, true_or, or_true, false_or, or_false, ite_true, ite_false]], ht⟩) (fun q h => by cases h) d_N_levelOf_24
  · refine lv_iload_n hx hb d_N_levelOf_4 rfl (lv_at hl 1 rfl) ?_
    refine lv_aload_n hx hb d_N_levelOf_5 rfl (lv_at hl 0 rfl) ?_
    refine va_get (D := (dC, dI)) (ci := 1) (v := .ref (a 4)) (C := R_N) (T := T_N) (N := 11) hx hb hts in_N hown hK hP 0 rfl rfl 3 (by decide) (hts _ kfl_N_31) (fun _ h9 => h9) rfl d_N_levelOf_6 ?_
    refine va_alen (v := nI 13) hx hb hK hP 4 0 rfl rfl rfl d_N_levelOf_9 ?_
    refine lv_icmp_ge (tgt := 22) hx hb d_N_levelOf_10 (by decide) (fun c10 => ?_) (fun c10 => ?_)
    · refine lv_bipush (v := 12) hx hb d_N_levelOf_22 (by decide) ?_
      exact W.iret (v := 12) hx hb hr (fun t ht hW => ⟨by rw [show j_levelOf N x1 = 12 from by simp only [j_levelOf, c1, c10, Int32.not_lt.mp c1, Int32.not_lt.mpr c10, if_true, if_false, not_true_eq_false, not_false_eq_true, true_and, and_true, false_and, and_false, true_or, or_true, false_or, or_false, ite_true, ite_false]], ht⟩) (fun q h => by cases h) d_N_levelOf_24
    · refine lv_aload_n hx hb d_N_levelOf_13 rfl (lv_at hl 0 rfl) ?_
      refine va_get (D := (dC, dI)) (ci := 1) (v := .ref (a 4)) (C := R_N) (T := T_N) (N := 11) hx hb hts in_N hown hK hP 0 rfl rfl 3 (by decide) (hts _ kfl_N_31) (fun _ h9 => h9) rfl d_N_levelOf_14 ?_
      refine lv_iload_n hx hb d_N_levelOf_17 rfl (lv_at hl 1 rfl) ?_
      refine va_iald hx hb hK hP 4 0 rfl rfl (lt_of_in c1 c10 (by decide)) d_N_levelOf_18 ?_
      refine lv_goto (tgt := 24) hx hb d_N_levelOf_19 (by decide) ?_
      exact W.iret (v := (N 4 x1.toNatClampNeg)) hx hb hr (fun t ht hW => ⟨by rw [show j_levelOf N x1 = N 4 x1.toNatClampNeg from by simp only [j_levelOf, c1, c10, Int32.not_lt.mp c1, Int32.not_le.mp c10, if_true, if_false, not_true_eq_false, not_false_eq_true, true_and, and_true, false_and, and_false, true_or, or_true, false_or, or_false, ite_true, ite_false]], ht⟩) (fun q h => by cases h) d_N_levelOf_24

set_option maxHeartbeats 4000000 in
set_option maxRecDepth 100000 in
/-- N_variableAt -/
theorem c_N_variableAt (l : Launch) (dC : Nat → ClassId) (dI : Nat → Nat → Nat) (cI : ClassId) (a : Nat → Nat) (N : Mm) (x1 : Int32) : Met l y_N_variableAt (.code y_N_variableAt b_N_variableAt 2 (some .int) :: W0) ({ frames := 0, cells := 0, slots := 0, locals := 0 } : Room) (va_Pc [.ref (a 0), .int x1] (nR dC dI cI a N)) (QcRead (j_variableAt N x1)) 0 0 (fun _ => False) := by
  refine Met.ofW (cc := b_N_variableAt) (maxL := 2) (ret := (some .int)) (by decide) rfl ?_
  intro p e s m args below meth c s₁ B hml hv
  obtain ⟨rfl, hP, hK⟩ := hv
  have hx := B.exec
  have hb := B.bytes
  have hr := B.returns
  have hts1 := atoms_spec (ws := .code y_N_variableAt b_N_variableAt 2 (some .int) :: W0) B.pre
  have hts : ∀ w ∈ W0, w.before _ s = true := fun w h => hts1 w (List.mem_cons_of_mem _ h)
  have hown : s.vm.findClass R_N = some m.cls := findClass_of_methodNamed B.named
  have hlocks := B.notSynchronized
  have hl := lv_entry ([.ref (a 0), .int x1]) (n := 2) (Nat.le_of_ble_eq_true rfl)
  rw [lg_entry_eq]
  generalize (lg_sl ([.ref (a 0), .int x1]) ++ List.replicate (2 - (lg_sl ([.ref (a 0), .int x1])).length) Slot.unset).toArray = ls at hl ⊢
  have hl : lv_has ls 2 [(0, .ref (a 0)), (1, .int x1)] := hl
  refine lv_iload_n hx hb d_N_variableAt_0 rfl (lv_at hl 1 rfl) ?_
  refine lv_if_lt (tgt := 22) hx hb d_N_variableAt_1 (by decide) (fun c1 => ?_) (fun c1 => ?_)
  · refine lv_bipush (v := 12) hx hb d_N_variableAt_22 (by decide) ?_
    exact W.iret (v := 12) hx hb hr (fun t ht hW => ⟨by rw [show j_variableAt N x1 = 12 from by simp only [j_variableAt, c1, Int32.not_le.mpr c1, if_true, if_false, not_true_eq_false, not_false_eq_true, true_and, and_true, false_and, and_false, true_or, or_true, false_or, or_false, ite_true, ite_false]], ht⟩) (fun q h => by cases h) d_N_variableAt_24
  · refine lv_iload_n hx hb d_N_variableAt_4 rfl (lv_at hl 1 rfl) ?_
    refine lv_aload_n hx hb d_N_variableAt_5 rfl (lv_at hl 0 rfl) ?_
    refine va_get (D := (dC, dI)) (ci := 1) (v := .ref (a 5)) (C := R_N) (T := T_N) (N := 11) hx hb hts in_N hown hK hP 0 rfl rfl 4 (by decide) (hts _ kfl_N_34) (fun _ h9 => h9) rfl d_N_variableAt_6 ?_
    refine va_alen (v := nI 13) hx hb hK hP 5 0 rfl rfl rfl d_N_variableAt_9 ?_
    refine lv_icmp_ge (tgt := 22) hx hb d_N_variableAt_10 (by decide) (fun c10 => ?_) (fun c10 => ?_)
    · refine lv_bipush (v := 12) hx hb d_N_variableAt_22 (by decide) ?_
      exact W.iret (v := 12) hx hb hr (fun t ht hW => ⟨by rw [show j_variableAt N x1 = 12 from by simp only [j_variableAt, c1, c10, Int32.not_lt.mp c1, Int32.not_lt.mpr c10, if_true, if_false, not_true_eq_false, not_false_eq_true, true_and, and_true, false_and, and_false, true_or, or_true, false_or, or_false, ite_true, ite_false]], ht⟩) (fun q h => by cases h) d_N_variableAt_24
    · refine lv_aload_n hx hb d_N_variableAt_13 rfl (lv_at hl 0 rfl) ?_
      refine va_get (D := (dC, dI)) (ci := 1) (v := .ref (a 5)) (C := R_N) (T := T_N) (N := 11) hx hb hts in_N hown hK hP 0 rfl rfl 4 (by decide) (hts _ kfl_N_34) (fun _ h9 => h9) rfl d_N_variableAt_14 ?_
      refine lv_iload_n hx hb d_N_variableAt_17 rfl (lv_at hl 1 rfl) ?_
      refine va_iald hx hb hK hP 5 0 rfl rfl (lt_of_in c1 c10 (by decide)) d_N_variableAt_18 ?_
      refine lv_goto (tgt := 24) hx hb d_N_variableAt_19 (by decide) ?_
      exact W.iret (v := (N 5 x1.toNatClampNeg)) hx hb hr (fun t ht hW => ⟨by rw [show j_variableAt N x1 = N 5 x1.toNatClampNeg from by simp only [j_variableAt, c1, c10, Int32.not_lt.mp c1, Int32.not_le.mp c10, if_true, if_false, not_true_eq_false, not_false_eq_true, true_and, and_true, false_and, and_false, true_or, or_true, false_or, or_false, ite_true, ite_false]], ht⟩) (fun q h => by cases h) d_N_variableAt_24

set_option maxHeartbeats 4000000 in
set_option maxRecDepth 100000 in
/-- N_heldFor -/
theorem c_N_heldFor (l : Launch) (dC : Nat → ClassId) (dI : Nat → Nat → Nat) (cI : ClassId) (a : Nat → Nat) (N : Mm) (x1 : Int32) : Met l y_N_heldFor (.code y_N_heldFor b_N_heldFor 2 (some .int) :: W0) ({ frames := 0, cells := 0, slots := 0, locals := 0 } : Room) (va_Pc [.ref (a 0), .int x1] (nR dC dI cI a N)) (QcRead (j_heldFor N x1)) 0 0 (fun _ => False) := by
  refine Met.ofW (cc := b_N_heldFor) (maxL := 2) (ret := (some .int)) (by decide) rfl ?_
  intro p e s m args below meth c s₁ B hml hv
  obtain ⟨rfl, hP, hK⟩ := hv
  have hx := B.exec
  have hb := B.bytes
  have hr := B.returns
  have hts1 := atoms_spec (ws := .code y_N_heldFor b_N_heldFor 2 (some .int) :: W0) B.pre
  have hts : ∀ w ∈ W0, w.before _ s = true := fun w h => hts1 w (List.mem_cons_of_mem _ h)
  have hown : s.vm.findClass R_N = some m.cls := findClass_of_methodNamed B.named
  have hlocks := B.notSynchronized
  have hl := lv_entry ([.ref (a 0), .int x1]) (n := 2) (Nat.le_of_ble_eq_true rfl)
  rw [lg_entry_eq]
  generalize (lg_sl ([.ref (a 0), .int x1]) ++ List.replicate (2 - (lg_sl ([.ref (a 0), .int x1])).length) Slot.unset).toArray = ls at hl ⊢
  have hl : lv_has ls 2 [(0, .ref (a 0)), (1, .int x1)] := hl
  refine lv_iload_n hx hb d_N_heldFor_0 rfl (lv_at hl 1 rfl) ?_
  refine lv_if_lt (tgt := 22) hx hb d_N_heldFor_1 (by decide) (fun c1 => ?_) (fun c1 => ?_)
  · refine lv_iconst (v := 0) hx hb d_N_heldFor_22 (by decide) ?_
    exact W.iret (v := 0) hx hb hr (fun t ht hW => ⟨by rw [show j_heldFor N x1 = 0 from by simp only [j_heldFor, c1, Int32.not_le.mpr c1, if_true, if_false, not_true_eq_false, not_false_eq_true, true_and, and_true, false_and, and_false, true_or, or_true, false_or, or_false, ite_true, ite_false]], ht⟩) (fun q h => by cases h) d_N_heldFor_23
  · refine lv_iload_n hx hb d_N_heldFor_4 rfl (lv_at hl 1 rfl) ?_
    refine lv_aload_n hx hb d_N_heldFor_5 rfl (lv_at hl 0 rfl) ?_
    refine va_get (D := (dC, dI)) (ci := 1) (v := .ref (a 3)) (C := R_N) (T := T_N) (N := 11) hx hb hts in_N hown hK hP 0 rfl rfl 2 (by decide) (hts _ kfl_N_28) (fun _ h9 => h9) rfl d_N_heldFor_6 ?_
    refine va_alen (v := nI 12) hx hb hK hP 3 0 rfl rfl rfl d_N_heldFor_9 ?_
    refine lv_icmp_ge (tgt := 22) hx hb d_N_heldFor_10 (by decide) (fun c10 => ?_) (fun c10 => ?_)
    · refine lv_iconst (v := 0) hx hb d_N_heldFor_22 (by decide) ?_
      exact W.iret (v := 0) hx hb hr (fun t ht hW => ⟨by rw [show j_heldFor N x1 = 0 from by simp only [j_heldFor, c1, c10, Int32.not_lt.mp c1, Int32.not_lt.mpr c10, if_true, if_false, not_true_eq_false, not_false_eq_true, true_and, and_true, false_and, and_false, true_or, or_true, false_or, or_false, ite_true, ite_false]], ht⟩) (fun q h => by cases h) d_N_heldFor_23
    · refine lv_aload_n hx hb d_N_heldFor_13 rfl (lv_at hl 0 rfl) ?_
      refine va_get (D := (dC, dI)) (ci := 1) (v := .ref (a 3)) (C := R_N) (T := T_N) (N := 11) hx hb hts in_N hown hK hP 0 rfl rfl 2 (by decide) (hts _ kfl_N_28) (fun _ h9 => h9) rfl d_N_heldFor_14 ?_
      refine lv_iload_n hx hb d_N_heldFor_17 rfl (lv_at hl 1 rfl) ?_
      refine va_iald hx hb hK hP 3 0 rfl rfl (lt_of_in c1 c10 (by decide)) d_N_heldFor_18 ?_
      refine lv_goto (tgt := 23) hx hb d_N_heldFor_19 (by decide) ?_
      exact W.iret (v := (N 3 x1.toNatClampNeg)) hx hb hr (fun t ht hW => ⟨by rw [show j_heldFor N x1 = N 3 x1.toNatClampNeg from by simp only [j_heldFor, c1, c10, Int32.not_lt.mp c1, Int32.not_le.mp c10, if_true, if_false, not_true_eq_false, not_false_eq_true, true_and, and_true, false_and, and_false, true_or, or_true, false_or, or_false, ite_true, ite_false]], ht⟩) (fun q h => by cases h) d_N_heldFor_23

set_option maxHeartbeats 4000000 in
set_option maxRecDepth 100000 in
/-- N_refer -/
theorem c_N_refer (l : Launch) (dC : Nat → ClassId) (dI : Nat → Nat → Nat) (cI : ClassId) (a : Nat → Nat) (N : Mm) (sz : Nat) (x1 x2 : Int32) : Met l y_N_refer (.code y_N_refer b_N_refer 3 none :: W0) ({ frames := 1, cells := 0, slots := 0, locals := 24 } : Room) (va_Pc [.ref (a 0), .int x1, .int x2] (nM dC dI cI a N sz)) (va_Qv (fun _ : Unit => True) (fun _ t => nE dC dI cI a (j_refer N x1 x2) (va_A (nW cI a N) sz) t) (va_A (nW cI a N) sz)) 0 0 (va_A (nW cI a N) sz) := by
  refine Met.ofW (cc := b_N_refer) (maxL := 3) (ret := none) (by decide) rfl ?_
  intro p e s m args below meth c s₁ B hml hv
  obtain ⟨rfl, hsz, hP, hK, hD0⟩ := hv
  have hx := B.exec
  have hb := B.bytes
  have hr := B.returns
  have hts1 := atoms_spec (ws := .code y_N_refer b_N_refer 3 none :: W0) B.pre
  have hts : ∀ w ∈ W0, w.before _ s = true := fun w h => hts1 w (List.mem_cons_of_mem _ h)
  have hown : s.vm.findClass R_N = some m.cls := findClass_of_methodNamed B.named
  have hlocks := B.notSynchronized
  subst hsz
  have hD := hD0.self (sz := s.heap.size)
  generalize hAe : va_A (nW cI a N) s.heap.size = A at hD ⊢
  have hA : ∀ q : Nat, s.heap.size ≤ q → A q := fun q h => by rw [← hAe]; exact Or.inr h
  have hS : va_S A s.heap s.heap [] := va_S.rf
  have hP : va_P (dC, dI) cls0 (nW cI a N) s.heap := hP
  have hl := lv_entry ([.ref (a 0), .int x1, .int x2]) (n := 3) (Nat.le_of_ble_eq_true rfl)
  rw [lg_entry_eq]
  generalize (lg_sl ([.ref (a 0), .int x1, .int x2]) ++ List.replicate (3 - (lg_sl ([.ref (a 0), .int x1, .int x2])).length) Slot.unset).toArray = ls at hl ⊢
  have hl : lv_has ls 3 [(0, .ref (a 0)), (1, .int x1), (2, .int x2)] := hl
  refine lv_aload_n hx hb d_N_refer_0 rfl (lv_at hl 0 rfl) ?_
  refine lv_iload_n hx hb d_N_refer_1 rfl (lv_at hl 1 rfl) ?_
  refine lv_iconst (v := 4) hx hb d_N_refer_2 (by decide) ?_
  refine lv_aload_n hx hb d_N_refer_3 rfl (lv_at hl 0 rfl) ?_
  refine lv_iload_n hx hb d_N_refer_4 rfl (lv_at hl 1 rfl) ?_
  refine lv_iconst (v := 4) hx hb d_N_refer_5 (by decide) ?_
  refine nCallR (As := [.int x1, .int 4]) (rest := [.int 4, .int x1, .ref (a 0)]) ⟨hx, hb, hml, hown, hts⟩ (c_N_get l dC dI cI a N x1 4) (cwV 2 hts (gV kml_N_46 kim_N_get ksl_N_get kin_N kcd_N_get) rfl rfl rfl (by decide +kernel) ⟨Nat.le_of_ble_eq_true rfl, Nat.le_of_ble_eq_true rfl⟩) hP hK rfl hl.1 rfl (Nat.le_of_ble_eq_true rfl) d_N_refer_6 ⟨Nat.zero_le _, Nat.zero_le _⟩ ?_
  refine lv_iload_n hx hb d_N_refer_9 rfl (lv_at hl 2 rfl) ?_
  refine lv_iadd hx hb d_N_refer_10 ?_
  refine nCallv (As := [.int x1, .int 4, .int ((j_get N x1 4) + x2)]) (rest := []) ⟨hx, hb, hml, hown, hts⟩ (c_N_set l dC dI cI a N _ x1 4 ((j_get N x1 4) + x2)) (cwV 3 hts (gV kml_N_65 kim_N_set ksl_N_set kin_N kcd_N_set) rfl rfl rfl (by decide +kernel) ⟨Nat.le_of_ble_eq_true rfl, Nat.le_of_ble_eq_true rfl⟩) hP hK hD hS hA rfl hl.1 rfl (Nat.le_of_ble_eq_true rfl) d_N_refer_11 ⟨Nat.zero_le _, Nat.zero_le _⟩ (fun H locs hP hD hS => ?_)
  have hP9 : va_P (dC, dI) cls0 (nW cI a (j_refer N x1 x2)) _ := (show j_set N x1 4 ((j_get N x1 4) + x2) = j_refer N x1 x2 from by rfl) ▸ hP
  have hD9 : va_D A (nW cI a (j_refer N x1 x2)) := (show j_set N x1 4 ((j_get N x1 4) + x2) = j_refer N x1 x2 from by rfl) ▸ hD
  exact W.vret hx hb hr (fun t ht hW => ⟨⟨(), rfl, trivial, by rw [ht]; exact hP9, va_K.moved hW.alike hK, hD9⟩, hS.F ht⟩) hS.2.2 d_N_refer_14

set_option maxHeartbeats 4000000 in
set_option maxRecDepth 100000 in
/-- N_giveBack -/
theorem c_N_giveBack (l : Launch) (dC : Nat → ClassId) (dI : Nat → Nat → Nat) (cI : ClassId) (a : Nat → Nat) (N : Mm) (sz : Nat) (x1 : Int32) : Met l y_N_giveBack (.code y_N_giveBack b_N_giveBack 2 none :: W0) ({ frames := 1, cells := 0, slots := 0, locals := 24 } : Room) (va_Pc [.ref (a 0), .int x1] (nM dC dI cI a N sz)) (va_Qv (fun _ : Unit => True) (fun _ t => nE dC dI cI a (j_giveBack N x1) (va_A (nW cI a N) sz) t) (va_A (nW cI a N) sz)) 0 0 (va_A (nW cI a N) sz) := by
  refine Met.ofW (cc := b_N_giveBack) (maxL := 2) (ret := none) (by decide) rfl ?_
  intro p e s m args below meth c s₁ B hml hv
  obtain ⟨rfl, hsz, hP, hK, hD0⟩ := hv
  have hx := B.exec
  have hb := B.bytes
  have hr := B.returns
  have hts1 := atoms_spec (ws := .code y_N_giveBack b_N_giveBack 2 none :: W0) B.pre
  have hts : ∀ w ∈ W0, w.before _ s = true := fun w h => hts1 w (List.mem_cons_of_mem _ h)
  have hown : s.vm.findClass R_N = some m.cls := findClass_of_methodNamed B.named
  have hlocks := B.notSynchronized
  subst hsz
  have hD := hD0.self (sz := s.heap.size)
  generalize hAe : va_A (nW cI a N) s.heap.size = A at hD ⊢
  have hA : ∀ q : Nat, s.heap.size ≤ q → A q := fun q h => by rw [← hAe]; exact Or.inr h
  have hS : va_S A s.heap s.heap [] := va_S.rf
  have hP : va_P (dC, dI) cls0 (nW cI a N) s.heap := hP
  have hl := lv_entry ([.ref (a 0), .int x1]) (n := 2) (Nat.le_of_ble_eq_true rfl)
  rw [lg_entry_eq]
  generalize (lg_sl ([.ref (a 0), .int x1]) ++ List.replicate (2 - (lg_sl ([.ref (a 0), .int x1])).length) Slot.unset).toArray = ls at hl ⊢
  have hl : lv_has ls 2 [(0, .ref (a 0)), (1, .int x1)] := hl
  refine lv_aload_n hx hb d_N_giveBack_0 rfl (lv_at hl 0 rfl) ?_
  refine lv_iload_n hx hb d_N_giveBack_1 rfl (lv_at hl 1 rfl) ?_
  refine lv_iconst (v := 3) hx hb d_N_giveBack_2 (by decide) ?_
  refine lv_aload_n hx hb d_N_giveBack_3 rfl (lv_at hl 0 rfl) ?_
  refine va_get (D := (dC, dI)) (ci := 1) (v := .int (N 0 2)) (C := R_N) (T := T_N) (N := 11) hx hb hts in_N hown hK hP 0 rfl rfl 7 (by decide) (hts _ kfl_N_22) (fun _ h9 => h9) rfl d_N_giveBack_4 ?_
  refine nCallv (As := [.int x1, .int 3, .int (N 0 2)]) (rest := []) ⟨hx, hb, hml, hown, hts⟩ (c_N_set l dC dI cI a N _ x1 3 (N 0 2)) (cwV 3 hts (gV kml_N_65 kim_N_set ksl_N_set kin_N kcd_N_set) rfl rfl rfl (by decide +kernel) ⟨Nat.le_of_ble_eq_true rfl, Nat.le_of_ble_eq_true rfl⟩) hP hK hD hS hA rfl hl.1 rfl (Nat.le_of_ble_eq_true rfl) d_N_giveBack_7 ⟨Nat.zero_le _, Nat.zero_le _⟩ (fun H locs hP hD hS => ?_)
  refine lv_aload_n hx hb d_N_giveBack_10 rfl (lv_at hl 0 rfl) ?_
  refine lv_iload_n hx hb d_N_giveBack_11 rfl (lv_at hl 1 rfl) ?_
  refine nPut2 hx hb hts hown hK hP hD hS kfl_N_22 d_N_giveBack_12 (fun H locs hP hD hS => ?_)
  refine lv_aload_n hx hb d_N_giveBack_15 rfl (lv_at hl 0 rfl) ?_
  refine lv_dup hx hb d_N_giveBack_16 rfl ?_
  refine va_get (D := (dC, dI)) (ci := 1) (v := .int ((up (j_set N x1 3 (N 0 2)) 0 2 x1) 0 3)) (C := R_N) (T := T_N) (N := 11) hx hb hts in_N hown hK hP 0 rfl rfl 8 (by decide) (hts _ kfl_N_40) (fun _ h9 => h9) rfl d_N_giveBack_17 ?_
  refine lv_iconst (v := 1) hx hb d_N_giveBack_20 (by decide) ?_
  refine lv_isub hx hb d_N_giveBack_21 ?_
  refine nPut3 hx hb hts hown hK hP hD hS kfl_N_40 d_N_giveBack_22 (fun H locs hP hD hS => ?_)
  have hP9 : va_P (dC, dI) cls0 (nW cI a (j_giveBack N x1)) _ := (show up (up (j_set N x1 3 (N 0 2)) 0 2 x1) 0 3 (((up (j_set N x1 3 (N 0 2)) 0 2 x1) 0 3) - 1) = j_giveBack N x1 from by simp only [j_giveBack, uq_0_1, uq_0_2, uq_0_3, uq_0_4, uq_0_5, uq_1_0, uq_1_2, uq_1_3, uq_1_4, uq_1_5, uq_2_0, uq_2_1, uq_2_3, uq_2_4, uq_2_5, uq_3_0, uq_3_1, uq_3_2, uq_3_4, uq_3_5, uq_4_0, uq_4_1, uq_4_2, uq_4_3, uq_4_5, uq_5_0, uq_5_1, uq_5_2, uq_5_3, uq_5_4, uf_0_0, uf_0_1, uf_0_2, uf_0_3, uf_0_4, uf_0_5, uf_1_0, uf_1_1, uf_1_2, uf_1_3, uf_1_4, uf_1_5, uf_2_0, uf_2_1, uf_2_2, uf_2_3, uf_2_4, uf_2_5, uf_3_0, uf_3_1, uf_3_2, uf_3_3, uf_3_4, uf_3_5, uf_4_0, uf_4_1, uf_4_2, uf_4_3, uf_4_4, uf_4_5, uf_5_0, uf_5_1, uf_5_2, uf_5_3, uf_5_4, uf_5_5, js_0, js_2, js_3, js_4, js_5, if_true, if_false, not_true_eq_false, not_false_eq_true, true_and, and_true, false_and, and_false, true_or, or_true, false_or, or_false, ite_true, ite_false]) ▸ hP
  have hD9 : va_D A (nW cI a (j_giveBack N x1)) := (show up (up (j_set N x1 3 (N 0 2)) 0 2 x1) 0 3 (((up (j_set N x1 3 (N 0 2)) 0 2 x1) 0 3) - 1) = j_giveBack N x1 from by simp only [j_giveBack, uq_0_1, uq_0_2, uq_0_3, uq_0_4, uq_0_5, uq_1_0, uq_1_2, uq_1_3, uq_1_4, uq_1_5, uq_2_0, uq_2_1, uq_2_3, uq_2_4, uq_2_5, uq_3_0, uq_3_1, uq_3_2, uq_3_4, uq_3_5, uq_4_0, uq_4_1, uq_4_2, uq_4_3, uq_4_5, uq_5_0, uq_5_1, uq_5_2, uq_5_3, uq_5_4, uf_0_0, uf_0_1, uf_0_2, uf_0_3, uf_0_4, uf_0_5, uf_1_0, uf_1_1, uf_1_2, uf_1_3, uf_1_4, uf_1_5, uf_2_0, uf_2_1, uf_2_2, uf_2_3, uf_2_4, uf_2_5, uf_3_0, uf_3_1, uf_3_2, uf_3_3, uf_3_4, uf_3_5, uf_4_0, uf_4_1, uf_4_2, uf_4_3, uf_4_4, uf_4_5, uf_5_0, uf_5_1, uf_5_2, uf_5_3, uf_5_4, uf_5_5, js_0, js_2, js_3, js_4, js_5, if_true, if_false, not_true_eq_false, not_false_eq_true, true_and, and_true, false_and, and_false, true_or, or_true, false_or, or_false, ite_true, ite_false]) ▸ hD
  exact W.vret hx hb hr (fun t ht hW => ⟨⟨(), rfl, trivial, by rw [ht]; exact hP9, va_K.moved hW.alike hK, hD9⟩, hS.F ht⟩) hS.2.2 d_N_giveBack_25

set_option maxHeartbeats 4000000 in
set_option maxRecDepth 100000 in
/-- N_freshRow -/
theorem c_N_freshRow (l : Launch) (dC : Nat → ClassId) (dI : Nat → Nat → Nat) (cI : ClassId) (a : Nat → Nat) (N : Mm) (sz : Nat) : Met l y_N_freshRow (.code y_N_freshRow b_N_freshRow 2 (some .int) :: W0) ({ frames := 1, cells := 0, slots := 0, locals := 24 } : Room) (va_Pc [.ref (a 0)] (nM dC dI cI a N sz)) (va_Qi (fun (z : Int32) (_ : Unit) => z = (j_freshRow N).2) (fun _ t => nE dC dI cI a ((j_freshRow N).1) (va_A (nW cI a N) sz) t) (va_A (nW cI a N) sz)) 0 0 (va_A (nW cI a N) sz) := by
  refine Met.ofW (cc := b_N_freshRow) (maxL := 2) (ret := (some .int)) (by decide) rfl ?_
  intro p e s m args below meth c s₁ B hml hv
  obtain ⟨rfl, hsz, hP, hK, hD0⟩ := hv
  have hx := B.exec
  have hb := B.bytes
  have hr := B.returns
  have hts1 := atoms_spec (ws := .code y_N_freshRow b_N_freshRow 2 (some .int) :: W0) B.pre
  have hts : ∀ w ∈ W0, w.before _ s = true := fun w h => hts1 w (List.mem_cons_of_mem _ h)
  have hown : s.vm.findClass R_N = some m.cls := findClass_of_methodNamed B.named
  have hlocks := B.notSynchronized
  subst hsz
  have hD := hD0.self (sz := s.heap.size)
  generalize hAe : va_A (nW cI a N) s.heap.size = A at hD ⊢
  have hA : ∀ q : Nat, s.heap.size ≤ q → A q := fun q h => by rw [← hAe]; exact Or.inr h
  have hS : va_S A s.heap s.heap [] := va_S.rf
  have hP : va_P (dC, dI) cls0 (nW cI a N) s.heap := hP
  have hl := lv_entry ([.ref (a 0)]) (n := 2) (Nat.le_of_ble_eq_true rfl)
  rw [lg_entry_eq]
  generalize (lg_sl ([.ref (a 0)]) ++ List.replicate (2 - (lg_sl ([.ref (a 0)])).length) Slot.unset).toArray = ls at hl ⊢
  have hl : lv_has ls 2 [(0, .ref (a 0))] := hl
  refine lv_aload_n hx hb d_N_freshRow_0 rfl (lv_at hl 0 rfl) ?_
  refine va_get (D := (dC, dI)) (ci := 1) (v := .int (N 0 2)) (C := R_N) (T := T_N) (N := 11) hx hb hts in_N hown hK hP 0 rfl rfl 7 (by decide) (hts _ kfl_N_22) (fun _ h9 => h9) rfl d_N_freshRow_1 ?_
  refine lv_istore_n (lv' := [(1, .int (N 0 2)), (0, .ref (a 0))]) hx hb d_N_freshRow_4 rfl hl (by decide) rfl (fun ls hl => ?_)
  refine lv_iload_n hx hb d_N_freshRow_5 rfl (lv_at hl 0 rfl) ?_
  refine lv_if_eq (tgt := 22) hx hb d_N_freshRow_6 (by decide) (fun c6 => ?_) (fun c6 => ?_)
  · refine lv_aload_n hx hb d_N_freshRow_22 rfl (lv_at hl 1 rfl) ?_
    refine va_get (D := (dC, dI)) (ci := 1) (v := .int (N 0 1)) (C := R_N) (T := T_N) (N := 11) hx hb hts in_N hown hK hP 0 rfl rfl 6 (by decide) (hts _ kfl_N_19) (fun _ h9 => h9) rfl d_N_freshRow_23 ?_
    refine lv_aload_n hx hb d_N_freshRow_26 rfl (lv_at hl 1 rfl) ?_
    refine va_get (D := (dC, dI)) (ci := 1) (v := .int (N 0 0)) (C := R_N) (T := T_N) (N := 11) hx hb hts in_N hown hK hP 0 rfl rfl 5 (by decide) (hts _ kfl_N_15) (fun _ h9 => h9) rfl d_N_freshRow_27 ?_
    refine lv_icmp_ge (tgt := 51) hx hb d_N_freshRow_30 (by decide) (fun c30 => ?_) (fun c30 => ?_)
    · refine lv_iconst (v := 0) hx hb d_N_freshRow_51 (by decide) ?_
      have hP9 : va_P (dC, dI) cls0 (nW cI a ((j_freshRow N).1)) _ := (show N = (j_freshRow N).1 from by simp only [j_freshRow, uq_0_1, uq_0_2, uq_0_3, uq_0_4, uq_0_5, uq_1_0, uq_1_2, uq_1_3, uq_1_4, uq_1_5, uq_2_0, uq_2_1, uq_2_3, uq_2_4, uq_2_5, uq_3_0, uq_3_1, uq_3_2, uq_3_4, uq_3_5, uq_4_0, uq_4_1, uq_4_2, uq_4_3, uq_4_5, uq_5_0, uq_5_1, uq_5_2, uq_5_3, uq_5_4, uf_0_0, uf_0_1, uf_0_2, uf_0_3, uf_0_4, uf_0_5, uf_1_0, uf_1_1, uf_1_2, uf_1_3, uf_1_4, uf_1_5, uf_2_0, uf_2_1, uf_2_2, uf_2_3, uf_2_4, uf_2_5, uf_3_0, uf_3_1, uf_3_2, uf_3_3, uf_3_4, uf_3_5, uf_4_0, uf_4_1, uf_4_2, uf_4_3, uf_4_4, uf_4_5, uf_5_0, uf_5_1, uf_5_2, uf_5_3, uf_5_4, uf_5_5, js_0, js_2, js_3, js_4, js_5, c6, c30, Int32.not_lt.mpr c30, if_true, if_false, not_true_eq_false, not_false_eq_true, true_and, and_true, false_and, and_false, true_or, or_true, false_or, or_false, ite_true, ite_false]) ▸ hP
      have hD9 : va_D A (nW cI a ((j_freshRow N).1)) := (show N = (j_freshRow N).1 from by simp only [j_freshRow, uq_0_1, uq_0_2, uq_0_3, uq_0_4, uq_0_5, uq_1_0, uq_1_2, uq_1_3, uq_1_4, uq_1_5, uq_2_0, uq_2_1, uq_2_3, uq_2_4, uq_2_5, uq_3_0, uq_3_1, uq_3_2, uq_3_4, uq_3_5, uq_4_0, uq_4_1, uq_4_2, uq_4_3, uq_4_5, uq_5_0, uq_5_1, uq_5_2, uq_5_3, uq_5_4, uf_0_0, uf_0_1, uf_0_2, uf_0_3, uf_0_4, uf_0_5, uf_1_0, uf_1_1, uf_1_2, uf_1_3, uf_1_4, uf_1_5, uf_2_0, uf_2_1, uf_2_2, uf_2_3, uf_2_4, uf_2_5, uf_3_0, uf_3_1, uf_3_2, uf_3_3, uf_3_4, uf_3_5, uf_4_0, uf_4_1, uf_4_2, uf_4_3, uf_4_4, uf_4_5, uf_5_0, uf_5_1, uf_5_2, uf_5_3, uf_5_4, uf_5_5, js_0, js_2, js_3, js_4, js_5, c6, c30, Int32.not_lt.mpr c30, if_true, if_false, not_true_eq_false, not_false_eq_true, true_and, and_true, false_and, and_false, true_or, or_true, false_or, or_false, ite_true, ite_false]) ▸ hD
      exact W.iret (v := 0) hx hb hr (fun t ht hW => ⟨⟨0, (), rfl, (show 0 = (j_freshRow N).2 from by simp only [j_freshRow, uq_0_1, uq_0_2, uq_0_3, uq_0_4, uq_0_5, uq_1_0, uq_1_2, uq_1_3, uq_1_4, uq_1_5, uq_2_0, uq_2_1, uq_2_3, uq_2_4, uq_2_5, uq_3_0, uq_3_1, uq_3_2, uq_3_4, uq_3_5, uq_4_0, uq_4_1, uq_4_2, uq_4_3, uq_4_5, uq_5_0, uq_5_1, uq_5_2, uq_5_3, uq_5_4, uf_0_0, uf_0_1, uf_0_2, uf_0_3, uf_0_4, uf_0_5, uf_1_0, uf_1_1, uf_1_2, uf_1_3, uf_1_4, uf_1_5, uf_2_0, uf_2_1, uf_2_2, uf_2_3, uf_2_4, uf_2_5, uf_3_0, uf_3_1, uf_3_2, uf_3_3, uf_3_4, uf_3_5, uf_4_0, uf_4_1, uf_4_2, uf_4_3, uf_4_4, uf_4_5, uf_5_0, uf_5_1, uf_5_2, uf_5_3, uf_5_4, uf_5_5, js_0, js_2, js_3, js_4, js_5, c6, c30, Int32.not_lt.mpr c30, if_true, if_false, not_true_eq_false, not_false_eq_true, true_and, and_true, false_and, and_false, true_or, or_true, false_or, or_false, ite_true, ite_false]), by rw [ht]; exact hP9, va_K.moved hW.alike hK, hD9⟩, hS.F ht⟩) hS.2.2 d_N_freshRow_52
    · refine lv_aload_n hx hb d_N_freshRow_33 rfl (lv_at hl 1 rfl) ?_
      refine va_get (D := (dC, dI)) (ci := 1) (v := .int (N 0 1)) (C := R_N) (T := T_N) (N := 11) hx hb hts in_N hown hK hP 0 rfl rfl 6 (by decide) (hts _ kfl_N_19) (fun _ h9 => h9) rfl d_N_freshRow_34 ?_
      refine lv_istore_n (lv' := [(1, .int (N 0 1)), (0, .ref (a 0))]) hx hb d_N_freshRow_37 rfl hl (by decide) rfl (fun ls hl => ?_)
      refine lv_aload_n hx hb d_N_freshRow_38 rfl (lv_at hl 1 rfl) ?_
      refine lv_dup hx hb d_N_freshRow_39 rfl ?_
      refine va_get (D := (dC, dI)) (ci := 1) (v := .int (N 0 1)) (C := R_N) (T := T_N) (N := 11) hx hb hts in_N hown hK hP 0 rfl rfl 6 (by decide) (hts _ kfl_N_19) (fun _ h9 => h9) rfl d_N_freshRow_40 ?_
      refine lv_iconst (v := 1) hx hb d_N_freshRow_43 (by decide) ?_
      refine lv_iadd hx hb d_N_freshRow_44 ?_
      refine nPut1 hx hb hts hown hK hP hD hS kfl_N_19 d_N_freshRow_45 (fun H locs hP hD hS => ?_)
      refine lv_goto (tgt := 53) hx hb d_N_freshRow_48 (by decide) ?_
      refine lv_aload_n hx hb d_N_freshRow_53 rfl (lv_at hl 1 rfl) ?_
      refine lv_iload_n hx hb d_N_freshRow_54 rfl (lv_at hl 0 rfl) ?_
      refine lv_iconst (v := 4) hx hb d_N_freshRow_55 (by decide) ?_
      refine lv_iconst (v := 0) hx hb d_N_freshRow_56 (by decide) ?_
      refine nCallv (As := [.int (N 0 1), .int 4, .int 0]) (rest := []) ⟨hx, hb, hml, hown, hts⟩ (c_N_set l dC dI cI a (up N 0 1 ((N 0 1) + 1)) _ (N 0 1) 4 0) (cwV 3 hts (gV kml_N_65 kim_N_set ksl_N_set kin_N kcd_N_set) rfl rfl rfl (by decide +kernel) ⟨Nat.le_of_ble_eq_true rfl, Nat.le_of_ble_eq_true rfl⟩) hP hK hD hS hA rfl hl.1 rfl (Nat.le_of_ble_eq_true rfl) d_N_freshRow_57 ⟨Nat.zero_le _, Nat.zero_le _⟩ (fun H locs hP hD hS => ?_)
      refine lv_aload_n hx hb d_N_freshRow_60 rfl (lv_at hl 1 rfl) ?_
      refine lv_dup hx hb d_N_freshRow_61 rfl ?_
      refine va_get (D := (dC, dI)) (ci := 1) (v := .int ((j_set (up N 0 1 ((N 0 1) + 1)) (N 0 1) 4 0) 0 3)) (C := R_N) (T := T_N) (N := 11) hx hb hts in_N hown hK hP 0 rfl rfl 8 (by decide) (hts _ kfl_N_40) (fun _ h9 => h9) rfl d_N_freshRow_62 ?_
      refine lv_iconst (v := 1) hx hb d_N_freshRow_65 (by decide) ?_
      refine lv_iadd hx hb d_N_freshRow_66 ?_
      refine nPut3 hx hb hts hown hK hP hD hS kfl_N_40 d_N_freshRow_67 (fun H locs hP hD hS => ?_)
      refine lv_iload_n hx hb d_N_freshRow_70 rfl (lv_at hl 0 rfl) ?_
      have hP9 : va_P (dC, dI) cls0 (nW cI a ((j_freshRow N).1)) _ := (show up (j_set (up N 0 1 ((N 0 1) + 1)) (N 0 1) 4 0) 0 3 (((j_set (up N 0 1 ((N 0 1) + 1)) (N 0 1) 4 0) 0 3) + 1) = (j_freshRow N).1 from by simp only [j_freshRow, uq_0_1, uq_0_2, uq_0_3, uq_0_4, uq_0_5, uq_1_0, uq_1_2, uq_1_3, uq_1_4, uq_1_5, uq_2_0, uq_2_1, uq_2_3, uq_2_4, uq_2_5, uq_3_0, uq_3_1, uq_3_2, uq_3_4, uq_3_5, uq_4_0, uq_4_1, uq_4_2, uq_4_3, uq_4_5, uq_5_0, uq_5_1, uq_5_2, uq_5_3, uq_5_4, uf_0_0, uf_0_1, uf_0_2, uf_0_3, uf_0_4, uf_0_5, uf_1_0, uf_1_1, uf_1_2, uf_1_3, uf_1_4, uf_1_5, uf_2_0, uf_2_1, uf_2_2, uf_2_3, uf_2_4, uf_2_5, uf_3_0, uf_3_1, uf_3_2, uf_3_3, uf_3_4, uf_3_5, uf_4_0, uf_4_1, uf_4_2, uf_4_3, uf_4_4, uf_4_5, uf_5_0, uf_5_1, uf_5_2, uf_5_3, uf_5_4, uf_5_5, js_0, js_2, js_3, js_4, js_5, c6, c30, Int32.not_le.mp c30, if_true, if_false, not_true_eq_false, not_false_eq_true, true_and, and_true, false_and, and_false, true_or, or_true, false_or, or_false, ite_true, ite_false]) ▸ hP
      have hD9 : va_D A (nW cI a ((j_freshRow N).1)) := (show up (j_set (up N 0 1 ((N 0 1) + 1)) (N 0 1) 4 0) 0 3 (((j_set (up N 0 1 ((N 0 1) + 1)) (N 0 1) 4 0) 0 3) + 1) = (j_freshRow N).1 from by simp only [j_freshRow, uq_0_1, uq_0_2, uq_0_3, uq_0_4, uq_0_5, uq_1_0, uq_1_2, uq_1_3, uq_1_4, uq_1_5, uq_2_0, uq_2_1, uq_2_3, uq_2_4, uq_2_5, uq_3_0, uq_3_1, uq_3_2, uq_3_4, uq_3_5, uq_4_0, uq_4_1, uq_4_2, uq_4_3, uq_4_5, uq_5_0, uq_5_1, uq_5_2, uq_5_3, uq_5_4, uf_0_0, uf_0_1, uf_0_2, uf_0_3, uf_0_4, uf_0_5, uf_1_0, uf_1_1, uf_1_2, uf_1_3, uf_1_4, uf_1_5, uf_2_0, uf_2_1, uf_2_2, uf_2_3, uf_2_4, uf_2_5, uf_3_0, uf_3_1, uf_3_2, uf_3_3, uf_3_4, uf_3_5, uf_4_0, uf_4_1, uf_4_2, uf_4_3, uf_4_4, uf_4_5, uf_5_0, uf_5_1, uf_5_2, uf_5_3, uf_5_4, uf_5_5, js_0, js_2, js_3, js_4, js_5, c6, c30, Int32.not_le.mp c30, if_true, if_false, not_true_eq_false, not_false_eq_true, true_and, and_true, false_and, and_false, true_or, or_true, false_or, or_false, ite_true, ite_false]) ▸ hD
      exact W.iret (v := (N 0 1)) hx hb hr (fun t ht hW => ⟨⟨N 0 1, (), rfl, (show N 0 1 = (j_freshRow N).2 from by simp only [j_freshRow, uq_0_1, uq_0_2, uq_0_3, uq_0_4, uq_0_5, uq_1_0, uq_1_2, uq_1_3, uq_1_4, uq_1_5, uq_2_0, uq_2_1, uq_2_3, uq_2_4, uq_2_5, uq_3_0, uq_3_1, uq_3_2, uq_3_4, uq_3_5, uq_4_0, uq_4_1, uq_4_2, uq_4_3, uq_4_5, uq_5_0, uq_5_1, uq_5_2, uq_5_3, uq_5_4, uf_0_0, uf_0_1, uf_0_2, uf_0_3, uf_0_4, uf_0_5, uf_1_0, uf_1_1, uf_1_2, uf_1_3, uf_1_4, uf_1_5, uf_2_0, uf_2_1, uf_2_2, uf_2_3, uf_2_4, uf_2_5, uf_3_0, uf_3_1, uf_3_2, uf_3_3, uf_3_4, uf_3_5, uf_4_0, uf_4_1, uf_4_2, uf_4_3, uf_4_4, uf_4_5, uf_5_0, uf_5_1, uf_5_2, uf_5_3, uf_5_4, uf_5_5, js_0, js_2, js_3, js_4, js_5, c6, c30, Int32.not_le.mp c30, if_true, if_false, not_true_eq_false, not_false_eq_true, true_and, and_true, false_and, and_false, true_or, or_true, false_or, or_false, ite_true, ite_false]), by rw [ht]; exact hP9, va_K.moved hW.alike hK, hD9⟩, hS.F ht⟩) hS.2.2 d_N_freshRow_71
  · refine lv_aload_n hx hb d_N_freshRow_9 rfl (lv_at hl 1 rfl) ?_
    refine lv_aload_n hx hb d_N_freshRow_10 rfl (lv_at hl 1 rfl) ?_
    refine lv_iload_n hx hb d_N_freshRow_11 rfl (lv_at hl 0 rfl) ?_
    refine lv_iconst (v := 3) hx hb d_N_freshRow_12 (by decide) ?_
    refine nCallR (As := [.int (N 0 2), .int 3]) (rest := [.ref (a 0)]) ⟨hx, hb, hml, hown, hts⟩ (c_N_get l dC dI cI a N (N 0 2) 3) (cwV 2 hts (gV kml_N_46 kim_N_get ksl_N_get kin_N kcd_N_get) rfl rfl rfl (by decide +kernel) ⟨Nat.le_of_ble_eq_true rfl, Nat.le_of_ble_eq_true rfl⟩) hP hK rfl hl.1 rfl (Nat.le_of_ble_eq_true rfl) d_N_freshRow_13 ⟨Nat.zero_le _, Nat.zero_le _⟩ ?_
    refine nPut2 hx hb hts hown hK hP hD hS kfl_N_22 d_N_freshRow_16 (fun H locs hP hD hS => ?_)
    refine lv_goto (tgt := 53) hx hb d_N_freshRow_19 (by decide) ?_
    refine lv_aload_n hx hb d_N_freshRow_53 rfl (lv_at hl 1 rfl) ?_
    refine lv_iload_n hx hb d_N_freshRow_54 rfl (lv_at hl 0 rfl) ?_
    refine lv_iconst (v := 4) hx hb d_N_freshRow_55 (by decide) ?_
    refine lv_iconst (v := 0) hx hb d_N_freshRow_56 (by decide) ?_
    refine nCallv (As := [.int (N 0 2), .int 4, .int 0]) (rest := []) ⟨hx, hb, hml, hown, hts⟩ (c_N_set l dC dI cI a (up N 0 2 (j_get N (N 0 2) 3)) _ (N 0 2) 4 0) (cwV 3 hts (gV kml_N_65 kim_N_set ksl_N_set kin_N kcd_N_set) rfl rfl rfl (by decide +kernel) ⟨Nat.le_of_ble_eq_true rfl, Nat.le_of_ble_eq_true rfl⟩) hP hK hD hS hA rfl hl.1 rfl (Nat.le_of_ble_eq_true rfl) d_N_freshRow_57 ⟨Nat.zero_le _, Nat.zero_le _⟩ (fun H locs hP hD hS => ?_)
    refine lv_aload_n hx hb d_N_freshRow_60 rfl (lv_at hl 1 rfl) ?_
    refine lv_dup hx hb d_N_freshRow_61 rfl ?_
    refine va_get (D := (dC, dI)) (ci := 1) (v := .int ((j_set (up N 0 2 (j_get N (N 0 2) 3)) (N 0 2) 4 0) 0 3)) (C := R_N) (T := T_N) (N := 11) hx hb hts in_N hown hK hP 0 rfl rfl 8 (by decide) (hts _ kfl_N_40) (fun _ h9 => h9) rfl d_N_freshRow_62 ?_
    refine lv_iconst (v := 1) hx hb d_N_freshRow_65 (by decide) ?_
    refine lv_iadd hx hb d_N_freshRow_66 ?_
    refine nPut3 hx hb hts hown hK hP hD hS kfl_N_40 d_N_freshRow_67 (fun H locs hP hD hS => ?_)
    refine lv_iload_n hx hb d_N_freshRow_70 rfl (lv_at hl 0 rfl) ?_
    have hP9 : va_P (dC, dI) cls0 (nW cI a ((j_freshRow N).1)) _ := (show up (j_set (up N 0 2 (j_get N (N 0 2) 3)) (N 0 2) 4 0) 0 3 (((j_set (up N 0 2 (j_get N (N 0 2) 3)) (N 0 2) 4 0) 0 3) + 1) = (j_freshRow N).1 from by simp only [j_freshRow, uq_0_1, uq_0_2, uq_0_3, uq_0_4, uq_0_5, uq_1_0, uq_1_2, uq_1_3, uq_1_4, uq_1_5, uq_2_0, uq_2_1, uq_2_3, uq_2_4, uq_2_5, uq_3_0, uq_3_1, uq_3_2, uq_3_4, uq_3_5, uq_4_0, uq_4_1, uq_4_2, uq_4_3, uq_4_5, uq_5_0, uq_5_1, uq_5_2, uq_5_3, uq_5_4, uf_0_0, uf_0_1, uf_0_2, uf_0_3, uf_0_4, uf_0_5, uf_1_0, uf_1_1, uf_1_2, uf_1_3, uf_1_4, uf_1_5, uf_2_0, uf_2_1, uf_2_2, uf_2_3, uf_2_4, uf_2_5, uf_3_0, uf_3_1, uf_3_2, uf_3_3, uf_3_4, uf_3_5, uf_4_0, uf_4_1, uf_4_2, uf_4_3, uf_4_4, uf_4_5, uf_5_0, uf_5_1, uf_5_2, uf_5_3, uf_5_4, uf_5_5, js_0, js_2, js_3, js_4, js_5, c6, if_true, if_false, not_true_eq_false, not_false_eq_true, true_and, and_true, false_and, and_false, true_or, or_true, false_or, or_false, ite_true, ite_false]) ▸ hP
    have hD9 : va_D A (nW cI a ((j_freshRow N).1)) := (show up (j_set (up N 0 2 (j_get N (N 0 2) 3)) (N 0 2) 4 0) 0 3 (((j_set (up N 0 2 (j_get N (N 0 2) 3)) (N 0 2) 4 0) 0 3) + 1) = (j_freshRow N).1 from by simp only [j_freshRow, uq_0_1, uq_0_2, uq_0_3, uq_0_4, uq_0_5, uq_1_0, uq_1_2, uq_1_3, uq_1_4, uq_1_5, uq_2_0, uq_2_1, uq_2_3, uq_2_4, uq_2_5, uq_3_0, uq_3_1, uq_3_2, uq_3_4, uq_3_5, uq_4_0, uq_4_1, uq_4_2, uq_4_3, uq_4_5, uq_5_0, uq_5_1, uq_5_2, uq_5_3, uq_5_4, uf_0_0, uf_0_1, uf_0_2, uf_0_3, uf_0_4, uf_0_5, uf_1_0, uf_1_1, uf_1_2, uf_1_3, uf_1_4, uf_1_5, uf_2_0, uf_2_1, uf_2_2, uf_2_3, uf_2_4, uf_2_5, uf_3_0, uf_3_1, uf_3_2, uf_3_3, uf_3_4, uf_3_5, uf_4_0, uf_4_1, uf_4_2, uf_4_3, uf_4_4, uf_4_5, uf_5_0, uf_5_1, uf_5_2, uf_5_3, uf_5_4, uf_5_5, js_0, js_2, js_3, js_4, js_5, c6, if_true, if_false, not_true_eq_false, not_false_eq_true, true_and, and_true, false_and, and_false, true_or, or_true, false_or, or_false, ite_true, ite_false]) ▸ hD
    exact W.iret (v := (N 0 2)) hx hb hr (fun t ht hW => ⟨⟨N 0 2, (), rfl, (show N 0 2 = (j_freshRow N).2 from by simp only [j_freshRow, uq_0_1, uq_0_2, uq_0_3, uq_0_4, uq_0_5, uq_1_0, uq_1_2, uq_1_3, uq_1_4, uq_1_5, uq_2_0, uq_2_1, uq_2_3, uq_2_4, uq_2_5, uq_3_0, uq_3_1, uq_3_2, uq_3_4, uq_3_5, uq_4_0, uq_4_1, uq_4_2, uq_4_3, uq_4_5, uq_5_0, uq_5_1, uq_5_2, uq_5_3, uq_5_4, uf_0_0, uf_0_1, uf_0_2, uf_0_3, uf_0_4, uf_0_5, uf_1_0, uf_1_1, uf_1_2, uf_1_3, uf_1_4, uf_1_5, uf_2_0, uf_2_1, uf_2_2, uf_2_3, uf_2_4, uf_2_5, uf_3_0, uf_3_1, uf_3_2, uf_3_3, uf_3_4, uf_3_5, uf_4_0, uf_4_1, uf_4_2, uf_4_3, uf_4_4, uf_4_5, uf_5_0, uf_5_1, uf_5_2, uf_5_3, uf_5_4, uf_5_5, js_0, js_2, js_3, js_4, js_5, c6, if_true, if_false, not_true_eq_false, not_false_eq_true, true_and, and_true, false_and, and_false, true_or, or_true, false_or, or_false, ite_true, ite_false]), by rw [ht]; exact hP9, va_K.moved hW.alike hK, hD9⟩, hS.F ht⟩) hS.2.2 d_N_freshRow_71

set_option maxHeartbeats 4000000 in
set_option maxRecDepth 100000 in
/-- N_chainFor -/
theorem c_N_chainFor (l : Launch) (x1 x2 x3 : Int32) : Met l y_N_chainFor (.code y_N_chainFor b_N_chainFor 4 (some .int) :: W0) ({ frames := 0, cells := 0, slots := 0, locals := 0 } : Room) (va_Pc [.int x1, .int x2, .int x3] (fun _ => True)) (QcRead (j_chainFor x1 x2 x3)) 0 0 (fun _ => False) := by
  refine Met.ofW (cc := b_N_chainFor) (maxL := 4) (ret := (some .int)) (by decide) rfl ?_
  intro p e s m args below meth c s₁ B hml hv
  obtain ⟨rfl, -⟩ := hv
  have hx := B.exec
  have hb := B.bytes
  have hr := B.returns
  have hts1 := atoms_spec (ws := .code y_N_chainFor b_N_chainFor 4 (some .int) :: W0) B.pre
  have hts : ∀ w ∈ W0, w.before _ s = true := fun w h => hts1 w (List.mem_cons_of_mem _ h)
  have hown : s.vm.findClass R_N = some m.cls := findClass_of_methodNamed B.named
  have hlocks := B.notSynchronized
  have hl := lv_entry ([.int x1, .int x2, .int x3]) (n := 4) (Nat.le_of_ble_eq_true rfl)
  rw [lg_entry_eq]
  generalize (lg_sl ([.int x1, .int x2, .int x3]) ++ List.replicate (4 - (lg_sl ([.int x1, .int x2, .int x3])).length) Slot.unset).toArray = ls at hl ⊢
  have hl : lv_has ls 4 [(0, .int x1), (1, .int x2), (2, .int x3)] := hl
  refine lv_iload_n hx hb d_N_chainFor_0 rfl (lv_at hl 1 rfl) ?_
  refine lv_ldc (v := -1640531535) hx hb hown (hts _ kco_N_85) d_N_chainFor_1 ?_
  refine lv_imul hx hb d_N_chainFor_3 ?_
  refine lv_iload_n hx hb d_N_chainFor_4 rfl (lv_at hl 2 rfl) ?_
  refine lv_ldc (v := -2048144789) hx hb hown (hts _ kco_N_86) d_N_chainFor_5 ?_
  refine lv_imul hx hb d_N_chainFor_7 ?_
  refine lv_iadd hx hb d_N_chainFor_8 ?_
  refine lv_istore_n (lv' := [(3, .int ((x2 * (-1640531535)) + (x3 * (-2048144789)))), (0, .int x1), (1, .int x2), (2, .int x3)]) hx hb d_N_chainFor_9 rfl hl (by decide) rfl (fun ls hl => ?_)
  refine lv_iload_n hx hb d_N_chainFor_10 rfl (lv_at hl 1 rfl) ?_
  refine lv_bipush (v := 64) hx hb d_N_chainFor_11 (by decide) ?_
  refine lv_imul hx hb d_N_chainFor_13 ?_
  refine lv_iload_n hx hb d_N_chainFor_14 rfl (lv_at hl 0 rfl) ?_
  refine lv_bipush (v := 20) hx hb d_N_chainFor_15 (by decide) ?_
  refine lv_iushr hx hb d_N_chainFor_17 rfl ?_
  refine lv_bipush (v := 63) hx hb d_N_chainFor_18 (by decide) ?_
  refine lv_iand hx hb d_N_chainFor_20 ?_
  refine lv_iadd hx hb d_N_chainFor_21 ?_
  exact W.iret (v := ((x1 * 64) + (((((x2 * (-1640531535)) + (x3 * (-2048144789))).toUInt32 >>> ((20 : Int32).toUInt32 &&& Int32.toUInt32 31)).toInt32) &&& 63))) hx hb hr (fun t ht hW => ⟨by rw [show j_chainFor x1 x2 x3 = ((x1 * 64) + (((((x2 * (-1640531535)) + (x3 * (-2048144789))).toUInt32 >>> ((20 : Int32).toUInt32 &&& Int32.toUInt32 31)).toInt32) &&& 63)) from by rfl], ht⟩) (fun q h => by cases h) d_N_chainFor_22

set_option maxHeartbeats 4000000 in
set_option maxRecDepth 100000 in
/-- N_link -/
theorem c_N_link (l : Launch) (dC : Nat → ClassId) (dI : Nat → Nat → Nat) (cI : ClassId) (a : Nat → Nat) (N : Mm) (sz : Nat) (x1 x2 x3 x4 : Int32) : Met l y_N_link (.code y_N_link b_N_link 6 none :: W0) ({ frames := 1, cells := 0, slots := 0, locals := 24 } : Room) (va_Pc [.ref (a 0), .int x1, .int x2, .int x3, .int x4] (nM dC dI cI a N sz)) (va_Qv (fun _ : Unit => True) (fun _ t => nE dC dI cI a (j_link N x1 x2 x3 x4) (va_A (nW cI a N) sz) t) (va_A (nW cI a N) sz)) 0 0 (va_A (nW cI a N) sz) := by
  refine Met.ofW (cc := b_N_link) (maxL := 6) (ret := none) (by decide) rfl ?_
  intro p e s m args below meth c s₁ B hml hv
  obtain ⟨rfl, hsz, hP, hK, hD0⟩ := hv
  have hx := B.exec
  have hb := B.bytes
  have hr := B.returns
  have hts1 := atoms_spec (ws := .code y_N_link b_N_link 6 none :: W0) B.pre
  have hts : ∀ w ∈ W0, w.before _ s = true := fun w h => hts1 w (List.mem_cons_of_mem _ h)
  have hown : s.vm.findClass R_N = some m.cls := findClass_of_methodNamed B.named
  have hlocks := B.notSynchronized
  subst hsz
  have hD := hD0.self (sz := s.heap.size)
  generalize hAe : va_A (nW cI a N) s.heap.size = A at hD ⊢
  have hA : ∀ q : Nat, s.heap.size ≤ q → A q := fun q h => by rw [← hAe]; exact Or.inr h
  have hS : va_S A s.heap s.heap [] := va_S.rf
  have hP : va_P (dC, dI) cls0 (nW cI a N) s.heap := hP
  have hl := lv_entry ([.ref (a 0), .int x1, .int x2, .int x3, .int x4]) (n := 6) (Nat.le_of_ble_eq_true rfl)
  rw [lg_entry_eq]
  generalize (lg_sl ([.ref (a 0), .int x1, .int x2, .int x3, .int x4]) ++ List.replicate (6 - (lg_sl ([.ref (a 0), .int x1, .int x2, .int x3, .int x4])).length) Slot.unset).toArray = ls at hl ⊢
  have hl : lv_has ls 6 [(0, .ref (a 0)), (1, .int x1), (2, .int x2), (3, .int x3), (4, .int x4)] := hl
  refine lv_iload_n hx hb d_N_link_0 rfl (lv_at hl 2 rfl) ?_
  refine lv_iload_n hx hb d_N_link_1 rfl (lv_at hl 3 rfl) ?_
  refine lv_iload hx hb d_N_link_2 (lv_at hl 4 rfl) ?_
  refine nCallS (As := [.int x2, .int x3, .int x4]) (rest := []) ⟨hx, hb, hml, hown, hts⟩ (c_N_chainFor l x2 x3 x4) (va_cwS 3 hts (gS kml_N_69 kst_N_chainFor kin_N kcd_N_chainFor) rfl rfl rfl (by decide +kernel) ⟨Nat.le_of_ble_eq_true rfl, Nat.le_of_ble_eq_true rfl⟩) rfl hl.1 rfl (Nat.le_of_ble_eq_true rfl) d_N_link_4 ⟨Nat.zero_le _, Nat.zero_le _⟩ ?_
  refine lv_istore (lv' := [(5, .int (j_chainFor x2 x3 x4)), (0, .ref (a 0)), (1, .int x1), (2, .int x2), (3, .int x3), (4, .int x4)]) hx hb d_N_link_7 hl (by decide) rfl (fun ls hl => ?_)
  refine lv_iload_n hx hb d_N_link_9 rfl (lv_at hl 3 rfl) ?_
  refine lv_if_lt (tgt := 37) hx hb d_N_link_10 (by decide) (fun c10 => ?_) (fun c10 => ?_)
  · have hP9 : va_P (dC, dI) cls0 (nW cI a (j_link N x1 x2 x3 x4)) _ := (show N = j_link N x1 x2 x3 x4 from by simp only [j_link, uq_0_1, uq_0_2, uq_0_3, uq_0_4, uq_0_5, uq_1_0, uq_1_2, uq_1_3, uq_1_4, uq_1_5, uq_2_0, uq_2_1, uq_2_3, uq_2_4, uq_2_5, uq_3_0, uq_3_1, uq_3_2, uq_3_4, uq_3_5, uq_4_0, uq_4_1, uq_4_2, uq_4_3, uq_4_5, uq_5_0, uq_5_1, uq_5_2, uq_5_3, uq_5_4, uf_0_0, uf_0_1, uf_0_2, uf_0_3, uf_0_4, uf_0_5, uf_1_0, uf_1_1, uf_1_2, uf_1_3, uf_1_4, uf_1_5, uf_2_0, uf_2_1, uf_2_2, uf_2_3, uf_2_4, uf_2_5, uf_3_0, uf_3_1, uf_3_2, uf_3_3, uf_3_4, uf_3_5, uf_4_0, uf_4_1, uf_4_2, uf_4_3, uf_4_4, uf_4_5, uf_5_0, uf_5_1, uf_5_2, uf_5_3, uf_5_4, uf_5_5, js_0, js_2, js_3, js_4, js_5, c10, Int32.not_le.mpr c10, if_true, if_false, not_true_eq_false, not_false_eq_true, true_and, and_true, false_and, and_false, true_or, or_true, false_or, or_false, ite_true, ite_false]) ▸ hP
    have hD9 : va_D A (nW cI a (j_link N x1 x2 x3 x4)) := (show N = j_link N x1 x2 x3 x4 from by simp only [j_link, uq_0_1, uq_0_2, uq_0_3, uq_0_4, uq_0_5, uq_1_0, uq_1_2, uq_1_3, uq_1_4, uq_1_5, uq_2_0, uq_2_1, uq_2_3, uq_2_4, uq_2_5, uq_3_0, uq_3_1, uq_3_2, uq_3_4, uq_3_5, uq_4_0, uq_4_1, uq_4_2, uq_4_3, uq_4_5, uq_5_0, uq_5_1, uq_5_2, uq_5_3, uq_5_4, uf_0_0, uf_0_1, uf_0_2, uf_0_3, uf_0_4, uf_0_5, uf_1_0, uf_1_1, uf_1_2, uf_1_3, uf_1_4, uf_1_5, uf_2_0, uf_2_1, uf_2_2, uf_2_3, uf_2_4, uf_2_5, uf_3_0, uf_3_1, uf_3_2, uf_3_3, uf_3_4, uf_3_5, uf_4_0, uf_4_1, uf_4_2, uf_4_3, uf_4_4, uf_4_5, uf_5_0, uf_5_1, uf_5_2, uf_5_3, uf_5_4, uf_5_5, js_0, js_2, js_3, js_4, js_5, c10, Int32.not_le.mpr c10, if_true, if_false, not_true_eq_false, not_false_eq_true, true_and, and_true, false_and, and_false, true_or, or_true, false_or, or_false, ite_true, ite_false]) ▸ hD
    exact W.vret hx hb hr (fun t ht hW => ⟨⟨(), rfl, trivial, by rw [ht]; exact hP9, va_K.moved hW.alike hK, hD9⟩, hS.F ht⟩) hS.2.2 d_N_link_37
  · refine lv_iload_n hx hb d_N_link_13 rfl (lv_at hl 3 rfl) ?_
    refine lv_aload_n hx hb d_N_link_14 rfl (lv_at hl 1 rfl) ?_
    refine va_get (D := (dC, dI)) (ci := 1) (v := .ref (a 3)) (C := R_N) (T := T_N) (N := 11) hx hb hts in_N hown hK hP 0 rfl rfl 2 (by decide) (hts _ kfl_N_28) (fun _ h9 => h9) rfl d_N_link_15 ?_
    refine va_alen (v := nI 12) hx hb hK hP 3 0 rfl rfl rfl d_N_link_18 ?_
    refine lv_icmp_ge (tgt := 37) hx hb d_N_link_19 (by decide) (fun c19 => ?_) (fun c19 => ?_)
    · have hP9 : va_P (dC, dI) cls0 (nW cI a (j_link N x1 x2 x3 x4)) _ := (show N = j_link N x1 x2 x3 x4 from by simp only [j_link, uq_0_1, uq_0_2, uq_0_3, uq_0_4, uq_0_5, uq_1_0, uq_1_2, uq_1_3, uq_1_4, uq_1_5, uq_2_0, uq_2_1, uq_2_3, uq_2_4, uq_2_5, uq_3_0, uq_3_1, uq_3_2, uq_3_4, uq_3_5, uq_4_0, uq_4_1, uq_4_2, uq_4_3, uq_4_5, uq_5_0, uq_5_1, uq_5_2, uq_5_3, uq_5_4, uf_0_0, uf_0_1, uf_0_2, uf_0_3, uf_0_4, uf_0_5, uf_1_0, uf_1_1, uf_1_2, uf_1_3, uf_1_4, uf_1_5, uf_2_0, uf_2_1, uf_2_2, uf_2_3, uf_2_4, uf_2_5, uf_3_0, uf_3_1, uf_3_2, uf_3_3, uf_3_4, uf_3_5, uf_4_0, uf_4_1, uf_4_2, uf_4_3, uf_4_4, uf_4_5, uf_5_0, uf_5_1, uf_5_2, uf_5_3, uf_5_4, uf_5_5, js_0, js_2, js_3, js_4, js_5, c10, c19, Int32.not_lt.mp c10, Int32.not_lt.mpr c19, if_true, if_false, not_true_eq_false, not_false_eq_true, true_and, and_true, false_and, and_false, true_or, or_true, false_or, or_false, ite_true, ite_false]) ▸ hP
      have hD9 : va_D A (nW cI a (j_link N x1 x2 x3 x4)) := (show N = j_link N x1 x2 x3 x4 from by simp only [j_link, uq_0_1, uq_0_2, uq_0_3, uq_0_4, uq_0_5, uq_1_0, uq_1_2, uq_1_3, uq_1_4, uq_1_5, uq_2_0, uq_2_1, uq_2_3, uq_2_4, uq_2_5, uq_3_0, uq_3_1, uq_3_2, uq_3_4, uq_3_5, uq_4_0, uq_4_1, uq_4_2, uq_4_3, uq_4_5, uq_5_0, uq_5_1, uq_5_2, uq_5_3, uq_5_4, uf_0_0, uf_0_1, uf_0_2, uf_0_3, uf_0_4, uf_0_5, uf_1_0, uf_1_1, uf_1_2, uf_1_3, uf_1_4, uf_1_5, uf_2_0, uf_2_1, uf_2_2, uf_2_3, uf_2_4, uf_2_5, uf_3_0, uf_3_1, uf_3_2, uf_3_3, uf_3_4, uf_3_5, uf_4_0, uf_4_1, uf_4_2, uf_4_3, uf_4_4, uf_4_5, uf_5_0, uf_5_1, uf_5_2, uf_5_3, uf_5_4, uf_5_5, js_0, js_2, js_3, js_4, js_5, c10, c19, Int32.not_lt.mp c10, Int32.not_lt.mpr c19, if_true, if_false, not_true_eq_false, not_false_eq_true, true_and, and_true, false_and, and_false, true_or, or_true, false_or, or_false, ite_true, ite_false]) ▸ hD
      exact W.vret hx hb hr (fun t ht hW => ⟨⟨(), rfl, trivial, by rw [ht]; exact hP9, va_K.moved hW.alike hK, hD9⟩, hS.F ht⟩) hS.2.2 d_N_link_37
    · refine lv_iload hx hb d_N_link_22 (lv_at hl 0 rfl) ?_
      refine lv_if_lt (tgt := 37) hx hb d_N_link_24 (by decide) (fun c24 => ?_) (fun c24 => ?_)
      · have hP9 : va_P (dC, dI) cls0 (nW cI a (j_link N x1 x2 x3 x4)) _ := (show N = j_link N x1 x2 x3 x4 from by simp only [j_link, uq_0_1, uq_0_2, uq_0_3, uq_0_4, uq_0_5, uq_1_0, uq_1_2, uq_1_3, uq_1_4, uq_1_5, uq_2_0, uq_2_1, uq_2_3, uq_2_4, uq_2_5, uq_3_0, uq_3_1, uq_3_2, uq_3_4, uq_3_5, uq_4_0, uq_4_1, uq_4_2, uq_4_3, uq_4_5, uq_5_0, uq_5_1, uq_5_2, uq_5_3, uq_5_4, uf_0_0, uf_0_1, uf_0_2, uf_0_3, uf_0_4, uf_0_5, uf_1_0, uf_1_1, uf_1_2, uf_1_3, uf_1_4, uf_1_5, uf_2_0, uf_2_1, uf_2_2, uf_2_3, uf_2_4, uf_2_5, uf_3_0, uf_3_1, uf_3_2, uf_3_3, uf_3_4, uf_3_5, uf_4_0, uf_4_1, uf_4_2, uf_4_3, uf_4_4, uf_4_5, uf_5_0, uf_5_1, uf_5_2, uf_5_3, uf_5_4, uf_5_5, js_0, js_2, js_3, js_4, js_5, c10, c19, c24, Int32.not_lt.mp c10, Int32.not_le.mp c19, Int32.not_le.mpr c24, if_true, if_false, not_true_eq_false, not_false_eq_true, true_and, and_true, false_and, and_false, true_or, or_true, false_or, or_false, ite_true, ite_false]) ▸ hP
        have hD9 : va_D A (nW cI a (j_link N x1 x2 x3 x4)) := (show N = j_link N x1 x2 x3 x4 from by simp only [j_link, uq_0_1, uq_0_2, uq_0_3, uq_0_4, uq_0_5, uq_1_0, uq_1_2, uq_1_3, uq_1_4, uq_1_5, uq_2_0, uq_2_1, uq_2_3, uq_2_4, uq_2_5, uq_3_0, uq_3_1, uq_3_2, uq_3_4, uq_3_5, uq_4_0, uq_4_1, uq_4_2, uq_4_3, uq_4_5, uq_5_0, uq_5_1, uq_5_2, uq_5_3, uq_5_4, uf_0_0, uf_0_1, uf_0_2, uf_0_3, uf_0_4, uf_0_5, uf_1_0, uf_1_1, uf_1_2, uf_1_3, uf_1_4, uf_1_5, uf_2_0, uf_2_1, uf_2_2, uf_2_3, uf_2_4, uf_2_5, uf_3_0, uf_3_1, uf_3_2, uf_3_3, uf_3_4, uf_3_5, uf_4_0, uf_4_1, uf_4_2, uf_4_3, uf_4_4, uf_4_5, uf_5_0, uf_5_1, uf_5_2, uf_5_3, uf_5_4, uf_5_5, js_0, js_2, js_3, js_4, js_5, c10, c19, c24, Int32.not_lt.mp c10, Int32.not_le.mp c19, Int32.not_le.mpr c24, if_true, if_false, not_true_eq_false, not_false_eq_true, true_and, and_true, false_and, and_false, true_or, or_true, false_or, or_false, ite_true, ite_false]) ▸ hD
        exact W.vret hx hb hr (fun t ht hW => ⟨⟨(), rfl, trivial, by rw [ht]; exact hP9, va_K.moved hW.alike hK, hD9⟩, hS.F ht⟩) hS.2.2 d_N_link_37
      · refine lv_iload hx hb d_N_link_27 (lv_at hl 0 rfl) ?_
        refine lv_aload_n hx hb d_N_link_29 rfl (lv_at hl 1 rfl) ?_
        refine va_get (D := (dC, dI)) (ci := 1) (v := .ref (a 2)) (C := R_N) (T := T_N) (N := 11) hx hb hts in_N hown hK hP 0 rfl rfl 1 (by decide) (hts _ kfl_N_25) (fun _ h9 => h9) rfl d_N_link_30 ?_
        refine va_alen (v := nI 768) hx hb hK hP 2 0 rfl rfl rfl d_N_link_33 ?_
        refine lv_icmp_lt (tgt := 38) hx hb d_N_link_34 (by decide) (fun c34 => ?_) (fun c34 => ?_)
        · refine lv_aload_n hx hb d_N_link_38 rfl (lv_at hl 1 rfl) ?_
          refine lv_iload_n hx hb d_N_link_39 rfl (lv_at hl 2 rfl) ?_
          refine lv_iconst (v := 0) hx hb d_N_link_40 (by decide) ?_
          refine lv_iload_n hx hb d_N_link_41 rfl (lv_at hl 3 rfl) ?_
          refine nCallv (As := [.int x1, .int 0, .int x2]) (rest := []) ⟨hx, hb, hml, hown, hts⟩ (c_N_set l dC dI cI a N _ x1 0 x2) (cwV 3 hts (gV kml_N_65 kim_N_set ksl_N_set kin_N kcd_N_set) rfl rfl rfl (by decide +kernel) ⟨Nat.le_of_ble_eq_true rfl, Nat.le_of_ble_eq_true rfl⟩) hP hK hD hS hA rfl hl.1 rfl (Nat.le_of_ble_eq_true rfl) d_N_link_42 ⟨Nat.zero_le _, Nat.zero_le _⟩ (fun H locs hP hD hS => ?_)
          refine lv_aload_n hx hb d_N_link_45 rfl (lv_at hl 1 rfl) ?_
          refine lv_iload_n hx hb d_N_link_46 rfl (lv_at hl 2 rfl) ?_
          refine lv_iconst (v := 1) hx hb d_N_link_47 (by decide) ?_
          refine lv_iload_n hx hb d_N_link_48 rfl (lv_at hl 4 rfl) ?_
          refine nCallv (As := [.int x1, .int 1, .int x3]) (rest := []) ⟨hx, hb, hml, hown, hts⟩ (c_N_set l dC dI cI a (j_set N x1 0 x2) _ x1 1 x3) (cwV 3 hts (gV kml_N_65 kim_N_set ksl_N_set kin_N kcd_N_set) rfl rfl rfl (by decide +kernel) ⟨Nat.le_of_ble_eq_true rfl, Nat.le_of_ble_eq_true rfl⟩) hP hK hD hS hA rfl hl.1 rfl (Nat.le_of_ble_eq_true rfl) d_N_link_49 ⟨Nat.zero_le _, Nat.zero_le _⟩ (fun H locs hP hD hS => ?_)
          refine lv_aload_n hx hb d_N_link_52 rfl (lv_at hl 1 rfl) ?_
          refine lv_iload_n hx hb d_N_link_53 rfl (lv_at hl 2 rfl) ?_
          refine lv_iconst (v := 2) hx hb d_N_link_54 (by decide) ?_
          refine lv_iload hx hb d_N_link_55 (lv_at hl 5 rfl) ?_
          refine nCallv (As := [.int x1, .int 2, .int x4]) (rest := []) ⟨hx, hb, hml, hown, hts⟩ (c_N_set l dC dI cI a (j_set (j_set N x1 0 x2) x1 1 x3) _ x1 2 x4) (cwV 3 hts (gV kml_N_65 kim_N_set ksl_N_set kin_N kcd_N_set) rfl rfl rfl (by decide +kernel) ⟨Nat.le_of_ble_eq_true rfl, Nat.le_of_ble_eq_true rfl⟩) hP hK hD hS hA rfl hl.1 rfl (Nat.le_of_ble_eq_true rfl) d_N_link_57 ⟨Nat.zero_le _, Nat.zero_le _⟩ (fun H locs hP hD hS => ?_)
          refine lv_aload_n hx hb d_N_link_60 rfl (lv_at hl 1 rfl) ?_
          refine lv_iload_n hx hb d_N_link_61 rfl (lv_at hl 2 rfl) ?_
          refine lv_iconst (v := 3) hx hb d_N_link_62 (by decide) ?_
          refine lv_aload_n hx hb d_N_link_63 rfl (lv_at hl 1 rfl) ?_
          refine va_get (D := (dC, dI)) (ci := 1) (v := .ref (a 2)) (C := R_N) (T := T_N) (N := 11) hx hb hts in_N hown hK hP 0 rfl rfl 1 (by decide) (hts _ kfl_N_25) (fun _ h9 => h9) rfl d_N_link_64 ?_
          refine lv_iload hx hb d_N_link_67 (lv_at hl 0 rfl) ?_
          refine va_iald hx hb hK hP 2 0 rfl rfl (lt_of_in c24 (Int32.not_le.mpr c34) (by decide)) d_N_link_69 ?_
          refine nCallv (As := [.int x1, .int 3, .int ((j_set (j_set (j_set N x1 0 x2) x1 1 x3) x1 2 x4) 2 (j_chainFor x2 x3 x4).toNatClampNeg)]) (rest := []) ⟨hx, hb, hml, hown, hts⟩ (c_N_set l dC dI cI a (j_set (j_set (j_set N x1 0 x2) x1 1 x3) x1 2 x4) _ x1 3 ((j_set (j_set (j_set N x1 0 x2) x1 1 x3) x1 2 x4) 2 (j_chainFor x2 x3 x4).toNatClampNeg)) (cwV 3 hts (gV kml_N_65 kim_N_set ksl_N_set kin_N kcd_N_set) rfl rfl rfl (by decide +kernel) ⟨Nat.le_of_ble_eq_true rfl, Nat.le_of_ble_eq_true rfl⟩) hP hK hD hS hA rfl hl.1 rfl (Nat.le_of_ble_eq_true rfl) d_N_link_70 ⟨Nat.zero_le _, Nat.zero_le _⟩ (fun H locs hP hD hS => ?_)
          refine lv_aload_n hx hb d_N_link_73 rfl (lv_at hl 1 rfl) ?_
          refine va_get (D := (dC, dI)) (ci := 1) (v := .ref (a 2)) (C := R_N) (T := T_N) (N := 11) hx hb hts in_N hown hK hP 0 rfl rfl 1 (by decide) (hts _ kfl_N_25) (fun _ h9 => h9) rfl d_N_link_74 ?_
          refine lv_iload hx hb d_N_link_77 (lv_at hl 0 rfl) ?_
          refine lv_iload_n hx hb d_N_link_79 rfl (lv_at hl 2 rfl) ?_
          refine nAst2 hx hb hK hP hD hS (lt_of_in c24 (Int32.not_le.mpr c34) (by decide)) d_N_link_80 (fun H locs hP hD hS => ?_)
          refine lv_aload_n hx hb d_N_link_81 rfl (lv_at hl 1 rfl) ?_
          refine va_get (D := (dC, dI)) (ci := 1) (v := .ref (a 3)) (C := R_N) (T := T_N) (N := 11) hx hb hts in_N hown hK hP 0 rfl rfl 2 (by decide) (hts _ kfl_N_28) (fun _ h9 => h9) rfl d_N_link_82 ?_
          refine lv_iload_n hx hb d_N_link_85 rfl (lv_at hl 3 rfl) ?_
          refine lv_dup2_11 hx hb d_N_link_86 rfl rfl ?_
          refine va_iald hx hb hK hP 3 0 rfl rfl (lt_of_in c10 c19 (by decide)) d_N_link_87 ?_
          refine lv_iconst (v := 1) hx hb d_N_link_88 (by decide) ?_
          refine lv_iadd hx hb d_N_link_89 ?_
          refine nAst3 hx hb hK hP hD hS (lt_of_in c10 c19 (by decide)) d_N_link_90 (fun H locs hP hD hS => ?_)
          have hP9 : va_P (dC, dI) cls0 (nW cI a (j_link N x1 x2 x3 x4)) _ := (show up (up (j_set (j_set (j_set (j_set N x1 0 x2) x1 1 x3) x1 2 x4) x1 3 ((j_set (j_set (j_set N x1 0 x2) x1 1 x3) x1 2 x4) 2 (j_chainFor x2 x3 x4).toNatClampNeg)) 2 (j_chainFor x2 x3 x4).toNatClampNeg x1) 3 x2.toNatClampNeg (((up (j_set (j_set (j_set (j_set N x1 0 x2) x1 1 x3) x1 2 x4) x1 3 ((j_set (j_set (j_set N x1 0 x2) x1 1 x3) x1 2 x4) 2 (j_chainFor x2 x3 x4).toNatClampNeg)) 2 (j_chainFor x2 x3 x4).toNatClampNeg x1) 3 x2.toNatClampNeg) + 1) = j_link N x1 x2 x3 x4 from by simp only [j_link, uq_0_1, uq_0_2, uq_0_3, uq_0_4, uq_0_5, uq_1_0, uq_1_2, uq_1_3, uq_1_4, uq_1_5, uq_2_0, uq_2_1, uq_2_3, uq_2_4, uq_2_5, uq_3_0, uq_3_1, uq_3_2, uq_3_4, uq_3_5, uq_4_0, uq_4_1, uq_4_2, uq_4_3, uq_4_5, uq_5_0, uq_5_1, uq_5_2, uq_5_3, uq_5_4, uf_0_0, uf_0_1, uf_0_2, uf_0_3, uf_0_4, uf_0_5, uf_1_0, uf_1_1, uf_1_2, uf_1_3, uf_1_4, uf_1_5, uf_2_0, uf_2_1, uf_2_2, uf_2_3, uf_2_4, uf_2_5, uf_3_0, uf_3_1, uf_3_2, uf_3_3, uf_3_4, uf_3_5, uf_4_0, uf_4_1, uf_4_2, uf_4_3, uf_4_4, uf_4_5, uf_5_0, uf_5_1, uf_5_2, uf_5_3, uf_5_4, uf_5_5, js_0, js_2, js_3, js_4, js_5, c10, c19, c24, c34, Int32.not_lt.mp c10, Int32.not_le.mp c19, Int32.not_lt.mp c24, Int32.not_le.mpr c34, if_true, if_false, not_true_eq_false, not_false_eq_true, true_and, and_true, false_and, and_false, true_or, or_true, false_or, or_false, ite_true, ite_false]) ▸ hP
          have hD9 : va_D A (nW cI a (j_link N x1 x2 x3 x4)) := (show up (up (j_set (j_set (j_set (j_set N x1 0 x2) x1 1 x3) x1 2 x4) x1 3 ((j_set (j_set (j_set N x1 0 x2) x1 1 x3) x1 2 x4) 2 (j_chainFor x2 x3 x4).toNatClampNeg)) 2 (j_chainFor x2 x3 x4).toNatClampNeg x1) 3 x2.toNatClampNeg (((up (j_set (j_set (j_set (j_set N x1 0 x2) x1 1 x3) x1 2 x4) x1 3 ((j_set (j_set (j_set N x1 0 x2) x1 1 x3) x1 2 x4) 2 (j_chainFor x2 x3 x4).toNatClampNeg)) 2 (j_chainFor x2 x3 x4).toNatClampNeg x1) 3 x2.toNatClampNeg) + 1) = j_link N x1 x2 x3 x4 from by simp only [j_link, uq_0_1, uq_0_2, uq_0_3, uq_0_4, uq_0_5, uq_1_0, uq_1_2, uq_1_3, uq_1_4, uq_1_5, uq_2_0, uq_2_1, uq_2_3, uq_2_4, uq_2_5, uq_3_0, uq_3_1, uq_3_2, uq_3_4, uq_3_5, uq_4_0, uq_4_1, uq_4_2, uq_4_3, uq_4_5, uq_5_0, uq_5_1, uq_5_2, uq_5_3, uq_5_4, uf_0_0, uf_0_1, uf_0_2, uf_0_3, uf_0_4, uf_0_5, uf_1_0, uf_1_1, uf_1_2, uf_1_3, uf_1_4, uf_1_5, uf_2_0, uf_2_1, uf_2_2, uf_2_3, uf_2_4, uf_2_5, uf_3_0, uf_3_1, uf_3_2, uf_3_3, uf_3_4, uf_3_5, uf_4_0, uf_4_1, uf_4_2, uf_4_3, uf_4_4, uf_4_5, uf_5_0, uf_5_1, uf_5_2, uf_5_3, uf_5_4, uf_5_5, js_0, js_2, js_3, js_4, js_5, c10, c19, c24, c34, Int32.not_lt.mp c10, Int32.not_le.mp c19, Int32.not_lt.mp c24, Int32.not_le.mpr c34, if_true, if_false, not_true_eq_false, not_false_eq_true, true_and, and_true, false_and, and_false, true_or, or_true, false_or, or_false, ite_true, ite_false]) ▸ hD
          exact W.vret hx hb hr (fun t ht hW => ⟨⟨(), rfl, trivial, by rw [ht]; exact hP9, va_K.moved hW.alike hK, hD9⟩, hS.F ht⟩) hS.2.2 d_N_link_91
        · have hP9 : va_P (dC, dI) cls0 (nW cI a (j_link N x1 x2 x3 x4)) _ := (show N = j_link N x1 x2 x3 x4 from by simp only [j_link, uq_0_1, uq_0_2, uq_0_3, uq_0_4, uq_0_5, uq_1_0, uq_1_2, uq_1_3, uq_1_4, uq_1_5, uq_2_0, uq_2_1, uq_2_3, uq_2_4, uq_2_5, uq_3_0, uq_3_1, uq_3_2, uq_3_4, uq_3_5, uq_4_0, uq_4_1, uq_4_2, uq_4_3, uq_4_5, uq_5_0, uq_5_1, uq_5_2, uq_5_3, uq_5_4, uf_0_0, uf_0_1, uf_0_2, uf_0_3, uf_0_4, uf_0_5, uf_1_0, uf_1_1, uf_1_2, uf_1_3, uf_1_4, uf_1_5, uf_2_0, uf_2_1, uf_2_2, uf_2_3, uf_2_4, uf_2_5, uf_3_0, uf_3_1, uf_3_2, uf_3_3, uf_3_4, uf_3_5, uf_4_0, uf_4_1, uf_4_2, uf_4_3, uf_4_4, uf_4_5, uf_5_0, uf_5_1, uf_5_2, uf_5_3, uf_5_4, uf_5_5, js_0, js_2, js_3, js_4, js_5, c10, c19, c24, c34, Int32.not_lt.mp c10, Int32.not_le.mp c19, Int32.not_lt.mp c24, Int32.not_lt.mp c34, if_true, if_false, not_true_eq_false, not_false_eq_true, true_and, and_true, false_and, and_false, true_or, or_true, false_or, or_false, ite_true, ite_false]) ▸ hP
          have hD9 : va_D A (nW cI a (j_link N x1 x2 x3 x4)) := (show N = j_link N x1 x2 x3 x4 from by simp only [j_link, uq_0_1, uq_0_2, uq_0_3, uq_0_4, uq_0_5, uq_1_0, uq_1_2, uq_1_3, uq_1_4, uq_1_5, uq_2_0, uq_2_1, uq_2_3, uq_2_4, uq_2_5, uq_3_0, uq_3_1, uq_3_2, uq_3_4, uq_3_5, uq_4_0, uq_4_1, uq_4_2, uq_4_3, uq_4_5, uq_5_0, uq_5_1, uq_5_2, uq_5_3, uq_5_4, uf_0_0, uf_0_1, uf_0_2, uf_0_3, uf_0_4, uf_0_5, uf_1_0, uf_1_1, uf_1_2, uf_1_3, uf_1_4, uf_1_5, uf_2_0, uf_2_1, uf_2_2, uf_2_3, uf_2_4, uf_2_5, uf_3_0, uf_3_1, uf_3_2, uf_3_3, uf_3_4, uf_3_5, uf_4_0, uf_4_1, uf_4_2, uf_4_3, uf_4_4, uf_4_5, uf_5_0, uf_5_1, uf_5_2, uf_5_3, uf_5_4, uf_5_5, js_0, js_2, js_3, js_4, js_5, c10, c19, c24, c34, Int32.not_lt.mp c10, Int32.not_le.mp c19, Int32.not_lt.mp c24, Int32.not_lt.mp c34, if_true, if_false, not_true_eq_false, not_false_eq_true, true_and, and_true, false_and, and_false, true_or, or_true, false_or, or_false, ite_true, ite_false]) ▸ hD
          exact W.vret hx hb hr (fun t ht hW => ⟨⟨(), rfl, trivial, by rw [ht]; exact hP9, va_K.moved hW.alike hK, hD9⟩, hS.F ht⟩) hS.2.2 d_N_link_37

set_option maxHeartbeats 4000000 in
set_option maxRecDepth 100000 in
/-- N_firstAsked -/
theorem c_N_firstAsked (l : Launch) (dC : Nat → ClassId) (dI : Nat → Nat → Nat) (cI : ClassId) (a : Nat → Nat) (N : Mm) (x1 x2 x3 : Int32) : Met l y_N_firstAsked (.code y_N_firstAsked b_N_firstAsked 5 (some .int) :: W0) ({ frames := 2, cells := 0, slots := 0, locals := 44 } : Room) (va_Pc [.ref (a 0), .int x1, .int x2, .int x3] (nR dC dI cI a N)) (QcRead (j_firstAsked N x1 x2 x3)) 0 0 (fun _ => False) := by
  refine Met.ofW (cc := b_N_firstAsked) (maxL := 5) (ret := (some .int)) (by decide) rfl ?_
  intro p e s m args below meth c s₁ B hml hv
  obtain ⟨rfl, hP, hK⟩ := hv
  have hx := B.exec
  have hb := B.bytes
  have hr := B.returns
  have hts1 := atoms_spec (ws := .code y_N_firstAsked b_N_firstAsked 5 (some .int) :: W0) B.pre
  have hts : ∀ w ∈ W0, w.before _ s = true := fun w h => hts1 w (List.mem_cons_of_mem _ h)
  have hown : s.vm.findClass R_N = some m.cls := findClass_of_methodNamed B.named
  have hlocks := B.notSynchronized
  have hl := lv_entry ([.ref (a 0), .int x1, .int x2, .int x3]) (n := 5) (Nat.le_of_ble_eq_true rfl)
  rw [lg_entry_eq]
  generalize (lg_sl ([.ref (a 0), .int x1, .int x2, .int x3]) ++ List.replicate (5 - (lg_sl ([.ref (a 0), .int x1, .int x2, .int x3])).length) Slot.unset).toArray = ls at hl ⊢
  have hl : lv_has ls 5 [(0, .ref (a 0)), (1, .int x1), (2, .int x2), (3, .int x3)] := hl
  refine lv_aload_n hx hb d_N_firstAsked_0 rfl (lv_at hl 0 rfl) ?_
  refine lv_aload_n hx hb d_N_firstAsked_1 rfl (lv_at hl 0 rfl) ?_
  refine lv_iload_n hx hb d_N_firstAsked_2 rfl (lv_at hl 1 rfl) ?_
  refine nCallR (As := [.int x1]) (rest := [.ref (a 0)]) ⟨hx, hb, hml, hown, hts⟩ (c_N_askedBy l dC dI cI a N x1) (cwV 1 hts (gV kml_N_50 kim_N_askedBy ksl_N_askedBy kin_N kcd_N_askedBy) rfl rfl rfl (by decide +kernel) ⟨Nat.le_of_ble_eq_true rfl, Nat.le_of_ble_eq_true rfl⟩) hP hK rfl hl.1 rfl (Nat.le_of_ble_eq_true rfl) d_N_firstAsked_3 ⟨Nat.zero_le _, Nat.zero_le _⟩ ?_
  refine nCallR (As := [.int (j_get N x1 0)]) (rest := []) ⟨hx, hb, hml, hown, hts⟩ (c_N_levelOf l dC dI cI a N (j_get N x1 0)) (cwV 1 hts (gV kml_N_54 kim_N_levelOf ksl_N_levelOf kin_N kcd_N_levelOf) rfl rfl rfl (by decide +kernel) ⟨Nat.le_of_ble_eq_true rfl, Nat.le_of_ble_eq_true rfl⟩) hP hK rfl hl.1 rfl (Nat.le_of_ble_eq_true rfl) d_N_firstAsked_6 ⟨Nat.zero_le _, Nat.zero_le _⟩ ?_
  refine lv_aload_n hx hb d_N_firstAsked_9 rfl (lv_at hl 0 rfl) ?_
  refine lv_aload_n hx hb d_N_firstAsked_10 rfl (lv_at hl 0 rfl) ?_
  refine lv_iload_n hx hb d_N_firstAsked_11 rfl (lv_at hl 2 rfl) ?_
  refine nCallR (As := [.int x2]) (rest := [.ref (a 0), .int (j_levelOf N (j_get N x1 0))]) ⟨hx, hb, hml, hown, hts⟩ (c_N_askedBy l dC dI cI a N x2) (cwV 1 hts (gV kml_N_50 kim_N_askedBy ksl_N_askedBy kin_N kcd_N_askedBy) rfl rfl rfl (by decide +kernel) ⟨Nat.le_of_ble_eq_true rfl, Nat.le_of_ble_eq_true rfl⟩) hP hK rfl hl.1 rfl (Nat.le_of_ble_eq_true rfl) d_N_firstAsked_12 ⟨Nat.zero_le _, Nat.zero_le _⟩ ?_
  refine nCallR (As := [.int (j_get N x2 0)]) (rest := [.int (j_levelOf N (j_get N x1 0))]) ⟨hx, hb, hml, hown, hts⟩ (c_N_levelOf l dC dI cI a N (j_get N x2 0)) (cwV 1 hts (gV kml_N_54 kim_N_levelOf ksl_N_levelOf kin_N kcd_N_levelOf) rfl rfl rfl (by decide +kernel) ⟨Nat.le_of_ble_eq_true rfl, Nat.le_of_ble_eq_true rfl⟩) hP hK rfl hl.1 rfl (Nat.le_of_ble_eq_true rfl) d_N_firstAsked_15 ⟨Nat.zero_le _, Nat.zero_le _⟩ ?_
  refine nMin hx hb (hml.trans hl.1.symm) hown hts kml_N_57 (Nat.le_of_ble_eq_true rfl) (Nat.le_of_ble_eq_true rfl) ⟨Nat.zero_le _, Nat.zero_le _⟩ d_N_firstAsked_18 ?_
  refine lv_istore (lv' := [(4, .int (j_min (j_levelOf N (j_get N x1 0)) (j_levelOf N (j_get N x2 0)))), (0, .ref (a 0)), (1, .int x1), (2, .int x2), (3, .int x3)]) hx hb d_N_firstAsked_21 hl (by decide) rfl (fun ls hl => ?_)
  refine lv_aload_n hx hb d_N_firstAsked_23 rfl (lv_at hl 1 rfl) ?_
  refine lv_iload hx hb d_N_firstAsked_24 (lv_at hl 0 rfl) ?_
  refine lv_aload_n hx hb d_N_firstAsked_26 rfl (lv_at hl 1 rfl) ?_
  refine lv_aload_n hx hb d_N_firstAsked_27 rfl (lv_at hl 1 rfl) ?_
  refine lv_iload_n hx hb d_N_firstAsked_28 rfl (lv_at hl 4 rfl) ?_
  refine nCallR (As := [.int x3]) (rest := [.ref (a 0), .int (j_min (j_levelOf N (j_get N x1 0)) (j_levelOf N (j_get N x2 0))), .ref (a 0)]) ⟨hx, hb, hml, hown, hts⟩ (c_N_askedBy l dC dI cI a N x3) (cwV 1 hts (gV kml_N_50 kim_N_askedBy ksl_N_askedBy kin_N kcd_N_askedBy) rfl rfl rfl (by decide +kernel) ⟨Nat.le_of_ble_eq_true rfl, Nat.le_of_ble_eq_true rfl⟩) hP hK rfl hl.1 rfl (Nat.le_of_ble_eq_true rfl) d_N_firstAsked_29 ⟨Nat.zero_le _, Nat.zero_le _⟩ ?_
  refine nCallR (As := [.int (j_get N x3 0)]) (rest := [.int (j_min (j_levelOf N (j_get N x1 0)) (j_levelOf N (j_get N x2 0))), .ref (a 0)]) ⟨hx, hb, hml, hown, hts⟩ (c_N_levelOf l dC dI cI a N (j_get N x3 0)) (cwV 1 hts (gV kml_N_54 kim_N_levelOf ksl_N_levelOf kin_N kcd_N_levelOf) rfl rfl rfl (by decide +kernel) ⟨Nat.le_of_ble_eq_true rfl, Nat.le_of_ble_eq_true rfl⟩) hP hK rfl hl.1 rfl (Nat.le_of_ble_eq_true rfl) d_N_firstAsked_32 ⟨Nat.zero_le _, Nat.zero_le _⟩ ?_
  refine nMin hx hb (hml.trans hl.1.symm) hown hts kml_N_57 (Nat.le_of_ble_eq_true rfl) (Nat.le_of_ble_eq_true rfl) ⟨Nat.zero_le _, Nat.zero_le _⟩ d_N_firstAsked_35 ?_
  refine nCallR (As := [.int (j_min (j_min (j_levelOf N (j_get N x1 0)) (j_levelOf N (j_get N x2 0))) (j_levelOf N (j_get N x3 0)))]) (rest := []) ⟨hx, hb, hml, hown, hts⟩ (c_N_variableAt l dC dI cI a N (j_min (j_min (j_levelOf N (j_get N x1 0)) (j_levelOf N (j_get N x2 0))) (j_levelOf N (j_get N x3 0)))) (cwV 1 hts (gV kml_N_62 kim_N_variableAt ksl_N_variableAt kin_N kcd_N_variableAt) rfl rfl rfl (by decide +kernel) ⟨Nat.le_of_ble_eq_true rfl, Nat.le_of_ble_eq_true rfl⟩) hP hK rfl hl.1 rfl (Nat.le_of_ble_eq_true rfl) d_N_firstAsked_38 ⟨Nat.zero_le _, Nat.zero_le _⟩ ?_
  exact W.iret (v := (j_variableAt N (j_min (j_min (j_levelOf N (j_get N x1 0)) (j_levelOf N (j_get N x2 0))) (j_levelOf N (j_get N x3 0))))) hx hb hr (fun t ht hW => ⟨by rw [show j_firstAsked N x1 x2 x3 = j_variableAt N (j_min (j_min (j_levelOf N (j_get N x1 0)) (j_levelOf N (j_get N x2 0))) (j_levelOf N (j_get N x3 0))) from by simp only [j_firstAsked, if_true, if_false, not_true_eq_false, not_false_eq_true, true_and, and_true, false_and, and_false, true_or, or_true, false_or, or_false, ite_true, ite_false]], ht⟩) (fun q h => by cases h) d_N_firstAsked_41
