set_option maxHeartbeats 8000000 in
set_option maxRecDepth 100000 in
theorem c_A_begin (l : Launch) (dC : Nat → ClassId) (dI : Nat → Nat → Nat) (cI : ClassId) (g : Nat) (a b : Nat → Nat) (N E : Mm) (sz : Nat) (x1 : Int32) (R0 : Nat) (hR : N 0 0 = nI R0) (h1 : 1024 ≤ R0) (h2 : R0 ≤ 24800) (hv : ∀ k, k < 13 → ∃ w, w < 13 ∧ N 5 k = nI w) : Met l y_A_begin (.code y_A_begin b_A_begin 2 none :: W0) ({ frames := 5, cells := (mcW N (j_makeRoom N x1)), slots := (msW N (j_makeRoom N x1)), locals := 130 } : Room) (va_Pc [.ref g, .int x1] (gM dC dI cI g a b N E sz)) (va_Qv (fun u : Nat → Nat => u 0 = a 0) (fun u t => gE dC dI cI g u b (j_makeRoom N x1) (j_forget E) (va_A (gW cI g a b N E) sz) t) (va_A (gW cI g a b N E) sz)) (mcW N (j_makeRoom N x1)) (msW N (j_makeRoom N x1)) (va_A (gW cI g a b N E) sz) := by
  refine Met.ofW (cc := b_A_begin) (maxL := 2) (ret := none) (by decide) rfl ?_
  intro p e s m args below meth c s₁ B hml hv
  obtain ⟨rfl, hsz, hP, hK, hD0⟩ := hv
  have hx := B.exec
  have hb := B.bytes
  have hr := B.returns
  have hts1 := atoms_spec (ws := .code y_A_begin b_A_begin 2 none :: W0) B.pre
  have hts : ∀ w ∈ W0, w.before _ s = true := fun w h => hts1 w (List.mem_cons_of_mem _ h)
  have hown : s.vm.findClass R_A = some m.cls := findClass_of_methodNamed B.named
  have hlocks := B.notSynchronized
  subst hsz
  have hD := hD0.self (sz := s.heap.size)
  generalize hAe : va_A (gW cI g a b N E) s.heap.size = A at hD ⊢
  have hA : ∀ q : Nat, s.heap.size ≤ q → A q := fun q h => by rw [← hAe]; exact Or.inr h
  have hS : va_S A s.heap s.heap [] := va_S.rf
  have hP : va_P (dC, dI) cls0 (gW cI g a b N E) s.heap := hP
  have hl := lv_entry ([.ref g, .int x1]) (n := 2) (Nat.le_of_ble_eq_true rfl)
  rw [lg_entry_eq]
  generalize (lg_sl ([.ref g, .int x1]) ++ List.replicate (2 - (lg_sl ([.ref g, .int x1])).length) Slot.unset).toArray = ls at hl ⊢
  have hl : lv_has ls 2 [(0, .ref g), (1, .int x1)] := hl
  refine lv_aload_n hx hb d_A_begin_0 rfl (lv_at hl 0 rfl) ?_
  refine va_get (D := (dC, dI)) (ci := 2) (v := .ref (a 0)) (C := R_A) (T := T_A) (N := 2) hx hb hts in_A hown hK hP 0 rfl rfl 0 (by decide) (hts _ kfl_A_9) (fun _ h9 => h9) rfl d_A_begin_1 ?_
  refine lv_iload_n hx hb d_A_begin_4 rfl (lv_at hl 1 rfl) ?_
  refine aNW (As := [.int x1]) (rest := []) ⟨hx, hb, hml, hown, hts⟩ (c_N_makeRoom l dC dI cI a N _ x1 R0 hR h1 h2 hv) (cwV 1 hts (gV kml_A_22 kim_N_makeRoom ksl_N_makeRoom kin_N kcd_N_makeRoom) rfl rfl rfl (by decide +kernel) ⟨by show 4 + 1 ≤ 5; omega, by show 8 + (2 + 11) + 104 ≤ 130; omega⟩) hP hK hD hS hA rfl hl.1 rfl (Nat.le_of_ble_eq_true rfl) d_A_begin_5 ⟨by show 0 + _ ≤ (mcW N (j_makeRoom N x1)); omega, by show 0 + _ ≤ (msW N (j_makeRoom N x1)); omega⟩ (fun u H locs hu hP hD hS => ?_)
  refine W.widen (k := (mcW N (j_makeRoom N x1))) (n := (msW N (j_makeRoom N x1))) (by omega) (by omega) ?_
  refine lv_aload_n hx hb d_A_begin_8 rfl (lv_at hl 0 rfl) ?_
  refine va_get (D := (dC, dI)) (ci := 2) (v := .ref (b 0)) (C := R_A) (T := T_A) (N := 2) hx hb hts in_A hown hK hP 0 rfl rfl 1 (by decide) (hts _ kfl_A_18) (fun _ h9 => h9) rfl d_A_begin_9 ?_
  refine aMv (As := []) (rest := []) ⟨hx, hb, hml, hown, hts⟩ (c_M_forget l dC dI cI b E _ ) (cwV 0 hts (gV kml_A_28 kim_M_forget ksl_M_forget kin_M kcd_M_forget) rfl rfl rfl (by decide +kernel) ⟨by show 0 + 1 ≤ 5; omega, by show 8 + (1 + 11) + 0 ≤ 130; omega⟩) hP hK hD hS hA rfl hl.1 rfl (Nat.le_of_ble_eq_true rfl) d_A_begin_12 ⟨Nat.le_refl _, Nat.le_refl _⟩ (fun H locs hP hD hS => ?_)
  exact W.vret hx hb hr (fun t ht hW => ⟨⟨u, rfl, hu, by rw [ht]; exact hP, va_K.moved hW.alike hK, hD⟩, hS.F ht⟩) hS.2.2 d_A_begin_15

set_option maxHeartbeats 8000000 in
set_option maxRecDepth 100000 in
theorem c_A_truthOf (l : Launch) (dC : Nat → ClassId) (dI : Nat → Nat → Nat) (cI : ClassId) (g : Nat) (a b : Nat → Nat) (N E : Mm) (sz : Nat) (x1 : Int32) (R0 : Nat) (hR : N 0 0 = nI R0) (h1 : 1024 ≤ R0) (h2 : R0 ≤ 24800) (hv : ∀ k, k < 13 → ∃ w, w < 13 ∧ N 5 k = nI w) {N' : Mm} {r : Int32} (hres : j_make (j_makeRoom N 1) x1 0 1 = (N', r)) : Met l y_A_truthOf (.code y_A_truthOf b_A_truthOf 2 (some .int) :: W0) ({ frames := 40, cells := (mcW N (j_makeRoom N 1)), slots := (msW N (j_makeRoom N 1)), locals := 2500 } : Room) (va_Pc [.ref g, .int x1] (gM dC dI cI g a b N E sz)) (va_Qi (fun (z : Int32) (u : Nat → Nat) => z = r ∧ u 0 = a 0) (fun u t => gE dC dI cI g u b (N') (j_forget E) (va_A (gW cI g a b N E) sz) t) (va_A (gW cI g a b N E) sz)) (mcW N (j_makeRoom N 1)) (msW N (j_makeRoom N 1)) (va_A (gW cI g a b N E) sz) := by
  refine Met.ofW (cc := b_A_truthOf) (maxL := 2) (ret := (some .int)) (by decide) rfl ?_
  intro p e s m args below meth c s₁ B hml hv
  obtain ⟨rfl, hsz, hP, hK, hD0⟩ := hv
  have hx := B.exec
  have hb := B.bytes
  have hr := B.returns
  have hts1 := atoms_spec (ws := .code y_A_truthOf b_A_truthOf 2 (some .int) :: W0) B.pre
  have hts : ∀ w ∈ W0, w.before _ s = true := fun w h => hts1 w (List.mem_cons_of_mem _ h)
  have hown : s.vm.findClass R_A = some m.cls := findClass_of_methodNamed B.named
  have hlocks := B.notSynchronized
  subst hsz
  have hD := hD0.self (sz := s.heap.size)
  generalize hAe : va_A (gW cI g a b N E) s.heap.size = A at hD ⊢
  have hA : ∀ q : Nat, s.heap.size ≤ q → A q := fun q h => by rw [← hAe]; exact Or.inr h
  have hS : va_S A s.heap s.heap [] := va_S.rf
  have hP : va_P (dC, dI) cls0 (gW cI g a b N E) s.heap := hP
  have hl := lv_entry ([.ref g, .int x1]) (n := 2) (Nat.le_of_ble_eq_true rfl)
  rw [lg_entry_eq]
  generalize (lg_sl ([.ref g, .int x1]) ++ List.replicate (2 - (lg_sl ([.ref g, .int x1])).length) Slot.unset).toArray = ls at hl ⊢
  have hl : lv_has ls 2 [(0, .ref g), (1, .int x1)] := hl
  refine lv_aload_n hx hb d_A_truthOf_0 rfl (lv_at hl 0 rfl) ?_
  refine lv_iconst (v := 1) hx hb d_A_truthOf_1 (by decide) ?_
  refine aAW (As := [.int 1]) (rest := []) ⟨hx, hb, hml, hown, hts⟩ (c_A_begin l dC dI cI g a b N E _ 1 R0 hR h1 h2 hv) (cwV 1 hts (gV kml_A_31 kim_A_begin ksl_A_begin kin_A kcd_A_begin) rfl rfl rfl (by decide +kernel) ⟨by show 5 + 1 ≤ 40; omega, by show 8 + (2 + 11) + 130 ≤ 2500; omega⟩) hP hK hD hS hA rfl hl.1 rfl (Nat.le_of_ble_eq_true rfl) d_A_truthOf_2 ⟨by show 0 + _ ≤ (mcW N (j_makeRoom N 1)); omega, by show 0 + _ ≤ (msW N (j_makeRoom N 1)); omega⟩ (fun u H locs hu hP hD hS => ?_)
  refine W.widen (k := (mcW N (j_makeRoom N 1))) (n := (msW N (j_makeRoom N 1))) (by omega) (by omega) ?_
  refine lv_aload_n hx hb d_A_truthOf_5 rfl (lv_at hl 0 rfl) ?_
  refine va_get (D := (dC, dI)) (ci := 2) (v := .ref (u 0)) (C := R_A) (T := T_A) (N := 2) hx hb hts in_A hown hK hP 0 rfl rfl 0 (by decide) (hts _ kfl_A_9) (fun _ h9 => h9) rfl d_A_truthOf_6 ?_
  refine lv_iload_n hx hb d_A_truthOf_9 rfl (lv_at hl 1 rfl) ?_
  refine lv_iconst (v := 0) hx hb d_A_truthOf_10 (by decide) ?_
  refine lv_iconst (v := 1) hx hb d_A_truthOf_11 (by decide) ?_
  obtain ⟨N12, r12, h12⟩ := ex2 (j_make (j_makeRoom N 1) x1 0 1)
  refine aNi (As := [.int x1, .int 0, .int 1]) (rest := []) ⟨hx, hb, hml, hown, hts⟩ (c_N_make' l dC dI cI u (j_makeRoom N 1) _ x1 0 1 h12) (cwV 3 hts (gV kml_A_34 kim_N_make ksl_N_make kin_N kcd_N_make) rfl rfl rfl (by decide +kernel) ⟨by show 2 + 1 ≤ 40; omega, by show 8 + (7 + 11) + 49 ≤ 2500; omega⟩) hP hK hD hS hA rfl hl.1 rfl (Nat.le_of_ble_eq_true rfl) d_A_truthOf_12 ⟨Nat.le_refl _, Nat.le_refl _⟩ (fun H locs hP hD hS => ?_)
  obtain ⟨eN, eR⟩ := pe2 (hres.symm.trans h12)
  have eE : j_forget E = j_forget E := rfl
  have hP9 : va_P (dC, dI) cls0 (gW cI g u b (N') (j_forget E)) H := by rw [eN, eE]; exact hP
  have hD9 : va_D A (gW cI g u b (N') (j_forget E)) := by rw [eN, eE]; exact hD
  exact W.iret (v := r12) hx hb hr (fun t ht hW => ⟨⟨r12, u, rfl, ⟨eR.symm, hu⟩, by rw [ht]; exact hP9, va_K.moved hW.alike hK, hD9⟩, hS.F ht⟩) hS.2.2 d_A_truthOf_15

set_option maxHeartbeats 8000000 in
set_option maxRecDepth 100000 in
theorem c_A_chosen (l : Launch) (dC : Nat → ClassId) (dI : Nat → Nat → Nat) (cI : ClassId) (g : Nat) (a b : Nat → Nat) (N E : Mm) (sz : Nat) (x1 x2 x3 : Int32) (R0 : Nat) (hR : N 0 0 = nI R0) (h1 : 1024 ≤ R0) (h2 : R0 ≤ 24800) (hv : ∀ k, k < 13 → ∃ w, w < 13 ∧ N 5 k = nI w) {N' E' : Mm} {r : Int32} (hres : j_pick 12 (j_makeRoom N 765) (j_forget E) x1 x2 x3 = (N', E', r)) : Met l y_A_chosen (.code y_A_chosen b_A_chosen 4 (some .int) :: W0) ({ frames := 40, cells := (mcW N (j_makeRoom N 765)), slots := (msW N (j_makeRoom N 765)), locals := 2500 } : Room) (va_Pc [.ref g, .int x1, .int x2, .int x3] (gM dC dI cI g a b N E sz)) (va_Qi (fun (z : Int32) (u : Nat → Nat) => z = r ∧ u 0 = a 0) (fun u t => gE dC dI cI g u b (N') (E') (va_A (gW cI g a b N E) sz) t) (va_A (gW cI g a b N E) sz)) (mcW N (j_makeRoom N 765)) (msW N (j_makeRoom N 765)) (va_A (gW cI g a b N E) sz) := by
  refine Met.ofW (cc := b_A_chosen) (maxL := 4) (ret := (some .int)) (by decide) rfl ?_
  intro p e s m args below meth c s₁ B hml hv
  obtain ⟨rfl, hsz, hP, hK, hD0⟩ := hv
  have hx := B.exec
  have hb := B.bytes
  have hr := B.returns
  have hts1 := atoms_spec (ws := .code y_A_chosen b_A_chosen 4 (some .int) :: W0) B.pre
  have hts : ∀ w ∈ W0, w.before _ s = true := fun w h => hts1 w (List.mem_cons_of_mem _ h)
  have hown : s.vm.findClass R_A = some m.cls := findClass_of_methodNamed B.named
  have hlocks := B.notSynchronized
  subst hsz
  have hD := hD0.self (sz := s.heap.size)
  generalize hAe : va_A (gW cI g a b N E) s.heap.size = A at hD ⊢
  have hA : ∀ q : Nat, s.heap.size ≤ q → A q := fun q h => by rw [← hAe]; exact Or.inr h
  have hS : va_S A s.heap s.heap [] := va_S.rf
  have hP : va_P (dC, dI) cls0 (gW cI g a b N E) s.heap := hP
  have hl := lv_entry ([.ref g, .int x1, .int x2, .int x3]) (n := 4) (Nat.le_of_ble_eq_true rfl)
  rw [lg_entry_eq]
  generalize (lg_sl ([.ref g, .int x1, .int x2, .int x3]) ++ List.replicate (4 - (lg_sl ([.ref g, .int x1, .int x2, .int x3])).length) Slot.unset).toArray = ls at hl ⊢
  have hl : lv_has ls 4 [(0, .ref g), (1, .int x1), (2, .int x2), (3, .int x3)] := hl
  refine lv_aload_n hx hb d_A_chosen_0 rfl (lv_at hl 0 rfl) ?_
  refine lv_sipush (v := 765) hx hb d_A_chosen_1 (by decide) ?_
  refine aAW (As := [.int 765]) (rest := []) ⟨hx, hb, hml, hown, hts⟩ (c_A_begin l dC dI cI g a b N E _ 765 R0 hR h1 h2 hv) (cwV 1 hts (gV kml_A_31 kim_A_begin ksl_A_begin kin_A kcd_A_begin) rfl rfl rfl (by decide +kernel) ⟨by show 5 + 1 ≤ 40; omega, by show 8 + (2 + 11) + 130 ≤ 2500; omega⟩) hP hK hD hS hA rfl hl.1 rfl (Nat.le_of_ble_eq_true rfl) d_A_chosen_4 ⟨by show 0 + _ ≤ (mcW N (j_makeRoom N 765)); omega, by show 0 + _ ≤ (msW N (j_makeRoom N 765)); omega⟩ (fun u H locs hu hP hD hS => ?_)
  refine W.widen (k := (mcW N (j_makeRoom N 765))) (n := (msW N (j_makeRoom N 765))) (by omega) (by omega) ?_
  refine lv_aload_n hx hb d_A_chosen_7 rfl (lv_at hl 0 rfl) ?_
  refine lv_iload_n hx hb d_A_chosen_8 rfl (lv_at hl 1 rfl) ?_
  refine lv_iload_n hx hb d_A_chosen_9 rfl (lv_at hl 2 rfl) ?_
  refine lv_iload_n hx hb d_A_chosen_10 rfl (lv_at hl 3 rfl) ?_
  refine lv_iconst (v := 0) hx hb d_A_chosen_11 (by decide) ?_
  obtain ⟨N12, E12, r12, h12⟩ := ex3 (j_pick 12 (j_makeRoom N 765) (j_forget E) x1 x2 x3)
  refine aAi (As := [.int x1, .int x2, .int x3, .int 0]) (rest := []) ⟨hx, hb, hml, hown, hts⟩ (c_A_pick l dC dI cI g u b 12 (j_makeRoom N 765) (j_forget E) _ x1 x2 x3 0 _ _ _ (by omega) rfl h12) (cwV 4 hts (gV kml_A_38 kim_A_pick ksl_A_pick kin_A kcd_A_pick) rfl rfl rfl (by decide +kernel) ⟨by show 6 + 12 + 1 ≤ 40; omega, by show 8 + (10 + 11) + (200 + 60 * 12) ≤ 2500; omega⟩) hP hK hD hS hA rfl hl.1 rfl (Nat.le_of_ble_eq_true rfl) d_A_chosen_12 ⟨Nat.le_refl _, Nat.le_refl _⟩ (fun H locs hP hD hS => ?_)
  obtain ⟨eN, eE, eR⟩ := pe3 (hres.symm.trans h12)
  have hP9 : va_P (dC, dI) cls0 (gW cI g u b (N') (E')) H := by rw [eN, eE]; exact hP
  have hD9 : va_D A (gW cI g u b (N') (E')) := by rw [eN, eE]; exact hD
  exact W.iret (v := r12) hx hb hr (fun t ht hW => ⟨⟨r12, u, rfl, ⟨eR.symm, hu⟩, by rw [ht]; exact hP9, va_K.moved hW.alike hK, hD9⟩, hS.F ht⟩) hS.2.2 d_A_chosen_15

set_option maxHeartbeats 8000000 in
set_option maxRecDepth 100000 in
theorem c_A_bothForSome (l : Launch) (dC : Nat → ClassId) (dI : Nat → Nat → Nat) (cI : ClassId) (g : Nat) (a b : Nat → Nat) (N E : Mm) (sz : Nat) (x1 x2 x3 : Int32) (R0 : Nat) (hR : N 0 0 = nI R0) (h1 : 1024 ≤ R0) (h2 : R0 ≤ 24800) (hv : ∀ k, k < 13 → ∃ w, w < 13 ∧ N 5 k = nI w) {N1 E1 N' E' : Mm} {r1 r : Int32} (hres1 : j_pick 12 (j_makeRoom N 3323) (j_forget E) x1 x2 0 = (N1, E1, r1)) (hres : j_freed x3 12 N1 E1 r1 = (N', E', r)) : Met l y_A_bothForSome (.code y_A_bothForSome b_A_bothForSome 4 (some .int) :: W0) ({ frames := 40, cells := (mcW N (j_makeRoom N 3323)), slots := (msW N (j_makeRoom N 3323)), locals := 2500 } : Room) (va_Pc [.ref g, .int x1, .int x2, .int x3] (gM dC dI cI g a b N E sz)) (va_Qi (fun (z : Int32) (u : Nat → Nat) => z = r ∧ u 0 = a 0) (fun u t => gE dC dI cI g u b (N') (E') (va_A (gW cI g a b N E) sz) t) (va_A (gW cI g a b N E) sz)) (mcW N (j_makeRoom N 3323)) (msW N (j_makeRoom N 3323)) (va_A (gW cI g a b N E) sz) := by
  refine Met.ofW (cc := b_A_bothForSome) (maxL := 4) (ret := (some .int)) (by decide) rfl ?_
  intro p e s m args below meth c s₁ B hml hv
  obtain ⟨rfl, hsz, hP, hK, hD0⟩ := hv
  have hx := B.exec
  have hb := B.bytes
  have hr := B.returns
  have hts1 := atoms_spec (ws := .code y_A_bothForSome b_A_bothForSome 4 (some .int) :: W0) B.pre
  have hts : ∀ w ∈ W0, w.before _ s = true := fun w h => hts1 w (List.mem_cons_of_mem _ h)
  have hown : s.vm.findClass R_A = some m.cls := findClass_of_methodNamed B.named
  have hlocks := B.notSynchronized
  subst hsz
  have hD := hD0.self (sz := s.heap.size)
  generalize hAe : va_A (gW cI g a b N E) s.heap.size = A at hD ⊢
  have hA : ∀ q : Nat, s.heap.size ≤ q → A q := fun q h => by rw [← hAe]; exact Or.inr h
  have hS : va_S A s.heap s.heap [] := va_S.rf
  have hP : va_P (dC, dI) cls0 (gW cI g a b N E) s.heap := hP
  have hl := lv_entry ([.ref g, .int x1, .int x2, .int x3]) (n := 4) (Nat.le_of_ble_eq_true rfl)
  rw [lg_entry_eq]
  generalize (lg_sl ([.ref g, .int x1, .int x2, .int x3]) ++ List.replicate (4 - (lg_sl ([.ref g, .int x1, .int x2, .int x3])).length) Slot.unset).toArray = ls at hl ⊢
  have hl : lv_has ls 4 [(0, .ref g), (1, .int x1), (2, .int x2), (3, .int x3)] := hl
  refine lv_aload_n hx hb d_A_bothForSome_0 rfl (lv_at hl 0 rfl) ?_
  refine lv_sipush (v := 3323) hx hb d_A_bothForSome_1 (by decide) ?_
  refine aAW (As := [.int 3323]) (rest := []) ⟨hx, hb, hml, hown, hts⟩ (c_A_begin l dC dI cI g a b N E _ 3323 R0 hR h1 h2 hv) (cwV 1 hts (gV kml_A_31 kim_A_begin ksl_A_begin kin_A kcd_A_begin) rfl rfl rfl (by decide +kernel) ⟨by show 5 + 1 ≤ 40; omega, by show 8 + (2 + 11) + 130 ≤ 2500; omega⟩) hP hK hD hS hA rfl hl.1 rfl (Nat.le_of_ble_eq_true rfl) d_A_bothForSome_4 ⟨by show 0 + _ ≤ (mcW N (j_makeRoom N 3323)); omega, by show 0 + _ ≤ (msW N (j_makeRoom N 3323)); omega⟩ (fun u H locs hu hP hD hS => ?_)
  refine W.widen (k := (mcW N (j_makeRoom N 3323))) (n := (msW N (j_makeRoom N 3323))) (by omega) (by omega) ?_
  refine lv_aload_n hx hb d_A_bothForSome_7 rfl (lv_at hl 0 rfl) ?_
  refine lv_aload_n hx hb d_A_bothForSome_8 rfl (lv_at hl 0 rfl) ?_
  refine lv_iload_n hx hb d_A_bothForSome_9 rfl (lv_at hl 1 rfl) ?_
  refine lv_iload_n hx hb d_A_bothForSome_10 rfl (lv_at hl 2 rfl) ?_
  refine lv_iconst (v := 0) hx hb d_A_bothForSome_11 (by decide) ?_
  refine lv_iconst (v := 0) hx hb d_A_bothForSome_12 (by decide) ?_
  obtain ⟨N13, E13, r13, h13⟩ := ex3 (j_pick 12 (j_makeRoom N 3323) (j_forget E) x1 x2 0)
  refine aAi (As := [.int x1, .int x2, .int 0, .int 0]) (rest := [.ref g]) ⟨hx, hb, hml, hown, hts⟩ (c_A_pick l dC dI cI g u b 12 (j_makeRoom N 3323) (j_forget E) _ x1 x2 0 0 _ _ _ (by omega) rfl h13) (cwV 4 hts (gV kml_A_38 kim_A_pick ksl_A_pick kin_A kcd_A_pick) rfl rfl rfl (by decide +kernel) ⟨by show 6 + 12 + 1 ≤ 40; omega, by show 8 + (10 + 11) + (200 + 60 * 12) ≤ 2500; omega⟩) hP hK hD hS hA rfl hl.1 rfl (Nat.le_of_ble_eq_true rfl) d_A_bothForSome_13 ⟨Nat.le_refl _, Nat.le_refl _⟩ (fun H locs hP hD hS => ?_)
  refine lv_iload_n hx hb d_A_bothForSome_16 rfl (lv_at hl 3 rfl) ?_
  refine lv_iconst (v := 0) hx hb d_A_bothForSome_17 (by decide) ?_
  obtain ⟨N18, E18, r18, h18⟩ := ex3 (j_freed x3 12 N13 E13 r13)
  refine aAi (As := [.int r13, .int x3, .int 0]) (rest := []) ⟨hx, hb, hml, hown, hts⟩ (c_A_freed l dC dI cI g u b 12 N13 E13 _ r13 x3 0 _ _ _ (by omega) rfl h18) (cwV 3 hts (gV kml_A_42 kim_A_freed ksl_A_freed kin_A kcd_A_freed) rfl rfl rfl (by decide +kernel) ⟨by show 20 + 12 + 1 ≤ 40; omega, by show 8 + (10 + 11) + (1200 + 60 * 12) ≤ 2500; omega⟩) hP hK hD hS hA rfl hl.1 rfl (Nat.le_of_ble_eq_true rfl) d_A_bothForSome_18 ⟨Nat.le_refl _, Nat.le_refl _⟩ (fun H locs hP hD hS => ?_)
  rw [h13] at hres1
  obtain ⟨e1, e2, e3⟩ := pe3 hres1
  subst e1; subst e2; subst e3
  obtain ⟨eN, eE, eR⟩ := pe3 (hres.symm.trans h18)
  have hP9 : va_P (dC, dI) cls0 (gW cI g u b (N') (E')) H := by rw [eN, eE]; exact hP
  have hD9 : va_D A (gW cI g u b (N') (E')) := by rw [eN, eE]; exact hD
  exact W.iret (v := r18) hx hb hr (fun t ht hW => ⟨⟨r18, u, rfl, ⟨eR.symm, hu⟩, by rw [ht]; exact hP9, va_K.moved hW.alike hK, hD9⟩, hS.F ht⟩) hS.2.2 d_A_bothForSome_21

set_option maxHeartbeats 8000000 in
set_option maxRecDepth 100000 in
theorem c_A_turned (l : Launch) (dC : Nat → ClassId) (dI : Nat → Nat → Nat) (cI : ClassId) (g : Nat) (a b : Nat → Nat) (N E : Mm) (sz : Nat) (x1 : Int32) (R0 : Nat) (hR : N 0 0 = nI R0) (h1 : 1024 ≤ R0) (h2 : R0 ≤ 24800) (hv : ∀ k, k < 13 → ∃ w, w < 13 ∧ N 5 k = nI w) {E9 N' : Mm} {m1 r : Int32} (hres1 : j_hang 12 (j_makeRoom N 765) (j_forget E) x1 = (E9, m1)) (hres : j_turn m1 12 (j_makeRoom N 765) x1 0 0 0 = (N', r)) : Met l y_A_turned (.code y_A_turned b_A_turned 2 (some .int) :: W0) ({ frames := 40, cells := (mcW N (j_makeRoom N 765)), slots := (msW N (j_makeRoom N 765)), locals := 2500 } : Room) (va_Pc [.ref g, .int x1] (gM dC dI cI g a b N E sz)) (va_Qi (fun (z : Int32) (u : Nat → Nat) => z = r ∧ u 0 = a 0) (fun u t => gE dC dI cI g u b (N') (E9) (va_A (gW cI g a b N E) sz) t) (va_A (gW cI g a b N E) sz)) (mcW N (j_makeRoom N 765)) (msW N (j_makeRoom N 765)) (va_A (gW cI g a b N E) sz) := by
  refine Met.ofW (cc := b_A_turned) (maxL := 2) (ret := (some .int)) (by decide) rfl ?_
  intro p e s m args below meth c s₁ B hml hv
  obtain ⟨rfl, hsz, hP, hK, hD0⟩ := hv
  have hx := B.exec
  have hb := B.bytes
  have hr := B.returns
  have hts1 := atoms_spec (ws := .code y_A_turned b_A_turned 2 (some .int) :: W0) B.pre
  have hts : ∀ w ∈ W0, w.before _ s = true := fun w h => hts1 w (List.mem_cons_of_mem _ h)
  have hown : s.vm.findClass R_A = some m.cls := findClass_of_methodNamed B.named
  have hlocks := B.notSynchronized
  subst hsz
  have hD := hD0.self (sz := s.heap.size)
  generalize hAe : va_A (gW cI g a b N E) s.heap.size = A at hD ⊢
  have hA : ∀ q : Nat, s.heap.size ≤ q → A q := fun q h => by rw [← hAe]; exact Or.inr h
  have hS : va_S A s.heap s.heap [] := va_S.rf
  have hP : va_P (dC, dI) cls0 (gW cI g a b N E) s.heap := hP
  have hl := lv_entry ([.ref g, .int x1]) (n := 2) (Nat.le_of_ble_eq_true rfl)
  rw [lg_entry_eq]
  generalize (lg_sl ([.ref g, .int x1]) ++ List.replicate (2 - (lg_sl ([.ref g, .int x1])).length) Slot.unset).toArray = ls at hl ⊢
  have hl : lv_has ls 2 [(0, .ref g), (1, .int x1)] := hl
  refine lv_aload_n hx hb d_A_turned_0 rfl (lv_at hl 0 rfl) ?_
  refine lv_sipush (v := 765) hx hb d_A_turned_1 (by decide) ?_
  refine aAW (As := [.int 765]) (rest := []) ⟨hx, hb, hml, hown, hts⟩ (c_A_begin l dC dI cI g a b N E _ 765 R0 hR h1 h2 hv) (cwV 1 hts (gV kml_A_31 kim_A_begin ksl_A_begin kin_A kcd_A_begin) rfl rfl rfl (by decide +kernel) ⟨by show 5 + 1 ≤ 40; omega, by show 8 + (2 + 11) + 130 ≤ 2500; omega⟩) hP hK hD hS hA rfl hl.1 rfl (Nat.le_of_ble_eq_true rfl) d_A_turned_4 ⟨by show 0 + _ ≤ (mcW N (j_makeRoom N 765)); omega, by show 0 + _ ≤ (msW N (j_makeRoom N 765)); omega⟩ (fun u H locs hu hP hD hS => ?_)
  refine W.widen (k := (mcW N (j_makeRoom N 765))) (n := (msW N (j_makeRoom N 765))) (by omega) (by omega) ?_
  refine lv_aload_n hx hb d_A_turned_7 rfl (lv_at hl 0 rfl) ?_
  refine lv_iload_n hx hb d_A_turned_8 rfl (lv_at hl 1 rfl) ?_
  refine lv_iconst (v := 0) hx hb d_A_turned_9 (by decide) ?_
  refine lv_iconst (v := 0) hx hb d_A_turned_10 (by decide) ?_
  refine lv_iconst (v := 0) hx hb d_A_turned_11 (by decide) ?_
  refine lv_aload_n hx hb d_A_turned_12 rfl (lv_at hl 0 rfl) ?_
  refine lv_iload_n hx hb d_A_turned_13 rfl (lv_at hl 1 rfl) ?_
  refine lv_iconst (v := 0) hx hb d_A_turned_14 (by decide) ?_
  obtain ⟨E15, r15, h15⟩ := ex2 (j_hang 12 (j_makeRoom N 765) (j_forget E) x1)
  refine aAi (As := [.int x1, .int 0]) (rest := [.int 0, .int 0, .int 0, .int x1, .ref g]) ⟨hx, hb, hml, hown, hts⟩ (c_A_hanging l dC dI cI g u b 12 (j_makeRoom N 765) (j_forget E) _ x1 0 _ _ (by omega) rfl h15) (cwV 2 hts (gV kml_A_45 kim_A_hanging ksl_A_hanging kin_A kcd_A_hanging) rfl rfl rfl (by decide +kernel) ⟨by show 6 + 12 + 1 ≤ 40; omega, by show 8 + (6 + 11) + (200 + 60 * 12) ≤ 2500; omega⟩) hP hK hD hS hA rfl hl.1 rfl (Nat.le_of_ble_eq_true rfl) d_A_turned_15 ⟨Nat.le_refl _, Nat.le_refl _⟩ (fun H locs hP hD hS => ?_)
  obtain ⟨N18, r18, h18⟩ := ex2 (j_turn r15 12 (j_makeRoom N 765) x1 0 0 0)
  refine aAi (As := [.int x1, .int 0, .int 0, .int 0, .int r15]) (rest := []) ⟨hx, hb, hml, hown, hts⟩ (c_A_turnedFrom l dC dI cI g u b 12 (j_makeRoom N 765) E15 _ x1 0 0 0 r15 _ _ (by omega) rfl h18) (cwV 5 hts (gV kml_A_49 kim_A_turnedFrom ksl_A_turnedFrom kin_A kcd_A_turnedFrom) rfl rfl rfl (by decide +kernel) ⟨by show 6 + 12 + 1 ≤ 40; omega, by show 8 + (11 + 11) + (200 + 60 * 12) ≤ 2500; omega⟩) hP hK hD hS hA rfl hl.1 rfl (Nat.le_of_ble_eq_true rfl) d_A_turned_18 ⟨Nat.le_refl _, Nat.le_refl _⟩ (fun H locs hP hD hS => ?_)
  rw [h15] at hres1
  obtain ⟨e1, e2⟩ := pe2 hres1
  rw [← e2] at hres
  obtain ⟨eN, eR⟩ := pe2 (hres.symm.trans h18)
  have eE : E9 = E15 := e1.symm
  have hP9 : va_P (dC, dI) cls0 (gW cI g u b (N') (E9)) H := by rw [eN, eE]; exact hP
  have hD9 : va_D A (gW cI g u b (N') (E9)) := by rw [eN, eE]; exact hD
  exact W.iret (v := r18) hx hb hr (fun t ht hW => ⟨⟨r18, u, rfl, ⟨eR.symm, hu⟩, by rw [ht]; exact hP9, va_K.moved hW.alike hK, hD9⟩, hS.F ht⟩) hS.2.2 d_A_turned_21

def j_joined (kind : Nat) (N E : Mm) (f g : Int32) : Mm × Mm × Int32 :=
  if kind = 0 then j_pick 12 N E f g 0 else if kind = 1 then j_pick 12 N E f 1 g else
  if kind = 2 then (match j_pick 12 N E g 0 1 with | (N1, E1, r1) => j_pick 12 N1 E1 f r1 g) else
  if kind = 3 then j_pick 12 N E g 0 f else j_pick 12 N E f 0 1
set_option maxHeartbeats 8000000 in
set_option maxRecDepth 100000 in
theorem c_A_joined (l : Launch) (dC : Nat → ClassId) (dI : Nat → Nat → Nat) (cI : ClassId) (g : Nat) (a b : Nat → Nat) (N E : Mm) (sz : Nat) (x1 x2 x3 : Int32) (R0 : Nat) (hR : N 0 0 = nI R0) (h1 : 1024 ≤ R0) (h2 : R0 ≤ 24800) (hv : ∀ k, k < 13 → ∃ w, w < 13 ∧ N 5 k = nI w) {N' E' : Mm} {r : Int32} (k : Nat) (hk : k < 5) (hx1 : x1 = nI k) (hres : j_joined k (j_makeRoom N 1530) (j_forget E) x2 x3 = (N', E', r)) : Met l y_A_joined (.code y_A_joined b_A_joined 4 (some .int) :: W0) ({ frames := 40, cells := (mcW N (j_makeRoom N 1530)), slots := (msW N (j_makeRoom N 1530)), locals := 2500 } : Room) (va_Pc [.ref g, .int x1, .int x2, .int x3] (gM dC dI cI g a b N E sz)) (va_Qi (fun (z : Int32) (u : Nat → Nat) => z = r ∧ u 0 = a 0) (fun u t => gE dC dI cI g u b (N') (E') (va_A (gW cI g a b N E) sz) t) (va_A (gW cI g a b N E) sz)) (mcW N (j_makeRoom N 1530)) (msW N (j_makeRoom N 1530)) (va_A (gW cI g a b N E) sz) := by
  refine Met.ofW (cc := b_A_joined) (maxL := 4) (ret := (some .int)) (by decide) rfl ?_
  intro p e s m args below meth c s₁ B hml hv
  obtain ⟨rfl, hsz, hP, hK, hD0⟩ := hv
  have hx := B.exec
  have hb := B.bytes
  have hr := B.returns
  have hts1 := atoms_spec (ws := .code y_A_joined b_A_joined 4 (some .int) :: W0) B.pre
  have hts : ∀ w ∈ W0, w.before _ s = true := fun w h => hts1 w (List.mem_cons_of_mem _ h)
  have hown : s.vm.findClass R_A = some m.cls := findClass_of_methodNamed B.named
  have hlocks := B.notSynchronized
  subst hsz
  have hD := hD0.self (sz := s.heap.size)
  generalize hAe : va_A (gW cI g a b N E) s.heap.size = A at hD ⊢
  have hA : ∀ q : Nat, s.heap.size ≤ q → A q := fun q h => by rw [← hAe]; exact Or.inr h
  have hS : va_S A s.heap s.heap [] := va_S.rf
  have hP : va_P (dC, dI) cls0 (gW cI g a b N E) s.heap := hP
  have hl := lv_entry ([.ref g, .int x1, .int x2, .int x3]) (n := 4) (Nat.le_of_ble_eq_true rfl)
  rw [lg_entry_eq]
  generalize (lg_sl ([.ref g, .int x1, .int x2, .int x3]) ++ List.replicate (4 - (lg_sl ([.ref g, .int x1, .int x2, .int x3])).length) Slot.unset).toArray = ls at hl ⊢
  have hl : lv_has ls 4 [(0, .ref g), (1, .int x1), (2, .int x2), (3, .int x3)] := hl
  refine lv_aload_n hx hb d_A_joined_0 rfl (lv_at hl 0 rfl) ?_
  refine lv_sipush (v := 1530) hx hb d_A_joined_1 (by decide) ?_
  refine aAW (As := [.int 1530]) (rest := []) ⟨hx, hb, hml, hown, hts⟩ (c_A_begin l dC dI cI g a b N E _ 1530 R0 hR h1 h2 hv) (cwV 1 hts (gV kml_A_31 kim_A_begin ksl_A_begin kin_A kcd_A_begin) rfl rfl rfl (by decide +kernel) ⟨by show 5 + 1 ≤ 40; omega, by show 8 + (2 + 11) + 130 ≤ 2500; omega⟩) hP hK hD hS hA rfl hl.1 rfl (Nat.le_of_ble_eq_true rfl) d_A_joined_4 ⟨by show 0 + _ ≤ (mcW N (j_makeRoom N 1530)); omega, by show 0 + _ ≤ (msW N (j_makeRoom N 1530)); omega⟩ (fun u H locs hu hP hD hS => ?_)
  refine W.widen (k := (mcW N (j_makeRoom N 1530))) (n := (msW N (j_makeRoom N 1530))) (by omega) (by omega) ?_
  refine lv_iload_n hx hb d_A_joined_7 rfl (lv_at hl 1 rfl) ?_
  rcases (show k = 0 ∨ k = 1 ∨ k = 2 ∨ k = 3 ∨ k = 4 by omega) with rfl | rfl | rfl | rfl | rfl
  · refine lv_tableIn (tgt := 40) (off := 32) hx hb d_A_joined_8 (by rw [hx1]; decide) (by rw [hx1]; decide) (by rw [hx1]; rfl) (by decide) ?_
    refine lv_aload_n hx hb d_A_joined_40 rfl (lv_at hl 0 rfl) ?_
    refine lv_iload_n hx hb d_A_joined_41 rfl (lv_at hl 2 rfl) ?_
    refine lv_iload_n hx hb d_A_joined_42 rfl (lv_at hl 3 rfl) ?_
    refine lv_iconst (v := 0) hx hb d_A_joined_43 (by decide) ?_
    refine lv_iconst (v := 0) hx hb d_A_joined_44 (by decide) ?_
    obtain ⟨N45, E45, r45, h45⟩ := ex3 (j_pick 12 (j_makeRoom N 1530) (j_forget E) x2 x3 0)
    refine aAi (As := [.int x2, .int x3, .int 0, .int 0]) (rest := []) ⟨hx, hb, hml, hown, hts⟩ (c_A_pick l dC dI cI g u b 12 (j_makeRoom N 1530) (j_forget E) _ x2 x3 0 0 _ _ _ (by omega) rfl h45) (cwV 4 hts (gV kml_A_38 kim_A_pick ksl_A_pick kin_A kcd_A_pick) rfl rfl rfl (by decide +kernel) ⟨by show 6 + 12 + 1 ≤ 40; omega, by show 8 + (10 + 11) + (200 + 60 * 12) ≤ 2500; omega⟩) hP hK hD hS hA rfl hl.1 rfl (Nat.le_of_ble_eq_true rfl) d_A_joined_45 ⟨Nat.le_refl _, Nat.le_refl _⟩ (fun H locs hP hD hS => ?_)
    have eq : j_joined 0 (j_makeRoom N 1530) (j_forget E) x2 x3 = (N45, E45, r45) := by unfold j_joined; rw [if_pos rfl]; exact h45
    obtain ⟨eN, eE, eR⟩ := pe3 (hres.symm.trans eq)
    have hP9 : va_P (dC, dI) cls0 (gW cI g u b (N') (E')) H := by rw [eN, eE]; exact hP
    have hD9 : va_D A (gW cI g u b (N') (E')) := by rw [eN, eE]; exact hD
    exact W.iret (v := r45) hx hb hr (fun t ht hW => ⟨⟨r45, u, rfl, ⟨eR.symm, hu⟩, by rw [ht]; exact hP9, va_K.moved hW.alike hK, hD9⟩, hS.F ht⟩) hS.2.2 d_A_joined_48
  · refine lv_tableIn (tgt := 49) (off := 41) hx hb d_A_joined_8 (by rw [hx1]; decide) (by rw [hx1]; decide) (by rw [hx1]; rfl) (by decide) ?_
    refine lv_aload_n hx hb d_A_joined_49 rfl (lv_at hl 0 rfl) ?_
    refine lv_iload_n hx hb d_A_joined_50 rfl (lv_at hl 2 rfl) ?_
    refine lv_iconst (v := 1) hx hb d_A_joined_51 (by decide) ?_
    refine lv_iload_n hx hb d_A_joined_52 rfl (lv_at hl 3 rfl) ?_
    refine lv_iconst (v := 0) hx hb d_A_joined_53 (by decide) ?_
    obtain ⟨N54, E54, r54, h54⟩ := ex3 (j_pick 12 (j_makeRoom N 1530) (j_forget E) x2 1 x3)
    refine aAi (As := [.int x2, .int 1, .int x3, .int 0]) (rest := []) ⟨hx, hb, hml, hown, hts⟩ (c_A_pick l dC dI cI g u b 12 (j_makeRoom N 1530) (j_forget E) _ x2 1 x3 0 _ _ _ (by omega) rfl h54) (cwV 4 hts (gV kml_A_38 kim_A_pick ksl_A_pick kin_A kcd_A_pick) rfl rfl rfl (by decide +kernel) ⟨by show 6 + 12 + 1 ≤ 40; omega, by show 8 + (10 + 11) + (200 + 60 * 12) ≤ 2500; omega⟩) hP hK hD hS hA rfl hl.1 rfl (Nat.le_of_ble_eq_true rfl) d_A_joined_54 ⟨Nat.le_refl _, Nat.le_refl _⟩ (fun H locs hP hD hS => ?_)
    have eq : j_joined 1 (j_makeRoom N 1530) (j_forget E) x2 x3 = (N54, E54, r54) := by unfold j_joined; rw [if_neg (by decide), if_pos rfl]; exact h54
    obtain ⟨eN, eE, eR⟩ := pe3 (hres.symm.trans eq)
    have hP9 : va_P (dC, dI) cls0 (gW cI g u b (N') (E')) H := by rw [eN, eE]; exact hP
    have hD9 : va_D A (gW cI g u b (N') (E')) := by rw [eN, eE]; exact hD
    exact W.iret (v := r54) hx hb hr (fun t ht hW => ⟨⟨r54, u, rfl, ⟨eR.symm, hu⟩, by rw [ht]; exact hP9, va_K.moved hW.alike hK, hD9⟩, hS.F ht⟩) hS.2.2 d_A_joined_57
  · refine lv_tableIn (tgt := 58) (off := 50) hx hb d_A_joined_8 (by rw [hx1]; decide) (by rw [hx1]; decide) (by rw [hx1]; rfl) (by decide) ?_
    refine lv_aload_n hx hb d_A_joined_58 rfl (lv_at hl 0 rfl) ?_
    refine lv_iload_n hx hb d_A_joined_59 rfl (lv_at hl 2 rfl) ?_
    refine lv_aload_n hx hb d_A_joined_60 rfl (lv_at hl 0 rfl) ?_
    refine lv_iload_n hx hb d_A_joined_61 rfl (lv_at hl 3 rfl) ?_
    refine lv_iconst (v := 0) hx hb d_A_joined_62 (by decide) ?_
    refine lv_iconst (v := 1) hx hb d_A_joined_63 (by decide) ?_
    refine lv_iconst (v := 0) hx hb d_A_joined_64 (by decide) ?_
    obtain ⟨N65, E65, r65, h65⟩ := ex3 (j_pick 12 (j_makeRoom N 1530) (j_forget E) x3 0 1)
    refine aAi (As := [.int x3, .int 0, .int 1, .int 0]) (rest := [.int x2, .ref g]) ⟨hx, hb, hml, hown, hts⟩ (c_A_pick l dC dI cI g u b 12 (j_makeRoom N 1530) (j_forget E) _ x3 0 1 0 _ _ _ (by omega) rfl h65) (cwV 4 hts (gV kml_A_38 kim_A_pick ksl_A_pick kin_A kcd_A_pick) rfl rfl rfl (by decide +kernel) ⟨by show 6 + 12 + 1 ≤ 40; omega, by show 8 + (10 + 11) + (200 + 60 * 12) ≤ 2500; omega⟩) hP hK hD hS hA rfl hl.1 rfl (Nat.le_of_ble_eq_true rfl) d_A_joined_65 ⟨Nat.le_refl _, Nat.le_refl _⟩ (fun H locs hP hD hS => ?_)
    refine lv_iload_n hx hb d_A_joined_68 rfl (lv_at hl 3 rfl) ?_
    refine lv_iconst (v := 0) hx hb d_A_joined_69 (by decide) ?_
    obtain ⟨N70, E70, r70, h70⟩ := ex3 (j_pick 12 N65 E65 x2 r65 x3)
    refine aAi (As := [.int x2, .int r65, .int x3, .int 0]) (rest := []) ⟨hx, hb, hml, hown, hts⟩ (c_A_pick l dC dI cI g u b 12 N65 E65 _ x2 r65 x3 0 _ _ _ (by omega) rfl h70) (cwV 4 hts (gV kml_A_38 kim_A_pick ksl_A_pick kin_A kcd_A_pick) rfl rfl rfl (by decide +kernel) ⟨by show 6 + 12 + 1 ≤ 40; omega, by show 8 + (10 + 11) + (200 + 60 * 12) ≤ 2500; omega⟩) hP hK hD hS hA rfl hl.1 rfl (Nat.le_of_ble_eq_true rfl) d_A_joined_70 ⟨Nat.le_refl _, Nat.le_refl _⟩ (fun H locs hP hD hS => ?_)
    have eq : j_joined 2 (j_makeRoom N 1530) (j_forget E) x2 x3 = (N70, E70, r70) := by unfold j_joined; rw [if_neg (by decide), if_neg (by decide), if_pos rfl, h65]; exact h70
    obtain ⟨eN, eE, eR⟩ := pe3 (hres.symm.trans eq)
    have hP9 : va_P (dC, dI) cls0 (gW cI g u b (N') (E')) H := by rw [eN, eE]; exact hP
    have hD9 : va_D A (gW cI g u b (N') (E')) := by rw [eN, eE]; exact hD
    exact W.iret (v := r70) hx hb hr (fun t ht hW => ⟨⟨r70, u, rfl, ⟨eR.symm, hu⟩, by rw [ht]; exact hP9, va_K.moved hW.alike hK, hD9⟩, hS.F ht⟩) hS.2.2 d_A_joined_73
  · refine lv_tableIn (tgt := 74) (off := 66) hx hb d_A_joined_8 (by rw [hx1]; decide) (by rw [hx1]; decide) (by rw [hx1]; rfl) (by decide) ?_
    refine lv_aload_n hx hb d_A_joined_74 rfl (lv_at hl 0 rfl) ?_
    refine lv_iload_n hx hb d_A_joined_75 rfl (lv_at hl 3 rfl) ?_
    refine lv_iconst (v := 0) hx hb d_A_joined_76 (by decide) ?_
    refine lv_iload_n hx hb d_A_joined_77 rfl (lv_at hl 2 rfl) ?_
    refine lv_iconst (v := 0) hx hb d_A_joined_78 (by decide) ?_
    obtain ⟨N79, E79, r79, h79⟩ := ex3 (j_pick 12 (j_makeRoom N 1530) (j_forget E) x3 0 x2)
    refine aAi (As := [.int x3, .int 0, .int x2, .int 0]) (rest := []) ⟨hx, hb, hml, hown, hts⟩ (c_A_pick l dC dI cI g u b 12 (j_makeRoom N 1530) (j_forget E) _ x3 0 x2 0 _ _ _ (by omega) rfl h79) (cwV 4 hts (gV kml_A_38 kim_A_pick ksl_A_pick kin_A kcd_A_pick) rfl rfl rfl (by decide +kernel) ⟨by show 6 + 12 + 1 ≤ 40; omega, by show 8 + (10 + 11) + (200 + 60 * 12) ≤ 2500; omega⟩) hP hK hD hS hA rfl hl.1 rfl (Nat.le_of_ble_eq_true rfl) d_A_joined_79 ⟨Nat.le_refl _, Nat.le_refl _⟩ (fun H locs hP hD hS => ?_)
    have eq : j_joined 3 (j_makeRoom N 1530) (j_forget E) x2 x3 = (N79, E79, r79) := by unfold j_joined; rw [if_neg (by decide), if_neg (by decide), if_neg (by decide), if_pos rfl]; exact h79
    obtain ⟨eN, eE, eR⟩ := pe3 (hres.symm.trans eq)
    have hP9 : va_P (dC, dI) cls0 (gW cI g u b (N') (E')) H := by rw [eN, eE]; exact hP
    have hD9 : va_D A (gW cI g u b (N') (E')) := by rw [eN, eE]; exact hD
    exact W.iret (v := r79) hx hb hr (fun t ht hW => ⟨⟨r79, u, rfl, ⟨eR.symm, hu⟩, by rw [ht]; exact hP9, va_K.moved hW.alike hK, hD9⟩, hS.F ht⟩) hS.2.2 d_A_joined_82
  · refine lv_tableOut (tgt := 83) hx hb d_A_joined_8 (by rw [hx1]; decide) (by decide) ?_
    refine lv_aload_n hx hb d_A_joined_83 rfl (lv_at hl 0 rfl) ?_
    refine lv_iload_n hx hb d_A_joined_84 rfl (lv_at hl 2 rfl) ?_
    refine lv_iconst (v := 0) hx hb d_A_joined_85 (by decide) ?_
    refine lv_iconst (v := 1) hx hb d_A_joined_86 (by decide) ?_
    refine lv_iconst (v := 0) hx hb d_A_joined_87 (by decide) ?_
    obtain ⟨N88, E88, r88, h88⟩ := ex3 (j_pick 12 (j_makeRoom N 1530) (j_forget E) x2 0 1)
    refine aAi (As := [.int x2, .int 0, .int 1, .int 0]) (rest := []) ⟨hx, hb, hml, hown, hts⟩ (c_A_pick l dC dI cI g u b 12 (j_makeRoom N 1530) (j_forget E) _ x2 0 1 0 _ _ _ (by omega) rfl h88) (cwV 4 hts (gV kml_A_38 kim_A_pick ksl_A_pick kin_A kcd_A_pick) rfl rfl rfl (by decide +kernel) ⟨by show 6 + 12 + 1 ≤ 40; omega, by show 8 + (10 + 11) + (200 + 60 * 12) ≤ 2500; omega⟩) hP hK hD hS hA rfl hl.1 rfl (Nat.le_of_ble_eq_true rfl) d_A_joined_88 ⟨Nat.le_refl _, Nat.le_refl _⟩ (fun H locs hP hD hS => ?_)
    have eq : j_joined 4 (j_makeRoom N 1530) (j_forget E) x2 x3 = (N88, E88, r88) := by unfold j_joined; rw [if_neg (by decide), if_neg (by decide), if_neg (by decide), if_neg (by decide)]; exact h88
    obtain ⟨eN, eE, eR⟩ := pe3 (hres.symm.trans eq)
    have hP9 : va_P (dC, dI) cls0 (gW cI g u b (N') (E')) H := by rw [eN, eE]; exact hP
    have hD9 : va_D A (gW cI g u b (N') (E')) := by rw [eN, eE]; exact hD
    exact W.iret (v := r88) hx hb hr (fun t ht hW => ⟨⟨r88, u, rfl, ⟨eR.symm, hu⟩, by rw [ht]; exact hP9, va_K.moved hW.alike hK, hD9⟩, hS.F ht⟩) hS.2.2 d_A_joined_91

set_option maxHeartbeats 8000000 in
set_option maxRecDepth 100000 in
theorem c_A_hangsOn (l : Launch) (dC : Nat → ClassId) (dI : Nat → Nat → Nat) (cI : ClassId) (g : Nat) (a b : Nat → Nat) (N E : Mm) (sz : Nat) (x1 : Int32) {E' : Mm} {r : Int32} (hres : j_hang 12 N (j_forget E) x1 = (E', r)) : Met l y_A_hangsOn (.code y_A_hangsOn b_A_hangsOn 2 (some .int) :: W0) ({ frames := 40, cells := 0, slots := 0, locals := 2500 } : Room) (va_Pc [.ref g, .int x1] (gM dC dI cI g a b N E sz)) (va_Qi (fun (z : Int32) (_ : Unit) => z = r) (fun _ t => gE dC dI cI g a b (N) (E') (va_A (gW cI g a b N E) sz) t) (va_A (gW cI g a b N E) sz)) 0 0 (va_A (gW cI g a b N E) sz) := by
  refine Met.ofW (cc := b_A_hangsOn) (maxL := 2) (ret := (some .int)) (by decide) rfl ?_
  intro p e s m args below meth c s₁ B hml hv
  obtain ⟨rfl, hsz, hP, hK, hD0⟩ := hv
  have hx := B.exec
  have hb := B.bytes
  have hr := B.returns
  have hts1 := atoms_spec (ws := .code y_A_hangsOn b_A_hangsOn 2 (some .int) :: W0) B.pre
  have hts : ∀ w ∈ W0, w.before _ s = true := fun w h => hts1 w (List.mem_cons_of_mem _ h)
  have hown : s.vm.findClass R_A = some m.cls := findClass_of_methodNamed B.named
  have hlocks := B.notSynchronized
  subst hsz
  have hD := hD0.self (sz := s.heap.size)
  generalize hAe : va_A (gW cI g a b N E) s.heap.size = A at hD ⊢
  have hA : ∀ q : Nat, s.heap.size ≤ q → A q := fun q h => by rw [← hAe]; exact Or.inr h
  have hS : va_S A s.heap s.heap [] := va_S.rf
  have hP : va_P (dC, dI) cls0 (gW cI g a b N E) s.heap := hP
  have hl := lv_entry ([.ref g, .int x1]) (n := 2) (Nat.le_of_ble_eq_true rfl)
  rw [lg_entry_eq]
  generalize (lg_sl ([.ref g, .int x1]) ++ List.replicate (2 - (lg_sl ([.ref g, .int x1])).length) Slot.unset).toArray = ls at hl ⊢
  have hl : lv_has ls 2 [(0, .ref g), (1, .int x1)] := hl
  refine lv_aload_n hx hb d_A_hangsOn_0 rfl (lv_at hl 0 rfl) ?_
  refine va_get (D := (dC, dI)) (ci := 2) (v := .ref (b 0)) (C := R_A) (T := T_A) (N := 2) hx hb hts in_A hown hK hP 0 rfl rfl 1 (by decide) (hts _ kfl_A_18) (fun _ h9 => h9) rfl d_A_hangsOn_1 ?_
  refine aMv (As := []) (rest := []) ⟨hx, hb, hml, hown, hts⟩ (c_M_forget l dC dI cI b E _ ) (cwV 0 hts (gV kml_A_28 kim_M_forget ksl_M_forget kin_M kcd_M_forget) rfl rfl rfl (by decide +kernel) ⟨by show 0 + 1 ≤ 40; omega, by show 8 + (1 + 11) + 0 ≤ 2500; omega⟩) hP hK hD hS hA rfl hl.1 rfl (Nat.le_of_ble_eq_true rfl) d_A_hangsOn_4 ⟨Nat.zero_le _, Nat.zero_le _⟩ (fun H locs hP hD hS => ?_)
  refine lv_aload_n hx hb d_A_hangsOn_7 rfl (lv_at hl 0 rfl) ?_
  refine lv_iload_n hx hb d_A_hangsOn_8 rfl (lv_at hl 1 rfl) ?_
  refine lv_iconst (v := 0) hx hb d_A_hangsOn_9 (by decide) ?_
  obtain ⟨E10, r10, h10⟩ := ex2 (j_hang 12 N (j_forget E) x1)
  refine aAi (As := [.int x1, .int 0]) (rest := []) ⟨hx, hb, hml, hown, hts⟩ (c_A_hanging l dC dI cI g a b 12 N (j_forget E) _ x1 0 _ _ (by omega) rfl h10) (cwV 2 hts (gV kml_A_45 kim_A_hanging ksl_A_hanging kin_A kcd_A_hanging) rfl rfl rfl (by decide +kernel) ⟨by show 6 + 12 + 1 ≤ 40; omega, by show 8 + (6 + 11) + (200 + 60 * 12) ≤ 2500; omega⟩) hP hK hD hS hA rfl hl.1 rfl (Nat.le_of_ble_eq_true rfl) d_A_hangsOn_10 ⟨Nat.zero_le _, Nat.zero_le _⟩ (fun H locs hP hD hS => ?_)
  obtain ⟨eE, eR⟩ := pe2 (hres.symm.trans h10)
  have eN : N = N := rfl
  have hP9 : va_P (dC, dI) cls0 (gW cI g a b (N) (E')) H := by rw [eN, eE]; exact hP
  have hD9 : va_D A (gW cI g a b (N) (E')) := by rw [eN, eE]; exact hD
  exact W.iret (v := r10) hx hb hr (fun t ht hW => ⟨⟨r10, (), rfl, eR.symm, by rw [ht]; exact hP9, va_K.moved hW.alike hK, hD9⟩, hS.F ht⟩) hS.2.2 d_A_hangsOn_13
