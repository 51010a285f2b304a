set_option maxHeartbeats 4000000 in
set_option maxRecDepth 100000 in
/-- N_makeRoom -/
theorem c_N_makeRoom (l : Launch) (dC : Nat → ClassId) (dI : Nat → Nat → Nat) (cI : ClassId) (a : Nat → Nat) (N : Mm) (sz : Nat) (x1 : Int32) (R0 : Nat) (hR : N 0 0 = nI R0) (h1 : 1024 ≤ R0) (h2 : R0 ≤ 24800) (hv : ∀ k, k < 13 → ∃ w, w < 13 ∧ N 5 k = nI w) : Met l y_N_makeRoom (.code y_N_makeRoom b_N_makeRoom 2 none :: W0) ({ frames := 4, cells := (mcW N (j_makeRoom N x1)), slots := (msW N (j_makeRoom N x1)), locals := 104 } : Room) (va_Pc [.ref (a 0), .int x1] (nM dC dI cI a N sz)) (va_Qv (fun u : Nat → Nat => u 0 = a 0) (fun u t => nE dC dI cI u (j_makeRoom N x1) (va_A (nW cI a N) sz) t) (va_A (nW cI a N) sz)) (mcW N (j_makeRoom N x1)) (msW N (j_makeRoom N x1)) (va_A (nW cI a N) sz) := by
  refine Met.ofW (cc := b_N_makeRoom) (maxL := 2) (ret := none) (by decide) rfl ?_
  intro p e s m args below meth c s₁ B hml hv
  obtain ⟨rfl, hsz, hP, hK, hD0⟩ := hv
  have hx := B.exec
  have hb := B.bytes
  have hr := B.returns
  have hts1 := atoms_spec (ws := .code y_N_makeRoom b_N_makeRoom 2 none :: W0) B.pre
  have hts : ∀ w ∈ W0, w.before _ s = true := fun w h => hts1 w (List.mem_cons_of_mem _ h)
  have hown : s.vm.findClass R_N = some m.cls := findClass_of_methodNamed B.named
  have hlocks := B.notSynchronized
  subst hsz
  have hD := hD0.self (sz := s.heap.size)
  generalize hAe : va_A (nW cI a N) s.heap.size = A at hD ⊢
  have hA : ∀ q : Nat, s.heap.size ≤ q → A q := fun q h => by rw [← hAe]; exact Or.inr h
  have hS : va_S A s.heap s.heap [] := va_S.rf
  have hP : va_P (dC, dI) cls0 (nW cI a N) s.heap := hP
  have hl := lv_entry ([.ref (a 0), .int x1]) (n := 2) (Nat.le_of_ble_eq_true rfl)
  rw [lg_entry_eq]
  generalize (lg_sl ([.ref (a 0), .int x1]) ++ List.replicate (2 - (lg_sl ([.ref (a 0), .int x1])).length) Slot.unset).toArray = ls at hl ⊢
  have hl : lv_has ls 2 [(0, .ref (a 0)), (1, .int x1)] := hl
  refine lv_aload_n hx hb d_N_makeRoom_0 rfl (lv_at hl 0 rfl) ?_
  refine va_get (D := (dC, dI)) (ci := 1) (v := .int (N 0 3)) (C := R_N) (T := T_N) (N := 11) hx hb hts in_N hown hK hP 0 rfl rfl 8 (by decide) (hts _ kfl_N_40) (fun _ h9 => h9) rfl d_N_makeRoom_1 ?_
  refine lv_aload_n hx hb d_N_makeRoom_4 rfl (lv_at hl 0 rfl) ?_
  refine va_get (D := (dC, dI)) (ci := 1) (v := .int (N 0 4)) (C := R_N) (T := T_N) (N := 11) hx hb hts in_N hown hK hP 0 rfl rfl 9 (by decide) (hts _ kfl_N_37) (fun _ h9 => h9) rfl d_N_makeRoom_5 ?_
  refine lv_icmp_le (tgt := 37) hx hb d_N_makeRoom_8 (by decide) (fun c8 => ?_) (fun c8 => ?_)
  · have eS : j_makeRoom N x1 = j_widen N (N 0 3 + x1) := by (first | (simp only [j_makeRoom, c8, Int32.not_lt.mpr c8, if_true, if_false, not_true_eq_false, not_false_eq_true, true_and, and_true, false_and, and_false, true_or, or_true, false_or, or_false, ite_true, ite_false, eq_self]; done) | (simp only [j_makeRoom, c8, Int32.not_lt.mpr c8, if_true, if_false, not_true_eq_false, not_false_eq_true, true_and, and_true, false_and, and_false, true_or, or_true, false_or, or_false, ite_true, ite_false, eq_self]; simp only [uq_0_1, uq_0_2, uq_0_3, uq_0_4, uq_0_5, uq_1_0, uq_1_2, uq_1_3, uq_1_4, uq_1_5, uq_2_0, uq_2_1, uq_2_3, uq_2_4, uq_2_5, uq_3_0, uq_3_1, uq_3_2, uq_3_4, uq_3_5, uq_4_0, uq_4_1, uq_4_2, uq_4_3, uq_4_5, uq_5_0, uq_5_1, uq_5_2, uq_5_3, uq_5_4, uf_0_0, uf_0_1, uf_0_2, uf_0_3, uf_0_4, uf_0_5, uf_1_0, uf_1_1, uf_1_2, uf_1_3, uf_1_4, uf_1_5, uf_2_0, uf_2_1, uf_2_2, uf_2_3, uf_2_4, uf_2_5, uf_3_0, uf_3_1, uf_3_2, uf_3_3, uf_3_4, uf_3_5, uf_4_0, uf_4_1, uf_4_2, uf_4_3, uf_4_4, uf_4_5, uf_5_0, uf_5_1, uf_5_2, uf_5_3, uf_5_4, uf_5_5, js_0, js_2, js_3, js_4, js_5]; done) | (simp only [j_makeRoom, uq_0_1, uq_0_2, uq_0_3, uq_0_4, uq_0_5, uq_1_0, uq_1_2, uq_1_3, uq_1_4, uq_1_5, uq_2_0, uq_2_1, uq_2_3, uq_2_4, uq_2_5, uq_3_0, uq_3_1, uq_3_2, uq_3_4, uq_3_5, uq_4_0, uq_4_1, uq_4_2, uq_4_3, uq_4_5, uq_5_0, uq_5_1, uq_5_2, uq_5_3, uq_5_4, uf_0_0, uf_0_1, uf_0_2, uf_0_3, uf_0_4, uf_0_5, uf_1_0, uf_1_1, uf_1_2, uf_1_3, uf_1_4, uf_1_5, uf_2_0, uf_2_1, uf_2_2, uf_2_3, uf_2_4, uf_2_5, uf_3_0, uf_3_1, uf_3_2, uf_3_3, uf_3_4, uf_3_5, uf_4_0, uf_4_1, uf_4_2, uf_4_3, uf_4_4, uf_4_5, uf_5_0, uf_5_1, uf_5_2, uf_5_3, uf_5_4, uf_5_5, js_0, js_2, js_3, js_4, js_5, c8, Int32.not_lt.mpr c8, if_true, if_false, not_true_eq_false, not_false_eq_true, true_and, and_true, false_and, and_false, true_or, or_true, false_or, or_false, ite_true, ite_false, eq_self]; done))
    have eC : mcW N (j_makeRoom N x1) = mcW N (j_widen N (N 0 3 + x1)) := by unfold mcW rmN; rw [eS]
    have eD : msW N (j_makeRoom N x1) = msW N (j_widen N (N 0 3 + x1)) := by unfold msW rmN; rw [eS]
    refine lv_aload_n hx hb d_N_makeRoom_37 rfl (lv_at hl 0 rfl) ?_
    refine lv_aload_n hx hb d_N_makeRoom_38 rfl (lv_at hl 0 rfl) ?_
    refine va_get (D := (dC, dI)) (ci := 1) (v := .int (N 0 3)) (C := R_N) (T := T_N) (N := 11) hx hb hts in_N hown hK hP 0 rfl rfl 8 (by decide) (hts _ kfl_N_40) (fun _ h9 => h9) rfl d_N_makeRoom_39 ?_
    refine lv_iload_n hx hb d_N_makeRoom_42 rfl (lv_at hl 1 rfl) ?_
    refine lv_iadd hx hb d_N_makeRoom_43 ?_
    refine nCallW (As := [.int ((N 0 3) + x1)]) (rest := []) ⟨hx, hb, hml, hown, hts⟩ (c_N_widen l dC dI cI a N _ ((N 0 3) + x1) R0 (hR) h1 h2) (cwV 1 hts (gV kml_N_93 kim_N_widen ksl_N_widen kin_N kcd_N_widen) rfl rfl rfl (by decide +kernel) ⟨Nat.le_of_ble_eq_true rfl, Nat.le_of_ble_eq_true rfl⟩) hP hK hD hS hA rfl hl.1 rfl (Nat.le_of_ble_eq_true rfl) d_N_makeRoom_44 ⟨by show 0 + _ ≤ mcW N (j_makeRoom N x1); omega, by show 0 + _ ≤ msW N (j_makeRoom N x1); omega⟩ (fun u H locs hu hP hD hS => ?_)
    rw [← hu] at hl
    refine W.widen (k := mcW N (j_makeRoom N x1)) (n := msW N (j_makeRoom N x1)) (by omega) (by omega) ?_
    have hP9 : va_P (dC, dI) cls0 (nW cI u (j_makeRoom N x1)) _ := (show j_widen N ((N 0 3) + x1) = j_makeRoom N x1 from by exact eS.symm) ▸ hP
    have hD9 : va_D A (nW cI u (j_makeRoom N x1)) := (show j_widen N ((N 0 3) + x1) = j_makeRoom N x1 from by exact eS.symm) ▸ hD
    refine W.widen (k := mcW N (j_makeRoom N x1)) (n := msW N (j_makeRoom N x1)) (Nat.le_refl _) (Nat.le_refl _) ?_
    exact W.vret hx hb hr (fun t ht hW => ⟨⟨u, rfl, hu, by rw [ht]; exact hP9, va_K.moved hW.alike hK, hD9⟩, hS.F ht⟩) hS.2.2 d_N_makeRoom_47
  · refine lv_aload_n hx hb d_N_makeRoom_11 rfl (lv_at hl 0 rfl) ?_
    refine nCallv (As := []) (rest := []) ⟨hx, hb, hml, hown, hts⟩ (c_N_collect l dC dI cI a N _  hv) (cwV 0 hts (gV kml_N_87 kim_N_collect ksl_N_collect kin_N kcd_N_collect) rfl rfl rfl (by decide +kernel) ⟨Nat.le_of_ble_eq_true rfl, Nat.le_of_ble_eq_true rfl⟩) hP hK hD hS hA rfl hl.1 rfl (Nat.le_of_ble_eq_true rfl) d_N_makeRoom_12 ⟨Nat.zero_le _, Nat.zero_le _⟩ (fun H locs hP hD hS => ?_)
    refine lv_aload_n hx hb d_N_makeRoom_15 rfl (lv_at hl 0 rfl) ?_
    refine lv_iconst (v := 2) hx hb d_N_makeRoom_16 (by decide) ?_
    refine lv_aload_n hx hb d_N_makeRoom_17 rfl (lv_at hl 0 rfl) ?_
    refine va_get (D := (dC, dI)) (ci := 1) (v := .int ((j_collect N) 0 3)) (C := R_N) (T := T_N) (N := 11) hx hb hts in_N hown hK hP 0 rfl rfl 8 (by decide) (hts _ kfl_N_40) (fun _ h9 => h9) rfl d_N_makeRoom_18 ?_
    refine lv_imul hx hb d_N_makeRoom_21 ?_
    refine lv_sipush (v := 1024) hx hb d_N_makeRoom_22 (by decide) ?_
    refine nMax hx hb (hml.trans hl.1.symm) hown hts kml_N_90 (Nat.le_of_ble_eq_true rfl) (Nat.le_of_ble_eq_true rfl) ⟨Nat.zero_le _, Nat.zero_le _⟩ d_N_makeRoom_25 ?_
    refine lv_sipush (v := 21475) hx hb d_N_makeRoom_28 (by decide) ?_
    refine nMin hx hb (hml.trans hl.1.symm) hown hts kml_N_57 (Nat.le_of_ble_eq_true rfl) (Nat.le_of_ble_eq_true rfl) ⟨Nat.zero_le _, Nat.zero_le _⟩ d_N_makeRoom_31 ?_
    refine nPut4 hx hb hts hown hK hP hD hS kfl_N_37 d_N_makeRoom_34 (fun H locs hP hD hS => ?_)
    have eS : j_makeRoom N x1 = j_widen (up (j_collect N) 0 4 (j_min (j_max (2 * ((j_collect N) 0 3)) 1024) 21475)) ((up (j_collect N) 0 4 (j_min (j_max (2 * ((j_collect N) 0 3)) 1024) 21475)) 0 3 + x1) := by (first | (simp only [j_makeRoom, c8, Int32.not_le.mp c8, if_true, if_false, not_true_eq_false, not_false_eq_true, true_and, and_true, false_and, and_false, true_or, or_true, false_or, or_false, ite_true, ite_false, eq_self]; done) | (simp only [j_makeRoom, c8, Int32.not_le.mp c8, if_true, if_false, not_true_eq_false, not_false_eq_true, true_and, and_true, false_and, and_false, true_or, or_true, false_or, or_false, ite_true, ite_false, eq_self]; simp only [uq_0_1, uq_0_2, uq_0_3, uq_0_4, uq_0_5, uq_1_0, uq_1_2, uq_1_3, uq_1_4, uq_1_5, uq_2_0, uq_2_1, uq_2_3, uq_2_4, uq_2_5, uq_3_0, uq_3_1, uq_3_2, uq_3_4, uq_3_5, uq_4_0, uq_4_1, uq_4_2, uq_4_3, uq_4_5, uq_5_0, uq_5_1, uq_5_2, uq_5_3, uq_5_4, uf_0_0, uf_0_1, uf_0_2, uf_0_3, uf_0_4, uf_0_5, uf_1_0, uf_1_1, uf_1_2, uf_1_3, uf_1_4, uf_1_5, uf_2_0, uf_2_1, uf_2_2, uf_2_3, uf_2_4, uf_2_5, uf_3_0, uf_3_1, uf_3_2, uf_3_3, uf_3_4, uf_3_5, uf_4_0, uf_4_1, uf_4_2, uf_4_3, uf_4_4, uf_4_5, uf_5_0, uf_5_1, uf_5_2, uf_5_3, uf_5_4, uf_5_5, js_0, js_2, js_3, js_4, js_5]; done) | (simp only [j_makeRoom, uq_0_1, uq_0_2, uq_0_3, uq_0_4, uq_0_5, uq_1_0, uq_1_2, uq_1_3, uq_1_4, uq_1_5, uq_2_0, uq_2_1, uq_2_3, uq_2_4, uq_2_5, uq_3_0, uq_3_1, uq_3_2, uq_3_4, uq_3_5, uq_4_0, uq_4_1, uq_4_2, uq_4_3, uq_4_5, uq_5_0, uq_5_1, uq_5_2, uq_5_3, uq_5_4, uf_0_0, uf_0_1, uf_0_2, uf_0_3, uf_0_4, uf_0_5, uf_1_0, uf_1_1, uf_1_2, uf_1_3, uf_1_4, uf_1_5, uf_2_0, uf_2_1, uf_2_2, uf_2_3, uf_2_4, uf_2_5, uf_3_0, uf_3_1, uf_3_2, uf_3_3, uf_3_4, uf_3_5, uf_4_0, uf_4_1, uf_4_2, uf_4_3, uf_4_4, uf_4_5, uf_5_0, uf_5_1, uf_5_2, uf_5_3, uf_5_4, uf_5_5, js_0, js_2, js_3, js_4, js_5, c8, Int32.not_le.mp c8, if_true, if_false, not_true_eq_false, not_false_eq_true, true_and, and_true, false_and, and_false, true_or, or_true, false_or, or_false, ite_true, ite_false, eq_self]; done))
    have eC : mcW N (j_makeRoom N x1) = mcW (up (j_collect N) 0 4 (j_min (j_max (2 * ((j_collect N) 0 3)) 1024) 21475)) (j_widen (up (j_collect N) 0 4 (j_min (j_max (2 * ((j_collect N) 0 3)) 1024) 21475)) ((up (j_collect N) 0 4 (j_min (j_max (2 * ((j_collect N) 0 3)) 1024) 21475)) 0 3 + x1)) := by unfold mcW rmN; rw [eS, uf_4_0, collect_00]
    have eD : msW N (j_makeRoom N x1) = msW (up (j_collect N) 0 4 (j_min (j_max (2 * ((j_collect N) 0 3)) 1024) 21475)) (j_widen (up (j_collect N) 0 4 (j_min (j_max (2 * ((j_collect N) 0 3)) 1024) 21475)) ((up (j_collect N) 0 4 (j_min (j_max (2 * ((j_collect N) 0 3)) 1024) 21475)) 0 3 + x1)) := by unfold msW rmN; rw [eS, uf_4_0, collect_00]
    refine lv_aload_n hx hb d_N_makeRoom_37 rfl (lv_at hl 0 rfl) ?_
    refine lv_aload_n hx hb d_N_makeRoom_38 rfl (lv_at hl 0 rfl) ?_
    refine va_get (D := (dC, dI)) (ci := 1) (v := .int ((up (j_collect N) 0 4 (j_min (j_max (2 * ((j_collect N) 0 3)) 1024) 21475)) 0 3)) (C := R_N) (T := T_N) (N := 11) hx hb hts in_N hown hK hP 0 rfl rfl 8 (by decide) (hts _ kfl_N_40) (fun _ h9 => h9) rfl d_N_makeRoom_39 ?_
    refine lv_iload_n hx hb d_N_makeRoom_42 rfl (lv_at hl 1 rfl) ?_
    refine lv_iadd hx hb d_N_makeRoom_43 ?_
    refine nCallW (As := [.int (((up (j_collect N) 0 4 (j_min (j_max (2 * ((j_collect N) 0 3)) 1024) 21475)) 0 3) + x1)]) (rest := []) ⟨hx, hb, hml, hown, hts⟩ (c_N_widen l dC dI cI a (up (j_collect N) 0 4 (j_min (j_max (2 * ((j_collect N) 0 3)) 1024) 21475)) _ (((up (j_collect N) 0 4 (j_min (j_max (2 * ((j_collect N) 0 3)) 1024) 21475)) 0 3) + x1) R0 (by rw [uf_4_0, collect_00]; exact hR) h1 h2) (cwV 1 hts (gV kml_N_93 kim_N_widen ksl_N_widen kin_N kcd_N_widen) rfl rfl rfl (by decide +kernel) ⟨Nat.le_of_ble_eq_true rfl, Nat.le_of_ble_eq_true rfl⟩) hP hK hD hS hA rfl hl.1 rfl (Nat.le_of_ble_eq_true rfl) d_N_makeRoom_44 ⟨by show 0 + _ ≤ mcW N (j_makeRoom N x1); omega, by show 0 + _ ≤ msW N (j_makeRoom N x1); omega⟩ (fun u H locs hu hP hD hS => ?_)
    rw [← hu] at hl
    refine W.widen (k := mcW N (j_makeRoom N x1)) (n := msW N (j_makeRoom N x1)) (by omega) (by omega) ?_
    have hP9 : va_P (dC, dI) cls0 (nW cI u (j_makeRoom N x1)) _ := (show j_widen (up (j_collect N) 0 4 (j_min (j_max (2 * ((j_collect N) 0 3)) 1024) 21475)) (((up (j_collect N) 0 4 (j_min (j_max (2 * ((j_collect N) 0 3)) 1024) 21475)) 0 3) + x1) = j_makeRoom N x1 from by exact eS.symm) ▸ hP
    have hD9 : va_D A (nW cI u (j_makeRoom N x1)) := (show j_widen (up (j_collect N) 0 4 (j_min (j_max (2 * ((j_collect N) 0 3)) 1024) 21475)) (((up (j_collect N) 0 4 (j_min (j_max (2 * ((j_collect N) 0 3)) 1024) 21475)) 0 3) + x1) = j_makeRoom N x1 from by exact eS.symm) ▸ hD
    refine W.widen (k := mcW N (j_makeRoom N x1)) (n := msW N (j_makeRoom N x1)) (Nat.le_refl _) (Nat.le_refl _) ?_
    exact W.vret hx hb hr (fun t ht hW => ⟨⟨u, rfl, hu, by rw [ht]; exact hP9, va_K.moved hW.alike hK, hD9⟩, hS.F ht⟩) hS.2.2 d_N_makeRoom_47
