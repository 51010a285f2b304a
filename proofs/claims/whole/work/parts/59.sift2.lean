set_option maxHeartbeats 8000000 in
set_option maxRecDepth 100000 in
theorem c_F_fullest (l : Launch) (dC : Nat → ClassId) (dI : Nat → Nat → Nat) (cI : ClassId) (f : Nat) (a : Nat → Nat) (N : Mm) (x1 : Int32) : Met l y_F_fullest (.code y_F_fullest b_F_fullest 5 (some .int) :: W0) ({ frames := 1, cells := 0, slots := 0, locals := 30 } : Room) (va_Pc [.ref f, .int x1] (sR dC dI cI f a N)) (QcRead (j_fullest N x1)) 0 0 (fun _ => False) := by
  refine Met.ofW (cc := b_F_fullest) (maxL := 5) (ret := (some .int)) (by decide) rfl ?_
  intro p e s m args below meth c s₁ B hml hv
  obtain ⟨rfl, hP, hK⟩ := hv
  have hx := B.exec
  have hb := B.bytes
  have hr := B.returns
  have hts1 := atoms_spec (ws := .code y_F_fullest b_F_fullest 5 (some .int) :: W0) B.pre
  have hts : ∀ w ∈ W0, w.before _ s = true := fun w h => hts1 w (List.mem_cons_of_mem _ h)
  have hown : s.vm.findClass R_F = some m.cls := findClass_of_methodNamed B.named
  have hlocks := B.notSynchronized
  have hl := lv_entry ([.ref f, .int x1]) (n := 5) (Nat.le_of_ble_eq_true rfl)
  rw [lg_entry_eq]
  generalize (lg_sl ([.ref f, .int x1]) ++ List.replicate (5 - (lg_sl ([.ref f, .int x1])).length) Slot.unset).toArray = ls at hl ⊢
  have hl : lv_has ls 5 [(0, .ref f), (1, .int x1)] := hl
  have loop : ∀ (n : Nat) (j : Nat) (x2 : Int32), j + n = 12 → j_fullest N x1 = j_fullL N x1 n j x2 → ∀ (ls : Array Slot), lv_has ls 5 [(3, .int (nI j)), (2, .int x2), (0, .ref f), (1, .int x1)] → W p l e (headSpec (.code y_F_fullest b_F_fullest 5 (some .int) :: W0) ({ frames := 1, cells := 0, slots := 0, locals := 30 } : Room)).room s m ([.ref f, .int x1] : List Value).toArray below meth c s.heap [] 0 0 (MQ below (QcRead (j_fullest N x1)) ([.ref f, .int x1] : List Value).toArray s 0 0 (fun _ => False)) (F0 m 5 ls []) := by
    intro n
    induction n with
    | zero =>
      intro j x2 hj hr0 ls hl
      refine lv_iload_n hx hb d_F_fullest_5 rfl (lv_at hl 0 rfl) ?_
      refine lv_bipush (v := 12) hx hb d_F_fullest_6 (by decide) ?_
      refine lv_icmp_ge (tgt := 64) hx hb d_F_fullest_8 (by decide) (fun c8 => ?_) (fun c8 => ?_)
      · refine lv_iload_n hx hb d_F_fullest_64 rfl (lv_at hl 1 rfl) ?_
        exact W.iret (v := x2) hx hb hr (fun t ht hW => ⟨by rw [show j_fullest N x1 = x2 from by rw [hr0]; rfl], ht⟩) (fun q h => by cases h) d_F_fullest_65
      · exact absurd (nI_le (a := 12) (b := j) (by omega) (by omega)) c8
    | succ n ih =>
      intro j x2 hj hr0 ls hl
      refine lv_iload_n hx hb d_F_fullest_5 rfl (lv_at hl 0 rfl) ?_
      refine lv_bipush (v := 12) hx hb d_F_fullest_6 (by decide) ?_
      refine lv_icmp_ge (tgt := 64) hx hb d_F_fullest_8 (by decide) (fun c8 => ?_) (fun c8 => ?_)
      · exact absurd c8 (nI_ge (a := j) (b := 12) (by omega) (by omega))
      · refine lv_iload_n hx hb d_F_fullest_11 rfl (lv_at hl 3 rfl) ?_
        refine lv_iload_n hx hb d_F_fullest_12 rfl (lv_at hl 0 rfl) ?_
        refine lv_ishr hx hb d_F_fullest_13 ?_
        refine lv_iconst (v := 1) hx hb d_F_fullest_14 (by decide) ?_
        refine lv_iand hx hb d_F_fullest_15 ?_
        refine lv_if_ne (tgt := 23) hx hb d_F_fullest_16 (by decide) (fun c16 => ?_) (fun c16 => ?_)
        · refine lv_iconst (v := 0) hx hb d_F_fullest_23 (by decide) ?_
          refine lv_istore (lv' := [(4, .int 0), (3, .int (nI j)), (2, .int x2), (0, .ref f), (1, .int x1)]) hx hb d_F_fullest_24 hl (by decide) rfl (fun ls hl => ?_)
          refine lv_iload hx hb d_F_fullest_26 (lv_at hl 0 rfl) ?_
          refine lv_if_eq (tgt := 58) hx hb d_F_fullest_28 (by decide) (fun c28 => ?_) (fun c28 => ?_)
          · refine lv_iinc (v := ((nI j) + 1)) (lv' := [(3, .int ((nI j) + 1)), (4, .int 0), (2, .int x2), (0, .ref f), (1, .int x1)]) hx hb d_F_fullest_58 hl (k := 1) rfl rfl (by decide) rfl (fun ls hl => ?_)
            refine lv_goto (tgt := 5) hx hb d_F_fullest_61 (by decide) ?_
            rw [nI_1] at hl
            exact ih (j + 1) _ (by omega) (by rw [hr0, j_fullL]; simp only [c8, c16, Int32.not_le.mp c8, if_true, if_false, not_true_eq_false, not_false_eq_true, true_and, and_true, false_and, and_false, true_or, or_true, false_or, or_false, ite_true, ite_false, eq_self]) ls (lv_sub hl [0, 2, 3, 4] rfl)
          · exact absurd (by decide) c28
        · refine lv_iconst (v := 1) hx hb d_F_fullest_19 (by decide) ?_
          refine lv_goto (tgt := 24) hx hb d_F_fullest_20 (by decide) ?_
          refine lv_istore (lv' := [(4, .int 1), (3, .int (nI j)), (2, .int x2), (0, .ref f), (1, .int x1)]) hx hb d_F_fullest_24 hl (by decide) rfl (fun ls hl => ?_)
          refine lv_iload hx hb d_F_fullest_26 (lv_at hl 0 rfl) ?_
          refine lv_if_eq (tgt := 58) hx hb d_F_fullest_28 (by decide) (fun c28 => ?_) (fun c28 => ?_)
          · exact absurd c28 (by decide)
          · refine lv_iload_n hx hb d_F_fullest_31 rfl (lv_at hl 2 rfl) ?_
            refine lv_bipush (v := 12) hx hb d_F_fullest_32 (by decide) ?_
            refine lv_icmp_eq (tgt := 56) hx hb d_F_fullest_34 (by decide) (fun c34 => ?_) (fun c34 => ?_)
            · refine lv_iload_n hx hb d_F_fullest_56 rfl (lv_at hl 1 rfl) ?_
              refine lv_istore_n (lv' := [(2, .int (nI j)), (4, .int 1), (3, .int (nI j)), (0, .ref f), (1, .int x1)]) hx hb d_F_fullest_57 rfl hl (by decide) rfl (fun ls hl => ?_)
              refine lv_iinc (v := ((nI j) + 1)) (lv' := [(3, .int ((nI j) + 1)), (2, .int (nI j)), (4, .int 1), (0, .ref f), (1, .int x1)]) hx hb d_F_fullest_58 hl (k := 2) rfl rfl (by decide) rfl (fun ls hl => ?_)
              refine lv_goto (tgt := 5) hx hb d_F_fullest_61 (by decide) ?_
              rw [nI_1] at hl
              exact ih (j + 1) _ (by omega) (by rw [hr0, j_fullL]; (first | (simp only [c8, if_pos c16, if_pos c34, Int32.not_le.mp c8, if_true, if_false, not_true_eq_false, not_false_eq_true, true_and, and_true, false_and, and_false, true_or, or_true, false_or, or_false, ite_true, ite_false, eq_self]; done) | (simp only [c8, c16, c34, Int32.not_le.mp c8, if_true, if_false, not_true_eq_false, not_false_eq_true, true_and, and_true, false_and, and_false, true_or, or_true, false_or, or_false, ite_true, ite_false, eq_self]; done) | (simp only [c8, Int32.not_le.mp c8, if_true, if_false, not_true_eq_false, not_false_eq_true, true_and, and_true, false_and, and_false, true_or, or_true, false_or, or_false, ite_true, ite_false, eq_self]; rw [if_pos c16, if_pos c34]; done))) ls (lv_sub hl [0, 1, 3, 4] rfl)
            · refine lv_aload_n hx hb d_F_fullest_37 rfl (lv_at hl 3 rfl) ?_
              refine va_get (D := (dC, dI)) (ci := 4) (v := .ref (a 0)) (C := R_F) (T := T_F) (N := 1) hx hb hts in_F hown hK hP 0 rfl rfl 0 (by decide) (hts _ kfl_F_9) (fun _ h9 => h9) rfl d_F_fullest_38 ?_
              refine lv_iload_n hx hb d_F_fullest_41 rfl (lv_at hl 1 rfl) ?_
              refine sNR (As := [.int (nI j)]) (rest := []) ⟨hx, hb, hml, hown, hts⟩ (c_N_heldFor l dC dI cI a N (nI j)) (cwV 1 hts (gV kml_F_25 kim_N_heldFor ksl_N_heldFor kin_N kcd_N_heldFor) rfl rfl rfl (by decide +kernel) ⟨by show 0 + 1 ≤ 1; omega, by show 8 + (2 + 11) + 0 ≤ 30; omega⟩) hP hK rfl hl.1 rfl (Nat.le_of_ble_eq_true rfl) d_F_fullest_42 ⟨Nat.zero_le _, Nat.zero_le _⟩ ?_
              refine lv_aload_n hx hb d_F_fullest_45 rfl (lv_at hl 3 rfl) ?_
              refine va_get (D := (dC, dI)) (ci := 4) (v := .ref (a 0)) (C := R_F) (T := T_F) (N := 1) hx hb hts in_F hown hK hP 0 rfl rfl 0 (by decide) (hts _ kfl_F_9) (fun _ h9 => h9) rfl d_F_fullest_46 ?_
              refine lv_iload_n hx hb d_F_fullest_49 rfl (lv_at hl 2 rfl) ?_
              refine sNR (As := [.int x2]) (rest := [.int (j_heldFor N (nI j))]) ⟨hx, hb, hml, hown, hts⟩ (c_N_heldFor l dC dI cI a N x2) (cwV 1 hts (gV kml_F_25 kim_N_heldFor ksl_N_heldFor kin_N kcd_N_heldFor) rfl rfl rfl (by decide +kernel) ⟨by show 0 + 1 ≤ 1; omega, by show 8 + (2 + 11) + 0 ≤ 30; omega⟩) hP hK rfl hl.1 rfl (Nat.le_of_ble_eq_true rfl) d_F_fullest_50 ⟨Nat.zero_le _, Nat.zero_le _⟩ ?_
              refine lv_icmp_le (tgt := 58) hx hb d_F_fullest_53 (by decide) (fun c53 => ?_) (fun c53 => ?_)
              · refine lv_iinc (v := ((nI j) + 1)) (lv' := [(3, .int ((nI j) + 1)), (4, .int 1), (2, .int x2), (0, .ref f), (1, .int x1)]) hx hb d_F_fullest_58 hl (k := 1) rfl rfl (by decide) rfl (fun ls hl => ?_)
                refine lv_goto (tgt := 5) hx hb d_F_fullest_61 (by decide) ?_
                rw [nI_1] at hl
                exact ih (j + 1) _ (by omega) (by rw [hr0, j_fullL]; (first | (simp only [c8, if_pos c16, c34, c53, Int32.not_le.mp c8, Int32.not_lt.mpr c53, if_true, if_false, not_true_eq_false, not_false_eq_true, true_and, and_true, false_and, and_false, true_or, or_true, false_or, or_false, ite_true, ite_false, eq_self]; done) | (simp only [c8, c16, c34, c53, Int32.not_le.mp c8, Int32.not_lt.mpr c53, if_true, if_false, not_true_eq_false, not_false_eq_true, true_and, and_true, false_and, and_false, true_or, or_true, false_or, or_false, ite_true, ite_false, eq_self]; done) | (simp only [c8, c34, c53, Int32.not_le.mp c8, Int32.not_lt.mpr c53, if_true, if_false, not_true_eq_false, not_false_eq_true, true_and, and_true, false_and, and_false, true_or, or_true, false_or, or_false, ite_true, ite_false, eq_self]; rw [if_pos c16]; done))) ls (lv_sub hl [0, 2, 3, 4] rfl)
              · refine lv_iload_n hx hb d_F_fullest_56 rfl (lv_at hl 1 rfl) ?_
                refine lv_istore_n (lv' := [(2, .int (nI j)), (4, .int 1), (3, .int (nI j)), (0, .ref f), (1, .int x1)]) hx hb d_F_fullest_57 rfl hl (by decide) rfl (fun ls hl => ?_)
                refine lv_iinc (v := ((nI j) + 1)) (lv' := [(3, .int ((nI j) + 1)), (2, .int (nI j)), (4, .int 1), (0, .ref f), (1, .int x1)]) hx hb d_F_fullest_58 hl (k := 2) rfl rfl (by decide) rfl (fun ls hl => ?_)
                refine lv_goto (tgt := 5) hx hb d_F_fullest_61 (by decide) ?_
                rw [nI_1] at hl
                exact ih (j + 1) _ (by omega) (by rw [hr0, j_fullL]; (first | (simp only [c8, if_pos c16, c34, c53, Int32.not_le.mp c8, Int32.not_le.mp c53, if_true, if_false, not_true_eq_false, not_false_eq_true, true_and, and_true, false_and, and_false, true_or, or_true, false_or, or_false, ite_true, ite_false, eq_self]; done) | (simp only [c8, c16, c34, c53, Int32.not_le.mp c8, Int32.not_le.mp c53, if_true, if_false, not_true_eq_false, not_false_eq_true, true_and, and_true, false_and, and_false, true_or, or_true, false_or, or_false, ite_true, ite_false, eq_self]; done) | (simp only [c8, c34, c53, Int32.not_le.mp c8, Int32.not_le.mp c53, if_true, if_false, not_true_eq_false, not_false_eq_true, true_and, and_true, false_and, and_false, true_or, or_true, false_or, or_false, ite_true, ite_false, eq_self]; rw [if_pos c16]; done))) ls (lv_sub hl [0, 1, 3, 4] rfl)
  refine lv_bipush (v := 12) hx hb d_F_fullest_0 (by decide) ?_
  refine lv_istore_n (lv' := [(2, .int 12), (0, .ref f), (1, .int x1)]) hx hb d_F_fullest_2 rfl hl (by decide) rfl (fun ls hl => ?_)
  refine lv_iconst (v := 0) hx hb d_F_fullest_3 (by decide) ?_
  refine lv_istore_n (lv' := [(3, .int 0), (2, .int 12), (0, .ref f), (1, .int x1)]) hx hb d_F_fullest_4 rfl hl (by decide) rfl (fun ls hl => ?_)
  exact loop 12 0 _ rfl rfl ls (lv_sub hl [0, 1, 2, 3] rfl)

set_option maxHeartbeats 8000000 in
set_option maxRecDepth 100000 in
theorem c_F_sift (l : Launch) (dC : Nat → ClassId) (dI : Nat → Nat → Nat) (cI : ClassId) (f : Nat) (a : Nat → Nat) (N : Mm) (sz : Nat) (x1 : Int32) (hN : sok N) (v : Nat) (hv : v < 12) (hx1 : x1 = nI v) : Met l y_F_sift (.code y_F_sift b_F_sift 7 none :: W0) ({ frames := 5, cells := (mcW N (j_sift N v)), slots := (msW N (j_sift N v)), locals := 140 } : Room) (va_Pc [.ref f, .int x1] (sM dC dI cI f a N sz)) (va_Qv (fun u : Nat → Nat => u 0 = a 0) (fun u t => sE dC dI cI f u (j_sift N v) (va_A (sW cI f a N) sz) t) (va_A (sW cI f a N) sz)) (mcW N (j_sift N v)) (msW N (j_sift N v)) (va_A (sW cI f a N) sz) := by
  refine Met.ofW (cc := b_F_sift) (maxL := 7) (ret := none) (by decide) rfl ?_
  intro p e s m args below meth c s₁ B hml hv
  obtain ⟨rfl, hsz, hP, hK, hD0⟩ := hv
  have hx := B.exec
  have hb := B.bytes
  have hr := B.returns
  have hts1 := atoms_spec (ws := .code y_F_sift b_F_sift 7 none :: W0) B.pre
  have hts : ∀ w ∈ W0, w.before _ s = true := fun w h => hts1 w (List.mem_cons_of_mem _ h)
  have hown : s.vm.findClass R_F = some m.cls := findClass_of_methodNamed B.named
  have hlocks := B.notSynchronized
  subst hsz
  have hD := hD0.self (sz := s.heap.size)
  generalize hAe : va_A (sW cI f a N) s.heap.size = A at hD ⊢
  have hA : ∀ q : Nat, s.heap.size ≤ q → A q := fun q h => by rw [← hAe]; exact Or.inr h
  have hS : va_S A s.heap s.heap [] := va_S.rf
  have hP : va_P (dC, dI) cls0 (sW cI f a N) s.heap := hP
  have hl := lv_entry ([.ref f, .int x1]) (n := 7) (Nat.le_of_ble_eq_true rfl)
  rw [lg_entry_eq]
  generalize (lg_sl ([.ref f, .int x1]) ++ List.replicate (7 - (lg_sl ([.ref f, .int x1])).length) Slot.unset).toArray = ls at hl ⊢
  have hl : lv_has ls 7 [(0, .ref f), (1, .int x1)] := hl
  refine W.cs (cells' := mcW N N) (slots' := msW N N) (by unfold mcW; omega) (by unfold msW; omega) ?_
  obtain ⟨s0, hs0, es0⟩ := hN.2.2 v hv
  have ec : (N 4 v).toNatClampNeg = s0 := by rw [es0]; exact nI_clamp (by omega)
  have loop3 : ∀ (n : Nat) (N1 : Mm) (k : Nat) (bl : Nat) (u : Nat → Nat) (H : Heap) (locs : List Loc), u 0 = a 0 → sle N N1 → bl < 12 → k ≤ 12 → 12 ≤ k + n → j_sift N v = j_sift3 bl n N1 k →  va_P (dC, dI) cls0 (sW cI f u N1) H → va_D A (sW cI f u N1) → va_S A s.heap H locs → ∀ (ls : Array Slot), lv_has ls 7 [(3, .int (nI k)), (4, .int (nI bl)), (0, .ref f)] → W p l e (headSpec (.code y_F_sift b_F_sift 7 none :: W0) ({ frames := 5, cells := (mcW N (j_sift N v)), slots := (msW N (j_sift N v)), locals := 140 } : Room)).room s m ([.ref f, .int x1] : List Value).toArray below meth c H locs (mcW N N1) (msW N N1) (MQ below (va_Qv (fun u : Nat → Nat => u 0 = a 0) (fun u t => sE dC dI cI f u (j_sift N v) A t) A) ([.ref f, .int x1] : List Value).toArray s (mcW N (j_sift N v)) (msW N (j_sift N v)) A) (F0 m 155 ls []) := by
    intro n
    induction n with
    | zero =>
      intro N1 k bl u H locs hu hN1 hbl hk12 hk hr0 hP hD hS ls hl
      have hcs : mcW N N1 ≤ mcW N (j_sift N v) ∧ msW N N1 ≤ msW N (j_sift N v) := by
        have hs9 : sle N1 (j_sift N v) := by rw [hr0]; exact sift3_sle hbl _ _ _ hN1.1
        obtain ⟨-, -, q3, q4⟩ := mcW_step (N := N) (N1 := N) (N2 := N1) (sle_rf hN) hN1 hs9
        exact ⟨q3, q4⟩
      refine lv_iload_n hx hb d_F_sift_155 rfl (lv_at hl 0 rfl) ?_
      refine lv_iload hx hb d_F_sift_156 (lv_at hl 1 rfl) ?_
      refine lv_icmp_ge (tgt := 175) hx hb d_F_sift_158 (by decide) (fun c158 => ?_) (fun c158 => ?_)
      · have eP : j_sift N v = N1 := by rw [hr0]; rfl
        refine W.cs (cells' := mcW N (j_sift N v)) (slots' := msW N (j_sift N v)) (by rw [eP]) (by rw [eP]) ?_
        exact W.vret hx hb hr (fun t ht hW => ⟨⟨u, rfl, hu, by rw [ht, eP]; exact hP, va_K.moved hW.alike hK, by rw [eP]; exact hD⟩, hS.F ht⟩) hS.2.2 d_F_sift_175
      · exact absurd (nI_le (by omega) (by omega)) c158
    | succ n ih =>
      intro N1 k bl u H locs hu hN1 hbl hk12 hk hr0 hP hD hS ls hl
      have hcs : mcW N N1 ≤ mcW N (j_sift N v) ∧ msW N N1 ≤ msW N (j_sift N v) := by
        have hs9 : sle N1 (j_sift N v) := by rw [hr0]; exact sift3_sle hbl _ _ _ hN1.1
        obtain ⟨-, -, q3, q4⟩ := mcW_step (N := N) (N1 := N) (N2 := N1) (sle_rf hN) hN1 hs9
        exact ⟨q3, q4⟩
      refine lv_iload_n hx hb d_F_sift_155 rfl (lv_at hl 0 rfl) ?_
      refine lv_iload hx hb d_F_sift_156 (lv_at hl 1 rfl) ?_
      refine lv_icmp_ge (tgt := 175) hx hb d_F_sift_158 (by decide) (fun c158 => ?_) (fun c158 => ?_)
      · have eP : j_sift N v = N1 := by rw [hr0, j_sift3, if_neg (fun q => absurd c158 (nI_ge q (by omega)))]
        refine W.cs (cells' := mcW N (j_sift N v)) (slots' := msW N (j_sift N v)) (by rw [eP]) (by rw [eP]) ?_
        exact W.vret hx hb hr (fun t ht hW => ⟨⟨u, rfl, hu, by rw [ht, eP]; exact hP, va_K.moved hW.alike hK, by rw [eP]; exact hD⟩, hS.F ht⟩) hS.2.2 d_F_sift_175
      · refine lv_aload_n hx hb d_F_sift_161 rfl (lv_at hl 2 rfl) ?_
        refine va_get (D := (dC, dI)) (ci := 4) (v := .ref (u 0)) (C := R_F) (T := T_F) (N := 1) hx hb hts in_F hown hK hP 0 rfl rfl 0 (by decide) (hts _ kfl_F_9) (fun _ h9 => h9) rfl d_F_sift_162 ?_
        refine lv_iload_n hx hb d_F_sift_165 rfl (lv_at hl 0 rfl) ?_
        have hkb : k < bl := by
          rcases Nat.lt_or_ge k bl with q | q
          · exact q
          · exact absurd (nI_le q (by omega)) c158
        have hs2 : sle (j_swap N1 (nI k)) (j_sift N v) := by
          rw [hr0, j_sift3, if_pos hkb]
          exact sift3_sle hbl n _ (k + 1) (sok_swap hN1.1 (kk := k) (by omega)).1
        obtain ⟨⟨R9, hR9, h91, h92⟩, hv5, -⟩ := id hN1.1
        have hs1 := sok_swap hN1.1 (kk := k) (by omega)
        obtain ⟨b1, b2, b3, b4⟩ := mcW_step hN1 hs1 hs2
        refine sNW (As := [.int (nI k)]) (rest := []) ⟨hx, hb, hml, hown, hts⟩ (c_N_swap l dC dI cI u N1 _ (nI k) R9 hR9 h91 h92 hv5 k (by omega) rfl) (cwV 1 hts (gV kml_F_38 kim_N_swap ksl_N_swap kin_N kcd_N_swap) rfl rfl rfl (by decide +kernel) ⟨by show 4 + 1 ≤ 5; omega, by show 8 + (7 + 11) + 104 ≤ 140; omega⟩) hP hK hD hS hA rfl hl.1 rfl (Nat.le_of_ble_eq_true rfl) d_F_sift_166 ⟨by show _ ≤ mcW N (j_sift N v); omega, by show _ ≤ msW N (j_sift N v); omega⟩ (fun u2 H locs hu2 hP hD hS => ?_)
        refine W.cs (cells' := mcW N (j_swap N1 (nI k))) (slots' := msW N (j_swap N1 (nI k))) b1 b2 ?_
        have hu := hu2.trans hu
        have hN2 := sle_tr hN1 hs1
        refine lv_iinc (v := ((nI k) + 1)) (lv' := [(3, .int ((nI k) + 1)), (4, .int (nI bl)), (0, .ref f)]) hx hb d_F_sift_169 hl (k := 0) rfl rfl (by decide) rfl (fun ls hl => ?_)
        refine lv_goto (tgt := 155) hx hb d_F_sift_172 (by decide) ?_
        rw [nI_1] at hl
        exact ih _ (k + 1) bl u2 H locs hu hN2 hbl (by omega) (by omega) (by rw [hr0, j_sift3, if_pos hkb]) hP hD hS ls (lv_sub hl [0, 1, 2] rfl)
  have loop2 : ∀ (k : Nat) (N1 : Mm) (bl : Nat) (b : Int32) (u : Nat → Nat) (H : Heap) (locs : List Loc), u 0 = a 0 → sle N N1 → k < 12 → bl < 12 → (∀ N9 k9 bl9, j_sift2 s0 (N 0 3 + N 0 3 / 4) k N1 bl b = (N9, k9, bl9) → j_sift N v = j_sift3 bl9 12 N9 k9) →  va_P (dC, dI) cls0 (sW cI f u N1) H → va_D A (sW cI f u N1) → va_S A s.heap H locs → ∀ (ls : Array Slot), lv_has ls 7 [(3, .int (nI k)), (2, .int (nI s0)), (4, .int (nI bl)), (5, .int b), (6, .int (N 0 3 + N 0 3 / 4)), (0, .ref f)] → W p l e (headSpec (.code y_F_sift b_F_sift 7 none :: W0) ({ frames := 5, cells := (mcW N (j_sift N v)), slots := (msW N (j_sift N v)), locals := 140 } : Room)).room s m ([.ref f, .int x1] : List Value).toArray below meth c H locs (mcW N N1) (msW N N1) (MQ below (va_Qv (fun u : Nat → Nat => u 0 = a 0) (fun u t => sE dC dI cI f u (j_sift N v) A t) A) ([.ref f, .int x1] : List Value).toArray s (mcW N (j_sift N v)) (msW N (j_sift N v)) A) (F0 m 92 ls []) := by
    intro k
    induction k with
    | zero =>
      intro N1 bl b u H locs hu hN1 hk hbl hr0 hP hD hS ls hl
      have hcs : mcW N N1 ≤ mcW N (j_sift N v) ∧ msW N N1 ≤ msW N (j_sift N v) := by
        have hs9 : sle N1 (j_sift N v) := by (obtain ⟨N9, k9, bl9, e9⟩ := ex3 (j_sift2 s0 (N 0 3 + N 0 3 / 4) _ N1 bl b); rw [hr0 _ _ _ e9]; obtain ⟨g1, g2, g3⟩ := sift2_sle s0 _ _ N1 bl b hN1.1 (by omega) hbl e9; exact sle_tr g1 (sift3_sle g3 12 N9 k9 g1.1))
        obtain ⟨-, -, q3, q4⟩ := mcW_step (N := N) (N1 := N) (N2 := N1) (sle_rf hN) hN1 hs9
        exact ⟨q3, q4⟩
      refine lv_iload_n hx hb d_F_sift_92 rfl (lv_at hl 0 rfl) ?_
      refine lv_iload_n hx hb d_F_sift_93 rfl (lv_at hl 1 rfl) ?_
      refine lv_icmp_gt (tgt := 113) hx hb d_F_sift_94 (by decide) (fun c94 => ?_) (fun c94 => ?_)
      · exact absurd c94 (nI_nlt (by omega) (by omega))
      · refine lv_iload_n hx hb d_F_sift_97 rfl (lv_at hl 0 rfl) ?_
        refine lv_if_le (tgt := 155) hx hb d_F_sift_98 (by decide) (fun c98 => ?_) (fun c98 => ?_)
        · exact loop3 12 N1 (0) bl u H locs hu hN1 hbl (by omega) (by omega) (hr0 _ _ _ rfl) hP hD hS ls (lv_sub hl [0, 2, 5] rfl)
        · exact absurd (Int32.le_refl _) c98
    | succ k ih =>
      intro N1 bl b u H locs hu hN1 hk hbl hr0 hP hD hS ls hl
      have hcs : mcW N N1 ≤ mcW N (j_sift N v) ∧ msW N N1 ≤ msW N (j_sift N v) := by
        have hs9 : sle N1 (j_sift N v) := by (obtain ⟨N9, k9, bl9, e9⟩ := ex3 (j_sift2 s0 (N 0 3 + N 0 3 / 4) _ N1 bl b); rw [hr0 _ _ _ e9]; obtain ⟨g1, g2, g3⟩ := sift2_sle s0 _ _ N1 bl b hN1.1 (by omega) hbl e9; exact sle_tr g1 (sift3_sle g3 12 N9 k9 g1.1))
        obtain ⟨-, -, q3, q4⟩ := mcW_step (N := N) (N1 := N) (N2 := N1) (sle_rf hN) hN1 hs9
        exact ⟨q3, q4⟩
      refine lv_iload_n hx hb d_F_sift_92 rfl (lv_at hl 0 rfl) ?_
      refine lv_iload_n hx hb d_F_sift_93 rfl (lv_at hl 1 rfl) ?_
      refine lv_icmp_gt (tgt := 113) hx hb d_F_sift_94 (by decide) (fun c94 => ?_) (fun c94 => ?_)
      · refine lv_aload_n hx hb d_F_sift_113 rfl (lv_at hl 5 rfl) ?_
        refine va_get (D := (dC, dI)) (ci := 4) (v := .ref (u 0)) (C := R_F) (T := T_F) (N := 1) hx hb hts in_F hown hK hP 0 rfl rfl 0 (by decide) (hts _ kfl_F_9) (fun _ h9 => h9) rfl d_F_sift_114 ?_
        refine lv_iload_n hx hb d_F_sift_117 rfl (lv_at hl 0 rfl) ?_
        refine lv_iconst (v := 1) hx hb d_F_sift_118 (by decide) ?_
        refine lv_isub hx hb d_F_sift_119 ?_
        rw [show nI (k + 1) - 1 = nI k from nI_pred k]
        have hcd : s0 < k + 1 ∨ ¬ (N 0 3 + N 0 3 / 4) < N1 0 3 := Or.inl (by rcases Nat.lt_or_ge s0 (k + 1) with q | q <;> first | exact q | exact absurd c94 (nI_nlt q (by omega)))
        have hs2 : sle (j_swap N1 (nI k)) (j_sift N v) := by
          have h7 := (sok_swap hN1.1 (kk := k) (by omega)).1
          by_cases c3 : b ≤ (j_swap N1 (nI k)) 0 3
          · obtain ⟨N9, k9, bl9, e9⟩ := ex3 (j_sift2 s0 (N 0 3 + N 0 3 / 4) k (j_swap N1 (nI k)) bl b)
            rw [hr0 N9 k9 bl9 (by rw [j_sift2, if_pos hcd, if_pos c3]; exact e9)]
            obtain ⟨g1, g2, g3⟩ := sift2_sle s0 _ k _ bl b h7 (by omega) hbl e9
            exact sle_tr g1 (sift3_sle g3 12 N9 k9 g1.1)
          · obtain ⟨N9, k9, bl9, e9⟩ := ex3 (j_sift2 s0 (N 0 3 + N 0 3 / 4) k (j_swap N1 (nI k)) k ((j_swap N1 (nI k)) 0 3))
            rw [hr0 N9 k9 bl9 (by rw [j_sift2, if_pos hcd, if_neg c3]; exact e9)]
            obtain ⟨g1, g2, g3⟩ := sift2_sle s0 _ k _ k _ h7 (by omega) (by omega) e9
            exact sle_tr g1 (sift3_sle g3 12 N9 k9 g1.1)
        obtain ⟨⟨R9, hR9, h91, h92⟩, hv5, -⟩ := id hN1.1
        have hs1 := sok_swap hN1.1 (kk := k) (by omega)
        obtain ⟨b1, b2, b3, b4⟩ := mcW_step hN1 hs1 hs2
        refine sNW (As := [.int (nI k)]) (rest := []) ⟨hx, hb, hml, hown, hts⟩ (c_N_swap l dC dI cI u N1 _ (nI k) R9 hR9 h91 h92 hv5 k (by omega) rfl) (cwV 1 hts (gV kml_F_38 kim_N_swap ksl_N_swap kin_N kcd_N_swap) rfl rfl rfl (by decide +kernel) ⟨by show 4 + 1 ≤ 5; omega, by show 8 + (7 + 11) + 104 ≤ 140; omega⟩) hP hK hD hS hA rfl hl.1 rfl (Nat.le_of_ble_eq_true rfl) d_F_sift_120 ⟨by show _ ≤ mcW N (j_sift N v); omega, by show _ ≤ msW N (j_sift N v); omega⟩ (fun u2 H locs hu2 hP hD hS => ?_)
        refine W.cs (cells' := mcW N (j_swap N1 (nI k))) (slots' := msW N (j_swap N1 (nI k))) b1 b2 ?_
        have hu := hu2.trans hu
        have hN2 := sle_tr hN1 hs1
        refine lv_aload_n hx hb d_F_sift_123 rfl (lv_at hl 5 rfl) ?_
        refine va_get (D := (dC, dI)) (ci := 4) (v := .ref (u2 0)) (C := R_F) (T := T_F) (N := 1) hx hb hts in_F hown hK hP 0 rfl rfl 0 (by decide) (hts _ kfl_F_9) (fun _ h9 => h9) rfl d_F_sift_124 ?_
        refine sNR (As := []) (rest := []) ⟨hx, hb, hml, hown, hts⟩ (c_N_size l dC dI cI u2 (j_swap N1 (nI k)) ) (cwV 0 hts (gV kml_F_35 kim_N_size ksl_N_size kin_N kcd_N_size) rfl rfl rfl (by decide +kernel) ⟨by show 0 + 1 ≤ 5; omega, by show 8 + (1 + 11) + 0 ≤ 140; omega⟩) hP hK rfl hl.1 rfl (Nat.le_of_ble_eq_true rfl) d_F_sift_127 ⟨by show _ ≤ mcW N (j_sift N v); omega, by show _ ≤ msW N (j_sift N v); omega⟩ ?_
        refine lv_iload hx hb d_F_sift_130 (lv_at hl 3 rfl) ?_
        refine lv_icmp_ge (tgt := 149) hx hb d_F_sift_132 (by decide) (fun c132 => ?_) (fun c132 => ?_)
        · refine lv_iinc (v := ((nI (k + 1)) + (-1))) (lv' := [(3, .int ((nI (k + 1)) + (-1))), (2, .int (nI s0)), (4, .int (nI bl)), (5, .int b), (6, .int (N 0 3 + N 0 3 / 4)), (0, .ref f)]) hx hb d_F_sift_149 hl (k := 0) rfl rfl (by decide) rfl (fun ls hl => ?_)
          refine lv_goto (tgt := 92) hx hb d_F_sift_152 (by decide) ?_
          rw [nI_pm] at hl
          exact ih _ bl _ u2 H locs hu hN2 (by omega) hbl (fun N9 k9 bl9 e9 => hr0 _ _ _ (by rw [j_sift2, if_pos hcd, if_pos c132]; exact e9)) hP hD hS ls (lv_sub hl [0, 1, 2, 3, 4, 5] rfl)
        · refine lv_aload_n hx hb d_F_sift_135 rfl (lv_at hl 5 rfl) ?_
          refine va_get (D := (dC, dI)) (ci := 4) (v := .ref (u2 0)) (C := R_F) (T := T_F) (N := 1) hx hb hts in_F hown hK hP 0 rfl rfl 0 (by decide) (hts _ kfl_F_9) (fun _ h9 => h9) rfl d_F_sift_136 ?_
          refine sNR (As := []) (rest := []) ⟨hx, hb, hml, hown, hts⟩ (c_N_size l dC dI cI u2 (j_swap N1 (nI k)) ) (cwV 0 hts (gV kml_F_35 kim_N_size ksl_N_size kin_N kcd_N_size) rfl rfl rfl (by decide +kernel) ⟨by show 0 + 1 ≤ 5; omega, by show 8 + (1 + 11) + 0 ≤ 140; omega⟩) hP hK rfl hl.1 rfl (Nat.le_of_ble_eq_true rfl) d_F_sift_139 ⟨by show _ ≤ mcW N (j_sift N v); omega, by show _ ≤ msW N (j_sift N v); omega⟩ ?_
          refine lv_istore (lv' := [(5, .int ((j_swap N1 (nI k)) 0 3)), (3, .int (nI (k + 1))), (2, .int (nI s0)), (4, .int (nI bl)), (6, .int (N 0 3 + N 0 3 / 4)), (0, .ref f)]) hx hb d_F_sift_142 hl (by decide) rfl (fun ls hl => ?_)
          refine lv_iload_n hx hb d_F_sift_144 rfl (lv_at hl 1 rfl) ?_
          refine lv_iconst (v := 1) hx hb d_F_sift_145 (by decide) ?_
          refine lv_isub hx hb d_F_sift_146 ?_
          rw [show nI (k + 1) - 1 = nI k from nI_pred k]
          refine lv_istore (lv' := [(4, .int (nI k)), (5, .int ((j_swap N1 (nI k)) 0 3)), (3, .int (nI (k + 1))), (2, .int (nI s0)), (6, .int (N 0 3 + N 0 3 / 4)), (0, .ref f)]) hx hb d_F_sift_147 hl (by decide) rfl (fun ls hl => ?_)
          refine lv_iinc (v := ((nI (k + 1)) + (-1))) (lv' := [(3, .int ((nI (k + 1)) + (-1))), (4, .int (nI k)), (5, .int ((j_swap N1 (nI k)) 0 3)), (2, .int (nI s0)), (6, .int (N 0 3 + N 0 3 / 4)), (0, .ref f)]) hx hb d_F_sift_149 hl (k := 2) rfl rfl (by decide) rfl (fun ls hl => ?_)
          refine lv_goto (tgt := 92) hx hb d_F_sift_152 (by decide) ?_
          rw [nI_pm] at hl
          exact ih _ k _ u2 H locs hu hN2 (by omega) (by omega) (fun N9 k9 bl9 e9 => hr0 _ _ _ (by rw [j_sift2, if_pos hcd, if_neg c132]; exact e9)) hP hD hS ls (lv_sub hl [0, 3, 1, 2, 4, 5] rfl)
      · refine lv_iload_n hx hb d_F_sift_97 rfl (lv_at hl 0 rfl) ?_
        refine lv_if_le (tgt := 155) hx hb d_F_sift_98 (by decide) (fun c98 => ?_) (fun c98 => ?_)
        · exact absurd c98 (nI_nle (by omega) (by omega))
        · refine lv_aload_n hx hb d_F_sift_101 rfl (lv_at hl 5 rfl) ?_
          refine va_get (D := (dC, dI)) (ci := 4) (v := .ref (u 0)) (C := R_F) (T := T_F) (N := 1) hx hb hts in_F hown hK hP 0 rfl rfl 0 (by decide) (hts _ kfl_F_9) (fun _ h9 => h9) rfl d_F_sift_102 ?_
          refine sNR (As := []) (rest := []) ⟨hx, hb, hml, hown, hts⟩ (c_N_size l dC dI cI u N1 ) (cwV 0 hts (gV kml_F_35 kim_N_size ksl_N_size kin_N kcd_N_size) rfl rfl rfl (by decide +kernel) ⟨by show 0 + 1 ≤ 5; omega, by show 8 + (1 + 11) + 0 ≤ 140; omega⟩) hP hK rfl hl.1 rfl (Nat.le_of_ble_eq_true rfl) d_F_sift_105 ⟨by show _ ≤ mcW N (j_sift N v); omega, by show _ ≤ msW N (j_sift N v); omega⟩ ?_
          refine lv_iload hx hb d_F_sift_108 (lv_at hl 4 rfl) ?_
          refine lv_icmp_gt (tgt := 155) hx hb d_F_sift_110 (by decide) (fun c110 => ?_) (fun c110 => ?_)
          · exact loop3 12 N1 (k + 1) bl u H locs hu hN1 hbl (by omega) (by omega) (hr0 _ _ _ (by rw [j_sift2, if_neg (fun q => by rcases q with q | q <;> first | exact q c110 | exact absurd (nI_lt q (by omega)) c94)])) hP hD hS ls (lv_sub hl [0, 2, 5] rfl)
          · refine lv_aload_n hx hb d_F_sift_113 rfl (lv_at hl 5 rfl) ?_
            refine va_get (D := (dC, dI)) (ci := 4) (v := .ref (u 0)) (C := R_F) (T := T_F) (N := 1) hx hb hts in_F hown hK hP 0 rfl rfl 0 (by decide) (hts _ kfl_F_9) (fun _ h9 => h9) rfl d_F_sift_114 ?_
            refine lv_iload_n hx hb d_F_sift_117 rfl (lv_at hl 0 rfl) ?_
            refine lv_iconst (v := 1) hx hb d_F_sift_118 (by decide) ?_
            refine lv_isub hx hb d_F_sift_119 ?_
            rw [show nI (k + 1) - 1 = nI k from nI_pred k]
            have hcd : s0 < k + 1 ∨ ¬ (N 0 3 + N 0 3 / 4) < N1 0 3 := Or.inr c110
            have hs2 : sle (j_swap N1 (nI k)) (j_sift N v) := by
              have h7 := (sok_swap hN1.1 (kk := k) (by omega)).1
              by_cases c3 : b ≤ (j_swap N1 (nI k)) 0 3
              · obtain ⟨N9, k9, bl9, e9⟩ := ex3 (j_sift2 s0 (N 0 3 + N 0 3 / 4) k (j_swap N1 (nI k)) bl b)
                rw [hr0 N9 k9 bl9 (by rw [j_sift2, if_pos hcd, if_pos c3]; exact e9)]
                obtain ⟨g1, g2, g3⟩ := sift2_sle s0 _ k _ bl b h7 (by omega) hbl e9
                exact sle_tr g1 (sift3_sle g3 12 N9 k9 g1.1)
              · obtain ⟨N9, k9, bl9, e9⟩ := ex3 (j_sift2 s0 (N 0 3 + N 0 3 / 4) k (j_swap N1 (nI k)) k ((j_swap N1 (nI k)) 0 3))
                rw [hr0 N9 k9 bl9 (by rw [j_sift2, if_pos hcd, if_neg c3]; exact e9)]
                obtain ⟨g1, g2, g3⟩ := sift2_sle s0 _ k _ k _ h7 (by omega) (by omega) e9
                exact sle_tr g1 (sift3_sle g3 12 N9 k9 g1.1)
            obtain ⟨⟨R9, hR9, h91, h92⟩, hv5, -⟩ := id hN1.1
            have hs1 := sok_swap hN1.1 (kk := k) (by omega)
            obtain ⟨b1, b2, b3, b4⟩ := mcW_step hN1 hs1 hs2
            refine sNW (As := [.int (nI k)]) (rest := []) ⟨hx, hb, hml, hown, hts⟩ (c_N_swap l dC dI cI u N1 _ (nI k) R9 hR9 h91 h92 hv5 k (by omega) rfl) (cwV 1 hts (gV kml_F_38 kim_N_swap ksl_N_swap kin_N kcd_N_swap) rfl rfl rfl (by decide +kernel) ⟨by show 4 + 1 ≤ 5; omega, by show 8 + (7 + 11) + 104 ≤ 140; omega⟩) hP hK hD hS hA rfl hl.1 rfl (Nat.le_of_ble_eq_true rfl) d_F_sift_120 ⟨by show _ ≤ mcW N (j_sift N v); omega, by show _ ≤ msW N (j_sift N v); omega⟩ (fun u2 H locs hu2 hP hD hS => ?_)
            refine W.cs (cells' := mcW N (j_swap N1 (nI k))) (slots' := msW N (j_swap N1 (nI k))) b1 b2 ?_
            have hu := hu2.trans hu
            have hN2 := sle_tr hN1 hs1
            refine lv_aload_n hx hb d_F_sift_123 rfl (lv_at hl 5 rfl) ?_
            refine va_get (D := (dC, dI)) (ci := 4) (v := .ref (u2 0)) (C := R_F) (T := T_F) (N := 1) hx hb hts in_F hown hK hP 0 rfl rfl 0 (by decide) (hts _ kfl_F_9) (fun _ h9 => h9) rfl d_F_sift_124 ?_
            refine sNR (As := []) (rest := []) ⟨hx, hb, hml, hown, hts⟩ (c_N_size l dC dI cI u2 (j_swap N1 (nI k)) ) (cwV 0 hts (gV kml_F_35 kim_N_size ksl_N_size kin_N kcd_N_size) rfl rfl rfl (by decide +kernel) ⟨by show 0 + 1 ≤ 5; omega, by show 8 + (1 + 11) + 0 ≤ 140; omega⟩) hP hK rfl hl.1 rfl (Nat.le_of_ble_eq_true rfl) d_F_sift_127 ⟨by show _ ≤ mcW N (j_sift N v); omega, by show _ ≤ msW N (j_sift N v); omega⟩ ?_
            refine lv_iload hx hb d_F_sift_130 (lv_at hl 3 rfl) ?_
            refine lv_icmp_ge (tgt := 149) hx hb d_F_sift_132 (by decide) (fun c132 => ?_) (fun c132 => ?_)
            · refine lv_iinc (v := ((nI (k + 1)) + (-1))) (lv' := [(3, .int ((nI (k + 1)) + (-1))), (2, .int (nI s0)), (4, .int (nI bl)), (5, .int b), (6, .int (N 0 3 + N 0 3 / 4)), (0, .ref f)]) hx hb d_F_sift_149 hl (k := 0) rfl rfl (by decide) rfl (fun ls hl => ?_)
              refine lv_goto (tgt := 92) hx hb d_F_sift_152 (by decide) ?_
              rw [nI_pm] at hl
              exact ih _ bl _ u2 H locs hu hN2 (by omega) hbl (fun N9 k9 bl9 e9 => hr0 _ _ _ (by rw [j_sift2, if_pos hcd, if_pos c132]; exact e9)) hP hD hS ls (lv_sub hl [0, 1, 2, 3, 4, 5] rfl)
            · refine lv_aload_n hx hb d_F_sift_135 rfl (lv_at hl 5 rfl) ?_
              refine va_get (D := (dC, dI)) (ci := 4) (v := .ref (u2 0)) (C := R_F) (T := T_F) (N := 1) hx hb hts in_F hown hK hP 0 rfl rfl 0 (by decide) (hts _ kfl_F_9) (fun _ h9 => h9) rfl d_F_sift_136 ?_
              refine sNR (As := []) (rest := []) ⟨hx, hb, hml, hown, hts⟩ (c_N_size l dC dI cI u2 (j_swap N1 (nI k)) ) (cwV 0 hts (gV kml_F_35 kim_N_size ksl_N_size kin_N kcd_N_size) rfl rfl rfl (by decide +kernel) ⟨by show 0 + 1 ≤ 5; omega, by show 8 + (1 + 11) + 0 ≤ 140; omega⟩) hP hK rfl hl.1 rfl (Nat.le_of_ble_eq_true rfl) d_F_sift_139 ⟨by show _ ≤ mcW N (j_sift N v); omega, by show _ ≤ msW N (j_sift N v); omega⟩ ?_
              refine lv_istore (lv' := [(5, .int ((j_swap N1 (nI k)) 0 3)), (3, .int (nI (k + 1))), (2, .int (nI s0)), (4, .int (nI bl)), (6, .int (N 0 3 + N 0 3 / 4)), (0, .ref f)]) hx hb d_F_sift_142 hl (by decide) rfl (fun ls hl => ?_)
              refine lv_iload_n hx hb d_F_sift_144 rfl (lv_at hl 1 rfl) ?_
              refine lv_iconst (v := 1) hx hb d_F_sift_145 (by decide) ?_
              refine lv_isub hx hb d_F_sift_146 ?_
              rw [show nI (k + 1) - 1 = nI k from nI_pred k]
              refine lv_istore (lv' := [(4, .int (nI k)), (5, .int ((j_swap N1 (nI k)) 0 3)), (3, .int (nI (k + 1))), (2, .int (nI s0)), (6, .int (N 0 3 + N 0 3 / 4)), (0, .ref f)]) hx hb d_F_sift_147 hl (by decide) rfl (fun ls hl => ?_)
              refine lv_iinc (v := ((nI (k + 1)) + (-1))) (lv' := [(3, .int ((nI (k + 1)) + (-1))), (4, .int (nI k)), (5, .int ((j_swap N1 (nI k)) 0 3)), (2, .int (nI s0)), (6, .int (N 0 3 + N 0 3 / 4)), (0, .ref f)]) hx hb d_F_sift_149 hl (k := 2) rfl rfl (by decide) rfl (fun ls hl => ?_)
              refine lv_goto (tgt := 92) hx hb d_F_sift_152 (by decide) ?_
              rw [nI_pm] at hl
              exact ih _ k _ u2 H locs hu hN2 (by omega) (by omega) (fun N9 k9 bl9 e9 => hr0 _ _ _ (by rw [j_sift2, if_pos hcd, if_neg c132]; exact e9)) hP hD hS ls (lv_sub hl [0, 3, 1, 2, 4, 5] rfl)
  have loop1 : ∀ (n : Nat) (N1 : Mm) (k : Nat) (bl : Nat) (b : Int32) (u : Nat → Nat) (H : Heap) (locs : List Loc), u 0 = a 0 → sle N N1 → k < 12 → bl < 12 → 12 ≤ k + 1 + n → (∀ N9 k9 bl9 b9, j_sift1 (N 0 3 + N 0 3 / 4) n N1 k bl b = (N9, k9, bl9, b9) → j_sift N v = j_fin2 s0 (N 0 3 + N 0 3 / 4) N9 k9 bl9 b9) →  va_P (dC, dI) cls0 (sW cI f u N1) H → va_D A (sW cI f u N1) → va_S A s.heap H locs → ∀ (ls : Array Slot), lv_has ls 7 [(3, .int (nI k)), (2, .int (nI s0)), (4, .int (nI bl)), (5, .int b), (6, .int (N 0 3 + N 0 3 / 4)), (0, .ref f)] → W p l e (headSpec (.code y_F_sift b_F_sift 7 none :: W0) ({ frames := 5, cells := (mcW N (j_sift N v)), slots := (msW N (j_sift N v)), locals := 140 } : Room)).room s m ([.ref f, .int x1] : List Value).toArray below meth c H locs (mcW N N1) (msW N N1) (MQ below (va_Qv (fun u : Nat → Nat => u 0 = a 0) (fun u t => sE dC dI cI f u (j_sift N v) A t) A) ([.ref f, .int x1] : List Value).toArray s (mcW N (j_sift N v)) (msW N (j_sift N v)) A) (F0 m 32 ls []) := by
    intro n
    induction n with
    | zero =>
      intro N1 k bl b u H locs hu hN1 hk hbl hkn hr0 hP hD hS ls hl
      have hcs : mcW N N1 ≤ mcW N (j_sift N v) ∧ msW N N1 ≤ msW N (j_sift N v) := by
        have hs9 : sle N1 (j_sift N v) := by (obtain ⟨N9, k9, bl9, b9, e9⟩ := ex4 (j_sift1 (N 0 3 + N 0 3 / 4) _ N1 k bl b); rw [hr0 _ _ _ _ e9]; obtain ⟨g1, g2, g3⟩ := sift1_sle _ _ N1 k bl b hN1.1 hk hbl e9; exact sle_tr g1 (fin2_sle g1.1 g2 g3))
        obtain ⟨-, -, q3, q4⟩ := mcW_step (N := N) (N1 := N) (N2 := N1) (sle_rf hN) hN1 hs9
        exact ⟨q3, q4⟩
      refine lv_iload_n hx hb d_F_sift_32 rfl (lv_at hl 0 rfl) ?_
      refine lv_iconst (v := 1) hx hb d_F_sift_33 (by decide) ?_
      refine lv_iadd hx hb d_F_sift_34 ?_
      refine lv_bipush (v := 12) hx hb d_F_sift_35 (by decide) ?_
      refine lv_icmp_ge (tgt := 92) hx hb d_F_sift_37 (by decide) (fun c37 => ?_) (fun c37 => ?_)
      · exact loop2 k N1 bl b u H locs hu hN1 hk hbl (fun N9 k9 bl9 e9 => by rw [hr0 _ _ _ _ rfl, fin2_e e9]) hP hD hS ls (lv_sub hl [0, 1, 2, 3, 4, 5] rfl)
      · exact absurd (by rw [nI_1]; exact nI_le (a := 12) (by omega) (by omega)) c37
    | succ n ih =>
      intro N1 k bl b u H locs hu hN1 hk hbl hkn hr0 hP hD hS ls hl
      have hcs : mcW N N1 ≤ mcW N (j_sift N v) ∧ msW N N1 ≤ msW N (j_sift N v) := by
        have hs9 : sle N1 (j_sift N v) := by (obtain ⟨N9, k9, bl9, b9, e9⟩ := ex4 (j_sift1 (N 0 3 + N 0 3 / 4) _ N1 k bl b); rw [hr0 _ _ _ _ e9]; obtain ⟨g1, g2, g3⟩ := sift1_sle _ _ N1 k bl b hN1.1 hk hbl e9; exact sle_tr g1 (fin2_sle g1.1 g2 g3))
        obtain ⟨-, -, q3, q4⟩ := mcW_step (N := N) (N1 := N) (N2 := N1) (sle_rf hN) hN1 hs9
        exact ⟨q3, q4⟩
      refine lv_iload_n hx hb d_F_sift_32 rfl (lv_at hl 0 rfl) ?_
      refine lv_iconst (v := 1) hx hb d_F_sift_33 (by decide) ?_
      refine lv_iadd hx hb d_F_sift_34 ?_
      refine lv_bipush (v := 12) hx hb d_F_sift_35 (by decide) ?_
      refine lv_icmp_ge (tgt := 92) hx hb d_F_sift_37 (by decide) (fun c37 => ?_) (fun c37 => ?_)
      · have hk2 : 12 ≤ k + 1 := (nI_leI (a := 12) (b := k + 1) (by omega) (by omega)).mp (by have c := c37; rw [nI_1] at c; exact c)
        exact loop2 k N1 bl b u H locs hu hN1 hk hbl (fun N9 k9 bl9 e9 => by rw [hr0 _ _ _ _ (by rw [j_sift1, if_pos hk2]), fin2_e e9]) hP hD hS ls (lv_sub hl [0, 1, 2, 3, 4, 5] rfl)
      · have hk2 : ¬ 12 ≤ k + 1 := fun q => c37 (by rw [nI_1]; exact nI_le (a := 12) q (by omega))
        refine lv_aload_n hx hb d_F_sift_40 rfl (lv_at hl 5 rfl) ?_
        refine va_get (D := (dC, dI)) (ci := 4) (v := .ref (u 0)) (C := R_F) (T := T_F) (N := 1) hx hb hts in_F hown hK hP 0 rfl rfl 0 (by decide) (hts _ kfl_F_9) (fun _ h9 => h9) rfl d_F_sift_41 ?_
        refine sNR (As := []) (rest := []) ⟨hx, hb, hml, hown, hts⟩ (c_N_size l dC dI cI u N1 ) (cwV 0 hts (gV kml_F_35 kim_N_size ksl_N_size kin_N kcd_N_size) rfl rfl rfl (by decide +kernel) ⟨by show 0 + 1 ≤ 5; omega, by show 8 + (1 + 11) + 0 ≤ 140; omega⟩) hP hK rfl hl.1 rfl (Nat.le_of_ble_eq_true rfl) d_F_sift_44 ⟨by show _ ≤ mcW N (j_sift N v); omega, by show _ ≤ msW N (j_sift N v); omega⟩ ?_
        refine lv_iload hx hb d_F_sift_47 (lv_at hl 4 rfl) ?_
        refine lv_icmp_gt (tgt := 92) hx hb d_F_sift_49 (by decide) (fun c49 => ?_) (fun c49 => ?_)
        · exact loop2 k N1 bl b u H locs hu hN1 hk hbl (fun N9 k9 bl9 e9 => by rw [hr0 _ _ _ _ (by rw [j_sift1, if_neg hk2, if_pos c49]), fin2_e e9]) hP hD hS ls (lv_sub hl [0, 1, 2, 3, 4, 5] rfl)
        · refine lv_aload_n hx hb d_F_sift_52 rfl (lv_at hl 5 rfl) ?_
          refine va_get (D := (dC, dI)) (ci := 4) (v := .ref (u 0)) (C := R_F) (T := T_F) (N := 1) hx hb hts in_F hown hK hP 0 rfl rfl 0 (by decide) (hts _ kfl_F_9) (fun _ h9 => h9) rfl d_F_sift_53 ?_
          refine lv_iload_n hx hb d_F_sift_56 rfl (lv_at hl 0 rfl) ?_
          have hs2 : sle (j_swap N1 (nI k)) (j_sift N v) := by
            have h7 := (sok_swap hN1.1 (kk := k) (by omega)).1
            by_cases c3 : b ≤ (j_swap N1 (nI k)) 0 3
            · obtain ⟨N9, k9, bl9, b9, e9⟩ := ex4 (j_sift1 (N 0 3 + N 0 3 / 4) n (j_swap N1 (nI k)) (k + 1) bl b)
              rw [hr0 N9 k9 bl9 b9 (by rw [j_sift1, if_neg hk2, if_neg c49, if_pos c3]; exact e9)]
              obtain ⟨g1, g2, g3⟩ := sift1_sle _ n _ _ bl b h7 (by omega) hbl e9
              exact sle_tr g1 (fin2_sle g1.1 g2 g3)
            · obtain ⟨N9, k9, bl9, b9, e9⟩ := ex4 (j_sift1 (N 0 3 + N 0 3 / 4) n (j_swap N1 (nI k)) (k + 1) (k + 1) ((j_swap N1 (nI k)) 0 3))
              rw [hr0 N9 k9 bl9 b9 (by rw [j_sift1, if_neg hk2, if_neg c49, if_neg c3]; exact e9)]
              obtain ⟨g1, g2, g3⟩ := sift1_sle _ n _ _ _ _ h7 (by omega) (by omega) e9
              exact sle_tr g1 (fin2_sle g1.1 g2 g3)
          obtain ⟨⟨R9, hR9, h91, h92⟩, hv5, -⟩ := id hN1.1
          have hs1 := sok_swap hN1.1 (kk := k) (by omega)
          obtain ⟨b1, b2, b3, b4⟩ := mcW_step hN1 hs1 hs2
          refine sNW (As := [.int (nI k)]) (rest := []) ⟨hx, hb, hml, hown, hts⟩ (c_N_swap l dC dI cI u N1 _ (nI k) R9 hR9 h91 h92 hv5 k (by omega) rfl) (cwV 1 hts (gV kml_F_38 kim_N_swap ksl_N_swap kin_N kcd_N_swap) rfl rfl rfl (by decide +kernel) ⟨by show 4 + 1 ≤ 5; omega, by show 8 + (7 + 11) + 104 ≤ 140; omega⟩) hP hK hD hS hA rfl hl.1 rfl (Nat.le_of_ble_eq_true rfl) d_F_sift_57 ⟨by show _ ≤ mcW N (j_sift N v); omega, by show _ ≤ msW N (j_sift N v); omega⟩ (fun u2 H locs hu2 hP hD hS => ?_)
          refine W.cs (cells' := mcW N (j_swap N1 (nI k))) (slots' := msW N (j_swap N1 (nI k))) b1 b2 ?_
          have hu := hu2.trans hu
          have hN2 := sle_tr hN1 hs1
          refine lv_aload_n hx hb d_F_sift_60 rfl (lv_at hl 5 rfl) ?_
          refine va_get (D := (dC, dI)) (ci := 4) (v := .ref (u2 0)) (C := R_F) (T := T_F) (N := 1) hx hb hts in_F hown hK hP 0 rfl rfl 0 (by decide) (hts _ kfl_F_9) (fun _ h9 => h9) rfl d_F_sift_61 ?_
          refine sNR (As := []) (rest := []) ⟨hx, hb, hml, hown, hts⟩ (c_N_size l dC dI cI u2 (j_swap N1 (nI k)) ) (cwV 0 hts (gV kml_F_35 kim_N_size ksl_N_size kin_N kcd_N_size) rfl rfl rfl (by decide +kernel) ⟨by show 0 + 1 ≤ 5; omega, by show 8 + (1 + 11) + 0 ≤ 140; omega⟩) hP hK rfl hl.1 rfl (Nat.le_of_ble_eq_true rfl) d_F_sift_64 ⟨by show _ ≤ mcW N (j_sift N v); omega, by show _ ≤ msW N (j_sift N v); omega⟩ ?_
          refine lv_iload hx hb d_F_sift_67 (lv_at hl 3 rfl) ?_
          refine lv_icmp_ge (tgt := 86) hx hb d_F_sift_69 (by decide) (fun c69 => ?_) (fun c69 => ?_)
          · refine lv_iinc (v := ((nI k) + 1)) (lv' := [(3, .int ((nI k) + 1)), (2, .int (nI s0)), (4, .int (nI bl)), (5, .int b), (6, .int (N 0 3 + N 0 3 / 4)), (0, .ref f)]) hx hb d_F_sift_86 hl (k := 0) rfl rfl (by decide) rfl (fun ls hl => ?_)
            refine lv_goto (tgt := 32) hx hb d_F_sift_89 (by decide) ?_
            rw [nI_1] at hl
            exact ih _ (k + 1) bl _ u2 H locs hu hN2 (by omega) hbl (by omega) (fun N9 k9 bl9 b9 e9 => hr0 _ _ _ _ (by rw [j_sift1, if_neg hk2, if_neg c49, if_pos c69]; exact e9)) hP hD hS ls (lv_sub hl [0, 1, 2, 3, 4, 5] rfl)
          · refine lv_aload_n hx hb d_F_sift_72 rfl (lv_at hl 5 rfl) ?_
            refine va_get (D := (dC, dI)) (ci := 4) (v := .ref (u2 0)) (C := R_F) (T := T_F) (N := 1) hx hb hts in_F hown hK hP 0 rfl rfl 0 (by decide) (hts _ kfl_F_9) (fun _ h9 => h9) rfl d_F_sift_73 ?_
            refine sNR (As := []) (rest := []) ⟨hx, hb, hml, hown, hts⟩ (c_N_size l dC dI cI u2 (j_swap N1 (nI k)) ) (cwV 0 hts (gV kml_F_35 kim_N_size ksl_N_size kin_N kcd_N_size) rfl rfl rfl (by decide +kernel) ⟨by show 0 + 1 ≤ 5; omega, by show 8 + (1 + 11) + 0 ≤ 140; omega⟩) hP hK rfl hl.1 rfl (Nat.le_of_ble_eq_true rfl) d_F_sift_76 ⟨by show _ ≤ mcW N (j_sift N v); omega, by show _ ≤ msW N (j_sift N v); omega⟩ ?_
            refine lv_istore (lv' := [(5, .int ((j_swap N1 (nI k)) 0 3)), (3, .int (nI k)), (2, .int (nI s0)), (4, .int (nI bl)), (6, .int (N 0 3 + N 0 3 / 4)), (0, .ref f)]) hx hb d_F_sift_79 hl (by decide) rfl (fun ls hl => ?_)
            refine lv_iload_n hx hb d_F_sift_81 rfl (lv_at hl 1 rfl) ?_
            refine lv_iconst (v := 1) hx hb d_F_sift_82 (by decide) ?_
            refine lv_iadd hx hb d_F_sift_83 ?_
            rw [nI_1]
            refine lv_istore (lv' := [(4, .int (nI (k + 1))), (5, .int ((j_swap N1 (nI k)) 0 3)), (3, .int (nI k)), (2, .int (nI s0)), (6, .int (N 0 3 + N 0 3 / 4)), (0, .ref f)]) hx hb d_F_sift_84 hl (by decide) rfl (fun ls hl => ?_)
            refine lv_iinc (v := ((nI k) + 1)) (lv' := [(3, .int ((nI k) + 1)), (4, .int (nI (k + 1))), (5, .int ((j_swap N1 (nI k)) 0 3)), (2, .int (nI s0)), (6, .int (N 0 3 + N 0 3 / 4)), (0, .ref f)]) hx hb d_F_sift_86 hl (k := 2) rfl rfl (by decide) rfl (fun ls hl => ?_)
            refine lv_goto (tgt := 32) hx hb d_F_sift_89 (by decide) ?_
            rw [nI_1] at hl
            exact ih _ (k + 1) (k + 1) _ u2 H locs hu hN2 (by omega) (by omega) (by omega) (fun N9 k9 bl9 b9 e9 => hr0 _ _ _ _ (by rw [j_sift1, if_neg hk2, if_neg c49, if_neg c69]; exact e9)) hP hD hS ls (lv_sub hl [0, 3, 1, 2, 4, 5] rfl)
  refine lv_aload_n hx hb d_F_sift_0 rfl (lv_at hl 0 rfl) ?_
  refine va_get (D := (dC, dI)) (ci := 4) (v := .ref (a 0)) (C := R_F) (T := T_F) (N := 1) hx hb hts in_F hown hK hP 0 rfl rfl 0 (by decide) (hts _ kfl_F_9) (fun _ h9 => h9) rfl d_F_sift_1 ?_
  refine lv_iload_n hx hb d_F_sift_4 rfl (lv_at hl 1 rfl) ?_
  refine sNR (As := [.int x1]) (rest := []) ⟨hx, hb, hml, hown, hts⟩ (c_N_levelOf l dC dI cI a N x1) (cwV 1 hts (gV kml_F_32 kim_N_levelOf ksl_N_levelOf kin_N kcd_N_levelOf) rfl rfl rfl (by decide +kernel) ⟨by show 0 + 1 ≤ 5; omega, by show 8 + (2 + 11) + 0 ≤ 140; omega⟩) hP hK rfl hl.1 rfl (Nat.le_of_ble_eq_true rfl) d_F_sift_5 ⟨by show mcW N N ≤ _; unfold mcW; omega, by show msW N N ≤ _; unfold msW; omega⟩ ?_
  rw [show j_levelOf N x1 = nI s0 from by rw [hx1]; unfold j_levelOf; rw [if_neg (nI_pos (by omega)), if_neg (nI_ge (by omega) (by omega)), nI_clamp (by omega)]; exact es0]
  refine lv_istore_n (lv' := [(2, .int (nI s0)), (0, .ref f), (1, .int x1)]) hx hb d_F_sift_8 rfl hl (by decide) rfl (fun ls hl => ?_)
  refine lv_iload_n hx hb d_F_sift_9 rfl (lv_at hl 0 rfl) ?_
  refine lv_istore_n (lv' := [(3, .int (nI s0)), (2, .int (nI s0)), (0, .ref f), (1, .int x1)]) hx hb d_F_sift_10 rfl hl (by decide) rfl (fun ls hl => ?_)
  refine lv_iload_n hx hb d_F_sift_11 rfl (lv_at hl 1 rfl) ?_
  refine lv_istore (lv' := [(4, .int (nI s0)), (3, .int (nI s0)), (2, .int (nI s0)), (0, .ref f), (1, .int x1)]) hx hb d_F_sift_12 hl (by decide) rfl (fun ls hl => ?_)
  refine lv_aload_n hx hb d_F_sift_14 rfl (lv_at hl 3 rfl) ?_
  refine va_get (D := (dC, dI)) (ci := 4) (v := .ref (a 0)) (C := R_F) (T := T_F) (N := 1) hx hb hts in_F hown hK hP 0 rfl rfl 0 (by decide) (hts _ kfl_F_9) (fun _ h9 => h9) rfl d_F_sift_15 ?_
  refine sNR (As := []) (rest := []) ⟨hx, hb, hml, hown, hts⟩ (c_N_size l dC dI cI a N ) (cwV 0 hts (gV kml_F_35 kim_N_size ksl_N_size kin_N kcd_N_size) rfl rfl rfl (by decide +kernel) ⟨by show 0 + 1 ≤ 5; omega, by show 8 + (1 + 11) + 0 ≤ 140; omega⟩) hP hK rfl hl.1 rfl (Nat.le_of_ble_eq_true rfl) d_F_sift_18 ⟨by show mcW N N ≤ _; unfold mcW; omega, by show msW N N ≤ _; unfold msW; omega⟩ ?_
  refine lv_istore (lv' := [(5, .int (N 0 3)), (4, .int (nI s0)), (3, .int (nI s0)), (2, .int (nI s0)), (0, .ref f), (1, .int x1)]) hx hb d_F_sift_21 hl (by decide) rfl (fun ls hl => ?_)
  refine lv_iload hx hb d_F_sift_23 (lv_at hl 0 rfl) ?_
  refine lv_iload hx hb d_F_sift_25 (lv_at hl 0 rfl) ?_
  refine lv_iconst (v := 4) hx hb d_F_sift_27 (by decide) ?_
  refine lv_idiv hx hb d_F_sift_28 (by decide) ?_
  refine lv_iadd hx hb d_F_sift_29 ?_
  refine lv_istore (lv' := [(6, .int ((N 0 3) + ((N 0 3) / 4))), (5, .int (N 0 3)), (4, .int (nI s0)), (3, .int (nI s0)), (2, .int (nI s0)), (0, .ref f), (1, .int x1)]) hx hb d_F_sift_30 hl (by decide) rfl (fun ls hl => ?_)
  exact loop1 12 N s0 s0 _ a s.heap [] rfl (sle_rf hN) hs0 hs0 (by omega) (fun N9 k9 bl9 b9 e9 => by rw [← ec] at e9; rw [sift_e e9, ec]) hP hD hS ls (lv_sub hl [3, 4, 2, 1, 0, 5] rfl)
