/-! SIFTING, 4: seekLess -/
set_option maxHeartbeats 8000000 in
set_option maxRecDepth 100000 in
theorem c_F_seekLess (l : Launch) (dC : Nat → ClassId) (dI : Nat → Nat → Nat) (cI : ClassId) (f : Nat) (a : Nat → Nat) (N : Mm) (sz : Nat) (hN : sok N) : Met l y_F_seekLess (.code y_F_seekLess b_F_seekLess 5 none :: W0) ({ frames := 6, cells := (mcW N (j_seek (N 0 5 + 8000) 12 N 0)), slots := (msW N (j_seek (N 0 5 + 8000) 12 N 0)), locals := 170 } : Room) (va_Pc [.ref f] (sM dC dI cI f a N sz)) (va_Qv (fun u : Nat → Nat => u 0 = a 0) (fun u t => sE dC dI cI f u (j_seek (N 0 5 + 8000) 12 N 0) (va_A (sW cI f a N) sz) t) (va_A (sW cI f a N) sz)) (mcW N (j_seek (N 0 5 + 8000) 12 N 0)) (msW N (j_seek (N 0 5 + 8000) 12 N 0)) (va_A (sW cI f a N) sz) := by
  refine Met.ofW (cc := b_F_seekLess) (maxL := 5) (ret := none) (by decide) rfl ?_
  intro p e s m args below meth c s₁ B hml hv
  obtain ⟨rfl, hsz, hP, hK, hD0⟩ := hv
  have hx := B.exec
  have hb := B.bytes
  have hr := B.returns
  have hts1 := atoms_spec (ws := .code y_F_seekLess b_F_seekLess 5 none :: W0) B.pre
  have hts : ∀ w ∈ W0, w.before _ s = true := fun w h => hts1 w (List.mem_cons_of_mem _ h)
  have hown : s.vm.findClass R_F = some m.cls := findClass_of_methodNamed B.named
  have hlocks := B.notSynchronized
  subst hsz
  have hD := hD0.self (sz := s.heap.size)
  generalize hAe : va_A (sW cI f a N) s.heap.size = A at hD ⊢
  have hA : ∀ q : Nat, s.heap.size ≤ q → A q := fun q h => by rw [← hAe]; exact Or.inr h
  have hS : va_S A s.heap s.heap [] := va_S.rf
  have hP : va_P (dC, dI) cls0 (sW cI f a N) s.heap := hP
  have hl := lv_entry ([.ref f]) (n := 5) (Nat.le_of_ble_eq_true rfl)
  rw [lg_entry_eq]
  generalize (lg_sl ([.ref f]) ++ List.replicate (5 - (lg_sl ([.ref f])).length) Slot.unset).toArray = ls at hl ⊢
  have hl : lv_has ls 5 [(0, .ref f)] := hl
  refine W.cs (cells' := mcW N N) (slots' := msW N N) (by unfold mcW; omega) (by unfold msW; omega) ?_
  have loop : ∀ (n : Nat) (N1 : Mm) (r : Nat) (d : Int32) (u : Nat → Nat) (H : Heap) (locs : List Loc), u 0 = a 0 → sle N N1 → r + n = 12 → j_seek (N 0 5 + 8000) 12 N 0 = j_seek (N 0 5 + 8000) n N1 d → va_P (dC, dI) cls0 (sW cI f u N1) H → va_D A (sW cI f u N1) → va_S A s.heap H locs → ∀ (ls : Array Slot), lv_has ls 5 [(3, .int (nI r)), (1, .int (N 0 5 + 8000)), (2, .int d), (0, .ref f)] → W p l e (headSpec (.code y_F_seekLess b_F_seekLess 5 none :: W0) ({ frames := 6, cells := (mcW N (j_seek (N 0 5 + 8000) 12 N 0)), slots := (msW N (j_seek (N 0 5 + 8000) 12 N 0)), locals := 170 } : Room)).room s m ([.ref f] : List Value).toArray below meth c H locs (mcW N N1) (msW N N1) (MQ below (va_Qv (fun u : Nat → Nat => u 0 = a 0) (fun u t => sE dC dI cI f u (j_seek (N 0 5 + 8000) 12 N 0) A t) A) ([.ref f] : List Value).toArray s (mcW N (j_seek (N 0 5 + 8000) 12 N 0)) (msW N (j_seek (N 0 5 + 8000) 12 N 0)) A) (F0 m 16 ls []) := by
    intro n
    induction n with
    | zero =>
      intro N1 r d u H locs hu hN1 hj hr0 hP hD hS ls hl
      have hcs : mcW N N1 ≤ mcW N (j_seek (N 0 5 + 8000) 12 N 0) ∧ msW N N1 ≤ msW N (j_seek (N 0 5 + 8000) 12 N 0) := by
        have hs9 : sle N1 (j_seek (N 0 5 + 8000) 12 N 0) := by rw [hr0]; exact seek_sle _ _ _ _ hN1.1
        obtain ⟨-, -, q3, q4⟩ := mcW_step (N := N) (N1 := N) (N2 := N1) (sle_rf hN) hN1 hs9
        exact ⟨q3, q4⟩
      refine lv_iload_n hx hb d_F_seekLess_16 rfl (lv_at hl 0 rfl) ?_
      refine lv_bipush (v := 12) hx hb d_F_seekLess_17 (by decide) ?_
      refine lv_icmp_ge (tgt := 72) hx hb d_F_seekLess_19 (by decide) (fun c19 => ?_) (fun c19 => ?_)
      · have eP : j_seek (N 0 5 + 8000) 12 N 0 = N1 := by rw [hr0]; rfl
        refine W.cs (cells' := mcW N (j_seek (N 0 5 + 8000) 12 N 0)) (slots' := msW N (j_seek (N 0 5 + 8000) 12 N 0)) (by rw [eP]) (by rw [eP]) ?_
        exact W.vret hx hb hr (fun t ht hW => ⟨⟨u, rfl, hu, by rw [ht, eP]; exact hP, va_K.moved hW.alike hK, by rw [eP]; exact hD⟩, hS.F ht⟩) hS.2.2 d_F_seekLess_72
      · exact absurd (nI_le (a := 12) (by omega) (by omega)) c19
    | succ n ih =>
      intro N1 r d u H locs hu hN1 hj hr0 hP hD hS ls hl
      have hcs : mcW N N1 ≤ mcW N (j_seek (N 0 5 + 8000) 12 N 0) ∧ msW N N1 ≤ msW N (j_seek (N 0 5 + 8000) 12 N 0) := by
        have hs9 : sle N1 (j_seek (N 0 5 + 8000) 12 N 0) := by rw [hr0]; exact seek_sle _ _ _ _ hN1.1
        obtain ⟨-, -, q3, q4⟩ := mcW_step (N := N) (N1 := N) (N2 := N1) (sle_rf hN) hN1 hs9
        exact ⟨q3, q4⟩
      refine lv_iload_n hx hb d_F_seekLess_16 rfl (lv_at hl 0 rfl) ?_
      refine lv_bipush (v := 12) hx hb d_F_seekLess_17 (by decide) ?_
      refine lv_icmp_ge (tgt := 72) hx hb d_F_seekLess_19 (by decide) (fun c19 => ?_) (fun c19 => ?_)
      · exact absurd c19 (nI_ge (b := 12) (by omega) (by omega))
      · refine lv_aload_n hx hb d_F_seekLess_22 rfl (lv_at hl 3 rfl) ?_
        refine va_get (D := (dC, dI)) (ci := 4) (v := .ref (u 0)) (C := R_F) (T := T_F) (N := 1) hx hb hts in_F hown hK hP 0 rfl rfl 0 (by decide) (hts _ kfl_F_9) (fun _ h9 => h9) rfl d_F_seekLess_23 ?_
        refine sNR (As := []) (rest := []) ⟨hx, hb, hml, hown, hts⟩ (c_N_rewritten l dC dI cI u N1 ) (cwV 0 hts (gV kml_F_15 kim_N_rewritten ksl_N_rewritten kin_N kcd_N_rewritten) rfl rfl rfl (by decide +kernel) ⟨by show 0 + 1 ≤ 6; omega, by show 8 + (1 + 11) + 0 ≤ 170; omega⟩) hP hK rfl hl.1 rfl (Nat.le_of_ble_eq_true rfl) d_F_seekLess_26 ⟨by show _ ≤ mcW N (j_seek (N 0 5 + 8000) 12 N 0); omega, by show _ ≤ msW N (j_seek (N 0 5 + 8000) 12 N 0); omega⟩ ?_
        refine lv_iload_n hx hb d_F_seekLess_29 rfl (lv_at hl 1 rfl) ?_
        refine lv_isub hx hb d_F_seekLess_30 ?_
        refine lv_if_ge (tgt := 72) hx hb d_F_seekLess_31 (by decide) (fun c31 => ?_) (fun c31 => ?_)
        · have eP : j_seek (N 0 5 + 8000) 12 N 0 = N1 := by rw [hr0, j_seek, if_pos c31]
          refine W.cs (cells' := mcW N (j_seek (N 0 5 + 8000) 12 N 0)) (slots' := msW N (j_seek (N 0 5 + 8000) 12 N 0)) (by rw [eP]) (by rw [eP]) ?_
          exact W.vret hx hb hr (fun t ht hW => ⟨⟨u, rfl, hu, by rw [ht, eP]; exact hP, va_K.moved hW.alike hK, by rw [eP]; exact hD⟩, hS.F ht⟩) hS.2.2 d_F_seekLess_72
        · refine lv_aload_n hx hb d_F_seekLess_34 rfl (lv_at hl 3 rfl) ?_
          refine lv_iload_n hx hb d_F_seekLess_35 rfl (lv_at hl 2 rfl) ?_
          refine sFR (As := [.int d]) (rest := []) ⟨hx, hb, hml, hown, hts⟩ (c_F_fullest l dC dI cI f u N1 d) (cwV 1 hts (gV kml_F_21 kim_F_fullest ksl_F_fullest kin_F kcd_F_fullest) rfl rfl rfl (by decide +kernel) ⟨by show 1 + 1 ≤ 6; omega, by show 8 + (5 + 11) + 30 ≤ 170; omega⟩) hP hK rfl hl.1 rfl (Nat.le_of_ble_eq_true rfl) d_F_seekLess_36 ⟨by show _ ≤ mcW N (j_seek (N 0 5 + 8000) 12 N 0); omega, by show _ ≤ msW N (j_seek (N 0 5 + 8000) 12 N 0); omega⟩ ?_
          refine lv_istore (lv' := [(4, .int (j_fullest N1 d)), (3, .int (nI r)), (1, .int (N 0 5 + 8000)), (2, .int d), (0, .ref f)]) hx hb d_F_seekLess_39 hl (by decide) rfl (fun ls hl => ?_)
          refine lv_iload_n hx hb d_F_seekLess_41 rfl (lv_at hl 3 rfl) ?_
          refine lv_iconst (v := 1) hx hb d_F_seekLess_42 (by decide) ?_
          refine lv_iload hx hb d_F_seekLess_43 (lv_at hl 0 rfl) ?_
          refine lv_ishl hx hb d_F_seekLess_45 ?_
          refine lv_ior hx hb d_F_seekLess_46 ?_
          refine lv_istore_n (lv' := [(2, .int (d ||| (1 <<< ((j_fullest N1 d) &&& 31)))), (4, .int (j_fullest N1 d)), (3, .int (nI r)), (1, .int (N 0 5 + 8000)), (0, .ref f)]) hx hb d_F_seekLess_47 rfl hl (by decide) rfl (fun ls hl => ?_)
          refine lv_aload_n hx hb d_F_seekLess_48 rfl (lv_at hl 4 rfl) ?_
          refine va_get (D := (dC, dI)) (ci := 4) (v := .ref (u 0)) (C := R_F) (T := T_F) (N := 1) hx hb hts in_F hown hK hP 0 rfl rfl 0 (by decide) (hts _ kfl_F_9) (fun _ h9 => h9) rfl d_F_seekLess_49 ?_
          refine lv_iload hx hb d_F_seekLess_52 (lv_at hl 1 rfl) ?_
          refine sNR (As := [.int (j_fullest N1 d)]) (rest := []) ⟨hx, hb, hml, hown, hts⟩ (c_N_heldFor l dC dI cI u N1 (j_fullest N1 d)) (cwV 1 hts (gV kml_F_25 kim_N_heldFor ksl_N_heldFor kin_N kcd_N_heldFor) rfl rfl rfl (by decide +kernel) ⟨by show 0 + 1 ≤ 6; omega, by show 8 + (2 + 11) + 0 ≤ 170; omega⟩) hP hK rfl hl.1 rfl (Nat.le_of_ble_eq_true rfl) d_F_seekLess_54 ⟨by show _ ≤ mcW N (j_seek (N 0 5 + 8000) 12 N 0); omega, by show _ ≤ msW N (j_seek (N 0 5 + 8000) 12 N 0); omega⟩ ?_
          refine lv_if_le (tgt := 66) hx hb d_F_seekLess_57 (by decide) (fun c57 => ?_) (fun c57 => ?_)
          · refine lv_iinc (v := ((nI r) + 1)) (lv' := [(3, .int ((nI r) + 1)), (2, .int (d ||| (1 <<< ((j_fullest N1 d) &&& 31)))), (4, .int (j_fullest N1 d)), (1, .int (N 0 5 + 8000)), (0, .ref f)]) hx hb d_F_seekLess_66 hl (k := 2) rfl rfl (by decide) rfl (fun ls hl => ?_)
            refine lv_goto (tgt := 16) hx hb d_F_seekLess_69 (by decide) ?_
            rw [nI_1] at hl
            exact ih _ (r + 1) _ u H locs hu hN1 (by omega) (by rw [hr0, j_seek, if_neg c31, if_pos c57]) hP hD hS ls (lv_sub hl [0, 3, 1, 4] rfl)
          · refine lv_aload_n hx hb d_F_seekLess_60 rfl (lv_at hl 4 rfl) ?_
            refine lv_iload hx hb d_F_seekLess_61 (lv_at hl 1 rfl) ?_
            obtain ⟨w9, hw9, ew9⟩ := fullest_v c57
            have ew8 : (j_fullest N1 d).toNatClampNeg = w9 := by rw [ew9]; exact nI_clamp (by omega)
            have hw8 : (j_fullest N1 d).toNatClampNeg < 12 := by omega
            have hs1 := sift_sle hN1.1 hw8
            have hs2 : sle (j_sift N1 (j_fullest N1 d).toNatClampNeg) (j_seek (N 0 5 + 8000) 12 N 0) := by
              rw [hr0, j_seek, if_neg c31, if_neg c57]
              exact seek_sle _ n _ _ hs1.1
            obtain ⟨b1, b2, b3, b4⟩ := mcW_step hN1 hs1 hs2
            refine sFW (As := [.int (j_fullest N1 d)]) (rest := []) ⟨hx, hb, hml, hown, hts⟩ (c_F_sift l dC dI cI f u N1 _ (j_fullest N1 d) hN1.1 _ hw8 (by rw [ew8]; exact ew9)) (cwV 1 hts (gV kml_F_28 kim_F_sift ksl_F_sift kin_F kcd_F_sift) rfl rfl rfl (by decide +kernel) ⟨by show 5 + 1 ≤ 6; omega, by show 8 + (7 + 11) + 140 ≤ 170; omega⟩) hP hK hD hS hA rfl hl.1 rfl (Nat.le_of_ble_eq_true rfl) d_F_seekLess_63 ⟨by show _ ≤ mcW N (j_seek (N 0 5 + 8000) 12 N 0); omega, by show _ ≤ msW N (j_seek (N 0 5 + 8000) 12 N 0); omega⟩ (fun u2 H locs hu2 hP hD hS => ?_)
            refine W.cs (cells' := mcW N (j_sift N1 (j_fullest N1 d).toNatClampNeg)) (slots' := msW N (j_sift N1 (j_fullest N1 d).toNatClampNeg)) b1 b2 ?_
            have hu := hu2.trans hu
            have hN2 := sle_tr hN1 hs1
            refine lv_iinc (v := ((nI r) + 1)) (lv' := [(3, .int ((nI r) + 1)), (2, .int (d ||| (1 <<< ((j_fullest N1 d) &&& 31)))), (4, .int (j_fullest N1 d)), (1, .int (N 0 5 + 8000)), (0, .ref f)]) hx hb d_F_seekLess_66 hl (k := 2) rfl rfl (by decide) rfl (fun ls hl => ?_)
            refine lv_goto (tgt := 16) hx hb d_F_seekLess_69 (by decide) ?_
            rw [nI_1] at hl
            exact ih _ (r + 1) _ u2 H locs hu hN2 (by omega) (by rw [hr0, j_seek, if_neg c31, if_neg c57]) hP hD hS ls (lv_sub hl [0, 3, 1, 4] rfl)
  refine lv_aload_n hx hb d_F_seekLess_0 rfl (lv_at hl 0 rfl) ?_
  refine va_get (D := (dC, dI)) (ci := 4) (v := .ref (a 0)) (C := R_F) (T := T_F) (N := 1) hx hb hts in_F hown hK hP 0 rfl rfl 0 (by decide) (hts _ kfl_F_9) (fun _ h9 => h9) rfl d_F_seekLess_1 ?_
  refine sNR (As := []) (rest := []) ⟨hx, hb, hml, hown, hts⟩ (c_N_rewritten l dC dI cI a N ) (cwV 0 hts (gV kml_F_15 kim_N_rewritten ksl_N_rewritten kin_N kcd_N_rewritten) rfl rfl rfl (by decide +kernel) ⟨by show 0 + 1 ≤ 6; omega, by show 8 + (1 + 11) + 0 ≤ 170; omega⟩) hP hK rfl hl.1 rfl (Nat.le_of_ble_eq_true rfl) d_F_seekLess_4 ⟨by show mcW N N ≤ _; unfold mcW; omega, by show msW N N ≤ _; unfold msW; omega⟩ ?_
  refine lv_sipush (v := 8000) hx hb d_F_seekLess_7 (by decide) ?_
  refine lv_iadd hx hb d_F_seekLess_10 ?_
  refine lv_istore_n (lv' := [(1, .int ((N 0 5) + 8000)), (0, .ref f)]) hx hb d_F_seekLess_11 rfl hl (by decide) rfl (fun ls hl => ?_)
  refine lv_iconst (v := 0) hx hb d_F_seekLess_12 (by decide) ?_
  refine lv_istore_n (lv' := [(2, .int 0), (1, .int ((N 0 5) + 8000)), (0, .ref f)]) hx hb d_F_seekLess_13 rfl hl (by decide) rfl (fun ls hl => ?_)
  refine lv_iconst (v := 0) hx hb d_F_seekLess_14 (by decide) ?_
  refine lv_istore_n (lv' := [(3, .int 0), (2, .int 0), (1, .int ((N 0 5) + 8000)), (0, .ref f)]) hx hb d_F_seekLess_15 rfl hl (by decide) rfl (fun ls hl => ?_)
  exact loop 12 N 0 0 a s.heap [] rfl (sle_rf hN) (by omega) rfl hP hD hS ls (lv_sub hl [0, 2, 1, 3] rfl)
