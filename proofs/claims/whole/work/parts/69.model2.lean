/-! THE REFERENCE: its methods, 2 -/
set_option maxHeartbeats 8000000 in
set_option maxRecDepth 100000 in
theorem c_R_choose (l : Launch) (dC : Nat → ClassId) (dI : Nat → Nat → Nat) (cZ : ClassId) (y : Nat → Nat) (fa : Int32) (F : Nat → Nat → Bool) (g h : Nat → Bool) (sz : Nat) (i f1 f2 f3 : Nat) (hi : i < 32) (h1 : f1 < 32) (h2 : f2 < 32) (h3 : f3 < 32) : Met l y_R_choose (.code y_R_choose b_R_choose 6 (some .boolean) :: W0) ({ frames := 2, cells := 0, slots := 0, locals := 60 } : Room) (va_Pc [.ref (y 0), .int (nI i), .int (nI f1), .int (nI f2), .int (nI f3)] (dM dC dI cZ y fa F g h sz)) (va_Qi (fun (x : Int32) (_ : (Nat → Bool) × (Nat → Bool)) => x = zb (dif (F i) (fun w => if F f1 w then F f2 w else F f3 w) 4096)) (fun u t => dE dC dI cZ y 0 (fp F i 4096 (fun w => if F f1 w then F f2 w else F f3 w)) u.1 u.2 (va_A (dW cZ y fa F g h) sz) t) (va_A (dW cZ y fa F g h) sz)) 0 0 (va_A (dW cZ y fa F g h) sz) := by
  refine Met.ofW (cc := b_R_choose) (maxL := 6) (ret := (some .boolean)) (by decide) rfl ?_
  intro p e s m args below meth c s₁ B hml hv
  obtain ⟨rfl, hsz, hP, hK, hD0⟩ := hv
  have hx := B.exec
  have hb := B.bytes
  have hr := B.returns
  have hts1 := atoms_spec (ws := .code y_R_choose b_R_choose 6 (some .boolean) :: W0) B.pre
  have hts : ∀ w ∈ W0, w.before _ s = true := fun w h => hts1 w (List.mem_cons_of_mem _ h)
  have hown : s.vm.findClass R_R = some m.cls := findClass_of_methodNamed B.named
  have hlocks := B.notSynchronized
  subst hsz
  have hD := hD0.self (sz := s.heap.size)
  generalize hAe : va_A (dW cZ y fa F g h) s.heap.size = A at hD ⊢
  have hA : ∀ q : Nat, s.heap.size ≤ q → A q := fun q h => by rw [← hAe]; exact Or.inr h
  have hS : va_S A s.heap s.heap [] := va_S.rf
  have hP : va_P (dC, dI) cls0 (dW cZ y fa F g h) s.heap := hP
  have hl := lv_entry ([.ref (y 0), .int (nI i), .int (nI f1), .int (nI f2), .int (nI f3)]) (n := 6) (Nat.le_of_ble_eq_true rfl)
  rw [lg_entry_eq]
  generalize (lg_sl ([.ref (y 0), .int (nI i), .int (nI f1), .int (nI f2), .int (nI f3)]) ++ List.replicate (6 - (lg_sl ([.ref (y 0), .int (nI i), .int (nI f1), .int (nI f2), .int (nI f3)])).length) Slot.unset).toArray = ls at hl ⊢
  have hl : lv_has ls 6 [(0, .ref (y 0)), (1, .int (nI i)), (2, .int (nI f1)), (3, .int (nI f2)), (4, .int (nI f3))] := hl
  have loop : ∀ (n j : Nat) (H : Heap) (locs : List Loc), va_P (dC, dI) cls0 (dW cZ y 0 F (gp g j (fun w => if F f1 w then F f2 w else F f3 w)) h) H → va_D A (dW cZ y 0 F (gp g j (fun w => if F f1 w then F f2 w else F f3 w)) h) → va_S A s.heap H locs → j + n = 4096 → ∀ (ls : Array Slot), lv_has ls 6 [(5, .int (nI j)), (1, .int (nI i)), (2, .int (nI f1)), (3, .int (nI f2)), (4, .int (nI f3)), (0, .ref (y 0))] → W p l e (headSpec (.code y_R_choose b_R_choose 6 (some .boolean) :: W0) ({ frames := 2, cells := 0, slots := 0, locals := 60 } : Room)).room s m ([.ref (y 0), .int (nI i), .int (nI f1), .int (nI f2), .int (nI f3)] : List Value).toArray below meth c H locs 0 0 (MQ below (va_Qi (fun (x : Int32) (_ : (Nat → Bool) × (Nat → Bool)) => x = zb (dif (F i) (fun w => if F f1 w then F f2 w else F f3 w) 4096)) (fun u t => dE dC dI cZ y 0 (fp F i 4096 (fun w => if F f1 w then F f2 w else F f3 w)) u.1 u.2 A t) A) ([.ref (y 0), .int (nI i), .int (nI f1), .int (nI f2), .int (nI f3)] : List Value).toArray s 0 0 A) (F0 m 55 ls []) := by
    intro n
    induction n with
    | zero =>
      intro j H locs hP hD hS hj ls hl
      have hj2 : j = 4096 := by omega
      subst hj2
      refine lv_iload hx hb d_R_choose_55 (lv_at hl 0 rfl) ?_
      refine lv_sipush (v := 4096) hx hb d_R_choose_57 (by decide) ?_
      refine lv_icmp_ge (tgt := 104) hx hb d_R_choose_60 (by decide) (fun c60 => ?_) (fun c60 => ?_)
      · refine lv_aload_n hx hb d_R_choose_104 rfl (lv_at hl 5 rfl) ?_
        refine lv_iload_n hx hb d_R_choose_105 rfl (lv_at hl 1 rfl) ?_
        refine dRi (As := [.int (nI i)]) (rest := []) ⟨hx, hb, hml, hown, hts⟩ (c_R_keep l dC dI cZ y 0 F (gp g 4096 (fun w => if F f1 w then F f2 w else F f3 w)) h _ i (by omega)) (cwV 1 hts (gV kml_R_35 kim_R_keep ksl_R_keep kin_R kcd_R_keep) rfl rfl rfl (by decide +kernel) ⟨by show 0 + 1 ≤ 2; omega, by show 8 + (4 + 11) + 0 ≤ 60; omega⟩) hP hK hD hS hA rfl hl.1 rfl (Nat.le_of_ble_eq_true rfl) d_R_choose_106 ⟨Nat.zero_le _, Nat.zero_le _⟩ (fun H locs hP hD hS => ?_)
        rw [fp_gp] at hP hD
        rw [dif_gp 4096 (Nat.le_refl _)]
        exact W.zret (ty := .boolean) (v := (zb (dif (F i) (fun w => if F f1 w then F f2 w else F f3 w) 4096))) hx hb hr (zb_nw _) (fun t ht hW => ⟨⟨zb (dif (F i) (fun w => if F f1 w then F f2 w else F f3 w) 4096), (gp g 4096 (fun w => if F f1 w then F f2 w else F f3 w), h), rfl, rfl, by rw [ht]; exact hP, va_K.moved hW.alike hK, hD⟩, hS.F ht⟩) hS.2.2 d_R_choose_109
      · exact absurd (Int32.le_refl _) c60
    | succ n ihloop =>
      intro j H locs hP hD hS hj ls hl
      refine lv_iload hx hb d_R_choose_55 (lv_at hl 0 rfl) ?_
      refine lv_sipush (v := 4096) hx hb d_R_choose_57 (by decide) ?_
      refine lv_icmp_ge (tgt := 104) hx hb d_R_choose_60 (by decide) (fun c60 => ?_) (fun c60 => ?_)
      · exact absurd c60 (nI_ge (b := 4096) (by omega) (by omega))
      · refine lv_aload_n hx hb d_R_choose_63 rfl (lv_at hl 5 rfl) ?_
        refine va_get (D := (dC, dI)) (ci := 5) (v := .ref (y 2)) (C := R_R) (T := T_R) (N := 4) hx hb hts in_R hown hK hP 0 rfl rfl 2 (by decide) (hts _ kfl_R_14) (fun _ h9 => h9) rfl d_R_choose_64 ?_
        refine lv_iload hx hb d_R_choose_67 (lv_at hl 0 rfl) ?_
        refine lv_aload_n hx hb d_R_choose_69 rfl (lv_at hl 5 rfl) ?_
        refine lv_iload_n hx hb d_R_choose_70 rfl (lv_at hl 2 rfl) ?_
        refine lv_iload hx hb d_R_choose_71 (lv_at hl 0 rfl) ?_
        refine dRR (As := [.int (nI f1), .int (nI j)]) (rest := [.int (nI j), .ref (y 2)]) ⟨hx, hb, hml, hown, hts⟩ (c_R_at l dC dI cZ y 0 F (gp g j (fun w => if F f1 w then F f2 w else F f3 w)) h f1 j (by omega) (by omega)) (cwV 2 hts (gV kml_R_32 kim_R_at ksl_R_at kin_R kcd_R_at) rfl rfl rfl (by decide +kernel) ⟨by show 0 + 1 ≤ 2; omega, by show 8 + (3 + 11) + 0 ≤ 60; omega⟩) hP hK rfl hl.1 rfl (Nat.le_of_ble_eq_true rfl) d_R_choose_73 ⟨Nat.zero_le _, Nat.zero_le _⟩ ?_
        refine lv_if_eq (tgt := 89) hx hb d_R_choose_76 (by decide) (fun c76 => ?_) (fun c76 => ?_)
        · refine lv_aload_n hx hb d_R_choose_89 rfl (lv_at hl 5 rfl) ?_
          refine lv_iload hx hb d_R_choose_90 (lv_at hl 4 rfl) ?_
          refine lv_iload hx hb d_R_choose_92 (lv_at hl 0 rfl) ?_
          refine dRR (As := [.int (nI f3), .int (nI j)]) (rest := [.int (nI j), .ref (y 2)]) ⟨hx, hb, hml, hown, hts⟩ (c_R_at l dC dI cZ y 0 F (gp g j (fun w => if F f1 w then F f2 w else F f3 w)) h f3 j (by omega) (by omega)) (cwV 2 hts (gV kml_R_32 kim_R_at ksl_R_at kin_R kcd_R_at) rfl rfl rfl (by decide +kernel) ⟨by show 0 + 1 ≤ 2; omega, by show 8 + (3 + 11) + 0 ≤ 60; omega⟩) hP hK rfl hl.1 rfl (Nat.le_of_ble_eq_true rfl) d_R_choose_94 ⟨Nat.zero_le _, Nat.zero_le _⟩ ?_
          refine lv_topi (fun xv exv => ?_)
          rw [show xv = zb ((fun w => if F f1 w then F f2 w else F f3 w) j) from exv.trans (show (zb (F f3 j) : Int32) = zb (if F f1 j then F f2 j else F f3 j) from (by revert c76; generalize F f1 j = b0, F f2 j = b1, F f3 j = b2; revert b0 b1 b2; decide))]
          refine va_zast hx hb hK hP hD hS 2 0 rfl rfl (vp_in_nI (by omega) (by decide)) d_R_choose_97 (fun H locs hP hD hS => ?_)
          rw [mI_up g (fun w => if F f1 w then F f2 w else F f3 w) (n := j) (by omega)] at hP hD
          refine lv_iinc (v := ((nI j) + 1)) (lv' := [(5, .int ((nI j) + 1)), (1, .int (nI i)), (2, .int (nI f1)), (3, .int (nI f2)), (4, .int (nI f3)), (0, .ref (y 0))]) hx hb d_R_choose_98 hl (k := 0) rfl rfl (by decide) rfl (fun ls hl => ?_)
          refine lv_goto (tgt := 55) hx hb d_R_choose_101 (by decide) ?_
          rw [nI_1] at hl
          exact ihloop (j + 1) H locs hP hD hS (by omega) ls (lv_sub hl [0, 1, 2, 3, 4, 5] rfl)
        · refine lv_aload_n hx hb d_R_choose_79 rfl (lv_at hl 5 rfl) ?_
          refine lv_iload_n hx hb d_R_choose_80 rfl (lv_at hl 3 rfl) ?_
          refine lv_iload hx hb d_R_choose_81 (lv_at hl 0 rfl) ?_
          refine dRR (As := [.int (nI f2), .int (nI j)]) (rest := [.int (nI j), .ref (y 2)]) ⟨hx, hb, hml, hown, hts⟩ (c_R_at l dC dI cZ y 0 F (gp g j (fun w => if F f1 w then F f2 w else F f3 w)) h f2 j (by omega) (by omega)) (cwV 2 hts (gV kml_R_32 kim_R_at ksl_R_at kin_R kcd_R_at) rfl rfl rfl (by decide +kernel) ⟨by show 0 + 1 ≤ 2; omega, by show 8 + (3 + 11) + 0 ≤ 60; omega⟩) hP hK rfl hl.1 rfl (Nat.le_of_ble_eq_true rfl) d_R_choose_83 ⟨Nat.zero_le _, Nat.zero_le _⟩ ?_
          refine lv_goto (tgt := 97) hx hb d_R_choose_86 (by decide) ?_
          refine lv_topi (fun xv exv => ?_)
          rw [show xv = zb ((fun w => if F f1 w then F f2 w else F f3 w) j) from exv.trans (show (zb (F f2 j) : Int32) = zb (if F f1 j then F f2 j else F f3 j) from (by revert c76; generalize F f1 j = b0, F f2 j = b1, F f3 j = b2; revert b0 b1 b2; decide))]
          refine va_zast hx hb hK hP hD hS 2 0 rfl rfl (vp_in_nI (by omega) (by decide)) d_R_choose_97 (fun H locs hP hD hS => ?_)
          rw [mI_up g (fun w => if F f1 w then F f2 w else F f3 w) (n := j) (by omega)] at hP hD
          refine lv_iinc (v := ((nI j) + 1)) (lv' := [(5, .int ((nI j) + 1)), (1, .int (nI i)), (2, .int (nI f1)), (3, .int (nI f2)), (4, .int (nI f3)), (0, .ref (y 0))]) hx hb d_R_choose_98 hl (k := 0) rfl rfl (by decide) rfl (fun ls hl => ?_)
          refine lv_goto (tgt := 55) hx hb d_R_choose_101 (by decide) ?_
          rw [nI_1] at hl
          exact ihloop (j + 1) H locs hP hD hS (by omega) ls (lv_sub hl [0, 1, 2, 3, 4, 5] rfl)
  refine lv_aload_n hx hb d_R_choose_0 rfl (lv_at hl 0 rfl) ?_
  refine lv_iconst (v := 0) hx hb d_R_choose_1 (by decide) ?_
  refine dPut hx hb hts hown hK hP hD hS d_R_choose_2 (fun H locs hP hD hS => ?_)
  refine lv_aload_n hx hb d_R_choose_5 rfl (lv_at hl 0 rfl) ?_
  refine lv_iload_n hx hb d_R_choose_6 rfl (lv_at hl 1 rfl) ?_
  refine lv_bipush (v := 32) hx hb d_R_choose_7 (by decide) ?_
  refine dRR (As := [.int (nI i), .int 32]) (rest := []) ⟨hx, hb, hml, hown, hts⟩ (c_R_out0 l dC dI cZ y 0 F g h (nI i) 32 (okb_n (n := 32) hi (by decide))) (cwV 2 hts (gV kml_R_24 kim_R_out ksl_R_out kin_R kcd_R_out) rfl rfl rfl (by decide +kernel) ⟨by show 0 + 1 ≤ 2; omega, by show 8 + (3 + 11) + 0 ≤ 60; omega⟩) hP hK rfl hl.1 rfl (Nat.le_of_ble_eq_true rfl) d_R_choose_9 ⟨Nat.zero_le _, Nat.zero_le _⟩ ?_
  refine lv_if_ne (tgt := 46) hx hb d_R_choose_12 (by decide) (fun c12 => ?_) (fun c12 => ?_)
  · exact absurd (by decide) c12
  · refine lv_aload_n hx hb d_R_choose_15 rfl (lv_at hl 0 rfl) ?_
    refine lv_iload_n hx hb d_R_choose_16 rfl (lv_at hl 2 rfl) ?_
    refine lv_bipush (v := 32) hx hb d_R_choose_17 (by decide) ?_
    refine dRR (As := [.int (nI f1), .int 32]) (rest := []) ⟨hx, hb, hml, hown, hts⟩ (c_R_out0 l dC dI cZ y 0 F g h (nI f1) 32 (okb_n (n := 32) h1 (by decide))) (cwV 2 hts (gV kml_R_24 kim_R_out ksl_R_out kin_R kcd_R_out) rfl rfl rfl (by decide +kernel) ⟨by show 0 + 1 ≤ 2; omega, by show 8 + (3 + 11) + 0 ≤ 60; omega⟩) hP hK rfl hl.1 rfl (Nat.le_of_ble_eq_true rfl) d_R_choose_19 ⟨Nat.zero_le _, Nat.zero_le _⟩ ?_
    refine lv_if_ne (tgt := 46) hx hb d_R_choose_22 (by decide) (fun c22 => ?_) (fun c22 => ?_)
    · exact absurd (by decide) c22
    · refine lv_aload_n hx hb d_R_choose_25 rfl (lv_at hl 0 rfl) ?_
      refine lv_iload_n hx hb d_R_choose_26 rfl (lv_at hl 3 rfl) ?_
      refine lv_bipush (v := 32) hx hb d_R_choose_27 (by decide) ?_
      refine dRR (As := [.int (nI f2), .int 32]) (rest := []) ⟨hx, hb, hml, hown, hts⟩ (c_R_out0 l dC dI cZ y 0 F g h (nI f2) 32 (okb_n (n := 32) h2 (by decide))) (cwV 2 hts (gV kml_R_24 kim_R_out ksl_R_out kin_R kcd_R_out) rfl rfl rfl (by decide +kernel) ⟨by show 0 + 1 ≤ 2; omega, by show 8 + (3 + 11) + 0 ≤ 60; omega⟩) hP hK rfl hl.1 rfl (Nat.le_of_ble_eq_true rfl) d_R_choose_29 ⟨Nat.zero_le _, Nat.zero_le _⟩ ?_
      refine lv_if_ne (tgt := 46) hx hb d_R_choose_32 (by decide) (fun c32 => ?_) (fun c32 => ?_)
      · exact absurd (by decide) c32
      · refine lv_aload_n hx hb d_R_choose_35 rfl (lv_at hl 0 rfl) ?_
        refine lv_iload hx hb d_R_choose_36 (lv_at hl 4 rfl) ?_
        refine lv_bipush (v := 32) hx hb d_R_choose_38 (by decide) ?_
        refine dRR (As := [.int (nI f3), .int 32]) (rest := []) ⟨hx, hb, hml, hown, hts⟩ (c_R_out0 l dC dI cZ y 0 F g h (nI f3) 32 (okb_n (n := 32) h3 (by decide))) (cwV 2 hts (gV kml_R_24 kim_R_out ksl_R_out kin_R kcd_R_out) rfl rfl rfl (by decide +kernel) ⟨by show 0 + 1 ≤ 2; omega, by show 8 + (3 + 11) + 0 ≤ 60; omega⟩) hP hK rfl hl.1 rfl (Nat.le_of_ble_eq_true rfl) d_R_choose_40 ⟨Nat.zero_le _, Nat.zero_le _⟩ ?_
        refine lv_if_eq (tgt := 52) hx hb d_R_choose_43 (by decide) (fun c43 => ?_) (fun c43 => ?_)
        · refine lv_iconst (v := 0) hx hb d_R_choose_52 (by decide) ?_
          refine lv_istore (lv' := [(5, .int 0), (0, .ref (y 0)), (1, .int (nI i)), (2, .int (nI f1)), (3, .int (nI f2)), (4, .int (nI f3))]) hx hb d_R_choose_53 hl (by decide) rfl (fun ls hl => ?_)
          rw [← gp_0 g (fun w => if F f1 w then F f2 w else F f3 w)] at hP hD
          exact loop 4096 0 _ _ hP hD hS rfl ls (lv_sub hl [0, 2, 3, 4, 5, 1] rfl)
        · exact absurd (by decide) c43

set_option maxHeartbeats 8000000 in
set_option maxRecDepth 100000 in
theorem c_R_join (l : Launch) (dC : Nat → ClassId) (dI : Nat → Nat → Nat) (cZ : ClassId) (y : Nat → Nat) (fa : Int32) (F : Nat → Nat → Bool) (g h : Nat → Bool) (sz : Nat) (i k f1 f2 : Nat) (hi : i < 32) (hk : k < 5) (h1 : f1 < 32) (h2 : f2 < 32) : Met l y_R_join (.code y_R_join b_R_join 8 (some .boolean) :: W0) ({ frames := 2, cells := 0, slots := 0, locals := 60 } : Room) (va_Pc [.ref (y 0), .int (nI i), .int (nI k), .int (nI f1), .int (nI f2)] (dM dC dI cZ y fa F g h sz)) (va_Qi (fun (x : Int32) (_ : (Nat → Bool) × (Nat → Bool)) => x = zb (dif (F i) (fun w => jn k (F f1 w) (F f2 w)) 4096)) (fun u t => dE dC dI cZ y 0 (fp F i 4096 (fun w => jn k (F f1 w) (F f2 w))) u.1 u.2 (va_A (dW cZ y fa F g h) sz) t) (va_A (dW cZ y fa F g h) sz)) 0 0 (va_A (dW cZ y fa F g h) sz) := by
  refine Met.ofW (cc := b_R_join) (maxL := 8) (ret := (some .boolean)) (by decide) rfl ?_
  intro p e s m args below meth c s₁ B hml hv
  obtain ⟨rfl, hsz, hP, hK, hD0⟩ := hv
  have hx := B.exec
  have hb := B.bytes
  have hr := B.returns
  have hts1 := atoms_spec (ws := .code y_R_join b_R_join 8 (some .boolean) :: W0) B.pre
  have hts : ∀ w ∈ W0, w.before _ s = true := fun w h => hts1 w (List.mem_cons_of_mem _ h)
  have hown : s.vm.findClass R_R = some m.cls := findClass_of_methodNamed B.named
  have hlocks := B.notSynchronized
  subst hsz
  have hD := hD0.self (sz := s.heap.size)
  generalize hAe : va_A (dW cZ y fa F g h) s.heap.size = A at hD ⊢
  have hA : ∀ q : Nat, s.heap.size ≤ q → A q := fun q h => by rw [← hAe]; exact Or.inr h
  have hS : va_S A s.heap s.heap [] := va_S.rf
  have hP : va_P (dC, dI) cls0 (dW cZ y fa F g h) s.heap := hP
  have hl := lv_entry ([.ref (y 0), .int (nI i), .int (nI k), .int (nI f1), .int (nI f2)]) (n := 8) (Nat.le_of_ble_eq_true rfl)
  rw [lg_entry_eq]
  generalize (lg_sl ([.ref (y 0), .int (nI i), .int (nI k), .int (nI f1), .int (nI f2)]) ++ List.replicate (8 - (lg_sl ([.ref (y 0), .int (nI i), .int (nI k), .int (nI f1), .int (nI f2)])).length) Slot.unset).toArray = ls at hl ⊢
  have hl : lv_has ls 8 [(0, .ref (y 0)), (1, .int (nI i)), (2, .int (nI k)), (3, .int (nI f1)), (4, .int (nI f2))] := hl
  have loop : ∀ (n j : Nat) (H : Heap) (locs : List Loc), va_P (dC, dI) cls0 (dW cZ y 0 F (gp g j (fun w => jn k (F f1 w) (F f2 w))) h) H → va_D A (dW cZ y 0 F (gp g j (fun w => jn k (F f1 w) (F f2 w))) h) → va_S A s.heap H locs → j + n = 4096 → ∀ (ls : Array Slot), lv_has ls 8 [(5, .int (nI j)), (1, .int (nI i)), (2, .int (nI k)), (3, .int (nI f1)), (4, .int (nI f2)), (0, .ref (y 0))] → W p l e (headSpec (.code y_R_join b_R_join 8 (some .boolean) :: W0) ({ frames := 2, cells := 0, slots := 0, locals := 60 } : Room)).room s m ([.ref (y 0), .int (nI i), .int (nI k), .int (nI f1), .int (nI f2)] : List Value).toArray below meth c H locs 0 0 (MQ below (va_Qi (fun (x : Int32) (_ : (Nat → Bool) × (Nat → Bool)) => x = zb (dif (F i) (fun w => jn k (F f1 w) (F f2 w)) 4096)) (fun u t => dE dC dI cZ y 0 (fp F i 4096 (fun w => jn k (F f1 w) (F f2 w))) u.1 u.2 A t) A) ([.ref (y 0), .int (nI i), .int (nI k), .int (nI f1), .int (nI f2)] : List Value).toArray s 0 0 A) (F0 m 54 ls []) := by
    intro n
    induction n with
    | zero =>
      intro j H locs hP hD hS hj ls hl
      have hj2 : j = 4096 := by omega
      subst hj2
      refine lv_iload hx hb d_R_join_54 (lv_at hl 0 rfl) ?_
      refine lv_sipush (v := 4096) hx hb d_R_join_56 (by decide) ?_
      refine lv_icmp_ge (tgt := 192) hx hb d_R_join_59 (by decide) (fun c59 => ?_) (fun c59 => ?_)
      · refine lv_aload_n hx hb d_R_join_192 rfl (lv_at hl 5 rfl) ?_
        refine lv_iload_n hx hb d_R_join_193 rfl (lv_at hl 1 rfl) ?_
        refine dRi (As := [.int (nI i)]) (rest := []) ⟨hx, hb, hml, hown, hts⟩ (c_R_keep l dC dI cZ y 0 F (gp g 4096 (fun w => jn k (F f1 w) (F f2 w))) h _ i (by omega)) (cwV 1 hts (gV kml_R_35 kim_R_keep ksl_R_keep kin_R kcd_R_keep) rfl rfl rfl (by decide +kernel) ⟨by show 0 + 1 ≤ 2; omega, by show 8 + (4 + 11) + 0 ≤ 60; omega⟩) hP hK hD hS hA rfl hl.1 rfl (Nat.le_of_ble_eq_true rfl) d_R_join_194 ⟨Nat.zero_le _, Nat.zero_le _⟩ (fun H locs hP hD hS => ?_)
        rw [fp_gp] at hP hD
        rw [dif_gp 4096 (Nat.le_refl _)]
        exact W.zret (ty := .boolean) (v := (zb (dif (F i) (fun w => jn k (F f1 w) (F f2 w)) 4096))) hx hb hr (zb_nw _) (fun t ht hW => ⟨⟨zb (dif (F i) (fun w => jn k (F f1 w) (F f2 w)) 4096), (gp g 4096 (fun w => jn k (F f1 w) (F f2 w)), h), rfl, rfl, by rw [ht]; exact hP, va_K.moved hW.alike hK, hD⟩, hS.F ht⟩) hS.2.2 d_R_join_197
      · exact absurd (Int32.le_refl _) c59
    | succ n ihloop =>
      intro j H locs hP hD hS hj ls hl
      refine lv_iload hx hb d_R_join_54 (lv_at hl 0 rfl) ?_
      refine lv_sipush (v := 4096) hx hb d_R_join_56 (by decide) ?_
      refine lv_icmp_ge (tgt := 192) hx hb d_R_join_59 (by decide) (fun c59 => ?_) (fun c59 => ?_)
      · exact absurd c59 (nI_ge (b := 4096) (by omega) (by omega))
      · refine lv_aload_n hx hb d_R_join_62 rfl (lv_at hl 5 rfl) ?_
        refine lv_iload_n hx hb d_R_join_63 rfl (lv_at hl 3 rfl) ?_
        refine lv_iload hx hb d_R_join_64 (lv_at hl 0 rfl) ?_
        refine dRR (As := [.int (nI f1), .int (nI j)]) (rest := []) ⟨hx, hb, hml, hown, hts⟩ (c_R_at l dC dI cZ y 0 F (gp g j (fun w => jn k (F f1 w) (F f2 w))) h f1 j (by omega) (by omega)) (cwV 2 hts (gV kml_R_32 kim_R_at ksl_R_at kin_R kcd_R_at) rfl rfl rfl (by decide +kernel) ⟨by show 0 + 1 ≤ 2; omega, by show 8 + (3 + 11) + 0 ≤ 60; omega⟩) hP hK rfl hl.1 rfl (Nat.le_of_ble_eq_true rfl) d_R_join_66 ⟨Nat.zero_le _, Nat.zero_le _⟩ ?_
        refine lv_istore (lv' := [(6, .int (zb (F f1 j))), (5, .int (nI j)), (1, .int (nI i)), (2, .int (nI k)), (3, .int (nI f1)), (4, .int (nI f2)), (0, .ref (y 0))]) hx hb d_R_join_69 hl (by decide) rfl (fun ls hl => ?_)
        refine lv_aload_n hx hb d_R_join_71 rfl (lv_at hl 6 rfl) ?_
        refine lv_iload hx hb d_R_join_72 (lv_at hl 5 rfl) ?_
        refine lv_iload hx hb d_R_join_74 (lv_at hl 1 rfl) ?_
        refine dRR (As := [.int (nI f2), .int (nI j)]) (rest := []) ⟨hx, hb, hml, hown, hts⟩ (c_R_at l dC dI cZ y 0 F (gp g j (fun w => jn k (F f1 w) (F f2 w))) h f2 j (by omega) (by omega)) (cwV 2 hts (gV kml_R_32 kim_R_at ksl_R_at kin_R kcd_R_at) rfl rfl rfl (by decide +kernel) ⟨by show 0 + 1 ≤ 2; omega, by show 8 + (3 + 11) + 0 ≤ 60; omega⟩) hP hK rfl hl.1 rfl (Nat.le_of_ble_eq_true rfl) d_R_join_76 ⟨Nat.zero_le _, Nat.zero_le _⟩ ?_
        refine lv_istore (lv' := [(7, .int (zb (F f2 j))), (6, .int (zb (F f1 j))), (5, .int (nI j)), (1, .int (nI i)), (2, .int (nI k)), (3, .int (nI f1)), (4, .int (nI f2)), (0, .ref (y 0))]) hx hb d_R_join_79 hl (by decide) rfl (fun ls hl => ?_)
        refine lv_aload_n hx hb d_R_join_81 rfl (lv_at hl 7 rfl) ?_
        refine va_get (D := (dC, dI)) (ci := 5) (v := .ref (y 2)) (C := R_R) (T := T_R) (N := 4) hx hb hts in_R hown hK hP 0 rfl rfl 2 (by decide) (hts _ kfl_R_14) (fun _ h9 => h9) rfl d_R_join_82 ?_
        refine lv_iload hx hb d_R_join_85 (lv_at hl 2 rfl) ?_
        refine lv_iload_n hx hb d_R_join_87 rfl (lv_at hl 4 rfl) ?_
        refine lv_if_ne (tgt := 109) hx hb d_R_join_88 (by decide) (fun c88 => ?_) (fun c88 => ?_)
        · refine lv_iload_n hx hb d_R_join_109 rfl (lv_at hl 4 rfl) ?_
          refine lv_iconst (v := 1) hx hb d_R_join_110 (by decide) ?_
          refine lv_icmp_ne (tgt := 132) hx hb d_R_join_111 (by decide) (fun c111 => ?_) (fun c111 => ?_)
          · refine lv_iload_n hx hb d_R_join_132 rfl (lv_at hl 4 rfl) ?_
            refine lv_iconst (v := 2) hx hb d_R_join_133 (by decide) ?_
            refine lv_icmp_ne (tgt := 152) hx hb d_R_join_134 (by decide) (fun c134 => ?_) (fun c134 => ?_)
            · refine lv_iload_n hx hb d_R_join_152 rfl (lv_at hl 4 rfl) ?_
              refine lv_iconst (v := 3) hx hb d_R_join_153 (by decide) ?_
              refine lv_icmp_ne (tgt := 175) hx hb d_R_join_154 (by decide) (fun c154 => ?_) (fun c154 => ?_)
              · refine lv_iload hx hb d_R_join_175 (lv_at hl 1 rfl) ?_
                refine lv_if_ne (tgt := 184) hx hb d_R_join_177 (by decide) (fun c177 => ?_) (fun c177 => ?_)
                · refine lv_iconst (v := 0) hx hb d_R_join_184 (by decide) ?_
                  refine lv_topi (fun xv exv => ?_)
                  rw [show xv = zb ((fun w => jn k (F f1 w) (F f2 w)) j) from exv.trans (show (0 : Int32) = zb (jn k (F f1 j) (F f2 j)) from (by revert c88 c111 c134 c154 c177; generalize F f1 j = b0, F f2 j = b1; revert b0 b1; rcases (show k = 0 ∨ k = 1 ∨ k = 2 ∨ k = 3 ∨ k = 4 by omega) with rfl | rfl | rfl | rfl | rfl <;> decide))]
                  refine va_zast hx hb hK hP hD hS 2 0 rfl rfl (vp_in_nI (by omega) (by decide)) d_R_join_185 (fun H locs hP hD hS => ?_)
                  rw [mI_up g (fun w => jn k (F f1 w) (F f2 w)) (n := j) (by omega)] at hP hD
                  refine lv_iinc (v := ((nI j) + 1)) (lv' := [(5, .int ((nI j) + 1)), (7, .int (zb (F f2 j))), (6, .int (zb (F f1 j))), (1, .int (nI i)), (2, .int (nI k)), (3, .int (nI f1)), (4, .int (nI f2)), (0, .ref (y 0))]) hx hb d_R_join_186 hl (k := 2) rfl rfl (by decide) rfl (fun ls hl => ?_)
                  refine lv_goto (tgt := 54) hx hb d_R_join_189 (by decide) ?_
                  rw [nI_1] at hl
                  exact ihloop (j + 1) H locs hP hD hS (by omega) ls (lv_sub hl [0, 3, 4, 5, 6, 7] rfl)
                · refine lv_iconst (v := 1) hx hb d_R_join_180 (by decide) ?_
                  refine lv_goto (tgt := 185) hx hb d_R_join_181 (by decide) ?_
                  refine lv_topi (fun xv exv => ?_)
                  rw [show xv = zb ((fun w => jn k (F f1 w) (F f2 w)) j) from exv.trans (show (1 : Int32) = zb (jn k (F f1 j) (F f2 j)) from (by revert c88 c111 c134 c154 c177; generalize F f1 j = b0, F f2 j = b1; revert b0 b1; rcases (show k = 0 ∨ k = 1 ∨ k = 2 ∨ k = 3 ∨ k = 4 by omega) with rfl | rfl | rfl | rfl | rfl <;> decide))]
                  refine va_zast hx hb hK hP hD hS 2 0 rfl rfl (vp_in_nI (by omega) (by decide)) d_R_join_185 (fun H locs hP hD hS => ?_)
                  rw [mI_up g (fun w => jn k (F f1 w) (F f2 w)) (n := j) (by omega)] at hP hD
                  refine lv_iinc (v := ((nI j) + 1)) (lv' := [(5, .int ((nI j) + 1)), (7, .int (zb (F f2 j))), (6, .int (zb (F f1 j))), (1, .int (nI i)), (2, .int (nI k)), (3, .int (nI f1)), (4, .int (nI f2)), (0, .ref (y 0))]) hx hb d_R_join_186 hl (k := 2) rfl rfl (by decide) rfl (fun ls hl => ?_)
                  refine lv_goto (tgt := 54) hx hb d_R_join_189 (by decide) ?_
                  rw [nI_1] at hl
                  exact ihloop (j + 1) H locs hP hD hS (by omega) ls (lv_sub hl [0, 3, 4, 5, 6, 7] rfl)
              · refine lv_iload hx hb d_R_join_157 (lv_at hl 1 rfl) ?_
                refine lv_if_eq (tgt := 171) hx hb d_R_join_159 (by decide) (fun c159 => ?_) (fun c159 => ?_)
                · refine lv_iconst (v := 0) hx hb d_R_join_171 (by decide) ?_
                  refine lv_goto (tgt := 185) hx hb d_R_join_172 (by decide) ?_
                  refine lv_topi (fun xv exv => ?_)
                  rw [show xv = zb ((fun w => jn k (F f1 w) (F f2 w)) j) from exv.trans (show (0 : Int32) = zb (jn k (F f1 j) (F f2 j)) from (by revert c88 c111 c134 c154 c159; generalize F f1 j = b0, F f2 j = b1; revert b0 b1; rcases (show k = 0 ∨ k = 1 ∨ k = 2 ∨ k = 3 ∨ k = 4 by omega) with rfl | rfl | rfl | rfl | rfl <;> decide))]
                  refine va_zast hx hb hK hP hD hS 2 0 rfl rfl (vp_in_nI (by omega) (by decide)) d_R_join_185 (fun H locs hP hD hS => ?_)
                  rw [mI_up g (fun w => jn k (F f1 w) (F f2 w)) (n := j) (by omega)] at hP hD
                  refine lv_iinc (v := ((nI j) + 1)) (lv' := [(5, .int ((nI j) + 1)), (7, .int (zb (F f2 j))), (6, .int (zb (F f1 j))), (1, .int (nI i)), (2, .int (nI k)), (3, .int (nI f1)), (4, .int (nI f2)), (0, .ref (y 0))]) hx hb d_R_join_186 hl (k := 2) rfl rfl (by decide) rfl (fun ls hl => ?_)
                  refine lv_goto (tgt := 54) hx hb d_R_join_189 (by decide) ?_
                  rw [nI_1] at hl
                  exact ihloop (j + 1) H locs hP hD hS (by omega) ls (lv_sub hl [0, 3, 4, 5, 6, 7] rfl)
                · refine lv_iload hx hb d_R_join_162 (lv_at hl 0 rfl) ?_
                  refine lv_if_ne (tgt := 171) hx hb d_R_join_164 (by decide) (fun c164 => ?_) (fun c164 => ?_)
                  · refine lv_iconst (v := 0) hx hb d_R_join_171 (by decide) ?_
                    refine lv_goto (tgt := 185) hx hb d_R_join_172 (by decide) ?_
                    refine lv_topi (fun xv exv => ?_)
                    rw [show xv = zb ((fun w => jn k (F f1 w) (F f2 w)) j) from exv.trans (show (0 : Int32) = zb (jn k (F f1 j) (F f2 j)) from (by revert c88 c111 c134 c154 c159 c164; generalize F f1 j = b0, F f2 j = b1; revert b0 b1; rcases (show k = 0 ∨ k = 1 ∨ k = 2 ∨ k = 3 ∨ k = 4 by omega) with rfl | rfl | rfl | rfl | rfl <;> decide))]
                    refine va_zast hx hb hK hP hD hS 2 0 rfl rfl (vp_in_nI (by omega) (by decide)) d_R_join_185 (fun H locs hP hD hS => ?_)
                    rw [mI_up g (fun w => jn k (F f1 w) (F f2 w)) (n := j) (by omega)] at hP hD
                    refine lv_iinc (v := ((nI j) + 1)) (lv' := [(5, .int ((nI j) + 1)), (7, .int (zb (F f2 j))), (6, .int (zb (F f1 j))), (1, .int (nI i)), (2, .int (nI k)), (3, .int (nI f1)), (4, .int (nI f2)), (0, .ref (y 0))]) hx hb d_R_join_186 hl (k := 2) rfl rfl (by decide) rfl (fun ls hl => ?_)
                    refine lv_goto (tgt := 54) hx hb d_R_join_189 (by decide) ?_
                    rw [nI_1] at hl
                    exact ihloop (j + 1) H locs hP hD hS (by omega) ls (lv_sub hl [0, 3, 4, 5, 6, 7] rfl)
                  · refine lv_iconst (v := 1) hx hb d_R_join_167 (by decide) ?_
                    refine lv_goto (tgt := 185) hx hb d_R_join_168 (by decide) ?_
                    refine lv_topi (fun xv exv => ?_)
                    rw [show xv = zb ((fun w => jn k (F f1 w) (F f2 w)) j) from exv.trans (show (1 : Int32) = zb (jn k (F f1 j) (F f2 j)) from (by revert c88 c111 c134 c154 c159 c164; generalize F f1 j = b0, F f2 j = b1; revert b0 b1; rcases (show k = 0 ∨ k = 1 ∨ k = 2 ∨ k = 3 ∨ k = 4 by omega) with rfl | rfl | rfl | rfl | rfl <;> decide))]
                    refine va_zast hx hb hK hP hD hS 2 0 rfl rfl (vp_in_nI (by omega) (by decide)) d_R_join_185 (fun H locs hP hD hS => ?_)
                    rw [mI_up g (fun w => jn k (F f1 w) (F f2 w)) (n := j) (by omega)] at hP hD
                    refine lv_iinc (v := ((nI j) + 1)) (lv' := [(5, .int ((nI j) + 1)), (7, .int (zb (F f2 j))), (6, .int (zb (F f1 j))), (1, .int (nI i)), (2, .int (nI k)), (3, .int (nI f1)), (4, .int (nI f2)), (0, .ref (y 0))]) hx hb d_R_join_186 hl (k := 2) rfl rfl (by decide) rfl (fun ls hl => ?_)
                    refine lv_goto (tgt := 54) hx hb d_R_join_189 (by decide) ?_
                    rw [nI_1] at hl
                    exact ihloop (j + 1) H locs hP hD hS (by omega) ls (lv_sub hl [0, 3, 4, 5, 6, 7] rfl)
            · refine lv_iload hx hb d_R_join_137 (lv_at hl 1 rfl) ?_
              refine lv_iload hx hb d_R_join_139 (lv_at hl 0 rfl) ?_
              refine lv_icmp_eq (tgt := 148) hx hb d_R_join_141 (by decide) (fun c141 => ?_) (fun c141 => ?_)
              · refine lv_iconst (v := 0) hx hb d_R_join_148 (by decide) ?_
                refine lv_goto (tgt := 185) hx hb d_R_join_149 (by decide) ?_
                refine lv_topi (fun xv exv => ?_)
                rw [show xv = zb ((fun w => jn k (F f1 w) (F f2 w)) j) from exv.trans (show (0 : Int32) = zb (jn k (F f1 j) (F f2 j)) from (by revert c88 c111 c134 c141; generalize F f1 j = b0, F f2 j = b1; revert b0 b1; rcases (show k = 0 ∨ k = 1 ∨ k = 2 ∨ k = 3 ∨ k = 4 by omega) with rfl | rfl | rfl | rfl | rfl <;> decide))]
                refine va_zast hx hb hK hP hD hS 2 0 rfl rfl (vp_in_nI (by omega) (by decide)) d_R_join_185 (fun H locs hP hD hS => ?_)
                rw [mI_up g (fun w => jn k (F f1 w) (F f2 w)) (n := j) (by omega)] at hP hD
                refine lv_iinc (v := ((nI j) + 1)) (lv' := [(5, .int ((nI j) + 1)), (7, .int (zb (F f2 j))), (6, .int (zb (F f1 j))), (1, .int (nI i)), (2, .int (nI k)), (3, .int (nI f1)), (4, .int (nI f2)), (0, .ref (y 0))]) hx hb d_R_join_186 hl (k := 2) rfl rfl (by decide) rfl (fun ls hl => ?_)
                refine lv_goto (tgt := 54) hx hb d_R_join_189 (by decide) ?_
                rw [nI_1] at hl
                exact ihloop (j + 1) H locs hP hD hS (by omega) ls (lv_sub hl [0, 3, 4, 5, 6, 7] rfl)
              · refine lv_iconst (v := 1) hx hb d_R_join_144 (by decide) ?_
                refine lv_goto (tgt := 185) hx hb d_R_join_145 (by decide) ?_
                refine lv_topi (fun xv exv => ?_)
                rw [show xv = zb ((fun w => jn k (F f1 w) (F f2 w)) j) from exv.trans (show (1 : Int32) = zb (jn k (F f1 j) (F f2 j)) from (by revert c88 c111 c134 c141; generalize F f1 j = b0, F f2 j = b1; revert b0 b1; rcases (show k = 0 ∨ k = 1 ∨ k = 2 ∨ k = 3 ∨ k = 4 by omega) with rfl | rfl | rfl | rfl | rfl <;> decide))]
                refine va_zast hx hb hK hP hD hS 2 0 rfl rfl (vp_in_nI (by omega) (by decide)) d_R_join_185 (fun H locs hP hD hS => ?_)
                rw [mI_up g (fun w => jn k (F f1 w) (F f2 w)) (n := j) (by omega)] at hP hD
                refine lv_iinc (v := ((nI j) + 1)) (lv' := [(5, .int ((nI j) + 1)), (7, .int (zb (F f2 j))), (6, .int (zb (F f1 j))), (1, .int (nI i)), (2, .int (nI k)), (3, .int (nI f1)), (4, .int (nI f2)), (0, .ref (y 0))]) hx hb d_R_join_186 hl (k := 2) rfl rfl (by decide) rfl (fun ls hl => ?_)
                refine lv_goto (tgt := 54) hx hb d_R_join_189 (by decide) ?_
                rw [nI_1] at hl
                exact ihloop (j + 1) H locs hP hD hS (by omega) ls (lv_sub hl [0, 3, 4, 5, 6, 7] rfl)
          · refine lv_iload hx hb d_R_join_114 (lv_at hl 1 rfl) ?_
            refine lv_if_ne (tgt := 124) hx hb d_R_join_116 (by decide) (fun c116 => ?_) (fun c116 => ?_)
            · refine lv_iconst (v := 1) hx hb d_R_join_124 (by decide) ?_
              refine lv_goto (tgt := 185) hx hb d_R_join_125 (by decide) ?_
              refine lv_topi (fun xv exv => ?_)
              rw [show xv = zb ((fun w => jn k (F f1 w) (F f2 w)) j) from exv.trans (show (1 : Int32) = zb (jn k (F f1 j) (F f2 j)) from (by revert c88 c111 c116; generalize F f1 j = b0, F f2 j = b1; revert b0 b1; rcases (show k = 0 ∨ k = 1 ∨ k = 2 ∨ k = 3 ∨ k = 4 by omega) with rfl | rfl | rfl | rfl | rfl <;> decide))]
              refine va_zast hx hb hK hP hD hS 2 0 rfl rfl (vp_in_nI (by omega) (by decide)) d_R_join_185 (fun H locs hP hD hS => ?_)
              rw [mI_up g (fun w => jn k (F f1 w) (F f2 w)) (n := j) (by omega)] at hP hD
              refine lv_iinc (v := ((nI j) + 1)) (lv' := [(5, .int ((nI j) + 1)), (7, .int (zb (F f2 j))), (6, .int (zb (F f1 j))), (1, .int (nI i)), (2, .int (nI k)), (3, .int (nI f1)), (4, .int (nI f2)), (0, .ref (y 0))]) hx hb d_R_join_186 hl (k := 2) rfl rfl (by decide) rfl (fun ls hl => ?_)
              refine lv_goto (tgt := 54) hx hb d_R_join_189 (by decide) ?_
              rw [nI_1] at hl
              exact ihloop (j + 1) H locs hP hD hS (by omega) ls (lv_sub hl [0, 3, 4, 5, 6, 7] rfl)
            · refine lv_iload hx hb d_R_join_119 (lv_at hl 0 rfl) ?_
              refine lv_if_eq (tgt := 128) hx hb d_R_join_121 (by decide) (fun c121 => ?_) (fun c121 => ?_)
              · refine lv_iconst (v := 0) hx hb d_R_join_128 (by decide) ?_
                refine lv_goto (tgt := 185) hx hb d_R_join_129 (by decide) ?_
                refine lv_topi (fun xv exv => ?_)
                rw [show xv = zb ((fun w => jn k (F f1 w) (F f2 w)) j) from exv.trans (show (0 : Int32) = zb (jn k (F f1 j) (F f2 j)) from (by revert c88 c111 c116 c121; generalize F f1 j = b0, F f2 j = b1; revert b0 b1; rcases (show k = 0 ∨ k = 1 ∨ k = 2 ∨ k = 3 ∨ k = 4 by omega) with rfl | rfl | rfl | rfl | rfl <;> decide))]
                refine va_zast hx hb hK hP hD hS 2 0 rfl rfl (vp_in_nI (by omega) (by decide)) d_R_join_185 (fun H locs hP hD hS => ?_)
                rw [mI_up g (fun w => jn k (F f1 w) (F f2 w)) (n := j) (by omega)] at hP hD
                refine lv_iinc (v := ((nI j) + 1)) (lv' := [(5, .int ((nI j) + 1)), (7, .int (zb (F f2 j))), (6, .int (zb (F f1 j))), (1, .int (nI i)), (2, .int (nI k)), (3, .int (nI f1)), (4, .int (nI f2)), (0, .ref (y 0))]) hx hb d_R_join_186 hl (k := 2) rfl rfl (by decide) rfl (fun ls hl => ?_)
                refine lv_goto (tgt := 54) hx hb d_R_join_189 (by decide) ?_
                rw [nI_1] at hl
                exact ihloop (j + 1) H locs hP hD hS (by omega) ls (lv_sub hl [0, 3, 4, 5, 6, 7] rfl)
              · refine lv_iconst (v := 1) hx hb d_R_join_124 (by decide) ?_
                refine lv_goto (tgt := 185) hx hb d_R_join_125 (by decide) ?_
                refine lv_topi (fun xv exv => ?_)
                rw [show xv = zb ((fun w => jn k (F f1 w) (F f2 w)) j) from exv.trans (show (1 : Int32) = zb (jn k (F f1 j) (F f2 j)) from (by revert c88 c111 c116 c121; generalize F f1 j = b0, F f2 j = b1; revert b0 b1; rcases (show k = 0 ∨ k = 1 ∨ k = 2 ∨ k = 3 ∨ k = 4 by omega) with rfl | rfl | rfl | rfl | rfl <;> decide))]
                refine va_zast hx hb hK hP hD hS 2 0 rfl rfl (vp_in_nI (by omega) (by decide)) d_R_join_185 (fun H locs hP hD hS => ?_)
                rw [mI_up g (fun w => jn k (F f1 w) (F f2 w)) (n := j) (by omega)] at hP hD
                refine lv_iinc (v := ((nI j) + 1)) (lv' := [(5, .int ((nI j) + 1)), (7, .int (zb (F f2 j))), (6, .int (zb (F f1 j))), (1, .int (nI i)), (2, .int (nI k)), (3, .int (nI f1)), (4, .int (nI f2)), (0, .ref (y 0))]) hx hb d_R_join_186 hl (k := 2) rfl rfl (by decide) rfl (fun ls hl => ?_)
                refine lv_goto (tgt := 54) hx hb d_R_join_189 (by decide) ?_
                rw [nI_1] at hl
                exact ihloop (j + 1) H locs hP hD hS (by omega) ls (lv_sub hl [0, 3, 4, 5, 6, 7] rfl)
        · refine lv_iload hx hb d_R_join_91 (lv_at hl 1 rfl) ?_
          refine lv_if_eq (tgt := 105) hx hb d_R_join_93 (by decide) (fun c93 => ?_) (fun c93 => ?_)
          · refine lv_iconst (v := 0) hx hb d_R_join_105 (by decide) ?_
            refine lv_goto (tgt := 185) hx hb d_R_join_106 (by decide) ?_
            refine lv_topi (fun xv exv => ?_)
            rw [show xv = zb ((fun w => jn k (F f1 w) (F f2 w)) j) from exv.trans (show (0 : Int32) = zb (jn k (F f1 j) (F f2 j)) from (by revert c88 c93; generalize F f1 j = b0, F f2 j = b1; revert b0 b1; rcases (show k = 0 ∨ k = 1 ∨ k = 2 ∨ k = 3 ∨ k = 4 by omega) with rfl | rfl | rfl | rfl | rfl <;> decide))]
            refine va_zast hx hb hK hP hD hS 2 0 rfl rfl (vp_in_nI (by omega) (by decide)) d_R_join_185 (fun H locs hP hD hS => ?_)
            rw [mI_up g (fun w => jn k (F f1 w) (F f2 w)) (n := j) (by omega)] at hP hD
            refine lv_iinc (v := ((nI j) + 1)) (lv' := [(5, .int ((nI j) + 1)), (7, .int (zb (F f2 j))), (6, .int (zb (F f1 j))), (1, .int (nI i)), (2, .int (nI k)), (3, .int (nI f1)), (4, .int (nI f2)), (0, .ref (y 0))]) hx hb d_R_join_186 hl (k := 2) rfl rfl (by decide) rfl (fun ls hl => ?_)
            refine lv_goto (tgt := 54) hx hb d_R_join_189 (by decide) ?_
            rw [nI_1] at hl
            exact ihloop (j + 1) H locs hP hD hS (by omega) ls (lv_sub hl [0, 3, 4, 5, 6, 7] rfl)
          · refine lv_iload hx hb d_R_join_96 (lv_at hl 0 rfl) ?_
            refine lv_if_eq (tgt := 105) hx hb d_R_join_98 (by decide) (fun c98 => ?_) (fun c98 => ?_)
            · refine lv_iconst (v := 0) hx hb d_R_join_105 (by decide) ?_
              refine lv_goto (tgt := 185) hx hb d_R_join_106 (by decide) ?_
              refine lv_topi (fun xv exv => ?_)
              rw [show xv = zb ((fun w => jn k (F f1 w) (F f2 w)) j) from exv.trans (show (0 : Int32) = zb (jn k (F f1 j) (F f2 j)) from (by revert c88 c93 c98; generalize F f1 j = b0, F f2 j = b1; revert b0 b1; rcases (show k = 0 ∨ k = 1 ∨ k = 2 ∨ k = 3 ∨ k = 4 by omega) with rfl | rfl | rfl | rfl | rfl <;> decide))]
              refine va_zast hx hb hK hP hD hS 2 0 rfl rfl (vp_in_nI (by omega) (by decide)) d_R_join_185 (fun H locs hP hD hS => ?_)
              rw [mI_up g (fun w => jn k (F f1 w) (F f2 w)) (n := j) (by omega)] at hP hD
              refine lv_iinc (v := ((nI j) + 1)) (lv' := [(5, .int ((nI j) + 1)), (7, .int (zb (F f2 j))), (6, .int (zb (F f1 j))), (1, .int (nI i)), (2, .int (nI k)), (3, .int (nI f1)), (4, .int (nI f2)), (0, .ref (y 0))]) hx hb d_R_join_186 hl (k := 2) rfl rfl (by decide) rfl (fun ls hl => ?_)
              refine lv_goto (tgt := 54) hx hb d_R_join_189 (by decide) ?_
              rw [nI_1] at hl
              exact ihloop (j + 1) H locs hP hD hS (by omega) ls (lv_sub hl [0, 3, 4, 5, 6, 7] rfl)
            · refine lv_iconst (v := 1) hx hb d_R_join_101 (by decide) ?_
              refine lv_goto (tgt := 185) hx hb d_R_join_102 (by decide) ?_
              refine lv_topi (fun xv exv => ?_)
              rw [show xv = zb ((fun w => jn k (F f1 w) (F f2 w)) j) from exv.trans (show (1 : Int32) = zb (jn k (F f1 j) (F f2 j)) from (by revert c88 c93 c98; generalize F f1 j = b0, F f2 j = b1; revert b0 b1; rcases (show k = 0 ∨ k = 1 ∨ k = 2 ∨ k = 3 ∨ k = 4 by omega) with rfl | rfl | rfl | rfl | rfl <;> decide))]
              refine va_zast hx hb hK hP hD hS 2 0 rfl rfl (vp_in_nI (by omega) (by decide)) d_R_join_185 (fun H locs hP hD hS => ?_)
              rw [mI_up g (fun w => jn k (F f1 w) (F f2 w)) (n := j) (by omega)] at hP hD
              refine lv_iinc (v := ((nI j) + 1)) (lv' := [(5, .int ((nI j) + 1)), (7, .int (zb (F f2 j))), (6, .int (zb (F f1 j))), (1, .int (nI i)), (2, .int (nI k)), (3, .int (nI f1)), (4, .int (nI f2)), (0, .ref (y 0))]) hx hb d_R_join_186 hl (k := 2) rfl rfl (by decide) rfl (fun ls hl => ?_)
              refine lv_goto (tgt := 54) hx hb d_R_join_189 (by decide) ?_
              rw [nI_1] at hl
              exact ihloop (j + 1) H locs hP hD hS (by omega) ls (lv_sub hl [0, 3, 4, 5, 6, 7] rfl)
  refine lv_aload_n hx hb d_R_join_0 rfl (lv_at hl 0 rfl) ?_
  refine lv_iconst (v := 0) hx hb d_R_join_1 (by decide) ?_
  refine dPut hx hb hts hown hK hP hD hS d_R_join_2 (fun H locs hP hD hS => ?_)
  refine lv_aload_n hx hb d_R_join_5 rfl (lv_at hl 0 rfl) ?_
  refine lv_iload_n hx hb d_R_join_6 rfl (lv_at hl 1 rfl) ?_
  refine lv_bipush (v := 32) hx hb d_R_join_7 (by decide) ?_
  refine dRR (As := [.int (nI i), .int 32]) (rest := []) ⟨hx, hb, hml, hown, hts⟩ (c_R_out0 l dC dI cZ y 0 F g h (nI i) 32 (okb_n (n := 32) hi (by decide))) (cwV 2 hts (gV kml_R_24 kim_R_out ksl_R_out kin_R kcd_R_out) rfl rfl rfl (by decide +kernel) ⟨by show 0 + 1 ≤ 2; omega, by show 8 + (3 + 11) + 0 ≤ 60; omega⟩) hP hK rfl hl.1 rfl (Nat.le_of_ble_eq_true rfl) d_R_join_9 ⟨Nat.zero_le _, Nat.zero_le _⟩ ?_
  refine lv_if_ne (tgt := 45) hx hb d_R_join_12 (by decide) (fun c12 => ?_) (fun c12 => ?_)
  · exact absurd (by decide) c12
  · refine lv_aload_n hx hb d_R_join_15 rfl (lv_at hl 0 rfl) ?_
    refine lv_iload_n hx hb d_R_join_16 rfl (lv_at hl 2 rfl) ?_
    refine lv_iconst (v := 5) hx hb d_R_join_17 (by decide) ?_
    refine dRR (As := [.int (nI k), .int 5]) (rest := []) ⟨hx, hb, hml, hown, hts⟩ (c_R_out0 l dC dI cZ y 0 F g h (nI k) 5 (okb_n (n := 5) hk (by decide))) (cwV 2 hts (gV kml_R_24 kim_R_out ksl_R_out kin_R kcd_R_out) rfl rfl rfl (by decide +kernel) ⟨by show 0 + 1 ≤ 2; omega, by show 8 + (3 + 11) + 0 ≤ 60; omega⟩) hP hK rfl hl.1 rfl (Nat.le_of_ble_eq_true rfl) d_R_join_18 ⟨Nat.zero_le _, Nat.zero_le _⟩ ?_
    refine lv_if_ne (tgt := 45) hx hb d_R_join_21 (by decide) (fun c21 => ?_) (fun c21 => ?_)
    · exact absurd (by decide) c21
    · refine lv_aload_n hx hb d_R_join_24 rfl (lv_at hl 0 rfl) ?_
      refine lv_iload_n hx hb d_R_join_25 rfl (lv_at hl 3 rfl) ?_
      refine lv_bipush (v := 32) hx hb d_R_join_26 (by decide) ?_
      refine dRR (As := [.int (nI f1), .int 32]) (rest := []) ⟨hx, hb, hml, hown, hts⟩ (c_R_out0 l dC dI cZ y 0 F g h (nI f1) 32 (okb_n (n := 32) h1 (by decide))) (cwV 2 hts (gV kml_R_24 kim_R_out ksl_R_out kin_R kcd_R_out) rfl rfl rfl (by decide +kernel) ⟨by show 0 + 1 ≤ 2; omega, by show 8 + (3 + 11) + 0 ≤ 60; omega⟩) hP hK rfl hl.1 rfl (Nat.le_of_ble_eq_true rfl) d_R_join_28 ⟨Nat.zero_le _, Nat.zero_le _⟩ ?_
      refine lv_if_ne (tgt := 45) hx hb d_R_join_31 (by decide) (fun c31 => ?_) (fun c31 => ?_)
      · exact absurd (by decide) c31
      · refine lv_aload_n hx hb d_R_join_34 rfl (lv_at hl 0 rfl) ?_
        refine lv_iload hx hb d_R_join_35 (lv_at hl 4 rfl) ?_
        refine lv_bipush (v := 32) hx hb d_R_join_37 (by decide) ?_
        refine dRR (As := [.int (nI f2), .int 32]) (rest := []) ⟨hx, hb, hml, hown, hts⟩ (c_R_out0 l dC dI cZ y 0 F g h (nI f2) 32 (okb_n (n := 32) h2 (by decide))) (cwV 2 hts (gV kml_R_24 kim_R_out ksl_R_out kin_R kcd_R_out) rfl rfl rfl (by decide +kernel) ⟨by show 0 + 1 ≤ 2; omega, by show 8 + (3 + 11) + 0 ≤ 60; omega⟩) hP hK rfl hl.1 rfl (Nat.le_of_ble_eq_true rfl) d_R_join_39 ⟨Nat.zero_le _, Nat.zero_le _⟩ ?_
        refine lv_if_eq (tgt := 51) hx hb d_R_join_42 (by decide) (fun c42 => ?_) (fun c42 => ?_)
        · refine lv_iconst (v := 0) hx hb d_R_join_51 (by decide) ?_
          refine lv_istore (lv' := [(5, .int 0), (0, .ref (y 0)), (1, .int (nI i)), (2, .int (nI k)), (3, .int (nI f1)), (4, .int (nI f2))]) hx hb d_R_join_52 hl (by decide) rfl (fun ls hl => ?_)
          rw [← gp_0 g (fun w => jn k (F f1 w) (F f2 w))] at hP hD
          exact loop 4096 0 _ _ hP hD hS rfl ls (lv_sub hl [0, 2, 3, 4, 5, 1] rfl)
        · exact absurd (by decide) c42

set_option maxHeartbeats 8000000 in
set_option maxRecDepth 100000 in
theorem c_R_turn (l : Launch) (dC : Nat → ClassId) (dI : Nat → Nat → Nat) (cZ : ClassId) (y : Nat → Nat) (fa : Int32) (F : Nat → Nat → Bool) (g h : Nat → Bool) (sz : Nat) (i f1 : Nat) (hi : i < 32) (h1 : f1 < 32) : Met l y_R_turn (.code y_R_turn b_R_turn 4 (some .boolean) :: W0) ({ frames := 2, cells := 0, slots := 0, locals := 60 } : Room) (va_Pc [.ref (y 0), .int (nI i), .int (nI f1)] (dM dC dI cZ y fa F g h sz)) (va_Qi (fun (x : Int32) (_ : (Nat → Bool) × (Nat → Bool)) => x = zb (dif (F i) (fun w => F f1 (tw w)) 4096)) (fun u t => dE dC dI cZ y 0 (fp F i 4096 (fun w => F f1 (tw w))) u.1 u.2 (va_A (dW cZ y fa F g h) sz) t) (va_A (dW cZ y fa F g h) sz)) 0 0 (va_A (dW cZ y fa F g h) sz) := by
  refine Met.ofW (cc := b_R_turn) (maxL := 4) (ret := (some .boolean)) (by decide) rfl ?_
  intro p e s m args below meth c s₁ B hml hv
  obtain ⟨rfl, hsz, hP, hK, hD0⟩ := hv
  have hx := B.exec
  have hb := B.bytes
  have hr := B.returns
  have hts1 := atoms_spec (ws := .code y_R_turn b_R_turn 4 (some .boolean) :: W0) B.pre
  have hts : ∀ w ∈ W0, w.before _ s = true := fun w h => hts1 w (List.mem_cons_of_mem _ h)
  have hown : s.vm.findClass R_R = some m.cls := findClass_of_methodNamed B.named
  have hlocks := B.notSynchronized
  subst hsz
  have hD := hD0.self (sz := s.heap.size)
  generalize hAe : va_A (dW cZ y fa F g h) s.heap.size = A at hD ⊢
  have hA : ∀ q : Nat, s.heap.size ≤ q → A q := fun q h => by rw [← hAe]; exact Or.inr h
  have hS : va_S A s.heap s.heap [] := va_S.rf
  have hP : va_P (dC, dI) cls0 (dW cZ y fa F g h) s.heap := hP
  have hl := lv_entry ([.ref (y 0), .int (nI i), .int (nI f1)]) (n := 4) (Nat.le_of_ble_eq_true rfl)
  rw [lg_entry_eq]
  generalize (lg_sl ([.ref (y 0), .int (nI i), .int (nI f1)]) ++ List.replicate (4 - (lg_sl ([.ref (y 0), .int (nI i), .int (nI f1)])).length) Slot.unset).toArray = ls at hl ⊢
  have hl : lv_has ls 4 [(0, .ref (y 0)), (1, .int (nI i)), (2, .int (nI f1))] := hl
  have loop : ∀ (n j : Nat) (H : Heap) (locs : List Loc), va_P (dC, dI) cls0 (dW cZ y 0 F (gp g j (fun w => F f1 (tw w))) h) H → va_D A (dW cZ y 0 F (gp g j (fun w => F f1 (tw w))) h) → va_S A s.heap H locs → j + n = 4096 → ∀ (ls : Array Slot), lv_has ls 4 [(3, .int (nI j)), (1, .int (nI i)), (2, .int (nI f1)), (0, .ref (y 0))] → W p l e (headSpec (.code y_R_turn b_R_turn 4 (some .boolean) :: W0) ({ frames := 2, cells := 0, slots := 0, locals := 60 } : Room)).room s m ([.ref (y 0), .int (nI i), .int (nI f1)] : List Value).toArray below meth c H locs 0 0 (MQ below (va_Qi (fun (x : Int32) (_ : (Nat → Bool) × (Nat → Bool)) => x = zb (dif (F i) (fun w => F f1 (tw w)) 4096)) (fun u t => dE dC dI cZ y 0 (fp F i 4096 (fun w => F f1 (tw w))) u.1 u.2 A t) A) ([.ref (y 0), .int (nI i), .int (nI f1)] : List Value).toArray s 0 0 A) (F0 m 33 ls []) := by
    intro n
    induction n with
    | zero =>
      intro j H locs hP hD hS hj ls hl
      have hj2 : j = 4096 := by omega
      subst hj2
      refine lv_iload_n hx hb d_R_turn_33 rfl (lv_at hl 0 rfl) ?_
      refine lv_sipush (v := 4096) hx hb d_R_turn_34 (by decide) ?_
      refine lv_icmp_ge (tgt := 72) hx hb d_R_turn_37 (by decide) (fun c37 => ?_) (fun c37 => ?_)
      · refine lv_aload_n hx hb d_R_turn_72 rfl (lv_at hl 3 rfl) ?_
        refine lv_iload_n hx hb d_R_turn_73 rfl (lv_at hl 1 rfl) ?_
        refine dRi (As := [.int (nI i)]) (rest := []) ⟨hx, hb, hml, hown, hts⟩ (c_R_keep l dC dI cZ y 0 F (gp g 4096 (fun w => F f1 (tw w))) h _ i (by omega)) (cwV 1 hts (gV kml_R_35 kim_R_keep ksl_R_keep kin_R kcd_R_keep) rfl rfl rfl (by decide +kernel) ⟨by show 0 + 1 ≤ 2; omega, by show 8 + (4 + 11) + 0 ≤ 60; omega⟩) hP hK hD hS hA rfl hl.1 rfl (Nat.le_of_ble_eq_true rfl) d_R_turn_74 ⟨Nat.zero_le _, Nat.zero_le _⟩ (fun H locs hP hD hS => ?_)
        rw [fp_gp] at hP hD
        rw [dif_gp 4096 (Nat.le_refl _)]
        exact W.zret (ty := .boolean) (v := (zb (dif (F i) (fun w => F f1 (tw w)) 4096))) hx hb hr (zb_nw _) (fun t ht hW => ⟨⟨zb (dif (F i) (fun w => F f1 (tw w)) 4096), (gp g 4096 (fun w => F f1 (tw w)), h), rfl, rfl, by rw [ht]; exact hP, va_K.moved hW.alike hK, hD⟩, hS.F ht⟩) hS.2.2 d_R_turn_77
      · exact absurd (Int32.le_refl _) c37
    | succ n ihloop =>
      intro j H locs hP hD hS hj ls hl
      refine lv_iload_n hx hb d_R_turn_33 rfl (lv_at hl 0 rfl) ?_
      refine lv_sipush (v := 4096) hx hb d_R_turn_34 (by decide) ?_
      refine lv_icmp_ge (tgt := 72) hx hb d_R_turn_37 (by decide) (fun c37 => ?_) (fun c37 => ?_)
      · exact absurd c37 (nI_ge (b := 4096) (by omega) (by omega))
      · refine lv_aload_n hx hb d_R_turn_40 rfl (lv_at hl 3 rfl) ?_
        refine va_get (D := (dC, dI)) (ci := 5) (v := .ref (y 2)) (C := R_R) (T := T_R) (N := 4) hx hb hts in_R hown hK hP 0 rfl rfl 2 (by decide) (hts _ kfl_R_14) (fun _ h9 => h9) rfl d_R_turn_41 ?_
        refine lv_iload_n hx hb d_R_turn_44 rfl (lv_at hl 0 rfl) ?_
        refine lv_aload_n hx hb d_R_turn_45 rfl (lv_at hl 3 rfl) ?_
        refine lv_iload_n hx hb d_R_turn_46 rfl (lv_at hl 2 rfl) ?_
        refine lv_iload_n hx hb d_R_turn_47 rfl (lv_at hl 0 rfl) ?_
        refine lv_sipush (v := 1365) hx hb d_R_turn_48 (by decide) ?_
        refine lv_iand hx hb d_R_turn_51 ?_
        refine lv_iconst (v := 2) hx hb d_R_turn_52 (by decide) ?_
        refine lv_imul hx hb d_R_turn_53 ?_
        refine lv_iload_n hx hb d_R_turn_54 rfl (lv_at hl 0 rfl) ?_
        refine lv_iconst (v := 1) hx hb d_R_turn_55 (by decide) ?_
        refine lv_ishr hx hb d_R_turn_56 ?_
        refine lv_sipush (v := 1365) hx hb d_R_turn_57 (by decide) ?_
        refine lv_iand hx hb d_R_turn_60 ?_
        refine lv_iadd hx hb d_R_turn_61 ?_
        rw [tw_e (w := j) (by omega)]
        refine dRR (As := [.int (nI f1), .int (nI (tw j))]) (rest := [.int (nI j), .ref (y 2)]) ⟨hx, hb, hml, hown, hts⟩ (c_R_at l dC dI cZ y 0 F (gp g j (fun w => F f1 (tw w))) h f1 (tw j) (by omega) (tw_lt j)) (cwV 2 hts (gV kml_R_32 kim_R_at ksl_R_at kin_R kcd_R_at) rfl rfl rfl (by decide +kernel) ⟨by show 0 + 1 ≤ 2; omega, by show 8 + (3 + 11) + 0 ≤ 60; omega⟩) hP hK rfl hl.1 rfl (Nat.le_of_ble_eq_true rfl) d_R_turn_62 ⟨Nat.zero_le _, Nat.zero_le _⟩ ?_
        refine lv_topi (fun xv exv => ?_)
        rw [show xv = zb ((fun w => F f1 (tw w)) j) from exv.trans (show (zb (F f1 (tw j)) : Int32) = zb (F f1 (tw j)) from rfl)]
        refine va_zast hx hb hK hP hD hS 2 0 rfl rfl (vp_in_nI (by omega) (by decide)) d_R_turn_65 (fun H locs hP hD hS => ?_)
        rw [mI_up g (fun w => F f1 (tw w)) (n := j) (by omega)] at hP hD
        refine lv_iinc (v := ((nI j) + 1)) (lv' := [(3, .int ((nI j) + 1)), (1, .int (nI i)), (2, .int (nI f1)), (0, .ref (y 0))]) hx hb d_R_turn_66 hl (k := 0) rfl rfl (by decide) rfl (fun ls hl => ?_)
        refine lv_goto (tgt := 33) hx hb d_R_turn_69 (by decide) ?_
        rw [nI_1] at hl
        exact ihloop (j + 1) H locs hP hD hS (by omega) ls (lv_sub hl [0, 1, 2, 3] rfl)
  refine lv_aload_n hx hb d_R_turn_0 rfl (lv_at hl 0 rfl) ?_
  refine lv_iconst (v := 0) hx hb d_R_turn_1 (by decide) ?_
  refine dPut hx hb hts hown hK hP hD hS d_R_turn_2 (fun H locs hP hD hS => ?_)
  refine lv_aload_n hx hb d_R_turn_5 rfl (lv_at hl 0 rfl) ?_
  refine lv_iload_n hx hb d_R_turn_6 rfl (lv_at hl 1 rfl) ?_
  refine lv_bipush (v := 32) hx hb d_R_turn_7 (by decide) ?_
  refine dRR (As := [.int (nI i), .int 32]) (rest := []) ⟨hx, hb, hml, hown, hts⟩ (c_R_out0 l dC dI cZ y 0 F g h (nI i) 32 (okb_n (n := 32) hi (by decide))) (cwV 2 hts (gV kml_R_24 kim_R_out ksl_R_out kin_R kcd_R_out) rfl rfl rfl (by decide +kernel) ⟨by show 0 + 1 ≤ 2; omega, by show 8 + (3 + 11) + 0 ≤ 60; omega⟩) hP hK rfl hl.1 rfl (Nat.le_of_ble_eq_true rfl) d_R_turn_9 ⟨Nat.zero_le _, Nat.zero_le _⟩ ?_
  refine lv_if_ne (tgt := 25) hx hb d_R_turn_12 (by decide) (fun c12 => ?_) (fun c12 => ?_)
  · exact absurd (by decide) c12
  · refine lv_aload_n hx hb d_R_turn_15 rfl (lv_at hl 0 rfl) ?_
    refine lv_iload_n hx hb d_R_turn_16 rfl (lv_at hl 2 rfl) ?_
    refine lv_bipush (v := 32) hx hb d_R_turn_17 (by decide) ?_
    refine dRR (As := [.int (nI f1), .int 32]) (rest := []) ⟨hx, hb, hml, hown, hts⟩ (c_R_out0 l dC dI cZ y 0 F g h (nI f1) 32 (okb_n (n := 32) h1 (by decide))) (cwV 2 hts (gV kml_R_24 kim_R_out ksl_R_out kin_R kcd_R_out) rfl rfl rfl (by decide +kernel) ⟨by show 0 + 1 ≤ 2; omega, by show 8 + (3 + 11) + 0 ≤ 60; omega⟩) hP hK rfl hl.1 rfl (Nat.le_of_ble_eq_true rfl) d_R_turn_19 ⟨Nat.zero_le _, Nat.zero_le _⟩ ?_
    refine lv_if_eq (tgt := 31) hx hb d_R_turn_22 (by decide) (fun c22 => ?_) (fun c22 => ?_)
    · refine lv_iconst (v := 0) hx hb d_R_turn_31 (by decide) ?_
      refine lv_istore_n (lv' := [(3, .int 0), (0, .ref (y 0)), (1, .int (nI i)), (2, .int (nI f1))]) hx hb d_R_turn_32 rfl hl (by decide) rfl (fun ls hl => ?_)
      rw [← gp_0 g (fun w => F f1 (tw w))] at hP hD
      exact loop 4096 0 _ _ hP hD hS rfl ls (lv_sub hl [0, 2, 3, 1] rfl)
    · exact absurd (by decide) c22

set_option maxHeartbeats 8000000 in
set_option maxRecDepth 100000 in
theorem c_R_some (l : Launch) (dC : Nat → ClassId) (dI : Nat → Nat → Nat) (cZ : ClassId) (y : Nat → Nat) (fa : Int32) (F : Nat → Nat → Bool) (g h : Nat → Bool) (sz : Nat) (i f1 f2 k : Nat) (hi : i < 32) (h1 : f1 < 32) (h2 : f2 < 32) (hk : k < 4096) : Met l y_R_some (.code y_R_some b_R_some 6 (some .boolean) :: W0) ({ frames := 2, cells := 0, slots := 0, locals := 60 } : Room) (va_Pc [.ref (y 0), .int (nI i), .int (nI f1), .int (nI f2), .int (nI k)] (dM dC dI cZ y fa F g h sz)) (va_Qi (fun (x : Int32) (_ : (Nat → Bool) × (Nat → Bool)) => x = zb (dif (F i) (fun w => sm (4095 ^^^ k) (fun w => F f1 w && F f2 w) 4096 (w &&& (4095 ^^^ k))) 4096)) (fun u t => dE dC dI cZ y 0 (fp F i 4096 (fun w => sm (4095 ^^^ k) (fun w => F f1 w && F f2 w) 4096 (w &&& (4095 ^^^ k)))) u.1 u.2 (va_A (dW cZ y fa F g h) sz) t) (va_A (dW cZ y fa F g h) sz)) 0 0 (va_A (dW cZ y fa F g h) sz) := by
  refine Met.ofW (cc := b_R_some) (maxL := 6) (ret := (some .boolean)) (by decide) rfl ?_
  intro p e s m args below meth c s₁ B hml hv
  obtain ⟨rfl, hsz, hP, hK, hD0⟩ := hv
  have hx := B.exec
  have hb := B.bytes
  have hr := B.returns
  have hts1 := atoms_spec (ws := .code y_R_some b_R_some 6 (some .boolean) :: W0) B.pre
  have hts : ∀ w ∈ W0, w.before _ s = true := fun w h => hts1 w (List.mem_cons_of_mem _ h)
  have hown : s.vm.findClass R_R = some m.cls := findClass_of_methodNamed B.named
  have hlocks := B.notSynchronized
  subst hsz
  have hD := hD0.self (sz := s.heap.size)
  generalize hAe : va_A (dW cZ y fa F g h) s.heap.size = A at hD ⊢
  have hA : ∀ q : Nat, s.heap.size ≤ q → A q := fun q h => by rw [← hAe]; exact Or.inr h
  have hS : va_S A s.heap s.heap [] := va_S.rf
  have hP : va_P (dC, dI) cls0 (dW cZ y fa F g h) s.heap := hP
  have hl := lv_entry ([.ref (y 0), .int (nI i), .int (nI f1), .int (nI f2), .int (nI k)]) (n := 6) (Nat.le_of_ble_eq_true rfl)
  rw [lg_entry_eq]
  generalize (lg_sl ([.ref (y 0), .int (nI i), .int (nI f1), .int (nI f2), .int (nI k)]) ++ List.replicate (6 - (lg_sl ([.ref (y 0), .int (nI i), .int (nI f1), .int (nI f2), .int (nI k)])).length) Slot.unset).toArray = ls at hl ⊢
  have hl : lv_has ls 6 [(0, .ref (y 0)), (1, .int (nI i)), (2, .int (nI f1)), (3, .int (nI f2)), (4, .int (nI k))] := hl
  have loop4 : ∀ (n j : Nat) (H : Heap) (locs : List Loc), va_P (dC, dI) cls0 (dW cZ y 0 F (gp (gp g 4096 (sm (4095 ^^^ k) (fun w => F f1 w && F f2 w) 4096)) j (fun w => sm (4095 ^^^ k) (fun w => F f1 w && F f2 w) 4096 (w &&& (4095 ^^^ k)))) (gp h 4096 (fun w => F f1 w && F f2 w))) H → va_D A (dW cZ y 0 F (gp (gp g 4096 (sm (4095 ^^^ k) (fun w => F f1 w && F f2 w) 4096)) j (fun w => sm (4095 ^^^ k) (fun w => F f1 w && F f2 w) 4096 (w &&& (4095 ^^^ k)))) (gp h 4096 (fun w => F f1 w && F f2 w))) → va_S A s.heap H locs → j + n = 4096 → ∀ (ls : Array Slot), lv_has ls 6 [(5, .int (nI j)), (1, .int (nI i)), (2, .int (nI f1)), (3, .int (nI f2)), (4, .int (nI k)), (0, .ref (y 0))] → W p l e (headSpec (.code y_R_some b_R_some 6 (some .boolean) :: W0) ({ frames := 2, cells := 0, slots := 0, locals := 60 } : Room)).room s m ([.ref (y 0), .int (nI i), .int (nI f1), .int (nI f2), .int (nI k)] : List Value).toArray below meth c H locs 0 0 (MQ below (va_Qi (fun (x : Int32) (_ : (Nat → Bool) × (Nat → Bool)) => x = zb (dif (F i) (fun w => sm (4095 ^^^ k) (fun w => F f1 w && F f2 w) 4096 (w &&& (4095 ^^^ k))) 4096)) (fun u t => dE dC dI cZ y 0 (fp F i 4096 (fun w => sm (4095 ^^^ k) (fun w => F f1 w && F f2 w) 4096 (w &&& (4095 ^^^ k)))) u.1 u.2 A t) A) ([.ref (y 0), .int (nI i), .int (nI f1), .int (nI f2), .int (nI k)] : List Value).toArray s 0 0 A) (F0 m 170 ls []) := by
    intro n
    induction n with
    | zero =>
      intro j H locs hP hD hS hj ls hl
      have hj2 : j = 4096 := by omega
      subst hj2
      refine lv_iload hx hb d_R_some_170 (lv_at hl 0 rfl) ?_
      refine lv_sipush (v := 4096) hx hb d_R_some_172 (by decide) ?_
      refine lv_icmp_ge (tgt := 203) hx hb d_R_some_175 (by decide) (fun c175 => ?_) (fun c175 => ?_)
      · refine lv_aload_n hx hb d_R_some_203 rfl (lv_at hl 5 rfl) ?_
        refine lv_iload_n hx hb d_R_some_204 rfl (lv_at hl 1 rfl) ?_
        refine dRi (As := [.int (nI i)]) (rest := []) ⟨hx, hb, hml, hown, hts⟩ (c_R_keep l dC dI cZ y 0 F (gp (gp g 4096 (sm (4095 ^^^ k) (fun w => F f1 w && F f2 w) 4096)) 4096 (fun w => sm (4095 ^^^ k) (fun w => F f1 w && F f2 w) 4096 (w &&& (4095 ^^^ k)))) (gp h 4096 (fun w => F f1 w && F f2 w)) _ i (by omega)) (cwV 1 hts (gV kml_R_35 kim_R_keep ksl_R_keep kin_R kcd_R_keep) rfl rfl rfl (by decide +kernel) ⟨by show 0 + 1 ≤ 2; omega, by show 8 + (4 + 11) + 0 ≤ 60; omega⟩) hP hK hD hS hA rfl hl.1 rfl (Nat.le_of_ble_eq_true rfl) d_R_some_205 ⟨Nat.zero_le _, Nat.zero_le _⟩ (fun H locs hP hD hS => ?_)
        rw [fp_gp] at hP hD
        rw [dif_gp 4096 (Nat.le_refl _)]
        exact W.zret (ty := .boolean) (v := (zb (dif (F i) (fun w => sm (4095 ^^^ k) (fun w => F f1 w && F f2 w) 4096 (w &&& (4095 ^^^ k))) 4096))) hx hb hr (zb_nw _) (fun t ht hW => ⟨⟨zb (dif (F i) (fun w => sm (4095 ^^^ k) (fun w => F f1 w && F f2 w) 4096 (w &&& (4095 ^^^ k))) 4096), (gp (gp g 4096 (sm (4095 ^^^ k) (fun w => F f1 w && F f2 w) 4096)) 4096 (fun w => sm (4095 ^^^ k) (fun w => F f1 w && F f2 w) 4096 (w &&& (4095 ^^^ k))), gp h 4096 (fun w => F f1 w && F f2 w)), rfl, rfl, by rw [ht]; exact hP, va_K.moved hW.alike hK, hD⟩, hS.F ht⟩) hS.2.2 d_R_some_208
      · exact absurd (Int32.le_refl _) c175
    | succ n ihloop4 =>
      intro j H locs hP hD hS hj ls hl
      refine lv_iload hx hb d_R_some_170 (lv_at hl 0 rfl) ?_
      refine lv_sipush (v := 4096) hx hb d_R_some_172 (by decide) ?_
      refine lv_icmp_ge (tgt := 203) hx hb d_R_some_175 (by decide) (fun c175 => ?_) (fun c175 => ?_)
      · exact absurd c175 (nI_ge (b := 4096) (by omega) (by omega))
      · refine lv_aload_n hx hb d_R_some_178 rfl (lv_at hl 5 rfl) ?_
        refine va_get (D := (dC, dI)) (ci := 5) (v := .ref (y 2)) (C := R_R) (T := T_R) (N := 4) hx hb hts in_R hown hK hP 0 rfl rfl 2 (by decide) (hts _ kfl_R_14) (fun _ h9 => h9) rfl d_R_some_179 ?_
        refine lv_iload hx hb d_R_some_182 (lv_at hl 0 rfl) ?_
        refine lv_aload_n hx hb d_R_some_184 rfl (lv_at hl 5 rfl) ?_
        refine va_get (D := (dC, dI)) (ci := 5) (v := .ref (y 2)) (C := R_R) (T := T_R) (N := 4) hx hb hts in_R hown hK hP 0 rfl rfl 2 (by decide) (hts _ kfl_R_14) (fun _ h9 => h9) rfl d_R_some_185 ?_
        refine lv_iload hx hb d_R_some_188 (lv_at hl 0 rfl) ?_
        refine lv_iload hx hb d_R_some_190 (lv_at hl 4 rfl) ?_
        refine lv_iconst (v := -1) hx hb d_R_some_192 (by decide) ?_
        refine lv_ixor hx hb d_R_some_193 ?_
        refine lv_iand hx hb d_R_some_194 ?_
        rw [am_e (w := j) (k := k) (by omega) hk]
        refine va_zald hx hb hK hP 2 0 rfl rfl (vp_in_nI (am_lt (by omega)) (by decide)) d_R_some_195 ?_
        rw [mI_at _ (w := (j &&& (4095 ^^^ k))) (am_lt (by omega))]
        refine lv_topi (fun xv exv => ?_)
        rw [show xv = zb ((fun w => sm (4095 ^^^ k) (fun w => F f1 w && F f2 w) 4096 (w &&& (4095 ^^^ k))) j) from exv.trans (show (zb ((gp (gp g 4096 (sm (4095 ^^^ k) (fun w => F f1 w && F f2 w) 4096)) j (fun w => sm (4095 ^^^ k) (fun w => F f1 w && F f2 w) 4096 (w &&& (4095 ^^^ k)))) (j &&& (4095 ^^^ k))) : Int32) = zb (sm (4095 ^^^ k) (fun w => F f1 w && F f2 w) 4096 (j &&& (4095 ^^^ k))) from (by rw [sm_rd (by omega)]))]
        refine va_zast hx hb hK hP hD hS 2 0 rfl rfl (vp_in_nI (by omega) (by decide)) d_R_some_196 (fun H locs hP hD hS => ?_)
        rw [mI_up (gp g 4096 (sm (4095 ^^^ k) (fun w => F f1 w && F f2 w) 4096)) (fun w => sm (4095 ^^^ k) (fun w => F f1 w && F f2 w) 4096 (w &&& (4095 ^^^ k))) (n := j) (by omega)] at hP hD
        refine lv_iinc (v := ((nI j) + 1)) (lv' := [(5, .int ((nI j) + 1)), (1, .int (nI i)), (2, .int (nI f1)), (3, .int (nI f2)), (4, .int (nI k)), (0, .ref (y 0))]) hx hb d_R_some_197 hl (k := 0) rfl rfl (by decide) rfl (fun ls hl => ?_)
        refine lv_goto (tgt := 170) hx hb d_R_some_200 (by decide) ?_
        rw [nI_1] at hl
        exact ihloop4 (j + 1) H locs hP hD hS (by omega) ls (lv_sub hl [0, 1, 2, 3, 4, 5] rfl)
  have loop3 : ∀ (n j : Nat) (H : Heap) (locs : List Loc), va_P (dC, dI) cls0 (dW cZ y 0 F (gp g 4096 (sm (4095 ^^^ k) (fun w => F f1 w && F f2 w) j)) (gp h 4096 (fun w => F f1 w && F f2 w))) H → va_D A (dW cZ y 0 F (gp g 4096 (sm (4095 ^^^ k) (fun w => F f1 w && F f2 w) j)) (gp h 4096 (fun w => F f1 w && F f2 w))) → va_S A s.heap H locs → j + n = 4096 → ∀ (ls : Array Slot), lv_has ls 6 [(5, .int (nI j)), (1, .int (nI i)), (2, .int (nI f1)), (3, .int (nI f2)), (4, .int (nI k)), (0, .ref (y 0))] → W p l e (headSpec (.code y_R_some b_R_some 6 (some .boolean) :: W0) ({ frames := 2, cells := 0, slots := 0, locals := 60 } : Room)).room s m ([.ref (y 0), .int (nI i), .int (nI f1), .int (nI f2), .int (nI k)] : List Value).toArray below meth c H locs 0 0 (MQ below (va_Qi (fun (x : Int32) (_ : (Nat → Bool) × (Nat → Bool)) => x = zb (dif (F i) (fun w => sm (4095 ^^^ k) (fun w => F f1 w && F f2 w) 4096 (w &&& (4095 ^^^ k))) 4096)) (fun u t => dE dC dI cZ y 0 (fp F i 4096 (fun w => sm (4095 ^^^ k) (fun w => F f1 w && F f2 w) 4096 (w &&& (4095 ^^^ k)))) u.1 u.2 A t) A) ([.ref (y 0), .int (nI i), .int (nI f1), .int (nI f2), .int (nI k)] : List Value).toArray s 0 0 A) (F0 m 130 ls []) := by
    intro n
    induction n with
    | zero =>
      intro j H locs hP hD hS hj ls hl
      have hj2 : j = 4096 := by omega
      subst hj2
      refine lv_iload hx hb d_R_some_130 (lv_at hl 0 rfl) ?_
      refine lv_sipush (v := 4096) hx hb d_R_some_132 (by decide) ?_
      refine lv_icmp_ge (tgt := 167) hx hb d_R_some_135 (by decide) (fun c135 => ?_) (fun c135 => ?_)
      · refine lv_iconst (v := 0) hx hb d_R_some_167 (by decide) ?_
        refine lv_istore (lv' := [(5, .int 0), (1, .int (nI i)), (2, .int (nI f1)), (3, .int (nI f2)), (4, .int (nI k)), (0, .ref (y 0))]) hx hb d_R_some_168 hl (by decide) rfl (fun ls hl => ?_)
        rw [← gp_0 (gp g 4096 (sm (4095 ^^^ k) (fun w => F f1 w && F f2 w) 4096)) (fun w => sm (4095 ^^^ k) (fun w => F f1 w && F f2 w) 4096 (w &&& (4095 ^^^ k)))] at hP hD
        exact loop4 4096 0 _ _ hP hD hS rfl ls (lv_sub hl [0, 1, 2, 3, 4, 5] rfl)
      · exact absurd (Int32.le_refl _) c135
    | succ n ihloop3 =>
      intro j H locs hP hD hS hj ls hl
      refine lv_iload hx hb d_R_some_130 (lv_at hl 0 rfl) ?_
      refine lv_sipush (v := 4096) hx hb d_R_some_132 (by decide) ?_
      refine lv_icmp_ge (tgt := 167) hx hb d_R_some_135 (by decide) (fun c135 => ?_) (fun c135 => ?_)
      · exact absurd c135 (nI_ge (b := 4096) (by omega) (by omega))
      · refine lv_aload_n hx hb d_R_some_138 rfl (lv_at hl 5 rfl) ?_
        refine va_get (D := (dC, dI)) (ci := 5) (v := .ref (y 3)) (C := R_R) (T := T_R) (N := 4) hx hb hts in_R hown hK hP 0 rfl rfl 3 (by decide) (hts _ kfl_R_17) (fun _ h9 => h9) rfl d_R_some_139 ?_
        refine lv_iload hx hb d_R_some_142 (lv_at hl 0 rfl) ?_
        refine va_zald hx hb hK hP 3 0 rfl rfl (vp_in_nI (by omega) (by decide)) d_R_some_144 ?_
        rw [mI_at _ (w := j) (by omega)]
        rw [gp_lt (n := 4096) (w := j) (by omega)]
        refine lv_if_eq (tgt := 161) hx hb d_R_some_145 (by decide) (fun c145 => ?_) (fun c145 => ?_)
        · refine lv_iinc (v := ((nI j) + 1)) (lv' := [(5, .int ((nI j) + 1)), (1, .int (nI i)), (2, .int (nI f1)), (3, .int (nI f2)), (4, .int (nI k)), (0, .ref (y 0))]) hx hb d_R_some_161 hl (k := 0) rfl rfl (by decide) rfl (fun ls hl => ?_)
          refine lv_goto (tgt := 130) hx hb d_R_some_164 (by decide) ?_
          rw [← sm_no (nm := (4095 ^^^ k)) (b := (fun w => F f1 w && F f2 w)) (j := j) (zb_0.mp c145)] at hP hD
          rw [nI_1] at hl
          exact ihloop3 (j + 1) H locs hP hD hS (by omega) ls (lv_sub hl [0, 1, 2, 3, 4, 5] rfl)
        · refine lv_aload_n hx hb d_R_some_148 rfl (lv_at hl 5 rfl) ?_
          refine va_get (D := (dC, dI)) (ci := 5) (v := .ref (y 2)) (C := R_R) (T := T_R) (N := 4) hx hb hts in_R hown hK hP 0 rfl rfl 2 (by decide) (hts _ kfl_R_14) (fun _ h9 => h9) rfl d_R_some_149 ?_
          refine lv_iload hx hb d_R_some_152 (lv_at hl 0 rfl) ?_
          refine lv_iload hx hb d_R_some_154 (lv_at hl 4 rfl) ?_
          refine lv_iconst (v := -1) hx hb d_R_some_156 (by decide) ?_
          refine lv_ixor hx hb d_R_some_157 ?_
          refine lv_iand hx hb d_R_some_158 ?_
          rw [am_e (w := j) (k := k) (by omega) hk]
          refine lv_iconst (v := 1) hx hb d_R_some_159 (by decide) ?_
          refine va_zast hx hb hK hP hD hS 2 0 rfl rfl (vp_in_nI (am_lt (by omega)) (by decide)) d_R_some_160 (fun H locs hP hD hS => ?_)
          have hbj : (fun w => F f1 w && F f2 w) j = true := zb_n0 c145
          rw [sm_up (j := j) (by omega) hbj] at hP hD
          refine lv_iinc (v := ((nI j) + 1)) (lv' := [(5, .int ((nI j) + 1)), (1, .int (nI i)), (2, .int (nI f1)), (3, .int (nI f2)), (4, .int (nI k)), (0, .ref (y 0))]) hx hb d_R_some_161 hl (k := 0) rfl rfl (by decide) rfl (fun ls hl => ?_)
          refine lv_goto (tgt := 130) hx hb d_R_some_164 (by decide) ?_
          rw [nI_1] at hl
          exact ihloop3 (j + 1) H locs hP hD hS (by omega) ls (lv_sub hl [0, 1, 2, 3, 4, 5] rfl)
  have loop2 : ∀ (n j : Nat) (H : Heap) (locs : List Loc), va_P (dC, dI) cls0 (dW cZ y 0 F (gp g j (fun _ => false)) (gp h 4096 (fun w => F f1 w && F f2 w))) H → va_D A (dW cZ y 0 F (gp g j (fun _ => false)) (gp h 4096 (fun w => F f1 w && F f2 w))) → va_S A s.heap H locs → j + n = 4096 → ∀ (ls : Array Slot), lv_has ls 6 [(5, .int (nI j)), (1, .int (nI i)), (2, .int (nI f1)), (3, .int (nI f2)), (4, .int (nI k)), (0, .ref (y 0))] → W p l e (headSpec (.code y_R_some b_R_some 6 (some .boolean) :: W0) ({ frames := 2, cells := 0, slots := 0, locals := 60 } : Room)).room s m ([.ref (y 0), .int (nI i), .int (nI f1), .int (nI f2), .int (nI k)] : List Value).toArray below meth c H locs 0 0 (MQ below (va_Qi (fun (x : Int32) (_ : (Nat → Bool) × (Nat → Bool)) => x = zb (dif (F i) (fun w => sm (4095 ^^^ k) (fun w => F f1 w && F f2 w) 4096 (w &&& (4095 ^^^ k))) 4096)) (fun u t => dE dC dI cZ y 0 (fp F i 4096 (fun w => sm (4095 ^^^ k) (fun w => F f1 w && F f2 w) 4096 (w &&& (4095 ^^^ k)))) u.1 u.2 A t) A) ([.ref (y 0), .int (nI i), .int (nI f1), .int (nI f2), .int (nI k)] : List Value).toArray s 0 0 A) (F0 m 105 ls []) := by
    intro n
    induction n with
    | zero =>
      intro j H locs hP hD hS hj ls hl
      have hj2 : j = 4096 := by omega
      subst hj2
      refine lv_iload hx hb d_R_some_105 (lv_at hl 0 rfl) ?_
      refine lv_sipush (v := 4096) hx hb d_R_some_107 (by decide) ?_
      refine lv_icmp_ge (tgt := 127) hx hb d_R_some_110 (by decide) (fun c110 => ?_) (fun c110 => ?_)
      · refine lv_iconst (v := 0) hx hb d_R_some_127 (by decide) ?_
        refine lv_istore (lv' := [(5, .int 0), (1, .int (nI i)), (2, .int (nI f1)), (3, .int (nI f2)), (4, .int (nI k)), (0, .ref (y 0))]) hx hb d_R_some_128 hl (by decide) rfl (fun ls hl => ?_)
        rw [show (fun _ => false : Nat → Bool) = sm (4095 ^^^ k) (fun w => F f1 w && F f2 w) 0 from rfl] at hP hD
        exact loop3 4096 0 _ _ hP hD hS rfl ls (lv_sub hl [0, 1, 2, 3, 4, 5] rfl)
      · exact absurd (Int32.le_refl _) c110
    | succ n ihloop2 =>
      intro j H locs hP hD hS hj ls hl
      refine lv_iload hx hb d_R_some_105 (lv_at hl 0 rfl) ?_
      refine lv_sipush (v := 4096) hx hb d_R_some_107 (by decide) ?_
      refine lv_icmp_ge (tgt := 127) hx hb d_R_some_110 (by decide) (fun c110 => ?_) (fun c110 => ?_)
      · exact absurd c110 (nI_ge (b := 4096) (by omega) (by omega))
      · refine lv_aload_n hx hb d_R_some_113 rfl (lv_at hl 5 rfl) ?_
        refine va_get (D := (dC, dI)) (ci := 5) (v := .ref (y 2)) (C := R_R) (T := T_R) (N := 4) hx hb hts in_R hown hK hP 0 rfl rfl 2 (by decide) (hts _ kfl_R_14) (fun _ h9 => h9) rfl d_R_some_114 ?_
        refine lv_iload hx hb d_R_some_117 (lv_at hl 0 rfl) ?_
        refine lv_iconst (v := 0) hx hb d_R_some_119 (by decide) ?_
        refine lv_topi (fun xv exv => ?_)
        rw [show xv = zb ((fun _ => false) j) from exv.trans (show (0 : Int32) = zb (false) from rfl)]
        refine va_zast hx hb hK hP hD hS 2 0 rfl rfl (vp_in_nI (by omega) (by decide)) d_R_some_120 (fun H locs hP hD hS => ?_)
        rw [mI_up g (fun _ => false) (n := j) (by omega)] at hP hD
        refine lv_iinc (v := ((nI j) + 1)) (lv' := [(5, .int ((nI j) + 1)), (1, .int (nI i)), (2, .int (nI f1)), (3, .int (nI f2)), (4, .int (nI k)), (0, .ref (y 0))]) hx hb d_R_some_121 hl (k := 0) rfl rfl (by decide) rfl (fun ls hl => ?_)
        refine lv_goto (tgt := 105) hx hb d_R_some_124 (by decide) ?_
        rw [nI_1] at hl
        exact ihloop2 (j + 1) H locs hP hD hS (by omega) ls (lv_sub hl [0, 1, 2, 3, 4, 5] rfl)
  have loop1 : ∀ (n j : Nat) (H : Heap) (locs : List Loc), va_P (dC, dI) cls0 (dW cZ y 0 F g (gp h j (fun w => F f1 w && F f2 w))) H → va_D A (dW cZ y 0 F g (gp h j (fun w => F f1 w && F f2 w))) → va_S A s.heap H locs → j + n = 4096 → ∀ (ls : Array Slot), lv_has ls 6 [(5, .int (nI j)), (1, .int (nI i)), (2, .int (nI f1)), (3, .int (nI f2)), (4, .int (nI k)), (0, .ref (y 0))] → W p l e (headSpec (.code y_R_some b_R_some 6 (some .boolean) :: W0) ({ frames := 2, cells := 0, slots := 0, locals := 60 } : Room)).room s m ([.ref (y 0), .int (nI i), .int (nI f1), .int (nI f2), .int (nI k)] : List Value).toArray below meth c H locs 0 0 (MQ below (va_Qi (fun (x : Int32) (_ : (Nat → Bool) × (Nat → Bool)) => x = zb (dif (F i) (fun w => sm (4095 ^^^ k) (fun w => F f1 w && F f2 w) 4096 (w &&& (4095 ^^^ k))) 4096)) (fun u t => dE dC dI cZ y 0 (fp F i 4096 (fun w => sm (4095 ^^^ k) (fun w => F f1 w && F f2 w) 4096 (w &&& (4095 ^^^ k)))) u.1 u.2 A t) A) ([.ref (y 0), .int (nI i), .int (nI f1), .int (nI f2), .int (nI k)] : List Value).toArray s 0 0 A) (F0 m 56 ls []) := by
    intro n
    induction n with
    | zero =>
      intro j H locs hP hD hS hj ls hl
      have hj2 : j = 4096 := by omega
      subst hj2
      refine lv_iload hx hb d_R_some_56 (lv_at hl 0 rfl) ?_
      refine lv_sipush (v := 4096) hx hb d_R_some_58 (by decide) ?_
      refine lv_icmp_ge (tgt := 102) hx hb d_R_some_61 (by decide) (fun c61 => ?_) (fun c61 => ?_)
      · refine lv_iconst (v := 0) hx hb d_R_some_102 (by decide) ?_
        refine lv_istore (lv' := [(5, .int 0), (1, .int (nI i)), (2, .int (nI f1)), (3, .int (nI f2)), (4, .int (nI k)), (0, .ref (y 0))]) hx hb d_R_some_103 hl (by decide) rfl (fun ls hl => ?_)
        rw [← gp_0 g (fun _ => false)] at hP hD
        exact loop2 4096 0 _ _ hP hD hS rfl ls (lv_sub hl [0, 1, 2, 3, 4, 5] rfl)
      · exact absurd (Int32.le_refl _) c61
    | succ n ihloop1 =>
      intro j H locs hP hD hS hj ls hl
      refine lv_iload hx hb d_R_some_56 (lv_at hl 0 rfl) ?_
      refine lv_sipush (v := 4096) hx hb d_R_some_58 (by decide) ?_
      refine lv_icmp_ge (tgt := 102) hx hb d_R_some_61 (by decide) (fun c61 => ?_) (fun c61 => ?_)
      · exact absurd c61 (nI_ge (b := 4096) (by omega) (by omega))
      · refine lv_aload_n hx hb d_R_some_64 rfl (lv_at hl 5 rfl) ?_
        refine va_get (D := (dC, dI)) (ci := 5) (v := .ref (y 3)) (C := R_R) (T := T_R) (N := 4) hx hb hts in_R hown hK hP 0 rfl rfl 3 (by decide) (hts _ kfl_R_17) (fun _ h9 => h9) rfl d_R_some_65 ?_
        refine lv_iload hx hb d_R_some_68 (lv_at hl 0 rfl) ?_
        refine lv_aload_n hx hb d_R_some_70 rfl (lv_at hl 5 rfl) ?_
        refine lv_iload_n hx hb d_R_some_71 rfl (lv_at hl 2 rfl) ?_
        refine lv_iload hx hb d_R_some_72 (lv_at hl 0 rfl) ?_
        refine dRR (As := [.int (nI f1), .int (nI j)]) (rest := [.int (nI j), .ref (y 3)]) ⟨hx, hb, hml, hown, hts⟩ (c_R_at l dC dI cZ y 0 F g (gp h j (fun w => F f1 w && F f2 w)) f1 j (by omega) (by omega)) (cwV 2 hts (gV kml_R_32 kim_R_at ksl_R_at kin_R kcd_R_at) rfl rfl rfl (by decide +kernel) ⟨by show 0 + 1 ≤ 2; omega, by show 8 + (3 + 11) + 0 ≤ 60; omega⟩) hP hK rfl hl.1 rfl (Nat.le_of_ble_eq_true rfl) d_R_some_74 ⟨Nat.zero_le _, Nat.zero_le _⟩ ?_
        refine lv_if_eq (tgt := 94) hx hb d_R_some_77 (by decide) (fun c77 => ?_) (fun c77 => ?_)
        · refine lv_iconst (v := 0) hx hb d_R_some_94 (by decide) ?_
          refine lv_topi (fun xv exv => ?_)
          rw [show xv = zb ((fun w => F f1 w && F f2 w) j) from exv.trans (show (0 : Int32) = zb (F f1 j && F f2 j) from (by revert c77; generalize F f1 j = b0, F f2 j = b1; revert b0 b1; decide))]
          refine va_zast hx hb hK hP hD hS 3 0 rfl rfl (vp_in_nI (by omega) (by decide)) d_R_some_95 (fun H locs hP hD hS => ?_)
          rw [mI_up h (fun w => F f1 w && F f2 w) (n := j) (by omega)] at hP hD
          refine lv_iinc (v := ((nI j) + 1)) (lv' := [(5, .int ((nI j) + 1)), (1, .int (nI i)), (2, .int (nI f1)), (3, .int (nI f2)), (4, .int (nI k)), (0, .ref (y 0))]) hx hb d_R_some_96 hl (k := 0) rfl rfl (by decide) rfl (fun ls hl => ?_)
          refine lv_goto (tgt := 56) hx hb d_R_some_99 (by decide) ?_
          rw [nI_1] at hl
          exact ihloop1 (j + 1) H locs hP hD hS (by omega) ls (lv_sub hl [0, 1, 2, 3, 4, 5] rfl)
        · refine lv_aload_n hx hb d_R_some_80 rfl (lv_at hl 5 rfl) ?_
          refine lv_iload_n hx hb d_R_some_81 rfl (lv_at hl 3 rfl) ?_
          refine lv_iload hx hb d_R_some_82 (lv_at hl 0 rfl) ?_
          refine dRR (As := [.int (nI f2), .int (nI j)]) (rest := [.int (nI j), .ref (y 3)]) ⟨hx, hb, hml, hown, hts⟩ (c_R_at l dC dI cZ y 0 F g (gp h j (fun w => F f1 w && F f2 w)) f2 j (by omega) (by omega)) (cwV 2 hts (gV kml_R_32 kim_R_at ksl_R_at kin_R kcd_R_at) rfl rfl rfl (by decide +kernel) ⟨by show 0 + 1 ≤ 2; omega, by show 8 + (3 + 11) + 0 ≤ 60; omega⟩) hP hK rfl hl.1 rfl (Nat.le_of_ble_eq_true rfl) d_R_some_84 ⟨Nat.zero_le _, Nat.zero_le _⟩ ?_
          refine lv_if_eq (tgt := 94) hx hb d_R_some_87 (by decide) (fun c87 => ?_) (fun c87 => ?_)
          · refine lv_iconst (v := 0) hx hb d_R_some_94 (by decide) ?_
            refine lv_topi (fun xv exv => ?_)
            rw [show xv = zb ((fun w => F f1 w && F f2 w) j) from exv.trans (show (0 : Int32) = zb (F f1 j && F f2 j) from (by revert c77 c87; generalize F f1 j = b0, F f2 j = b1; revert b0 b1; decide))]
            refine va_zast hx hb hK hP hD hS 3 0 rfl rfl (vp_in_nI (by omega) (by decide)) d_R_some_95 (fun H locs hP hD hS => ?_)
            rw [mI_up h (fun w => F f1 w && F f2 w) (n := j) (by omega)] at hP hD
            refine lv_iinc (v := ((nI j) + 1)) (lv' := [(5, .int ((nI j) + 1)), (1, .int (nI i)), (2, .int (nI f1)), (3, .int (nI f2)), (4, .int (nI k)), (0, .ref (y 0))]) hx hb d_R_some_96 hl (k := 0) rfl rfl (by decide) rfl (fun ls hl => ?_)
            refine lv_goto (tgt := 56) hx hb d_R_some_99 (by decide) ?_
            rw [nI_1] at hl
            exact ihloop1 (j + 1) H locs hP hD hS (by omega) ls (lv_sub hl [0, 1, 2, 3, 4, 5] rfl)
          · refine lv_iconst (v := 1) hx hb d_R_some_90 (by decide) ?_
            refine lv_goto (tgt := 95) hx hb d_R_some_91 (by decide) ?_
            refine lv_topi (fun xv exv => ?_)
            rw [show xv = zb ((fun w => F f1 w && F f2 w) j) from exv.trans (show (1 : Int32) = zb (F f1 j && F f2 j) from (by revert c77 c87; generalize F f1 j = b0, F f2 j = b1; revert b0 b1; decide))]
            refine va_zast hx hb hK hP hD hS 3 0 rfl rfl (vp_in_nI (by omega) (by decide)) d_R_some_95 (fun H locs hP hD hS => ?_)
            rw [mI_up h (fun w => F f1 w && F f2 w) (n := j) (by omega)] at hP hD
            refine lv_iinc (v := ((nI j) + 1)) (lv' := [(5, .int ((nI j) + 1)), (1, .int (nI i)), (2, .int (nI f1)), (3, .int (nI f2)), (4, .int (nI k)), (0, .ref (y 0))]) hx hb d_R_some_96 hl (k := 0) rfl rfl (by decide) rfl (fun ls hl => ?_)
            refine lv_goto (tgt := 56) hx hb d_R_some_99 (by decide) ?_
            rw [nI_1] at hl
            exact ihloop1 (j + 1) H locs hP hD hS (by omega) ls (lv_sub hl [0, 1, 2, 3, 4, 5] rfl)
  refine lv_aload_n hx hb d_R_some_0 rfl (lv_at hl 0 rfl) ?_
  refine lv_iconst (v := 0) hx hb d_R_some_1 (by decide) ?_
  refine dPut hx hb hts hown hK hP hD hS d_R_some_2 (fun H locs hP hD hS => ?_)
  refine lv_aload_n hx hb d_R_some_5 rfl (lv_at hl 0 rfl) ?_
  refine lv_iload_n hx hb d_R_some_6 rfl (lv_at hl 1 rfl) ?_
  refine lv_bipush (v := 32) hx hb d_R_some_7 (by decide) ?_
  refine dRR (As := [.int (nI i), .int 32]) (rest := []) ⟨hx, hb, hml, hown, hts⟩ (c_R_out0 l dC dI cZ y 0 F g h (nI i) 32 (okb_n (n := 32) hi (by decide))) (cwV 2 hts (gV kml_R_24 kim_R_out ksl_R_out kin_R kcd_R_out) rfl rfl rfl (by decide +kernel) ⟨by show 0 + 1 ≤ 2; omega, by show 8 + (3 + 11) + 0 ≤ 60; omega⟩) hP hK rfl hl.1 rfl (Nat.le_of_ble_eq_true rfl) d_R_some_9 ⟨Nat.zero_le _, Nat.zero_le _⟩ ?_
  refine lv_if_ne (tgt := 47) hx hb d_R_some_12 (by decide) (fun c12 => ?_) (fun c12 => ?_)
  · exact absurd (by decide) c12
  · refine lv_aload_n hx hb d_R_some_15 rfl (lv_at hl 0 rfl) ?_
    refine lv_iload_n hx hb d_R_some_16 rfl (lv_at hl 2 rfl) ?_
    refine lv_bipush (v := 32) hx hb d_R_some_17 (by decide) ?_
    refine dRR (As := [.int (nI f1), .int 32]) (rest := []) ⟨hx, hb, hml, hown, hts⟩ (c_R_out0 l dC dI cZ y 0 F g h (nI f1) 32 (okb_n (n := 32) h1 (by decide))) (cwV 2 hts (gV kml_R_24 kim_R_out ksl_R_out kin_R kcd_R_out) rfl rfl rfl (by decide +kernel) ⟨by show 0 + 1 ≤ 2; omega, by show 8 + (3 + 11) + 0 ≤ 60; omega⟩) hP hK rfl hl.1 rfl (Nat.le_of_ble_eq_true rfl) d_R_some_19 ⟨Nat.zero_le _, Nat.zero_le _⟩ ?_
    refine lv_if_ne (tgt := 47) hx hb d_R_some_22 (by decide) (fun c22 => ?_) (fun c22 => ?_)
    · exact absurd (by decide) c22
    · refine lv_aload_n hx hb d_R_some_25 rfl (lv_at hl 0 rfl) ?_
      refine lv_iload_n hx hb d_R_some_26 rfl (lv_at hl 3 rfl) ?_
      refine lv_bipush (v := 32) hx hb d_R_some_27 (by decide) ?_
      refine dRR (As := [.int (nI f2), .int 32]) (rest := []) ⟨hx, hb, hml, hown, hts⟩ (c_R_out0 l dC dI cZ y 0 F g h (nI f2) 32 (okb_n (n := 32) h2 (by decide))) (cwV 2 hts (gV kml_R_24 kim_R_out ksl_R_out kin_R kcd_R_out) rfl rfl rfl (by decide +kernel) ⟨by show 0 + 1 ≤ 2; omega, by show 8 + (3 + 11) + 0 ≤ 60; omega⟩) hP hK rfl hl.1 rfl (Nat.le_of_ble_eq_true rfl) d_R_some_29 ⟨Nat.zero_le _, Nat.zero_le _⟩ ?_
      refine lv_if_ne (tgt := 47) hx hb d_R_some_32 (by decide) (fun c32 => ?_) (fun c32 => ?_)
      · exact absurd (by decide) c32
      · refine lv_aload_n hx hb d_R_some_35 rfl (lv_at hl 0 rfl) ?_
        refine lv_iload hx hb d_R_some_36 (lv_at hl 4 rfl) ?_
        refine lv_sipush (v := 4096) hx hb d_R_some_38 (by decide) ?_
        refine dRR (As := [.int (nI k), .int 4096]) (rest := []) ⟨hx, hb, hml, hown, hts⟩ (c_R_out0 l dC dI cZ y 0 F g h (nI k) 4096 (okb_n (n := 4096) hk (by decide))) (cwV 2 hts (gV kml_R_24 kim_R_out ksl_R_out kin_R kcd_R_out) rfl rfl rfl (by decide +kernel) ⟨by show 0 + 1 ≤ 2; omega, by show 8 + (3 + 11) + 0 ≤ 60; omega⟩) hP hK rfl hl.1 rfl (Nat.le_of_ble_eq_true rfl) d_R_some_41 ⟨Nat.zero_le _, Nat.zero_le _⟩ ?_
        refine lv_if_eq (tgt := 53) hx hb d_R_some_44 (by decide) (fun c44 => ?_) (fun c44 => ?_)
        · refine lv_iconst (v := 0) hx hb d_R_some_53 (by decide) ?_
          refine lv_istore (lv' := [(5, .int 0), (0, .ref (y 0)), (1, .int (nI i)), (2, .int (nI f1)), (3, .int (nI f2)), (4, .int (nI k))]) hx hb d_R_some_54 hl (by decide) rfl (fun ls hl => ?_)
          rw [← gp_0 h (fun w => F f1 w && F f2 w)] at hP hD
          exact loop1 4096 0 _ _ hP hD hS rfl ls (lv_sub hl [0, 2, 3, 4, 5, 1] rfl)
        · exact absurd (by decide) c44

set_option maxHeartbeats 8000000 in
set_option maxRecDepth 100000 in
theorem c_R_value (l : Launch) (dC : Nat → ClassId) (dI : Nat → Nat → Nat) (cZ : ClassId) (y : Nat → Nat) (fa : Int32) (F : Nat → Nat → Bool) (g h : Nat → Bool) (sz : Nat) (i w : Nat) (hi : i < 32) (hw : w < 4096) : Met l y_R_value (.code y_R_value b_R_value 3 (some .boolean) :: W0) ({ frames := 1, cells := 0, slots := 0, locals := 40 } : Room) (va_Pc [.ref (y 0), .int (nI i), .int (nI w)] (dM dC dI cZ y fa F g h sz)) (va_Qi (fun (x : Int32) (_ : (Nat → Bool) × (Nat → Bool)) => x = zb (F i w)) (fun u t => dE dC dI cZ y 0 F u.1 u.2 (va_A (dW cZ y fa F g h) sz) t) (va_A (dW cZ y fa F g h) sz)) 0 0 (va_A (dW cZ y fa F g h) sz) := by
  refine Met.ofW (cc := b_R_value) (maxL := 3) (ret := (some .boolean)) (by decide) rfl ?_
  intro p e s m args below meth c s₁ B hml hv
  obtain ⟨rfl, hsz, hP, hK, hD0⟩ := hv
  have hx := B.exec
  have hb := B.bytes
  have hr := B.returns
  have hts1 := atoms_spec (ws := .code y_R_value b_R_value 3 (some .boolean) :: W0) B.pre
  have hts : ∀ w ∈ W0, w.before _ s = true := fun w h => hts1 w (List.mem_cons_of_mem _ h)
  have hown : s.vm.findClass R_R = some m.cls := findClass_of_methodNamed B.named
  have hlocks := B.notSynchronized
  subst hsz
  have hD := hD0.self (sz := s.heap.size)
  generalize hAe : va_A (dW cZ y fa F g h) s.heap.size = A at hD ⊢
  have hA : ∀ q : Nat, s.heap.size ≤ q → A q := fun q h => by rw [← hAe]; exact Or.inr h
  have hS : va_S A s.heap s.heap [] := va_S.rf
  have hP : va_P (dC, dI) cls0 (dW cZ y fa F g h) s.heap := hP
  have hl := lv_entry ([.ref (y 0), .int (nI i), .int (nI w)]) (n := 3) (Nat.le_of_ble_eq_true rfl)
  rw [lg_entry_eq]
  generalize (lg_sl ([.ref (y 0), .int (nI i), .int (nI w)]) ++ List.replicate (3 - (lg_sl ([.ref (y 0), .int (nI i), .int (nI w)])).length) Slot.unset).toArray = ls at hl ⊢
  have hl : lv_has ls 3 [(0, .ref (y 0)), (1, .int (nI i)), (2, .int (nI w))] := hl
  refine lv_aload_n hx hb d_R_value_0 rfl (lv_at hl 0 rfl) ?_
  refine lv_iconst (v := 0) hx hb d_R_value_1 (by decide) ?_
  refine dPut hx hb hts hown hK hP hD hS d_R_value_2 (fun H locs hP hD hS => ?_)
  refine lv_aload_n hx hb d_R_value_5 rfl (lv_at hl 0 rfl) ?_
  refine lv_iload_n hx hb d_R_value_6 rfl (lv_at hl 1 rfl) ?_
  refine lv_bipush (v := 32) hx hb d_R_value_7 (by decide) ?_
  refine dRR (As := [.int (nI i), .int 32]) (rest := []) ⟨hx, hb, hml, hown, hts⟩ (c_R_out0 l dC dI cZ y 0 F g h (nI i) 32 (okb_n (n := 32) hi (by decide))) (cwV 2 hts (gV kml_R_24 kim_R_out ksl_R_out kin_R kcd_R_out) rfl rfl rfl (by decide +kernel) ⟨by show 0 + 1 ≤ 1; omega, by show 8 + (3 + 11) + 0 ≤ 40; omega⟩) hP hK rfl hl.1 rfl (Nat.le_of_ble_eq_true rfl) d_R_value_9 ⟨Nat.zero_le _, Nat.zero_le _⟩ ?_
  refine lv_if_ne (tgt := 26) hx hb d_R_value_12 (by decide) (fun c12 => ?_) (fun c12 => ?_)
  · exact absurd (by decide) c12
  · refine lv_aload_n hx hb d_R_value_15 rfl (lv_at hl 0 rfl) ?_
    refine lv_iload_n hx hb d_R_value_16 rfl (lv_at hl 2 rfl) ?_
    refine lv_sipush (v := 4096) hx hb d_R_value_17 (by decide) ?_
    refine dRR (As := [.int (nI w), .int 4096]) (rest := []) ⟨hx, hb, hml, hown, hts⟩ (c_R_out0 l dC dI cZ y 0 F g h (nI w) 4096 (okb_n (n := 4096) hw (by decide))) (cwV 2 hts (gV kml_R_24 kim_R_out ksl_R_out kin_R kcd_R_out) rfl rfl rfl (by decide +kernel) ⟨by show 0 + 1 ≤ 1; omega, by show 8 + (3 + 11) + 0 ≤ 40; omega⟩) hP hK rfl hl.1 rfl (Nat.le_of_ble_eq_true rfl) d_R_value_20 ⟨Nat.zero_le _, Nat.zero_le _⟩ ?_
    refine lv_if_eq (tgt := 32) hx hb d_R_value_23 (by decide) (fun c23 => ?_) (fun c23 => ?_)
    · refine lv_aload_n hx hb d_R_value_32 rfl (lv_at hl 0 rfl) ?_
      refine lv_iload_n hx hb d_R_value_33 rfl (lv_at hl 1 rfl) ?_
      refine lv_iload_n hx hb d_R_value_34 rfl (lv_at hl 2 rfl) ?_
      refine dRR (As := [.int (nI i), .int (nI w)]) (rest := []) ⟨hx, hb, hml, hown, hts⟩ (c_R_at l dC dI cZ y 0 F g h i w (by omega) (by omega)) (cwV 2 hts (gV kml_R_32 kim_R_at ksl_R_at kin_R kcd_R_at) rfl rfl rfl (by decide +kernel) ⟨by show 0 + 1 ≤ 1; omega, by show 8 + (3 + 11) + 0 ≤ 40; omega⟩) hP hK rfl hl.1 rfl (Nat.le_of_ble_eq_true rfl) d_R_value_35 ⟨Nat.zero_le _, Nat.zero_le _⟩ ?_
      exact W.zret (ty := .boolean) (v := (zb (F i w))) hx hb hr (zb_nw _) (fun t ht hW => ⟨⟨zb (F i w), (g, h), rfl, rfl, by rw [ht]; exact hP, va_K.moved hW.alike hK, hD⟩, hS.F ht⟩) hS.2.2 d_R_value_38
    · exact absurd (by decide) c23

theorem dif_t {f g : Nat → Bool} {n : Nat} : ∀ {m : Nat}, n < m → f n ≠ g n → dif f g m = true
  | 0, h, _ => absurd h (Nat.not_lt_zero _)
  | m + 1, h, hne => by
    show (dif f g m || (f m != g m)) = true
    by_cases c : n = m
    · subst c
      rw [bne_iff_ne.mpr hne, Bool.or_true]
    · rw [dif_t (by omega) hne, Bool.true_or]
theorem dif_f {f g : Nat → Bool} : ∀ {m : Nat}, dif f g m = false → ∀ n, n < m → f n = g n
  | 0, _, n, h => absurd h (Nat.not_lt_zero _)
  | m + 1, h, n, hn => by
    have h : (dif f g m || (f m != g m)) = false := h
    rw [Bool.or_eq_false_iff] at h
    by_cases c : n = m
    · subst c
      have := h.2
      rcases hf : f n <;> rcases hg : g n <;> simp_all
    · exact dif_f h.1 n (by omega)

set_option maxHeartbeats 8000000 in
set_option maxRecDepth 100000 in
theorem c_R_same (l : Launch) (dC : Nat → ClassId) (dI : Nat → Nat → Nat) (cZ : ClassId) (y : Nat → Nat) (fa : Int32) (F : Nat → Nat → Bool) (g h : Nat → Bool) (sz : Nat) (i f1 : Nat) (hi : i < 32) (h1 : f1 < 32) : Met l y_R_same (.code y_R_same b_R_same 4 (some .boolean) :: W0) ({ frames := 1, cells := 0, slots := 0, locals := 40 } : Room) (va_Pc [.ref (y 0), .int (nI i), .int (nI f1)] (dM dC dI cZ y fa F g h sz)) (va_Qi (fun (x : Int32) (_ : (Nat → Bool) × (Nat → Bool)) => x = zb (!dif (F i) (F f1) 4096)) (fun u t => dE dC dI cZ y 0 F u.1 u.2 (va_A (dW cZ y fa F g h) sz) t) (va_A (dW cZ y fa F g h) sz)) 0 0 (va_A (dW cZ y fa F g h) sz) := by
  refine Met.ofW (cc := b_R_same) (maxL := 4) (ret := (some .boolean)) (by decide) rfl ?_
  intro p e s m args below meth c s₁ B hml hv
  obtain ⟨rfl, hsz, hP, hK, hD0⟩ := hv
  have hx := B.exec
  have hb := B.bytes
  have hr := B.returns
  have hts1 := atoms_spec (ws := .code y_R_same b_R_same 4 (some .boolean) :: W0) B.pre
  have hts : ∀ w ∈ W0, w.before _ s = true := fun w h => hts1 w (List.mem_cons_of_mem _ h)
  have hown : s.vm.findClass R_R = some m.cls := findClass_of_methodNamed B.named
  have hlocks := B.notSynchronized
  subst hsz
  have hD := hD0.self (sz := s.heap.size)
  generalize hAe : va_A (dW cZ y fa F g h) s.heap.size = A at hD ⊢
  have hA : ∀ q : Nat, s.heap.size ≤ q → A q := fun q h => by rw [← hAe]; exact Or.inr h
  have hS : va_S A s.heap s.heap [] := va_S.rf
  have hP : va_P (dC, dI) cls0 (dW cZ y fa F g h) s.heap := hP
  have hl := lv_entry ([.ref (y 0), .int (nI i), .int (nI f1)]) (n := 4) (Nat.le_of_ble_eq_true rfl)
  rw [lg_entry_eq]
  generalize (lg_sl ([.ref (y 0), .int (nI i), .int (nI f1)]) ++ List.replicate (4 - (lg_sl ([.ref (y 0), .int (nI i), .int (nI f1)])).length) Slot.unset).toArray = ls at hl ⊢
  have hl : lv_has ls 4 [(0, .ref (y 0)), (1, .int (nI i)), (2, .int (nI f1))] := hl
  have loop : ∀ (n j : Nat) (_ : dif (F i) (F f1) j = false) (H : Heap) (locs : List Loc), va_P (dC, dI) cls0 (dW cZ y 0 F g h) H → va_D A (dW cZ y 0 F g h) → va_S A s.heap H locs → j + n = 4096 → ∀ (ls : Array Slot), lv_has ls 4 [(3, .int (nI j)), (1, .int (nI i)), (2, .int (nI f1)), (0, .ref (y 0))] → W p l e (headSpec (.code y_R_same b_R_same 4 (some .boolean) :: W0) ({ frames := 1, cells := 0, slots := 0, locals := 40 } : Room)).room s m ([.ref (y 0), .int (nI i), .int (nI f1)] : List Value).toArray below meth c H locs 0 0 (MQ below (va_Qi (fun (x : Int32) (_ : (Nat → Bool) × (Nat → Bool)) => x = zb (!dif (F i) (F f1) 4096)) (fun u t => dE dC dI cZ y 0 F u.1 u.2 A t) A) ([.ref (y 0), .int (nI i), .int (nI f1)] : List Value).toArray s 0 0 A) (F0 m 33 ls []) := by
    intro n
    induction n with
    | zero =>
      intro j hd H locs hP hD hS hj ls hl
      have hj2 : j = 4096 := by omega
      subst hj2
      refine lv_iload_n hx hb d_R_same_33 rfl (lv_at hl 0 rfl) ?_
      refine lv_sipush (v := 4096) hx hb d_R_same_34 (by decide) ?_
      refine lv_icmp_ge (tgt := 63) hx hb d_R_same_37 (by decide) (fun c37 => ?_) (fun c37 => ?_)
      · refine lv_iconst (v := 1) hx hb d_R_same_63 (by decide) ?_
        exact W.zret (ty := .boolean) (v := 1) hx hb hr rfl (fun t ht hW => ⟨⟨1, (g, h), rfl, (by rw [hd]; rfl), by rw [ht]; exact hP, va_K.moved hW.alike hK, hD⟩, hS.F ht⟩) hS.2.2 d_R_same_64
      · exact absurd (Int32.le_refl _) c37
    | succ n ihloop =>
      intro j hd H locs hP hD hS hj ls hl
      refine lv_iload_n hx hb d_R_same_33 rfl (lv_at hl 0 rfl) ?_
      refine lv_sipush (v := 4096) hx hb d_R_same_34 (by decide) ?_
      refine lv_icmp_ge (tgt := 63) hx hb d_R_same_37 (by decide) (fun c37 => ?_) (fun c37 => ?_)
      · exact absurd c37 (nI_ge (b := 4096) (by omega) (by omega))
      · refine lv_aload_n hx hb d_R_same_40 rfl (lv_at hl 3 rfl) ?_
        refine lv_iload_n hx hb d_R_same_41 rfl (lv_at hl 1 rfl) ?_
        refine lv_iload_n hx hb d_R_same_42 rfl (lv_at hl 0 rfl) ?_
        refine dRR (As := [.int (nI i), .int (nI j)]) (rest := []) ⟨hx, hb, hml, hown, hts⟩ (c_R_at l dC dI cZ y 0 F g h i j (by omega) (by omega)) (cwV 2 hts (gV kml_R_32 kim_R_at ksl_R_at kin_R kcd_R_at) rfl rfl rfl (by decide +kernel) ⟨by show 0 + 1 ≤ 1; omega, by show 8 + (3 + 11) + 0 ≤ 40; omega⟩) hP hK rfl hl.1 rfl (Nat.le_of_ble_eq_true rfl) d_R_same_43 ⟨Nat.zero_le _, Nat.zero_le _⟩ ?_
        refine lv_aload_n hx hb d_R_same_46 rfl (lv_at hl 3 rfl) ?_
        refine lv_iload_n hx hb d_R_same_47 rfl (lv_at hl 2 rfl) ?_
        refine lv_iload_n hx hb d_R_same_48 rfl (lv_at hl 0 rfl) ?_
        refine dRR (As := [.int (nI f1), .int (nI j)]) (rest := [.int (zb (F i j))]) ⟨hx, hb, hml, hown, hts⟩ (c_R_at l dC dI cZ y 0 F g h f1 j (by omega) (by omega)) (cwV 2 hts (gV kml_R_32 kim_R_at ksl_R_at kin_R kcd_R_at) rfl rfl rfl (by decide +kernel) ⟨by show 0 + 1 ≤ 1; omega, by show 8 + (3 + 11) + 0 ≤ 40; omega⟩) hP hK rfl hl.1 rfl (Nat.le_of_ble_eq_true rfl) d_R_same_49 ⟨Nat.zero_le _, Nat.zero_le _⟩ ?_
        refine lv_icmp_eq (tgt := 57) hx hb d_R_same_52 (by decide) (fun c52 => ?_) (fun c52 => ?_)
        · refine lv_iinc (v := ((nI j) + 1)) (lv' := [(3, .int ((nI j) + 1)), (1, .int (nI i)), (2, .int (nI f1)), (0, .ref (y 0))]) hx hb d_R_same_57 hl (k := 0) rfl rfl (by decide) rfl (fun ls hl => ?_)
          refine lv_goto (tgt := 33) hx hb d_R_same_60 (by decide) ?_
          rw [nI_1] at hl
          exact ihloop (j + 1) (by show (dif (F i) (F f1) j || (F i j != F f1 j)) = false; rw [hd, zb_q.mp c52]; cases F f1 j <;> rfl) H locs hP hD hS (by omega) ls (lv_sub hl [0, 1, 2, 3] rfl)
        · refine lv_iconst (v := 0) hx hb d_R_same_55 (by decide) ?_
          have hne : dif (F i) (F f1) 4096 = true := dif_t (n := j) (by omega) (fun q => c52 (by rw [q]))
          exact W.zret (ty := .boolean) (v := 0) hx hb hr rfl (fun t ht hW => ⟨⟨0, (g, h), rfl, (by rw [hne]; rfl), by rw [ht]; exact hP, va_K.moved hW.alike hK, hD⟩, hS.F ht⟩) hS.2.2 d_R_same_56
  refine lv_aload_n hx hb d_R_same_0 rfl (lv_at hl 0 rfl) ?_
  refine lv_iconst (v := 0) hx hb d_R_same_1 (by decide) ?_
  refine dPut hx hb hts hown hK hP hD hS d_R_same_2 (fun H locs hP hD hS => ?_)
  refine lv_aload_n hx hb d_R_same_5 rfl (lv_at hl 0 rfl) ?_
  refine lv_iload_n hx hb d_R_same_6 rfl (lv_at hl 1 rfl) ?_
  refine lv_bipush (v := 32) hx hb d_R_same_7 (by decide) ?_
  refine dRR (As := [.int (nI i), .int 32]) (rest := []) ⟨hx, hb, hml, hown, hts⟩ (c_R_out0 l dC dI cZ y 0 F g h (nI i) 32 (okb_n (n := 32) hi (by decide))) (cwV 2 hts (gV kml_R_24 kim_R_out ksl_R_out kin_R kcd_R_out) rfl rfl rfl (by decide +kernel) ⟨by show 0 + 1 ≤ 1; omega, by show 8 + (3 + 11) + 0 ≤ 40; omega⟩) hP hK rfl hl.1 rfl (Nat.le_of_ble_eq_true rfl) d_R_same_9 ⟨Nat.zero_le _, Nat.zero_le _⟩ ?_
  refine lv_if_ne (tgt := 25) hx hb d_R_same_12 (by decide) (fun c12 => ?_) (fun c12 => ?_)
  · exact absurd (by decide) c12
  · refine lv_aload_n hx hb d_R_same_15 rfl (lv_at hl 0 rfl) ?_
    refine lv_iload_n hx hb d_R_same_16 rfl (lv_at hl 2 rfl) ?_
    refine lv_bipush (v := 32) hx hb d_R_same_17 (by decide) ?_
    refine dRR (As := [.int (nI f1), .int 32]) (rest := []) ⟨hx, hb, hml, hown, hts⟩ (c_R_out0 l dC dI cZ y 0 F g h (nI f1) 32 (okb_n (n := 32) h1 (by decide))) (cwV 2 hts (gV kml_R_24 kim_R_out ksl_R_out kin_R kcd_R_out) rfl rfl rfl (by decide +kernel) ⟨by show 0 + 1 ≤ 1; omega, by show 8 + (3 + 11) + 0 ≤ 40; omega⟩) hP hK rfl hl.1 rfl (Nat.le_of_ble_eq_true rfl) d_R_same_19 ⟨Nat.zero_le _, Nat.zero_le _⟩ ?_
    refine lv_if_eq (tgt := 31) hx hb d_R_same_22 (by decide) (fun c22 => ?_) (fun c22 => ?_)
    · refine lv_iconst (v := 0) hx hb d_R_same_31 (by decide) ?_
      refine lv_istore_n (lv' := [(3, .int 0), (0, .ref (y 0)), (1, .int (nI i)), (2, .int (nI f1))]) hx hb d_R_same_32 rfl hl (by decide) rfl (fun ls hl => ?_)
      exact loop 4096 0 rfl _ _ hP hD hS rfl ls (lv_sub hl [0, 2, 3, 1] rfl)
    · exact absurd (by decide) c22

def hgm (f : Nat → Bool) (v j : Nat) : Int32 := if dif f (fun w => f (w ^^^ 2 ^ v)) j then hgI f v ||| ((1 : Int32) <<< (nI v &&& 31)) else hgI f v
theorem hgm_x {f : Nat → Bool} {v : Nat} : hgm f v 4096 = hgI f (v + 1) := rfl
theorem hgm_e {f : Nat → Bool} {v j : Nat} (h : f j = f (j ^^^ 2 ^ v)) : hgm f v (j + 1) = hgm f v j := by
  unfold hgm
  rw [show dif f (fun w => f (w ^^^ 2 ^ v)) (j + 1) = (dif f (fun w => f (w ^^^ 2 ^ v)) j || (f j != f (j ^^^ 2 ^ v))) from rfl, ← h, bne_self_eq_false, Bool.or_false]
theorem or_or (a b : Int32) : a ||| b ||| b = a ||| b := by
  apply Int32.toBitVec_inj.mp
  rw [Int32.toBitVec_or, Int32.toBitVec_or, BitVec.or_assoc, BitVec.or_self]
theorem hgm_n {f : Nat → Bool} {v j : Nat} (h : f j ≠ f (j ^^^ 2 ^ v)) : hgm f v (j + 1) = hgm f v j ||| ((1 : Int32) <<< (nI v &&& 31)) := by
  unfold hgm
  rw [show dif f (fun w => f (w ^^^ 2 ^ v)) (j + 1) = (dif f (fun w => f (w ^^^ 2 ^ v)) j || (f j != f (j ^^^ 2 ^ v))) from rfl, bne_iff_ne.mpr h, Bool.or_true, if_pos rfl]
  cases dif f (fun w => f (w ^^^ 2 ^ v)) j
  · rfl
  · rw [if_pos rfl, or_or]

set_option maxHeartbeats 8000000 in
set_option maxRecDepth 100000 in
theorem c_R_hangs (l : Launch) (dC : Nat → ClassId) (dI : Nat → Nat → Nat) (cZ : ClassId) (y : Nat → Nat) (fa : Int32) (F : Nat → Nat → Bool) (g h : Nat → Bool) (i : Nat) (hi : i < 32) : Met l y_R_hangs (.code y_R_hangs b_R_hangs 5 (some .int) :: W0) ({ frames := 1, cells := 0, slots := 0, locals := 40 } : Room) (va_Pc [.ref (y 0), .int (nI i)] (dR dC dI cZ y fa F g h)) (QcRead (hgI (F i) 12)) 0 0 (fun _ => False) := by
  refine Met.ofW (cc := b_R_hangs) (maxL := 5) (ret := (some .int)) (by decide) rfl ?_
  intro p e s m args below meth c s₁ B hml hv
  obtain ⟨rfl, hP, hK⟩ := hv
  have hx := B.exec
  have hb := B.bytes
  have hr := B.returns
  have hts1 := atoms_spec (ws := .code y_R_hangs b_R_hangs 5 (some .int) :: W0) B.pre
  have hts : ∀ w ∈ W0, w.before _ s = true := fun w h => hts1 w (List.mem_cons_of_mem _ h)
  have hown : s.vm.findClass R_R = some m.cls := findClass_of_methodNamed B.named
  have hlocks := B.notSynchronized
  have hl := lv_entry ([.ref (y 0), .int (nI i)]) (n := 5) (Nat.le_of_ble_eq_true rfl)
  rw [lg_entry_eq]
  generalize (lg_sl ([.ref (y 0), .int (nI i)]) ++ List.replicate (5 - (lg_sl ([.ref (y 0), .int (nI i)])).length) Slot.unset).toArray = ls at hl ⊢
  have hl : lv_has ls 5 [(0, .ref (y 0)), (1, .int (nI i))] := hl
  have lou : ∀ (n2 v : Nat), v + n2 = 12 → ∀ (ls : Array Slot), lv_has ls 5 [(3, .int (nI v)), (2, .int (hgI (F i) v)), (1, .int (nI i)), (0, .ref (y 0))] → W p l e (headSpec (.code y_R_hangs b_R_hangs 5 (some .int) :: W0) ({ frames := 1, cells := 0, slots := 0, locals := 40 } : Room)).room s m ([.ref (y 0), .int (nI i)] : List Value).toArray below meth c s.heap [] 0 0 (MQ below (QcRead (hgI (F i) 12)) ([.ref (y 0), .int (nI i)] : List Value).toArray s 0 0 (fun _ => False)) (F0 m 4 ls []) := by
    intro n2
    induction n2 with
    | zero =>
      intro v hv ls hl
      have hv2 : v = 12 := by omega
      subst hv2
      refine lv_iload_n hx hb d_R_hangs_4 rfl (lv_at hl 0 rfl) ?_
      refine lv_bipush (v := 12) hx hb d_R_hangs_5 (by decide) ?_
      refine lv_icmp_ge (tgt := 60) hx hb d_R_hangs_7 (by decide) (fun c7 => ?_) (fun c7 => ?_)
      · refine lv_iload_n hx hb d_R_hangs_60 rfl (lv_at hl 1 rfl) ?_
        exact W.iret (v := (hgI (F i) 12)) hx hb hr (fun t ht hW => ⟨by rw [show hgI (F i) 12 = hgI (F i) 12 from rfl], ht⟩) (fun q h => by cases h) d_R_hangs_61
      · exact absurd (Int32.le_refl _) c7
    | succ n2 ihlou =>
      intro v hv ls hl
      have lin : ∀ (n j : Nat), j + n = 4096 → ∀ (ls : Array Slot), lv_has ls 5 [(4, .int (nI j)), (3, .int (nI v)), (2, .int (hgm (F i) v j)), (1, .int (nI i)), (0, .ref (y 0))] → W p l e (headSpec (.code y_R_hangs b_R_hangs 5 (some .int) :: W0) ({ frames := 1, cells := 0, slots := 0, locals := 40 } : Room)).room s m ([.ref (y 0), .int (nI i)] : List Value).toArray below meth c s.heap [] 0 0 (MQ below (QcRead (hgI (F i) 12)) ([.ref (y 0), .int (nI i)] : List Value).toArray s 0 0 (fun _ => False)) (F0 m 13 ls []) := by
        intro n
        induction n with
        | zero =>
          intro j hj ls hl
          have hj2 : j = 4096 := by omega
          subst hj2
          refine lv_iload hx hb d_R_hangs_13 (lv_at hl 0 rfl) ?_
          refine lv_sipush (v := 4096) hx hb d_R_hangs_15 (by decide) ?_
          refine lv_icmp_ge (tgt := 54) hx hb d_R_hangs_18 (by decide) (fun c18 => ?_) (fun c18 => ?_)
          · refine lv_iinc (v := ((nI v) + 1)) (lv' := [(3, .int ((nI v) + 1)), (4, .int (nI 4096)), (2, .int (hgm (F i) v 4096)), (1, .int (nI i)), (0, .ref (y 0))]) hx hb d_R_hangs_54 hl (k := 1) rfl rfl (by decide) rfl (fun ls hl => ?_)
            refine lv_goto (tgt := 4) hx hb d_R_hangs_57 (by decide) ?_
            rw [nI_1] at hl
            rw [show hgm (F i) v 4096 = hgI (F i) (v + 1) from hgm_x] at hl
            exact ihlou (v + 1) (by omega) ls (lv_sub hl [0, 2, 3, 4] rfl)
          · exact absurd (Int32.le_refl _) c18
        | succ n ihlin =>
          intro j hj ls hl
          refine lv_iload hx hb d_R_hangs_13 (lv_at hl 0 rfl) ?_
          refine lv_sipush (v := 4096) hx hb d_R_hangs_15 (by decide) ?_
          refine lv_icmp_ge (tgt := 54) hx hb d_R_hangs_18 (by decide) (fun c18 => ?_) (fun c18 => ?_)
          · exact absurd c18 (nI_ge (b := 4096) (by omega) (by omega))
          · refine lv_aload_n hx hb d_R_hangs_21 rfl (lv_at hl 4 rfl) ?_
            refine lv_iload_n hx hb d_R_hangs_22 rfl (lv_at hl 3 rfl) ?_
            refine lv_iload hx hb d_R_hangs_23 (lv_at hl 0 rfl) ?_
            refine dRR (As := [.int (nI i), .int (nI j)]) (rest := []) ⟨hx, hb, hml, hown, hts⟩ (c_R_at l dC dI cZ y fa F g h i j (by omega) (by omega)) (cwV 2 hts (gV kml_R_32 kim_R_at ksl_R_at kin_R kcd_R_at) rfl rfl rfl (by decide +kernel) ⟨by show 0 + 1 ≤ 1; omega, by show 8 + (3 + 11) + 0 ≤ 40; omega⟩) hP hK rfl hl.1 rfl (Nat.le_of_ble_eq_true rfl) d_R_hangs_25 ⟨Nat.zero_le _, Nat.zero_le _⟩ ?_
            refine lv_aload_n hx hb d_R_hangs_28 rfl (lv_at hl 4 rfl) ?_
            refine lv_iload_n hx hb d_R_hangs_29 rfl (lv_at hl 3 rfl) ?_
            refine lv_iload hx hb d_R_hangs_30 (lv_at hl 0 rfl) ?_
            refine lv_iconst (v := 1) hx hb d_R_hangs_32 (by decide) ?_
            refine lv_iload_n hx hb d_R_hangs_33 rfl (lv_at hl 1 rfl) ?_
            refine lv_ishl hx hb d_R_hangs_34 ?_
            refine lv_ixor hx hb d_R_hangs_35 ?_
            rw [nx_sh (v := v) (by omega), nx_xor]
            refine dRR (As := [.int (nI i), .int (nI (j ^^^ 2 ^ v))]) (rest := [.int (zb (F i j))]) ⟨hx, hb, hml, hown, hts⟩ (c_R_at l dC dI cZ y fa F g h i (j ^^^ 2 ^ v) (by omega) (xw_lt (by omega) (by omega))) (cwV 2 hts (gV kml_R_32 kim_R_at ksl_R_at kin_R kcd_R_at) rfl rfl rfl (by decide +kernel) ⟨by show 0 + 1 ≤ 1; omega, by show 8 + (3 + 11) + 0 ≤ 40; omega⟩) hP hK rfl hl.1 rfl (Nat.le_of_ble_eq_true rfl) d_R_hangs_36 ⟨Nat.zero_le _, Nat.zero_le _⟩ ?_
            refine lv_icmp_eq (tgt := 48) hx hb d_R_hangs_39 (by decide) (fun c39 => ?_) (fun c39 => ?_)
            · refine lv_iinc (v := ((nI j) + 1)) (lv' := [(4, .int ((nI j) + 1)), (3, .int (nI v)), (2, .int (hgm (F i) v j)), (1, .int (nI i)), (0, .ref (y 0))]) hx hb d_R_hangs_48 hl (k := 0) rfl rfl (by decide) rfl (fun ls hl => ?_)
              refine lv_goto (tgt := 13) hx hb d_R_hangs_51 (by decide) ?_
              rw [nI_1] at hl
              rw [show (hgm (F i) v j : Int32) = hgm (F i) v (j + 1) from (hgm_e (zb_q.mp c39)).symm] at hl
              exact ihlin (j + 1) (by omega) ls (lv_sub hl [0, 1, 2, 3, 4] rfl)
            · refine lv_iload_n hx hb d_R_hangs_42 rfl (lv_at hl 2 rfl) ?_
              refine lv_iconst (v := 1) hx hb d_R_hangs_43 (by decide) ?_
              refine lv_iload_n hx hb d_R_hangs_44 rfl (lv_at hl 1 rfl) ?_
              refine lv_ishl hx hb d_R_hangs_45 ?_
              refine lv_ior hx hb d_R_hangs_46 ?_
              refine lv_istore_n (lv' := [(2, .int ((hgm (F i) v j) ||| (1 <<< ((nI v) &&& 31)))), (4, .int (nI j)), (3, .int (nI v)), (1, .int (nI i)), (0, .ref (y 0))]) hx hb d_R_hangs_47 rfl hl (by decide) rfl (fun ls hl => ?_)
              refine lv_iinc (v := ((nI j) + 1)) (lv' := [(4, .int ((nI j) + 1)), (2, .int ((hgm (F i) v j) ||| (1 <<< ((nI v) &&& 31)))), (3, .int (nI v)), (1, .int (nI i)), (0, .ref (y 0))]) hx hb d_R_hangs_48 hl (k := 1) rfl rfl (by decide) rfl (fun ls hl => ?_)
              refine lv_goto (tgt := 13) hx hb d_R_hangs_51 (by decide) ?_
              rw [nI_1] at hl
              rw [show ((hgm (F i) v j) ||| ((1 : Int32) <<< (nI v &&& 31)) : Int32) = hgm (F i) v (j + 1) from (hgm_n (fun q => c39 (by rw [q]))).symm] at hl
              exact ihlin (j + 1) (by omega) ls (lv_sub hl [0, 2, 1, 3, 4] rfl)
      refine lv_iload_n hx hb d_R_hangs_4 rfl (lv_at hl 0 rfl) ?_
      refine lv_bipush (v := 12) hx hb d_R_hangs_5 (by decide) ?_
      refine lv_icmp_ge (tgt := 60) hx hb d_R_hangs_7 (by decide) (fun c7 => ?_) (fun c7 => ?_)
      · exact absurd c7 (nI_ge (b := 12) (by omega) (by omega))
      · refine lv_iconst (v := 0) hx hb d_R_hangs_10 (by decide) ?_
        refine lv_istore (lv' := [(4, .int 0), (3, .int (nI v)), (2, .int (hgI (F i) v)), (1, .int (nI i)), (0, .ref (y 0))]) hx hb d_R_hangs_11 hl (by decide) rfl (fun ls hl => ?_)
        exact lin 4096 0 rfl ls (lv_sub hl [0, 1, 2, 3, 4] rfl)
  refine lv_iconst (v := 0) hx hb d_R_hangs_0 (by decide) ?_
  refine lv_istore_n (lv' := [(2, .int 0), (0, .ref (y 0)), (1, .int (nI i))]) hx hb d_R_hangs_1 rfl hl (by decide) rfl (fun ls hl => ?_)
  refine lv_iconst (v := 0) hx hb d_R_hangs_2 (by decide) ?_
  refine lv_istore_n (lv' := [(3, .int 0), (2, .int 0), (0, .ref (y 0)), (1, .int (nI i))]) hx hb d_R_hangs_3 rfl hl (by decide) rfl (fun ls hl => ?_)
  exact lou 12 0 rfl ls (lv_sub hl [0, 1, 3, 2] rfl)

set_option maxHeartbeats 8000000 in
set_option maxRecDepth 100000 in
theorem c_R_support (l : Launch) (dC : Nat → ClassId) (dI : Nat → Nat → Nat) (cZ : ClassId) (y : Nat → Nat) (fa : Int32) (F : Nat → Nat → Bool) (g h : Nat → Bool) (sz : Nat) (i : Nat) (hi : i < 32) : Met l y_R_support (.code y_R_support b_R_support 2 (some .int) :: W0) ({ frames := 2, cells := 0, slots := 0, locals := 70 } : Room) (va_Pc [.ref (y 0), .int (nI i)] (dM dC dI cZ y fa F g h sz)) (va_Qi (fun (x : Int32) (_ : (Nat → Bool) × (Nat → Bool)) => x = hgI (F i) 12) (fun u t => dE dC dI cZ y 0 F u.1 u.2 (va_A (dW cZ y fa F g h) sz) t) (va_A (dW cZ y fa F g h) sz)) 0 0 (va_A (dW cZ y fa F g h) sz) := by
  refine Met.ofW (cc := b_R_support) (maxL := 2) (ret := (some .int)) (by decide) rfl ?_
  intro p e s m args below meth c s₁ B hml hv
  obtain ⟨rfl, hsz, hP, hK, hD0⟩ := hv
  have hx := B.exec
  have hb := B.bytes
  have hr := B.returns
  have hts1 := atoms_spec (ws := .code y_R_support b_R_support 2 (some .int) :: W0) B.pre
  have hts : ∀ w ∈ W0, w.before _ s = true := fun w h => hts1 w (List.mem_cons_of_mem _ h)
  have hown : s.vm.findClass R_R = some m.cls := findClass_of_methodNamed B.named
  have hlocks := B.notSynchronized
  subst hsz
  have hD := hD0.self (sz := s.heap.size)
  generalize hAe : va_A (dW cZ y fa F g h) s.heap.size = A at hD ⊢
  have hA : ∀ q : Nat, s.heap.size ≤ q → A q := fun q h => by rw [← hAe]; exact Or.inr h
  have hS : va_S A s.heap s.heap [] := va_S.rf
  have hP : va_P (dC, dI) cls0 (dW cZ y fa F g h) s.heap := hP
  have hl := lv_entry ([.ref (y 0), .int (nI i)]) (n := 2) (Nat.le_of_ble_eq_true rfl)
  rw [lg_entry_eq]
  generalize (lg_sl ([.ref (y 0), .int (nI i)]) ++ List.replicate (2 - (lg_sl ([.ref (y 0), .int (nI i)])).length) Slot.unset).toArray = ls at hl ⊢
  have hl : lv_has ls 2 [(0, .ref (y 0)), (1, .int (nI i))] := hl
  refine lv_aload_n hx hb d_R_support_0 rfl (lv_at hl 0 rfl) ?_
  refine lv_iconst (v := 0) hx hb d_R_support_1 (by decide) ?_
  refine dPut hx hb hts hown hK hP hD hS d_R_support_2 (fun H locs hP hD hS => ?_)
  refine lv_aload_n hx hb d_R_support_5 rfl (lv_at hl 0 rfl) ?_
  refine lv_iload_n hx hb d_R_support_6 rfl (lv_at hl 1 rfl) ?_
  refine lv_bipush (v := 32) hx hb d_R_support_7 (by decide) ?_
  refine dRR (As := [.int (nI i), .int 32]) (rest := []) ⟨hx, hb, hml, hown, hts⟩ (c_R_out0 l dC dI cZ y 0 F g h (nI i) 32 (okb_n (n := 32) hi (by decide))) (cwV 2 hts (gV kml_R_24 kim_R_out ksl_R_out kin_R kcd_R_out) rfl rfl rfl (by decide +kernel) ⟨by show 0 + 1 ≤ 2; omega, by show 8 + (3 + 11) + 0 ≤ 70; omega⟩) hP hK rfl hl.1 rfl (Nat.le_of_ble_eq_true rfl) d_R_support_9 ⟨Nat.zero_le _, Nat.zero_le _⟩ ?_
  refine lv_if_ne (tgt := 21) hx hb d_R_support_12 (by decide) (fun c12 => ?_) (fun c12 => ?_)
  · exact absurd (by decide) c12
  · refine lv_aload_n hx hb d_R_support_15 rfl (lv_at hl 0 rfl) ?_
    refine lv_iload_n hx hb d_R_support_16 rfl (lv_at hl 1 rfl) ?_
    refine dRR (As := [.int (nI i)]) (rest := []) ⟨hx, hb, hml, hown, hts⟩ (c_R_hangs l dC dI cZ y 0 F g h i (by omega)) (cwV 1 hts (gV kml_R_38 kim_R_hangs ksl_R_hangs kin_R kcd_R_hangs) rfl rfl rfl (by decide +kernel) ⟨by show 1 + 1 ≤ 2; omega, by show 8 + (5 + 11) + 40 ≤ 70; omega⟩) hP hK rfl hl.1 rfl (Nat.le_of_ble_eq_true rfl) d_R_support_17 ⟨Nat.zero_le _, Nat.zero_le _⟩ ?_
    exact W.iret (v := (hgI (F i) 12)) hx hb hr (fun t ht hW => ⟨⟨hgI (F i) 12, (g, h), rfl, rfl, by rw [ht]; exact hP, va_K.moved hW.alike hK, hD⟩, hS.F ht⟩) hS.2.2 d_R_support_20

theorem cntb_le (f : Nat → Bool) : ∀ n, cntb f n ≤ n
  | 0 => Nat.le_refl _
  | n + 1 => by
    show cntb f n + _ ≤ n + 1
    have := cntb_le f n
    by_cases c : f n = true
    · rw [if_pos c]; omega
    · rw [if_neg c]; omega

set_option maxHeartbeats 8000000 in
set_option maxRecDepth 100000 in
theorem c_R_count (l : Launch) (dC : Nat → ClassId) (dI : Nat → Nat → Nat) (cZ : ClassId) (y : Nat → Nat) (fa : Int32) (F : Nat → Nat → Bool) (g h : Nat → Bool) (sz : Nat) (i : Nat) (hi : i < 32) (hev : hgI (F i) 12 &&& 2730 = 0) : Met l y_R_count (.code y_R_count b_R_count 4 (some .int) :: W0) ({ frames := 2, cells := 0, slots := 0, locals := 70 } : Room) (va_Pc [.ref (y 0), .int (nI i)] (dM dC dI cZ y fa F g h sz)) (va_Qi (fun (x : Int32) (_ : (Nat → Bool) × (Nat → Bool)) => x = nI (cntb (F i) 4096 / 64)) (fun u t => dE dC dI cZ y 0 F u.1 u.2 (va_A (dW cZ y fa F g h) sz) t) (va_A (dW cZ y fa F g h) sz)) 0 0 (va_A (dW cZ y fa F g h) sz) := by
  refine Met.ofW (cc := b_R_count) (maxL := 4) (ret := (some .int)) (by decide) rfl ?_
  intro p e s m args below meth c s₁ B hml hv
  obtain ⟨rfl, hsz, hP, hK, hD0⟩ := hv
  have hx := B.exec
  have hb := B.bytes
  have hr := B.returns
  have hts1 := atoms_spec (ws := .code y_R_count b_R_count 4 (some .int) :: W0) B.pre
  have hts : ∀ w ∈ W0, w.before _ s = true := fun w h => hts1 w (List.mem_cons_of_mem _ h)
  have hown : s.vm.findClass R_R = some m.cls := findClass_of_methodNamed B.named
  have hlocks := B.notSynchronized
  subst hsz
  have hD := hD0.self (sz := s.heap.size)
  generalize hAe : va_A (dW cZ y fa F g h) s.heap.size = A at hD ⊢
  have hA : ∀ q : Nat, s.heap.size ≤ q → A q := fun q h => by rw [← hAe]; exact Or.inr h
  have hS : va_S A s.heap s.heap [] := va_S.rf
  have hP : va_P (dC, dI) cls0 (dW cZ y fa F g h) s.heap := hP
  have hl := lv_entry ([.ref (y 0), .int (nI i)]) (n := 4) (Nat.le_of_ble_eq_true rfl)
  rw [lg_entry_eq]
  generalize (lg_sl ([.ref (y 0), .int (nI i)]) ++ List.replicate (4 - (lg_sl ([.ref (y 0), .int (nI i)])).length) Slot.unset).toArray = ls at hl ⊢
  have hl : lv_has ls 4 [(0, .ref (y 0)), (1, .int (nI i))] := hl
  have loop : ∀ (n j : Nat) (H : Heap) (locs : List Loc), va_P (dC, dI) cls0 (dW cZ y 0 F g h) H → va_D A (dW cZ y 0 F g h) → va_S A s.heap H locs → j + n = 4096 → ∀ (ls : Array Slot), lv_has ls 4 [(3, .int (nI j)), (2, .int (nI (cntb (F i) j))), (1, .int (nI i)), (0, .ref (y 0))] → W p l e (headSpec (.code y_R_count b_R_count 4 (some .int) :: W0) ({ frames := 2, cells := 0, slots := 0, locals := 70 } : Room)).room s m ([.ref (y 0), .int (nI i)] : List Value).toArray below meth c H locs 0 0 (MQ below (va_Qi (fun (x : Int32) (_ : (Nat → Bool) × (Nat → Bool)) => x = nI (cntb (F i) 4096 / 64)) (fun u t => dE dC dI cZ y 0 F u.1 u.2 A t) A) ([.ref (y 0), .int (nI i)] : List Value).toArray s 0 0 A) (F0 m 45 ls []) := by
    intro n
    induction n with
    | zero =>
      intro j H locs hP hD hS hj ls hl
      have hj2 : j = 4096 := by omega
      subst hj2
      refine lv_iload_n hx hb d_R_count_45 rfl (lv_at hl 0 rfl) ?_
      refine lv_sipush (v := 4096) hx hb d_R_count_46 (by decide) ?_
      refine lv_icmp_ge (tgt := 75) hx hb d_R_count_49 (by decide) (fun c49 => ?_) (fun c49 => ?_)
      · refine lv_iload_n hx hb d_R_count_75 rfl (lv_at hl 1 rfl) ?_
        refine lv_bipush (v := 64) hx hb d_R_count_76 (by decide) ?_
        refine lv_idiv hx hb d_R_count_78 (by decide) ?_
        exact W.iret (v := ((nI (cntb (F i) 4096)) / 64)) hx hb hr (fun t ht hW => ⟨⟨((nI (cntb (F i) 4096)) / 64), (g, h), rfl, (by have h9 := cntb_le (F i) 4096; exact pk_div (d := 64) (by omega) (by decide) (by decide)), by rw [ht]; exact hP, va_K.moved hW.alike hK, hD⟩, hS.F ht⟩) hS.2.2 d_R_count_79
      · exact absurd (Int32.le_refl _) c49
    | succ n ihloop =>
      intro j H locs hP hD hS hj ls hl
      refine lv_iload_n hx hb d_R_count_45 rfl (lv_at hl 0 rfl) ?_
      refine lv_sipush (v := 4096) hx hb d_R_count_46 (by decide) ?_
      refine lv_icmp_ge (tgt := 75) hx hb d_R_count_49 (by decide) (fun c49 => ?_) (fun c49 => ?_)
      · exact absurd c49 (nI_ge (b := 4096) (by omega) (by omega))
      · refine lv_iload_n hx hb d_R_count_52 rfl (lv_at hl 1 rfl) ?_
        refine lv_aload_n hx hb d_R_count_53 rfl (lv_at hl 3 rfl) ?_
        refine lv_iload_n hx hb d_R_count_54 rfl (lv_at hl 2 rfl) ?_
        refine lv_iload_n hx hb d_R_count_55 rfl (lv_at hl 0 rfl) ?_
        refine dRR (As := [.int (nI i), .int (nI j)]) (rest := [.int (nI (cntb (F i) j))]) ⟨hx, hb, hml, hown, hts⟩ (c_R_at l dC dI cZ y 0 F g h i j (by omega) (by omega)) (cwV 2 hts (gV kml_R_32 kim_R_at ksl_R_at kin_R kcd_R_at) rfl rfl rfl (by decide +kernel) ⟨by show 0 + 1 ≤ 2; omega, by show 8 + (3 + 11) + 0 ≤ 70; omega⟩) hP hK rfl hl.1 rfl (Nat.le_of_ble_eq_true rfl) d_R_count_56 ⟨Nat.zero_le _, Nat.zero_le _⟩ ?_
        refine lv_if_eq (tgt := 66) hx hb d_R_count_59 (by decide) (fun c59 => ?_) (fun c59 => ?_)
        · refine lv_iconst (v := 0) hx hb d_R_count_66 (by decide) ?_
          refine lv_iadd hx hb d_R_count_67 ?_
          refine lv_istore_n (lv' := [(2, .int ((nI (cntb (F i) j)) + 0)), (3, .int (nI j)), (1, .int (nI i)), (0, .ref (y 0))]) hx hb d_R_count_68 rfl hl (by decide) rfl (fun ls hl => ?_)
          refine lv_iinc (v := ((nI j) + 1)) (lv' := [(3, .int ((nI j) + 1)), (2, .int ((nI (cntb (F i) j)) + 0)), (1, .int (nI i)), (0, .ref (y 0))]) hx hb d_R_count_69 hl (k := 1) rfl rfl (by decide) rfl (fun ls hl => ?_)
          refine lv_goto (tgt := 45) hx hb d_R_count_72 (by decide) ?_
          rw [nI_1] at hl
          rw [show (nI (cntb (F i) j) + 0 : Int32) = nI (cntb (F i) (j + 1)) from (by show nI (cntb (F i) j) + nI 0 = nI (cntb (F i) j + (if F i j then 1 else 0)); rw [nI_add]; rw [zb_0.mp c59]; rfl)] at hl
          exact ihloop (j + 1) H locs hP hD hS (by omega) ls (lv_sub hl [0, 1, 2, 3] rfl)
        · refine lv_iconst (v := 1) hx hb d_R_count_62 (by decide) ?_
          refine lv_goto (tgt := 67) hx hb d_R_count_63 (by decide) ?_
          refine lv_iadd hx hb d_R_count_67 ?_
          refine lv_istore_n (lv' := [(2, .int ((nI (cntb (F i) j)) + 1)), (3, .int (nI j)), (1, .int (nI i)), (0, .ref (y 0))]) hx hb d_R_count_68 rfl hl (by decide) rfl (fun ls hl => ?_)
          refine lv_iinc (v := ((nI j) + 1)) (lv' := [(3, .int ((nI j) + 1)), (2, .int ((nI (cntb (F i) j)) + 1)), (1, .int (nI i)), (0, .ref (y 0))]) hx hb d_R_count_69 hl (k := 1) rfl rfl (by decide) rfl (fun ls hl => ?_)
          refine lv_goto (tgt := 45) hx hb d_R_count_72 (by decide) ?_
          rw [nI_1] at hl
          rw [show (nI (cntb (F i) j) + 1 : Int32) = nI (cntb (F i) (j + 1)) from (by show nI (cntb (F i) j) + nI 1 = nI (cntb (F i) j + (if F i j then 1 else 0)); rw [nI_add]; rw [zb_n0 c59]; rfl)] at hl
          exact ihloop (j + 1) H locs hP hD hS (by omega) ls (lv_sub hl [0, 1, 2, 3] rfl)
  refine lv_aload_n hx hb d_R_count_0 rfl (lv_at hl 0 rfl) ?_
  refine lv_iconst (v := 0) hx hb d_R_count_1 (by decide) ?_
  refine dPut hx hb hts hown hK hP hD hS d_R_count_2 (fun H locs hP hD hS => ?_)
  refine lv_aload_n hx hb d_R_count_5 rfl (lv_at hl 0 rfl) ?_
  refine lv_iload_n hx hb d_R_count_6 rfl (lv_at hl 1 rfl) ?_
  refine lv_bipush (v := 32) hx hb d_R_count_7 (by decide) ?_
  refine dRR (As := [.int (nI i), .int 32]) (rest := []) ⟨hx, hb, hml, hown, hts⟩ (c_R_out0 l dC dI cZ y 0 F g h (nI i) 32 (okb_n (n := 32) hi (by decide))) (cwV 2 hts (gV kml_R_24 kim_R_out ksl_R_out kin_R kcd_R_out) rfl rfl rfl (by decide +kernel) ⟨by show 0 + 1 ≤ 2; omega, by show 8 + (3 + 11) + 0 ≤ 70; omega⟩) hP hK rfl hl.1 rfl (Nat.le_of_ble_eq_true rfl) d_R_count_9 ⟨Nat.zero_le _, Nat.zero_le _⟩ ?_
  refine lv_if_eq (tgt := 22) hx hb d_R_count_12 (by decide) (fun c12 => ?_) (fun c12 => ?_)
  · refine lv_aload_n hx hb d_R_count_22 rfl (lv_at hl 0 rfl) ?_
    refine lv_iload_n hx hb d_R_count_23 rfl (lv_at hl 1 rfl) ?_
    refine dRR (As := [.int (nI i)]) (rest := []) ⟨hx, hb, hml, hown, hts⟩ (c_R_hangs l dC dI cZ y 0 F g h i (by omega)) (cwV 1 hts (gV kml_R_38 kim_R_hangs ksl_R_hangs kin_R kcd_R_hangs) rfl rfl rfl (by decide +kernel) ⟨by show 1 + 1 ≤ 2; omega, by show 8 + (5 + 11) + 40 ≤ 70; omega⟩) hP hK rfl hl.1 rfl (Nat.le_of_ble_eq_true rfl) d_R_count_24 ⟨Nat.zero_le _, Nat.zero_le _⟩ ?_
    refine lv_sipush (v := 2730) hx hb d_R_count_27 (by decide) ?_
    refine lv_iand hx hb d_R_count_30 ?_
    refine lv_if_eq (tgt := 41) hx hb d_R_count_31 (by decide) (fun c31 => ?_) (fun c31 => ?_)
    · refine lv_iconst (v := 0) hx hb d_R_count_41 (by decide) ?_
      refine lv_istore_n (lv' := [(2, .int 0), (0, .ref (y 0)), (1, .int (nI i))]) hx hb d_R_count_42 rfl hl (by decide) rfl (fun ls hl => ?_)
      refine lv_iconst (v := 0) hx hb d_R_count_43 (by decide) ?_
      refine lv_istore_n (lv' := [(3, .int 0), (2, .int 0), (0, .ref (y 0)), (1, .int (nI i))]) hx hb d_R_count_44 rfl hl (by decide) rfl (fun ls hl => ?_)
      exact loop 4096 0 _ _ hP hD hS rfl ls (lv_sub hl [0, 1, 3, 2] rfl)
    · exact absurd hev c31
  · exact absurd (by decide) c12

set_option maxHeartbeats 8000000 in
set_option maxRecDepth 100000 in
theorem d_R_count (l : Launch) (dC : Nat → ClassId) (dI : Nat → Nat → Nat) (cZ : ClassId) (y : Nat → Nat) (fa : Int32) (F : Nat → Nat → Bool) (g h : Nat → Bool) (sz : Nat) (i : Nat) (hi : i < 32) (hev : ¬ hgI (F i) 12 &&& 2730 = 0) : Met l y_R_count (.code y_R_count b_R_count 4 (some .int) :: W0) ({ frames := 2, cells := 0, slots := 0, locals := 70 } : Room) (va_Pc [.ref (y 0), .int (nI i)] (dM dC dI cZ y fa F g h sz)) (va_Qi (fun (x : Int32) (_ : (Nat → Bool) × (Nat → Bool)) => x = 0) (fun u t => dE dC dI cZ y 2 F u.1 u.2 (va_A (dW cZ y fa F g h) sz) t) (va_A (dW cZ y fa F g h) sz)) 0 0 (va_A (dW cZ y fa F g h) sz) := by
  refine Met.ofW (cc := b_R_count) (maxL := 4) (ret := (some .int)) (by decide) rfl ?_
  intro p e s m args below meth c s₁ B hml hv
  obtain ⟨rfl, hsz, hP, hK, hD0⟩ := hv
  have hx := B.exec
  have hb := B.bytes
  have hr := B.returns
  have hts1 := atoms_spec (ws := .code y_R_count b_R_count 4 (some .int) :: W0) B.pre
  have hts : ∀ w ∈ W0, w.before _ s = true := fun w h => hts1 w (List.mem_cons_of_mem _ h)
  have hown : s.vm.findClass R_R = some m.cls := findClass_of_methodNamed B.named
  have hlocks := B.notSynchronized
  subst hsz
  have hD := hD0.self (sz := s.heap.size)
  generalize hAe : va_A (dW cZ y fa F g h) s.heap.size = A at hD ⊢
  have hA : ∀ q : Nat, s.heap.size ≤ q → A q := fun q h => by rw [← hAe]; exact Or.inr h
  have hS : va_S A s.heap s.heap [] := va_S.rf
  have hP : va_P (dC, dI) cls0 (dW cZ y fa F g h) s.heap := hP
  have hl := lv_entry ([.ref (y 0), .int (nI i)]) (n := 4) (Nat.le_of_ble_eq_true rfl)
  rw [lg_entry_eq]
  generalize (lg_sl ([.ref (y 0), .int (nI i)]) ++ List.replicate (4 - (lg_sl ([.ref (y 0), .int (nI i)])).length) Slot.unset).toArray = ls at hl ⊢
  have hl : lv_has ls 4 [(0, .ref (y 0)), (1, .int (nI i))] := hl
  refine lv_aload_n hx hb d_R_count_0 rfl (lv_at hl 0 rfl) ?_
  refine lv_iconst (v := 0) hx hb d_R_count_1 (by decide) ?_
  refine dPut hx hb hts hown hK hP hD hS d_R_count_2 (fun H locs hP hD hS => ?_)
  refine lv_aload_n hx hb d_R_count_5 rfl (lv_at hl 0 rfl) ?_
  refine lv_iload_n hx hb d_R_count_6 rfl (lv_at hl 1 rfl) ?_
  refine lv_bipush (v := 32) hx hb d_R_count_7 (by decide) ?_
  refine dRR (As := [.int (nI i), .int 32]) (rest := []) ⟨hx, hb, hml, hown, hts⟩ (c_R_out0 l dC dI cZ y 0 F g h (nI i) 32 (okb_n (n := 32) hi (by decide))) (cwV 2 hts (gV kml_R_24 kim_R_out ksl_R_out kin_R kcd_R_out) rfl rfl rfl (by decide +kernel) ⟨by show 0 + 1 ≤ 2; omega, by show 8 + (3 + 11) + 0 ≤ 70; omega⟩) hP hK rfl hl.1 rfl (Nat.le_of_ble_eq_true rfl) d_R_count_9 ⟨Nat.zero_le _, Nat.zero_le _⟩ ?_
  refine lv_if_eq (tgt := 22) hx hb d_R_count_12 (by decide) (fun c12 => ?_) (fun c12 => ?_)
  · refine lv_aload_n hx hb d_R_count_22 rfl (lv_at hl 0 rfl) ?_
    refine lv_iload_n hx hb d_R_count_23 rfl (lv_at hl 1 rfl) ?_
    refine dRR (As := [.int (nI i)]) (rest := []) ⟨hx, hb, hml, hown, hts⟩ (c_R_hangs l dC dI cZ y 0 F g h i (by omega)) (cwV 1 hts (gV kml_R_38 kim_R_hangs ksl_R_hangs kin_R kcd_R_hangs) rfl rfl rfl (by decide +kernel) ⟨by show 1 + 1 ≤ 2; omega, by show 8 + (5 + 11) + 40 ≤ 70; omega⟩) hP hK rfl hl.1 rfl (Nat.le_of_ble_eq_true rfl) d_R_count_24 ⟨Nat.zero_le _, Nat.zero_le _⟩ ?_
    refine lv_sipush (v := 2730) hx hb d_R_count_27 (by decide) ?_
    refine lv_iand hx hb d_R_count_30 ?_
    refine lv_if_eq (tgt := 41) hx hb d_R_count_31 (by decide) (fun c31 => ?_) (fun c31 => ?_)
    · exact absurd c31 hev
    · refine lv_aload_n hx hb d_R_count_34 rfl (lv_at hl 0 rfl) ?_
      refine lv_iconst (v := 2) hx hb d_R_count_35 (by decide) ?_
      refine dPut hx hb hts hown hK hP hD hS d_R_count_36 (fun H locs hP hD hS => ?_)
      refine lv_iconst (v := 0) hx hb d_R_count_39 (by decide) ?_
      exact W.iret (v := 0) hx hb hr (fun t ht hW => ⟨⟨0, (g, h), rfl, rfl, by rw [ht]; exact hP, va_K.moved hW.alike hK, hD⟩, hS.F ht⟩) hS.2.2 d_R_count_40
  · exact absurd (by decide) c12

theorem anyb_le {f : Nat → Bool} {n : Nat} : ∀ {m : Nat}, n ≤ m → anyb f n = true → anyb f m = true
  | 0, h, e => by rw [show n = 0 by omega] at e; exact e
  | m + 1, h, e => by
    by_cases c : n = m + 1
    · rw [c] at e; exact e
    · show (anyb f m || f m) = true
      rw [anyb_le (by omega) e, Bool.true_or]

set_option maxHeartbeats 8000000 in
set_option maxRecDepth 100000 in
theorem c_R_tidy (l : Launch) (dC : Nat → ClassId) (dI : Nat → Nat → Nat) (cZ : ClassId) (y : Nat → Nat) (fa : Int32) (F : Nat → Nat → Bool) (g h : Nat → Bool) (sz : Nat) (x : Nat) (hx3 : x < 3) : Met l y_R_tidy (.code y_R_tidy b_R_tidy 6 (some .int) :: W0) ({ frames := 1, cells := 0, slots := 0, locals := 40 } : Room) (va_Pc [.ref (y 0), .int (nI x)] (dM dC dI cZ y fa F g h sz)) (va_Qi (fun (x : Int32) (_ : (Nat → Bool) × (Nat → Bool)) => x = nI (cntb (fun a => anyb (F a) 4096) 32)) (fun u t => dE dC dI cZ y 0 F u.1 u.2 (va_A (dW cZ y fa F g h) sz) t) (va_A (dW cZ y fa F g h) sz)) 0 0 (va_A (dW cZ y fa F g h) sz) := by
  refine Met.ofW (cc := b_R_tidy) (maxL := 6) (ret := (some .int)) (by decide) rfl ?_
  intro p e s m args below meth c s₁ B hml hv
  obtain ⟨rfl, hsz, hP, hK, hD0⟩ := hv
  have hx := B.exec
  have hb := B.bytes
  have hr := B.returns
  have hts1 := atoms_spec (ws := .code y_R_tidy b_R_tidy 6 (some .int) :: W0) B.pre
  have hts : ∀ w ∈ W0, w.before _ s = true := fun w h => hts1 w (List.mem_cons_of_mem _ h)
  have hown : s.vm.findClass R_R = some m.cls := findClass_of_methodNamed B.named
  have hlocks := B.notSynchronized
  subst hsz
  have hD := hD0.self (sz := s.heap.size)
  generalize hAe : va_A (dW cZ y fa F g h) s.heap.size = A at hD ⊢
  have hA : ∀ q : Nat, s.heap.size ≤ q → A q := fun q h => by rw [← hAe]; exact Or.inr h
  have hS : va_S A s.heap s.heap [] := va_S.rf
  have hP : va_P (dC, dI) cls0 (dW cZ y fa F g h) s.heap := hP
  have hl := lv_entry ([.ref (y 0), .int (nI x)]) (n := 6) (Nat.le_of_ble_eq_true rfl)
  rw [lg_entry_eq]
  generalize (lg_sl ([.ref (y 0), .int (nI x)]) ++ List.replicate (6 - (lg_sl ([.ref (y 0), .int (nI x)])).length) Slot.unset).toArray = ls at hl ⊢
  have hl : lv_has ls 6 [(0, .ref (y 0)), (1, .int (nI x))] := hl
  have lou : ∀ (n2 a : Nat) (H : Heap) (locs : List Loc), va_P (dC, dI) cls0 (dW cZ y 0 F g h) H → va_D A (dW cZ y 0 F g h) → va_S A s.heap H locs → a + n2 = 32 → ∀ (ls : Array Slot), lv_has ls 6 [(3, .int (nI a)), (2, .int (nI (cntb (fun a => anyb (F a) 4096) a))), (0, .ref (y 0))] → W p l e (headSpec (.code y_R_tidy b_R_tidy 6 (some .int) :: W0) ({ frames := 1, cells := 0, slots := 0, locals := 40 } : Room)).room s m ([.ref (y 0), .int (nI x)] : List Value).toArray below meth c H locs 0 0 (MQ below (va_Qi (fun (x : Int32) (_ : (Nat → Bool) × (Nat → Bool)) => x = nI (cntb (fun a => anyb (F a) 4096) 32)) (fun u t => dE dC dI cZ y 0 F u.1 u.2 A t) A) ([.ref (y 0), .int (nI x)] : List Value).toArray s 0 0 A) (F0 m 25 ls []) := by
    intro n2
    induction n2 with
    | zero =>
      intro a H locs hP hD hS hv ls hl
      have hv2 : a = 32 := by omega
      subst hv2
      refine lv_iload_n hx hb d_R_tidy_25 rfl (lv_at hl 0 rfl) ?_
      refine lv_bipush (v := 32) hx hb d_R_tidy_26 (by decide) ?_
      refine lv_icmp_ge (tgt := 84) hx hb d_R_tidy_28 (by decide) (fun c28 => ?_) (fun c28 => ?_)
      · refine lv_iload_n hx hb d_R_tidy_84 rfl (lv_at hl 1 rfl) ?_
        exact W.iret (v := (nI (cntb (fun a => anyb (F a) 4096) 32))) hx hb hr (fun t ht hW => ⟨⟨nI (cntb (fun a => anyb (F a) 4096) 32), (g, h), rfl, rfl, by rw [ht]; exact hP, va_K.moved hW.alike hK, hD⟩, hS.F ht⟩) hS.2.2 d_R_tidy_85
      · exact absurd (Int32.le_refl _) c28
    | succ n2 ihlou =>
      intro a H locs hP hD hS hv ls hl
      have lin : ∀ (n j : Nat) (H : Heap) (locs : List Loc), va_P (dC, dI) cls0 (dW cZ y 0 F g h) H → va_D A (dW cZ y 0 F g h) → va_S A s.heap H locs → j + n = 4096 → ∀ (ls : Array Slot), lv_has ls 6 [(5, .int (nI j)), (4, .int (zb (anyb (F a) j))), (3, .int (nI a)), (2, .int (nI (cntb (fun a => anyb (F a) 4096) a))), (0, .ref (y 0))] → W p l e (headSpec (.code y_R_tidy b_R_tidy 6 (some .int) :: W0) ({ frames := 1, cells := 0, slots := 0, locals := 40 } : Room)).room s m ([.ref (y 0), .int (nI x)] : List Value).toArray below meth c H locs 0 0 (MQ below (va_Qi (fun (x : Int32) (_ : (Nat → Bool) × (Nat → Bool)) => x = nI (cntb (fun a => anyb (F a) 4096) 32)) (fun u t => dE dC dI cZ y 0 F u.1 u.2 A t) A) ([.ref (y 0), .int (nI x)] : List Value).toArray s 0 0 A) (F0 m 37 ls []) := by
        intro n
        induction n with
        | zero =>
          intro j H locs hP hD hS hj ls hl
          have hj2 : j = 4096 := by omega
          subst hj2
          refine lv_iload hx hb d_R_tidy_37 (lv_at hl 0 rfl) ?_
          refine lv_sipush (v := 4096) hx hb d_R_tidy_39 (by decide) ?_
          refine lv_icmp_ge (tgt := 65) hx hb d_R_tidy_42 (by decide) (fun c42 => ?_) (fun c42 => ?_)
          · refine lv_iload_n hx hb d_R_tidy_65 rfl (lv_at hl 3 rfl) ?_
            refine lv_iload hx hb d_R_tidy_66 (lv_at hl 1 rfl) ?_
            refine lv_if_eq (tgt := 75) hx hb d_R_tidy_68 (by decide) (fun c68 => ?_) (fun c68 => ?_)
            · refine lv_iconst (v := 0) hx hb d_R_tidy_75 (by decide) ?_
              refine lv_iadd hx hb d_R_tidy_76 ?_
              refine lv_istore_n (lv' := [(2, .int ((nI (cntb (fun a => anyb (F a) 4096) a)) + 0)), (5, .int (nI 4096)), (4, .int (zb (anyb (F a) 4096))), (3, .int (nI a)), (0, .ref (y 0))]) hx hb d_R_tidy_77 rfl hl (by decide) rfl (fun ls hl => ?_)
              refine lv_iinc (v := ((nI a) + 1)) (lv' := [(3, .int ((nI a) + 1)), (2, .int ((nI (cntb (fun a => anyb (F a) 4096) a)) + 0)), (5, .int (nI 4096)), (4, .int (zb (anyb (F a) 4096))), (0, .ref (y 0))]) hx hb d_R_tidy_78 hl (k := 3) rfl rfl (by decide) rfl (fun ls hl => ?_)
              refine lv_goto (tgt := 25) hx hb d_R_tidy_81 (by decide) ?_
              rw [nI_1] at hl
              rw [show (nI (cntb (fun a => anyb (F a) 4096) a) + 0 : Int32) = nI (cntb (fun a => anyb (F a) 4096) (a + 1)) from (by show nI (cntb (fun a => anyb (F a) 4096) a) + nI 0 = nI (cntb (fun a => anyb (F a) 4096) a + (if anyb (F a) 4096 then 1 else 0)); rw [nI_add, zb_0.mp c68]; rfl)] at hl
              exact ihlou (a + 1) H locs hP hD hS (by omega) ls (lv_sub hl [0, 1, 4] rfl)
            · refine lv_iconst (v := 1) hx hb d_R_tidy_71 (by decide) ?_
              refine lv_goto (tgt := 76) hx hb d_R_tidy_72 (by decide) ?_
              refine lv_iadd hx hb d_R_tidy_76 ?_
              refine lv_istore_n (lv' := [(2, .int ((nI (cntb (fun a => anyb (F a) 4096) a)) + 1)), (5, .int (nI 4096)), (4, .int (zb (anyb (F a) 4096))), (3, .int (nI a)), (0, .ref (y 0))]) hx hb d_R_tidy_77 rfl hl (by decide) rfl (fun ls hl => ?_)
              refine lv_iinc (v := ((nI a) + 1)) (lv' := [(3, .int ((nI a) + 1)), (2, .int ((nI (cntb (fun a => anyb (F a) 4096) a)) + 1)), (5, .int (nI 4096)), (4, .int (zb (anyb (F a) 4096))), (0, .ref (y 0))]) hx hb d_R_tidy_78 hl (k := 3) rfl rfl (by decide) rfl (fun ls hl => ?_)
              refine lv_goto (tgt := 25) hx hb d_R_tidy_81 (by decide) ?_
              rw [nI_1] at hl
              rw [show (nI (cntb (fun a => anyb (F a) 4096) a) + 1 : Int32) = nI (cntb (fun a => anyb (F a) 4096) (a + 1)) from (by show nI (cntb (fun a => anyb (F a) 4096) a) + nI 1 = nI (cntb (fun a => anyb (F a) 4096) a + (if anyb (F a) 4096 then 1 else 0)); rw [nI_add, show anyb (F a) 4096 = true from zb_n0 c68]; rfl)] at hl
              exact ihlou (a + 1) H locs hP hD hS (by omega) ls (lv_sub hl [0, 1, 4] rfl)
          · exact absurd (Int32.le_refl _) c42
        | succ n ihlin =>
          intro j H locs hP hD hS hj ls hl
          refine lv_iload hx hb d_R_tidy_37 (lv_at hl 0 rfl) ?_
          refine lv_sipush (v := 4096) hx hb d_R_tidy_39 (by decide) ?_
          refine lv_icmp_ge (tgt := 65) hx hb d_R_tidy_42 (by decide) (fun c42 => ?_) (fun c42 => ?_)
          · exact absurd c42 (nI_ge (b := 4096) (by omega) (by omega))
          · refine lv_iload hx hb d_R_tidy_45 (lv_at hl 1 rfl) ?_
            refine lv_if_ne (tgt := 65) hx hb d_R_tidy_47 (by decide) (fun c47 => ?_) (fun c47 => ?_)
            · refine lv_iload_n hx hb d_R_tidy_65 rfl (lv_at hl 3 rfl) ?_
              refine lv_iload hx hb d_R_tidy_66 (lv_at hl 1 rfl) ?_
              refine lv_if_eq (tgt := 75) hx hb d_R_tidy_68 (by decide) (fun c68 => ?_) (fun c68 => ?_)
              · exact absurd c68 c47
              · refine lv_iconst (v := 1) hx hb d_R_tidy_71 (by decide) ?_
                refine lv_goto (tgt := 76) hx hb d_R_tidy_72 (by decide) ?_
                refine lv_iadd hx hb d_R_tidy_76 ?_
                refine lv_istore_n (lv' := [(2, .int ((nI (cntb (fun a => anyb (F a) 4096) a)) + 1)), (5, .int (nI j)), (4, .int (zb (anyb (F a) j))), (3, .int (nI a)), (0, .ref (y 0))]) hx hb d_R_tidy_77 rfl hl (by decide) rfl (fun ls hl => ?_)
                refine lv_iinc (v := ((nI a) + 1)) (lv' := [(3, .int ((nI a) + 1)), (2, .int ((nI (cntb (fun a => anyb (F a) 4096) a)) + 1)), (5, .int (nI j)), (4, .int (zb (anyb (F a) j))), (0, .ref (y 0))]) hx hb d_R_tidy_78 hl (k := 3) rfl rfl (by decide) rfl (fun ls hl => ?_)
                refine lv_goto (tgt := 25) hx hb d_R_tidy_81 (by decide) ?_
                rw [nI_1] at hl
                rw [show (nI (cntb (fun a => anyb (F a) 4096) a) + 1 : Int32) = nI (cntb (fun a => anyb (F a) 4096) (a + 1)) from (by show nI (cntb (fun a => anyb (F a) 4096) a) + nI 1 = nI (cntb (fun a => anyb (F a) 4096) a + (if anyb (F a) 4096 then 1 else 0)); rw [nI_add, show anyb (F a) 4096 = true from anyb_le (n := j) (by omega) (zb_n0 c68)]; rfl)] at hl
                exact ihlou (a + 1) H locs hP hD hS (by omega) ls (lv_sub hl [0, 1, 4] rfl)
            · refine lv_aload_n hx hb d_R_tidy_50 rfl (lv_at hl 4 rfl) ?_
              refine lv_iload_n hx hb d_R_tidy_51 rfl (lv_at hl 2 rfl) ?_
              refine lv_iload hx hb d_R_tidy_52 (lv_at hl 0 rfl) ?_
              refine dRR (As := [.int (nI a), .int (nI j)]) (rest := []) ⟨hx, hb, hml, hown, hts⟩ (c_R_at l dC dI cZ y 0 F g h a j (by omega) (by omega)) (cwV 2 hts (gV kml_R_32 kim_R_at ksl_R_at kin_R kcd_R_at) rfl rfl rfl (by decide +kernel) ⟨by show 0 + 1 ≤ 1; omega, by show 8 + (3 + 11) + 0 ≤ 40; omega⟩) hP hK rfl hl.1 rfl (Nat.le_of_ble_eq_true rfl) d_R_tidy_54 ⟨Nat.zero_le _, Nat.zero_le _⟩ ?_
              refine lv_istore (lv' := [(4, .int (zb (F a j))), (5, .int (nI j)), (3, .int (nI a)), (2, .int (nI (cntb (fun a => anyb (F a) 4096) a))), (0, .ref (y 0))]) hx hb d_R_tidy_57 hl (by decide) rfl (fun ls hl => ?_)
              refine lv_iinc (v := ((nI j) + 1)) (lv' := [(5, .int ((nI j) + 1)), (4, .int (zb (F a j))), (3, .int (nI a)), (2, .int (nI (cntb (fun a => anyb (F a) 4096) a))), (0, .ref (y 0))]) hx hb d_R_tidy_59 hl (k := 1) rfl rfl (by decide) rfl (fun ls hl => ?_)
              refine lv_goto (tgt := 37) hx hb d_R_tidy_62 (by decide) ?_
              rw [nI_1] at hl
              rw [show zb (F a j) = zb (anyb (F a) (j + 1)) from (by show _ = zb (anyb (F a) j || F a j); rw [zb_0.mp c47]; rfl)] at hl
              exact ihlin (j + 1) H locs hP hD hS (by omega) ls (lv_sub hl [0, 1, 2, 3, 4] rfl)
      refine lv_iload_n hx hb d_R_tidy_25 rfl (lv_at hl 0 rfl) ?_
      refine lv_bipush (v := 32) hx hb d_R_tidy_26 (by decide) ?_
      refine lv_icmp_ge (tgt := 84) hx hb d_R_tidy_28 (by decide) (fun c28 => ?_) (fun c28 => ?_)
      · exact absurd c28 (nI_ge (b := 32) (by omega) (by omega))
      · refine lv_iconst (v := 0) hx hb d_R_tidy_31 (by decide) ?_
        refine lv_istore (lv' := [(4, .int 0), (3, .int (nI a)), (2, .int (nI (cntb (fun a => anyb (F a) 4096) a))), (0, .ref (y 0))]) hx hb d_R_tidy_32 hl (by decide) rfl (fun ls hl => ?_)
        refine lv_iconst (v := 0) hx hb d_R_tidy_34 (by decide) ?_
        refine lv_istore (lv' := [(5, .int 0), (4, .int 0), (3, .int (nI a)), (2, .int (nI (cntb (fun a => anyb (F a) 4096) a))), (0, .ref (y 0))]) hx hb d_R_tidy_35 hl (by decide) rfl (fun ls hl => ?_)
        exact lin 4096 0 _ _ hP hD hS rfl ls (lv_sub hl [0, 1, 2, 3, 4] rfl)
  refine lv_aload_n hx hb d_R_tidy_0 rfl (lv_at hl 0 rfl) ?_
  refine lv_iconst (v := 0) hx hb d_R_tidy_1 (by decide) ?_
  refine dPut hx hb hts hown hK hP hD hS d_R_tidy_2 (fun H locs hP hD hS => ?_)
  refine lv_aload_n hx hb d_R_tidy_5 rfl (lv_at hl 0 rfl) ?_
  refine lv_iload_n hx hb d_R_tidy_6 rfl (lv_at hl 1 rfl) ?_
  refine lv_iconst (v := 3) hx hb d_R_tidy_7 (by decide) ?_
  refine dRR (As := [.int (nI x), .int 3]) (rest := []) ⟨hx, hb, hml, hown, hts⟩ (c_R_out0 l dC dI cZ y 0 F g h (nI x) 3 (okb_n (n := 3) hx3 (by decide))) (cwV 2 hts (gV kml_R_24 kim_R_out ksl_R_out kin_R kcd_R_out) rfl rfl rfl (by decide +kernel) ⟨by show 0 + 1 ≤ 1; omega, by show 8 + (3 + 11) + 0 ≤ 40; omega⟩) hP hK rfl hl.1 rfl (Nat.le_of_ble_eq_true rfl) d_R_tidy_8 ⟨Nat.zero_le _, Nat.zero_le _⟩ ?_
  refine lv_if_eq (tgt := 21) hx hb d_R_tidy_11 (by decide) (fun c11 => ?_) (fun c11 => ?_)
  · refine lv_iconst (v := 0) hx hb d_R_tidy_21 (by decide) ?_
    refine lv_istore_n (lv' := [(2, .int 0), (0, .ref (y 0)), (1, .int (nI x))]) hx hb d_R_tidy_22 rfl hl (by decide) rfl (fun ls hl => ?_)
    refine lv_iconst (v := 0) hx hb d_R_tidy_23 (by decide) ?_
    refine lv_istore_n (lv' := [(3, .int 0), (2, .int 0), (0, .ref (y 0)), (1, .int (nI x))]) hx hb d_R_tidy_24 rfl hl (by decide) rfl (fun ls hl => ?_)
    exact lou 32 0 _ _ hP hD hS rfl ls (lv_sub hl [0, 1, 2] rfl)
  · exact absurd (by decide) c11
