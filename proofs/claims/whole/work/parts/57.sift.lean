theorem nI_pm (n : Nat) : nI (n + 1) + (-1) = nI n := pk_m1 n
set_option maxHeartbeats 8000000 in
set_option maxRecDepth 100000 in
theorem c_F_turnRound (l : Launch) (dC : Nat → ClassId) (dI : Nat → Nat → Nat) (cI : ClassId) (f : Nat) (a : Nat → Nat) (N : Mm) (sz : Nat) (hN : sok N) : Met l y_F_turnRound (.code y_F_turnRound b_F_turnRound 3 none :: W0) ({ frames := 5, cells := (mcW N (j_trO 11 N)), slots := (msW N (j_trO 11 N)), locals := 140 } : Room) (va_Pc [.ref f] (sM dC dI cI f a N sz)) (va_Qv (fun u : Nat → Nat => u 0 = a 0) (fun u t => sE dC dI cI f u (j_trO 11 N) (va_A (sW cI f a N) sz) t) (va_A (sW cI f a N) sz)) (mcW N (j_trO 11 N)) (msW N (j_trO 11 N)) (va_A (sW cI f a N) sz) := by
  refine Met.ofW (cc := b_F_turnRound) (maxL := 3) (ret := none) (by decide) rfl ?_
  intro p e s m args below meth c s₁ B hml hv
  obtain ⟨rfl, hsz, hP, hK, hD0⟩ := hv
  have hx := B.exec
  have hb := B.bytes
  have hr := B.returns
  have hts1 := atoms_spec (ws := .code y_F_turnRound b_F_turnRound 3 none :: W0) B.pre
  have hts : ∀ w ∈ W0, w.before _ s = true := fun w h => hts1 w (List.mem_cons_of_mem _ h)
  have hown : s.vm.findClass R_F = some m.cls := findClass_of_methodNamed B.named
  have hlocks := B.notSynchronized
  subst hsz
  have hD := hD0.self (sz := s.heap.size)
  generalize hAe : va_A (sW cI f a N) s.heap.size = A at hD ⊢
  have hA : ∀ q : Nat, s.heap.size ≤ q → A q := fun q h => by rw [← hAe]; exact Or.inr h
  have hS : va_S A s.heap s.heap [] := va_S.rf
  have hP : va_P (dC, dI) cls0 (sW cI f a N) s.heap := hP
  have hl := lv_entry ([.ref f]) (n := 3) (Nat.le_of_ble_eq_true rfl)
  rw [lg_entry_eq]
  generalize (lg_sl ([.ref f]) ++ List.replicate (3 - (lg_sl ([.ref f])).length) Slot.unset).toArray = ls at hl ⊢
  have hl : lv_has ls 3 [(0, .ref f)] := hl
  refine W.cs (cells' := mcW N N) (slots' := msW N N) (by unfold mcW; omega) (by unfold msW; omega) ?_
  have loop : ∀ (n : Nat) (N1 : Mm) (u : Nat → Nat) (H : Heap) (locs : List Loc), u 0 = a 0 → sle N N1 → n ≤ 11 → j_trO 11 N = j_trO n N1 → va_P (dC, dI) cls0 (sW cI f u N1) H → va_D A (sW cI f u N1) → va_S A s.heap H locs → ∀ (ls : Array Slot), lv_has ls 3 [(1, .int (nI n)), (0, .ref f)] → W p l e (headSpec (.code y_F_turnRound b_F_turnRound 3 none :: W0) ({ frames := 5, cells := (mcW N (j_trO 11 N)), slots := (msW N (j_trO 11 N)), locals := 140 } : Room)).room s m ([.ref f] : List Value).toArray below meth c H locs (mcW N N1) (msW N N1) (MQ below (va_Qv (fun u : Nat → Nat => u 0 = a 0) (fun u t => sE dC dI cI f u (j_trO 11 N) A t) A) ([.ref f] : List Value).toArray s (mcW N (j_trO 11 N)) (msW N (j_trO 11 N)) A) (F0 m 3 ls []) := by
    intro n
    induction n with
    | zero =>
      intro N1 u H locs hu hN1 hn hr0 hP hD hS ls hl
      refine lv_iload_n hx hb d_F_turnRound_3 rfl (lv_at hl 0 rfl) ?_
      refine lv_if_le (tgt := 34) hx hb d_F_turnRound_4 (by decide) (fun c4 => ?_) (fun c4 => ?_)
      · have eP : j_trO 11 N = N1 := by rw [hr0]; rfl
        refine W.cs (cells' := mcW N (j_trO 11 N)) (slots' := msW N (j_trO 11 N)) (by rw [eP]) (by rw [eP]) ?_
        exact W.vret hx hb hr (fun t ht hW => ⟨⟨u, rfl, hu, by rw [ht, eP]; exact hP, va_K.moved hW.alike hK, by rw [eP]; exact hD⟩, hS.F ht⟩) hS.2.2 d_F_turnRound_34
      · exact absurd (Int32.le_refl _) c4
    | succ n ih =>
      intro N1 u H locs hu hN1 hn hr0 hP hD hS ls hl
      refine lv_iload_n hx hb d_F_turnRound_3 rfl (lv_at hl 0 rfl) ?_
      refine lv_if_le (tgt := 34) hx hb d_F_turnRound_4 (by decide) (fun c4 => ?_) (fun c4 => ?_)
      · exact absurd c4 (nI_nle (by omega) (by omega))
      · refine lv_iconst (v := 0) hx hb d_F_turnRound_7 (by decide) ?_
        refine lv_istore_n (lv' := [(2, .int 0), (1, .int (nI (n + 1))), (0, .ref f)]) hx hb d_F_turnRound_8 rfl hl (by decide) rfl (fun ls hl => ?_)
        have loop2 : ∀ (n2 : Nat) (N1 : Mm) (j : Nat) (u : Nat → Nat) (H : Heap) (locs : List Loc), u 0 = a 0 → sle N N1 → j + n2 = n + 1 → j_trO 11 N = j_trO n (j_trI n2 N1 j) →  va_P (dC, dI) cls0 (sW cI f u N1) H → va_D A (sW cI f u N1) → va_S A s.heap H locs → ∀ (ls : Array Slot), lv_has ls 3 [(2, .int (nI j)), (1, .int (nI (n + 1))), (0, .ref f)] → W p l e (headSpec (.code y_F_turnRound b_F_turnRound 3 none :: W0) ({ frames := 5, cells := (mcW N (j_trO 11 N)), slots := (msW N (j_trO 11 N)), locals := 140 } : Room)).room s m ([.ref f] : List Value).toArray below meth c H locs (mcW N N1) (msW N N1) (MQ below (va_Qv (fun u : Nat → Nat => u 0 = a 0) (fun u t => sE dC dI cI f u (j_trO 11 N) A t) A) ([.ref f] : List Value).toArray s (mcW N (j_trO 11 N)) (msW N (j_trO 11 N)) A) (F0 m 9 ls []) := by
          intro n2
          induction n2 with
          | zero =>
            intro N1 j u H locs hu hN1 hj hr0 hP hD hS ls hl
            refine lv_iload_n hx hb d_F_turnRound_9 rfl (lv_at hl 0 rfl) ?_
            refine lv_iload_n hx hb d_F_turnRound_10 rfl (lv_at hl 1 rfl) ?_
            refine lv_icmp_ge (tgt := 28) hx hb d_F_turnRound_11 (by decide) (fun c11 => ?_) (fun c11 => ?_)
            · refine lv_iinc (v := ((nI (n + 1)) + (-1))) (lv' := [(1, .int ((nI (n + 1)) + (-1))), (2, .int (nI j)), (0, .ref f)]) hx hb d_F_turnRound_28 hl (k := 1) rfl rfl (by decide) rfl (fun ls hl => ?_)
              refine lv_goto (tgt := 3) hx hb d_F_turnRound_31 (by decide) ?_
              rw [nI_pm] at hl
              exact ih _ u H locs hu hN1 (by omega) (by rw [hr0, j_trI]) hP hD hS ls (lv_sub hl [0, 2] rfl)
            · exact absurd (nI_le (by omega) (by omega)) c11
          | succ n2 ih2 =>
            intro N1 j u H locs hu hN1 hj hr0 hP hD hS ls hl
            refine lv_iload_n hx hb d_F_turnRound_9 rfl (lv_at hl 0 rfl) ?_
            refine lv_iload_n hx hb d_F_turnRound_10 rfl (lv_at hl 1 rfl) ?_
            refine lv_icmp_ge (tgt := 28) hx hb d_F_turnRound_11 (by decide) (fun c11 => ?_) (fun c11 => ?_)
            · exact absurd c11 (nI_ge (by omega) (by omega))
            · refine lv_aload_n hx hb d_F_turnRound_14 rfl (lv_at hl 2 rfl) ?_
              refine va_get (D := (dC, dI)) (ci := 4) (v := .ref (u 0)) (C := R_F) (T := T_F) (N := 1) hx hb hts in_F hown hK hP 0 rfl rfl 0 (by decide) (hts _ kfl_F_9) (fun _ h9 => h9) rfl d_F_turnRound_15 ?_
              refine lv_iload_n hx hb d_F_turnRound_18 rfl (lv_at hl 0 rfl) ?_
              have hs2 : sle (j_swap N1 (nI j)) (j_trO 11 N) := by
                rw [hr0, j_trI]
                have q1 := trI_sle n2 (j_swap N1 (nI j)) (j + 1) (sok_swap hN1.1 (kk := j) (by omega)).1 (by omega)
                exact sle_tr q1 (trO_sle n _ q1.1 (by omega))
              obtain ⟨⟨R9, hR9, h91, h92⟩, hv5, -⟩ := id hN1.1
              have hs1 := sok_swap hN1.1 (kk := j) (by omega)
              obtain ⟨b1, b2, b3, b4⟩ := mcW_step hN1 hs1 hs2
              refine sNW (As := [.int (nI j)]) (rest := []) ⟨hx, hb, hml, hown, hts⟩ (c_N_swap l dC dI cI u N1 _ (nI j) R9 hR9 h91 h92 hv5 j (by omega) rfl) (cwV 1 hts (gV kml_F_38 kim_N_swap ksl_N_swap kin_N kcd_N_swap) rfl rfl rfl (by decide +kernel) ⟨by show 4 + 1 ≤ 5; omega, by show 8 + (7 + 11) + 104 ≤ 140; omega⟩) hP hK hD hS hA rfl hl.1 rfl (Nat.le_of_ble_eq_true rfl) d_F_turnRound_19 ⟨by show _ ≤ mcW N (j_trO 11 N); omega, by show _ ≤ msW N (j_trO 11 N); omega⟩ (fun u2 H locs hu2 hP hD hS => ?_)
              refine W.cs (cells' := mcW N (j_swap N1 (nI j))) (slots' := msW N (j_swap N1 (nI j))) b1 b2 ?_
              have hu := hu2.trans hu
              have hN2 := sle_tr hN1 hs1
              refine lv_iinc (v := ((nI j) + 1)) (lv' := [(2, .int ((nI j) + 1)), (1, .int (nI (n + 1))), (0, .ref f)]) hx hb d_F_turnRound_22 hl (k := 0) rfl rfl (by decide) rfl (fun ls hl => ?_)
              refine lv_goto (tgt := 9) hx hb d_F_turnRound_25 (by decide) ?_
              rw [nI_1] at hl
              exact ih2 _ (j + 1) u2 H locs hu hN2 (by omega) (by rw [hr0, j_trI]) hP hD hS ls (lv_sub hl [0, 1, 2] rfl)
        exact loop2 (n + 1) _ 0 u H locs hu hN1 (by omega) (by rw [hr0, j_trO]) hP hD hS ls (lv_sub hl [0, 1, 2] rfl)
  refine lv_bipush (v := 11) hx hb d_F_turnRound_0 (by decide) ?_
  refine lv_istore_n (lv' := [(1, .int 11), (0, .ref f)]) hx hb d_F_turnRound_2 rfl hl (by decide) rfl (fun ls hl => ?_)
  exact loop 11 N a s.heap [] rfl (sle_rf hN) (by omega) rfl hP hD hS ls (lv_sub hl [0, 1] rfl)
