/-! widen: the rows grow. What it costs is booked by the room it reaches. -/
def rmN (N : Mm) : Nat := (N 0 0).toNatClampNeg
def pot (r : Nat) : Nat := 10 * r + (if r = 24800 then 124000 else 0)
def mcW (N N' : Mm) : Nat := rmN N' - rmN N
def msW (N N' : Mm) : Nat := pot (rmN N') - pot (rmN N)
theorem pot_up {R0 R1 : Nat} (h : R0 < R1) (hR : R1 ≤ 24800) (h2 : 2 * R0 ≤ R1 ∨ R1 = 24800) : 5 * R1 ≤ pot R1 - pot R0 := by
  unfold pot
  rw [if_neg (by omega : ¬ R0 = 24800)]
  by_cases c : R1 = 24800
  · rw [if_pos c]; omega
  · rw [if_neg c]; omega
theorem j_max_n {a b : Nat} (ha : a < 2 ^ 31) (hb : b < 2 ^ 31) : j_max (nI a) (nI b) = nI (max a b) := by
  unfold j_max
  by_cases q : a < b
  · rw [if_pos ((nI_ltI ha hb).mpr q), Nat.max_eq_right (by omega)]
  · rw [if_neg (fun z => q ((nI_ltI ha hb).mp z)), Nat.max_eq_left (by omega)]
theorem wroom_e {N : Mm} {R0 : Nat} {x : Int32} (hR : N 0 0 = nI R0) (h2 : R0 ≤ 24800) (h1 : 1024 ≤ R0) (hg : ¬ j_min (x + 2) 24800 ≤ N 0 0) : ∃ R1, j_wroom N x = nI R1 ∧ R0 < R1 ∧ R1 ≤ 24800 ∧ (2 * R0 ≤ R1 ∨ R1 = 24800) := by
  rw [hR] at hg
  have hle : j_min (x + 2) 24800 ≤ nI 24800 := by
    unfold j_min
    by_cases c : (24800 : Int32) < x + 2
    · rw [if_pos c]; exact Int32.le_refl _
    · rw [if_neg c]; exact Int32.not_lt.mp c
  have h0 : ¬ j_min (x + 2) 24800 < 0 := fun q => hg (Int32.le_of_lt (Int32.lt_of_lt_of_le q (nI_pos' (by omega))))
  obtain ⟨k, hk, ek⟩ := nI_of2 (M := nI 24800) (n := 24800) (nI_toInt (by omega)) h0 hle
  rw [ek] at hg
  have hlt : R0 < k := by
    rcases Nat.lt_or_ge R0 k with q | q
    · exact q
    · exact absurd (nI_le q (by omega)) hg
  refine ⟨min (max k (2 * R0)) 24800, ?_, by omega, by omega, by omega⟩
  unfold j_wroom
  rw [ek, hR, show (2 : Int32) = nI 2 from rfl, pk_mul, j_max_n (by omega) (by omega), show (24800 : Int32) = nI 24800 from rfl, j_min_n (by omega) (by omega)]
set_option maxHeartbeats 4000000 in
set_option maxRecDepth 100000 in
theorem c_N_widen (l : Launch) (dC : Nat → ClassId) (dI : Nat → Nat → Nat) (cI : ClassId) (a : Nat → Nat) (N : Mm) (sz : Nat) (x1 : Int32) (R0 : Nat) (hR : N 0 0 = nI R0) (h1 : 1024 ≤ R0) (h2 : R0 ≤ 24800) : Met l y_N_widen (.code y_N_widen b_N_widen 3 none :: W0) ({ frames := 2, cells := mcW N (j_widen N x1), slots := msW N (j_widen N x1), locals := 82 } : Room) (va_Pc [.ref (a 0), .int x1] (nM dC dI cI a N sz)) (va_Qv (fun u : Nat → Nat => u 0 = a 0) (fun u t => nE dC dI cI u (j_widen N x1) (va_A (nW cI a N) sz) t) (va_A (nW cI a N) sz)) (mcW N (j_widen N x1)) (msW N (j_widen N x1)) (va_A (nW cI a N) sz) := by
  refine Met.ofW (cc := b_N_widen) (maxL := 3) (ret := none) (by decide) rfl ?_
  intro p e s m args below meth c s₁ B hml hv
  obtain ⟨rfl, hsz, hP, hK, hD0⟩ := hv
  have hx := B.exec
  have hb := B.bytes
  have hr := B.returns
  have hts1 := atoms_spec (ws := .code y_N_widen b_N_widen 3 none :: W0) B.pre
  have hts : ∀ w ∈ W0, w.before _ s = true := fun w h => hts1 w (List.mem_cons_of_mem _ h)
  have hown : s.vm.findClass R_N = some m.cls := findClass_of_methodNamed B.named
  have hlocks := B.notSynchronized
  subst hsz
  have hD := hD0.self (sz := s.heap.size)
  generalize hAe : va_A (nW cI a N) s.heap.size = A at hD ⊢
  have hA : ∀ q : Nat, s.heap.size ≤ q → A q := fun q h => by rw [← hAe]; exact Or.inr h
  have hS : va_S A s.heap s.heap [] := va_S.rf
  have hP : va_P (dC, dI) cls0 (nW cI a N) s.heap := hP
  have hl := lv_entry ([.ref (a 0), .int x1]) (n := 3) (Nat.le_of_ble_eq_true rfl)
  rw [lg_entry_eq]
  generalize (lg_sl ([.ref (a 0), .int x1]) ++ List.replicate (3 - (lg_sl ([.ref (a 0), .int x1])).length) Slot.unset).toArray = ls at hl ⊢
  have hl : lv_has ls 3 [(0, .ref (a 0)), (1, .int x1)] := hl
  refine lv_iload_n hx hb d_N_widen_0 rfl (lv_at hl 1 rfl) ?_
  refine lv_iconst (v := 2) hx hb d_N_widen_1 (by decide) ?_
  refine lv_iadd hx hb d_N_widen_2 ?_
  refine lv_sipush (v := 24800) hx hb d_N_widen_3 (by decide) ?_
  refine nMin hx hb (hml.trans hl.1.symm) hown hts kml_N_57 (Nat.le_of_ble_eq_true rfl) (Nat.le_of_ble_eq_true rfl) ⟨Nat.zero_le _, Nat.zero_le _⟩ d_N_widen_6 ?_
  refine lv_istore_n (lv' := [(2, .int (j_min (x1 + 2) 24800)), (0, .ref (a 0)), (1, .int x1)]) hx hb d_N_widen_9 rfl hl (by decide) rfl (fun ls hl => ?_)
  refine lv_iload_n hx hb d_N_widen_10 rfl (lv_at hl 0 rfl) ?_
  refine lv_aload_n hx hb d_N_widen_11 rfl (lv_at hl 1 rfl) ?_
  refine va_get (D := (dC, dI)) (ci := 1) (v := .int (N 0 0)) (C := R_N) (T := T_N) (N := 11) hx hb hts in_N hown hK hP 0 rfl rfl 5 (by decide) (hts _ kfl_N_15) (fun _ h9 => h9) rfl d_N_widen_12 ?_
  refine lv_icmp_le (tgt := 55) hx hb d_N_widen_15 (by decide) (fun c15 => ?_) (fun c15 => ?_)
  · have eW : j_widen N x1 = N := by unfold j_widen; rw [if_pos c15]
    rw [eW]
    refine W.widen (k := mcW N N) (n := msW N N) (Nat.zero_le _) (Nat.zero_le _) ?_
    exact W.vret hx hb hr (fun t ht hW => ⟨⟨a, rfl, rfl, by rw [ht]; exact hP, va_K.moved hW.alike hK, hD⟩, hS.F ht⟩) hS.2.2 d_N_widen_55
  · obtain ⟨R1, eR, g1, g2, g3⟩ := wroom_e hR h2 h1 c15
    have eW : j_widen N x1 = fu (up N 0 0 (nI R1)) 1 (va_cpy (N 1) (fun _ => 0) 0 0 (jlen N)) := by unfold j_widen; rw [if_neg c15, eR]
    have eJ0 : jlen N = 5 * R0 := by unfold jlen; rw [hR, nI_clamp (by omega), Nat.min_eq_left h2]
    have eJ1 : jlen (j_widen N x1) = 5 * R1 := by
      rw [eW]
      show 5 * min (nI R1).toNatClampNeg 24800 = 5 * R1
      rw [nI_clamp (by omega), Nat.min_eq_left g2]
    have eM : mcW N (j_widen N x1) = R1 - R0 := by
      rw [eW]
      show (nI R1).toNatClampNeg - (N 0 0).toNatClampNeg = R1 - R0
      rw [hR, nI_clamp (by omega), nI_clamp (by omega)]
    have eP : msW N (j_widen N x1) = pot R1 - pot R0 := by
      rw [eW]
      show pot (nI R1).toNatClampNeg - pot (N 0 0).toNatClampNeg = pot R1 - pot R0
      rw [hR, nI_clamp (by omega), nI_clamp (by omega)]
    have hpot := pot_up g1 g2 g3
    refine lv_aload_n hx hb d_N_widen_18 rfl (lv_at hl 1 rfl) ?_
    refine lv_iload_n hx hb d_N_widen_19 rfl (lv_at hl 0 rfl) ?_
    refine lv_iconst (v := 2) hx hb d_N_widen_20 (by decide) ?_
    refine lv_aload_n hx hb d_N_widen_21 rfl (lv_at hl 1 rfl) ?_
    refine va_get (D := (dC, dI)) (ci := 1) (v := .int (N 0 0)) (C := R_N) (T := T_N) (N := 11) hx hb hts in_N hown hK hP 0 rfl rfl 5 (by decide) (hts _ kfl_N_15) (fun _ h9 => h9) rfl d_N_widen_22 ?_
    refine lv_imul hx hb d_N_widen_25 ?_
    refine nMax hx hb (hml.trans hl.1.symm) hown hts kml_N_90 (Nat.le_of_ble_eq_true rfl) (Nat.le_of_ble_eq_true rfl) ⟨Nat.zero_le _, Nat.zero_le _⟩ d_N_widen_26 ?_
    refine lv_sipush (v := 24800) hx hb d_N_widen_29 (by decide) ?_
    refine nMin hx hb (hml.trans hl.1.symm) hown hts kml_N_57 (Nat.le_of_ble_eq_true rfl) (Nat.le_of_ble_eq_true rfl) ⟨Nat.zero_le _, Nat.zero_le _⟩ d_N_widen_32 ?_
    rw [show j_min (j_max (j_min (x1 + 2) 24800) (2 * N 0 0)) 24800 = nI R1 from eR]
    refine va_put (D := (dC, dI)) (ci := 1) (v := .int (nI R1)) (ty := .int) (C := R_N) (T := T_N) (N := 11) hx hb hts in_N ty_N tk_N nm_N hown hK hP hD hS 0 rfl rfl 5 (by decide) (hts _ kfl_N_15) (fun _ h9 => h9) rfl (by decide +kernel) rfl rfl (Nat.le_of_ble_eq_true rfl) d_N_widen_35 (fun H locs hP hD hS => ?_)
    have hP : va_P (dC, dI) cls0 [(a 0, .inr (1, [.ref (a 1), .ref (a 2), .ref (a 3), .ref (a 4), .ref (a 5), .int (nI R1), .int (N 0 1), .int (N 0 2), .int (N 0 3), .int (N 0 4), .int (N 0 5)])), (a 1, .inl (cI, jlen N, .inl (N 1))), (a 2, .inl (cI, 768, .inl (N 2))), (a 3, .inl (cI, 12, .inl (N 3))), (a 4, .inl (cI, 13, .inl (N 4))), (a 5, .inl (cI, 13, .inl (N 5)))] H := hP
    have hD : va_D A [(a 0, .inr (1, [.ref (a 1), .ref (a 2), .ref (a 3), .ref (a 4), .ref (a 5), .int (nI R1), .int (N 0 1), .int (N 0 2), .int (N 0 3), .int (N 0 4), .int (N 0 5)])), (a 1, .inl (cI, jlen N, .inl (N 1))), (a 2, .inl (cI, 768, .inl (N 2))), (a 3, .inl (cI, 12, .inl (N 3))), (a 4, .inl (cI, 13, .inl (N 4))), (a 5, .inl (cI, 13, .inl (N 5)))] := hD
    refine lv_aload_n hx hb d_N_widen_38 rfl (lv_at hl 1 rfl) ?_
    refine lv_aload_n hx hb d_N_widen_39 rfl (lv_at hl 1 rfl) ?_
    refine va_get (D := (dC, dI)) (ci := 1) (v := .ref (a 1)) (C := R_N) (T := T_N) (N := 11) hx hb hts in_N hown hK hP 0 rfl rfl 0 (by decide) (hts _ kfl_N_11) (fun _ h9 => h9) rfl d_N_widen_40 ?_
    refine lv_aload_n hx hb d_N_widen_43 rfl (lv_at hl 1 rfl) ?_
    refine va_get (D := (dC, dI)) (ci := 1) (v := .int (nI R1)) (C := R_N) (T := T_N) (N := 11) hx hb hts in_N hown hK hP 0 rfl rfl 5 (by decide) (hts _ kfl_N_15) (fun _ h9 => h9) rfl d_N_widen_44 ?_
    refine lv_iconst (v := 5) hx hb d_N_widen_47 (by decide) ?_
    refine lv_imul hx hb d_N_widen_48 ?_
    rw [show nI R1 * 5 = nI (5 * R1) from by rw [show (5 : Int32) = nI 5 from rfl, pk_mul, Nat.mul_comm]]
    have hPc := hP.sub (ws' := [(a 1, .inl (cI, jlen N, .inl (N 1)))]) [1] rfl
    have hDc := hD.sub (ws' := [(a 1, .inl (cI, jlen N, .inl (N 1)))]) [1] (by decide) rfl
    have hFc := va_free (wc := [(a 1, .inl (cI, jlen N, .inl (N 1)))]) hD hS hA [1] rfl
    refine va_callr (va_runS (As := [.ref (a 1), .int (nI (5 * R1))]) (rest := [.ref (a 0)]) ⟨hx, hb, hml, hown, hts⟩ (c_JA_copyOf l dC dI cI (a 1) (jlen N) (5 * R1) (N 1) H.size (by omega) (by omega)) (va_cwS 2 hts (gS kml_N_97 kst_JA_copyOf kin_JA kcd_JA_copyOf) rfl rfl rfl (by decide +kernel) ⟨Nat.le_of_ble_eq_true rfl, Nat.le_of_ble_eq_true rfl⟩) ⟨fun a U g mk q => by obtain ⟨q0, q1, qP, qK, qD⟩ := q; exact ⟨q0, q1, qP, va_K.moved (u := U) (U := U.calling g mk a) (Vm.Alike.refl U.vm) qK, qD⟩, fun U hU hWu => ⟨rfl, by rw [hU], by rw [hU]; exact hPc, va_K.moved hWu.alike hK, hDc.weaken (fun _ _ _ _ => trivial)⟩⟩ rfl rfl hl.1 rfl (lv_room (Nat.le_of_ble_eq_true rfl)) d_N_widen_49 ⟨by show 0 + 1 ≤ mcW N (j_widen N x1); omega, by show 0 + 5 * R1 ≤ msW N (j_widen N x1); omega⟩) hS (fun q _ h => hFc q h) hFc (fun u q t H1 locs ht hvm hw hB hz1 hk1 hS => ?_)
    obtain ⟨hP1, hK1, hD1⟩ := hB
    rw [ht] at hP1
    obtain ⟨hP, hD⟩ := va_join (wr := [(a 0, .inr (1, [.ref (a 1), .ref (a 2), .ref (a 3), .ref (a 4), .ref (a 5), .int (nI R1), .int (N 0 1), .int (N 0 2), .int (N 0 3), .int (N 0 4), .int (N 0 5)])), (a 2, .inl (cI, 768, .inl (N 2))), (a 3, .inl (cI, 12, .inl (N 3))), (a 4, .inl (cI, 13, .inl (N 4))), (a 5, .inl (cI, 13, .inl (N 5)))]) hP hD [1] [0, 2, 3, 4, 5] rfl rfl (by decide) (by decide) hk1 hFc hP1 hD1
    refine va_put (D := (dC, dI)) (ci := 1) (v := .ref q) (ty := .array .int) (C := R_N) (T := T_N) (N := 11) hx hb hts in_N ty_N tk_N nm_N hown hK hP hD hS 0 rfl rfl 0 (by decide) (hts _ kfl_N_11) (fun _ h9 => h9) rfl (by decide +kernel) rfl rfl (Nat.le_of_ble_eq_true rfl) d_N_widen_52 (fun H locs hP hD hS => ?_)
    have hP9 : va_P (dC, dI) cls0 (nW cI (fu a 1 q) (j_widen N x1)) H := by
      show va_P (dC, dI) cls0 [(a 0, .inr (1, [.ref q, .ref (a 2), .ref (a 3), .ref (a 4), .ref (a 5), .int (j_widen N x1 0 0), .int (j_widen N x1 0 1), .int (j_widen N x1 0 2), .int (j_widen N x1 0 3), .int (j_widen N x1 0 4), .int (j_widen N x1 0 5)])), (q, .inl (cI, jlen (j_widen N x1), .inl (j_widen N x1 1))), (a 2, .inl (cI, 768, .inl (j_widen N x1 2))), (a 3, .inl (cI, 12, .inl (j_widen N x1 3))), (a 4, .inl (cI, 13, .inl (j_widen N x1 4))), (a 5, .inl (cI, 13, .inl (j_widen N x1 5)))] H
      rw [eJ1, eW]
      exact hP.sub [0, 6, 1, 2, 3, 4] rfl
    have hD9 : va_D A (nW cI (fu a 1 q) (j_widen N x1)) := by
      show va_D A [(a 0, .inr (1, [.ref q, .ref (a 2), .ref (a 3), .ref (a 4), .ref (a 5), .int (j_widen N x1 0 0), .int (j_widen N x1 0 1), .int (j_widen N x1 0 2), .int (j_widen N x1 0 3), .int (j_widen N x1 0 4), .int (j_widen N x1 0 5)])), (q, .inl (cI, jlen (j_widen N x1), .inl (j_widen N x1 1))), (a 2, .inl (cI, 768, .inl (j_widen N x1 2))), (a 3, .inl (cI, 12, .inl (j_widen N x1 3))), (a 4, .inl (cI, 13, .inl (j_widen N x1 4))), (a 5, .inl (cI, 13, .inl (j_widen N x1 5)))]
      rw [eJ1, eW]
      exact hD.sub [0, 6, 1, 2, 3, 4] (by decide) rfl
    refine W.widen (k := mcW N (j_widen N x1)) (n := msW N (j_widen N x1)) (by omega) (by omega) ?_
    exact W.vret hx hb hr (fun t ht hW => ⟨⟨fu a 1 q, rfl, rfl, by rw [ht]; exact hP9, va_K.moved hW.alike hK, hD9⟩, hS.F ht⟩) hS.2.2 d_N_widen_55
