set_option maxHeartbeats 4000000 in
set_option maxRecDepth 100000 in
/-- get(node, field) -/
theorem c_N_get (l : Launch) (dC : Nat → ClassId) (dI : Nat → Nat → Nat) (cI : ClassId) (a : Nat → Nat) (N : Mm) (x1 x2 : Int32) : Met l y_N_get (.code y_N_get b_N_get 4 (some .int) :: W0) r00 (va_Pc [.ref (a 0), .int x1, .int x2] (nR dC dI cI a N)) (QcRead (j_get N x1 x2)) 0 0 (fun _ => False) := by
  refine Met.ofW (cc := b_N_get) (maxL := 4) (ret := (some .int)) (by decide) rfl ?_
  intro p e s m args below meth c s₁ B hml hv
  obtain ⟨rfl, hP, hK⟩ := hv
  have hx := B.exec
  have hb := B.bytes
  have hr := B.returns
  have hts1 := atoms_spec (ws := .code y_N_get b_N_get 4 (some .int) :: W0) B.pre
  have hts : ∀ w ∈ W0, w.before _ s = true := fun w h => hts1 w (List.mem_cons_of_mem _ h)
  have hown : s.vm.findClass R_N = some m.cls := findClass_of_methodNamed B.named
  have hlocks := B.notSynchronized
  have hl := lv_entry ([.ref (a 0), .int x1, .int x2]) (n := 4) (Nat.le_of_ble_eq_true rfl)
  rw [lg_entry_eq]
  generalize (lg_sl ([.ref (a 0), .int x1, .int x2]) ++ List.replicate (4 - (lg_sl ([.ref (a 0), .int x1, .int x2])).length) Slot.unset).toArray = ls at hl ⊢
  have hl : lv_has ls 4 [(0, .ref (a 0)), (1, .int x1), (2, .int x2)] := hl
  refine lv_iload_n hx hb d_N_get_0 rfl (lv_at hl 1 rfl) ?_
  refine lv_iconst (v := 5) hx hb d_N_get_1 (by decide) ?_
  refine lv_imul hx hb d_N_get_2 ?_
  refine lv_iload_n hx hb d_N_get_3 rfl (lv_at hl 2 rfl) ?_
  refine lv_iadd hx hb d_N_get_4 ?_
  refine lv_topi (fun x3 e3 => ?_)
  refine lv_istore_n (lv' := [(3, .int x3), (0, .ref (a 0)), (1, .int x1), (2, .int x2)]) hx hb d_N_get_5 rfl hl (by decide) rfl (fun ls hl => ?_)
  refine lv_iload_n hx hb d_N_get_6 rfl (lv_at hl 0 rfl) ?_
  refine lv_if_lt (tgt := 28) hx hb d_N_get_7 (by decide) (fun c1 => ?_) (fun c1 => ?_)
  · refine lv_iconst (v := 0) hx hb d_N_get_28 (by decide) ?_
    exact W.iret (v := 0) hx hb hr (fun t ht hW => ⟨by unfold j_get; rw [← e3, if_pos c1], ht⟩) (fun q h => by cases h) d_N_get_29
  · refine lv_iload_n hx hb d_N_get_10 rfl (lv_at hl 0 rfl) ?_
    refine lv_aload_n hx hb d_N_get_11 rfl (lv_at hl 1 rfl) ?_
    refine va_get (D := (dC, dI)) (ci := 1) (v := .ref (a 1)) (C := R_N) (T := T_N) (N := 11) hx hb hts in_N hown hK hP 0 rfl rfl 0 (by decide) (hts _ kfl_N_11) (fun _ h9 => h9) rfl d_N_get_12 ?_
    refine va_alen (v := nI (jlen N)) hx hb hK hP 1 0 rfl rfl rfl d_N_get_15 ?_
    refine lv_icmp_ge (tgt := 28) hx hb d_N_get_16 (by decide) (fun c2 => ?_) (fun c2 => ?_)
    · refine lv_iconst (v := 0) hx hb d_N_get_28 (by decide) ?_
      exact W.iret (v := 0) hx hb hr (fun t ht hW => ⟨by unfold j_get; rw [← e3, if_neg c1, if_pos c2], ht⟩) (fun q h => by cases h) d_N_get_29
    · refine lv_aload_n hx hb d_N_get_19 rfl (lv_at hl 1 rfl) ?_
      refine va_get (D := (dC, dI)) (ci := 1) (v := .ref (a 1)) (C := R_N) (T := T_N) (N := 11) hx hb hts in_N hown hK hP 0 rfl rfl 0 (by decide) (hts _ kfl_N_11) (fun _ h9 => h9) rfl d_N_get_20 ?_
      refine lv_iload_n hx hb d_N_get_23 rfl (lv_at hl 0 rfl) ?_
      refine va_iald hx hb hK hP 1 0 rfl rfl (lt_of_in c1 c2 (jlen_lt N)) d_N_get_24 ?_
      refine lv_goto (tgt := 29) hx hb d_N_get_25 (by decide) ?_
      exact W.iret (v := N 1 x3.toNatClampNeg) hx hb hr (fun t ht hW => ⟨by unfold j_get; rw [← e3, if_neg c1, if_neg c2], ht⟩) (fun q h => by cases h) d_N_get_29
