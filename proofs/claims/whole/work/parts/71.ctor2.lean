/-! THE REFERENCE's constructor -/
theorem va_K_sameZ {D : va_G} {cl : List vw_C} {c1 c2 : ClassId} {U : State} (h : va_K D cl [(c1, .boolean), (c2, .boolean)] U) : c2 = c1 := by
  have h1 : U.vm.findClass ("[" ++ FieldType.boolean.toString) = some c1 := (h.2 0 _ rfl).2
  have h2 : U.vm.findClass ("[" ++ FieldType.boolean.toString) = some c2 := (h.2 1 _ rfl).2
  exact Option.some.inj (h2.symm.trans h1)

set_option maxHeartbeats 8000000 in
set_option maxRecDepth 100000 in
theorem c_R_init (l : Launch) (dC : Nat → ClassId) (dI : Nat → Nat → Nat) (cI : ClassId) (y0 : Nat) (sz : Nat) : Met l y_R_init (.code y_R_init b_R_init 1 none :: W0) ({ frames := 1, cells := 3, slots := 139264, locals := 12 } : Room) (va_Pc [.ref y0] (fun U => U.heap.size = sz ∧ va_P (dC, dI) cls0 [(y0, .inr (5, [.int 0, .null, .null, .null]))] U.heap ∧ va_K (dC, dI) cls0 [(cI, .boolean)] U ∧ va_D (fun _ => True) [(y0, .inr (5, [.int 0, .null, .null, .null]))])) (va_Qv (fun u : Nat → Nat => u 0 = y0) (fun u t => va_P (dC, dI) cls0 (dW cI u 0 (fun _ _ => false) (fun _ => false) (fun _ => false)) t.heap ∧ va_K (dC, dI) cls0 [(cI, .boolean)] t ∧ va_D (va_A [(y0, .inr (5, [.int 0, .null, .null, .null]))] sz) (dW cI u 0 (fun _ _ => false) (fun _ => false) (fun _ => false))) (va_A [(y0, .inr (5, [.int 0, .null, .null, .null]))] sz)) 3 139264 (va_A [(y0, .inr (5, [.int 0, .null, .null, .null]))] sz) := by
  refine Met.ofW (cc := b_R_init) (maxL := 1) (ret := none) (by decide) rfl ?_
  intro p e s m args below meth c s₁ B hml hv
  obtain ⟨rfl, hsz, hP, hK, hD0⟩ := hv
  have hx := B.exec
  have hb := B.bytes
  have hr := B.returns
  have hts1 := atoms_spec (ws := .code y_R_init b_R_init 1 none :: W0) B.pre
  have hts : ∀ w ∈ W0, w.before _ s = true := fun w h => hts1 w (List.mem_cons_of_mem _ h)
  have hown : s.vm.findClass R_R = some m.cls := findClass_of_methodNamed B.named
  have hlocks := B.notSynchronized
  have hin : meth.name = "<init>" := (name_of_methodNamed B.named B.method).1
  subst hsz
  have hD := hD0.self (sz := s.heap.size)
  generalize hAe : va_A [(y0, Sum.inr (5, [.int 0, .null, .null, .null]))] s.heap.size = A at hD ⊢
  have hA : ∀ q : Nat, s.heap.size ≤ q → A q := fun q h => by rw [← hAe]; exact Or.inr h
  have hS : va_S A s.heap s.heap [] := va_S.rf
  have hP : va_P (dC, dI) cls0 [(y0, .inr (5, [.int 0, .null, .null, .null]))] s.heap := hP
  have hl := lv_entry ([.ref y0]) (n := 1) (Nat.le_of_ble_eq_true rfl)
  rw [lg_entry_eq]
  generalize (lg_sl ([.ref y0]) ++ List.replicate (1 - (lg_sl ([.ref y0])).length) Slot.unset).toArray = ls at hl ⊢
  have hl : lv_has ls 1 [(0, .ref y0)] := hl
  refine lv_aload_n hx hb d_R_init_0 rfl (lv_at hl 0 rfl) ?_
  refine W.objInit hx hb hown (hts _ kml_R_1) (hts _ kim_obj) (hts _ kcd_obj) rfl (by rw [hml]; exact hl.1) rfl d_R_init_1 (Nat.le_of_ble_eq_true rfl) (Nat.le_of_ble_eq_true rfl) ?_
  refine W.eq (g2 := F0 m 4 ls []) rfl ?_
  refine lv_aload_n hx hb d_R_init_4 rfl (lv_at hl 0 rfl) ?_
  refine lv_ldc (v := 131072) hx hb hown (hts _ kco_R_7) d_R_init_5 ?_
  refine va_newa (atype := .boolean) (N' := 131072) (a0 := (131072, .inl (fun _ => 0))) hx hb (hts _ kac_boolean) rfl hK hP hD hS hA (fun _ => rfl) (by decide) (by decide) (Nat.le_of_ble_eq_true rfl) (Nat.le_of_ble_eq_true rfl) (Nat.le_of_ble_eq_true rfl) d_R_init_7 (fun q7 cA H hK hP hD hS => ?_)
  have hP : va_P (dC, dI) cls0 [(y0, .inr (5, [.int 0, .null, .null, .null])), (q7, .inl (cA, 131072, .inl (fun _ => 0)))] H := hP
  have hD : va_D A [(y0, .inr (5, [.int 0, .null, .null, .null])), (q7, .inl (cA, 131072, .inl (fun _ => 0)))] := hD
  have ec := va_K_sameZ hK
  rw [ec] at hP hD
  have hK := hK.sub (tys' := [(cI, .boolean)]) [0] rfl
  refine va_putF (D := (dC, dI)) (ci := 5) (v := .ref q7) (ty := .array .boolean) (C := R_R) (T := T_R) (N := 4) hx hb hts in_R ty_R tk_R nm_R hown hK hP hD hS 0 rfl rfl 1 (by decide) (hts _ kfl_R_8) (fun _ h9 => h9) rfl hin rfl (by decide +kernel) rfl rfl (Nat.le_of_ble_eq_true rfl) d_R_init_9 (fun H locs hP hD hS => ?_)
  have hP : va_P (dC, dI) cls0 [(y0, .inr (5, [.int 0, .ref q7, .null, .null])), (q7, .inl (cI, 131072, .inl (fun _ => 0)))] H := hP
  have hD : va_D A [(y0, .inr (5, [.int 0, .ref q7, .null, .null])), (q7, .inl (cI, 131072, .inl (fun _ => 0)))] := hD
  refine lv_aload_n hx hb d_R_init_12 rfl (lv_at hl 0 rfl) ?_
  refine lv_sipush (v := 4096) hx hb d_R_init_13 (by decide) ?_
  refine va_newa (atype := .boolean) (N' := 4096) (a0 := (4096, .inl (fun _ => 0))) hx hb (hts _ kac_boolean) rfl hK hP hD hS hA (fun _ => rfl) (by decide) (by decide) (Nat.le_of_ble_eq_true rfl) (Nat.le_of_ble_eq_true rfl) (Nat.le_of_ble_eq_true rfl) d_R_init_16 (fun q16 cA H hK hP hD hS => ?_)
  have hP : va_P (dC, dI) cls0 [(y0, .inr (5, [.int 0, .ref q7, .null, .null])), (q7, .inl (cI, 131072, .inl (fun _ => 0))), (q16, .inl (cA, 4096, .inl (fun _ => 0)))] H := hP
  have hD : va_D A [(y0, .inr (5, [.int 0, .ref q7, .null, .null])), (q7, .inl (cI, 131072, .inl (fun _ => 0))), (q16, .inl (cA, 4096, .inl (fun _ => 0)))] := hD
  have ec := va_K_sameZ hK
  rw [ec] at hP hD
  have hK := hK.sub (tys' := [(cI, .boolean)]) [0] rfl
  refine va_putF (D := (dC, dI)) (ci := 5) (v := .ref q16) (ty := .array .boolean) (C := R_R) (T := T_R) (N := 4) hx hb hts in_R ty_R tk_R nm_R hown hK hP hD hS 0 rfl rfl 2 (by decide) (hts _ kfl_R_14) (fun _ h9 => h9) rfl hin rfl (by decide +kernel) rfl rfl (Nat.le_of_ble_eq_true rfl) d_R_init_18 (fun H locs hP hD hS => ?_)
  have hP : va_P (dC, dI) cls0 [(y0, .inr (5, [.int 0, .ref q7, .ref q16, .null])), (q7, .inl (cI, 131072, .inl (fun _ => 0))), (q16, .inl (cI, 4096, .inl (fun _ => 0)))] H := hP
  have hD : va_D A [(y0, .inr (5, [.int 0, .ref q7, .ref q16, .null])), (q7, .inl (cI, 131072, .inl (fun _ => 0))), (q16, .inl (cI, 4096, .inl (fun _ => 0)))] := hD
  refine lv_aload_n hx hb d_R_init_21 rfl (lv_at hl 0 rfl) ?_
  refine lv_sipush (v := 4096) hx hb d_R_init_22 (by decide) ?_
  refine va_newa (atype := .boolean) (N' := 4096) (a0 := (4096, .inl (fun _ => 0))) hx hb (hts _ kac_boolean) rfl hK hP hD hS hA (fun _ => rfl) (by decide) (by decide) (Nat.le_of_ble_eq_true rfl) (Nat.le_of_ble_eq_true rfl) (Nat.le_of_ble_eq_true rfl) d_R_init_25 (fun q25 cA H hK hP hD hS => ?_)
  have hP : va_P (dC, dI) cls0 [(y0, .inr (5, [.int 0, .ref q7, .ref q16, .null])), (q7, .inl (cI, 131072, .inl (fun _ => 0))), (q16, .inl (cI, 4096, .inl (fun _ => 0))), (q25, .inl (cA, 4096, .inl (fun _ => 0)))] H := hP
  have hD : va_D A [(y0, .inr (5, [.int 0, .ref q7, .ref q16, .null])), (q7, .inl (cI, 131072, .inl (fun _ => 0))), (q16, .inl (cI, 4096, .inl (fun _ => 0))), (q25, .inl (cA, 4096, .inl (fun _ => 0)))] := hD
  have ec := va_K_sameZ hK
  rw [ec] at hP hD
  have hK := hK.sub (tys' := [(cI, .boolean)]) [0] rfl
  refine va_putF (D := (dC, dI)) (ci := 5) (v := .ref q25) (ty := .array .boolean) (C := R_R) (T := T_R) (N := 4) hx hb hts in_R ty_R tk_R nm_R hown hK hP hD hS 0 rfl rfl 3 (by decide) (hts _ kfl_R_17) (fun _ h9 => h9) rfl hin rfl (by decide +kernel) rfl rfl (Nat.le_of_ble_eq_true rfl) d_R_init_27 (fun H locs hP hD hS => ?_)
  have hP : va_P (dC, dI) cls0 [(y0, .inr (5, [.int 0, .ref q7, .ref q16, .ref q25])), (q7, .inl (cI, 131072, .inl (fun _ => 0))), (q16, .inl (cI, 4096, .inl (fun _ => 0))), (q25, .inl (cI, 4096, .inl (fun _ => 0)))] H := hP
  have hD : va_D A [(y0, .inr (5, [.int 0, .ref q7, .ref q16, .ref q25])), (q7, .inl (cI, 131072, .inl (fun _ => 0))), (q16, .inl (cI, 4096, .inl (fun _ => 0))), (q25, .inl (cI, 4096, .inl (fun _ => 0)))] := hD
  refine W.cs (cells' := 3) (slots' := 139264) (by omega) (by omega) ?_
  have hP9 : va_P (dC, dI) cls0 (dW cI (fun k => match k with | 0 => y0 | 1 => q7 | 2 => q16 | _ => q25) 0 (fun _ _ => false) (fun _ => false) (fun _ => false)) H := hP
  have hD9 : va_D A (dW cI (fun k => match k with | 0 => y0 | 1 => q7 | 2 => q16 | _ => q25) 0 (fun _ _ => false) (fun _ => false) (fun _ => false)) := hD
  exact W.vret hx hb hr (fun t ht hW => ⟨⟨(fun k => match k with | 0 => y0 | 1 => q7 | 2 => q16 | _ => q25), rfl, rfl, by rw [ht]; exact hP9, va_K.moved hW.alike hK, hD9⟩, hS.F ht⟩) hS.2.2 d_R_init_30
