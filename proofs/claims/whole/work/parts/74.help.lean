/-! THE LAW's helpers -/
set_option maxHeartbeats 8000000 in
set_option maxRecDepth 100000 in
theorem cL_constant (l : Launch) (dC : Nat → ClassId) (dI : Nat → Nat → Nat) (cI cJ : ClassId) (z a b : Nat → Nat) (N E : Mm) (V : Nat → Int32) (o0 : Nat) (f : Nat → Int64) (sz : Nat) (x1 x2 : Int32) {N' E' : Mm} {V' : Nat → Int32} {mc ms : Nat} {S : Type} {ad : S → Nat → Nat} {post : S → Prop} (hM : Met l y_S_constant (.code y_S_constant b_S_constant 3 none :: W0) ({ frames := 45, cells := mc, slots := ms, locals := 2600 } : Room) (va_Pc [.ref (z 0), .int x1, .int x2] (tM dC dI cI z a b N E V sz)) (va_Qv post (fun u t => tE dC dI cI z (ad u) b N' E' V' (va_A (tW cI z a b N E V) sz) t) (va_A (tW cI z a b N E V) sz)) mc ms (va_A (tW cI z a b N E V) sz)) : Met l y_L_constant (.codeWith y_L_constant b_L_constant 4 (some .int) [(0, 6, 9, 13)] :: W0) ({ frames := 47, cells := mc, slots := ms, locals := 2700 } : Room) (va_Pc [.ref (z 0), .int x1, .int x2] (fun U => lM dC dI cI cJ z a b N E V o0 f sz U ∧ True)) (va_Qi (fun (x : Int32) (_ : (Nat → Nat) × (Nat → Int64)) => x = 0) (fun u t => lE dC dI cI cJ z u.1 b N' E' V' o0 u.2 (va_A (lW cI cJ z a b N E V o0 f) sz) t) (va_A (lW cI cJ z a b N E V o0 f) sz)) mc ms (va_A (lW cI cJ z a b N E V o0 f) sz) := by
  refine va_MetW (cc := b_L_constant) (maxL := 4) (ret := (some .int)) (hh := [(0, 6, 9, 13)]) (by decide) rfl ?_
  intro p e s m args below meth c s₁ B hml hv
  obtain ⟨rfl, ⟨hsz, hP, hK, hD0⟩, -⟩ := hv
  have hx := B.exec
  have hb := B.bytes
  have hr := B.returns
  have hts1 := atoms_spec (ws := .codeWith y_L_constant b_L_constant 4 (some .int) [(0, 6, 9, 13)] :: W0) B.pre
  have hts : ∀ w ∈ W0, w.before _ s = true := fun w h => hts1 w (List.mem_cons_of_mem _ h)
  have htab := vx_table (x := y_L_constant) B (hts1 _ List.mem_cons_self)
  have hown : s.vm.findClass R_L = some m.cls := findClass_of_methodNamed B.named
  have hlocks := B.notSynchronized
  subst hsz
  have hD := hD0.self (sz := s.heap.size)
  generalize hAe : va_A (lW cI cJ z a b N E V o0 f) s.heap.size = A at hD ⊢
  have hA : ∀ q : Nat, s.heap.size ≤ q → A q := fun q h => by rw [← hAe]; exact Or.inr h
  have hS : va_S A s.heap s.heap [] := va_S.rf
  have hP : va_P (dC, dI) cls0 (lW cI cJ z a b N E V o0 f) s.heap := hP
  have hl := lv_entry ([.ref (z 0), .int x1, .int x2]) (n := 4) (Nat.le_of_ble_eq_true rfl)
  rw [lg_entry_eq]
  generalize (lg_sl ([.ref (z 0), .int x1, .int x2]) ++ List.replicate (4 - (lg_sl ([.ref (z 0), .int x1, .int x2])).length) Slot.unset).toArray = ls at hl ⊢
  have hl : lv_has ls 4 [(0, .ref (z 0)), (1, .int x1), (2, .int x2)] := hl
  refine lv_aload_n hx hb d_L_constant_0 rfl (lv_at hl 0 rfl) ?_
  refine lv_iload_n hx hb d_L_constant_1 rfl (lv_at hl 1 rfl) ?_
  refine lv_iload_n hx hb d_L_constant_2 rfl (lv_at hl 2 rfl) ?_
  refine hTv (As := [.int x1, .int x2]) (rest := []) ⟨hx, hb, hml, hown, hts⟩ hM (cwV 2 hts (gV kml_L_7 kim_S_constant ksl_S_constant kin_S kcd_S_constant) rfl rfl rfl (by decide +kernel) ⟨by show 45 + 1 ≤ 47; omega, by show 8 + (3 + 11) + 2600 ≤ 2700; omega⟩) hP hK hD hS hA rfl hl.1 rfl (Nat.le_of_ble_eq_true rfl) d_L_constant_3 ⟨by show 0 + mc ≤ mc; omega, by show 0 + ms ≤ ms; omega⟩ (fun a2 H locs hP hD hS => ?_)
  refine W.cs (cells' := mc) (slots' := ms) (by omega) (by omega) ?_
  refine lv_goto (tgt := 12) hx hb d_L_constant_6 (by decide) ?_
  refine lv_iconst (v := 0) hx hb d_L_constant_12 (by decide) ?_
  exact W.iret (v := 0) hx hb hr (fun t ht hW => ⟨⟨0, (a2, f), rfl, rfl, by rw [ht]; exact hP, va_K.moved hW.alike hK, hD⟩, hS.F ht⟩) hS.2.2 d_L_constant_13

set_option maxHeartbeats 8000000 in
set_option maxRecDepth 100000 in
theorem fL_constant (l : Launch) (dC : Nat → ClassId) (dI : Nat → Nat → Nat) (cI cJ : ClassId) (z a b : Nat → Nat) (N E : Mm) (V : Nat → Int32) (o0 : Nat) (f : Nat → Int64) (sz : Nat) (x1 x2 : Int32) (hlt : l.stackTraces = false) (hno : ¬ (okb x1 32)) : Met l y_L_constant (.codeWith y_L_constant b_L_constant 4 (some .int) [(0, 6, 9, 13)] :: W0) ({ frames := 47, cells := 1, slots := 6, locals := 2700 } : Room) (va_Pc [.ref (z 0), .int x1, .int x2] (fun U => lM dC dI cI cJ z a b N E V o0 f sz U ∧ xZ (va_A (lW cI cJ z a b N E V o0 f) sz) U U.heap)) (va_Qi (fun (x : Int32) (_ : (Nat → Nat) × (Nat → Int64)) => x = 1) (fun u t => lE dC dI cI cJ z u.1 b N E V o0 u.2 (va_A (lW cI cJ z a b N E V o0 f) sz) t) (va_A (lW cI cJ z a b N E V o0 f) sz)) 1 6 (va_A (lW cI cJ z a b N E V o0 f) sz) := by
  refine va_MetW (cc := b_L_constant) (maxL := 4) (ret := (some .int)) (hh := [(0, 6, 9, 13)]) (by decide) rfl ?_
  intro p e s m args below meth c s₁ B hml hv
  obtain ⟨rfl, ⟨hsz, hP, hK, hD0⟩, hZ⟩ := hv
  have hx := B.exec
  have hb := B.bytes
  have hr := B.returns
  have hts1 := atoms_spec (ws := .codeWith y_L_constant b_L_constant 4 (some .int) [(0, 6, 9, 13)] :: W0) B.pre
  have hts : ∀ w ∈ W0, w.before _ s = true := fun w h => hts1 w (List.mem_cons_of_mem _ h)
  have htab := vx_table (x := y_L_constant) B (hts1 _ List.mem_cons_self)
  have hown : s.vm.findClass R_L = some m.cls := findClass_of_methodNamed B.named
  have hlocks := B.notSynchronized
  subst hsz
  have hD := hD0.self (sz := s.heap.size)
  have hZ : xZ (va_A (lW cI cJ z a b N E V o0 f) s.heap.size) s s.heap := hZ
  generalize hAe : va_A (lW cI cJ z a b N E V o0 f) s.heap.size = A at hD hZ ⊢
  have hA : ∀ q : Nat, s.heap.size ≤ q → A q := fun q h => by rw [← hAe]; exact Or.inr h
  have hS : va_S A s.heap s.heap [] := va_S.rf
  have hP : va_P (dC, dI) cls0 (lW cI cJ z a b N E V o0 f) s.heap := hP
  have hl := lv_entry ([.ref (z 0), .int x1, .int x2]) (n := 4) (Nat.le_of_ble_eq_true rfl)
  rw [lg_entry_eq]
  generalize (lg_sl ([.ref (z 0), .int x1, .int x2]) ++ List.replicate (4 - (lg_sl ([.ref (z 0), .int x1, .int x2])).length) Slot.unset).toArray = ls at hl ⊢
  have hl : lv_has ls 4 [(0, .ref (z 0)), (1, .int x1), (2, .int x2)] := hl
  refine lv_aload_n hx hb d_L_constant_0 rfl (lv_at hl 0 rfl) ?_
  refine lv_iload_n hx hb d_L_constant_1 rfl (lv_at hl 1 rfl) ?_
  refine lv_iload_n hx hb d_L_constant_2 rfl (lv_at hl 2 rfl) ?_
  refine hTx (As := [.int x1, .int x2]) (rest := []) ⟨hx, hb, hml, hown, hts⟩ (t_S_constant l hlt (fun _ => False) (z 0) x1 x2 hno) (cwV 2 hts (gV kml_L_7 kim_S_constant ksl_S_constant kin_S kcd_S_constant) rfl rfl rfl (by decide +kernel) ⟨by show 45 + 1 ≤ 47; omega, by show 8 + (3 + 11) + 2600 ≤ 2700; omega⟩) hP hK (hZ.narrow (fun _ h => h.elim)) hS rfl hl.1 rfl (Nat.le_of_ble_eq_true rfl) d_L_constant_3 ⟨by show 0 + 1 ≤ 1; omega, by show 0 + 6 ≤ 6; omega⟩ (fun ce q9 H locs hz hk hS hce hcv hcl => ?_)
  have hP := P_keep hP hk
  refine vx_catch (own := R_L) (name := xIA) hown [] ⟨0, 6, 9, 13⟩ [] htab (fun q h => by cases h) (by decide) (by decide) (hts _ kcl_L_13) (hZ.2.2.1.use _ (by decide)) hce hcv hcl ?_
  refine lv_astore_n (lv' := [(3, .ref q9), (0, .ref (z 0)), (1, .int x1), (2, .int x2)]) hx hb d_L_constant_9 rfl hl (by decide) rfl (fun ls hl => ?_)
  refine lv_iconst (v := 1) hx hb d_L_constant_10 (by decide) ?_
  refine W.cs (cells' := 1) (slots' := 6) (by omega) (by omega) ?_
  exact W.iret (v := 1) hx hb hr (fun t ht hW => ⟨⟨1, (a, f), rfl, rfl, by rw [ht]; exact hP, va_K.moved hW.alike hK, hD⟩, hS.F ht⟩) hS.2.2 d_L_constant_11

set_option maxHeartbeats 8000000 in
set_option maxRecDepth 100000 in
theorem cL_variable (l : Launch) (dC : Nat → ClassId) (dI : Nat → Nat → Nat) (cI cJ : ClassId) (z a b : Nat → Nat) (N E : Mm) (V : Nat → Int32) (o0 : Nat) (f : Nat → Int64) (sz : Nat) (x1 x2 : Int32) {N' E' : Mm} {V' : Nat → Int32} {mc ms : Nat} {S : Type} {ad : S → Nat → Nat} {post : S → Prop} (hM : Met l y_S_variable (.code y_S_variable b_S_variable 3 none :: W0) ({ frames := 45, cells := mc, slots := ms, locals := 2600 } : Room) (va_Pc [.ref (z 0), .int x1, .int x2] (tM dC dI cI z a b N E V sz)) (va_Qv post (fun u t => tE dC dI cI z (ad u) b N' E' V' (va_A (tW cI z a b N E V) sz) t) (va_A (tW cI z a b N E V) sz)) mc ms (va_A (tW cI z a b N E V) sz)) : Met l y_L_variable (.codeWith y_L_variable b_L_variable 4 (some .int) [(0, 6, 9, 13)] :: W0) ({ frames := 47, cells := mc, slots := ms, locals := 2700 } : Room) (va_Pc [.ref (z 0), .int x1, .int x2] (fun U => lM dC dI cI cJ z a b N E V o0 f sz U ∧ True)) (va_Qi (fun (x : Int32) (_ : (Nat → Nat) × (Nat → Int64)) => x = 0) (fun u t => lE dC dI cI cJ z u.1 b N' E' V' o0 u.2 (va_A (lW cI cJ z a b N E V o0 f) sz) t) (va_A (lW cI cJ z a b N E V o0 f) sz)) mc ms (va_A (lW cI cJ z a b N E V o0 f) sz) := by
  refine va_MetW (cc := b_L_variable) (maxL := 4) (ret := (some .int)) (hh := [(0, 6, 9, 13)]) (by decide) rfl ?_
  intro p e s m args below meth c s₁ B hml hv
  obtain ⟨rfl, ⟨hsz, hP, hK, hD0⟩, -⟩ := hv
  have hx := B.exec
  have hb := B.bytes
  have hr := B.returns
  have hts1 := atoms_spec (ws := .codeWith y_L_variable b_L_variable 4 (some .int) [(0, 6, 9, 13)] :: W0) B.pre
  have hts : ∀ w ∈ W0, w.before _ s = true := fun w h => hts1 w (List.mem_cons_of_mem _ h)
  have htab := vx_table (x := y_L_variable) B (hts1 _ List.mem_cons_self)
  have hown : s.vm.findClass R_L = some m.cls := findClass_of_methodNamed B.named
  have hlocks := B.notSynchronized
  subst hsz
  have hD := hD0.self (sz := s.heap.size)
  generalize hAe : va_A (lW cI cJ z a b N E V o0 f) s.heap.size = A at hD ⊢
  have hA : ∀ q : Nat, s.heap.size ≤ q → A q := fun q h => by rw [← hAe]; exact Or.inr h
  have hS : va_S A s.heap s.heap [] := va_S.rf
  have hP : va_P (dC, dI) cls0 (lW cI cJ z a b N E V o0 f) s.heap := hP
  have hl := lv_entry ([.ref (z 0), .int x1, .int x2]) (n := 4) (Nat.le_of_ble_eq_true rfl)
  rw [lg_entry_eq]
  generalize (lg_sl ([.ref (z 0), .int x1, .int x2]) ++ List.replicate (4 - (lg_sl ([.ref (z 0), .int x1, .int x2])).length) Slot.unset).toArray = ls at hl ⊢
  have hl : lv_has ls 4 [(0, .ref (z 0)), (1, .int x1), (2, .int x2)] := hl
  refine lv_aload_n hx hb d_L_variable_0 rfl (lv_at hl 0 rfl) ?_
  refine lv_iload_n hx hb d_L_variable_1 rfl (lv_at hl 1 rfl) ?_
  refine lv_iload_n hx hb d_L_variable_2 rfl (lv_at hl 2 rfl) ?_
  refine hTv (As := [.int x1, .int x2]) (rest := []) ⟨hx, hb, hml, hown, hts⟩ hM (cwV 2 hts (gV kml_L_15 kim_S_variable ksl_S_variable kin_S kcd_S_variable) rfl rfl rfl (by decide +kernel) ⟨by show 45 + 1 ≤ 47; omega, by show 8 + (3 + 11) + 2600 ≤ 2700; omega⟩) hP hK hD hS hA rfl hl.1 rfl (Nat.le_of_ble_eq_true rfl) d_L_variable_3 ⟨by show 0 + mc ≤ mc; omega, by show 0 + ms ≤ ms; omega⟩ (fun a2 H locs hP hD hS => ?_)
  refine W.cs (cells' := mc) (slots' := ms) (by omega) (by omega) ?_
  refine lv_goto (tgt := 12) hx hb d_L_variable_6 (by decide) ?_
  refine lv_iconst (v := 0) hx hb d_L_variable_12 (by decide) ?_
  exact W.iret (v := 0) hx hb hr (fun t ht hW => ⟨⟨0, (a2, f), rfl, rfl, by rw [ht]; exact hP, va_K.moved hW.alike hK, hD⟩, hS.F ht⟩) hS.2.2 d_L_variable_13

set_option maxHeartbeats 8000000 in
set_option maxRecDepth 100000 in
theorem fL_variable (l : Launch) (dC : Nat → ClassId) (dI : Nat → Nat → Nat) (cI cJ : ClassId) (z a b : Nat → Nat) (N E : Mm) (V : Nat → Int32) (o0 : Nat) (f : Nat → Int64) (sz : Nat) (x1 x2 : Int32) (hlt : l.stackTraces = false) (hno : ¬ (okb x1 32 ∧ okb x2 12)) : Met l y_L_variable (.codeWith y_L_variable b_L_variable 4 (some .int) [(0, 6, 9, 13)] :: W0) ({ frames := 47, cells := 1, slots := 6, locals := 2700 } : Room) (va_Pc [.ref (z 0), .int x1, .int x2] (fun U => lM dC dI cI cJ z a b N E V o0 f sz U ∧ xZ (va_A (lW cI cJ z a b N E V o0 f) sz) U U.heap)) (va_Qi (fun (x : Int32) (_ : (Nat → Nat) × (Nat → Int64)) => x = 1) (fun u t => lE dC dI cI cJ z u.1 b N E V o0 u.2 (va_A (lW cI cJ z a b N E V o0 f) sz) t) (va_A (lW cI cJ z a b N E V o0 f) sz)) 1 6 (va_A (lW cI cJ z a b N E V o0 f) sz) := by
  refine va_MetW (cc := b_L_variable) (maxL := 4) (ret := (some .int)) (hh := [(0, 6, 9, 13)]) (by decide) rfl ?_
  intro p e s m args below meth c s₁ B hml hv
  obtain ⟨rfl, ⟨hsz, hP, hK, hD0⟩, hZ⟩ := hv
  have hx := B.exec
  have hb := B.bytes
  have hr := B.returns
  have hts1 := atoms_spec (ws := .codeWith y_L_variable b_L_variable 4 (some .int) [(0, 6, 9, 13)] :: W0) B.pre
  have hts : ∀ w ∈ W0, w.before _ s = true := fun w h => hts1 w (List.mem_cons_of_mem _ h)
  have htab := vx_table (x := y_L_variable) B (hts1 _ List.mem_cons_self)
  have hown : s.vm.findClass R_L = some m.cls := findClass_of_methodNamed B.named
  have hlocks := B.notSynchronized
  subst hsz
  have hD := hD0.self (sz := s.heap.size)
  have hZ : xZ (va_A (lW cI cJ z a b N E V o0 f) s.heap.size) s s.heap := hZ
  generalize hAe : va_A (lW cI cJ z a b N E V o0 f) s.heap.size = A at hD hZ ⊢
  have hA : ∀ q : Nat, s.heap.size ≤ q → A q := fun q h => by rw [← hAe]; exact Or.inr h
  have hS : va_S A s.heap s.heap [] := va_S.rf
  have hP : va_P (dC, dI) cls0 (lW cI cJ z a b N E V o0 f) s.heap := hP
  have hl := lv_entry ([.ref (z 0), .int x1, .int x2]) (n := 4) (Nat.le_of_ble_eq_true rfl)
  rw [lg_entry_eq]
  generalize (lg_sl ([.ref (z 0), .int x1, .int x2]) ++ List.replicate (4 - (lg_sl ([.ref (z 0), .int x1, .int x2])).length) Slot.unset).toArray = ls at hl ⊢
  have hl : lv_has ls 4 [(0, .ref (z 0)), (1, .int x1), (2, .int x2)] := hl
  refine lv_aload_n hx hb d_L_variable_0 rfl (lv_at hl 0 rfl) ?_
  refine lv_iload_n hx hb d_L_variable_1 rfl (lv_at hl 1 rfl) ?_
  refine lv_iload_n hx hb d_L_variable_2 rfl (lv_at hl 2 rfl) ?_
  refine hTx (As := [.int x1, .int x2]) (rest := []) ⟨hx, hb, hml, hown, hts⟩ (t_S_variable l hlt (fun _ => False) (z 0) x1 x2 hno) (cwV 2 hts (gV kml_L_15 kim_S_variable ksl_S_variable kin_S kcd_S_variable) rfl rfl rfl (by decide +kernel) ⟨by show 45 + 1 ≤ 47; omega, by show 8 + (3 + 11) + 2600 ≤ 2700; omega⟩) hP hK (hZ.narrow (fun _ h => h.elim)) hS rfl hl.1 rfl (Nat.le_of_ble_eq_true rfl) d_L_variable_3 ⟨by show 0 + 1 ≤ 1; omega, by show 0 + 6 ≤ 6; omega⟩ (fun ce q9 H locs hz hk hS hce hcv hcl => ?_)
  have hP := P_keep hP hk
  refine vx_catch (own := R_L) (name := xIA) hown [] ⟨0, 6, 9, 13⟩ [] htab (fun q h => by cases h) (by decide) (by decide) (hts _ kcl_L_13) (hZ.2.2.1.use _ (by decide)) hce hcv hcl ?_
  refine lv_astore_n (lv' := [(3, .ref q9), (0, .ref (z 0)), (1, .int x1), (2, .int x2)]) hx hb d_L_variable_9 rfl hl (by decide) rfl (fun ls hl => ?_)
  refine lv_iconst (v := 1) hx hb d_L_variable_10 (by decide) ?_
  refine W.cs (cells' := 1) (slots' := 6) (by omega) (by omega) ?_
  exact W.iret (v := 1) hx hb hr (fun t ht hW => ⟨⟨1, (a, f), rfl, rfl, by rw [ht]; exact hP, va_K.moved hW.alike hK, hD⟩, hS.F ht⟩) hS.2.2 d_L_variable_11

set_option maxHeartbeats 8000000 in
set_option maxRecDepth 100000 in
theorem cL_choose (l : Launch) (dC : Nat → ClassId) (dI : Nat → Nat → Nat) (cI cJ : ClassId) (z a b : Nat → Nat) (N E : Mm) (V : Nat → Int32) (o0 : Nat) (f : Nat → Int64) (sz : Nat) (x1 x2 x3 x4 : Int32) {N' E' : Mm} {V' : Nat → Int32} {r : Int32} {mc ms : Nat} {S : Type} {ad : S → Nat → Nat} {post : Int32 → S → Prop} (hpost : ∀ x u, post x u → x = r) (hM : Met l y_S_choose (.code y_S_choose b_S_choose 5 (some .boolean) :: W0) ({ frames := 45, cells := mc, slots := ms, locals := 2600 } : Room) (va_Pc [.ref (z 0), .int x1, .int x2, .int x3, .int x4] (tM dC dI cI z a b N E V sz)) (va_Qi post (fun u t => tE dC dI cI z (ad u) b N' E' V' (va_A (tW cI z a b N E V) sz) t) (va_A (tW cI z a b N E V) sz)) mc ms (va_A (tW cI z a b N E V) sz)) : Met l y_L_choose (.codeWith y_L_choose b_L_choose 7 (some .int) [(0, 21, 24, 13)] :: W0) ({ frames := 47, cells := mc, slots := ms, locals := 2700 } : Room) (va_Pc [.ref (z 0), .int x1, .int x2, .int x3, .int x4, .ref o0] (fun U => lM dC dI cI cJ z a b N E V o0 f sz U ∧ True)) (va_Qi (fun (x : Int32) (u : (Nat → Nat) × (Nat → Int64)) => x = 0 ∧ u.2 0 = (if r = 0 then 0 else 1 : Int64)) (fun u t => lE dC dI cI cJ z u.1 b N' E' V' o0 u.2 (va_A (lW cI cJ z a b N E V o0 f) sz) t) (va_A (lW cI cJ z a b N E V o0 f) sz)) mc ms (va_A (lW cI cJ z a b N E V o0 f) sz) := by
  refine va_MetW (cc := b_L_choose) (maxL := 7) (ret := (some .int)) (hh := [(0, 21, 24, 13)]) (by decide) rfl ?_
  intro p e s m args below meth c s₁ B hml hv
  obtain ⟨rfl, ⟨hsz, hP, hK, hD0⟩, -⟩ := hv
  have hx := B.exec
  have hb := B.bytes
  have hr := B.returns
  have hts1 := atoms_spec (ws := .codeWith y_L_choose b_L_choose 7 (some .int) [(0, 21, 24, 13)] :: W0) B.pre
  have hts : ∀ w ∈ W0, w.before _ s = true := fun w h => hts1 w (List.mem_cons_of_mem _ h)
  have htab := vx_table (x := y_L_choose) B (hts1 _ List.mem_cons_self)
  have hown : s.vm.findClass R_L = some m.cls := findClass_of_methodNamed B.named
  have hlocks := B.notSynchronized
  subst hsz
  have hD := hD0.self (sz := s.heap.size)
  generalize hAe : va_A (lW cI cJ z a b N E V o0 f) s.heap.size = A at hD ⊢
  have hA : ∀ q : Nat, s.heap.size ≤ q → A q := fun q h => by rw [← hAe]; exact Or.inr h
  have hS : va_S A s.heap s.heap [] := va_S.rf
  have hP : va_P (dC, dI) cls0 (lW cI cJ z a b N E V o0 f) s.heap := hP
  have hl := lv_entry ([.ref (z 0), .int x1, .int x2, .int x3, .int x4, .ref o0]) (n := 7) (Nat.le_of_ble_eq_true rfl)
  rw [lg_entry_eq]
  generalize (lg_sl ([.ref (z 0), .int x1, .int x2, .int x3, .int x4, .ref o0]) ++ List.replicate (7 - (lg_sl ([.ref (z 0), .int x1, .int x2, .int x3, .int x4, .ref o0])).length) Slot.unset).toArray = ls at hl ⊢
  have hl : lv_has ls 7 [(0, .ref (z 0)), (1, .int x1), (2, .int x2), (3, .int x3), (4, .int x4), (5, .ref o0)] := hl
  refine lv_aload hx hb d_L_choose_0 (lv_at hl 5 rfl) ?_
  refine lv_iconst (v := 0) hx hb d_L_choose_2 (by decide) ?_
  refine lv_aload_n hx hb d_L_choose_3 rfl (lv_at hl 0 rfl) ?_
  refine lv_iload_n hx hb d_L_choose_4 rfl (lv_at hl 1 rfl) ?_
  refine lv_iload_n hx hb d_L_choose_5 rfl (lv_at hl 2 rfl) ?_
  refine lv_iload_n hx hb d_L_choose_6 rfl (lv_at hl 3 rfl) ?_
  refine lv_iload hx hb d_L_choose_7 (lv_at hl 4 rfl) ?_
  refine hTi hpost (As := [.int x1, .int x2, .int x3, .int x4]) (rest := [.int 0, .ref o0]) ⟨hx, hb, hml, hown, hts⟩ hM (cwV 4 hts (gV kml_L_19 kim_S_choose ksl_S_choose kin_S kcd_S_choose) rfl rfl rfl (by decide +kernel) ⟨by show 45 + 1 ≤ 47; omega, by show 8 + (5 + 11) + 2600 ≤ 2700; omega⟩) hP hK hD hS hA rfl hl.1 rfl (Nat.le_of_ble_eq_true rfl) d_L_choose_9 ⟨by show 0 + mc ≤ mc; omega, by show 0 + ms ≤ ms; omega⟩ (fun a2 H locs hP hD hS => ?_)
  refine W.cs (cells' := mc) (slots' := ms) (by omega) (by omega) ?_
  refine lv_if_eq (tgt := 19) hx hb d_L_choose_12 (by decide) (fun c12 => ?_) (fun c12 => ?_)
  · refine lv_lconst (v := 0) hx hb d_L_choose_19 (by decide) ?_
    refine va_last hx hb hK hP hD hS 12 1 rfl rfl (vp_in_nI (show 0 < 1 by decide) (by decide)) d_L_choose_20 (fun H locs hP hD hS => ?_)
    refine lv_goto (tgt := 28) hx hb d_L_choose_21 (by decide) ?_
    refine lv_iconst (v := 0) hx hb d_L_choose_28 (by decide) ?_
    exact W.iret (v := 0) hx hb hr (fun t ht hW => ⟨⟨0, (a2, (vp_updL f (0 : Int32).toNatClampNeg 0)), rfl, ⟨rfl, (show (0 : Int64) = _ from (if_pos c12).symm)⟩, by rw [ht]; exact hP, va_K.moved hW.alike hK, hD⟩, hS.F ht⟩) hS.2.2 d_L_choose_29
  · refine lv_lconst (v := 1) hx hb d_L_choose_15 (by decide) ?_
    refine lv_goto (tgt := 20) hx hb d_L_choose_16 (by decide) ?_
    refine va_last hx hb hK hP hD hS 12 1 rfl rfl (vp_in_nI (show 0 < 1 by decide) (by decide)) d_L_choose_20 (fun H locs hP hD hS => ?_)
    refine lv_goto (tgt := 28) hx hb d_L_choose_21 (by decide) ?_
    refine lv_iconst (v := 0) hx hb d_L_choose_28 (by decide) ?_
    exact W.iret (v := 0) hx hb hr (fun t ht hW => ⟨⟨0, (a2, (vp_updL f (0 : Int32).toNatClampNeg 1)), rfl, ⟨rfl, (show (1 : Int64) = _ from (if_neg c12).symm)⟩, by rw [ht]; exact hP, va_K.moved hW.alike hK, hD⟩, hS.F ht⟩) hS.2.2 d_L_choose_29

set_option maxHeartbeats 8000000 in
set_option maxRecDepth 100000 in
theorem fL_choose (l : Launch) (dC : Nat → ClassId) (dI : Nat → Nat → Nat) (cI cJ : ClassId) (z a b : Nat → Nat) (N E : Mm) (V : Nat → Int32) (o0 : Nat) (f : Nat → Int64) (sz : Nat) (x1 x2 x3 x4 : Int32) (hlt : l.stackTraces = false) (hno : ¬ (okb x1 32 ∧ okb x2 32 ∧ okb x3 32 ∧ okb x4 32)) : Met l y_L_choose (.codeWith y_L_choose b_L_choose 7 (some .int) [(0, 21, 24, 13)] :: W0) ({ frames := 47, cells := 1, slots := 6, locals := 2700 } : Room) (va_Pc [.ref (z 0), .int x1, .int x2, .int x3, .int x4, .ref o0] (fun U => lM dC dI cI cJ z a b N E V o0 f sz U ∧ xZ (va_A (lW cI cJ z a b N E V o0 f) sz) U U.heap)) (va_Qi (fun (x : Int32) (_ : (Nat → Nat) × (Nat → Int64)) => x = 1) (fun u t => lE dC dI cI cJ z u.1 b N E V o0 u.2 (va_A (lW cI cJ z a b N E V o0 f) sz) t) (va_A (lW cI cJ z a b N E V o0 f) sz)) 1 6 (va_A (lW cI cJ z a b N E V o0 f) sz) := by
  refine va_MetW (cc := b_L_choose) (maxL := 7) (ret := (some .int)) (hh := [(0, 21, 24, 13)]) (by decide) rfl ?_
  intro p e s m args below meth c s₁ B hml hv
  obtain ⟨rfl, ⟨hsz, hP, hK, hD0⟩, hZ⟩ := hv
  have hx := B.exec
  have hb := B.bytes
  have hr := B.returns
  have hts1 := atoms_spec (ws := .codeWith y_L_choose b_L_choose 7 (some .int) [(0, 21, 24, 13)] :: W0) B.pre
  have hts : ∀ w ∈ W0, w.before _ s = true := fun w h => hts1 w (List.mem_cons_of_mem _ h)
  have htab := vx_table (x := y_L_choose) B (hts1 _ List.mem_cons_self)
  have hown : s.vm.findClass R_L = some m.cls := findClass_of_methodNamed B.named
  have hlocks := B.notSynchronized
  subst hsz
  have hD := hD0.self (sz := s.heap.size)
  have hZ : xZ (va_A (lW cI cJ z a b N E V o0 f) s.heap.size) s s.heap := hZ
  generalize hAe : va_A (lW cI cJ z a b N E V o0 f) s.heap.size = A at hD hZ ⊢
  have hA : ∀ q : Nat, s.heap.size ≤ q → A q := fun q h => by rw [← hAe]; exact Or.inr h
  have hS : va_S A s.heap s.heap [] := va_S.rf
  have hP : va_P (dC, dI) cls0 (lW cI cJ z a b N E V o0 f) s.heap := hP
  have hl := lv_entry ([.ref (z 0), .int x1, .int x2, .int x3, .int x4, .ref o0]) (n := 7) (Nat.le_of_ble_eq_true rfl)
  rw [lg_entry_eq]
  generalize (lg_sl ([.ref (z 0), .int x1, .int x2, .int x3, .int x4, .ref o0]) ++ List.replicate (7 - (lg_sl ([.ref (z 0), .int x1, .int x2, .int x3, .int x4, .ref o0])).length) Slot.unset).toArray = ls at hl ⊢
  have hl : lv_has ls 7 [(0, .ref (z 0)), (1, .int x1), (2, .int x2), (3, .int x3), (4, .int x4), (5, .ref o0)] := hl
  refine lv_aload hx hb d_L_choose_0 (lv_at hl 5 rfl) ?_
  refine lv_iconst (v := 0) hx hb d_L_choose_2 (by decide) ?_
  refine lv_aload_n hx hb d_L_choose_3 rfl (lv_at hl 0 rfl) ?_
  refine lv_iload_n hx hb d_L_choose_4 rfl (lv_at hl 1 rfl) ?_
  refine lv_iload_n hx hb d_L_choose_5 rfl (lv_at hl 2 rfl) ?_
  refine lv_iload_n hx hb d_L_choose_6 rfl (lv_at hl 3 rfl) ?_
  refine lv_iload hx hb d_L_choose_7 (lv_at hl 4 rfl) ?_
  refine hTx (As := [.int x1, .int x2, .int x3, .int x4]) (rest := [.int 0, .ref o0]) ⟨hx, hb, hml, hown, hts⟩ (t_S_choose l hlt (fun _ => False) (z 0) x1 x2 x3 x4 hno) (cwV 4 hts (gV kml_L_19 kim_S_choose ksl_S_choose kin_S kcd_S_choose) rfl rfl rfl (by decide +kernel) ⟨by show 45 + 1 ≤ 47; omega, by show 8 + (5 + 11) + 2600 ≤ 2700; omega⟩) hP hK (hZ.narrow (fun _ h => h.elim)) hS rfl hl.1 rfl (Nat.le_of_ble_eq_true rfl) d_L_choose_9 ⟨by show 0 + 1 ≤ 1; omega, by show 0 + 6 ≤ 6; omega⟩ (fun ce q9 H locs hz hk hS hce hcv hcl => ?_)
  have hP := P_keep hP hk
  refine vx_catch (own := R_L) (name := xIA) hown [] ⟨0, 21, 24, 13⟩ [] htab (fun q h => by cases h) (by decide) (by decide) (hts _ kcl_L_13) (hZ.2.2.1.use _ (by decide)) hce hcv hcl ?_
  refine lv_astore (lv' := [(6, .ref q9), (0, .ref (z 0)), (1, .int x1), (2, .int x2), (3, .int x3), (4, .int x4), (5, .ref o0)]) hx hb d_L_choose_24 hl (by decide) rfl (fun ls hl => ?_)
  refine lv_iconst (v := 1) hx hb d_L_choose_26 (by decide) ?_
  refine W.cs (cells' := 1) (slots' := 6) (by omega) (by omega) ?_
  exact W.iret (v := 1) hx hb hr (fun t ht hW => ⟨⟨1, (a, f), rfl, rfl, by rw [ht]; exact hP, va_K.moved hW.alike hK, hD⟩, hS.F ht⟩) hS.2.2 d_L_choose_27

set_option maxHeartbeats 8000000 in
set_option maxRecDepth 100000 in
theorem cL_join (l : Launch) (dC : Nat → ClassId) (dI : Nat → Nat → Nat) (cI cJ : ClassId) (z a b : Nat → Nat) (N E : Mm) (V : Nat → Int32) (o0 : Nat) (f : Nat → Int64) (sz : Nat) (x1 x2 x3 x4 : Int32) {N' E' : Mm} {V' : Nat → Int32} {r : Int32} {mc ms : Nat} {S : Type} {ad : S → Nat → Nat} {post : Int32 → S → Prop} (hpost : ∀ x u, post x u → x = r) (hM : Met l y_S_join (.code y_S_join b_S_join 5 (some .boolean) :: W0) ({ frames := 45, cells := mc, slots := ms, locals := 2600 } : Room) (va_Pc [.ref (z 0), .int x1, .int x2, .int x3, .int x4] (tM dC dI cI z a b N E V sz)) (va_Qi post (fun u t => tE dC dI cI z (ad u) b N' E' V' (va_A (tW cI z a b N E V) sz) t) (va_A (tW cI z a b N E V) sz)) mc ms (va_A (tW cI z a b N E V) sz)) : Met l y_L_join (.codeWith y_L_join b_L_join 7 (some .int) [(0, 21, 24, 13)] :: W0) ({ frames := 47, cells := mc, slots := ms, locals := 2700 } : Room) (va_Pc [.ref (z 0), .int x1, .int x2, .int x3, .int x4, .ref o0] (fun U => lM dC dI cI cJ z a b N E V o0 f sz U ∧ True)) (va_Qi (fun (x : Int32) (u : (Nat → Nat) × (Nat → Int64)) => x = 0 ∧ u.2 0 = (if r = 0 then 0 else 1 : Int64)) (fun u t => lE dC dI cI cJ z u.1 b N' E' V' o0 u.2 (va_A (lW cI cJ z a b N E V o0 f) sz) t) (va_A (lW cI cJ z a b N E V o0 f) sz)) mc ms (va_A (lW cI cJ z a b N E V o0 f) sz) := by
  refine va_MetW (cc := b_L_join) (maxL := 7) (ret := (some .int)) (hh := [(0, 21, 24, 13)]) (by decide) rfl ?_
  intro p e s m args below meth c s₁ B hml hv
  obtain ⟨rfl, ⟨hsz, hP, hK, hD0⟩, -⟩ := hv
  have hx := B.exec
  have hb := B.bytes
  have hr := B.returns
  have hts1 := atoms_spec (ws := .codeWith y_L_join b_L_join 7 (some .int) [(0, 21, 24, 13)] :: W0) B.pre
  have hts : ∀ w ∈ W0, w.before _ s = true := fun w h => hts1 w (List.mem_cons_of_mem _ h)
  have htab := vx_table (x := y_L_join) B (hts1 _ List.mem_cons_self)
  have hown : s.vm.findClass R_L = some m.cls := findClass_of_methodNamed B.named
  have hlocks := B.notSynchronized
  subst hsz
  have hD := hD0.self (sz := s.heap.size)
  generalize hAe : va_A (lW cI cJ z a b N E V o0 f) s.heap.size = A at hD ⊢
  have hA : ∀ q : Nat, s.heap.size ≤ q → A q := fun q h => by rw [← hAe]; exact Or.inr h
  have hS : va_S A s.heap s.heap [] := va_S.rf
  have hP : va_P (dC, dI) cls0 (lW cI cJ z a b N E V o0 f) s.heap := hP
  have hl := lv_entry ([.ref (z 0), .int x1, .int x2, .int x3, .int x4, .ref o0]) (n := 7) (Nat.le_of_ble_eq_true rfl)
  rw [lg_entry_eq]
  generalize (lg_sl ([.ref (z 0), .int x1, .int x2, .int x3, .int x4, .ref o0]) ++ List.replicate (7 - (lg_sl ([.ref (z 0), .int x1, .int x2, .int x3, .int x4, .ref o0])).length) Slot.unset).toArray = ls at hl ⊢
  have hl : lv_has ls 7 [(0, .ref (z 0)), (1, .int x1), (2, .int x2), (3, .int x3), (4, .int x4), (5, .ref o0)] := hl
  refine lv_aload hx hb d_L_join_0 (lv_at hl 5 rfl) ?_
  refine lv_iconst (v := 0) hx hb d_L_join_2 (by decide) ?_
  refine lv_aload_n hx hb d_L_join_3 rfl (lv_at hl 0 rfl) ?_
  refine lv_iload_n hx hb d_L_join_4 rfl (lv_at hl 1 rfl) ?_
  refine lv_iload_n hx hb d_L_join_5 rfl (lv_at hl 2 rfl) ?_
  refine lv_iload_n hx hb d_L_join_6 rfl (lv_at hl 3 rfl) ?_
  refine lv_iload hx hb d_L_join_7 (lv_at hl 4 rfl) ?_
  refine hTi hpost (As := [.int x1, .int x2, .int x3, .int x4]) (rest := [.int 0, .ref o0]) ⟨hx, hb, hml, hown, hts⟩ hM (cwV 4 hts (gV kml_L_23 kim_S_join ksl_S_join kin_S kcd_S_join) rfl rfl rfl (by decide +kernel) ⟨by show 45 + 1 ≤ 47; omega, by show 8 + (5 + 11) + 2600 ≤ 2700; omega⟩) hP hK hD hS hA rfl hl.1 rfl (Nat.le_of_ble_eq_true rfl) d_L_join_9 ⟨by show 0 + mc ≤ mc; omega, by show 0 + ms ≤ ms; omega⟩ (fun a2 H locs hP hD hS => ?_)
  refine W.cs (cells' := mc) (slots' := ms) (by omega) (by omega) ?_
  refine lv_if_eq (tgt := 19) hx hb d_L_join_12 (by decide) (fun c12 => ?_) (fun c12 => ?_)
  · refine lv_lconst (v := 0) hx hb d_L_join_19 (by decide) ?_
    refine va_last hx hb hK hP hD hS 12 1 rfl rfl (vp_in_nI (show 0 < 1 by decide) (by decide)) d_L_join_20 (fun H locs hP hD hS => ?_)
    refine lv_goto (tgt := 28) hx hb d_L_join_21 (by decide) ?_
    refine lv_iconst (v := 0) hx hb d_L_join_28 (by decide) ?_
    exact W.iret (v := 0) hx hb hr (fun t ht hW => ⟨⟨0, (a2, (vp_updL f (0 : Int32).toNatClampNeg 0)), rfl, ⟨rfl, (show (0 : Int64) = _ from (if_pos c12).symm)⟩, by rw [ht]; exact hP, va_K.moved hW.alike hK, hD⟩, hS.F ht⟩) hS.2.2 d_L_join_29
  · refine lv_lconst (v := 1) hx hb d_L_join_15 (by decide) ?_
    refine lv_goto (tgt := 20) hx hb d_L_join_16 (by decide) ?_
    refine va_last hx hb hK hP hD hS 12 1 rfl rfl (vp_in_nI (show 0 < 1 by decide) (by decide)) d_L_join_20 (fun H locs hP hD hS => ?_)
    refine lv_goto (tgt := 28) hx hb d_L_join_21 (by decide) ?_
    refine lv_iconst (v := 0) hx hb d_L_join_28 (by decide) ?_
    exact W.iret (v := 0) hx hb hr (fun t ht hW => ⟨⟨0, (a2, (vp_updL f (0 : Int32).toNatClampNeg 1)), rfl, ⟨rfl, (show (1 : Int64) = _ from (if_neg c12).symm)⟩, by rw [ht]; exact hP, va_K.moved hW.alike hK, hD⟩, hS.F ht⟩) hS.2.2 d_L_join_29

set_option maxHeartbeats 8000000 in
set_option maxRecDepth 100000 in
theorem fL_join (l : Launch) (dC : Nat → ClassId) (dI : Nat → Nat → Nat) (cI cJ : ClassId) (z a b : Nat → Nat) (N E : Mm) (V : Nat → Int32) (o0 : Nat) (f : Nat → Int64) (sz : Nat) (x1 x2 x3 x4 : Int32) (hlt : l.stackTraces = false) (hno : ¬ (okb x1 32 ∧ okb x2 5 ∧ okb x3 32 ∧ okb x4 32)) : Met l y_L_join (.codeWith y_L_join b_L_join 7 (some .int) [(0, 21, 24, 13)] :: W0) ({ frames := 47, cells := 1, slots := 6, locals := 2700 } : Room) (va_Pc [.ref (z 0), .int x1, .int x2, .int x3, .int x4, .ref o0] (fun U => lM dC dI cI cJ z a b N E V o0 f sz U ∧ xZ (va_A (lW cI cJ z a b N E V o0 f) sz) U U.heap)) (va_Qi (fun (x : Int32) (_ : (Nat → Nat) × (Nat → Int64)) => x = 1) (fun u t => lE dC dI cI cJ z u.1 b N E V o0 u.2 (va_A (lW cI cJ z a b N E V o0 f) sz) t) (va_A (lW cI cJ z a b N E V o0 f) sz)) 1 6 (va_A (lW cI cJ z a b N E V o0 f) sz) := by
  refine va_MetW (cc := b_L_join) (maxL := 7) (ret := (some .int)) (hh := [(0, 21, 24, 13)]) (by decide) rfl ?_
  intro p e s m args below meth c s₁ B hml hv
  obtain ⟨rfl, ⟨hsz, hP, hK, hD0⟩, hZ⟩ := hv
  have hx := B.exec
  have hb := B.bytes
  have hr := B.returns
  have hts1 := atoms_spec (ws := .codeWith y_L_join b_L_join 7 (some .int) [(0, 21, 24, 13)] :: W0) B.pre
  have hts : ∀ w ∈ W0, w.before _ s = true := fun w h => hts1 w (List.mem_cons_of_mem _ h)
  have htab := vx_table (x := y_L_join) B (hts1 _ List.mem_cons_self)
  have hown : s.vm.findClass R_L = some m.cls := findClass_of_methodNamed B.named
  have hlocks := B.notSynchronized
  subst hsz
  have hD := hD0.self (sz := s.heap.size)
  have hZ : xZ (va_A (lW cI cJ z a b N E V o0 f) s.heap.size) s s.heap := hZ
  generalize hAe : va_A (lW cI cJ z a b N E V o0 f) s.heap.size = A at hD hZ ⊢
  have hA : ∀ q : Nat, s.heap.size ≤ q → A q := fun q h => by rw [← hAe]; exact Or.inr h
  have hS : va_S A s.heap s.heap [] := va_S.rf
  have hP : va_P (dC, dI) cls0 (lW cI cJ z a b N E V o0 f) s.heap := hP
  have hl := lv_entry ([.ref (z 0), .int x1, .int x2, .int x3, .int x4, .ref o0]) (n := 7) (Nat.le_of_ble_eq_true rfl)
  rw [lg_entry_eq]
  generalize (lg_sl ([.ref (z 0), .int x1, .int x2, .int x3, .int x4, .ref o0]) ++ List.replicate (7 - (lg_sl ([.ref (z 0), .int x1, .int x2, .int x3, .int x4, .ref o0])).length) Slot.unset).toArray = ls at hl ⊢
  have hl : lv_has ls 7 [(0, .ref (z 0)), (1, .int x1), (2, .int x2), (3, .int x3), (4, .int x4), (5, .ref o0)] := hl
  refine lv_aload hx hb d_L_join_0 (lv_at hl 5 rfl) ?_
  refine lv_iconst (v := 0) hx hb d_L_join_2 (by decide) ?_
  refine lv_aload_n hx hb d_L_join_3 rfl (lv_at hl 0 rfl) ?_
  refine lv_iload_n hx hb d_L_join_4 rfl (lv_at hl 1 rfl) ?_
  refine lv_iload_n hx hb d_L_join_5 rfl (lv_at hl 2 rfl) ?_
  refine lv_iload_n hx hb d_L_join_6 rfl (lv_at hl 3 rfl) ?_
  refine lv_iload hx hb d_L_join_7 (lv_at hl 4 rfl) ?_
  refine hTx (As := [.int x1, .int x2, .int x3, .int x4]) (rest := [.int 0, .ref o0]) ⟨hx, hb, hml, hown, hts⟩ (t_S_join l hlt (fun _ => False) (z 0) x1 x2 x3 x4 hno) (cwV 4 hts (gV kml_L_23 kim_S_join ksl_S_join kin_S kcd_S_join) rfl rfl rfl (by decide +kernel) ⟨by show 45 + 1 ≤ 47; omega, by show 8 + (5 + 11) + 2600 ≤ 2700; omega⟩) hP hK (hZ.narrow (fun _ h => h.elim)) hS rfl hl.1 rfl (Nat.le_of_ble_eq_true rfl) d_L_join_9 ⟨by show 0 + 1 ≤ 1; omega, by show 0 + 6 ≤ 6; omega⟩ (fun ce q9 H locs hz hk hS hce hcv hcl => ?_)
  have hP := P_keep hP hk
  refine vx_catch (own := R_L) (name := xIA) hown [] ⟨0, 21, 24, 13⟩ [] htab (fun q h => by cases h) (by decide) (by decide) (hts _ kcl_L_13) (hZ.2.2.1.use _ (by decide)) hce hcv hcl ?_
  refine lv_astore (lv' := [(6, .ref q9), (0, .ref (z 0)), (1, .int x1), (2, .int x2), (3, .int x3), (4, .int x4), (5, .ref o0)]) hx hb d_L_join_24 hl (by decide) rfl (fun ls hl => ?_)
  refine lv_iconst (v := 1) hx hb d_L_join_26 (by decide) ?_
  refine W.cs (cells' := 1) (slots' := 6) (by omega) (by omega) ?_
  exact W.iret (v := 1) hx hb hr (fun t ht hW => ⟨⟨1, (a, f), rfl, rfl, by rw [ht]; exact hP, va_K.moved hW.alike hK, hD⟩, hS.F ht⟩) hS.2.2 d_L_join_27

set_option maxHeartbeats 8000000 in
set_option maxRecDepth 100000 in
theorem cL_some (l : Launch) (dC : Nat → ClassId) (dI : Nat → Nat → Nat) (cI cJ : ClassId) (z a b : Nat → Nat) (N E : Mm) (V : Nat → Int32) (o0 : Nat) (f : Nat → Int64) (sz : Nat) (x1 x2 x3 x4 : Int32) {N' E' : Mm} {V' : Nat → Int32} {r : Int32} {mc ms : Nat} {S : Type} {ad : S → Nat → Nat} {post : Int32 → S → Prop} (hpost : ∀ x u, post x u → x = r) (hM : Met l y_S_some (.code y_S_some b_S_some 5 (some .boolean) :: W0) ({ frames := 45, cells := mc, slots := ms, locals := 2600 } : Room) (va_Pc [.ref (z 0), .int x1, .int x2, .int x3, .int x4] (tM dC dI cI z a b N E V sz)) (va_Qi post (fun u t => tE dC dI cI z (ad u) b N' E' V' (va_A (tW cI z a b N E V) sz) t) (va_A (tW cI z a b N E V) sz)) mc ms (va_A (tW cI z a b N E V) sz)) : Met l y_L_some (.codeWith y_L_some b_L_some 7 (some .int) [(0, 21, 24, 13)] :: W0) ({ frames := 47, cells := mc, slots := ms, locals := 2700 } : Room) (va_Pc [.ref (z 0), .int x1, .int x2, .int x3, .int x4, .ref o0] (fun U => lM dC dI cI cJ z a b N E V o0 f sz U ∧ True)) (va_Qi (fun (x : Int32) (u : (Nat → Nat) × (Nat → Int64)) => x = 0 ∧ u.2 0 = (if r = 0 then 0 else 1 : Int64)) (fun u t => lE dC dI cI cJ z u.1 b N' E' V' o0 u.2 (va_A (lW cI cJ z a b N E V o0 f) sz) t) (va_A (lW cI cJ z a b N E V o0 f) sz)) mc ms (va_A (lW cI cJ z a b N E V o0 f) sz) := by
  refine va_MetW (cc := b_L_some) (maxL := 7) (ret := (some .int)) (hh := [(0, 21, 24, 13)]) (by decide) rfl ?_
  intro p e s m args below meth c s₁ B hml hv
  obtain ⟨rfl, ⟨hsz, hP, hK, hD0⟩, -⟩ := hv
  have hx := B.exec
  have hb := B.bytes
  have hr := B.returns
  have hts1 := atoms_spec (ws := .codeWith y_L_some b_L_some 7 (some .int) [(0, 21, 24, 13)] :: W0) B.pre
  have hts : ∀ w ∈ W0, w.before _ s = true := fun w h => hts1 w (List.mem_cons_of_mem _ h)
  have htab := vx_table (x := y_L_some) B (hts1 _ List.mem_cons_self)
  have hown : s.vm.findClass R_L = some m.cls := findClass_of_methodNamed B.named
  have hlocks := B.notSynchronized
  subst hsz
  have hD := hD0.self (sz := s.heap.size)
  generalize hAe : va_A (lW cI cJ z a b N E V o0 f) s.heap.size = A at hD ⊢
  have hA : ∀ q : Nat, s.heap.size ≤ q → A q := fun q h => by rw [← hAe]; exact Or.inr h
  have hS : va_S A s.heap s.heap [] := va_S.rf
  have hP : va_P (dC, dI) cls0 (lW cI cJ z a b N E V o0 f) s.heap := hP
  have hl := lv_entry ([.ref (z 0), .int x1, .int x2, .int x3, .int x4, .ref o0]) (n := 7) (Nat.le_of_ble_eq_true rfl)
  rw [lg_entry_eq]
  generalize (lg_sl ([.ref (z 0), .int x1, .int x2, .int x3, .int x4, .ref o0]) ++ List.replicate (7 - (lg_sl ([.ref (z 0), .int x1, .int x2, .int x3, .int x4, .ref o0])).length) Slot.unset).toArray = ls at hl ⊢
  have hl : lv_has ls 7 [(0, .ref (z 0)), (1, .int x1), (2, .int x2), (3, .int x3), (4, .int x4), (5, .ref o0)] := hl
  refine lv_aload hx hb d_L_some_0 (lv_at hl 5 rfl) ?_
  refine lv_iconst (v := 0) hx hb d_L_some_2 (by decide) ?_
  refine lv_aload_n hx hb d_L_some_3 rfl (lv_at hl 0 rfl) ?_
  refine lv_iload_n hx hb d_L_some_4 rfl (lv_at hl 1 rfl) ?_
  refine lv_iload_n hx hb d_L_some_5 rfl (lv_at hl 2 rfl) ?_
  refine lv_iload_n hx hb d_L_some_6 rfl (lv_at hl 3 rfl) ?_
  refine lv_iload hx hb d_L_some_7 (lv_at hl 4 rfl) ?_
  refine hTi hpost (As := [.int x1, .int x2, .int x3, .int x4]) (rest := [.int 0, .ref o0]) ⟨hx, hb, hml, hown, hts⟩ hM (cwV 4 hts (gV kml_L_26 kim_S_some ksl_S_some kin_S kcd_S_some) rfl rfl rfl (by decide +kernel) ⟨by show 45 + 1 ≤ 47; omega, by show 8 + (5 + 11) + 2600 ≤ 2700; omega⟩) hP hK hD hS hA rfl hl.1 rfl (Nat.le_of_ble_eq_true rfl) d_L_some_9 ⟨by show 0 + mc ≤ mc; omega, by show 0 + ms ≤ ms; omega⟩ (fun a2 H locs hP hD hS => ?_)
  refine W.cs (cells' := mc) (slots' := ms) (by omega) (by omega) ?_
  refine lv_if_eq (tgt := 19) hx hb d_L_some_12 (by decide) (fun c12 => ?_) (fun c12 => ?_)
  · refine lv_lconst (v := 0) hx hb d_L_some_19 (by decide) ?_
    refine va_last hx hb hK hP hD hS 12 1 rfl rfl (vp_in_nI (show 0 < 1 by decide) (by decide)) d_L_some_20 (fun H locs hP hD hS => ?_)
    refine lv_goto (tgt := 28) hx hb d_L_some_21 (by decide) ?_
    refine lv_iconst (v := 0) hx hb d_L_some_28 (by decide) ?_
    exact W.iret (v := 0) hx hb hr (fun t ht hW => ⟨⟨0, (a2, (vp_updL f (0 : Int32).toNatClampNeg 0)), rfl, ⟨rfl, (show (0 : Int64) = _ from (if_pos c12).symm)⟩, by rw [ht]; exact hP, va_K.moved hW.alike hK, hD⟩, hS.F ht⟩) hS.2.2 d_L_some_29
  · refine lv_lconst (v := 1) hx hb d_L_some_15 (by decide) ?_
    refine lv_goto (tgt := 20) hx hb d_L_some_16 (by decide) ?_
    refine va_last hx hb hK hP hD hS 12 1 rfl rfl (vp_in_nI (show 0 < 1 by decide) (by decide)) d_L_some_20 (fun H locs hP hD hS => ?_)
    refine lv_goto (tgt := 28) hx hb d_L_some_21 (by decide) ?_
    refine lv_iconst (v := 0) hx hb d_L_some_28 (by decide) ?_
    exact W.iret (v := 0) hx hb hr (fun t ht hW => ⟨⟨0, (a2, (vp_updL f (0 : Int32).toNatClampNeg 1)), rfl, ⟨rfl, (show (1 : Int64) = _ from (if_neg c12).symm)⟩, by rw [ht]; exact hP, va_K.moved hW.alike hK, hD⟩, hS.F ht⟩) hS.2.2 d_L_some_29

set_option maxHeartbeats 8000000 in
set_option maxRecDepth 100000 in
theorem fL_some (l : Launch) (dC : Nat → ClassId) (dI : Nat → Nat → Nat) (cI cJ : ClassId) (z a b : Nat → Nat) (N E : Mm) (V : Nat → Int32) (o0 : Nat) (f : Nat → Int64) (sz : Nat) (x1 x2 x3 x4 : Int32) (hlt : l.stackTraces = false) (hno : ¬ (okb x1 32 ∧ okb x2 32 ∧ okb x3 32 ∧ okb x4 4096)) : Met l y_L_some (.codeWith y_L_some b_L_some 7 (some .int) [(0, 21, 24, 13)] :: W0) ({ frames := 47, cells := 1, slots := 6, locals := 2700 } : Room) (va_Pc [.ref (z 0), .int x1, .int x2, .int x3, .int x4, .ref o0] (fun U => lM dC dI cI cJ z a b N E V o0 f sz U ∧ xZ (va_A (lW cI cJ z a b N E V o0 f) sz) U U.heap)) (va_Qi (fun (x : Int32) (_ : (Nat → Nat) × (Nat → Int64)) => x = 1) (fun u t => lE dC dI cI cJ z u.1 b N E V o0 u.2 (va_A (lW cI cJ z a b N E V o0 f) sz) t) (va_A (lW cI cJ z a b N E V o0 f) sz)) 1 6 (va_A (lW cI cJ z a b N E V o0 f) sz) := by
  refine va_MetW (cc := b_L_some) (maxL := 7) (ret := (some .int)) (hh := [(0, 21, 24, 13)]) (by decide) rfl ?_
  intro p e s m args below meth c s₁ B hml hv
  obtain ⟨rfl, ⟨hsz, hP, hK, hD0⟩, hZ⟩ := hv
  have hx := B.exec
  have hb := B.bytes
  have hr := B.returns
  have hts1 := atoms_spec (ws := .codeWith y_L_some b_L_some 7 (some .int) [(0, 21, 24, 13)] :: W0) B.pre
  have hts : ∀ w ∈ W0, w.before _ s = true := fun w h => hts1 w (List.mem_cons_of_mem _ h)
  have htab := vx_table (x := y_L_some) B (hts1 _ List.mem_cons_self)
  have hown : s.vm.findClass R_L = some m.cls := findClass_of_methodNamed B.named
  have hlocks := B.notSynchronized
  subst hsz
  have hD := hD0.self (sz := s.heap.size)
  have hZ : xZ (va_A (lW cI cJ z a b N E V o0 f) s.heap.size) s s.heap := hZ
  generalize hAe : va_A (lW cI cJ z a b N E V o0 f) s.heap.size = A at hD hZ ⊢
  have hA : ∀ q : Nat, s.heap.size ≤ q → A q := fun q h => by rw [← hAe]; exact Or.inr h
  have hS : va_S A s.heap s.heap [] := va_S.rf
  have hP : va_P (dC, dI) cls0 (lW cI cJ z a b N E V o0 f) s.heap := hP
  have hl := lv_entry ([.ref (z 0), .int x1, .int x2, .int x3, .int x4, .ref o0]) (n := 7) (Nat.le_of_ble_eq_true rfl)
  rw [lg_entry_eq]
  generalize (lg_sl ([.ref (z 0), .int x1, .int x2, .int x3, .int x4, .ref o0]) ++ List.replicate (7 - (lg_sl ([.ref (z 0), .int x1, .int x2, .int x3, .int x4, .ref o0])).length) Slot.unset).toArray = ls at hl ⊢
  have hl : lv_has ls 7 [(0, .ref (z 0)), (1, .int x1), (2, .int x2), (3, .int x3), (4, .int x4), (5, .ref o0)] := hl
  refine lv_aload hx hb d_L_some_0 (lv_at hl 5 rfl) ?_
  refine lv_iconst (v := 0) hx hb d_L_some_2 (by decide) ?_
  refine lv_aload_n hx hb d_L_some_3 rfl (lv_at hl 0 rfl) ?_
  refine lv_iload_n hx hb d_L_some_4 rfl (lv_at hl 1 rfl) ?_
  refine lv_iload_n hx hb d_L_some_5 rfl (lv_at hl 2 rfl) ?_
  refine lv_iload_n hx hb d_L_some_6 rfl (lv_at hl 3 rfl) ?_
  refine lv_iload hx hb d_L_some_7 (lv_at hl 4 rfl) ?_
  refine hTx (As := [.int x1, .int x2, .int x3, .int x4]) (rest := [.int 0, .ref o0]) ⟨hx, hb, hml, hown, hts⟩ (t_S_some l hlt (fun _ => False) (z 0) x1 x2 x3 x4 hno) (cwV 4 hts (gV kml_L_26 kim_S_some ksl_S_some kin_S kcd_S_some) rfl rfl rfl (by decide +kernel) ⟨by show 45 + 1 ≤ 47; omega, by show 8 + (5 + 11) + 2600 ≤ 2700; omega⟩) hP hK (hZ.narrow (fun _ h => h.elim)) hS rfl hl.1 rfl (Nat.le_of_ble_eq_true rfl) d_L_some_9 ⟨by show 0 + 1 ≤ 1; omega, by show 0 + 6 ≤ 6; omega⟩ (fun ce q9 H locs hz hk hS hce hcv hcl => ?_)
  have hP := P_keep hP hk
  refine vx_catch (own := R_L) (name := xIA) hown [] ⟨0, 21, 24, 13⟩ [] htab (fun q h => by cases h) (by decide) (by decide) (hts _ kcl_L_13) (hZ.2.2.1.use _ (by decide)) hce hcv hcl ?_
  refine lv_astore (lv' := [(6, .ref q9), (0, .ref (z 0)), (1, .int x1), (2, .int x2), (3, .int x3), (4, .int x4), (5, .ref o0)]) hx hb d_L_some_24 hl (by decide) rfl (fun ls hl => ?_)
  refine lv_iconst (v := 1) hx hb d_L_some_26 (by decide) ?_
  refine W.cs (cells' := 1) (slots' := 6) (by omega) (by omega) ?_
  exact W.iret (v := 1) hx hb hr (fun t ht hW => ⟨⟨1, (a, f), rfl, rfl, by rw [ht]; exact hP, va_K.moved hW.alike hK, hD⟩, hS.F ht⟩) hS.2.2 d_L_some_27

set_option maxHeartbeats 8000000 in
set_option maxRecDepth 100000 in
theorem cL_turn (l : Launch) (dC : Nat → ClassId) (dI : Nat → Nat → Nat) (cI cJ : ClassId) (z a b : Nat → Nat) (N E : Mm) (V : Nat → Int32) (o0 : Nat) (f : Nat → Int64) (sz : Nat) (x1 x2 : Int32) {N' E' : Mm} {V' : Nat → Int32} {r : Int32} {mc ms : Nat} {S : Type} {ad : S → Nat → Nat} {post : Int32 → S → Prop} (hpost : ∀ x u, post x u → x = r) (hM : Met l y_S_turn (.code y_S_turn b_S_turn 3 (some .boolean) :: W0) ({ frames := 45, cells := mc, slots := ms, locals := 2600 } : Room) (va_Pc [.ref (z 0), .int x1, .int x2] (tM dC dI cI z a b N E V sz)) (va_Qi post (fun u t => tE dC dI cI z (ad u) b N' E' V' (va_A (tW cI z a b N E V) sz) t) (va_A (tW cI z a b N E V) sz)) mc ms (va_A (tW cI z a b N E V) sz)) : Met l y_L_turn (.codeWith y_L_turn b_L_turn 5 (some .int) [(0, 17, 20, 13)] :: W0) ({ frames := 47, cells := mc, slots := ms, locals := 2700 } : Room) (va_Pc [.ref (z 0), .int x1, .int x2, .ref o0] (fun U => lM dC dI cI cJ z a b N E V o0 f sz U ∧ True)) (va_Qi (fun (x : Int32) (u : (Nat → Nat) × (Nat → Int64)) => x = 0 ∧ u.2 0 = (if r = 0 then 0 else 1 : Int64)) (fun u t => lE dC dI cI cJ z u.1 b N' E' V' o0 u.2 (va_A (lW cI cJ z a b N E V o0 f) sz) t) (va_A (lW cI cJ z a b N E V o0 f) sz)) mc ms (va_A (lW cI cJ z a b N E V o0 f) sz) := by
  refine va_MetW (cc := b_L_turn) (maxL := 5) (ret := (some .int)) (hh := [(0, 17, 20, 13)]) (by decide) rfl ?_
  intro p e s m args below meth c s₁ B hml hv
  obtain ⟨rfl, ⟨hsz, hP, hK, hD0⟩, -⟩ := hv
  have hx := B.exec
  have hb := B.bytes
  have hr := B.returns
  have hts1 := atoms_spec (ws := .codeWith y_L_turn b_L_turn 5 (some .int) [(0, 17, 20, 13)] :: W0) B.pre
  have hts : ∀ w ∈ W0, w.before _ s = true := fun w h => hts1 w (List.mem_cons_of_mem _ h)
  have htab := vx_table (x := y_L_turn) B (hts1 _ List.mem_cons_self)
  have hown : s.vm.findClass R_L = some m.cls := findClass_of_methodNamed B.named
  have hlocks := B.notSynchronized
  subst hsz
  have hD := hD0.self (sz := s.heap.size)
  generalize hAe : va_A (lW cI cJ z a b N E V o0 f) s.heap.size = A at hD ⊢
  have hA : ∀ q : Nat, s.heap.size ≤ q → A q := fun q h => by rw [← hAe]; exact Or.inr h
  have hS : va_S A s.heap s.heap [] := va_S.rf
  have hP : va_P (dC, dI) cls0 (lW cI cJ z a b N E V o0 f) s.heap := hP
  have hl := lv_entry ([.ref (z 0), .int x1, .int x2, .ref o0]) (n := 5) (Nat.le_of_ble_eq_true rfl)
  rw [lg_entry_eq]
  generalize (lg_sl ([.ref (z 0), .int x1, .int x2, .ref o0]) ++ List.replicate (5 - (lg_sl ([.ref (z 0), .int x1, .int x2, .ref o0])).length) Slot.unset).toArray = ls at hl ⊢
  have hl : lv_has ls 5 [(0, .ref (z 0)), (1, .int x1), (2, .int x2), (3, .ref o0)] := hl
  refine lv_aload_n hx hb d_L_turn_0 rfl (lv_at hl 3 rfl) ?_
  refine lv_iconst (v := 0) hx hb d_L_turn_1 (by decide) ?_
  refine lv_aload_n hx hb d_L_turn_2 rfl (lv_at hl 0 rfl) ?_
  refine lv_iload_n hx hb d_L_turn_3 rfl (lv_at hl 1 rfl) ?_
  refine lv_iload_n hx hb d_L_turn_4 rfl (lv_at hl 2 rfl) ?_
  refine hTi hpost (As := [.int x1, .int x2]) (rest := [.int 0, .ref o0]) ⟨hx, hb, hml, hown, hts⟩ hM (cwV 2 hts (gV kml_L_29 kim_S_turn ksl_S_turn kin_S kcd_S_turn) rfl rfl rfl (by decide +kernel) ⟨by show 45 + 1 ≤ 47; omega, by show 8 + (3 + 11) + 2600 ≤ 2700; omega⟩) hP hK hD hS hA rfl hl.1 rfl (Nat.le_of_ble_eq_true rfl) d_L_turn_5 ⟨by show 0 + mc ≤ mc; omega, by show 0 + ms ≤ ms; omega⟩ (fun a2 H locs hP hD hS => ?_)
  refine W.cs (cells' := mc) (slots' := ms) (by omega) (by omega) ?_
  refine lv_if_eq (tgt := 15) hx hb d_L_turn_8 (by decide) (fun c8 => ?_) (fun c8 => ?_)
  · refine lv_lconst (v := 0) hx hb d_L_turn_15 (by decide) ?_
    refine va_last hx hb hK hP hD hS 12 1 rfl rfl (vp_in_nI (show 0 < 1 by decide) (by decide)) d_L_turn_16 (fun H locs hP hD hS => ?_)
    refine lv_goto (tgt := 24) hx hb d_L_turn_17 (by decide) ?_
    refine lv_iconst (v := 0) hx hb d_L_turn_24 (by decide) ?_
    exact W.iret (v := 0) hx hb hr (fun t ht hW => ⟨⟨0, (a2, (vp_updL f (0 : Int32).toNatClampNeg 0)), rfl, ⟨rfl, (show (0 : Int64) = _ from (if_pos c8).symm)⟩, by rw [ht]; exact hP, va_K.moved hW.alike hK, hD⟩, hS.F ht⟩) hS.2.2 d_L_turn_25
  · refine lv_lconst (v := 1) hx hb d_L_turn_11 (by decide) ?_
    refine lv_goto (tgt := 16) hx hb d_L_turn_12 (by decide) ?_
    refine va_last hx hb hK hP hD hS 12 1 rfl rfl (vp_in_nI (show 0 < 1 by decide) (by decide)) d_L_turn_16 (fun H locs hP hD hS => ?_)
    refine lv_goto (tgt := 24) hx hb d_L_turn_17 (by decide) ?_
    refine lv_iconst (v := 0) hx hb d_L_turn_24 (by decide) ?_
    exact W.iret (v := 0) hx hb hr (fun t ht hW => ⟨⟨0, (a2, (vp_updL f (0 : Int32).toNatClampNeg 1)), rfl, ⟨rfl, (show (1 : Int64) = _ from (if_neg c8).symm)⟩, by rw [ht]; exact hP, va_K.moved hW.alike hK, hD⟩, hS.F ht⟩) hS.2.2 d_L_turn_25

set_option maxHeartbeats 8000000 in
set_option maxRecDepth 100000 in
theorem fL_turn (l : Launch) (dC : Nat → ClassId) (dI : Nat → Nat → Nat) (cI cJ : ClassId) (z a b : Nat → Nat) (N E : Mm) (V : Nat → Int32) (o0 : Nat) (f : Nat → Int64) (sz : Nat) (x1 x2 : Int32) (hlt : l.stackTraces = false) (hno : ¬ (okb x1 32 ∧ okb x2 32)) : Met l y_L_turn (.codeWith y_L_turn b_L_turn 5 (some .int) [(0, 17, 20, 13)] :: W0) ({ frames := 47, cells := 1, slots := 6, locals := 2700 } : Room) (va_Pc [.ref (z 0), .int x1, .int x2, .ref o0] (fun U => lM dC dI cI cJ z a b N E V o0 f sz U ∧ xZ (va_A (lW cI cJ z a b N E V o0 f) sz) U U.heap)) (va_Qi (fun (x : Int32) (_ : (Nat → Nat) × (Nat → Int64)) => x = 1) (fun u t => lE dC dI cI cJ z u.1 b N E V o0 u.2 (va_A (lW cI cJ z a b N E V o0 f) sz) t) (va_A (lW cI cJ z a b N E V o0 f) sz)) 1 6 (va_A (lW cI cJ z a b N E V o0 f) sz) := by
  refine va_MetW (cc := b_L_turn) (maxL := 5) (ret := (some .int)) (hh := [(0, 17, 20, 13)]) (by decide) rfl ?_
  intro p e s m args below meth c s₁ B hml hv
  obtain ⟨rfl, ⟨hsz, hP, hK, hD0⟩, hZ⟩ := hv
  have hx := B.exec
  have hb := B.bytes
  have hr := B.returns
  have hts1 := atoms_spec (ws := .codeWith y_L_turn b_L_turn 5 (some .int) [(0, 17, 20, 13)] :: W0) B.pre
  have hts : ∀ w ∈ W0, w.before _ s = true := fun w h => hts1 w (List.mem_cons_of_mem _ h)
  have htab := vx_table (x := y_L_turn) B (hts1 _ List.mem_cons_self)
  have hown : s.vm.findClass R_L = some m.cls := findClass_of_methodNamed B.named
  have hlocks := B.notSynchronized
  subst hsz
  have hD := hD0.self (sz := s.heap.size)
  have hZ : xZ (va_A (lW cI cJ z a b N E V o0 f) s.heap.size) s s.heap := hZ
  generalize hAe : va_A (lW cI cJ z a b N E V o0 f) s.heap.size = A at hD hZ ⊢
  have hA : ∀ q : Nat, s.heap.size ≤ q → A q := fun q h => by rw [← hAe]; exact Or.inr h
  have hS : va_S A s.heap s.heap [] := va_S.rf
  have hP : va_P (dC, dI) cls0 (lW cI cJ z a b N E V o0 f) s.heap := hP
  have hl := lv_entry ([.ref (z 0), .int x1, .int x2, .ref o0]) (n := 5) (Nat.le_of_ble_eq_true rfl)
  rw [lg_entry_eq]
  generalize (lg_sl ([.ref (z 0), .int x1, .int x2, .ref o0]) ++ List.replicate (5 - (lg_sl ([.ref (z 0), .int x1, .int x2, .ref o0])).length) Slot.unset).toArray = ls at hl ⊢
  have hl : lv_has ls 5 [(0, .ref (z 0)), (1, .int x1), (2, .int x2), (3, .ref o0)] := hl
  refine lv_aload_n hx hb d_L_turn_0 rfl (lv_at hl 3 rfl) ?_
  refine lv_iconst (v := 0) hx hb d_L_turn_1 (by decide) ?_
  refine lv_aload_n hx hb d_L_turn_2 rfl (lv_at hl 0 rfl) ?_
  refine lv_iload_n hx hb d_L_turn_3 rfl (lv_at hl 1 rfl) ?_
  refine lv_iload_n hx hb d_L_turn_4 rfl (lv_at hl 2 rfl) ?_
  refine hTx (As := [.int x1, .int x2]) (rest := [.int 0, .ref o0]) ⟨hx, hb, hml, hown, hts⟩ (t_S_turn l hlt (fun _ => False) (z 0) x1 x2 hno) (cwV 2 hts (gV kml_L_29 kim_S_turn ksl_S_turn kin_S kcd_S_turn) rfl rfl rfl (by decide +kernel) ⟨by show 45 + 1 ≤ 47; omega, by show 8 + (3 + 11) + 2600 ≤ 2700; omega⟩) hP hK (hZ.narrow (fun _ h => h.elim)) hS rfl hl.1 rfl (Nat.le_of_ble_eq_true rfl) d_L_turn_5 ⟨by show 0 + 1 ≤ 1; omega, by show 0 + 6 ≤ 6; omega⟩ (fun ce q9 H locs hz hk hS hce hcv hcl => ?_)
  have hP := P_keep hP hk
  refine vx_catch (own := R_L) (name := xIA) hown [] ⟨0, 17, 20, 13⟩ [] htab (fun q h => by cases h) (by decide) (by decide) (hts _ kcl_L_13) (hZ.2.2.1.use _ (by decide)) hce hcv hcl ?_
  refine lv_astore (lv' := [(4, .ref q9), (0, .ref (z 0)), (1, .int x1), (2, .int x2), (3, .ref o0)]) hx hb d_L_turn_20 hl (by decide) rfl (fun ls hl => ?_)
  refine lv_iconst (v := 1) hx hb d_L_turn_22 (by decide) ?_
  refine W.cs (cells' := 1) (slots' := 6) (by omega) (by omega) ?_
  exact W.iret (v := 1) hx hb hr (fun t ht hW => ⟨⟨1, (a, f), rfl, rfl, by rw [ht]; exact hP, va_K.moved hW.alike hK, hD⟩, hS.F ht⟩) hS.2.2 d_L_turn_23

set_option maxHeartbeats 8000000 in
set_option maxRecDepth 100000 in
theorem cL_value (l : Launch) (dC : Nat → ClassId) (dI : Nat → Nat → Nat) (cI cJ : ClassId) (z a b : Nat → Nat) (N E : Mm) (V : Nat → Int32) (o0 : Nat) (f : Nat → Int64) (sz : Nat) (x1 x2 : Int32) {r : Int32} (hM : Met l y_S_value (.code y_S_value b_S_value 3 (some .boolean) :: W0) ({ frames := 45, cells := 0, slots := 0, locals := 2600 } : Room) (va_Pc [.ref (z 0), .int x1, .int x2] (tR dC dI cI z a b N E V)) (QcRead r) 0 0 (fun _ => False)) : Met l y_L_value (.codeWith y_L_value b_L_value 5 (some .int) [(0, 17, 20, 13)] :: W0) ({ frames := 47, cells := 0, slots := 0, locals := 2700 } : Room) (va_Pc [.ref (z 0), .int x1, .int x2, .ref o0] (fun U => lM dC dI cI cJ z a b N E V o0 f sz U ∧ True)) (va_Qi (fun (x : Int32) (u : (Nat → Nat) × (Nat → Int64)) => x = 0 ∧ u.2 0 = (if r = 0 then 0 else 1 : Int64)) (fun u t => lE dC dI cI cJ z u.1 b N E V o0 u.2 (va_A (lW cI cJ z a b N E V o0 f) sz) t) (va_A (lW cI cJ z a b N E V o0 f) sz)) 0 0 (va_A (lW cI cJ z a b N E V o0 f) sz) := by
  refine va_MetW (cc := b_L_value) (maxL := 5) (ret := (some .int)) (hh := [(0, 17, 20, 13)]) (by decide) rfl ?_
  intro p e s m args below meth c s₁ B hml hv
  obtain ⟨rfl, ⟨hsz, hP, hK, hD0⟩, -⟩ := hv
  have hx := B.exec
  have hb := B.bytes
  have hr := B.returns
  have hts1 := atoms_spec (ws := .codeWith y_L_value b_L_value 5 (some .int) [(0, 17, 20, 13)] :: W0) B.pre
  have hts : ∀ w ∈ W0, w.before _ s = true := fun w h => hts1 w (List.mem_cons_of_mem _ h)
  have htab := vx_table (x := y_L_value) B (hts1 _ List.mem_cons_self)
  have hown : s.vm.findClass R_L = some m.cls := findClass_of_methodNamed B.named
  have hlocks := B.notSynchronized
  subst hsz
  have hD := hD0.self (sz := s.heap.size)
  generalize hAe : va_A (lW cI cJ z a b N E V o0 f) s.heap.size = A at hD ⊢
  have hA : ∀ q : Nat, s.heap.size ≤ q → A q := fun q h => by rw [← hAe]; exact Or.inr h
  have hS : va_S A s.heap s.heap [] := va_S.rf
  have hP : va_P (dC, dI) cls0 (lW cI cJ z a b N E V o0 f) s.heap := hP
  have hl := lv_entry ([.ref (z 0), .int x1, .int x2, .ref o0]) (n := 5) (Nat.le_of_ble_eq_true rfl)
  rw [lg_entry_eq]
  generalize (lg_sl ([.ref (z 0), .int x1, .int x2, .ref o0]) ++ List.replicate (5 - (lg_sl ([.ref (z 0), .int x1, .int x2, .ref o0])).length) Slot.unset).toArray = ls at hl ⊢
  have hl : lv_has ls 5 [(0, .ref (z 0)), (1, .int x1), (2, .int x2), (3, .ref o0)] := hl
  refine lv_aload_n hx hb d_L_value_0 rfl (lv_at hl 3 rfl) ?_
  refine lv_iconst (v := 0) hx hb d_L_value_1 (by decide) ?_
  refine lv_aload_n hx hb d_L_value_2 rfl (lv_at hl 0 rfl) ?_
  refine lv_iload_n hx hb d_L_value_3 rfl (lv_at hl 1 rfl) ?_
  refine lv_iload_n hx hb d_L_value_4 rfl (lv_at hl 2 rfl) ?_
  refine hTR (As := [.int x1, .int x2]) (rest := [.int 0, .ref o0]) ⟨hx, hb, hml, hown, hts⟩ hM (cwV 2 hts (gV kml_L_33 kim_S_value ksl_S_value kin_S kcd_S_value) rfl rfl rfl (by decide +kernel) ⟨by show 45 + 1 ≤ 47; omega, by show 8 + (3 + 11) + 2600 ≤ 2700; omega⟩) hP hK rfl hl.1 rfl (Nat.le_of_ble_eq_true rfl) d_L_value_5 ⟨Nat.zero_le _, Nat.zero_le _⟩ ?_
  refine lv_if_eq (tgt := 15) hx hb d_L_value_8 (by decide) (fun c8 => ?_) (fun c8 => ?_)
  · refine lv_lconst (v := 0) hx hb d_L_value_15 (by decide) ?_
    refine va_last hx hb hK hP hD hS 12 1 rfl rfl (vp_in_nI (show 0 < 1 by decide) (by decide)) d_L_value_16 (fun H locs hP hD hS => ?_)
    refine lv_goto (tgt := 24) hx hb d_L_value_17 (by decide) ?_
    refine lv_iconst (v := 0) hx hb d_L_value_24 (by decide) ?_
    exact W.iret (v := 0) hx hb hr (fun t ht hW => ⟨⟨0, (a, (vp_updL f (0 : Int32).toNatClampNeg 0)), rfl, ⟨rfl, (show (0 : Int64) = _ from (if_pos c8).symm)⟩, by rw [ht]; exact hP, va_K.moved hW.alike hK, hD⟩, hS.F ht⟩) hS.2.2 d_L_value_25
  · refine lv_lconst (v := 1) hx hb d_L_value_11 (by decide) ?_
    refine lv_goto (tgt := 16) hx hb d_L_value_12 (by decide) ?_
    refine va_last hx hb hK hP hD hS 12 1 rfl rfl (vp_in_nI (show 0 < 1 by decide) (by decide)) d_L_value_16 (fun H locs hP hD hS => ?_)
    refine lv_goto (tgt := 24) hx hb d_L_value_17 (by decide) ?_
    refine lv_iconst (v := 0) hx hb d_L_value_24 (by decide) ?_
    exact W.iret (v := 0) hx hb hr (fun t ht hW => ⟨⟨0, (a, (vp_updL f (0 : Int32).toNatClampNeg 1)), rfl, ⟨rfl, (show (1 : Int64) = _ from (if_neg c8).symm)⟩, by rw [ht]; exact hP, va_K.moved hW.alike hK, hD⟩, hS.F ht⟩) hS.2.2 d_L_value_25

set_option maxHeartbeats 8000000 in
set_option maxRecDepth 100000 in
theorem fL_value (l : Launch) (dC : Nat → ClassId) (dI : Nat → Nat → Nat) (cI cJ : ClassId) (z a b : Nat → Nat) (N E : Mm) (V : Nat → Int32) (o0 : Nat) (f : Nat → Int64) (sz : Nat) (x1 x2 : Int32) (hlt : l.stackTraces = false) (hno : ¬ (okb x1 32 ∧ okb x2 4096)) : Met l y_L_value (.codeWith y_L_value b_L_value 5 (some .int) [(0, 17, 20, 13)] :: W0) ({ frames := 47, cells := 1, slots := 6, locals := 2700 } : Room) (va_Pc [.ref (z 0), .int x1, .int x2, .ref o0] (fun U => lM dC dI cI cJ z a b N E V o0 f sz U ∧ xZ (va_A (lW cI cJ z a b N E V o0 f) sz) U U.heap)) (va_Qi (fun (x : Int32) (_ : (Nat → Nat) × (Nat → Int64)) => x = 1) (fun u t => lE dC dI cI cJ z u.1 b N E V o0 u.2 (va_A (lW cI cJ z a b N E V o0 f) sz) t) (va_A (lW cI cJ z a b N E V o0 f) sz)) 1 6 (va_A (lW cI cJ z a b N E V o0 f) sz) := by
  refine va_MetW (cc := b_L_value) (maxL := 5) (ret := (some .int)) (hh := [(0, 17, 20, 13)]) (by decide) rfl ?_
  intro p e s m args below meth c s₁ B hml hv
  obtain ⟨rfl, ⟨hsz, hP, hK, hD0⟩, hZ⟩ := hv
  have hx := B.exec
  have hb := B.bytes
  have hr := B.returns
  have hts1 := atoms_spec (ws := .codeWith y_L_value b_L_value 5 (some .int) [(0, 17, 20, 13)] :: W0) B.pre
  have hts : ∀ w ∈ W0, w.before _ s = true := fun w h => hts1 w (List.mem_cons_of_mem _ h)
  have htab := vx_table (x := y_L_value) B (hts1 _ List.mem_cons_self)
  have hown : s.vm.findClass R_L = some m.cls := findClass_of_methodNamed B.named
  have hlocks := B.notSynchronized
  subst hsz
  have hD := hD0.self (sz := s.heap.size)
  have hZ : xZ (va_A (lW cI cJ z a b N E V o0 f) s.heap.size) s s.heap := hZ
  generalize hAe : va_A (lW cI cJ z a b N E V o0 f) s.heap.size = A at hD hZ ⊢
  have hA : ∀ q : Nat, s.heap.size ≤ q → A q := fun q h => by rw [← hAe]; exact Or.inr h
  have hS : va_S A s.heap s.heap [] := va_S.rf
  have hP : va_P (dC, dI) cls0 (lW cI cJ z a b N E V o0 f) s.heap := hP
  have hl := lv_entry ([.ref (z 0), .int x1, .int x2, .ref o0]) (n := 5) (Nat.le_of_ble_eq_true rfl)
  rw [lg_entry_eq]
  generalize (lg_sl ([.ref (z 0), .int x1, .int x2, .ref o0]) ++ List.replicate (5 - (lg_sl ([.ref (z 0), .int x1, .int x2, .ref o0])).length) Slot.unset).toArray = ls at hl ⊢
  have hl : lv_has ls 5 [(0, .ref (z 0)), (1, .int x1), (2, .int x2), (3, .ref o0)] := hl
  refine lv_aload_n hx hb d_L_value_0 rfl (lv_at hl 3 rfl) ?_
  refine lv_iconst (v := 0) hx hb d_L_value_1 (by decide) ?_
  refine lv_aload_n hx hb d_L_value_2 rfl (lv_at hl 0 rfl) ?_
  refine lv_iload_n hx hb d_L_value_3 rfl (lv_at hl 1 rfl) ?_
  refine lv_iload_n hx hb d_L_value_4 rfl (lv_at hl 2 rfl) ?_
  refine hTx (As := [.int x1, .int x2]) (rest := [.int 0, .ref o0]) ⟨hx, hb, hml, hown, hts⟩ (t_S_value l hlt (fun _ => False) (z 0) x1 x2 hno) (cwV 2 hts (gV kml_L_33 kim_S_value ksl_S_value kin_S kcd_S_value) rfl rfl rfl (by decide +kernel) ⟨by show 45 + 1 ≤ 47; omega, by show 8 + (3 + 11) + 2600 ≤ 2700; omega⟩) hP hK (hZ.narrow (fun _ h => h.elim)) hS rfl hl.1 rfl (Nat.le_of_ble_eq_true rfl) d_L_value_5 ⟨by show 0 + 1 ≤ 1; omega, by show 0 + 6 ≤ 6; omega⟩ (fun ce q9 H locs hz hk hS hce hcv hcl => ?_)
  have hP := P_keep hP hk
  refine vx_catch (own := R_L) (name := xIA) hown [] ⟨0, 17, 20, 13⟩ [] htab (fun q h => by cases h) (by decide) (by decide) (hts _ kcl_L_13) (hZ.2.2.1.use _ (by decide)) hce hcv hcl ?_
  refine lv_astore (lv' := [(4, .ref q9), (0, .ref (z 0)), (1, .int x1), (2, .int x2), (3, .ref o0)]) hx hb d_L_value_20 hl (by decide) rfl (fun ls hl => ?_)
  refine lv_iconst (v := 1) hx hb d_L_value_22 (by decide) ?_
  refine W.cs (cells' := 1) (slots' := 6) (by omega) (by omega) ?_
  exact W.iret (v := 1) hx hb hr (fun t ht hW => ⟨⟨1, (a, f), rfl, rfl, by rw [ht]; exact hP, va_K.moved hW.alike hK, hD⟩, hS.F ht⟩) hS.2.2 d_L_value_23

set_option maxHeartbeats 8000000 in
set_option maxRecDepth 100000 in
theorem cL_same (l : Launch) (dC : Nat → ClassId) (dI : Nat → Nat → Nat) (cI cJ : ClassId) (z a b : Nat → Nat) (N E : Mm) (V : Nat → Int32) (o0 : Nat) (f : Nat → Int64) (sz : Nat) (x1 x2 : Int32) {r : Int32} (hM : Met l y_S_same (.code y_S_same b_S_same 3 (some .boolean) :: W0) ({ frames := 45, cells := 0, slots := 0, locals := 2600 } : Room) (va_Pc [.ref (z 0), .int x1, .int x2] (tR dC dI cI z a b N E V)) (QcRead r) 0 0 (fun _ => False)) : Met l y_L_same (.codeWith y_L_same b_L_same 5 (some .int) [(0, 17, 20, 13)] :: W0) ({ frames := 47, cells := 0, slots := 0, locals := 2700 } : Room) (va_Pc [.ref (z 0), .int x1, .int x2, .ref o0] (fun U => lM dC dI cI cJ z a b N E V o0 f sz U ∧ True)) (va_Qi (fun (x : Int32) (u : (Nat → Nat) × (Nat → Int64)) => x = 0 ∧ u.2 0 = (if r = 0 then 0 else 1 : Int64)) (fun u t => lE dC dI cI cJ z u.1 b N E V o0 u.2 (va_A (lW cI cJ z a b N E V o0 f) sz) t) (va_A (lW cI cJ z a b N E V o0 f) sz)) 0 0 (va_A (lW cI cJ z a b N E V o0 f) sz) := by
  refine va_MetW (cc := b_L_same) (maxL := 5) (ret := (some .int)) (hh := [(0, 17, 20, 13)]) (by decide) rfl ?_
  intro p e s m args below meth c s₁ B hml hv
  obtain ⟨rfl, ⟨hsz, hP, hK, hD0⟩, -⟩ := hv
  have hx := B.exec
  have hb := B.bytes
  have hr := B.returns
  have hts1 := atoms_spec (ws := .codeWith y_L_same b_L_same 5 (some .int) [(0, 17, 20, 13)] :: W0) B.pre
  have hts : ∀ w ∈ W0, w.before _ s = true := fun w h => hts1 w (List.mem_cons_of_mem _ h)
  have htab := vx_table (x := y_L_same) B (hts1 _ List.mem_cons_self)
  have hown : s.vm.findClass R_L = some m.cls := findClass_of_methodNamed B.named
  have hlocks := B.notSynchronized
  subst hsz
  have hD := hD0.self (sz := s.heap.size)
  generalize hAe : va_A (lW cI cJ z a b N E V o0 f) s.heap.size = A at hD ⊢
  have hA : ∀ q : Nat, s.heap.size ≤ q → A q := fun q h => by rw [← hAe]; exact Or.inr h
  have hS : va_S A s.heap s.heap [] := va_S.rf
  have hP : va_P (dC, dI) cls0 (lW cI cJ z a b N E V o0 f) s.heap := hP
  have hl := lv_entry ([.ref (z 0), .int x1, .int x2, .ref o0]) (n := 5) (Nat.le_of_ble_eq_true rfl)
  rw [lg_entry_eq]
  generalize (lg_sl ([.ref (z 0), .int x1, .int x2, .ref o0]) ++ List.replicate (5 - (lg_sl ([.ref (z 0), .int x1, .int x2, .ref o0])).length) Slot.unset).toArray = ls at hl ⊢
  have hl : lv_has ls 5 [(0, .ref (z 0)), (1, .int x1), (2, .int x2), (3, .ref o0)] := hl
  refine lv_aload_n hx hb d_L_same_0 rfl (lv_at hl 3 rfl) ?_
  refine lv_iconst (v := 0) hx hb d_L_same_1 (by decide) ?_
  refine lv_aload_n hx hb d_L_same_2 rfl (lv_at hl 0 rfl) ?_
  refine lv_iload_n hx hb d_L_same_3 rfl (lv_at hl 1 rfl) ?_
  refine lv_iload_n hx hb d_L_same_4 rfl (lv_at hl 2 rfl) ?_
  refine hTR (As := [.int x1, .int x2]) (rest := [.int 0, .ref o0]) ⟨hx, hb, hml, hown, hts⟩ hM (cwV 2 hts (gV kml_L_36 kim_S_same ksl_S_same kin_S kcd_S_same) rfl rfl rfl (by decide +kernel) ⟨by show 45 + 1 ≤ 47; omega, by show 8 + (3 + 11) + 2600 ≤ 2700; omega⟩) hP hK rfl hl.1 rfl (Nat.le_of_ble_eq_true rfl) d_L_same_5 ⟨Nat.zero_le _, Nat.zero_le _⟩ ?_
  refine lv_if_eq (tgt := 15) hx hb d_L_same_8 (by decide) (fun c8 => ?_) (fun c8 => ?_)
  · refine lv_lconst (v := 0) hx hb d_L_same_15 (by decide) ?_
    refine va_last hx hb hK hP hD hS 12 1 rfl rfl (vp_in_nI (show 0 < 1 by decide) (by decide)) d_L_same_16 (fun H locs hP hD hS => ?_)
    refine lv_goto (tgt := 24) hx hb d_L_same_17 (by decide) ?_
    refine lv_iconst (v := 0) hx hb d_L_same_24 (by decide) ?_
    exact W.iret (v := 0) hx hb hr (fun t ht hW => ⟨⟨0, (a, (vp_updL f (0 : Int32).toNatClampNeg 0)), rfl, ⟨rfl, (show (0 : Int64) = _ from (if_pos c8).symm)⟩, by rw [ht]; exact hP, va_K.moved hW.alike hK, hD⟩, hS.F ht⟩) hS.2.2 d_L_same_25
  · refine lv_lconst (v := 1) hx hb d_L_same_11 (by decide) ?_
    refine lv_goto (tgt := 16) hx hb d_L_same_12 (by decide) ?_
    refine va_last hx hb hK hP hD hS 12 1 rfl rfl (vp_in_nI (show 0 < 1 by decide) (by decide)) d_L_same_16 (fun H locs hP hD hS => ?_)
    refine lv_goto (tgt := 24) hx hb d_L_same_17 (by decide) ?_
    refine lv_iconst (v := 0) hx hb d_L_same_24 (by decide) ?_
    exact W.iret (v := 0) hx hb hr (fun t ht hW => ⟨⟨0, (a, (vp_updL f (0 : Int32).toNatClampNeg 1)), rfl, ⟨rfl, (show (1 : Int64) = _ from (if_neg c8).symm)⟩, by rw [ht]; exact hP, va_K.moved hW.alike hK, hD⟩, hS.F ht⟩) hS.2.2 d_L_same_25

set_option maxHeartbeats 8000000 in
set_option maxRecDepth 100000 in
theorem fL_same (l : Launch) (dC : Nat → ClassId) (dI : Nat → Nat → Nat) (cI cJ : ClassId) (z a b : Nat → Nat) (N E : Mm) (V : Nat → Int32) (o0 : Nat) (f : Nat → Int64) (sz : Nat) (x1 x2 : Int32) (hlt : l.stackTraces = false) (hno : ¬ (okb x1 32 ∧ okb x2 32)) : Met l y_L_same (.codeWith y_L_same b_L_same 5 (some .int) [(0, 17, 20, 13)] :: W0) ({ frames := 47, cells := 1, slots := 6, locals := 2700 } : Room) (va_Pc [.ref (z 0), .int x1, .int x2, .ref o0] (fun U => lM dC dI cI cJ z a b N E V o0 f sz U ∧ xZ (va_A (lW cI cJ z a b N E V o0 f) sz) U U.heap)) (va_Qi (fun (x : Int32) (_ : (Nat → Nat) × (Nat → Int64)) => x = 1) (fun u t => lE dC dI cI cJ z u.1 b N E V o0 u.2 (va_A (lW cI cJ z a b N E V o0 f) sz) t) (va_A (lW cI cJ z a b N E V o0 f) sz)) 1 6 (va_A (lW cI cJ z a b N E V o0 f) sz) := by
  refine va_MetW (cc := b_L_same) (maxL := 5) (ret := (some .int)) (hh := [(0, 17, 20, 13)]) (by decide) rfl ?_
  intro p e s m args below meth c s₁ B hml hv
  obtain ⟨rfl, ⟨hsz, hP, hK, hD0⟩, hZ⟩ := hv
  have hx := B.exec
  have hb := B.bytes
  have hr := B.returns
  have hts1 := atoms_spec (ws := .codeWith y_L_same b_L_same 5 (some .int) [(0, 17, 20, 13)] :: W0) B.pre
  have hts : ∀ w ∈ W0, w.before _ s = true := fun w h => hts1 w (List.mem_cons_of_mem _ h)
  have htab := vx_table (x := y_L_same) B (hts1 _ List.mem_cons_self)
  have hown : s.vm.findClass R_L = some m.cls := findClass_of_methodNamed B.named
  have hlocks := B.notSynchronized
  subst hsz
  have hD := hD0.self (sz := s.heap.size)
  have hZ : xZ (va_A (lW cI cJ z a b N E V o0 f) s.heap.size) s s.heap := hZ
  generalize hAe : va_A (lW cI cJ z a b N E V o0 f) s.heap.size = A at hD hZ ⊢
  have hA : ∀ q : Nat, s.heap.size ≤ q → A q := fun q h => by rw [← hAe]; exact Or.inr h
  have hS : va_S A s.heap s.heap [] := va_S.rf
  have hP : va_P (dC, dI) cls0 (lW cI cJ z a b N E V o0 f) s.heap := hP
  have hl := lv_entry ([.ref (z 0), .int x1, .int x2, .ref o0]) (n := 5) (Nat.le_of_ble_eq_true rfl)
  rw [lg_entry_eq]
  generalize (lg_sl ([.ref (z 0), .int x1, .int x2, .ref o0]) ++ List.replicate (5 - (lg_sl ([.ref (z 0), .int x1, .int x2, .ref o0])).length) Slot.unset).toArray = ls at hl ⊢
  have hl : lv_has ls 5 [(0, .ref (z 0)), (1, .int x1), (2, .int x2), (3, .ref o0)] := hl
  refine lv_aload_n hx hb d_L_same_0 rfl (lv_at hl 3 rfl) ?_
  refine lv_iconst (v := 0) hx hb d_L_same_1 (by decide) ?_
  refine lv_aload_n hx hb d_L_same_2 rfl (lv_at hl 0 rfl) ?_
  refine lv_iload_n hx hb d_L_same_3 rfl (lv_at hl 1 rfl) ?_
  refine lv_iload_n hx hb d_L_same_4 rfl (lv_at hl 2 rfl) ?_
  refine hTx (As := [.int x1, .int x2]) (rest := [.int 0, .ref o0]) ⟨hx, hb, hml, hown, hts⟩ (t_S_same l hlt (fun _ => False) (z 0) x1 x2 hno) (cwV 2 hts (gV kml_L_36 kim_S_same ksl_S_same kin_S kcd_S_same) rfl rfl rfl (by decide +kernel) ⟨by show 45 + 1 ≤ 47; omega, by show 8 + (3 + 11) + 2600 ≤ 2700; omega⟩) hP hK (hZ.narrow (fun _ h => h.elim)) hS rfl hl.1 rfl (Nat.le_of_ble_eq_true rfl) d_L_same_5 ⟨by show 0 + 1 ≤ 1; omega, by show 0 + 6 ≤ 6; omega⟩ (fun ce q9 H locs hz hk hS hce hcv hcl => ?_)
  have hP := P_keep hP hk
  refine vx_catch (own := R_L) (name := xIA) hown [] ⟨0, 17, 20, 13⟩ [] htab (fun q h => by cases h) (by decide) (by decide) (hts _ kcl_L_13) (hZ.2.2.1.use _ (by decide)) hce hcv hcl ?_
  refine lv_astore (lv' := [(4, .ref q9), (0, .ref (z 0)), (1, .int x1), (2, .int x2), (3, .ref o0)]) hx hb d_L_same_20 hl (by decide) rfl (fun ls hl => ?_)
  refine lv_iconst (v := 1) hx hb d_L_same_22 (by decide) ?_
  refine W.cs (cells' := 1) (slots' := 6) (by omega) (by omega) ?_
  exact W.iret (v := 1) hx hb hr (fun t ht hW => ⟨⟨1, (a, f), rfl, rfl, by rw [ht]; exact hP, va_K.moved hW.alike hK, hD⟩, hS.F ht⟩) hS.2.2 d_L_same_23

set_option maxHeartbeats 8000000 in
set_option maxRecDepth 100000 in
theorem cL_count (l : Launch) (dC : Nat → ClassId) (dI : Nat → Nat → Nat) (cI cJ : ClassId) (z a b : Nat → Nat) (N E : Mm) (V : Nat → Int32) (o0 : Nat) (f : Nat → Int64) (sz : Nat) (x1 : Int32) {N' E' : Mm} {V' : Nat → Int32} {r : Int32} {mc ms : Nat} {S : Type} {ad : S → Nat → Nat} {post : Int32 → S → Prop} (hpost : ∀ x u, post x u → x = r) (hM : Met l y_S_count (.code y_S_count b_S_count 5 (some .int) :: W0) ({ frames := 45, cells := mc, slots := ms, locals := 2600 } : Room) (va_Pc [.ref (z 0), .int x1] (tM dC dI cI z a b N E V sz)) (va_Qi post (fun u t => tE dC dI cI z (ad u) b N' E' V' (va_A (tW cI z a b N E V) sz) t) (va_A (tW cI z a b N E V) sz)) mc ms (va_A (tW cI z a b N E V) sz)) : Met l y_L_count (.codeWith y_L_count b_L_count 4 (some .int) [(0, 9, 12, 13), (0, 9, 15, 43)] :: W0) ({ frames := 47, cells := mc, slots := ms, locals := 2700 } : Room) (va_Pc [.ref (z 0), .int x1, .ref o0] (fun U => lM dC dI cI cJ z a b N E V o0 f sz U ∧ True)) (va_Qi (fun (x : Int32) (u : (Nat → Nat) × (Nat → Int64)) => x = 0 ∧ u.2 0 = r.toInt64) (fun u t => lE dC dI cI cJ z u.1 b N' E' V' o0 u.2 (va_A (lW cI cJ z a b N E V o0 f) sz) t) (va_A (lW cI cJ z a b N E V o0 f) sz)) mc ms (va_A (lW cI cJ z a b N E V o0 f) sz) := by
  refine va_MetW (cc := b_L_count) (maxL := 4) (ret := (some .int)) (hh := [(0, 9, 12, 13), (0, 9, 15, 43)]) (by decide) rfl ?_
  intro p e s m args below meth c s₁ B hml hv
  obtain ⟨rfl, ⟨hsz, hP, hK, hD0⟩, -⟩ := hv
  have hx := B.exec
  have hb := B.bytes
  have hr := B.returns
  have hts1 := atoms_spec (ws := .codeWith y_L_count b_L_count 4 (some .int) [(0, 9, 12, 13), (0, 9, 15, 43)] :: W0) B.pre
  have hts : ∀ w ∈ W0, w.before _ s = true := fun w h => hts1 w (List.mem_cons_of_mem _ h)
  have htab := vx_table (x := y_L_count) B (hts1 _ List.mem_cons_self)
  have hown : s.vm.findClass R_L = some m.cls := findClass_of_methodNamed B.named
  have hlocks := B.notSynchronized
  subst hsz
  have hD := hD0.self (sz := s.heap.size)
  generalize hAe : va_A (lW cI cJ z a b N E V o0 f) s.heap.size = A at hD ⊢
  have hA : ∀ q : Nat, s.heap.size ≤ q → A q := fun q h => by rw [← hAe]; exact Or.inr h
  have hS : va_S A s.heap s.heap [] := va_S.rf
  have hP : va_P (dC, dI) cls0 (lW cI cJ z a b N E V o0 f) s.heap := hP
  have hl := lv_entry ([.ref (z 0), .int x1, .ref o0]) (n := 4) (Nat.le_of_ble_eq_true rfl)
  rw [lg_entry_eq]
  generalize (lg_sl ([.ref (z 0), .int x1, .ref o0]) ++ List.replicate (4 - (lg_sl ([.ref (z 0), .int x1, .ref o0])).length) Slot.unset).toArray = ls at hl ⊢
  have hl : lv_has ls 4 [(0, .ref (z 0)), (1, .int x1), (2, .ref o0)] := hl
  refine lv_aload_n hx hb d_L_count_0 rfl (lv_at hl 2 rfl) ?_
  refine lv_iconst (v := 0) hx hb d_L_count_1 (by decide) ?_
  refine lv_aload_n hx hb d_L_count_2 rfl (lv_at hl 0 rfl) ?_
  refine lv_iload_n hx hb d_L_count_3 rfl (lv_at hl 1 rfl) ?_
  refine hTi hpost (As := [.int x1]) (rest := [.int 0, .ref o0]) ⟨hx, hb, hml, hown, hts⟩ hM (cwV 1 hts (gV kml_L_39 kim_S_count ksl_S_count kin_S kcd_S_count) rfl rfl rfl (by decide +kernel) ⟨by show 45 + 1 ≤ 47; omega, by show 8 + (5 + 11) + 2600 ≤ 2700; omega⟩) hP hK hD hS hA rfl hl.1 rfl (Nat.le_of_ble_eq_true rfl) d_L_count_4 ⟨by show 0 + mc ≤ mc; omega, by show 0 + ms ≤ ms; omega⟩ (fun a2 H locs hP hD hS => ?_)
  refine W.cs (cells' := mc) (slots' := ms) (by omega) (by omega) ?_
  refine lv_i2l (v := r.toInt64) hx hb d_L_count_7 rfl ?_
  refine va_last hx hb hK hP hD hS 12 1 rfl rfl (vp_in_nI (show 0 < 1 by decide) (by decide)) d_L_count_8 (fun H locs hP hD hS => ?_)
  refine lv_goto (tgt := 18) hx hb d_L_count_9 (by decide) ?_
  refine lv_iconst (v := 0) hx hb d_L_count_18 (by decide) ?_
  exact W.iret (v := 0) hx hb hr (fun t ht hW => ⟨⟨0, (a2, (vp_updL f (0 : Int32).toNatClampNeg r.toInt64)), rfl, ⟨rfl, rfl⟩, by rw [ht]; exact hP, va_K.moved hW.alike hK, hD⟩, hS.F ht⟩) hS.2.2 d_L_count_19

set_option maxHeartbeats 8000000 in
set_option maxRecDepth 100000 in
theorem fL_count (l : Launch) (dC : Nat → ClassId) (dI : Nat → Nat → Nat) (cI cJ : ClassId) (z a b : Nat → Nat) (N E : Mm) (V : Nat → Int32) (o0 : Nat) (f : Nat → Int64) (sz : Nat) (x1 : Int32) (hlt : l.stackTraces = false) (hno : ¬ (okb x1 32)) : Met l y_L_count (.codeWith y_L_count b_L_count 4 (some .int) [(0, 9, 12, 13), (0, 9, 15, 43)] :: W0) ({ frames := 47, cells := 1, slots := 6, locals := 2700 } : Room) (va_Pc [.ref (z 0), .int x1, .ref o0] (fun U => lM dC dI cI cJ z a b N E V o0 f sz U ∧ xZ (va_A (lW cI cJ z a b N E V o0 f) sz) U U.heap)) (va_Qi (fun (x : Int32) (_ : (Nat → Nat) × (Nat → Int64)) => x = 1) (fun u t => lE dC dI cI cJ z u.1 b N E V o0 u.2 (va_A (lW cI cJ z a b N E V o0 f) sz) t) (va_A (lW cI cJ z a b N E V o0 f) sz)) 1 6 (va_A (lW cI cJ z a b N E V o0 f) sz) := by
  refine va_MetW (cc := b_L_count) (maxL := 4) (ret := (some .int)) (hh := [(0, 9, 12, 13), (0, 9, 15, 43)]) (by decide) rfl ?_
  intro p e s m args below meth c s₁ B hml hv
  obtain ⟨rfl, ⟨hsz, hP, hK, hD0⟩, hZ⟩ := hv
  have hx := B.exec
  have hb := B.bytes
  have hr := B.returns
  have hts1 := atoms_spec (ws := .codeWith y_L_count b_L_count 4 (some .int) [(0, 9, 12, 13), (0, 9, 15, 43)] :: W0) B.pre
  have hts : ∀ w ∈ W0, w.before _ s = true := fun w h => hts1 w (List.mem_cons_of_mem _ h)
  have htab := vx_table (x := y_L_count) B (hts1 _ List.mem_cons_self)
  have hown : s.vm.findClass R_L = some m.cls := findClass_of_methodNamed B.named
  have hlocks := B.notSynchronized
  subst hsz
  have hD := hD0.self (sz := s.heap.size)
  have hZ : xZ (va_A (lW cI cJ z a b N E V o0 f) s.heap.size) s s.heap := hZ
  generalize hAe : va_A (lW cI cJ z a b N E V o0 f) s.heap.size = A at hD hZ ⊢
  have hA : ∀ q : Nat, s.heap.size ≤ q → A q := fun q h => by rw [← hAe]; exact Or.inr h
  have hS : va_S A s.heap s.heap [] := va_S.rf
  have hP : va_P (dC, dI) cls0 (lW cI cJ z a b N E V o0 f) s.heap := hP
  have hl := lv_entry ([.ref (z 0), .int x1, .ref o0]) (n := 4) (Nat.le_of_ble_eq_true rfl)
  rw [lg_entry_eq]
  generalize (lg_sl ([.ref (z 0), .int x1, .ref o0]) ++ List.replicate (4 - (lg_sl ([.ref (z 0), .int x1, .ref o0])).length) Slot.unset).toArray = ls at hl ⊢
  have hl : lv_has ls 4 [(0, .ref (z 0)), (1, .int x1), (2, .ref o0)] := hl
  refine lv_aload_n hx hb d_L_count_0 rfl (lv_at hl 2 rfl) ?_
  refine lv_iconst (v := 0) hx hb d_L_count_1 (by decide) ?_
  refine lv_aload_n hx hb d_L_count_2 rfl (lv_at hl 0 rfl) ?_
  refine lv_iload_n hx hb d_L_count_3 rfl (lv_at hl 1 rfl) ?_
  refine hTx (As := [.int x1]) (rest := [.int 0, .ref o0]) ⟨hx, hb, hml, hown, hts⟩ (t_S_count l hlt (fun _ => False) (z 0) x1 hno) (cwV 1 hts (gV kml_L_39 kim_S_count ksl_S_count kin_S kcd_S_count) rfl rfl rfl (by decide +kernel) ⟨by show 45 + 1 ≤ 47; omega, by show 8 + (5 + 11) + 2600 ≤ 2700; omega⟩) hP hK (hZ.narrow (fun _ h => h.elim)) hS rfl hl.1 rfl (Nat.le_of_ble_eq_true rfl) d_L_count_4 ⟨by show 0 + 1 ≤ 1; omega, by show 0 + 6 ≤ 6; omega⟩ (fun ce q9 H locs hz hk hS hce hcv hcl => ?_)
  have hP := P_keep hP hk
  refine vx_catch (own := R_L) (name := xIA) hown [] ⟨0, 9, 12, 13⟩ [⟨0, 9, 15, 43⟩] htab (fun q h => by cases h) (by decide) (by decide) (hts _ kcl_L_13) (hZ.2.2.1.use _ (by decide)) hce hcv hcl ?_
  refine lv_astore_n (lv' := [(3, .ref q9), (0, .ref (z 0)), (1, .int x1), (2, .ref o0)]) hx hb d_L_count_12 rfl hl (by decide) rfl (fun ls hl => ?_)
  refine lv_iconst (v := 1) hx hb d_L_count_13 (by decide) ?_
  refine W.cs (cells' := 1) (slots' := 6) (by omega) (by omega) ?_
  exact W.iret (v := 1) hx hb hr (fun t ht hW => ⟨⟨1, (a, f), rfl, rfl, by rw [ht]; exact hP, va_K.moved hW.alike hK, hD⟩, hS.F ht⟩) hS.2.2 d_L_count_14

set_option maxHeartbeats 8000000 in
set_option maxRecDepth 100000 in
theorem cL_support (l : Launch) (dC : Nat → ClassId) (dI : Nat → Nat → Nat) (cI cJ : ClassId) (z a b : Nat → Nat) (N E : Mm) (V : Nat → Int32) (o0 : Nat) (f : Nat → Int64) (sz : Nat) (x1 : Int32) {N' E' : Mm} {V' : Nat → Int32} {r : Int32} {mc ms : Nat} {S : Type} {ad : S → Nat → Nat} {post : Int32 → S → Prop} (hpost : ∀ x u, post x u → x = r) (hM : Met l y_S_support (.code y_S_support b_S_support 2 (some .int) :: W0) ({ frames := 45, cells := mc, slots := ms, locals := 2600 } : Room) (va_Pc [.ref (z 0), .int x1] (tM dC dI cI z a b N E V sz)) (va_Qi post (fun u t => tE dC dI cI z (ad u) b N' E' V' (va_A (tW cI z a b N E V) sz) t) (va_A (tW cI z a b N E V) sz)) mc ms (va_A (tW cI z a b N E V) sz)) : Met l y_L_support (.codeWith y_L_support b_L_support 4 (some .int) [(0, 9, 12, 13)] :: W0) ({ frames := 47, cells := mc, slots := ms, locals := 2700 } : Room) (va_Pc [.ref (z 0), .int x1, .ref o0] (fun U => lM dC dI cI cJ z a b N E V o0 f sz U ∧ True)) (va_Qi (fun (x : Int32) (u : (Nat → Nat) × (Nat → Int64)) => x = 0 ∧ u.2 0 = r.toInt64) (fun u t => lE dC dI cI cJ z u.1 b N' E' V' o0 u.2 (va_A (lW cI cJ z a b N E V o0 f) sz) t) (va_A (lW cI cJ z a b N E V o0 f) sz)) mc ms (va_A (lW cI cJ z a b N E V o0 f) sz) := by
  refine va_MetW (cc := b_L_support) (maxL := 4) (ret := (some .int)) (hh := [(0, 9, 12, 13)]) (by decide) rfl ?_
  intro p e s m args below meth c s₁ B hml hv
  obtain ⟨rfl, ⟨hsz, hP, hK, hD0⟩, -⟩ := hv
  have hx := B.exec
  have hb := B.bytes
  have hr := B.returns
  have hts1 := atoms_spec (ws := .codeWith y_L_support b_L_support 4 (some .int) [(0, 9, 12, 13)] :: W0) B.pre
  have hts : ∀ w ∈ W0, w.before _ s = true := fun w h => hts1 w (List.mem_cons_of_mem _ h)
  have htab := vx_table (x := y_L_support) B (hts1 _ List.mem_cons_self)
  have hown : s.vm.findClass R_L = some m.cls := findClass_of_methodNamed B.named
  have hlocks := B.notSynchronized
  subst hsz
  have hD := hD0.self (sz := s.heap.size)
  generalize hAe : va_A (lW cI cJ z a b N E V o0 f) s.heap.size = A at hD ⊢
  have hA : ∀ q : Nat, s.heap.size ≤ q → A q := fun q h => by rw [← hAe]; exact Or.inr h
  have hS : va_S A s.heap s.heap [] := va_S.rf
  have hP : va_P (dC, dI) cls0 (lW cI cJ z a b N E V o0 f) s.heap := hP
  have hl := lv_entry ([.ref (z 0), .int x1, .ref o0]) (n := 4) (Nat.le_of_ble_eq_true rfl)
  rw [lg_entry_eq]
  generalize (lg_sl ([.ref (z 0), .int x1, .ref o0]) ++ List.replicate (4 - (lg_sl ([.ref (z 0), .int x1, .ref o0])).length) Slot.unset).toArray = ls at hl ⊢
  have hl : lv_has ls 4 [(0, .ref (z 0)), (1, .int x1), (2, .ref o0)] := hl
  refine lv_aload_n hx hb d_L_support_0 rfl (lv_at hl 2 rfl) ?_
  refine lv_iconst (v := 0) hx hb d_L_support_1 (by decide) ?_
  refine lv_aload_n hx hb d_L_support_2 rfl (lv_at hl 0 rfl) ?_
  refine lv_iload_n hx hb d_L_support_3 rfl (lv_at hl 1 rfl) ?_
  refine hTi hpost (As := [.int x1]) (rest := [.int 0, .ref o0]) ⟨hx, hb, hml, hown, hts⟩ hM (cwV 1 hts (gV kml_L_45 kim_S_support ksl_S_support kin_S kcd_S_support) rfl rfl rfl (by decide +kernel) ⟨by show 45 + 1 ≤ 47; omega, by show 8 + (2 + 11) + 2600 ≤ 2700; omega⟩) hP hK hD hS hA rfl hl.1 rfl (Nat.le_of_ble_eq_true rfl) d_L_support_4 ⟨by show 0 + mc ≤ mc; omega, by show 0 + ms ≤ ms; omega⟩ (fun a2 H locs hP hD hS => ?_)
  refine W.cs (cells' := mc) (slots' := ms) (by omega) (by omega) ?_
  refine lv_i2l (v := r.toInt64) hx hb d_L_support_7 rfl ?_
  refine va_last hx hb hK hP hD hS 12 1 rfl rfl (vp_in_nI (show 0 < 1 by decide) (by decide)) d_L_support_8 (fun H locs hP hD hS => ?_)
  refine lv_goto (tgt := 15) hx hb d_L_support_9 (by decide) ?_
  refine lv_iconst (v := 0) hx hb d_L_support_15 (by decide) ?_
  exact W.iret (v := 0) hx hb hr (fun t ht hW => ⟨⟨0, (a2, (vp_updL f (0 : Int32).toNatClampNeg r.toInt64)), rfl, ⟨rfl, rfl⟩, by rw [ht]; exact hP, va_K.moved hW.alike hK, hD⟩, hS.F ht⟩) hS.2.2 d_L_support_16

set_option maxHeartbeats 8000000 in
set_option maxRecDepth 100000 in
theorem fL_support (l : Launch) (dC : Nat → ClassId) (dI : Nat → Nat → Nat) (cI cJ : ClassId) (z a b : Nat → Nat) (N E : Mm) (V : Nat → Int32) (o0 : Nat) (f : Nat → Int64) (sz : Nat) (x1 : Int32) (hlt : l.stackTraces = false) (hno : ¬ (okb x1 32)) : Met l y_L_support (.codeWith y_L_support b_L_support 4 (some .int) [(0, 9, 12, 13)] :: W0) ({ frames := 47, cells := 1, slots := 6, locals := 2700 } : Room) (va_Pc [.ref (z 0), .int x1, .ref o0] (fun U => lM dC dI cI cJ z a b N E V o0 f sz U ∧ xZ (va_A (lW cI cJ z a b N E V o0 f) sz) U U.heap)) (va_Qi (fun (x : Int32) (_ : (Nat → Nat) × (Nat → Int64)) => x = 1) (fun u t => lE dC dI cI cJ z u.1 b N E V o0 u.2 (va_A (lW cI cJ z a b N E V o0 f) sz) t) (va_A (lW cI cJ z a b N E V o0 f) sz)) 1 6 (va_A (lW cI cJ z a b N E V o0 f) sz) := by
  refine va_MetW (cc := b_L_support) (maxL := 4) (ret := (some .int)) (hh := [(0, 9, 12, 13)]) (by decide) rfl ?_
  intro p e s m args below meth c s₁ B hml hv
  obtain ⟨rfl, ⟨hsz, hP, hK, hD0⟩, hZ⟩ := hv
  have hx := B.exec
  have hb := B.bytes
  have hr := B.returns
  have hts1 := atoms_spec (ws := .codeWith y_L_support b_L_support 4 (some .int) [(0, 9, 12, 13)] :: W0) B.pre
  have hts : ∀ w ∈ W0, w.before _ s = true := fun w h => hts1 w (List.mem_cons_of_mem _ h)
  have htab := vx_table (x := y_L_support) B (hts1 _ List.mem_cons_self)
  have hown : s.vm.findClass R_L = some m.cls := findClass_of_methodNamed B.named
  have hlocks := B.notSynchronized
  subst hsz
  have hD := hD0.self (sz := s.heap.size)
  have hZ : xZ (va_A (lW cI cJ z a b N E V o0 f) s.heap.size) s s.heap := hZ
  generalize hAe : va_A (lW cI cJ z a b N E V o0 f) s.heap.size = A at hD hZ ⊢
  have hA : ∀ q : Nat, s.heap.size ≤ q → A q := fun q h => by rw [← hAe]; exact Or.inr h
  have hS : va_S A s.heap s.heap [] := va_S.rf
  have hP : va_P (dC, dI) cls0 (lW cI cJ z a b N E V o0 f) s.heap := hP
  have hl := lv_entry ([.ref (z 0), .int x1, .ref o0]) (n := 4) (Nat.le_of_ble_eq_true rfl)
  rw [lg_entry_eq]
  generalize (lg_sl ([.ref (z 0), .int x1, .ref o0]) ++ List.replicate (4 - (lg_sl ([.ref (z 0), .int x1, .ref o0])).length) Slot.unset).toArray = ls at hl ⊢
  have hl : lv_has ls 4 [(0, .ref (z 0)), (1, .int x1), (2, .ref o0)] := hl
  refine lv_aload_n hx hb d_L_support_0 rfl (lv_at hl 2 rfl) ?_
  refine lv_iconst (v := 0) hx hb d_L_support_1 (by decide) ?_
  refine lv_aload_n hx hb d_L_support_2 rfl (lv_at hl 0 rfl) ?_
  refine lv_iload_n hx hb d_L_support_3 rfl (lv_at hl 1 rfl) ?_
  refine hTx (As := [.int x1]) (rest := [.int 0, .ref o0]) ⟨hx, hb, hml, hown, hts⟩ (t_S_support l hlt (fun _ => False) (z 0) x1 hno) (cwV 1 hts (gV kml_L_45 kim_S_support ksl_S_support kin_S kcd_S_support) rfl rfl rfl (by decide +kernel) ⟨by show 45 + 1 ≤ 47; omega, by show 8 + (2 + 11) + 2600 ≤ 2700; omega⟩) hP hK (hZ.narrow (fun _ h => h.elim)) hS rfl hl.1 rfl (Nat.le_of_ble_eq_true rfl) d_L_support_4 ⟨by show 0 + 1 ≤ 1; omega, by show 0 + 6 ≤ 6; omega⟩ (fun ce q9 H locs hz hk hS hce hcv hcl => ?_)
  have hP := P_keep hP hk
  refine vx_catch (own := R_L) (name := xIA) hown [] ⟨0, 9, 12, 13⟩ [] htab (fun q h => by cases h) (by decide) (by decide) (hts _ kcl_L_13) (hZ.2.2.1.use _ (by decide)) hce hcv hcl ?_
  refine lv_astore_n (lv' := [(3, .ref q9), (0, .ref (z 0)), (1, .int x1), (2, .ref o0)]) hx hb d_L_support_12 rfl hl (by decide) rfl (fun ls hl => ?_)
  refine lv_iconst (v := 1) hx hb d_L_support_13 (by decide) ?_
  refine W.cs (cells' := 1) (slots' := 6) (by omega) (by omega) ?_
  exact W.iret (v := 1) hx hb hr (fun t ht hW => ⟨⟨1, (a, f), rfl, rfl, by rw [ht]; exact hP, va_K.moved hW.alike hK, hD⟩, hS.F ht⟩) hS.2.2 d_L_support_14

set_option maxHeartbeats 8000000 in
set_option maxRecDepth 100000 in
theorem cL_tidy (l : Launch) (dC : Nat → ClassId) (dI : Nat → Nat → Nat) (cI cJ : ClassId) (z a b : Nat → Nat) (N E : Mm) (V : Nat → Int32) (o0 : Nat) (f : Nat → Int64) (sz : Nat) (x1 : Int32) {N' E' : Mm} {V' : Nat → Int32} {r : Int32} {mc ms : Nat} {S : Type} {ad : S → Nat → Nat} {post : Int32 → S → Prop} (hpost : ∀ x u, post x u → x = r) (hM : Met l y_S_tidy (.code y_S_tidy b_S_tidy 2 (some .int) :: W0) ({ frames := 45, cells := mc, slots := ms, locals := 2600 } : Room) (va_Pc [.ref (z 0), .int x1] (tM dC dI cI z a b N E V sz)) (va_Qi post (fun u t => tE dC dI cI z (ad u) b N' E' V' (va_A (tW cI z a b N E V) sz) t) (va_A (tW cI z a b N E V) sz)) mc ms (va_A (tW cI z a b N E V) sz)) : Met l y_L_tidy (.codeWith y_L_tidy b_L_tidy 4 (some .int) [(0, 9, 12, 13)] :: W0) ({ frames := 47, cells := mc, slots := ms, locals := 2700 } : Room) (va_Pc [.ref (z 0), .int x1, .ref o0] (fun U => lM dC dI cI cJ z a b N E V o0 f sz U ∧ True)) (va_Qi (fun (x : Int32) (u : (Nat → Nat) × (Nat → Int64)) => x = 0 ∧ u.2 0 = r.toInt64) (fun u t => lE dC dI cI cJ z u.1 b N' E' V' o0 u.2 (va_A (lW cI cJ z a b N E V o0 f) sz) t) (va_A (lW cI cJ z a b N E V o0 f) sz)) mc ms (va_A (lW cI cJ z a b N E V o0 f) sz) := by
  refine va_MetW (cc := b_L_tidy) (maxL := 4) (ret := (some .int)) (hh := [(0, 9, 12, 13)]) (by decide) rfl ?_
  intro p e s m args below meth c s₁ B hml hv
  obtain ⟨rfl, ⟨hsz, hP, hK, hD0⟩, -⟩ := hv
  have hx := B.exec
  have hb := B.bytes
  have hr := B.returns
  have hts1 := atoms_spec (ws := .codeWith y_L_tidy b_L_tidy 4 (some .int) [(0, 9, 12, 13)] :: W0) B.pre
  have hts : ∀ w ∈ W0, w.before _ s = true := fun w h => hts1 w (List.mem_cons_of_mem _ h)
  have htab := vx_table (x := y_L_tidy) B (hts1 _ List.mem_cons_self)
  have hown : s.vm.findClass R_L = some m.cls := findClass_of_methodNamed B.named
  have hlocks := B.notSynchronized
  subst hsz
  have hD := hD0.self (sz := s.heap.size)
  generalize hAe : va_A (lW cI cJ z a b N E V o0 f) s.heap.size = A at hD ⊢
  have hA : ∀ q : Nat, s.heap.size ≤ q → A q := fun q h => by rw [← hAe]; exact Or.inr h
  have hS : va_S A s.heap s.heap [] := va_S.rf
  have hP : va_P (dC, dI) cls0 (lW cI cJ z a b N E V o0 f) s.heap := hP
  have hl := lv_entry ([.ref (z 0), .int x1, .ref o0]) (n := 4) (Nat.le_of_ble_eq_true rfl)
  rw [lg_entry_eq]
  generalize (lg_sl ([.ref (z 0), .int x1, .ref o0]) ++ List.replicate (4 - (lg_sl ([.ref (z 0), .int x1, .ref o0])).length) Slot.unset).toArray = ls at hl ⊢
  have hl : lv_has ls 4 [(0, .ref (z 0)), (1, .int x1), (2, .ref o0)] := hl
  refine lv_aload_n hx hb d_L_tidy_0 rfl (lv_at hl 2 rfl) ?_
  refine lv_iconst (v := 0) hx hb d_L_tidy_1 (by decide) ?_
  refine lv_aload_n hx hb d_L_tidy_2 rfl (lv_at hl 0 rfl) ?_
  refine lv_iload_n hx hb d_L_tidy_3 rfl (lv_at hl 1 rfl) ?_
  refine hTi hpost (As := [.int x1]) (rest := [.int 0, .ref o0]) ⟨hx, hb, hml, hown, hts⟩ hM (cwV 1 hts (gV kml_L_48 kim_S_tidy ksl_S_tidy kin_S kcd_S_tidy) rfl rfl rfl (by decide +kernel) ⟨by show 45 + 1 ≤ 47; omega, by show 8 + (2 + 11) + 2600 ≤ 2700; omega⟩) hP hK hD hS hA rfl hl.1 rfl (Nat.le_of_ble_eq_true rfl) d_L_tidy_4 ⟨by show 0 + mc ≤ mc; omega, by show 0 + ms ≤ ms; omega⟩ (fun a2 H locs hP hD hS => ?_)
  refine W.cs (cells' := mc) (slots' := ms) (by omega) (by omega) ?_
  refine lv_i2l (v := r.toInt64) hx hb d_L_tidy_7 rfl ?_
  refine va_last hx hb hK hP hD hS 12 1 rfl rfl (vp_in_nI (show 0 < 1 by decide) (by decide)) d_L_tidy_8 (fun H locs hP hD hS => ?_)
  refine lv_goto (tgt := 15) hx hb d_L_tidy_9 (by decide) ?_
  refine lv_iconst (v := 0) hx hb d_L_tidy_15 (by decide) ?_
  exact W.iret (v := 0) hx hb hr (fun t ht hW => ⟨⟨0, (a2, (vp_updL f (0 : Int32).toNatClampNeg r.toInt64)), rfl, ⟨rfl, rfl⟩, by rw [ht]; exact hP, va_K.moved hW.alike hK, hD⟩, hS.F ht⟩) hS.2.2 d_L_tidy_16

set_option maxHeartbeats 8000000 in
set_option maxRecDepth 100000 in
theorem fL_tidy (l : Launch) (dC : Nat → ClassId) (dI : Nat → Nat → Nat) (cI cJ : ClassId) (z a b : Nat → Nat) (N E : Mm) (V : Nat → Int32) (o0 : Nat) (f : Nat → Int64) (sz : Nat) (x1 : Int32) (hlt : l.stackTraces = false) (hno : ¬ (okb x1 3)) : Met l y_L_tidy (.codeWith y_L_tidy b_L_tidy 4 (some .int) [(0, 9, 12, 13)] :: W0) ({ frames := 47, cells := 1, slots := 6, locals := 2700 } : Room) (va_Pc [.ref (z 0), .int x1, .ref o0] (fun U => lM dC dI cI cJ z a b N E V o0 f sz U ∧ xZ (va_A (lW cI cJ z a b N E V o0 f) sz) U U.heap)) (va_Qi (fun (x : Int32) (_ : (Nat → Nat) × (Nat → Int64)) => x = 1) (fun u t => lE dC dI cI cJ z u.1 b N E V o0 u.2 (va_A (lW cI cJ z a b N E V o0 f) sz) t) (va_A (lW cI cJ z a b N E V o0 f) sz)) 1 6 (va_A (lW cI cJ z a b N E V o0 f) sz) := by
  refine va_MetW (cc := b_L_tidy) (maxL := 4) (ret := (some .int)) (hh := [(0, 9, 12, 13)]) (by decide) rfl ?_
  intro p e s m args below meth c s₁ B hml hv
  obtain ⟨rfl, ⟨hsz, hP, hK, hD0⟩, hZ⟩ := hv
  have hx := B.exec
  have hb := B.bytes
  have hr := B.returns
  have hts1 := atoms_spec (ws := .codeWith y_L_tidy b_L_tidy 4 (some .int) [(0, 9, 12, 13)] :: W0) B.pre
  have hts : ∀ w ∈ W0, w.before _ s = true := fun w h => hts1 w (List.mem_cons_of_mem _ h)
  have htab := vx_table (x := y_L_tidy) B (hts1 _ List.mem_cons_self)
  have hown : s.vm.findClass R_L = some m.cls := findClass_of_methodNamed B.named
  have hlocks := B.notSynchronized
  subst hsz
  have hD := hD0.self (sz := s.heap.size)
  have hZ : xZ (va_A (lW cI cJ z a b N E V o0 f) s.heap.size) s s.heap := hZ
  generalize hAe : va_A (lW cI cJ z a b N E V o0 f) s.heap.size = A at hD hZ ⊢
  have hA : ∀ q : Nat, s.heap.size ≤ q → A q := fun q h => by rw [← hAe]; exact Or.inr h
  have hS : va_S A s.heap s.heap [] := va_S.rf
  have hP : va_P (dC, dI) cls0 (lW cI cJ z a b N E V o0 f) s.heap := hP
  have hl := lv_entry ([.ref (z 0), .int x1, .ref o0]) (n := 4) (Nat.le_of_ble_eq_true rfl)
  rw [lg_entry_eq]
  generalize (lg_sl ([.ref (z 0), .int x1, .ref o0]) ++ List.replicate (4 - (lg_sl ([.ref (z 0), .int x1, .ref o0])).length) Slot.unset).toArray = ls at hl ⊢
  have hl : lv_has ls 4 [(0, .ref (z 0)), (1, .int x1), (2, .ref o0)] := hl
  refine lv_aload_n hx hb d_L_tidy_0 rfl (lv_at hl 2 rfl) ?_
  refine lv_iconst (v := 0) hx hb d_L_tidy_1 (by decide) ?_
  refine lv_aload_n hx hb d_L_tidy_2 rfl (lv_at hl 0 rfl) ?_
  refine lv_iload_n hx hb d_L_tidy_3 rfl (lv_at hl 1 rfl) ?_
  refine hTx (As := [.int x1]) (rest := [.int 0, .ref o0]) ⟨hx, hb, hml, hown, hts⟩ (t_S_tidy l hlt (fun _ => False) (z 0) x1 hno) (cwV 1 hts (gV kml_L_48 kim_S_tidy ksl_S_tidy kin_S kcd_S_tidy) rfl rfl rfl (by decide +kernel) ⟨by show 45 + 1 ≤ 47; omega, by show 8 + (2 + 11) + 2600 ≤ 2700; omega⟩) hP hK (hZ.narrow (fun _ h => h.elim)) hS rfl hl.1 rfl (Nat.le_of_ble_eq_true rfl) d_L_tidy_4 ⟨by show 0 + 1 ≤ 1; omega, by show 0 + 6 ≤ 6; omega⟩ (fun ce q9 H locs hz hk hS hce hcv hcl => ?_)
  have hP := P_keep hP hk
  refine vx_catch (own := R_L) (name := xIA) hown [] ⟨0, 9, 12, 13⟩ [] htab (fun q h => by cases h) (by decide) (by decide) (hts _ kcl_L_13) (hZ.2.2.1.use _ (by decide)) hce hcv hcl ?_
  refine lv_astore_n (lv' := [(3, .ref q9), (0, .ref (z 0)), (1, .int x1), (2, .ref o0)]) hx hb d_L_tidy_12 rfl hl (by decide) rfl (fun ls hl => ?_)
  refine lv_iconst (v := 1) hx hb d_L_tidy_13 (by decide) ?_
  refine W.cs (cells' := 1) (slots' := 6) (by omega) (by omega) ?_
  exact W.iret (v := 1) hx hb hr (fun t ht hW => ⟨⟨1, (a, f), rfl, rfl, by rw [ht]; exact hP, va_K.moved hW.alike hK, hD⟩, hS.F ht⟩) hS.2.2 d_L_tidy_14

set_option maxHeartbeats 8000000 in
set_option maxRecDepth 100000 in
theorem gL_count (l : Launch) (dC : Nat → ClassId) (dI : Nat → Nat → Nat) (cI cJ : ClassId) (z a b : Nat → Nat) (N E : Mm) (V : Nat → Int32) (o0 : Nat) (f : Nat → Int64) (sz : Nat) (x1 : Int32) (hlt : l.stackTraces = false) (k1 : okb x1 32) {E' : Mm} {r : Int32} (hres : j_hang 12 N (j_forget E) (V x1.toNatClampNeg) = (E', r)) (hev : ¬ r &&& (-1366) = 0) : Met l y_L_count (.codeWith y_L_count b_L_count 4 (some .int) [(0, 9, 12, 13), (0, 9, 15, 43)] :: W0) ({ frames := 47, cells := 1, slots := 6, locals := 2700 } : Room) (va_Pc [.ref (z 0), .int x1, .ref o0] (fun U => lM dC dI cI cJ z a b N E V o0 f sz U ∧ xZ (va_A (lW cI cJ z a b N E V o0 f) sz) U U.heap ∧ va_Nc xUO xIA U)) (va_Qi (fun (x : Int32) (_ : (Nat → Nat) × (Nat → Int64)) => x = 2) (fun u t => lE dC dI cI cJ z u.1 b N E' V o0 u.2 (va_A (lW cI cJ z a b N E V o0 f) sz) t) (va_A (lW cI cJ z a b N E V o0 f) sz)) 1 6 (va_A (lW cI cJ z a b N E V o0 f) sz) := by
  refine va_MetW (cc := b_L_count) (maxL := 4) (ret := (some .int)) (hh := [(0, 9, 12, 13), (0, 9, 15, 43)]) (by decide) rfl ?_
  intro p e s m args below meth c s₁ B hml hv
  obtain ⟨rfl, ⟨hsz, hP, hK, hD0⟩, hZ, hNc⟩ := hv
  have hx := B.exec
  have hb := B.bytes
  have hr := B.returns
  have hts1 := atoms_spec (ws := .codeWith y_L_count b_L_count 4 (some .int) [(0, 9, 12, 13), (0, 9, 15, 43)] :: W0) B.pre
  have hts : ∀ w ∈ W0, w.before _ s = true := fun w h => hts1 w (List.mem_cons_of_mem _ h)
  have htab := vx_table (x := y_L_count) B (hts1 _ List.mem_cons_self)
  have hown : s.vm.findClass R_L = some m.cls := findClass_of_methodNamed B.named
  have hlocks := B.notSynchronized
  subst hsz
  have hD := hD0.self (sz := s.heap.size)
  have hZ : xZ (va_A (lW cI cJ z a b N E V o0 f) s.heap.size) s s.heap := hZ
  generalize hAe : va_A (lW cI cJ z a b N E V o0 f) s.heap.size = A at hD hZ ⊢
  have hA : ∀ q : Nat, s.heap.size ≤ q → A q := fun q h => by rw [← hAe]; exact Or.inr h
  have hS : va_S A s.heap s.heap [] := va_S.rf
  have hP : va_P (dC, dI) cls0 (lW cI cJ z a b N E V o0 f) s.heap := hP
  have hl := lv_entry ([.ref (z 0), .int x1, .ref o0]) (n := 4) (Nat.le_of_ble_eq_true rfl)
  rw [lg_entry_eq]
  generalize (lg_sl ([.ref (z 0), .int x1, .ref o0]) ++ List.replicate (4 - (lg_sl ([.ref (z 0), .int x1, .ref o0])).length) Slot.unset).toArray = ls at hl ⊢
  have hl : lv_has ls 4 [(0, .ref (z 0)), (1, .int x1), (2, .ref o0)] := hl
  refine lv_aload_n hx hb d_L_count_0 rfl (lv_at hl 2 rfl) ?_
  refine lv_iconst (v := 0) hx hb d_L_count_1 (by decide) ?_
  refine lv_aload_n hx hb d_L_count_2 rfl (lv_at hl 0 rfl) ?_
  refine lv_iload_n hx hb d_L_count_3 rfl (lv_at hl 1 rfl) ?_
  refine hTu (As := [.int x1]) (rest := [.int 0, .ref o0]) ⟨hx, hb, hml, hown, hts⟩ (u_S_count l dC dI cI z a b N E V hlt _ x1 k1 hres hev) (cwV 1 hts (gV kml_L_39 kim_S_count ksl_S_count kin_S kcd_S_count) rfl rfl rfl (by decide +kernel) ⟨by show 45 + 1 ≤ 47; omega, by show 8 + (5 + 11) + 2600 ≤ 2700; omega⟩) hP hK hD hZ hS hA rfl hl.1 rfl (Nat.le_of_ble_eq_true rfl) d_L_count_4 ⟨by show 0 + 1 ≤ 1; omega, by show 0 + 6 ≤ 6; omega⟩ (fun ce q9 H locs hP hD hS hce hcv hcl => ?_)
  refine vx_catch (own := R_L) (name := xUO) hown [⟨0, 9, 12, 13⟩] ⟨0, 9, 15, 43⟩ [] htab (fun q h => Or.inr ⟨by rw [List.mem_singleton.mp h]; decide, xIA, by rw [List.mem_singleton.mp h]; exact hts _ kcl_L_13, hNc⟩) (by decide) (by decide) (hts _ kcl_L_43) (hZ.2.2.1.use _ (by decide)) hce hcv hcl ?_
  refine lv_astore_n (lv' := [(3, .ref q9), (0, .ref (z 0)), (1, .int x1), (2, .ref o0)]) hx hb d_L_count_15 rfl hl (by decide) rfl (fun ls hl => ?_)
  refine lv_iconst (v := 2) hx hb d_L_count_16 (by decide) ?_
  refine W.cs (cells' := 1) (slots' := 6) (by omega) (by omega) ?_
  exact W.iret (v := 2) hx hb hr (fun t ht hW => ⟨⟨2, (a, f), rfl, rfl, by rw [ht]; exact hP, va_K.moved hW.alike hK, hD⟩, hS.F ht⟩) hS.2.2 d_L_count_17
