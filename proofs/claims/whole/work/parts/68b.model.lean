/-! THE REFERENCE: its methods -/
set_option maxHeartbeats 8000000 in
set_option maxRecDepth 100000 in
theorem c_R_thrown (l : Launch) (dC : Nat → ClassId) (dI : Nat → Nat → Nat) (cZ : ClassId) (y : Nat → Nat) (fa : Int32) (F : Nat → Nat → Bool) (g h : Nat → Bool) : Met l y_R_thrown (.code y_R_thrown b_R_thrown 1 (some .int) :: W0) ({ frames := 0, cells := 0, slots := 0, locals := 0 } : Room) (va_Pc [.ref (y 0)] (dR dC dI cZ y fa F g h)) (QcRead (fa)) 0 0 (fun _ => False) := by
  refine Met.ofW (cc := b_R_thrown) (maxL := 1) (ret := (some .int)) (by decide) rfl ?_
  intro p e s m args below meth c s₁ B hml hv
  obtain ⟨rfl, hP, hK⟩ := hv
  have hx := B.exec
  have hb := B.bytes
  have hr := B.returns
  have hts1 := atoms_spec (ws := .code y_R_thrown b_R_thrown 1 (some .int) :: W0) B.pre
  have hts : ∀ w ∈ W0, w.before _ s = true := fun w h => hts1 w (List.mem_cons_of_mem _ h)
  have hown : s.vm.findClass R_R = some m.cls := findClass_of_methodNamed B.named
  have hlocks := B.notSynchronized
  have hl := lv_entry ([.ref (y 0)]) (n := 1) (Nat.le_of_ble_eq_true rfl)
  rw [lg_entry_eq]
  generalize (lg_sl ([.ref (y 0)]) ++ List.replicate (1 - (lg_sl ([.ref (y 0)])).length) Slot.unset).toArray = ls at hl ⊢
  have hl : lv_has ls 1 [(0, .ref (y 0))] := hl
  refine lv_aload_n hx hb d_R_thrown_0 rfl (lv_at hl 0 rfl) ?_
  refine va_get (D := (dC, dI)) (ci := 5) (v := .int fa) (C := R_R) (T := T_R) (N := 4) hx hb hts in_R hown hK hP 0 rfl rfl 0 (by decide) (hts _ kfl_R_20) (fun _ h9 => h9) rfl d_R_thrown_1 ?_
  exact W.iret (v := fa) hx hb hr (fun t ht hW => ⟨by rw [show fa = fa from rfl], ht⟩) (fun q h => by cases h) d_R_thrown_4

set_option maxHeartbeats 8000000 in
set_option maxRecDepth 100000 in
theorem c_R_out0 (l : Launch) (dC : Nat → ClassId) (dI : Nat → Nat → Nat) (cZ : ClassId) (y : Nat → Nat) (fa : Int32) (F : Nat → Nat → Bool) (g h : Nat → Bool) (x1 x2 : Int32) (hk : okb x1 x2) : Met l y_R_out (.code y_R_out b_R_out 3 (some .boolean) :: W0) ({ frames := 0, cells := 0, slots := 0, locals := 0 } : Room) (va_Pc [.ref (y 0), .int x1, .int x2] (dR dC dI cZ y fa F g h)) (QcRead (0)) 0 0 (fun _ => False) := by
  refine Met.ofW (cc := b_R_out) (maxL := 3) (ret := (some .boolean)) (by decide) rfl ?_
  intro p e s m args below meth c s₁ B hml hv
  obtain ⟨rfl, hP, hK⟩ := hv
  have hx := B.exec
  have hb := B.bytes
  have hr := B.returns
  have hts1 := atoms_spec (ws := .code y_R_out b_R_out 3 (some .boolean) :: W0) B.pre
  have hts : ∀ w ∈ W0, w.before _ s = true := fun w h => hts1 w (List.mem_cons_of_mem _ h)
  have hown : s.vm.findClass R_R = some m.cls := findClass_of_methodNamed B.named
  have hlocks := B.notSynchronized
  have hl := lv_entry ([.ref (y 0), .int x1, .int x2]) (n := 3) (Nat.le_of_ble_eq_true rfl)
  rw [lg_entry_eq]
  generalize (lg_sl ([.ref (y 0), .int x1, .int x2]) ++ List.replicate (3 - (lg_sl ([.ref (y 0), .int x1, .int x2])).length) Slot.unset).toArray = ls at hl ⊢
  have hl : lv_has ls 3 [(0, .ref (y 0)), (1, .int x1), (2, .int x2)] := hl
  refine lv_iload_n hx hb d_R_out_0 rfl (lv_at hl 1 rfl) ?_
  refine lv_if_lt (tgt := 9) hx hb d_R_out_1 (by decide) (fun c1 => ?_) (fun c1 => ?_)
  · exact absurd c1 hk.1
  · refine lv_iload_n hx hb d_R_out_4 rfl (lv_at hl 1 rfl) ?_
    refine lv_iload_n hx hb d_R_out_5 rfl (lv_at hl 2 rfl) ?_
    refine lv_icmp_lt (tgt := 13) hx hb d_R_out_6 (by decide) (fun c6 => ?_) (fun c6 => ?_)
    · refine lv_iconst (v := 0) hx hb d_R_out_13 (by decide) ?_
      exact W.zret (ty := .boolean) (v := 0) hx hb hr rfl (fun t ht hW => ⟨by rw [show (0 : Int32) = 0 from rfl], ht⟩) (fun q h => by cases h) d_R_out_14
    · exact absurd hk.2 c6

set_option maxHeartbeats 8000000 in
set_option maxRecDepth 100000 in
theorem c_R_out1 (l : Launch) (dC : Nat → ClassId) (dI : Nat → Nat → Nat) (cZ : ClassId) (y : Nat → Nat) (fa : Int32) (F : Nat → Nat → Bool) (g h : Nat → Bool) (x1 x2 : Int32) (hk : ¬ okb x1 x2) : Met l y_R_out (.code y_R_out b_R_out 3 (some .boolean) :: W0) ({ frames := 0, cells := 0, slots := 0, locals := 0 } : Room) (va_Pc [.ref (y 0), .int x1, .int x2] (dR dC dI cZ y fa F g h)) (QcRead (1)) 0 0 (fun _ => False) := by
  refine Met.ofW (cc := b_R_out) (maxL := 3) (ret := (some .boolean)) (by decide) rfl ?_
  intro p e s m args below meth c s₁ B hml hv
  obtain ⟨rfl, hP, hK⟩ := hv
  have hx := B.exec
  have hb := B.bytes
  have hr := B.returns
  have hts1 := atoms_spec (ws := .code y_R_out b_R_out 3 (some .boolean) :: W0) B.pre
  have hts : ∀ w ∈ W0, w.before _ s = true := fun w h => hts1 w (List.mem_cons_of_mem _ h)
  have hown : s.vm.findClass R_R = some m.cls := findClass_of_methodNamed B.named
  have hlocks := B.notSynchronized
  have hl := lv_entry ([.ref (y 0), .int x1, .int x2]) (n := 3) (Nat.le_of_ble_eq_true rfl)
  rw [lg_entry_eq]
  generalize (lg_sl ([.ref (y 0), .int x1, .int x2]) ++ List.replicate (3 - (lg_sl ([.ref (y 0), .int x1, .int x2])).length) Slot.unset).toArray = ls at hl ⊢
  have hl : lv_has ls 3 [(0, .ref (y 0)), (1, .int x1), (2, .int x2)] := hl
  refine lv_iload_n hx hb d_R_out_0 rfl (lv_at hl 1 rfl) ?_
  refine lv_if_lt (tgt := 9) hx hb d_R_out_1 (by decide) (fun c1 => ?_) (fun c1 => ?_)
  · refine lv_iconst (v := 1) hx hb d_R_out_9 (by decide) ?_
    refine lv_goto (tgt := 14) hx hb d_R_out_10 (by decide) ?_
    exact W.zret (ty := .boolean) (v := 1) hx hb hr rfl (fun t ht hW => ⟨by rw [show (1 : Int32) = 1 from rfl], ht⟩) (fun q h => by cases h) d_R_out_14
  · refine lv_iload_n hx hb d_R_out_4 rfl (lv_at hl 1 rfl) ?_
    refine lv_iload_n hx hb d_R_out_5 rfl (lv_at hl 2 rfl) ?_
    refine lv_icmp_lt (tgt := 13) hx hb d_R_out_6 (by decide) (fun c6 => ?_) (fun c6 => ?_)
    · exact absurd ⟨c1, c6⟩ hk
    · refine lv_iconst (v := 1) hx hb d_R_out_9 (by decide) ?_
      refine lv_goto (tgt := 14) hx hb d_R_out_10 (by decide) ?_
      exact W.zret (ty := .boolean) (v := 1) hx hb hr rfl (fun t ht hW => ⟨by rw [show (1 : Int32) = 1 from rfl], ht⟩) (fun q h => by cases h) d_R_out_14

set_option maxHeartbeats 8000000 in
set_option maxRecDepth 100000 in
theorem c_R_at (l : Launch) (dC : Nat → ClassId) (dI : Nat → Nat → Nat) (cZ : ClassId) (y : Nat → Nat) (fa : Int32) (F : Nat → Nat → Bool) (g h : Nat → Bool) (i w : Nat) (hi : i < 32) (hw : w < 4096) : Met l y_R_at (.code y_R_at b_R_at 3 (some .boolean) :: W0) ({ frames := 0, cells := 0, slots := 0, locals := 0 } : Room) (va_Pc [.ref (y 0), .int (nI i), .int (nI w)] (dR dC dI cZ y fa F g h)) (QcRead (zb (F i w))) 0 0 (fun _ => False) := by
  refine Met.ofW (cc := b_R_at) (maxL := 3) (ret := (some .boolean)) (by decide) rfl ?_
  intro p e s m args below meth c s₁ B hml hv
  obtain ⟨rfl, hP, hK⟩ := hv
  have hx := B.exec
  have hb := B.bytes
  have hr := B.returns
  have hts1 := atoms_spec (ws := .code y_R_at b_R_at 3 (some .boolean) :: W0) B.pre
  have hts : ∀ w ∈ W0, w.before _ s = true := fun w h => hts1 w (List.mem_cons_of_mem _ h)
  have hown : s.vm.findClass R_R = some m.cls := findClass_of_methodNamed B.named
  have hlocks := B.notSynchronized
  have hl := lv_entry ([.ref (y 0), .int (nI i), .int (nI w)]) (n := 3) (Nat.le_of_ble_eq_true rfl)
  rw [lg_entry_eq]
  generalize (lg_sl ([.ref (y 0), .int (nI i), .int (nI w)]) ++ List.replicate (3 - (lg_sl ([.ref (y 0), .int (nI i), .int (nI w)])).length) Slot.unset).toArray = ls at hl ⊢
  have hl : lv_has ls 3 [(0, .ref (y 0)), (1, .int (nI i)), (2, .int (nI w))] := hl
  refine lv_aload_n hx hb d_R_at_0 rfl (lv_at hl 0 rfl) ?_
  refine va_get (D := (dC, dI)) (ci := 5) (v := .ref (y 1)) (C := R_R) (T := T_R) (N := 4) hx hb hts in_R hown hK hP 0 rfl rfl 1 (by decide) (hts _ kfl_R_8) (fun _ h9 => h9) rfl d_R_at_1 ?_
  refine lv_sipush (v := 4096) hx hb d_R_at_4 (by decide) ?_
  refine lv_iload_n hx hb d_R_at_7 rfl (lv_at hl 1 rfl) ?_
  refine lv_imul hx hb d_R_at_8 ?_
  refine lv_iload_n hx hb d_R_at_9 rfl (lv_at hl 2 rfl) ?_
  refine lv_iadd hx hb d_R_at_10 ?_
  rw [ix_e]
  refine va_zald hx hb hK hP 1 0 rfl rfl (vp_in_nI (by omega) (by decide)) d_R_at_11 ?_
  rw [rI_at _ (i := i) (w := w) (by omega) (by omega)]
  exact W.zret (ty := .boolean) (v := (zb (F i w))) hx hb hr (zb_nw _) (fun t ht hW => ⟨by rw [show zb (F i w) = zb (F i w) from rfl], ht⟩) (fun q h => by cases h) d_R_at_12

set_option maxHeartbeats 8000000 in
set_option maxRecDepth 100000 in
theorem c_R_fail (l : Launch) (dC : Nat → ClassId) (dI : Nat → Nat → Nat) (cZ : ClassId) (y : Nat → Nat) (fa : Int32) (F : Nat → Nat → Bool) (g h : Nat → Bool) (sz : Nat) (x1 : Int32) : Met l y_R_fail (.code y_R_fail b_R_fail 2 (some .boolean) :: W0) ({ frames := 0, cells := 0, slots := 0, locals := 0 } : Room) (va_Pc [.ref (y 0), .int x1] (dM dC dI cZ y fa F g h sz)) (va_Qi (fun (x : Int32) (_ : Unit) => x = 0) (fun _ t => dE dC dI cZ y x1 F g h (va_A (dW cZ y fa F g h) sz) t) (va_A (dW cZ y fa F g h) sz)) 0 0 (va_A (dW cZ y fa F g h) sz) := by
  refine Met.ofW (cc := b_R_fail) (maxL := 2) (ret := (some .boolean)) (by decide) rfl ?_
  intro p e s m args below meth c s₁ B hml hv
  obtain ⟨rfl, hsz, hP, hK, hD0⟩ := hv
  have hx := B.exec
  have hb := B.bytes
  have hr := B.returns
  have hts1 := atoms_spec (ws := .code y_R_fail b_R_fail 2 (some .boolean) :: W0) B.pre
  have hts : ∀ w ∈ W0, w.before _ s = true := fun w h => hts1 w (List.mem_cons_of_mem _ h)
  have hown : s.vm.findClass R_R = some m.cls := findClass_of_methodNamed B.named
  have hlocks := B.notSynchronized
  subst hsz
  have hD := hD0.self (sz := s.heap.size)
  generalize hAe : va_A (dW cZ y fa F g h) s.heap.size = A at hD ⊢
  have hA : ∀ q : Nat, s.heap.size ≤ q → A q := fun q h => by rw [← hAe]; exact Or.inr h
  have hS : va_S A s.heap s.heap [] := va_S.rf
  have hP : va_P (dC, dI) cls0 (dW cZ y fa F g h) s.heap := hP
  have hl := lv_entry ([.ref (y 0), .int x1]) (n := 2) (Nat.le_of_ble_eq_true rfl)
  rw [lg_entry_eq]
  generalize (lg_sl ([.ref (y 0), .int x1]) ++ List.replicate (2 - (lg_sl ([.ref (y 0), .int x1])).length) Slot.unset).toArray = ls at hl ⊢
  have hl : lv_has ls 2 [(0, .ref (y 0)), (1, .int x1)] := hl
  refine lv_aload_n hx hb d_R_fail_0 rfl (lv_at hl 0 rfl) ?_
  refine lv_iload_n hx hb d_R_fail_1 rfl (lv_at hl 1 rfl) ?_
  refine dPut hx hb hts hown hK hP hD hS d_R_fail_2 (fun H locs hP hD hS => ?_)
  refine lv_iconst (v := 0) hx hb d_R_fail_5 (by decide) ?_
  exact W.zret (ty := .boolean) (v := 0) hx hb hr rfl (fun t ht hW => ⟨⟨0, (), rfl, rfl, by rw [ht]; exact hP, va_K.moved hW.alike hK, hD⟩, hS.F ht⟩) hS.2.2 d_R_fail_6

set_option maxHeartbeats 8000000 in
set_option maxRecDepth 100000 in
theorem c_R_wrong (l : Launch) (dC : Nat → ClassId) (dI : Nat → Nat → Nat) (cZ : ClassId) (y : Nat → Nat) (fa : Int32) (F : Nat → Nat → Bool) (g h : Nat → Bool) (sz : Nat) : Met l y_R_wrong (.code y_R_wrong b_R_wrong 1 (some .int) :: W0) ({ frames := 0, cells := 0, slots := 0, locals := 0 } : Room) (va_Pc [.ref (y 0)] (dM dC dI cZ y fa F g h sz)) (va_Qi (fun (x : Int32) (_ : (Nat → Bool) × (Nat → Bool)) => x = 0) (fun u t => dE dC dI cZ y 0 F u.1 u.2 (va_A (dW cZ y fa F g h) sz) t) (va_A (dW cZ y fa F g h) sz)) 0 0 (va_A (dW cZ y fa F g h) sz) := by
  refine Met.ofW (cc := b_R_wrong) (maxL := 1) (ret := (some .int)) (by decide) rfl ?_
  intro p e s m args below meth c s₁ B hml hv
  obtain ⟨rfl, hsz, hP, hK, hD0⟩ := hv
  have hx := B.exec
  have hb := B.bytes
  have hr := B.returns
  have hts1 := atoms_spec (ws := .code y_R_wrong b_R_wrong 1 (some .int) :: W0) B.pre
  have hts : ∀ w ∈ W0, w.before _ s = true := fun w h => hts1 w (List.mem_cons_of_mem _ h)
  have hown : s.vm.findClass R_R = some m.cls := findClass_of_methodNamed B.named
  have hlocks := B.notSynchronized
  subst hsz
  have hD := hD0.self (sz := s.heap.size)
  generalize hAe : va_A (dW cZ y fa F g h) s.heap.size = A at hD ⊢
  have hA : ∀ q : Nat, s.heap.size ≤ q → A q := fun q h => by rw [← hAe]; exact Or.inr h
  have hS : va_S A s.heap s.heap [] := va_S.rf
  have hP : va_P (dC, dI) cls0 (dW cZ y fa F g h) s.heap := hP
  have hl := lv_entry ([.ref (y 0)]) (n := 1) (Nat.le_of_ble_eq_true rfl)
  rw [lg_entry_eq]
  generalize (lg_sl ([.ref (y 0)]) ++ List.replicate (1 - (lg_sl ([.ref (y 0)])).length) Slot.unset).toArray = ls at hl ⊢
  have hl : lv_has ls 1 [(0, .ref (y 0))] := hl
  refine lv_aload_n hx hb d_R_wrong_0 rfl (lv_at hl 0 rfl) ?_
  refine lv_iconst (v := 0) hx hb d_R_wrong_1 (by decide) ?_
  refine dPut hx hb hts hown hK hP hD hS d_R_wrong_2 (fun H locs hP hD hS => ?_)
  refine lv_iconst (v := 0) hx hb d_R_wrong_5 (by decide) ?_
  exact W.iret (v := 0) hx hb hr (fun t ht hW => ⟨⟨0, (g, h), rfl, rfl, by rw [ht]; exact hP, va_K.moved hW.alike hK, hD⟩, hS.F ht⟩) hS.2.2 d_R_wrong_6

set_option maxHeartbeats 8000000 in
set_option maxRecDepth 100000 in
theorem c_R_keep (l : Launch) (dC : Nat → ClassId) (dI : Nat → Nat → Nat) (cZ : ClassId) (y : Nat → Nat) (fa : Int32) (F : Nat → Nat → Bool) (g h : Nat → Bool) (sz : Nat) (i : Nat) (hi : i < 32) : Met l y_R_keep (.code y_R_keep b_R_keep 4 (some .boolean) :: W0) ({ frames := 0, cells := 0, slots := 0, locals := 0 } : Room) (va_Pc [.ref (y 0), .int (nI i)] (dM dC dI cZ y fa F g h sz)) (va_Qi (fun (x : Int32) (_ : Unit) => x = zb (dif (F i) g 4096)) (fun _ t => dE dC dI cZ y fa (fp F i 4096 g) g h (va_A (dW cZ y fa F g h) sz) t) (va_A (dW cZ y fa F g h) sz)) 0 0 (va_A (dW cZ y fa F g h) sz) := by
  refine Met.ofW (cc := b_R_keep) (maxL := 4) (ret := (some .boolean)) (by decide) rfl ?_
  intro p e s m args below meth c s₁ B hml hv
  obtain ⟨rfl, hsz, hP, hK, hD0⟩ := hv
  have hx := B.exec
  have hb := B.bytes
  have hr := B.returns
  have hts1 := atoms_spec (ws := .code y_R_keep b_R_keep 4 (some .boolean) :: W0) B.pre
  have hts : ∀ w ∈ W0, w.before _ s = true := fun w h => hts1 w (List.mem_cons_of_mem _ h)
  have hown : s.vm.findClass R_R = some m.cls := findClass_of_methodNamed B.named
  have hlocks := B.notSynchronized
  subst hsz
  have hD := hD0.self (sz := s.heap.size)
  generalize hAe : va_A (dW cZ y fa F g h) s.heap.size = A at hD ⊢
  have hA : ∀ q : Nat, s.heap.size ≤ q → A q := fun q h => by rw [← hAe]; exact Or.inr h
  have hS : va_S A s.heap s.heap [] := va_S.rf
  have hP : va_P (dC, dI) cls0 (dW cZ y fa F g h) s.heap := hP
  have hl := lv_entry ([.ref (y 0), .int (nI i)]) (n := 4) (Nat.le_of_ble_eq_true rfl)
  rw [lg_entry_eq]
  generalize (lg_sl ([.ref (y 0), .int (nI i)]) ++ List.replicate (4 - (lg_sl ([.ref (y 0), .int (nI i)])).length) Slot.unset).toArray = ls at hl ⊢
  have hl : lv_has ls 4 [(0, .ref (y 0)), (1, .int (nI i))] := hl
  have loop : ∀ (n j : Nat) (H : Heap) (locs : List Loc), va_P (dC, dI) cls0 (dW cZ y fa (fp F i j g) g h) H → va_D A (dW cZ y fa (fp F i j g) g h) → va_S A s.heap H locs → j + n = 4096 → ∀ (ls : Array Slot), lv_has ls 4 [(3, .int (nI j)), (2, .int (zb (dif (F i) g j))), (1, .int (nI i)), (0, .ref (y 0))] → W p l e (headSpec (.code y_R_keep b_R_keep 4 (some .boolean) :: W0) ({ frames := 0, cells := 0, slots := 0, locals := 0 } : Room)).room s m ([.ref (y 0), .int (nI i)] : List Value).toArray below meth c H locs 0 0 (MQ below (va_Qi (fun (x : Int32) (_ : Unit) => x = zb (dif (F i) g 4096)) (fun _ t => dE dC dI cZ y fa (fp F i 4096 g) g h A t) A) ([.ref (y 0), .int (nI i)] : List Value).toArray s 0 0 A) (F0 m 4 ls []) := by
    intro n
    induction n with
    | zero =>
      intro j H locs hP hD hS hj ls hl
      have hj2 : j = 4096 := by omega
      subst hj2
      refine lv_iload_n hx hb d_R_keep_4 rfl (lv_at hl 0 rfl) ?_
      refine lv_sipush (v := 4096) hx hb d_R_keep_5 (by decide) ?_
      refine lv_icmp_ge (tgt := 58) hx hb d_R_keep_8 (by decide) (fun c8 => ?_) (fun c8 => ?_)
      · refine lv_iload_n hx hb d_R_keep_58 rfl (lv_at hl 1 rfl) ?_
        exact W.zret (ty := .boolean) (v := (zb (dif (F i) g 4096))) hx hb hr (zb_nw _) (fun t ht hW => ⟨⟨zb (dif (F i) g 4096), (), rfl, rfl, by rw [ht]; exact hP, va_K.moved hW.alike hK, hD⟩, hS.F ht⟩) hS.2.2 d_R_keep_59
      · exact absurd (Int32.le_refl _) c8
    | succ n ihloop =>
      intro j H locs hP hD hS hj ls hl
      refine lv_iload_n hx hb d_R_keep_4 rfl (lv_at hl 0 rfl) ?_
      refine lv_sipush (v := 4096) hx hb d_R_keep_5 (by decide) ?_
      refine lv_icmp_ge (tgt := 58) hx hb d_R_keep_8 (by decide) (fun c8 => ?_) (fun c8 => ?_)
      · exact absurd c8 (nI_ge (b := 4096) (by omega) (by omega))
      · refine lv_aload_n hx hb d_R_keep_11 rfl (lv_at hl 3 rfl) ?_
        refine va_get (D := (dC, dI)) (ci := 5) (v := .ref (y 1)) (C := R_R) (T := T_R) (N := 4) hx hb hts in_R hown hK hP 0 rfl rfl 1 (by decide) (hts _ kfl_R_8) (fun _ h9 => h9) rfl d_R_keep_12 ?_
        refine lv_sipush (v := 4096) hx hb d_R_keep_15 (by decide) ?_
        refine lv_iload_n hx hb d_R_keep_18 rfl (lv_at hl 2 rfl) ?_
        refine lv_imul hx hb d_R_keep_19 ?_
        refine lv_iload_n hx hb d_R_keep_20 rfl (lv_at hl 0 rfl) ?_
        refine lv_iadd hx hb d_R_keep_21 ?_
        rw [ix_e]
        refine va_zald hx hb hK hP 1 0 rfl rfl (vp_in_nI (by omega) (by decide)) d_R_keep_22 ?_
        rw [rI_at _ (i := i) (w := j) (by omega) (by omega)]
        rw [fp_at]
        refine lv_aload_n hx hb d_R_keep_23 rfl (lv_at hl 3 rfl) ?_
        refine va_get (D := (dC, dI)) (ci := 5) (v := .ref (y 2)) (C := R_R) (T := T_R) (N := 4) hx hb hts in_R hown hK hP 0 rfl rfl 2 (by decide) (hts _ kfl_R_14) (fun _ h9 => h9) rfl d_R_keep_24 ?_
        refine lv_iload_n hx hb d_R_keep_27 rfl (lv_at hl 0 rfl) ?_
        refine va_zald hx hb hK hP 2 0 rfl rfl (vp_in_nI (by omega) (by decide)) d_R_keep_28 ?_
        rw [mI_at _ (w := j) (by omega)]
        refine lv_icmp_eq (tgt := 34) hx hb d_R_keep_29 (by decide) (fun c29 => ?_) (fun c29 => ?_)
        · refine lv_aload_n hx hb d_R_keep_34 rfl (lv_at hl 3 rfl) ?_
          refine va_get (D := (dC, dI)) (ci := 5) (v := .ref (y 1)) (C := R_R) (T := T_R) (N := 4) hx hb hts in_R hown hK hP 0 rfl rfl 1 (by decide) (hts _ kfl_R_8) (fun _ h9 => h9) rfl d_R_keep_35 ?_
          refine lv_sipush (v := 4096) hx hb d_R_keep_38 (by decide) ?_
          refine lv_iload_n hx hb d_R_keep_41 rfl (lv_at hl 2 rfl) ?_
          refine lv_imul hx hb d_R_keep_42 ?_
          refine lv_iload_n hx hb d_R_keep_43 rfl (lv_at hl 0 rfl) ?_
          refine lv_iadd hx hb d_R_keep_44 ?_
          refine lv_aload_n hx hb d_R_keep_45 rfl (lv_at hl 3 rfl) ?_
          refine va_get (D := (dC, dI)) (ci := 5) (v := .ref (y 2)) (C := R_R) (T := T_R) (N := 4) hx hb hts in_R hown hK hP 0 rfl rfl 2 (by decide) (hts _ kfl_R_14) (fun _ h9 => h9) rfl d_R_keep_46 ?_
          refine lv_iload_n hx hb d_R_keep_49 rfl (lv_at hl 0 rfl) ?_
          refine va_zald hx hb hK hP 2 0 rfl rfl (vp_in_nI (by omega) (by decide)) d_R_keep_50 ?_
          rw [mI_at _ (w := j) (by omega)]
          rw [ix_e]
          refine va_zast hx hb hK hP hD hS 1 0 rfl rfl (vp_in_nI (by omega) (by decide)) d_R_keep_51 (fun H locs hP hD hS => ?_)
          rw [rI_up _ _ (i := i) (n := j) (by omega) (by omega)] at hP hD
          refine lv_iinc (v := ((nI j) + 1)) (lv' := [(3, .int ((nI j) + 1)), (2, .int (zb (dif (F i) g j))), (1, .int (nI i)), (0, .ref (y 0))]) hx hb d_R_keep_52 hl (k := 0) rfl rfl (by decide) rfl (fun ls hl => ?_)
          refine lv_goto (tgt := 4) hx hb d_R_keep_55 (by decide) ?_
          rw [nI_1] at hl
          rw [show (zb (dif (F i) g j) : Int32) = zb (dif (F i) g (j + 1)) from Eq.symm (by show zb (dif (F i) g j || (F i j != g j)) = zb (dif (F i) g j); rw [zb_q.mp c29]; cases dif (F i) g j <;> cases g j <;> rfl)] at hl
          exact ihloop (j + 1) H locs hP hD hS (by omega) ls (lv_sub hl [0, 1, 2, 3] rfl)
        · refine lv_iconst (v := 1) hx hb d_R_keep_32 (by decide) ?_
          refine lv_istore_n (lv' := [(2, .int 1), (3, .int (nI j)), (1, .int (nI i)), (0, .ref (y 0))]) hx hb d_R_keep_33 rfl hl (by decide) rfl (fun ls hl => ?_)
          refine lv_aload_n hx hb d_R_keep_34 rfl (lv_at hl 3 rfl) ?_
          refine va_get (D := (dC, dI)) (ci := 5) (v := .ref (y 1)) (C := R_R) (T := T_R) (N := 4) hx hb hts in_R hown hK hP 0 rfl rfl 1 (by decide) (hts _ kfl_R_8) (fun _ h9 => h9) rfl d_R_keep_35 ?_
          refine lv_sipush (v := 4096) hx hb d_R_keep_38 (by decide) ?_
          refine lv_iload_n hx hb d_R_keep_41 rfl (lv_at hl 2 rfl) ?_
          refine lv_imul hx hb d_R_keep_42 ?_
          refine lv_iload_n hx hb d_R_keep_43 rfl (lv_at hl 1 rfl) ?_
          refine lv_iadd hx hb d_R_keep_44 ?_
          refine lv_aload_n hx hb d_R_keep_45 rfl (lv_at hl 3 rfl) ?_
          refine va_get (D := (dC, dI)) (ci := 5) (v := .ref (y 2)) (C := R_R) (T := T_R) (N := 4) hx hb hts in_R hown hK hP 0 rfl rfl 2 (by decide) (hts _ kfl_R_14) (fun _ h9 => h9) rfl d_R_keep_46 ?_
          refine lv_iload_n hx hb d_R_keep_49 rfl (lv_at hl 1 rfl) ?_
          refine va_zald hx hb hK hP 2 0 rfl rfl (vp_in_nI (by omega) (by decide)) d_R_keep_50 ?_
          rw [mI_at _ (w := j) (by omega)]
          rw [ix_e]
          refine va_zast hx hb hK hP hD hS 1 0 rfl rfl (vp_in_nI (by omega) (by decide)) d_R_keep_51 (fun H locs hP hD hS => ?_)
          rw [rI_up _ _ (i := i) (n := j) (by omega) (by omega)] at hP hD
          refine lv_iinc (v := ((nI j) + 1)) (lv' := [(3, .int ((nI j) + 1)), (2, .int 1), (1, .int (nI i)), (0, .ref (y 0))]) hx hb d_R_keep_52 hl (k := 1) rfl rfl (by decide) rfl (fun ls hl => ?_)
          refine lv_goto (tgt := 4) hx hb d_R_keep_55 (by decide) ?_
          rw [nI_1] at hl
          rw [show (1 : Int32) = zb (dif (F i) g (j + 1)) from Eq.symm (by show zb (dif (F i) g j || (F i j != g j)) = 1; have c := c29; rw [zb_q] at c; revert c; generalize F i j = b0; generalize g j = b1; generalize dif (F i) g j = b2; revert b0 b1 b2; decide)] at hl
          exact ihloop (j + 1) H locs hP hD hS (by omega) ls (lv_sub hl [0, 1, 2, 3] rfl)
  refine lv_iconst (v := 0) hx hb d_R_keep_0 (by decide) ?_
  refine lv_istore_n (lv' := [(2, .int 0), (0, .ref (y 0)), (1, .int (nI i))]) hx hb d_R_keep_1 rfl hl (by decide) rfl (fun ls hl => ?_)
  refine lv_iconst (v := 0) hx hb d_R_keep_2 (by decide) ?_
  refine lv_istore_n (lv' := [(3, .int 0), (2, .int 0), (0, .ref (y 0)), (1, .int (nI i))]) hx hb d_R_keep_3 rfl hl (by decide) rfl (fun ls hl => ?_)
  rw [← fp_0 F i g] at hP hD
  exact loop 4096 0 _ _ hP hD hS rfl ls (lv_sub hl [0, 1, 3, 2] rfl)

theorem okb_n {i n : Nat} (h : i < n) (hn : n < 2 ^ 31) : okb (nI i) (nI n) := ⟨nI_pos (by omega), nI_lt h hn⟩
theorem bit1 {w v : Nat} (hw : w < 2 ^ 31) (hv : v < 32) : (nI w >>> (nI v &&& 31)) &&& 1 = 1 ↔ w.testBit v = true := by
  have h := bitI hw hv
  have h2 : ∃ k : Nat, k < 2 ^ 1 ∧ (nI w >>> (nI v &&& 31)) &&& 1 = nI k := pk_andE _ 1 rfl
  obtain ⟨k, hk, e⟩ := h2
  rw [e] at h ⊢
  rcases (show k = 0 ∨ k = 1 by omega) with rfl | rfl
  · have := h.mp (by decide)
    rw [this]
    constructor
    · intro q; exact absurd q (by decide)
    · intro q; cases q
  · constructor
    · intro _
      rcases hb : w.testBit v with _ | _
      · exact absurd (h.mpr hb) (by decide)
      · rfl
    · intro _; decide

set_option maxHeartbeats 8000000 in
set_option maxRecDepth 100000 in
theorem c_R_constant (l : Launch) (dC : Nat → ClassId) (dI : Nat → Nat → Nat) (cZ : ClassId) (y : Nat → Nat) (fa : Int32) (F : Nat → Nat → Bool) (g h : Nat → Bool) (sz : Nat) (i : Nat) (b : Bool) (hi : i < 32) : Met l y_R_constant (.code y_R_constant b_R_constant 4 none :: W0) ({ frames := 1, cells := 0, slots := 0, locals := 40 } : Room) (va_Pc [.ref (y 0), .int (nI i), .int (zb b)] (dM dC dI cZ y fa F g h sz)) (va_Qv (fun _ : (Nat → Bool) × (Nat → Bool) => True) (fun u t => dE dC dI cZ y 0 (fp F i 4096 (fun _ => b)) u.1 u.2 (va_A (dW cZ y fa F g h) sz) t) (va_A (dW cZ y fa F g h) sz)) 0 0 (va_A (dW cZ y fa F g h) sz) := by
  refine Met.ofW (cc := b_R_constant) (maxL := 4) (ret := none) (by decide) rfl ?_
  intro p e s m args below meth c s₁ B hml hv
  obtain ⟨rfl, hsz, hP, hK, hD0⟩ := hv
  have hx := B.exec
  have hb := B.bytes
  have hr := B.returns
  have hts1 := atoms_spec (ws := .code y_R_constant b_R_constant 4 none :: W0) B.pre
  have hts : ∀ w ∈ W0, w.before _ s = true := fun w h => hts1 w (List.mem_cons_of_mem _ h)
  have hown : s.vm.findClass R_R = some m.cls := findClass_of_methodNamed B.named
  have hlocks := B.notSynchronized
  subst hsz
  have hD := hD0.self (sz := s.heap.size)
  generalize hAe : va_A (dW cZ y fa F g h) s.heap.size = A at hD ⊢
  have hA : ∀ q : Nat, s.heap.size ≤ q → A q := fun q h => by rw [← hAe]; exact Or.inr h
  have hS : va_S A s.heap s.heap [] := va_S.rf
  have hP : va_P (dC, dI) cls0 (dW cZ y fa F g h) s.heap := hP
  have hl := lv_entry ([.ref (y 0), .int (nI i), .int (zb b)]) (n := 4) (Nat.le_of_ble_eq_true rfl)
  rw [lg_entry_eq]
  generalize (lg_sl ([.ref (y 0), .int (nI i), .int (zb b)]) ++ List.replicate (4 - (lg_sl ([.ref (y 0), .int (nI i), .int (zb b)])).length) Slot.unset).toArray = ls at hl ⊢
  have hl : lv_has ls 4 [(0, .ref (y 0)), (1, .int (nI i)), (2, .int (zb b))] := hl
  have loop : ∀ (n j : Nat) (H : Heap) (locs : List Loc), va_P (dC, dI) cls0 (dW cZ y 0 (fp F i j (fun _ => b)) g h) H → va_D A (dW cZ y 0 (fp F i j (fun _ => b)) g h) → va_S A s.heap H locs → j + n = 4096 → ∀ (ls : Array Slot), lv_has ls 4 [(3, .int (nI j)), (1, .int (nI i)), (2, .int (zb b)), (0, .ref (y 0))] → W p l e (headSpec (.code y_R_constant b_R_constant 4 none :: W0) ({ frames := 1, cells := 0, slots := 0, locals := 40 } : Room)).room s m ([.ref (y 0), .int (nI i), .int (zb b)] : List Value).toArray below meth c H locs 0 0 (MQ below (va_Qv (fun _ : (Nat → Bool) × (Nat → Bool) => True) (fun u t => dE dC dI cZ y 0 (fp F i 4096 (fun _ => b)) u.1 u.2 A t) A) ([.ref (y 0), .int (nI i), .int (zb b)] : List Value).toArray s 0 0 A) (F0 m 25 ls []) := by
    intro n
    induction n with
    | zero =>
      intro j H locs hP hD hS hj ls hl
      have hj2 : j = 4096 := by omega
      subst hj2
      refine lv_iload_n hx hb d_R_constant_25 rfl (lv_at hl 0 rfl) ?_
      refine lv_sipush (v := 4096) hx hb d_R_constant_26 (by decide) ?_
      refine lv_icmp_ge (tgt := 51) hx hb d_R_constant_29 (by decide) (fun c29 => ?_) (fun c29 => ?_)
      · exact W.vret hx hb hr (fun t ht hW => ⟨⟨(g, h), rfl, trivial, by rw [ht]; exact hP, va_K.moved hW.alike hK, hD⟩, hS.F ht⟩) hS.2.2 d_R_constant_51
      · exact absurd (Int32.le_refl _) c29
    | succ n ihloop =>
      intro j H locs hP hD hS hj ls hl
      refine lv_iload_n hx hb d_R_constant_25 rfl (lv_at hl 0 rfl) ?_
      refine lv_sipush (v := 4096) hx hb d_R_constant_26 (by decide) ?_
      refine lv_icmp_ge (tgt := 51) hx hb d_R_constant_29 (by decide) (fun c29 => ?_) (fun c29 => ?_)
      · exact absurd c29 (nI_ge (b := 4096) (by omega) (by omega))
      · refine lv_aload_n hx hb d_R_constant_32 rfl (lv_at hl 3 rfl) ?_
        refine va_get (D := (dC, dI)) (ci := 5) (v := .ref (y 1)) (C := R_R) (T := T_R) (N := 4) hx hb hts in_R hown hK hP 0 rfl rfl 1 (by decide) (hts _ kfl_R_8) (fun _ h9 => h9) rfl d_R_constant_33 ?_
        refine lv_sipush (v := 4096) hx hb d_R_constant_36 (by decide) ?_
        refine lv_iload_n hx hb d_R_constant_39 rfl (lv_at hl 1 rfl) ?_
        refine lv_imul hx hb d_R_constant_40 ?_
        refine lv_iload_n hx hb d_R_constant_41 rfl (lv_at hl 0 rfl) ?_
        refine lv_iadd hx hb d_R_constant_42 ?_
        refine lv_iload_n hx hb d_R_constant_43 rfl (lv_at hl 2 rfl) ?_
        refine lv_topi (fun xv exv => ?_)
        rw [show xv = zb ((fun _ => b) j) from exv.trans (show (zb b : Int32) = _ from rfl)]
        rw [ix_e]
        refine va_zast hx hb hK hP hD hS 1 0 rfl rfl (vp_in_nI (by omega) (by decide)) d_R_constant_44 (fun H locs hP hD hS => ?_)
        rw [rI_up _ (fun _ => b) (i := i) (n := j) (by omega) (by omega)] at hP hD
        refine lv_iinc (v := ((nI j) + 1)) (lv' := [(3, .int ((nI j) + 1)), (1, .int (nI i)), (2, .int (zb b)), (0, .ref (y 0))]) hx hb d_R_constant_45 hl (k := 0) rfl rfl (by decide) rfl (fun ls hl => ?_)
        refine lv_goto (tgt := 25) hx hb d_R_constant_48 (by decide) ?_
        rw [nI_1] at hl
        exact ihloop (j + 1) H locs hP hD hS (by omega) ls (lv_sub hl [0, 1, 2, 3] rfl)
  refine lv_aload_n hx hb d_R_constant_0 rfl (lv_at hl 0 rfl) ?_
  refine lv_iconst (v := 0) hx hb d_R_constant_1 (by decide) ?_
  refine dPut hx hb hts hown hK hP hD hS d_R_constant_2 (fun H locs hP hD hS => ?_)
  refine lv_aload_n hx hb d_R_constant_5 rfl (lv_at hl 0 rfl) ?_
  refine lv_iload_n hx hb d_R_constant_6 rfl (lv_at hl 1 rfl) ?_
  refine lv_bipush (v := 32) hx hb d_R_constant_7 (by decide) ?_
  refine dRR (As := [.int (nI i), .int 32]) (rest := []) ⟨hx, hb, hml, hown, hts⟩ (c_R_out0 l dC dI cZ y 0 F g h (nI i) 32 (okb_n (n := 32) hi (by decide))) (cwV 2 hts (gV kml_R_24 kim_R_out ksl_R_out kin_R kcd_R_out) rfl rfl rfl (by decide +kernel) ⟨by show 0 + 1 ≤ 1; omega, by show 8 + (3 + 11) + 0 ≤ 40; omega⟩) hP hK rfl hl.1 rfl (Nat.le_of_ble_eq_true rfl) d_R_constant_9 ⟨Nat.zero_le _, Nat.zero_le _⟩ ?_
  refine lv_if_eq (tgt := 23) hx hb d_R_constant_12 (by decide) (fun c12 => ?_) (fun c12 => ?_)
  · refine lv_iconst (v := 0) hx hb d_R_constant_23 (by decide) ?_
    refine lv_istore_n (lv' := [(3, .int 0), (0, .ref (y 0)), (1, .int (nI i)), (2, .int (zb b))]) hx hb d_R_constant_24 rfl hl (by decide) rfl (fun ls hl => ?_)
    rw [← fp_0 F i (fun _ => b)] at hP hD
    exact loop 4096 0 _ _ hP hD hS rfl ls (lv_sub hl [0, 2, 3, 1] rfl)
  · exact absurd (by decide) c12

set_option maxHeartbeats 8000000 in
set_option maxRecDepth 100000 in
theorem c_R_variable (l : Launch) (dC : Nat → ClassId) (dI : Nat → Nat → Nat) (cZ : ClassId) (y : Nat → Nat) (fa : Int32) (F : Nat → Nat → Bool) (g h : Nat → Bool) (sz : Nat) (i v : Nat) (hi : i < 32) (hv : v < 12) : Met l y_R_variable (.code y_R_variable b_R_variable 4 none :: W0) ({ frames := 1, cells := 0, slots := 0, locals := 40 } : Room) (va_Pc [.ref (y 0), .int (nI i), .int (nI v)] (dM dC dI cZ y fa F g h sz)) (va_Qv (fun _ : (Nat → Bool) × (Nat → Bool) => True) (fun u t => dE dC dI cZ y 0 (fp F i 4096 (fun w => w.testBit v)) u.1 u.2 (va_A (dW cZ y fa F g h) sz) t) (va_A (dW cZ y fa F g h) sz)) 0 0 (va_A (dW cZ y fa F g h) sz) := by
  refine Met.ofW (cc := b_R_variable) (maxL := 4) (ret := none) (by decide) rfl ?_
  intro p e s m args below meth c s₁ B hml hv
  obtain ⟨rfl, hsz, hP, hK, hD0⟩ := hv
  have hx := B.exec
  have hb := B.bytes
  have hr := B.returns
  have hts1 := atoms_spec (ws := .code y_R_variable b_R_variable 4 none :: W0) B.pre
  have hts : ∀ w ∈ W0, w.before _ s = true := fun w h => hts1 w (List.mem_cons_of_mem _ h)
  have hown : s.vm.findClass R_R = some m.cls := findClass_of_methodNamed B.named
  have hlocks := B.notSynchronized
  subst hsz
  have hD := hD0.self (sz := s.heap.size)
  generalize hAe : va_A (dW cZ y fa F g h) s.heap.size = A at hD ⊢
  have hA : ∀ q : Nat, s.heap.size ≤ q → A q := fun q h => by rw [← hAe]; exact Or.inr h
  have hS : va_S A s.heap s.heap [] := va_S.rf
  have hP : va_P (dC, dI) cls0 (dW cZ y fa F g h) s.heap := hP
  have hl := lv_entry ([.ref (y 0), .int (nI i), .int (nI v)]) (n := 4) (Nat.le_of_ble_eq_true rfl)
  rw [lg_entry_eq]
  generalize (lg_sl ([.ref (y 0), .int (nI i), .int (nI v)]) ++ List.replicate (4 - (lg_sl ([.ref (y 0), .int (nI i), .int (nI v)])).length) Slot.unset).toArray = ls at hl ⊢
  have hl : lv_has ls 4 [(0, .ref (y 0)), (1, .int (nI i)), (2, .int (nI v))] := hl
  have loop : ∀ (n j : Nat) (H : Heap) (locs : List Loc), va_P (dC, dI) cls0 (dW cZ y 0 (fp F i j (fun w => w.testBit v)) g h) H → va_D A (dW cZ y 0 (fp F i j (fun w => w.testBit v)) g h) → va_S A s.heap H locs → j + n = 4096 → ∀ (ls : Array Slot), lv_has ls 4 [(3, .int (nI j)), (1, .int (nI i)), (2, .int (nI v)), (0, .ref (y 0))] → W p l e (headSpec (.code y_R_variable b_R_variable 4 none :: W0) ({ frames := 1, cells := 0, slots := 0, locals := 40 } : Room)).room s m ([.ref (y 0), .int (nI i), .int (nI v)] : List Value).toArray below meth c H locs 0 0 (MQ below (va_Qv (fun _ : (Nat → Bool) × (Nat → Bool) => True) (fun u t => dE dC dI cZ y 0 (fp F i 4096 (fun w => w.testBit v)) u.1 u.2 A t) A) ([.ref (y 0), .int (nI i), .int (nI v)] : List Value).toArray s 0 0 A) (F0 m 35 ls []) := by
    intro n
    induction n with
    | zero =>
      intro j H locs hP hD hS hj ls hl
      have hj2 : j = 4096 := by omega
      subst hj2
      refine lv_iload_n hx hb d_R_variable_35 rfl (lv_at hl 0 rfl) ?_
      refine lv_sipush (v := 4096) hx hb d_R_variable_36 (by decide) ?_
      refine lv_icmp_ge (tgt := 74) hx hb d_R_variable_39 (by decide) (fun c39 => ?_) (fun c39 => ?_)
      · exact W.vret hx hb hr (fun t ht hW => ⟨⟨(g, h), rfl, trivial, by rw [ht]; exact hP, va_K.moved hW.alike hK, hD⟩, hS.F ht⟩) hS.2.2 d_R_variable_74
      · exact absurd (Int32.le_refl _) c39
    | succ n ihloop =>
      intro j H locs hP hD hS hj ls hl
      refine lv_iload_n hx hb d_R_variable_35 rfl (lv_at hl 0 rfl) ?_
      refine lv_sipush (v := 4096) hx hb d_R_variable_36 (by decide) ?_
      refine lv_icmp_ge (tgt := 74) hx hb d_R_variable_39 (by decide) (fun c39 => ?_) (fun c39 => ?_)
      · exact absurd c39 (nI_ge (b := 4096) (by omega) (by omega))
      · refine lv_aload_n hx hb d_R_variable_42 rfl (lv_at hl 3 rfl) ?_
        refine va_get (D := (dC, dI)) (ci := 5) (v := .ref (y 1)) (C := R_R) (T := T_R) (N := 4) hx hb hts in_R hown hK hP 0 rfl rfl 1 (by decide) (hts _ kfl_R_8) (fun _ h9 => h9) rfl d_R_variable_43 ?_
        refine lv_sipush (v := 4096) hx hb d_R_variable_46 (by decide) ?_
        refine lv_iload_n hx hb d_R_variable_49 rfl (lv_at hl 1 rfl) ?_
        refine lv_imul hx hb d_R_variable_50 ?_
        refine lv_iload_n hx hb d_R_variable_51 rfl (lv_at hl 0 rfl) ?_
        refine lv_iadd hx hb d_R_variable_52 ?_
        refine lv_iload_n hx hb d_R_variable_53 rfl (lv_at hl 0 rfl) ?_
        refine lv_iload_n hx hb d_R_variable_54 rfl (lv_at hl 2 rfl) ?_
        refine lv_ishr hx hb d_R_variable_55 ?_
        refine lv_iconst (v := 1) hx hb d_R_variable_56 (by decide) ?_
        refine lv_iand hx hb d_R_variable_57 ?_
        refine lv_iconst (v := 1) hx hb d_R_variable_58 (by decide) ?_
        refine lv_icmp_ne (tgt := 66) hx hb d_R_variable_59 (by decide) (fun c59 => ?_) (fun c59 => ?_)
        · refine lv_iconst (v := 0) hx hb d_R_variable_66 (by decide) ?_
          refine lv_topi (fun xv exv => ?_)
          rw [show xv = zb ((fun w => w.testBit v) j) from exv.trans (show (0 : Int32) = _ from (by show _ = zb (j.testBit v); have c := c59; rw [bit1 (by omega) (by omega)] at c; rw [Bool.not_eq_true] at c; rw [c]; rfl))]
          rw [ix_e]
          refine va_zast hx hb hK hP hD hS 1 0 rfl rfl (vp_in_nI (by omega) (by decide)) d_R_variable_67 (fun H locs hP hD hS => ?_)
          rw [rI_up _ (fun w => w.testBit v) (i := i) (n := j) (by omega) (by omega)] at hP hD
          refine lv_iinc (v := ((nI j) + 1)) (lv' := [(3, .int ((nI j) + 1)), (1, .int (nI i)), (2, .int (nI v)), (0, .ref (y 0))]) hx hb d_R_variable_68 hl (k := 0) rfl rfl (by decide) rfl (fun ls hl => ?_)
          refine lv_goto (tgt := 35) hx hb d_R_variable_71 (by decide) ?_
          rw [nI_1] at hl
          exact ihloop (j + 1) H locs hP hD hS (by omega) ls (lv_sub hl [0, 1, 2, 3] rfl)
        · refine lv_iconst (v := 1) hx hb d_R_variable_62 (by decide) ?_
          refine lv_goto (tgt := 67) hx hb d_R_variable_63 (by decide) ?_
          refine lv_topi (fun xv exv => ?_)
          rw [show xv = zb ((fun w => w.testBit v) j) from exv.trans (show (1 : Int32) = _ from (by show _ = zb (j.testBit v); have c := c59; rw [bit1 (by omega) (by omega)] at c; rw [c]; rfl))]
          rw [ix_e]
          refine va_zast hx hb hK hP hD hS 1 0 rfl rfl (vp_in_nI (by omega) (by decide)) d_R_variable_67 (fun H locs hP hD hS => ?_)
          rw [rI_up _ (fun w => w.testBit v) (i := i) (n := j) (by omega) (by omega)] at hP hD
          refine lv_iinc (v := ((nI j) + 1)) (lv' := [(3, .int ((nI j) + 1)), (1, .int (nI i)), (2, .int (nI v)), (0, .ref (y 0))]) hx hb d_R_variable_68 hl (k := 0) rfl rfl (by decide) rfl (fun ls hl => ?_)
          refine lv_goto (tgt := 35) hx hb d_R_variable_71 (by decide) ?_
          rw [nI_1] at hl
          exact ihloop (j + 1) H locs hP hD hS (by omega) ls (lv_sub hl [0, 1, 2, 3] rfl)
  refine lv_aload_n hx hb d_R_variable_0 rfl (lv_at hl 0 rfl) ?_
  refine lv_iconst (v := 0) hx hb d_R_variable_1 (by decide) ?_
  refine dPut hx hb hts hown hK hP hD hS d_R_variable_2 (fun H locs hP hD hS => ?_)
  refine lv_aload_n hx hb d_R_variable_5 rfl (lv_at hl 0 rfl) ?_
  refine lv_iload_n hx hb d_R_variable_6 rfl (lv_at hl 1 rfl) ?_
  refine lv_bipush (v := 32) hx hb d_R_variable_7 (by decide) ?_
  refine dRR (As := [.int (nI i), .int 32]) (rest := []) ⟨hx, hb, hml, hown, hts⟩ (c_R_out0 l dC dI cZ y 0 F g h (nI i) 32 (okb_n (n := 32) hi (by decide))) (cwV 2 hts (gV kml_R_24 kim_R_out ksl_R_out kin_R kcd_R_out) rfl rfl rfl (by decide +kernel) ⟨by show 0 + 1 ≤ 1; omega, by show 8 + (3 + 11) + 0 ≤ 40; omega⟩) hP hK rfl hl.1 rfl (Nat.le_of_ble_eq_true rfl) d_R_variable_9 ⟨Nat.zero_le _, Nat.zero_le _⟩ ?_
  refine lv_if_ne (tgt := 25) hx hb d_R_variable_12 (by decide) (fun c12 => ?_) (fun c12 => ?_)
  · exact absurd (by decide) c12
  · refine lv_aload_n hx hb d_R_variable_15 rfl (lv_at hl 0 rfl) ?_
    refine lv_iload_n hx hb d_R_variable_16 rfl (lv_at hl 2 rfl) ?_
    refine lv_bipush (v := 12) hx hb d_R_variable_17 (by decide) ?_
    refine dRR (As := [.int (nI v), .int 12]) (rest := []) ⟨hx, hb, hml, hown, hts⟩ (c_R_out0 l dC dI cZ y 0 F g h (nI v) 12 (okb_n (n := 12) hv (by decide))) (cwV 2 hts (gV kml_R_24 kim_R_out ksl_R_out kin_R kcd_R_out) rfl rfl rfl (by decide +kernel) ⟨by show 0 + 1 ≤ 1; omega, by show 8 + (3 + 11) + 0 ≤ 40; omega⟩) hP hK rfl hl.1 rfl (Nat.le_of_ble_eq_true rfl) d_R_variable_19 ⟨Nat.zero_le _, Nat.zero_le _⟩ ?_
    refine lv_if_eq (tgt := 33) hx hb d_R_variable_22 (by decide) (fun c22 => ?_) (fun c22 => ?_)
    · refine lv_iconst (v := 0) hx hb d_R_variable_33 (by decide) ?_
      refine lv_istore_n (lv' := [(3, .int 0), (0, .ref (y 0)), (1, .int (nI i)), (2, .int (nI v))]) hx hb d_R_variable_34 rfl hl (by decide) rfl (fun ls hl => ?_)
      rw [← fp_0 F i (fun w => w.testBit v)] at hP hD
      exact loop 4096 0 _ _ hP hD hS rfl ls (lv_sub hl [0, 2, 3, 1] rfl)
    · exact absurd (by decide) c22
