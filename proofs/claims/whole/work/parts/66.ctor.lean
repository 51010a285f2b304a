/-! CONSTRUCTORS -/
def E0 : Mm := fun k _ => match k with
  | 0 => 0
  | _ => 1
def lv0 (n j : Nat) : Int32 := if j < n then nI j else 0
def N0 : Mm := fun k j => match k with
  | 0 => (match j with
    | 0 => 1024
    | 1 => 2
    | 4 => 1024
    | _ => 0)
  | 1 => upd (upd (fun _ => 0) (0 : Int32).toNatClampNeg 12) (5 : Int32).toNatClampNeg 12 j
  | 4 => lv0 13 j
  | 5 => lv0 13 j
  | _ => 0
theorem lv0_0 : lv0 0 = fun _ => 0 := funext fun j => if_neg (Nat.not_lt_zero j)
theorem lv0_s (n : Nat) : upd (lv0 n) n (nI n) = lv0 (n + 1) := by
  funext j
  unfold upd lv0
  by_cases h : j = n
  · rw [if_pos h, if_pos (by omega), h]
  · rw [if_neg h]
    by_cases g : j < n
    · rw [if_pos g, if_pos (by omega)]
    · rw [if_neg g, if_neg (by omega)]
theorem upd_id {f : Nat → Int32} {k : Nat} {x : Int32} (h : f k = x) : upd f k x = f := by
  funext j
  unfold upd
  by_cases g : j = k
  · rw [if_pos g, ← h, g]
  · rw [if_neg g]

set_option maxHeartbeats 8000000 in
set_option maxRecDepth 100000 in
theorem c_JA_fill (l : Launch) (dC : Nat → ClassId) (dI : Nat → Nat → Nat) (cI : ClassId) (r : Nat) (sz : Nat) : Met l y_JA_fill (.code y_JA_fill b_JA_fill 4 none :: W0) ({ frames := 1, cells := 0, slots := 0, locals := 30 } : Room) (va_Pc [.ref r, .int 0] (fun U => U.heap.size = sz ∧ va_P (dC, dI) cls0 [(r, .inl (cI, 32, .inl (fun _ => 0)))] U.heap ∧ va_K (dC, dI) cls0 [(cI, .int)] U ∧ va_D (fun _ => True) [(r, .inl (cI, 32, .inl (fun _ => 0)))])) (va_Qv (fun _ : Unit => True) (fun _ t => va_P (dC, dI) cls0 [(r, .inl (cI, 32, .inl (fun _ => 0)))] t.heap ∧ va_K (dC, dI) cls0 [(cI, .int)] t ∧ va_D (va_A [(r, .inl (cI, 32, .inl (fun _ => 0)))] sz) [(r, .inl (cI, 32, .inl (fun _ => 0)))]) (va_A [(r, .inl (cI, 32, .inl (fun _ => 0)))] sz)) 0 0 (va_A [(r, .inl (cI, 32, .inl (fun _ => 0)))] sz) := by
  refine Met.ofW (cc := b_JA_fill) (maxL := 4) (ret := none) (by decide) rfl ?_
  intro p e s m args below meth c s₁ B hml hv
  obtain ⟨rfl, hsz, hP, hK, hD0⟩ := hv
  have hx := B.exec
  have hb := B.bytes
  have hr := B.returns
  have hts1 := atoms_spec (ws := .code y_JA_fill b_JA_fill 4 none :: W0) B.pre
  have hts : ∀ w ∈ W0, w.before _ s = true := fun w h => hts1 w (List.mem_cons_of_mem _ h)
  have hown : s.vm.findClass R_JA = some m.cls := findClass_of_methodNamed B.named
  have hlocks := B.notSynchronized
  have hin : meth.name = "fill" := (name_of_methodNamed B.named B.method).1
  subst hsz
  have hD := hD0.self (sz := s.heap.size)
  generalize hAe : va_A [(r, Sum.inl (cI, 32, Sum.inl (fun _ => 0)))] s.heap.size = A at hD ⊢
  have hA : ∀ q : Nat, s.heap.size ≤ q → A q := fun q h => by rw [← hAe]; exact Or.inr h
  have hS : va_S A s.heap s.heap [] := va_S.rf
  have hP : va_P (dC, dI) cls0 [(r, .inl (cI, 32, .inl (fun _ => 0)))] s.heap := hP
  have hl := lv_entry ([.ref r, .int 0]) (n := 4) (Nat.le_of_ble_eq_true rfl)
  rw [lg_entry_eq]
  generalize (lg_sl ([.ref r, .int 0]) ++ List.replicate (4 - (lg_sl ([.ref r, .int 0])).length) Slot.unset).toArray = ls at hl ⊢
  have hl : lv_has ls 4 [(0, .ref r), (1, .int 0)] := hl
  have loop : ∀ (n j : Nat) (H : Heap) (locs : List Loc), va_P (dC, dI) cls0 [(r, .inl (cI, 32, .inl (fun _ => 0)))] H → va_D A [(r, .inl (cI, 32, .inl (fun _ => 0)))] → va_S A s.heap H locs → j + n = 32 → ∀ (ls : Array Slot), lv_has ls 4 [(2, .int (nI j)), (3, .int (nI 32)), (0, .ref r), (1, .int 0)] → W p l e (headSpec (.code y_JA_fill b_JA_fill 4 none :: W0) ({ frames := 1, cells := 0, slots := 0, locals := 30 } : Room)).room s m ([.ref r, .int 0] : List Value).toArray below meth c H locs 0 0 (MQ below (va_Qv (fun _ : Unit => True) (fun _ t => va_P (dC, dI) cls0 [(r, .inl (cI, 32, .inl (fun _ => 0)))] t.heap ∧ va_K (dC, dI) cls0 [(cI, .int)] t ∧ va_D A [(r, .inl (cI, 32, .inl (fun _ => 0)))]) A) ([.ref r, .int 0] : List Value).toArray s 0 0 A) (F0 m 5 ls []) := by
    intro n
    induction n with
    | zero =>
      intro j H locs hP hD hS hj ls hl
      refine lv_iload_n hx hb d_JA_fill_5 rfl (lv_at hl 0 rfl) ?_
      refine lv_iload_n hx hb d_JA_fill_6 rfl (lv_at hl 1 rfl) ?_
      refine lv_icmp_ge (tgt := 20) hx hb d_JA_fill_7 (by decide) (fun c7 => ?_) (fun c7 => ?_)
      · exact W.vret hx hb hr (fun t ht hW => ⟨⟨(), rfl, trivial, by rw [ht]; exact hP, va_K.moved hW.alike hK, hD⟩, hS.F ht⟩) hS.2.2 d_JA_fill_20
      · exact absurd (nI_le (by omega) (by omega)) c7
    | succ n ih =>
      intro j H locs hP hD hS hj ls hl
      refine lv_iload_n hx hb d_JA_fill_5 rfl (lv_at hl 0 rfl) ?_
      refine lv_iload_n hx hb d_JA_fill_6 rfl (lv_at hl 1 rfl) ?_
      refine lv_icmp_ge (tgt := 20) hx hb d_JA_fill_7 (by decide) (fun c7 => ?_) (fun c7 => ?_)
      · exact absurd c7 (nI_ge (by omega) (by omega))
      · refine lv_aload_n hx hb d_JA_fill_10 rfl (lv_at hl 2 rfl) ?_
        refine lv_iload_n hx hb d_JA_fill_11 rfl (lv_at hl 0 rfl) ?_
        refine lv_iload_n hx hb d_JA_fill_12 rfl (lv_at hl 3 rfl) ?_
        refine va_iast hx hb hK hP hD hS 0 0 rfl rfl (vp_in_nI (by omega) (by decide)) d_JA_fill_13 (fun H locs hP hD hS => ?_)
        have hP : va_P (dC, dI) cls0 [(r, .inl (cI, 32, .inl (upd (fun _ => 0) (nI j).toNatClampNeg 0)))] H := hP
        have hD : va_D A [(r, .inl (cI, 32, .inl (upd (fun _ => 0) (nI j).toNatClampNeg 0)))] := hD
        refine lv_iinc (v := ((nI j) + 1)) (lv' := [(2, .int ((nI j) + 1)), (3, .int (nI 32)), (0, .ref r), (1, .int 0)]) hx hb d_JA_fill_14 hl (k := 0) rfl rfl (by decide) rfl (fun ls hl => ?_)
        refine lv_goto (tgt := 5) hx hb d_JA_fill_17 (by decide) ?_
        rw [nI_1] at hl
        rw [upd_id (f := fun _ => 0) rfl] at hP hD
        exact ih (j + 1) H locs hP hD hS (by omega) ls (lv_sub hl [0, 1, 2, 3] rfl)
  refine lv_iconst (v := 0) hx hb d_JA_fill_0 (by decide) ?_
  refine lv_istore_n (lv' := [(2, .int 0), (0, .ref r), (1, .int 0)]) hx hb d_JA_fill_1 rfl hl (by decide) rfl (fun ls hl => ?_)
  refine lv_aload_n hx hb d_JA_fill_2 rfl (lv_at hl 1 rfl) ?_
  refine va_alen (v := nI 32) hx hb hK hP 0 0 rfl rfl rfl d_JA_fill_3 ?_
  refine lv_istore_n (lv' := [(3, .int (nI 32)), (2, .int 0), (0, .ref r), (1, .int 0)]) hx hb d_JA_fill_4 rfl hl (by decide) rfl (fun ls hl => ?_)
  exact loop 32 0 _ _ hP hD hS rfl ls (lv_sub hl [1, 0, 2, 3] rfl)

set_option maxHeartbeats 8000000 in
set_option maxRecDepth 100000 in
theorem c_M_init (l : Launch) (dC : Nat → ClassId) (dI : Nat → Nat → Nat) (cI : ClassId) (b0 : Nat) (sz : Nat) : Met l y_M_init (.code y_M_init b_M_init 1 none :: W0) ({ frames := 1, cells := 1, slots := 5120, locals := 12 } : Room) (va_Pc [.ref b0] (fun U => U.heap.size = sz ∧ va_P (dC, dI) cls0 [(b0, .inr (3, [.null, .int 0]))] U.heap ∧ va_K (dC, dI) cls0 [(cI, .int)] U ∧ va_D (fun _ => True) [(b0, .inr (3, [.null, .int 0]))])) (va_Qv (fun _ : Nat => True) (fun u t => va_P (dC, dI) cls0 [(b0, .inr (3, [.ref u, .int 1])), (u, .inl (cI, 5120, .inl (fun _ => 0)))] t.heap ∧ va_K (dC, dI) cls0 [(cI, .int)] t ∧ va_D (va_A [(b0, .inr (3, [.null, .int 0]))] sz) [(b0, .inr (3, [.ref u, .int 1])), (u, .inl (cI, 5120, .inl (fun _ => 0)))]) (va_A [(b0, .inr (3, [.null, .int 0]))] sz)) 1 5120 (va_A [(b0, .inr (3, [.null, .int 0]))] sz) := by
  refine Met.ofW (cc := b_M_init) (maxL := 1) (ret := none) (by decide) rfl ?_
  intro p e s m args below meth c s₁ B hml hv
  obtain ⟨rfl, hsz, hP, hK, hD0⟩ := hv
  have hx := B.exec
  have hb := B.bytes
  have hr := B.returns
  have hts1 := atoms_spec (ws := .code y_M_init b_M_init 1 none :: W0) B.pre
  have hts : ∀ w ∈ W0, w.before _ s = true := fun w h => hts1 w (List.mem_cons_of_mem _ h)
  have hown : s.vm.findClass R_M = some m.cls := findClass_of_methodNamed B.named
  have hlocks := B.notSynchronized
  have hin : meth.name = "<init>" := (name_of_methodNamed B.named B.method).1
  subst hsz
  have hD := hD0.self (sz := s.heap.size)
  generalize hAe : va_A [(b0, Sum.inr (3, [.null, .int 0]))] s.heap.size = A at hD ⊢
  have hA : ∀ q : Nat, s.heap.size ≤ q → A q := fun q h => by rw [← hAe]; exact Or.inr h
  have hS : va_S A s.heap s.heap [] := va_S.rf
  have hP : va_P (dC, dI) cls0 [(b0, .inr (3, [.null, .int 0]))] s.heap := hP
  have hl := lv_entry ([.ref b0]) (n := 1) (Nat.le_of_ble_eq_true rfl)
  rw [lg_entry_eq]
  generalize (lg_sl ([.ref b0]) ++ List.replicate (1 - (lg_sl ([.ref b0])).length) Slot.unset).toArray = ls at hl ⊢
  have hl : lv_has ls 1 [(0, .ref b0)] := hl
  refine lv_aload_n hx hb d_M_init_0 rfl (lv_at hl 0 rfl) ?_
  refine W.objInit hx hb hown (hts _ kml_M_3) (hts _ kim_obj) (hts _ kcd_obj) rfl (by rw [hml]; exact hl.1) rfl d_M_init_1 (Nat.le_of_ble_eq_true rfl) (Nat.le_of_ble_eq_true rfl) ?_
  refine W.eq (g2 := F0 m 4 ls []) rfl ?_
  refine lv_aload_n hx hb d_M_init_4 rfl (lv_at hl 0 rfl) ?_
  refine lv_sipush (v := 5120) hx hb d_M_init_5 (by decide) ?_
  refine va_newa (atype := .int) (N' := 5120) (a0 := (5120, .inl (fun _ => 0))) hx hb (hts _ kac_int) rfl hK hP hD hS hA (fun _ => rfl) (by decide) (by decide) (Nat.le_of_ble_eq_true rfl) (Nat.le_of_ble_eq_true rfl) (Nat.le_of_ble_eq_true rfl) d_M_init_8 (fun q8 cA H hK hP hD hS => ?_)
  have hP : va_P (dC, dI) cls0 [(b0, .inr (3, [.null, .int 0])), (q8, .inl (cA, 5120, .inl (fun _ => 0)))] H := hP
  have hD : va_D A [(b0, .inr (3, [.null, .int 0])), (q8, .inl (cA, 5120, .inl (fun _ => 0)))] := hD
  have ec := va_K_same hK
  rw [ec] at hP hD
  have hK := hK.sub (tys' := [(cI, .int)]) [0] rfl
  refine va_putF (D := (dC, dI)) (ci := 3) (v := .ref q8) (ty := .array .int) (C := R_M) (T := T_M) (N := 2) hx hb hts in_M ty_M tk_M nm_M hown hK hP hD hS 0 rfl rfl 0 (by decide) (hts _ kfl_M_11) (fun _ h9 => h9) rfl hin rfl (by decide +kernel) rfl rfl (Nat.le_of_ble_eq_true rfl) d_M_init_10 (fun H locs hP hD hS => ?_)
  have hP : va_P (dC, dI) cls0 [(b0, .inr (3, [.ref q8, .int 0])), (q8, .inl (cI, 5120, .inl (fun _ => 0)))] H := hP
  have hD : va_D A [(b0, .inr (3, [.ref q8, .int 0])), (q8, .inl (cI, 5120, .inl (fun _ => 0)))] := hD
  refine lv_aload_n hx hb d_M_init_13 rfl (lv_at hl 0 rfl) ?_
  refine lv_iconst (v := 1) hx hb d_M_init_14 (by decide) ?_
  refine va_put (D := (dC, dI)) (ci := 3) (v := .int 1) (ty := .int) (C := R_M) (T := T_M) (N := 2) hx hb hts in_M ty_M tk_M nm_M hown hK hP hD hS 0 rfl rfl 1 (by decide) (hts _ kfl_M_15) (fun _ h9 => h9) rfl (by decide +kernel) rfl rfl (Nat.le_of_ble_eq_true rfl) d_M_init_15 (fun H locs hP hD hS => ?_)
  have hP : va_P (dC, dI) cls0 [(b0, .inr (3, [.ref q8, .int 1])), (q8, .inl (cI, 5120, .inl (fun _ => 0)))] H := hP
  have hD : va_D A [(b0, .inr (3, [.ref q8, .int 1])), (q8, .inl (cI, 5120, .inl (fun _ => 0)))] := hD
  exact W.vret hx hb hr (fun t ht hW => ⟨⟨q8, rfl, trivial, by rw [ht]; exact hP, va_K.moved hW.alike hK, hD⟩, hS.F ht⟩) hS.2.2 d_M_init_18

set_option maxHeartbeats 8000000 in
set_option maxRecDepth 100000 in
theorem c_F_init (l : Launch) (dC : Nat → ClassId) (dI : Nat → Nat → Nat) (cI : ClassId) (f a0 : Nat) (sz : Nat) : Met l y_F_init (.code y_F_init b_F_init 2 none :: W0) ({ frames := 1, cells := 0, slots := 0, locals := 12 } : Room) (va_Pc [.ref f, .ref a0] (fun U => U.heap.size = sz ∧ va_P (dC, dI) cls0 [(f, .inr (4, [.null]))] U.heap ∧ va_K (dC, dI) cls0 [(cI, .int)] U ∧ va_D (fun _ => True) [(f, .inr (4, [.null]))])) (va_Qv (fun _ : Unit => True) (fun _ t => va_P (dC, dI) cls0 [(f, .inr (4, [.ref a0]))] t.heap ∧ va_K (dC, dI) cls0 [(cI, .int)] t ∧ va_D (va_A [(f, .inr (4, [.null]))] sz) [(f, .inr (4, [.ref a0]))]) (va_A [(f, .inr (4, [.null]))] sz)) 0 0 (va_A [(f, .inr (4, [.null]))] sz) := by
  refine Met.ofW (cc := b_F_init) (maxL := 2) (ret := none) (by decide) rfl ?_
  intro p e s m args below meth c s₁ B hml hv
  obtain ⟨rfl, hsz, hP, hK, hD0⟩ := hv
  have hx := B.exec
  have hb := B.bytes
  have hr := B.returns
  have hts1 := atoms_spec (ws := .code y_F_init b_F_init 2 none :: W0) B.pre
  have hts : ∀ w ∈ W0, w.before _ s = true := fun w h => hts1 w (List.mem_cons_of_mem _ h)
  have hown : s.vm.findClass R_F = some m.cls := findClass_of_methodNamed B.named
  have hlocks := B.notSynchronized
  have hin : meth.name = "<init>" := (name_of_methodNamed B.named B.method).1
  subst hsz
  have hD := hD0.self (sz := s.heap.size)
  generalize hAe : va_A [(f, Sum.inr (4, [.null]))] s.heap.size = A at hD ⊢
  have hA : ∀ q : Nat, s.heap.size ≤ q → A q := fun q h => by rw [← hAe]; exact Or.inr h
  have hS : va_S A s.heap s.heap [] := va_S.rf
  have hP : va_P (dC, dI) cls0 [(f, .inr (4, [.null]))] s.heap := hP
  have hl := lv_entry ([.ref f, .ref a0]) (n := 2) (Nat.le_of_ble_eq_true rfl)
  rw [lg_entry_eq]
  generalize (lg_sl ([.ref f, .ref a0]) ++ List.replicate (2 - (lg_sl ([.ref f, .ref a0])).length) Slot.unset).toArray = ls at hl ⊢
  have hl : lv_has ls 2 [(0, .ref f), (1, .ref a0)] := hl
  refine lv_aload_n hx hb d_F_init_0 rfl (lv_at hl 0 rfl) ?_
  refine W.objInit hx hb hown (hts _ kml_F_3) (hts _ kim_obj) (hts _ kcd_obj) rfl (by rw [hml]; exact hl.1) rfl d_F_init_1 (Nat.le_of_ble_eq_true rfl) (Nat.le_of_ble_eq_true rfl) ?_
  refine W.eq (g2 := F0 m 4 ls []) rfl ?_
  refine lv_aload_n hx hb d_F_init_4 rfl (lv_at hl 0 rfl) ?_
  refine lv_aload_n hx hb d_F_init_5 rfl (lv_at hl 1 rfl) ?_
  refine va_putF (D := (dC, dI)) (ci := 4) (v := .ref a0) (ty := .object "DiagramStore$Nodes") (C := R_F) (T := T_F) (N := 1) hx hb hts in_F ty_F tk_F nm_F hown hK hP hD hS 0 rfl rfl 0 (by decide) (hts _ kfl_F_9) (fun _ h9 => h9) rfl hin rfl (by decide +kernel) rfl rfl (Nat.le_of_ble_eq_true rfl) d_F_init_6 (fun H locs hP hD hS => ?_)
  have hP : va_P (dC, dI) cls0 [(f, .inr (4, [.ref a0]))] H := hP
  have hD : va_D A [(f, .inr (4, [.ref a0]))] := hD
  exact W.vret hx hb hr (fun t ht hW => ⟨⟨(), rfl, trivial, by rw [ht]; exact hP, va_K.moved hW.alike hK, hD⟩, hS.F ht⟩) hS.2.2 d_F_init_9

set_option maxHeartbeats 8000000 in
set_option maxRecDepth 100000 in
theorem c_A_init (l : Launch) (dC : Nat → ClassId) (dI : Nat → Nat → Nat) (cI : ClassId) (g a0 : Nat) (sz : Nat) : Met l y_A_init (.code y_A_init b_A_init 2 none :: W0) ({ frames := 2, cells := 2, slots := 5122, locals := 40 } : Room) (va_Pc [.ref g, .ref a0] (fun U => U.heap.size = sz ∧ va_P (dC, dI) cls0 [(g, .inr (2, [.null, .null]))] U.heap ∧ va_K (dC, dI) cls0 [(cI, .int)] U ∧ va_D (fun _ => True) [(g, .inr (2, [.null, .null]))])) (va_Qv (fun _ : Nat → Nat => True) (fun u t => va_P (dC, dI) cls0 [(g, .inr (2, [.ref a0, .ref (u 0)])), (u 0, .inr (3, [.ref (u 1), .int 1])), (u 1, .inl (cI, 5120, .inl (fun _ => 0)))] t.heap ∧ va_K (dC, dI) cls0 [(cI, .int)] t ∧ va_D (va_A [(g, .inr (2, [.null, .null]))] sz) [(g, .inr (2, [.ref a0, .ref (u 0)])), (u 0, .inr (3, [.ref (u 1), .int 1])), (u 1, .inl (cI, 5120, .inl (fun _ => 0)))]) (va_A [(g, .inr (2, [.null, .null]))] sz)) 2 5122 (va_A [(g, .inr (2, [.null, .null]))] sz) := by
  refine Met.ofW (cc := b_A_init) (maxL := 2) (ret := none) (by decide) rfl ?_
  intro p e s m args below meth c s₁ B hml hv
  obtain ⟨rfl, hsz, hP, hK, hD0⟩ := hv
  have hx := B.exec
  have hb := B.bytes
  have hr := B.returns
  have hts1 := atoms_spec (ws := .code y_A_init b_A_init 2 none :: W0) B.pre
  have hts : ∀ w ∈ W0, w.before _ s = true := fun w h => hts1 w (List.mem_cons_of_mem _ h)
  have hown : s.vm.findClass R_A = some m.cls := findClass_of_methodNamed B.named
  have hlocks := B.notSynchronized
  have hin : meth.name = "<init>" := (name_of_methodNamed B.named B.method).1
  subst hsz
  have hD := hD0.self (sz := s.heap.size)
  generalize hAe : va_A [(g, Sum.inr (2, [.null, .null]))] s.heap.size = A at hD ⊢
  have hA : ∀ q : Nat, s.heap.size ≤ q → A q := fun q h => by rw [← hAe]; exact Or.inr h
  have hS : va_S A s.heap s.heap [] := va_S.rf
  have hP : va_P (dC, dI) cls0 [(g, .inr (2, [.null, .null]))] s.heap := hP
  have hl := lv_entry ([.ref g, .ref a0]) (n := 2) (Nat.le_of_ble_eq_true rfl)
  rw [lg_entry_eq]
  generalize (lg_sl ([.ref g, .ref a0]) ++ List.replicate (2 - (lg_sl ([.ref g, .ref a0])).length) Slot.unset).toArray = ls at hl ⊢
  have hl : lv_has ls 2 [(0, .ref g), (1, .ref a0)] := hl
  refine lv_aload_n hx hb d_A_init_0 rfl (lv_at hl 0 rfl) ?_
  refine W.objInit hx hb hown (hts _ kml_A_3) (hts _ kim_obj) (hts _ kcd_obj) rfl (by rw [hml]; exact hl.1) rfl d_A_init_1 (Nat.le_of_ble_eq_true rfl) (Nat.le_of_ble_eq_true rfl) ?_
  refine W.eq (g2 := F0 m 4 ls []) rfl ?_
  refine lv_aload_n hx hb d_A_init_4 rfl (lv_at hl 0 rfl) ?_
  refine lv_aload_n hx hb d_A_init_5 rfl (lv_at hl 1 rfl) ?_
  refine va_putF (D := (dC, dI)) (ci := 2) (v := .ref a0) (ty := .object "DiagramStore$Nodes") (C := R_A) (T := T_A) (N := 2) hx hb hts in_A ty_A tk_A nm_A hown hK hP hD hS 0 rfl rfl 0 (by decide) (hts _ kfl_A_9) (fun _ h9 => h9) rfl hin rfl (by decide +kernel) rfl rfl (Nat.le_of_ble_eq_true rfl) d_A_init_6 (fun H locs hP hD hS => ?_)
  have hP : va_P (dC, dI) cls0 [(g, .inr (2, [.ref a0, .null]))] H := hP
  have hD : va_D A [(g, .inr (2, [.ref a0, .null]))] := hD
  refine lv_aload_n hx hb d_A_init_9 rfl (lv_at hl 0 rfl) ?_
  refine va_new (ci := 3) (fs := [.null, .int 0]) (C := R_M) (T := T_M) (N := 2) hx hb hts in_M ty_M tk_M hown (hts _ kcl_A_15) (hts _ kis_M) (hts _ kin_M) hK hP hD hS hA rfl (fun j hj => by rcases (show j = 0 ∨ j = 1 by omega) with rfl | rfl <;> rfl) (Nat.le_of_ble_eq_true rfl) (Nat.le_of_ble_eq_true rfl) d_A_init_10 (fun q10 H hP hD hS => ?_)
  have hP : va_P (dC, dI) cls0 [(g, .inr (2, [.ref a0, .null])), (q10, .inr (3, [.null, .int 0]))] H := hP
  have hD : va_D A [(g, .inr (2, [.ref a0, .null])), (q10, .inr (3, [.null, .int 0]))] := hD
  refine lv_dup hx hb d_A_init_13 rfl ?_
  have hPc := hP.sub (ws' := [(q10, .inr (3, [.null, .int 0]))]) [1] rfl
  have hDc := hD.sub (ws' := [(q10, .inr (3, [.null, .int 0]))]) [1] (by decide) rfl
  have hFc := va_free (wc := [(q10, .inr (3, [.null, .int 0]))]) hD hS hA [1] rfl
  refine va_callv (va_runI (As := []) (rest := [.ref q10, .ref g]) ⟨hx, hb, hml, hown, hts⟩ (c_M_init l dC dI cI q10 H.size) (cwI 0 hts (gC kcd_M_init) rfl rfl rfl (hts _ kin_M) (hts _ kml_A_17) (hts _ kim_M_init) rfl (by decide +kernel) ⟨Nat.le_of_ble_eq_true rfl, Nat.le_of_ble_eq_true rfl⟩) ⟨fun a U g mk q => by obtain ⟨q0, q1, qP, qK, qD⟩ := q; exact ⟨q0, q1, qP, va_K.moved (u := U) (U := U.calling g mk a) (Vm.Alike.refl U.vm) qK, qD⟩, fun U hU hW => ⟨rfl, by rw [hU], by rw [hU]; exact hPc, va_K.moved hW.alike hK, hDc.weaken (fun _ _ _ _ => trivial)⟩⟩ rfl rfl hl.1 rfl (lv_room (Nat.le_of_ble_eq_true rfl)) d_A_init_14 ⟨Nat.le_of_ble_eq_true rfl, Nat.le_of_ble_eq_true rfl⟩) hS (fun q _ h => hFc q h) hFc (fun u14 t H locs ht hvm hw hB hz1 hk1 hS => ?_)
  obtain ⟨hP1, hK1, hD1⟩ := hB
  rw [ht] at hP1
  obtain ⟨hP, hD⟩ := va_join (wr := [(g, .inr (2, [.ref a0, .null]))]) (w1 := [(q10, .inr (3, [.ref u14, .int 1])), (u14, .inl (cI, 5120, .inl (fun _ => 0)))]) hP hD [1] [0] rfl rfl (by decide) (by decide) hk1 hFc hP1 hD1
  have hP : va_P (dC, dI) cls0 [(g, .inr (2, [.ref a0, .null])), (q10, .inr (3, [.ref u14, .int 1])), (u14, .inl (cI, 5120, .inl (fun _ => 0)))] H := hP
  have hD : va_D A [(g, .inr (2, [.ref a0, .null])), (q10, .inr (3, [.ref u14, .int 1])), (u14, .inl (cI, 5120, .inl (fun _ => 0)))] := hD
  refine va_putF (D := (dC, dI)) (ci := 2) (v := .ref q10) (ty := .object "DiagramStore$Memo") (C := R_A) (T := T_A) (N := 2) hx hb hts in_A ty_A tk_A nm_A hown hK hP hD hS 0 rfl rfl 1 (by decide) (hts _ kfl_A_18) (fun _ h9 => h9) rfl hin rfl (by decide +kernel) rfl rfl (Nat.le_of_ble_eq_true rfl) d_A_init_17 (fun H locs hP hD hS => ?_)
  have hP : va_P (dC, dI) cls0 [(g, .inr (2, [.ref a0, .ref q10])), (q10, .inr (3, [.ref u14, .int 1])), (u14, .inl (cI, 5120, .inl (fun _ => 0)))] H := hP
  have hD : va_D A [(g, .inr (2, [.ref a0, .ref q10])), (q10, .inr (3, [.ref u14, .int 1])), (u14, .inl (cI, 5120, .inl (fun _ => 0)))] := hD
  exact W.vret hx hb hr (fun t ht hW => ⟨⟨(fun k => match k with | 0 => q10 | _ => u14), rfl, trivial, by rw [ht]; exact hP, va_K.moved hW.alike hK, hD⟩, hS.F ht⟩) hS.2.2 d_A_init_20

set_option maxHeartbeats 8000000 in
set_option maxRecDepth 100000 in
theorem c_N_init (l : Launch) (dC : Nat → ClassId) (dI : Nat → Nat → Nat) (cI : ClassId) (a0 : Nat) (sz : Nat) : Met l y_N_init (.code y_N_init b_N_init 2 none :: W0) ({ frames := 1, cells := 5, slots := 5926, locals := 30 } : Room) (va_Pc [.ref a0] (fun U => U.heap.size = sz ∧ va_P (dC, dI) cls0 [(a0, .inr (1, [.null, .null, .null, .null, .null, .int 0, .int 0, .int 0, .int 0, .int 0, .int 0]))] U.heap ∧ va_K (dC, dI) cls0 [(cI, .int)] U ∧ va_D (fun _ => True) [(a0, .inr (1, [.null, .null, .null, .null, .null, .int 0, .int 0, .int 0, .int 0, .int 0, .int 0]))])) (va_Qv (fun u : Nat → Nat => u 0 = a0) (fun u t => va_P (dC, dI) cls0 (nW cI u N0) t.heap ∧ va_K (dC, dI) cls0 [(cI, .int)] t ∧ va_D (va_A [(a0, .inr (1, [.null, .null, .null, .null, .null, .int 0, .int 0, .int 0, .int 0, .int 0, .int 0]))] sz) (nW cI u N0)) (va_A [(a0, .inr (1, [.null, .null, .null, .null, .null, .int 0, .int 0, .int 0, .int 0, .int 0, .int 0]))] sz)) 5 5926 (va_A [(a0, .inr (1, [.null, .null, .null, .null, .null, .int 0, .int 0, .int 0, .int 0, .int 0, .int 0]))] sz) := by
  refine Met.ofW (cc := b_N_init) (maxL := 2) (ret := none) (by decide) rfl ?_
  intro p e s m args below meth c s₁ B hml hv
  obtain ⟨rfl, hsz, hP, hK, hD0⟩ := hv
  have hx := B.exec
  have hb := B.bytes
  have hr := B.returns
  have hts1 := atoms_spec (ws := .code y_N_init b_N_init 2 none :: W0) B.pre
  have hts : ∀ w ∈ W0, w.before _ s = true := fun w h => hts1 w (List.mem_cons_of_mem _ h)
  have hown : s.vm.findClass R_N = some m.cls := findClass_of_methodNamed B.named
  have hlocks := B.notSynchronized
  have hin : meth.name = "<init>" := (name_of_methodNamed B.named B.method).1
  subst hsz
  have hD := hD0.self (sz := s.heap.size)
  generalize hAe : va_A [(a0, Sum.inr (1, [.null, .null, .null, .null, .null, .int 0, .int 0, .int 0, .int 0, .int 0, .int 0]))] s.heap.size = A at hD ⊢
  have hA : ∀ q : Nat, s.heap.size ≤ q → A q := fun q h => by rw [← hAe]; exact Or.inr h
  have hS : va_S A s.heap s.heap [] := va_S.rf
  have hP : va_P (dC, dI) cls0 [(a0, .inr (1, [.null, .null, .null, .null, .null, .int 0, .int 0, .int 0, .int 0, .int 0, .int 0]))] s.heap := hP
  have hl := lv_entry ([.ref a0]) (n := 2) (Nat.le_of_ble_eq_true rfl)
  rw [lg_entry_eq]
  generalize (lg_sl ([.ref a0]) ++ List.replicate (2 - (lg_sl ([.ref a0])).length) Slot.unset).toArray = ls at hl ⊢
  have hl : lv_has ls 2 [(0, .ref a0)] := hl
  have loop : ∀ (q8 q50 q58 q66 q74 : Nat) (n j : Nat) (H : Heap) (locs : List Loc), va_P (dC, dI) cls0 [(a0, .inr (1, [.ref q8, .ref q50, .ref q58, .ref q66, .ref q74, .int 1024, .int 2, .int 0, .int 0, .int 0, .int 0])), (q8, .inl (cI, 5120, .inl (N0 1))), (q50, .inl (cI, 768, .inl (fun _ => 0))), (q58, .inl (cI, 12, .inl (fun _ => 0))), (q66, .inl (cI, 13, .inl (lv0 j))), (q74, .inl (cI, 13, .inl (lv0 j)))] H → va_D A [(a0, .inr (1, [.ref q8, .ref q50, .ref q58, .ref q66, .ref q74, .int 1024, .int 2, .int 0, .int 0, .int 0, .int 0])), (q8, .inl (cI, 5120, .inl (N0 1))), (q50, .inl (cI, 768, .inl (fun _ => 0))), (q58, .inl (cI, 12, .inl (fun _ => 0))), (q66, .inl (cI, 13, .inl (lv0 j))), (q74, .inl (cI, 13, .inl (lv0 j)))] → va_S A s.heap H locs → j + n = 13 → ∀ (ls : Array Slot), lv_has ls 2 [(1, .int (nI j)), (0, .ref a0)] → W p l e (headSpec (.code y_N_init b_N_init 2 none :: W0) ({ frames := 1, cells := 5, slots := 5926, locals := 30 } : Room)).room s m ([.ref a0] : List Value).toArray below meth c H locs 5 5926 (MQ below (va_Qv (fun u : Nat → Nat => u 0 = a0) (fun u t => va_P (dC, dI) cls0 (nW cI u N0) t.heap ∧ va_K (dC, dI) cls0 [(cI, .int)] t ∧ va_D A (nW cI u N0)) A) ([.ref a0] : List Value).toArray s 5 5926 A) (F0 m 81 ls []) := by
    intro q8 q50 q58 q66 q74 n
    induction n with
    | zero =>
      intro j H locs hP hD hS hj ls hl
      refine lv_iload_n hx hb d_N_init_81 rfl (lv_at hl 0 rfl) ?_
      refine lv_bipush (v := 12) hx hb d_N_init_82 (by decide) ?_
      refine lv_icmp_gt (tgt := 107) hx hb d_N_init_84 (by decide) (fun c84 => ?_) (fun c84 => ?_)
      · refine lv_aload_n hx hb d_N_init_107 rfl (lv_at hl 1 rfl) ?_
        refine lv_sipush (v := 1024) hx hb d_N_init_108 (by decide) ?_
        refine va_put (D := (dC, dI)) (ci := 1) (v := .int 1024) (ty := .int) (C := R_N) (T := T_N) (N := 11) hx hb hts in_N ty_N tk_N nm_N hown hK hP hD hS 0 rfl rfl 9 (by decide) (hts _ kfl_N_37) (fun _ h9 => h9) rfl (by decide +kernel) rfl rfl (Nat.le_of_ble_eq_true rfl) d_N_init_111 (fun H locs hP hD hS => ?_)
        have hP : va_P (dC, dI) cls0 [(a0, .inr (1, [.ref q8, .ref q50, .ref q58, .ref q66, .ref q74, .int 1024, .int 2, .int 0, .int 0, .int 1024, .int 0])), (q8, .inl (cI, 5120, .inl (N0 1))), (q50, .inl (cI, 768, .inl (fun _ => 0))), (q58, .inl (cI, 12, .inl (fun _ => 0))), (q66, .inl (cI, 13, .inl (lv0 j))), (q74, .inl (cI, 13, .inl (lv0 j)))] H := hP
        have hD : va_D A [(a0, .inr (1, [.ref q8, .ref q50, .ref q58, .ref q66, .ref q74, .int 1024, .int 2, .int 0, .int 0, .int 1024, .int 0])), (q8, .inl (cI, 5120, .inl (N0 1))), (q50, .inl (cI, 768, .inl (fun _ => 0))), (q58, .inl (cI, 12, .inl (fun _ => 0))), (q66, .inl (cI, 13, .inl (lv0 j))), (q74, .inl (cI, 13, .inl (lv0 j)))] := hD
        have hj2 : j = 13 := by omega
        subst hj2
        have hP9 : va_P (dC, dI) cls0 (nW cI (fun k => match k with | 0 => a0 | 1 => q8 | 2 => q50 | 3 => q58 | 4 => q66 | _ => q74) N0) H := hP
        have hD9 : va_D A (nW cI (fun k => match k with | 0 => a0 | 1 => q8 | 2 => q50 | 3 => q58 | 4 => q66 | _ => q74) N0) := hD
        exact W.vret hx hb hr (fun t ht hW => ⟨⟨(fun k => match k with | 0 => a0 | 1 => q8 | 2 => q50 | 3 => q58 | 4 => q66 | _ => q74), rfl, rfl, by rw [ht]; exact hP9, va_K.moved hW.alike hK, hD9⟩, hS.F ht⟩) hS.2.2 d_N_init_114
      · exact absurd (show (12 : Int32) < nI j from nI_lt (a := 12) (by omega) (by omega)) c84
    | succ n ih =>
      intro j H locs hP hD hS hj ls hl
      refine lv_iload_n hx hb d_N_init_81 rfl (lv_at hl 0 rfl) ?_
      refine lv_bipush (v := 12) hx hb d_N_init_82 (by decide) ?_
      refine lv_icmp_gt (tgt := 107) hx hb d_N_init_84 (by decide) (fun c84 => ?_) (fun c84 => ?_)
      · exact absurd c84 (nI_nlt (a := 12) (by omega) (by omega))
      · refine lv_aload_n hx hb d_N_init_87 rfl (lv_at hl 1 rfl) ?_
        refine va_get (D := (dC, dI)) (ci := 1) (v := .ref q66) (C := R_N) (T := T_N) (N := 11) hx hb hts in_N hown hK hP 0 rfl rfl 3 (by decide) (hts _ kfl_N_31) (fun _ h9 => h9) rfl d_N_init_88 ?_
        refine lv_iload_n hx hb d_N_init_91 rfl (lv_at hl 0 rfl) ?_
        refine lv_iload_n hx hb d_N_init_92 rfl (lv_at hl 0 rfl) ?_
        refine va_iast hx hb hK hP hD hS 4 0 rfl rfl (vp_in_nI (by omega) (by decide)) d_N_init_93 (fun H locs hP hD hS => ?_)
        have hP : va_P (dC, dI) cls0 [(a0, .inr (1, [.ref q8, .ref q50, .ref q58, .ref q66, .ref q74, .int 1024, .int 2, .int 0, .int 0, .int 0, .int 0])), (q8, .inl (cI, 5120, .inl (N0 1))), (q50, .inl (cI, 768, .inl (fun _ => 0))), (q58, .inl (cI, 12, .inl (fun _ => 0))), (q66, .inl (cI, 13, .inl (upd (lv0 j) (nI j).toNatClampNeg (nI j)))), (q74, .inl (cI, 13, .inl (lv0 j)))] H := hP
        have hD : va_D A [(a0, .inr (1, [.ref q8, .ref q50, .ref q58, .ref q66, .ref q74, .int 1024, .int 2, .int 0, .int 0, .int 0, .int 0])), (q8, .inl (cI, 5120, .inl (N0 1))), (q50, .inl (cI, 768, .inl (fun _ => 0))), (q58, .inl (cI, 12, .inl (fun _ => 0))), (q66, .inl (cI, 13, .inl (upd (lv0 j) (nI j).toNatClampNeg (nI j)))), (q74, .inl (cI, 13, .inl (lv0 j)))] := hD
        refine lv_aload_n hx hb d_N_init_94 rfl (lv_at hl 1 rfl) ?_
        refine va_get (D := (dC, dI)) (ci := 1) (v := .ref q74) (C := R_N) (T := T_N) (N := 11) hx hb hts in_N hown hK hP 0 rfl rfl 4 (by decide) (hts _ kfl_N_34) (fun _ h9 => h9) rfl d_N_init_95 ?_
        refine lv_iload_n hx hb d_N_init_98 rfl (lv_at hl 0 rfl) ?_
        refine lv_iload_n hx hb d_N_init_99 rfl (lv_at hl 0 rfl) ?_
        refine va_iast hx hb hK hP hD hS 5 0 rfl rfl (vp_in_nI (by omega) (by decide)) d_N_init_100 (fun H locs hP hD hS => ?_)
        have hP : va_P (dC, dI) cls0 [(a0, .inr (1, [.ref q8, .ref q50, .ref q58, .ref q66, .ref q74, .int 1024, .int 2, .int 0, .int 0, .int 0, .int 0])), (q8, .inl (cI, 5120, .inl (N0 1))), (q50, .inl (cI, 768, .inl (fun _ => 0))), (q58, .inl (cI, 12, .inl (fun _ => 0))), (q66, .inl (cI, 13, .inl (upd (lv0 j) (nI j).toNatClampNeg (nI j)))), (q74, .inl (cI, 13, .inl (upd (lv0 j) (nI j).toNatClampNeg (nI j))))] H := hP
        have hD : va_D A [(a0, .inr (1, [.ref q8, .ref q50, .ref q58, .ref q66, .ref q74, .int 1024, .int 2, .int 0, .int 0, .int 0, .int 0])), (q8, .inl (cI, 5120, .inl (N0 1))), (q50, .inl (cI, 768, .inl (fun _ => 0))), (q58, .inl (cI, 12, .inl (fun _ => 0))), (q66, .inl (cI, 13, .inl (upd (lv0 j) (nI j).toNatClampNeg (nI j)))), (q74, .inl (cI, 13, .inl (upd (lv0 j) (nI j).toNatClampNeg (nI j))))] := hD
        refine lv_iinc (v := ((nI j) + 1)) (lv' := [(1, .int ((nI j) + 1)), (0, .ref a0)]) hx hb d_N_init_101 hl (k := 0) rfl rfl (by decide) rfl (fun ls hl => ?_)
        refine lv_goto (tgt := 81) hx hb d_N_init_104 (by decide) ?_
        rw [nI_1] at hl
        rw [nI_clamp (by omega), lv0_s] at hP hD
        exact ih (j + 1) H locs hP hD hS (by omega) ls (lv_sub hl [0, 1] rfl)
  refine lv_aload_n hx hb d_N_init_0 rfl (lv_at hl 0 rfl) ?_
  refine W.objInit hx hb hown (hts _ kml_N_3) (hts _ kim_obj) (hts _ kcd_obj) rfl (by rw [hml]; exact hl.1) rfl d_N_init_1 (Nat.le_of_ble_eq_true rfl) (Nat.le_of_ble_eq_true rfl) ?_
  refine W.eq (g2 := F0 m 4 ls []) rfl ?_
  refine lv_aload_n hx hb d_N_init_4 rfl (lv_at hl 0 rfl) ?_
  refine lv_sipush (v := 5120) hx hb d_N_init_5 (by decide) ?_
  refine va_newa (atype := .int) (N' := 5120) (a0 := (5120, .inl (fun _ => 0))) hx hb (hts _ kac_int) rfl hK hP hD hS hA (fun _ => rfl) (by decide) (by decide) (Nat.le_of_ble_eq_true rfl) (Nat.le_of_ble_eq_true rfl) (Nat.le_of_ble_eq_true rfl) d_N_init_8 (fun q8 cA H hK hP hD hS => ?_)
  have hP : va_P (dC, dI) cls0 [(a0, .inr (1, [.null, .null, .null, .null, .null, .int 0, .int 0, .int 0, .int 0, .int 0, .int 0])), (q8, .inl (cA, 5120, .inl (fun _ => 0)))] H := hP
  have hD : va_D A [(a0, .inr (1, [.null, .null, .null, .null, .null, .int 0, .int 0, .int 0, .int 0, .int 0, .int 0])), (q8, .inl (cA, 5120, .inl (fun _ => 0)))] := hD
  have ec := va_K_same hK
  rw [ec] at hP hD
  have hK := hK.sub (tys' := [(cI, .int)]) [0] rfl
  refine va_put (D := (dC, dI)) (ci := 1) (v := .ref q8) (ty := .array .int) (C := R_N) (T := T_N) (N := 11) hx hb hts in_N ty_N tk_N nm_N hown hK hP hD hS 0 rfl rfl 0 (by decide) (hts _ kfl_N_11) (fun _ h9 => h9) rfl (by decide +kernel) rfl rfl (Nat.le_of_ble_eq_true rfl) d_N_init_10 (fun H locs hP hD hS => ?_)
  have hP : va_P (dC, dI) cls0 [(a0, .inr (1, [.ref q8, .null, .null, .null, .null, .int 0, .int 0, .int 0, .int 0, .int 0, .int 0])), (q8, .inl (cI, 5120, .inl (fun _ => 0)))] H := hP
  have hD : va_D A [(a0, .inr (1, [.ref q8, .null, .null, .null, .null, .int 0, .int 0, .int 0, .int 0, .int 0, .int 0])), (q8, .inl (cI, 5120, .inl (fun _ => 0)))] := hD
  refine lv_aload_n hx hb d_N_init_13 rfl (lv_at hl 0 rfl) ?_
  refine lv_sipush (v := 1024) hx hb d_N_init_14 (by decide) ?_
  refine va_put (D := (dC, dI)) (ci := 1) (v := .int 1024) (ty := .int) (C := R_N) (T := T_N) (N := 11) hx hb hts in_N ty_N tk_N nm_N hown hK hP hD hS 0 rfl rfl 5 (by decide) (hts _ kfl_N_15) (fun _ h9 => h9) rfl (by decide +kernel) rfl rfl (Nat.le_of_ble_eq_true rfl) d_N_init_17 (fun H locs hP hD hS => ?_)
  have hP : va_P (dC, dI) cls0 [(a0, .inr (1, [.ref q8, .null, .null, .null, .null, .int 1024, .int 0, .int 0, .int 0, .int 0, .int 0])), (q8, .inl (cI, 5120, .inl (fun _ => 0)))] H := hP
  have hD : va_D A [(a0, .inr (1, [.ref q8, .null, .null, .null, .null, .int 1024, .int 0, .int 0, .int 0, .int 0, .int 0])), (q8, .inl (cI, 5120, .inl (fun _ => 0)))] := hD
  refine lv_aload_n hx hb d_N_init_20 rfl (lv_at hl 0 rfl) ?_
  refine va_get (D := (dC, dI)) (ci := 1) (v := .ref q8) (C := R_N) (T := T_N) (N := 11) hx hb hts in_N hown hK hP 0 rfl rfl 0 (by decide) (hts _ kfl_N_11) (fun _ h9 => h9) rfl d_N_init_21 ?_
  refine lv_iconst (v := 0) hx hb d_N_init_24 (by decide) ?_
  refine lv_bipush (v := 12) hx hb d_N_init_25 (by decide) ?_
  refine va_iast hx hb hK hP hD hS 1 0 rfl rfl (vp_in_nI (show 0 < 5120 by decide) (by decide)) d_N_init_27 (fun H locs hP hD hS => ?_)
  have hP : va_P (dC, dI) cls0 [(a0, .inr (1, [.ref q8, .null, .null, .null, .null, .int 1024, .int 0, .int 0, .int 0, .int 0, .int 0])), (q8, .inl (cI, 5120, .inl (upd (fun _ => 0) (0 : Int32).toNatClampNeg 12)))] H := hP
  have hD : va_D A [(a0, .inr (1, [.ref q8, .null, .null, .null, .null, .int 1024, .int 0, .int 0, .int 0, .int 0, .int 0])), (q8, .inl (cI, 5120, .inl (upd (fun _ => 0) (0 : Int32).toNatClampNeg 12)))] := hD
  refine lv_aload_n hx hb d_N_init_28 rfl (lv_at hl 0 rfl) ?_
  refine va_get (D := (dC, dI)) (ci := 1) (v := .ref q8) (C := R_N) (T := T_N) (N := 11) hx hb hts in_N hown hK hP 0 rfl rfl 0 (by decide) (hts _ kfl_N_11) (fun _ h9 => h9) rfl d_N_init_29 ?_
  refine lv_iconst (v := 5) hx hb d_N_init_32 (by decide) ?_
  refine lv_bipush (v := 12) hx hb d_N_init_33 (by decide) ?_
  refine va_iast hx hb hK hP hD hS 1 0 rfl rfl (vp_in_nI (show 5 < 5120 by decide) (by decide)) d_N_init_35 (fun H locs hP hD hS => ?_)
  have hP : va_P (dC, dI) cls0 [(a0, .inr (1, [.ref q8, .null, .null, .null, .null, .int 1024, .int 0, .int 0, .int 0, .int 0, .int 0])), (q8, .inl (cI, 5120, .inl (upd (upd (fun _ => 0) (0 : Int32).toNatClampNeg 12) (5 : Int32).toNatClampNeg 12)))] H := hP
  have hD : va_D A [(a0, .inr (1, [.ref q8, .null, .null, .null, .null, .int 1024, .int 0, .int 0, .int 0, .int 0, .int 0])), (q8, .inl (cI, 5120, .inl (upd (upd (fun _ => 0) (0 : Int32).toNatClampNeg 12) (5 : Int32).toNatClampNeg 12)))] := hD
  refine lv_aload_n hx hb d_N_init_36 rfl (lv_at hl 0 rfl) ?_
  refine lv_iconst (v := 2) hx hb d_N_init_37 (by decide) ?_
  refine va_put (D := (dC, dI)) (ci := 1) (v := .int 2) (ty := .int) (C := R_N) (T := T_N) (N := 11) hx hb hts in_N ty_N tk_N nm_N hown hK hP hD hS 0 rfl rfl 6 (by decide) (hts _ kfl_N_19) (fun _ h9 => h9) rfl (by decide +kernel) rfl rfl (Nat.le_of_ble_eq_true rfl) d_N_init_38 (fun H locs hP hD hS => ?_)
  have hP : va_P (dC, dI) cls0 [(a0, .inr (1, [.ref q8, .null, .null, .null, .null, .int 1024, .int 2, .int 0, .int 0, .int 0, .int 0])), (q8, .inl (cI, 5120, .inl (upd (upd (fun _ => 0) (0 : Int32).toNatClampNeg 12) (5 : Int32).toNatClampNeg 12)))] H := hP
  have hD : va_D A [(a0, .inr (1, [.ref q8, .null, .null, .null, .null, .int 1024, .int 2, .int 0, .int 0, .int 0, .int 0])), (q8, .inl (cI, 5120, .inl (upd (upd (fun _ => 0) (0 : Int32).toNatClampNeg 12) (5 : Int32).toNatClampNeg 12)))] := hD
  refine lv_aload_n hx hb d_N_init_41 rfl (lv_at hl 0 rfl) ?_
  refine lv_iconst (v := 0) hx hb d_N_init_42 (by decide) ?_
  refine va_put (D := (dC, dI)) (ci := 1) (v := .int 0) (ty := .int) (C := R_N) (T := T_N) (N := 11) hx hb hts in_N ty_N tk_N nm_N hown hK hP hD hS 0 rfl rfl 7 (by decide) (hts _ kfl_N_22) (fun _ h9 => h9) rfl (by decide +kernel) rfl rfl (Nat.le_of_ble_eq_true rfl) d_N_init_43 (fun H locs hP hD hS => ?_)
  have hP : va_P (dC, dI) cls0 [(a0, .inr (1, [.ref q8, .null, .null, .null, .null, .int 1024, .int 2, .int 0, .int 0, .int 0, .int 0])), (q8, .inl (cI, 5120, .inl (upd (upd (fun _ => 0) (0 : Int32).toNatClampNeg 12) (5 : Int32).toNatClampNeg 12)))] H := hP
  have hD : va_D A [(a0, .inr (1, [.ref q8, .null, .null, .null, .null, .int 1024, .int 2, .int 0, .int 0, .int 0, .int 0])), (q8, .inl (cI, 5120, .inl (upd (upd (fun _ => 0) (0 : Int32).toNatClampNeg 12) (5 : Int32).toNatClampNeg 12)))] := hD
  refine lv_aload_n hx hb d_N_init_46 rfl (lv_at hl 0 rfl) ?_
  refine lv_sipush (v := 768) hx hb d_N_init_47 (by decide) ?_
  refine va_newa (atype := .int) (N' := 768) (a0 := (768, .inl (fun _ => 0))) hx hb (hts _ kac_int) rfl hK hP hD hS hA (fun _ => rfl) (by decide) (by decide) (Nat.le_of_ble_eq_true rfl) (Nat.le_of_ble_eq_true rfl) (Nat.le_of_ble_eq_true rfl) d_N_init_50 (fun q50 cA H hK hP hD hS => ?_)
  have hP : va_P (dC, dI) cls0 [(a0, .inr (1, [.ref q8, .null, .null, .null, .null, .int 1024, .int 2, .int 0, .int 0, .int 0, .int 0])), (q8, .inl (cI, 5120, .inl (upd (upd (fun _ => 0) (0 : Int32).toNatClampNeg 12) (5 : Int32).toNatClampNeg 12))), (q50, .inl (cA, 768, .inl (fun _ => 0)))] H := hP
  have hD : va_D A [(a0, .inr (1, [.ref q8, .null, .null, .null, .null, .int 1024, .int 2, .int 0, .int 0, .int 0, .int 0])), (q8, .inl (cI, 5120, .inl (upd (upd (fun _ => 0) (0 : Int32).toNatClampNeg 12) (5 : Int32).toNatClampNeg 12))), (q50, .inl (cA, 768, .inl (fun _ => 0)))] := hD
  have ec := va_K_same hK
  rw [ec] at hP hD
  have hK := hK.sub (tys' := [(cI, .int)]) [0] rfl
  refine va_putF (D := (dC, dI)) (ci := 1) (v := .ref q50) (ty := .array .int) (C := R_N) (T := T_N) (N := 11) hx hb hts in_N ty_N tk_N nm_N hown hK hP hD hS 0 rfl rfl 1 (by decide) (hts _ kfl_N_25) (fun _ h9 => h9) rfl hin rfl (by decide +kernel) rfl rfl (Nat.le_of_ble_eq_true rfl) d_N_init_52 (fun H locs hP hD hS => ?_)
  have hP : va_P (dC, dI) cls0 [(a0, .inr (1, [.ref q8, .ref q50, .null, .null, .null, .int 1024, .int 2, .int 0, .int 0, .int 0, .int 0])), (q8, .inl (cI, 5120, .inl (upd (upd (fun _ => 0) (0 : Int32).toNatClampNeg 12) (5 : Int32).toNatClampNeg 12))), (q50, .inl (cI, 768, .inl (fun _ => 0)))] H := hP
  have hD : va_D A [(a0, .inr (1, [.ref q8, .ref q50, .null, .null, .null, .int 1024, .int 2, .int 0, .int 0, .int 0, .int 0])), (q8, .inl (cI, 5120, .inl (upd (upd (fun _ => 0) (0 : Int32).toNatClampNeg 12) (5 : Int32).toNatClampNeg 12))), (q50, .inl (cI, 768, .inl (fun _ => 0)))] := hD
  refine lv_aload_n hx hb d_N_init_55 rfl (lv_at hl 0 rfl) ?_
  refine lv_bipush (v := 12) hx hb d_N_init_56 (by decide) ?_
  refine va_newa (atype := .int) (N' := 12) (a0 := (12, .inl (fun _ => 0))) hx hb (hts _ kac_int) rfl hK hP hD hS hA (fun _ => rfl) (by decide) (by decide) (Nat.le_of_ble_eq_true rfl) (Nat.le_of_ble_eq_true rfl) (Nat.le_of_ble_eq_true rfl) d_N_init_58 (fun q58 cA H hK hP hD hS => ?_)
  have hP : va_P (dC, dI) cls0 [(a0, .inr (1, [.ref q8, .ref q50, .null, .null, .null, .int 1024, .int 2, .int 0, .int 0, .int 0, .int 0])), (q8, .inl (cI, 5120, .inl (upd (upd (fun _ => 0) (0 : Int32).toNatClampNeg 12) (5 : Int32).toNatClampNeg 12))), (q50, .inl (cI, 768, .inl (fun _ => 0))), (q58, .inl (cA, 12, .inl (fun _ => 0)))] H := hP
  have hD : va_D A [(a0, .inr (1, [.ref q8, .ref q50, .null, .null, .null, .int 1024, .int 2, .int 0, .int 0, .int 0, .int 0])), (q8, .inl (cI, 5120, .inl (upd (upd (fun _ => 0) (0 : Int32).toNatClampNeg 12) (5 : Int32).toNatClampNeg 12))), (q50, .inl (cI, 768, .inl (fun _ => 0))), (q58, .inl (cA, 12, .inl (fun _ => 0)))] := hD
  have ec := va_K_same hK
  rw [ec] at hP hD
  have hK := hK.sub (tys' := [(cI, .int)]) [0] rfl
  refine va_putF (D := (dC, dI)) (ci := 1) (v := .ref q58) (ty := .array .int) (C := R_N) (T := T_N) (N := 11) hx hb hts in_N ty_N tk_N nm_N hown hK hP hD hS 0 rfl rfl 2 (by decide) (hts _ kfl_N_28) (fun _ h9 => h9) rfl hin rfl (by decide +kernel) rfl rfl (Nat.le_of_ble_eq_true rfl) d_N_init_60 (fun H locs hP hD hS => ?_)
  have hP : va_P (dC, dI) cls0 [(a0, .inr (1, [.ref q8, .ref q50, .ref q58, .null, .null, .int 1024, .int 2, .int 0, .int 0, .int 0, .int 0])), (q8, .inl (cI, 5120, .inl (upd (upd (fun _ => 0) (0 : Int32).toNatClampNeg 12) (5 : Int32).toNatClampNeg 12))), (q50, .inl (cI, 768, .inl (fun _ => 0))), (q58, .inl (cI, 12, .inl (fun _ => 0)))] H := hP
  have hD : va_D A [(a0, .inr (1, [.ref q8, .ref q50, .ref q58, .null, .null, .int 1024, .int 2, .int 0, .int 0, .int 0, .int 0])), (q8, .inl (cI, 5120, .inl (upd (upd (fun _ => 0) (0 : Int32).toNatClampNeg 12) (5 : Int32).toNatClampNeg 12))), (q50, .inl (cI, 768, .inl (fun _ => 0))), (q58, .inl (cI, 12, .inl (fun _ => 0)))] := hD
  refine lv_aload_n hx hb d_N_init_63 rfl (lv_at hl 0 rfl) ?_
  refine lv_bipush (v := 13) hx hb d_N_init_64 (by decide) ?_
  refine va_newa (atype := .int) (N' := 13) (a0 := (13, .inl (fun _ => 0))) hx hb (hts _ kac_int) rfl hK hP hD hS hA (fun _ => rfl) (by decide) (by decide) (Nat.le_of_ble_eq_true rfl) (Nat.le_of_ble_eq_true rfl) (Nat.le_of_ble_eq_true rfl) d_N_init_66 (fun q66 cA H hK hP hD hS => ?_)
  have hP : va_P (dC, dI) cls0 [(a0, .inr (1, [.ref q8, .ref q50, .ref q58, .null, .null, .int 1024, .int 2, .int 0, .int 0, .int 0, .int 0])), (q8, .inl (cI, 5120, .inl (upd (upd (fun _ => 0) (0 : Int32).toNatClampNeg 12) (5 : Int32).toNatClampNeg 12))), (q50, .inl (cI, 768, .inl (fun _ => 0))), (q58, .inl (cI, 12, .inl (fun _ => 0))), (q66, .inl (cA, 13, .inl (fun _ => 0)))] H := hP
  have hD : va_D A [(a0, .inr (1, [.ref q8, .ref q50, .ref q58, .null, .null, .int 1024, .int 2, .int 0, .int 0, .int 0, .int 0])), (q8, .inl (cI, 5120, .inl (upd (upd (fun _ => 0) (0 : Int32).toNatClampNeg 12) (5 : Int32).toNatClampNeg 12))), (q50, .inl (cI, 768, .inl (fun _ => 0))), (q58, .inl (cI, 12, .inl (fun _ => 0))), (q66, .inl (cA, 13, .inl (fun _ => 0)))] := hD
  have ec := va_K_same hK
  rw [ec] at hP hD
  have hK := hK.sub (tys' := [(cI, .int)]) [0] rfl
  refine va_putF (D := (dC, dI)) (ci := 1) (v := .ref q66) (ty := .array .int) (C := R_N) (T := T_N) (N := 11) hx hb hts in_N ty_N tk_N nm_N hown hK hP hD hS 0 rfl rfl 3 (by decide) (hts _ kfl_N_31) (fun _ h9 => h9) rfl hin rfl (by decide +kernel) rfl rfl (Nat.le_of_ble_eq_true rfl) d_N_init_68 (fun H locs hP hD hS => ?_)
  have hP : va_P (dC, dI) cls0 [(a0, .inr (1, [.ref q8, .ref q50, .ref q58, .ref q66, .null, .int 1024, .int 2, .int 0, .int 0, .int 0, .int 0])), (q8, .inl (cI, 5120, .inl (upd (upd (fun _ => 0) (0 : Int32).toNatClampNeg 12) (5 : Int32).toNatClampNeg 12))), (q50, .inl (cI, 768, .inl (fun _ => 0))), (q58, .inl (cI, 12, .inl (fun _ => 0))), (q66, .inl (cI, 13, .inl (fun _ => 0)))] H := hP
  have hD : va_D A [(a0, .inr (1, [.ref q8, .ref q50, .ref q58, .ref q66, .null, .int 1024, .int 2, .int 0, .int 0, .int 0, .int 0])), (q8, .inl (cI, 5120, .inl (upd (upd (fun _ => 0) (0 : Int32).toNatClampNeg 12) (5 : Int32).toNatClampNeg 12))), (q50, .inl (cI, 768, .inl (fun _ => 0))), (q58, .inl (cI, 12, .inl (fun _ => 0))), (q66, .inl (cI, 13, .inl (fun _ => 0)))] := hD
  refine lv_aload_n hx hb d_N_init_71 rfl (lv_at hl 0 rfl) ?_
  refine lv_bipush (v := 13) hx hb d_N_init_72 (by decide) ?_
  refine va_newa (atype := .int) (N' := 13) (a0 := (13, .inl (fun _ => 0))) hx hb (hts _ kac_int) rfl hK hP hD hS hA (fun _ => rfl) (by decide) (by decide) (Nat.le_of_ble_eq_true rfl) (Nat.le_of_ble_eq_true rfl) (Nat.le_of_ble_eq_true rfl) d_N_init_74 (fun q74 cA H hK hP hD hS => ?_)
  have hP : va_P (dC, dI) cls0 [(a0, .inr (1, [.ref q8, .ref q50, .ref q58, .ref q66, .null, .int 1024, .int 2, .int 0, .int 0, .int 0, .int 0])), (q8, .inl (cI, 5120, .inl (upd (upd (fun _ => 0) (0 : Int32).toNatClampNeg 12) (5 : Int32).toNatClampNeg 12))), (q50, .inl (cI, 768, .inl (fun _ => 0))), (q58, .inl (cI, 12, .inl (fun _ => 0))), (q66, .inl (cI, 13, .inl (fun _ => 0))), (q74, .inl (cA, 13, .inl (fun _ => 0)))] H := hP
  have hD : va_D A [(a0, .inr (1, [.ref q8, .ref q50, .ref q58, .ref q66, .null, .int 1024, .int 2, .int 0, .int 0, .int 0, .int 0])), (q8, .inl (cI, 5120, .inl (upd (upd (fun _ => 0) (0 : Int32).toNatClampNeg 12) (5 : Int32).toNatClampNeg 12))), (q50, .inl (cI, 768, .inl (fun _ => 0))), (q58, .inl (cI, 12, .inl (fun _ => 0))), (q66, .inl (cI, 13, .inl (fun _ => 0))), (q74, .inl (cA, 13, .inl (fun _ => 0)))] := hD
  have ec := va_K_same hK
  rw [ec] at hP hD
  have hK := hK.sub (tys' := [(cI, .int)]) [0] rfl
  refine va_putF (D := (dC, dI)) (ci := 1) (v := .ref q74) (ty := .array .int) (C := R_N) (T := T_N) (N := 11) hx hb hts in_N ty_N tk_N nm_N hown hK hP hD hS 0 rfl rfl 4 (by decide) (hts _ kfl_N_34) (fun _ h9 => h9) rfl hin rfl (by decide +kernel) rfl rfl (Nat.le_of_ble_eq_true rfl) d_N_init_76 (fun H locs hP hD hS => ?_)
  have hP : va_P (dC, dI) cls0 [(a0, .inr (1, [.ref q8, .ref q50, .ref q58, .ref q66, .ref q74, .int 1024, .int 2, .int 0, .int 0, .int 0, .int 0])), (q8, .inl (cI, 5120, .inl (upd (upd (fun _ => 0) (0 : Int32).toNatClampNeg 12) (5 : Int32).toNatClampNeg 12))), (q50, .inl (cI, 768, .inl (fun _ => 0))), (q58, .inl (cI, 12, .inl (fun _ => 0))), (q66, .inl (cI, 13, .inl (fun _ => 0))), (q74, .inl (cI, 13, .inl (fun _ => 0)))] H := hP
  have hD : va_D A [(a0, .inr (1, [.ref q8, .ref q50, .ref q58, .ref q66, .ref q74, .int 1024, .int 2, .int 0, .int 0, .int 0, .int 0])), (q8, .inl (cI, 5120, .inl (upd (upd (fun _ => 0) (0 : Int32).toNatClampNeg 12) (5 : Int32).toNatClampNeg 12))), (q50, .inl (cI, 768, .inl (fun _ => 0))), (q58, .inl (cI, 12, .inl (fun _ => 0))), (q66, .inl (cI, 13, .inl (fun _ => 0))), (q74, .inl (cI, 13, .inl (fun _ => 0)))] := hD
  refine lv_iconst (v := 0) hx hb d_N_init_79 (by decide) ?_
  refine lv_istore_n (lv' := [(1, .int 0), (0, .ref a0)]) hx hb d_N_init_80 rfl hl (by decide) rfl (fun ls hl => ?_)
  rw [show (fun _ => 0 : Nat → Int32) = lv0 0 from lv0_0.symm] at hP hD
  refine W.cs (cells' := 5) (slots' := 5926) (by omega) (by omega) ?_
  exact loop q8 q50 q58 q66 q74 13 0 _ _ hP hD hS rfl ls (lv_sub hl [0, 1] rfl)

set_option maxHeartbeats 8000000 in
set_option maxRecDepth 100000 in
theorem c_S_init (l : Launch) (dC : Nat → ClassId) (dI : Nat → Nat → Nat) (cI : ClassId) (z0 : Nat) (sz : Nat) : Met l y_S_init (.code y_S_init b_S_init 1 none :: W0) ({ frames := 4, cells := 11, slots := 11094, locals := 100 } : Room) (va_Pc [.ref z0] (fun U => U.heap.size = sz ∧ va_P (dC, dI) cls0 [(z0, .inr (0, [.null, .null, .null, .null]))] U.heap ∧ va_K (dC, dI) cls0 [(cI, .int)] U ∧ va_D (fun _ => True) [(z0, .inr (0, [.null, .null, .null, .null]))])) (va_Qv (fun u : (Nat → Nat) × (Nat → Nat) × (Nat → Nat) => u.1 0 = z0) (fun u t => va_P (dC, dI) cls0 (tW cI u.1 u.2.1 u.2.2 N0 E0 (fun _ => 0)) t.heap ∧ va_K (dC, dI) cls0 [(cI, .int)] t ∧ va_D (va_A [(z0, .inr (0, [.null, .null, .null, .null]))] sz) (tW cI u.1 u.2.1 u.2.2 N0 E0 (fun _ => 0))) (va_A [(z0, .inr (0, [.null, .null, .null, .null]))] sz)) 11 11094 (va_A [(z0, .inr (0, [.null, .null, .null, .null]))] sz) := by
  refine Met.ofW (cc := b_S_init) (maxL := 1) (ret := none) (by decide) rfl ?_
  intro p e s m args below meth c s₁ B hml hv
  obtain ⟨rfl, hsz, hP, hK, hD0⟩ := hv
  have hx := B.exec
  have hb := B.bytes
  have hr := B.returns
  have hts1 := atoms_spec (ws := .code y_S_init b_S_init 1 none :: W0) B.pre
  have hts : ∀ w ∈ W0, w.before _ s = true := fun w h => hts1 w (List.mem_cons_of_mem _ h)
  have hown : s.vm.findClass R_S = some m.cls := findClass_of_methodNamed B.named
  have hlocks := B.notSynchronized
  have hin : meth.name = "<init>" := (name_of_methodNamed B.named B.method).1
  subst hsz
  have hD := hD0.self (sz := s.heap.size)
  generalize hAe : va_A [(z0, Sum.inr (0, [.null, .null, .null, .null]))] s.heap.size = A at hD ⊢
  have hA : ∀ q : Nat, s.heap.size ≤ q → A q := fun q h => by rw [← hAe]; exact Or.inr h
  have hS : va_S A s.heap s.heap [] := va_S.rf
  have hP : va_P (dC, dI) cls0 [(z0, .inr (0, [.null, .null, .null, .null]))] s.heap := hP
  have hl := lv_entry ([.ref z0]) (n := 1) (Nat.le_of_ble_eq_true rfl)
  rw [lg_entry_eq]
  generalize (lg_sl ([.ref z0]) ++ List.replicate (1 - (lg_sl ([.ref z0])).length) Slot.unset).toArray = ls at hl ⊢
  have hl : lv_has ls 1 [(0, .ref z0)] := hl
  refine lv_aload_n hx hb d_S_init_0 rfl (lv_at hl 0 rfl) ?_
  refine W.objInit hx hb hown (hts _ kml_S_3) (hts _ kim_obj) (hts _ kcd_obj) rfl (by rw [hml]; exact hl.1) rfl d_S_init_1 (Nat.le_of_ble_eq_true rfl) (Nat.le_of_ble_eq_true rfl) ?_
  refine W.eq (g2 := F0 m 4 ls []) rfl ?_
  refine lv_aload_n hx hb d_S_init_4 rfl (lv_at hl 0 rfl) ?_
  refine lv_bipush (v := 32) hx hb d_S_init_5 (by decide) ?_
  refine va_newa (atype := .int) (N' := 32) (a0 := (32, .inl (fun _ => 0))) hx hb (hts _ kac_int) rfl hK hP hD hS hA (fun _ => rfl) (by decide) (by decide) (Nat.le_of_ble_eq_true rfl) (Nat.le_of_ble_eq_true rfl) (Nat.le_of_ble_eq_true rfl) d_S_init_7 (fun q7 cA H hK hP hD hS => ?_)
  have hP : va_P (dC, dI) cls0 [(z0, .inr (0, [.null, .null, .null, .null])), (q7, .inl (cA, 32, .inl (fun _ => 0)))] H := hP
  have hD : va_D A [(z0, .inr (0, [.null, .null, .null, .null])), (q7, .inl (cA, 32, .inl (fun _ => 0)))] := hD
  have ec := va_K_same hK
  rw [ec] at hP hD
  have hK := hK.sub (tys' := [(cI, .int)]) [0] rfl
  refine va_putF (D := (dC, dI)) (ci := 0) (v := .ref q7) (ty := .array .int) (C := R_S) (T := T_S) (N := 4) hx hb hts in_S ty_S tk_S nm_S hown hK hP hD hS 0 rfl rfl 0 (by decide) (hts _ kfl_S_9) (fun _ h9 => h9) rfl hin rfl (by decide +kernel) rfl rfl (Nat.le_of_ble_eq_true rfl) d_S_init_9 (fun H locs hP hD hS => ?_)
  have hP : va_P (dC, dI) cls0 [(z0, .inr (0, [.ref q7, .null, .null, .null])), (q7, .inl (cI, 32, .inl (fun _ => 0)))] H := hP
  have hD : va_D A [(z0, .inr (0, [.ref q7, .null, .null, .null])), (q7, .inl (cI, 32, .inl (fun _ => 0)))] := hD
  refine lv_aload_n hx hb d_S_init_12 rfl (lv_at hl 0 rfl) ?_
  refine va_get (D := (dC, dI)) (ci := 0) (v := .ref q7) (C := R_S) (T := T_S) (N := 4) hx hb hts in_S hown hK hP 0 rfl rfl 0 (by decide) (hts _ kfl_S_9) (fun _ h9 => h9) rfl d_S_init_13 ?_
  refine lv_iconst (v := 0) hx hb d_S_init_16 (by decide) ?_
  have hPc := hP.sub (ws' := [(q7, .inl (cI, 32, .inl (fun _ => 0)))]) [1] rfl
  have hDc := hD.sub (ws' := [(q7, .inl (cI, 32, .inl (fun _ => 0)))]) [1] (by decide) rfl
  have hFc := va_free (wc := [(q7, .inl (cI, 32, .inl (fun _ => 0)))]) hD hS hA [1] rfl
  refine va_callv (va_runS (As := [.ref q7, .int 0]) (rest := []) ⟨hx, hb, hml, hown, hts⟩ (c_JA_fill l dC dI cI q7 H.size) (va_cwS 2 hts (gS kml_S_13 kst_JA_fill kin_JA kcd_JA_fill) rfl rfl rfl (by decide +kernel) ⟨Nat.le_of_ble_eq_true rfl, Nat.le_of_ble_eq_true rfl⟩) ⟨fun a U g mk q => by obtain ⟨q0, q1, qP, qK, qD⟩ := q; exact ⟨q0, q1, qP, va_K.moved (u := U) (U := U.calling g mk a) (Vm.Alike.refl U.vm) qK, qD⟩, fun U hU hW => ⟨rfl, by rw [hU], by rw [hU]; exact hPc, va_K.moved hW.alike hK, hDc.weaken (fun _ _ _ _ => trivial)⟩⟩ rfl rfl hl.1 rfl (lv_room (Nat.le_of_ble_eq_true rfl)) d_S_init_17 ⟨Nat.le_of_ble_eq_true rfl, Nat.le_of_ble_eq_true rfl⟩) hS (fun q _ h => hFc q h) hFc (fun u t H locs ht hvm hw hB hz1 hk1 hS => ?_)
  obtain ⟨hP1, hK1, hD1⟩ := hB
  rw [ht] at hP1
  obtain ⟨hP, hD⟩ := va_join (wr := [(z0, .inr (0, [.ref q7, .null, .null, .null]))]) (w1 := [(q7, .inl (cI, 32, .inl (fun _ => 0)))]) hP hD [1] [0] rfl rfl (by decide) (by decide) hk1 hFc hP1 hD1
  have hP : va_P (dC, dI) cls0 [(z0, .inr (0, [.ref q7, .null, .null, .null])), (q7, .inl (cI, 32, .inl (fun _ => 0)))] H := hP
  have hD : va_D A [(z0, .inr (0, [.ref q7, .null, .null, .null])), (q7, .inl (cI, 32, .inl (fun _ => 0)))] := hD
  refine lv_aload_n hx hb d_S_init_20 rfl (lv_at hl 0 rfl) ?_
  refine va_new (ci := 1) (fs := [.null, .null, .null, .null, .null, .int 0, .int 0, .int 0, .int 0, .int 0, .int 0]) (C := R_N) (T := T_N) (N := 11) hx hb hts in_N ty_N tk_N hown (hts _ kcl_S_19) (hts _ kis_N) (hts _ kin_N) hK hP hD hS hA rfl (fun j hj => by rcases (show j = 0 ∨ j = 1 ∨ j = 2 ∨ j = 3 ∨ j = 4 ∨ j = 5 ∨ j = 6 ∨ j = 7 ∨ j = 8 ∨ j = 9 ∨ j = 10 by omega) with rfl | rfl | rfl | rfl | rfl | rfl | rfl | rfl | rfl | rfl | rfl <;> rfl) (Nat.le_of_ble_eq_true rfl) (Nat.le_of_ble_eq_true rfl) d_S_init_21 (fun q21 H hP hD hS => ?_)
  have hP : va_P (dC, dI) cls0 [(z0, .inr (0, [.ref q7, .null, .null, .null])), (q7, .inl (cI, 32, .inl (fun _ => 0))), (q21, .inr (1, [.null, .null, .null, .null, .null, .int 0, .int 0, .int 0, .int 0, .int 0, .int 0]))] H := hP
  have hD : va_D A [(z0, .inr (0, [.ref q7, .null, .null, .null])), (q7, .inl (cI, 32, .inl (fun _ => 0))), (q21, .inr (1, [.null, .null, .null, .null, .null, .int 0, .int 0, .int 0, .int 0, .int 0, .int 0]))] := hD
  refine lv_dup hx hb d_S_init_24 rfl ?_
  have hPc := hP.sub (ws' := [(q21, .inr (1, [.null, .null, .null, .null, .null, .int 0, .int 0, .int 0, .int 0, .int 0, .int 0]))]) [2] rfl
  have hDc := hD.sub (ws' := [(q21, .inr (1, [.null, .null, .null, .null, .null, .int 0, .int 0, .int 0, .int 0, .int 0, .int 0]))]) [2] (by decide) rfl
  have hFc := va_free (wc := [(q21, .inr (1, [.null, .null, .null, .null, .null, .int 0, .int 0, .int 0, .int 0, .int 0, .int 0]))]) hD hS hA [2] rfl
  refine va_callv (va_runI (As := []) (rest := [.ref q21, .ref z0]) ⟨hx, hb, hml, hown, hts⟩ (c_N_init l dC dI cI q21 H.size) (cwI 0 hts (gC kcd_N_init) rfl rfl rfl (hts _ kin_N) (hts _ kml_S_21) (hts _ kim_N_init) rfl (by decide +kernel) ⟨Nat.le_of_ble_eq_true rfl, Nat.le_of_ble_eq_true rfl⟩) ⟨fun a U g mk q => by obtain ⟨q0, q1, qP, qK, qD⟩ := q; exact ⟨q0, q1, qP, va_K.moved (u := U) (U := U.calling g mk a) (Vm.Alike.refl U.vm) qK, qD⟩, fun U hU hW => ⟨rfl, by rw [hU], by rw [hU]; exact hPc, va_K.moved hW.alike hK, hDc.weaken (fun _ _ _ _ => trivial)⟩⟩ rfl rfl hl.1 rfl (lv_room (Nat.le_of_ble_eq_true rfl)) d_S_init_25 ⟨Nat.le_of_ble_eq_true rfl, Nat.le_of_ble_eq_true rfl⟩) hS (fun q _ h => hFc q h) hFc (fun u25 t H locs ht hvm hw hB hz1 hk1 hS => ?_)
  obtain ⟨hP1, hK1, hD1⟩ := hB
  rw [ht] at hP1
  have hw : u25 0 = q21 := hw
  obtain ⟨hP, hD⟩ := va_join (wr := [(z0, .inr (0, [.ref q7, .null, .null, .null])), (q7, .inl (cI, 32, .inl (fun _ => 0)))]) (w1 := [(u25 0, .inr (1, [.ref (u25 1), .ref (u25 2), .ref (u25 3), .ref (u25 4), .ref (u25 5), .int 1024, .int 2, .int 0, .int 0, .int 1024, .int 0])), (u25 1, .inl (cI, 5120, .inl (N0 1))), (u25 2, .inl (cI, 768, .inl (N0 2))), (u25 3, .inl (cI, 12, .inl (N0 3))), (u25 4, .inl (cI, 13, .inl (N0 4))), (u25 5, .inl (cI, 13, .inl (N0 5)))]) hP hD [2] [0, 1] rfl rfl (by decide) (by decide) hk1 hFc hP1 hD1
  have hP : va_P (dC, dI) cls0 [(z0, .inr (0, [.ref q7, .null, .null, .null])), (q7, .inl (cI, 32, .inl (fun _ => 0))), (u25 0, .inr (1, [.ref (u25 1), .ref (u25 2), .ref (u25 3), .ref (u25 4), .ref (u25 5), .int 1024, .int 2, .int 0, .int 0, .int 1024, .int 0])), (u25 1, .inl (cI, 5120, .inl (N0 1))), (u25 2, .inl (cI, 768, .inl (N0 2))), (u25 3, .inl (cI, 12, .inl (N0 3))), (u25 4, .inl (cI, 13, .inl (N0 4))), (u25 5, .inl (cI, 13, .inl (N0 5)))] H := hP
  have hD : va_D A [(z0, .inr (0, [.ref q7, .null, .null, .null])), (q7, .inl (cI, 32, .inl (fun _ => 0))), (u25 0, .inr (1, [.ref (u25 1), .ref (u25 2), .ref (u25 3), .ref (u25 4), .ref (u25 5), .int 1024, .int 2, .int 0, .int 0, .int 1024, .int 0])), (u25 1, .inl (cI, 5120, .inl (N0 1))), (u25 2, .inl (cI, 768, .inl (N0 2))), (u25 3, .inl (cI, 12, .inl (N0 3))), (u25 4, .inl (cI, 13, .inl (N0 4))), (u25 5, .inl (cI, 13, .inl (N0 5)))] := hD
  rw [← hw]
  refine va_putF (D := (dC, dI)) (ci := 0) (v := .ref (u25 0)) (ty := .object "DiagramStore$Nodes") (C := R_S) (T := T_S) (N := 4) hx hb hts in_S ty_S tk_S nm_S hown hK hP hD hS 0 rfl rfl 1 (by decide) (hts _ kfl_S_22) (fun _ h9 => h9) rfl hin rfl (by decide +kernel) rfl rfl (Nat.le_of_ble_eq_true rfl) d_S_init_28 (fun H locs hP hD hS => ?_)
  have hP : va_P (dC, dI) cls0 [(z0, .inr (0, [.ref q7, .ref (u25 0), .null, .null])), (q7, .inl (cI, 32, .inl (fun _ => 0))), (u25 0, .inr (1, [.ref (u25 1), .ref (u25 2), .ref (u25 3), .ref (u25 4), .ref (u25 5), .int 1024, .int 2, .int 0, .int 0, .int 1024, .int 0])), (u25 1, .inl (cI, 5120, .inl (N0 1))), (u25 2, .inl (cI, 768, .inl (N0 2))), (u25 3, .inl (cI, 12, .inl (N0 3))), (u25 4, .inl (cI, 13, .inl (N0 4))), (u25 5, .inl (cI, 13, .inl (N0 5)))] H := hP
  have hD : va_D A [(z0, .inr (0, [.ref q7, .ref (u25 0), .null, .null])), (q7, .inl (cI, 32, .inl (fun _ => 0))), (u25 0, .inr (1, [.ref (u25 1), .ref (u25 2), .ref (u25 3), .ref (u25 4), .ref (u25 5), .int 1024, .int 2, .int 0, .int 0, .int 1024, .int 0])), (u25 1, .inl (cI, 5120, .inl (N0 1))), (u25 2, .inl (cI, 768, .inl (N0 2))), (u25 3, .inl (cI, 12, .inl (N0 3))), (u25 4, .inl (cI, 13, .inl (N0 4))), (u25 5, .inl (cI, 13, .inl (N0 5)))] := hD
  refine lv_aload_n hx hb d_S_init_31 rfl (lv_at hl 0 rfl) ?_
  refine va_new (ci := 2) (fs := [.null, .null]) (C := R_A) (T := T_A) (N := 2) hx hb hts in_A ty_A tk_A hown (hts _ kcl_S_26) (hts _ kis_A) (hts _ kin_A) hK hP hD hS hA rfl (fun j hj => by rcases (show j = 0 ∨ j = 1 by omega) with rfl | rfl <;> rfl) (Nat.le_of_ble_eq_true rfl) (Nat.le_of_ble_eq_true rfl) d_S_init_32 (fun q32 H hP hD hS => ?_)
  have hP : va_P (dC, dI) cls0 [(z0, .inr (0, [.ref q7, .ref (u25 0), .null, .null])), (q7, .inl (cI, 32, .inl (fun _ => 0))), (u25 0, .inr (1, [.ref (u25 1), .ref (u25 2), .ref (u25 3), .ref (u25 4), .ref (u25 5), .int 1024, .int 2, .int 0, .int 0, .int 1024, .int 0])), (u25 1, .inl (cI, 5120, .inl (N0 1))), (u25 2, .inl (cI, 768, .inl (N0 2))), (u25 3, .inl (cI, 12, .inl (N0 3))), (u25 4, .inl (cI, 13, .inl (N0 4))), (u25 5, .inl (cI, 13, .inl (N0 5))), (q32, .inr (2, [.null, .null]))] H := hP
  have hD : va_D A [(z0, .inr (0, [.ref q7, .ref (u25 0), .null, .null])), (q7, .inl (cI, 32, .inl (fun _ => 0))), (u25 0, .inr (1, [.ref (u25 1), .ref (u25 2), .ref (u25 3), .ref (u25 4), .ref (u25 5), .int 1024, .int 2, .int 0, .int 0, .int 1024, .int 0])), (u25 1, .inl (cI, 5120, .inl (N0 1))), (u25 2, .inl (cI, 768, .inl (N0 2))), (u25 3, .inl (cI, 12, .inl (N0 3))), (u25 4, .inl (cI, 13, .inl (N0 4))), (u25 5, .inl (cI, 13, .inl (N0 5))), (q32, .inr (2, [.null, .null]))] := hD
  refine lv_dup hx hb d_S_init_35 rfl ?_
  refine lv_aload_n hx hb d_S_init_36 rfl (lv_at hl 0 rfl) ?_
  refine va_get (D := (dC, dI)) (ci := 0) (v := .ref (u25 0)) (C := R_S) (T := T_S) (N := 4) hx hb hts in_S hown hK hP 0 rfl rfl 1 (by decide) (hts _ kfl_S_22) (fun _ h9 => h9) rfl d_S_init_37 ?_
  have hPc := hP.sub (ws' := [(q32, .inr (2, [.null, .null]))]) [8] rfl
  have hDc := hD.sub (ws' := [(q32, .inr (2, [.null, .null]))]) [8] (by decide) rfl
  have hFc := va_free (wc := [(q32, .inr (2, [.null, .null]))]) hD hS hA [8] rfl
  refine va_callv (va_runI (As := [.ref (u25 0)]) (rest := [.ref q32, .ref z0]) ⟨hx, hb, hml, hown, hts⟩ (c_A_init l dC dI cI q32 (u25 0) H.size) (cwI 1 hts (gC kcd_A_init) rfl rfl rfl (hts _ kin_A) (hts _ kml_S_28) (hts _ kim_A_init) rfl (by decide +kernel) ⟨Nat.le_of_ble_eq_true rfl, Nat.le_of_ble_eq_true rfl⟩) ⟨fun a U g mk q => by obtain ⟨q0, q1, qP, qK, qD⟩ := q; exact ⟨q0, q1, qP, va_K.moved (u := U) (U := U.calling g mk a) (Vm.Alike.refl U.vm) qK, qD⟩, fun U hU hW => ⟨rfl, by rw [hU], by rw [hU]; exact hPc, va_K.moved hW.alike hK, hDc.weaken (fun _ _ _ _ => trivial)⟩⟩ rfl rfl hl.1 rfl (lv_room (Nat.le_of_ble_eq_true rfl)) d_S_init_40 ⟨Nat.le_of_ble_eq_true rfl, Nat.le_of_ble_eq_true rfl⟩) hS (fun q _ h => hFc q h) hFc (fun u40 t H locs ht hvm hw hB hz1 hk1 hS => ?_)
  obtain ⟨hP1, hK1, hD1⟩ := hB
  rw [ht] at hP1
  obtain ⟨hP, hD⟩ := va_join (wr := [(z0, .inr (0, [.ref q7, .ref (u25 0), .null, .null])), (q7, .inl (cI, 32, .inl (fun _ => 0))), (u25 0, .inr (1, [.ref (u25 1), .ref (u25 2), .ref (u25 3), .ref (u25 4), .ref (u25 5), .int 1024, .int 2, .int 0, .int 0, .int 1024, .int 0])), (u25 1, .inl (cI, 5120, .inl (N0 1))), (u25 2, .inl (cI, 768, .inl (N0 2))), (u25 3, .inl (cI, 12, .inl (N0 3))), (u25 4, .inl (cI, 13, .inl (N0 4))), (u25 5, .inl (cI, 13, .inl (N0 5)))]) (w1 := [(q32, .inr (2, [.ref (u25 0), .ref (u40 0)])), (u40 0, .inr (3, [.ref (u40 1), .int 1])), (u40 1, .inl (cI, 5120, .inl (fun _ => 0)))]) hP hD [8] [0, 1, 2, 3, 4, 5, 6, 7] rfl rfl (by decide) (by decide) hk1 hFc hP1 hD1
  have hP : va_P (dC, dI) cls0 [(z0, .inr (0, [.ref q7, .ref (u25 0), .null, .null])), (q7, .inl (cI, 32, .inl (fun _ => 0))), (u25 0, .inr (1, [.ref (u25 1), .ref (u25 2), .ref (u25 3), .ref (u25 4), .ref (u25 5), .int 1024, .int 2, .int 0, .int 0, .int 1024, .int 0])), (u25 1, .inl (cI, 5120, .inl (N0 1))), (u25 2, .inl (cI, 768, .inl (N0 2))), (u25 3, .inl (cI, 12, .inl (N0 3))), (u25 4, .inl (cI, 13, .inl (N0 4))), (u25 5, .inl (cI, 13, .inl (N0 5))), (q32, .inr (2, [.ref (u25 0), .ref (u40 0)])), (u40 0, .inr (3, [.ref (u40 1), .int 1])), (u40 1, .inl (cI, 5120, .inl (fun _ => 0)))] H := hP
  have hD : va_D A [(z0, .inr (0, [.ref q7, .ref (u25 0), .null, .null])), (q7, .inl (cI, 32, .inl (fun _ => 0))), (u25 0, .inr (1, [.ref (u25 1), .ref (u25 2), .ref (u25 3), .ref (u25 4), .ref (u25 5), .int 1024, .int 2, .int 0, .int 0, .int 1024, .int 0])), (u25 1, .inl (cI, 5120, .inl (N0 1))), (u25 2, .inl (cI, 768, .inl (N0 2))), (u25 3, .inl (cI, 12, .inl (N0 3))), (u25 4, .inl (cI, 13, .inl (N0 4))), (u25 5, .inl (cI, 13, .inl (N0 5))), (q32, .inr (2, [.ref (u25 0), .ref (u40 0)])), (u40 0, .inr (3, [.ref (u40 1), .int 1])), (u40 1, .inl (cI, 5120, .inl (fun _ => 0)))] := hD
  refine va_putF (D := (dC, dI)) (ci := 0) (v := .ref q32) (ty := .object "DiagramStore$Algebra") (C := R_S) (T := T_S) (N := 4) hx hb hts in_S ty_S tk_S nm_S hown hK hP hD hS 0 rfl rfl 2 (by decide) (hts _ kfl_S_31) (fun _ h9 => h9) rfl hin rfl (by decide +kernel) rfl rfl (Nat.le_of_ble_eq_true rfl) d_S_init_43 (fun H locs hP hD hS => ?_)
  have hP : va_P (dC, dI) cls0 [(z0, .inr (0, [.ref q7, .ref (u25 0), .ref q32, .null])), (q7, .inl (cI, 32, .inl (fun _ => 0))), (u25 0, .inr (1, [.ref (u25 1), .ref (u25 2), .ref (u25 3), .ref (u25 4), .ref (u25 5), .int 1024, .int 2, .int 0, .int 0, .int 1024, .int 0])), (u25 1, .inl (cI, 5120, .inl (N0 1))), (u25 2, .inl (cI, 768, .inl (N0 2))), (u25 3, .inl (cI, 12, .inl (N0 3))), (u25 4, .inl (cI, 13, .inl (N0 4))), (u25 5, .inl (cI, 13, .inl (N0 5))), (q32, .inr (2, [.ref (u25 0), .ref (u40 0)])), (u40 0, .inr (3, [.ref (u40 1), .int 1])), (u40 1, .inl (cI, 5120, .inl (fun _ => 0)))] H := hP
  have hD : va_D A [(z0, .inr (0, [.ref q7, .ref (u25 0), .ref q32, .null])), (q7, .inl (cI, 32, .inl (fun _ => 0))), (u25 0, .inr (1, [.ref (u25 1), .ref (u25 2), .ref (u25 3), .ref (u25 4), .ref (u25 5), .int 1024, .int 2, .int 0, .int 0, .int 1024, .int 0])), (u25 1, .inl (cI, 5120, .inl (N0 1))), (u25 2, .inl (cI, 768, .inl (N0 2))), (u25 3, .inl (cI, 12, .inl (N0 3))), (u25 4, .inl (cI, 13, .inl (N0 4))), (u25 5, .inl (cI, 13, .inl (N0 5))), (q32, .inr (2, [.ref (u25 0), .ref (u40 0)])), (u40 0, .inr (3, [.ref (u40 1), .int 1])), (u40 1, .inl (cI, 5120, .inl (fun _ => 0)))] := hD
  refine lv_aload_n hx hb d_S_init_46 rfl (lv_at hl 0 rfl) ?_
  refine va_new (ci := 4) (fs := [.null]) (C := R_F) (T := T_F) (N := 1) hx hb hts in_F ty_F tk_F hown (hts _ kcl_S_35) (hts _ kis_F) (hts _ kin_F) hK hP hD hS hA rfl (fun j hj => by rcases (show j = 0 by omega) with rfl <;> rfl) (Nat.le_of_ble_eq_true rfl) (Nat.le_of_ble_eq_true rfl) d_S_init_47 (fun q47 H hP hD hS => ?_)
  have hP : va_P (dC, dI) cls0 [(z0, .inr (0, [.ref q7, .ref (u25 0), .ref q32, .null])), (q7, .inl (cI, 32, .inl (fun _ => 0))), (u25 0, .inr (1, [.ref (u25 1), .ref (u25 2), .ref (u25 3), .ref (u25 4), .ref (u25 5), .int 1024, .int 2, .int 0, .int 0, .int 1024, .int 0])), (u25 1, .inl (cI, 5120, .inl (N0 1))), (u25 2, .inl (cI, 768, .inl (N0 2))), (u25 3, .inl (cI, 12, .inl (N0 3))), (u25 4, .inl (cI, 13, .inl (N0 4))), (u25 5, .inl (cI, 13, .inl (N0 5))), (q32, .inr (2, [.ref (u25 0), .ref (u40 0)])), (u40 0, .inr (3, [.ref (u40 1), .int 1])), (u40 1, .inl (cI, 5120, .inl (fun _ => 0))), (q47, .inr (4, [.null]))] H := hP
  have hD : va_D A [(z0, .inr (0, [.ref q7, .ref (u25 0), .ref q32, .null])), (q7, .inl (cI, 32, .inl (fun _ => 0))), (u25 0, .inr (1, [.ref (u25 1), .ref (u25 2), .ref (u25 3), .ref (u25 4), .ref (u25 5), .int 1024, .int 2, .int 0, .int 0, .int 1024, .int 0])), (u25 1, .inl (cI, 5120, .inl (N0 1))), (u25 2, .inl (cI, 768, .inl (N0 2))), (u25 3, .inl (cI, 12, .inl (N0 3))), (u25 4, .inl (cI, 13, .inl (N0 4))), (u25 5, .inl (cI, 13, .inl (N0 5))), (q32, .inr (2, [.ref (u25 0), .ref (u40 0)])), (u40 0, .inr (3, [.ref (u40 1), .int 1])), (u40 1, .inl (cI, 5120, .inl (fun _ => 0))), (q47, .inr (4, [.null]))] := hD
  refine lv_dup hx hb d_S_init_50 rfl ?_
  refine lv_aload_n hx hb d_S_init_51 rfl (lv_at hl 0 rfl) ?_
  refine va_get (D := (dC, dI)) (ci := 0) (v := .ref (u25 0)) (C := R_S) (T := T_S) (N := 4) hx hb hts in_S hown hK hP 0 rfl rfl 1 (by decide) (hts _ kfl_S_22) (fun _ h9 => h9) rfl d_S_init_52 ?_
  have hPc := hP.sub (ws' := [(q47, .inr (4, [.null]))]) [11] rfl
  have hDc := hD.sub (ws' := [(q47, .inr (4, [.null]))]) [11] (by decide) rfl
  have hFc := va_free (wc := [(q47, .inr (4, [.null]))]) hD hS hA [11] rfl
  refine va_callv (va_runI (As := [.ref (u25 0)]) (rest := [.ref q47, .ref z0]) ⟨hx, hb, hml, hown, hts⟩ (c_F_init l dC dI cI q47 (u25 0) H.size) (cwI 1 hts (gC kcd_F_init) rfl rfl rfl (hts _ kin_F) (hts _ kml_S_37) (hts _ kim_F_init) rfl (by decide +kernel) ⟨Nat.le_of_ble_eq_true rfl, Nat.le_of_ble_eq_true rfl⟩) ⟨fun a U g mk q => by obtain ⟨q0, q1, qP, qK, qD⟩ := q; exact ⟨q0, q1, qP, va_K.moved (u := U) (U := U.calling g mk a) (Vm.Alike.refl U.vm) qK, qD⟩, fun U hU hW => ⟨rfl, by rw [hU], by rw [hU]; exact hPc, va_K.moved hW.alike hK, hDc.weaken (fun _ _ _ _ => trivial)⟩⟩ rfl rfl hl.1 rfl (lv_room (Nat.le_of_ble_eq_true rfl)) d_S_init_55 ⟨Nat.le_of_ble_eq_true rfl, Nat.le_of_ble_eq_true rfl⟩) hS (fun q _ h => hFc q h) hFc (fun u55 t H locs ht hvm hw hB hz1 hk1 hS => ?_)
  obtain ⟨hP1, hK1, hD1⟩ := hB
  rw [ht] at hP1
  obtain ⟨hP, hD⟩ := va_join (wr := [(z0, .inr (0, [.ref q7, .ref (u25 0), .ref q32, .null])), (q7, .inl (cI, 32, .inl (fun _ => 0))), (u25 0, .inr (1, [.ref (u25 1), .ref (u25 2), .ref (u25 3), .ref (u25 4), .ref (u25 5), .int 1024, .int 2, .int 0, .int 0, .int 1024, .int 0])), (u25 1, .inl (cI, 5120, .inl (N0 1))), (u25 2, .inl (cI, 768, .inl (N0 2))), (u25 3, .inl (cI, 12, .inl (N0 3))), (u25 4, .inl (cI, 13, .inl (N0 4))), (u25 5, .inl (cI, 13, .inl (N0 5))), (q32, .inr (2, [.ref (u25 0), .ref (u40 0)])), (u40 0, .inr (3, [.ref (u40 1), .int 1])), (u40 1, .inl (cI, 5120, .inl (fun _ => 0)))]) (w1 := [(q47, .inr (4, [.ref (u25 0)]))]) hP hD [11] [0, 1, 2, 3, 4, 5, 6, 7, 8, 9, 10] rfl rfl (by decide) (by decide) hk1 hFc hP1 hD1
  have hP : va_P (dC, dI) cls0 [(z0, .inr (0, [.ref q7, .ref (u25 0), .ref q32, .null])), (q7, .inl (cI, 32, .inl (fun _ => 0))), (u25 0, .inr (1, [.ref (u25 1), .ref (u25 2), .ref (u25 3), .ref (u25 4), .ref (u25 5), .int 1024, .int 2, .int 0, .int 0, .int 1024, .int 0])), (u25 1, .inl (cI, 5120, .inl (N0 1))), (u25 2, .inl (cI, 768, .inl (N0 2))), (u25 3, .inl (cI, 12, .inl (N0 3))), (u25 4, .inl (cI, 13, .inl (N0 4))), (u25 5, .inl (cI, 13, .inl (N0 5))), (q32, .inr (2, [.ref (u25 0), .ref (u40 0)])), (u40 0, .inr (3, [.ref (u40 1), .int 1])), (u40 1, .inl (cI, 5120, .inl (fun _ => 0))), (q47, .inr (4, [.ref (u25 0)]))] H := hP
  have hD : va_D A [(z0, .inr (0, [.ref q7, .ref (u25 0), .ref q32, .null])), (q7, .inl (cI, 32, .inl (fun _ => 0))), (u25 0, .inr (1, [.ref (u25 1), .ref (u25 2), .ref (u25 3), .ref (u25 4), .ref (u25 5), .int 1024, .int 2, .int 0, .int 0, .int 1024, .int 0])), (u25 1, .inl (cI, 5120, .inl (N0 1))), (u25 2, .inl (cI, 768, .inl (N0 2))), (u25 3, .inl (cI, 12, .inl (N0 3))), (u25 4, .inl (cI, 13, .inl (N0 4))), (u25 5, .inl (cI, 13, .inl (N0 5))), (q32, .inr (2, [.ref (u25 0), .ref (u40 0)])), (u40 0, .inr (3, [.ref (u40 1), .int 1])), (u40 1, .inl (cI, 5120, .inl (fun _ => 0))), (q47, .inr (4, [.ref (u25 0)]))] := hD
  refine va_putF (D := (dC, dI)) (ci := 0) (v := .ref q47) (ty := .object "DiagramStore$Sifting") (C := R_S) (T := T_S) (N := 4) hx hb hts in_S ty_S tk_S nm_S hown hK hP hD hS 0 rfl rfl 3 (by decide) (hts _ kfl_S_38) (fun _ h9 => h9) rfl hin rfl (by decide +kernel) rfl rfl (Nat.le_of_ble_eq_true rfl) d_S_init_58 (fun H locs hP hD hS => ?_)
  have hP : va_P (dC, dI) cls0 [(z0, .inr (0, [.ref q7, .ref (u25 0), .ref q32, .ref q47])), (q7, .inl (cI, 32, .inl (fun _ => 0))), (u25 0, .inr (1, [.ref (u25 1), .ref (u25 2), .ref (u25 3), .ref (u25 4), .ref (u25 5), .int 1024, .int 2, .int 0, .int 0, .int 1024, .int 0])), (u25 1, .inl (cI, 5120, .inl (N0 1))), (u25 2, .inl (cI, 768, .inl (N0 2))), (u25 3, .inl (cI, 12, .inl (N0 3))), (u25 4, .inl (cI, 13, .inl (N0 4))), (u25 5, .inl (cI, 13, .inl (N0 5))), (q32, .inr (2, [.ref (u25 0), .ref (u40 0)])), (u40 0, .inr (3, [.ref (u40 1), .int 1])), (u40 1, .inl (cI, 5120, .inl (fun _ => 0))), (q47, .inr (4, [.ref (u25 0)]))] H := hP
  have hD : va_D A [(z0, .inr (0, [.ref q7, .ref (u25 0), .ref q32, .ref q47])), (q7, .inl (cI, 32, .inl (fun _ => 0))), (u25 0, .inr (1, [.ref (u25 1), .ref (u25 2), .ref (u25 3), .ref (u25 4), .ref (u25 5), .int 1024, .int 2, .int 0, .int 0, .int 1024, .int 0])), (u25 1, .inl (cI, 5120, .inl (N0 1))), (u25 2, .inl (cI, 768, .inl (N0 2))), (u25 3, .inl (cI, 12, .inl (N0 3))), (u25 4, .inl (cI, 13, .inl (N0 4))), (u25 5, .inl (cI, 13, .inl (N0 5))), (q32, .inr (2, [.ref (u25 0), .ref (u40 0)])), (u40 0, .inr (3, [.ref (u40 1), .int 1])), (u40 1, .inl (cI, 5120, .inl (fun _ => 0))), (q47, .inr (4, [.ref (u25 0)]))] := hD
  have hP9 := hP.sub (ws' := tW cI (fun k => match k with | 0 => z0 | 1 => q7 | 2 => q32 | _ => q47) u25 u40 N0 E0 (fun _ => 0)) [0, 1, 11, 8, 2, 3, 4, 5, 6, 7, 9, 10] rfl
  have hD9 := hD.sub (ws' := tW cI (fun k => match k with | 0 => z0 | 1 => q7 | 2 => q32 | _ => q47) u25 u40 N0 E0 (fun _ => 0)) [0, 1, 11, 8, 2, 3, 4, 5, 6, 7, 9, 10] (by decide) rfl
  refine W.cs (cells' := 11) (slots' := 11094) (by omega) (by omega) ?_
  exact W.vret hx hb hr (fun t ht hW => ⟨⟨((fun k => match k with | 0 => z0 | 1 => q7 | 2 => q32 | _ => q47), u25, u40), rfl, rfl, by rw [ht]; exact hP9, va_K.moved hW.alike hK, hD9⟩, hS.F ht⟩) hS.2.2 d_S_init_61
