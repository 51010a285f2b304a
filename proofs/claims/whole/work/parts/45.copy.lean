/-! Arrays.copyOf(int[], int), where the copy is longer -/
theorem kml_JA_150 : Cond.methodLink R_JA 150 arraycopyName ∈ W0 := W0_in (List.mem_of_getElem? (i := 327) (by decide +kernel)) (by decide +kernel)
theorem kst_copy : Cond.static arraycopyName ∈ W0 := W0_in (List.mem_of_getElem? (i := 328) (by decide +kernel)) (by decide +kernel)
theorem knt_copy : Cond.native arraycopyName ∈ W0 := W0_in (List.mem_of_getElem? (i := 329) (by decide +kernel)) (by decide +kernel)
theorem va_K_same {D : va_G} {cl : List vw_C} {c1 c2 : ClassId} {U : State} (h : va_K D cl [(c1, .int), (c2, .int)] U) : c2 = c1 := by
  have h1 : U.vm.findClass ("[" ++ FieldType.int.toString) = some c1 := (h.2 0 _ rfl).2
  have h2 : U.vm.findClass ("[" ++ FieldType.int.toString) = some c2 := (h.2 1 _ rfl).2
  exact Option.some.inj (h2.symm.trans h1)
set_option maxHeartbeats 4000000 in
set_option maxRecDepth 100000 in
theorem c_JA_copyOf (l : Launch) (dC : Nat → ClassId) (dI : Nat → Nat → Nat) (cI : ClassId) (r n0 K : Nat) (f : Nat → Int32) (sz : Nat) (hn : n0 < K) (hK1 : K ≤ 124000) : Met l y_JA_copyOf (.code y_JA_copyOf b_JA_copyOf 3 (some (.array .int)) :: W0) ({ frames := 1, cells := 1, slots := K, locals := 60 } : Room) (va_Pc [.ref r, .int (nI K)] (fun U => U.heap.size = sz ∧ va_P (dC, dI) cls0 [(r, .inl (cI, n0, .inl f))] U.heap ∧ va_K (dC, dI) cls0 [(cI, .int)] U ∧ va_D (fun _ => True) [(r, .inl (cI, n0, .inl f))]))
    (va_Qr (fun _ : Unit => True) (fun _ q t => va_P (dC, dI) cls0 [(r, .inl (cI, n0, .inl f)), (q, .inl (cI, K, .inl (va_cpy f (fun _ => 0) 0 0 n0)))] t.heap ∧ va_K (dC, dI) cls0 [(cI, .int)] t ∧ va_D (va_A [(r, .inl (cI, n0, .inl f))] sz) [(r, .inl (cI, n0, .inl f)), (q, .inl (cI, K, .inl (va_cpy f (fun _ => 0) 0 0 n0)))]) (va_A [(r, .inl (cI, n0, .inl f))] sz)) 1 K (va_A [(r, .inl (cI, n0, .inl f))] sz) := by
  refine Met.ofW (cc := b_JA_copyOf) (maxL := 3) (ret := (some (.array .int))) (by decide) rfl ?_
  intro p e s m args below meth c s₁ B hml hv
  obtain ⟨rfl, hsz, hP, hK, hD0⟩ := hv
  have hx := B.exec
  have hb := B.bytes
  have hr := B.returns
  have hts1 := atoms_spec (ws := .code y_JA_copyOf b_JA_copyOf 3 (some (.array .int)) :: W0) B.pre
  have hts : ∀ w ∈ W0, w.before _ s = true := fun w h => hts1 w (List.mem_cons_of_mem _ h)
  have hown : s.vm.findClass R_JA = some m.cls := findClass_of_methodNamed B.named
  have hlocks := B.notSynchronized
  subst hsz
  have hD := hD0.self (sz := s.heap.size)
  generalize hAe : va_A [(r, Sum.inl (cI, n0, Sum.inl f))] s.heap.size = A at hD ⊢
  have hA : ∀ q : Nat, s.heap.size ≤ q → A q := fun q h => by rw [← hAe]; exact Or.inr h
  have hS : va_S A s.heap s.heap [] := va_S.rf
  have hl := lv_entry ([.ref r, .int (nI K)]) (n := 3) (Nat.le_of_ble_eq_true rfl)
  rw [lg_entry_eq]
  generalize (lg_sl ([.ref r, .int (nI K)]) ++ List.replicate (3 - (lg_sl ([.ref r, .int (nI K)])).length) Slot.unset).toArray = ls at hl ⊢
  have hl : lv_has ls 3 [(0, .ref r), (1, .int (nI K))] := hl
  refine lv_iload_n hx hb d_JA_copyOf_0 rfl (lv_at hl 1 rfl) ?_
  refine lv_aload_n hx hb d_JA_copyOf_1 rfl (lv_at hl 0 rfl) ?_
  refine va_alen (v := nI n0) hx hb hK hP 0 0 rfl rfl rfl d_JA_copyOf_2 ?_
  refine lv_icmp_ne (tgt := 14) hx hb d_JA_copyOf_3 (by decide) (fun c3 => ?_) (fun c3 => ?_)
  · refine lv_iload_n hx hb d_JA_copyOf_14 rfl (lv_at hl 1 rfl) ?_
    refine va_newa (atype := .int) (N' := K) (a0 := (K, .inl (fun _ => 0))) hx hb (hts _ kac_int) rfl hK hP hD hS hA (fun _ => rfl) (nI_pos (by omega)) (nI_clamp (by omega)) (by show K * 4 ≤ 536870912; omega) (by show 0 + 1 ≤ 1; omega) (by show 0 + K ≤ K; omega) d_JA_copyOf_15 (fun q cA H hK hP hD hS => ?_)
    have hK : va_K (dC, dI) cls0 [(cI, .int), (cA, .int)] s := hK
    have hP : va_P (dC, dI) cls0 [(r, .inl (cI, n0, .inl f)), (q, .inl (cA, K, .inl (fun _ => 0)))] H := hP
    have hD : va_D A [(r, .inl (cI, n0, .inl f)), (q, .inl (cA, K, .inl (fun _ => 0)))] := hD
    have ec := va_K_same hK
    subst ec
    refine lv_astore_n (lv' := [(2, .ref q), (0, .ref r), (1, .int (nI K))]) hx hb d_JA_copyOf_17 rfl hl (by decide) rfl (fun ls hl => ?_)
    refine lv_aload_n hx hb d_JA_copyOf_18 rfl (lv_at hl 1 rfl) ?_
    refine lv_iconst (v := 0) hx hb d_JA_copyOf_19 (by decide) ?_
    refine lv_aload_n hx hb d_JA_copyOf_20 rfl (lv_at hl 0 rfl) ?_
    refine lv_iconst (v := 0) hx hb d_JA_copyOf_21 (by decide) ?_
    refine lv_aload_n hx hb d_JA_copyOf_22 rfl (lv_at hl 1 rfl) ?_
    refine va_alen (v := nI n0) hx hb hK hP 0 0 rfl rfl rfl d_JA_copyOf_23 ?_
    refine lv_iload_n hx hb d_JA_copyOf_24 rfl (lv_at hl 2 rfl) ?_
    refine nMin hx hb (hml.trans hl.1.symm) hown hts kml_JA_304 (by show 1 ≤ 1; omega) (by show _ ≤ 60; exact Nat.le_of_ble_eq_true rfl) ⟨by show 0 + 1 ≤ 1; omega, by show 0 + K ≤ K; omega⟩ d_JA_copyOf_25 ?_
    rw [show j_min (nI n0) (nI K) = nI n0 from by unfold j_min; rw [if_neg (nI_nlt (by omega) (by omega))]]
    refine va_copyi hx hb (hml.trans hl.1.symm) hown (hts _ kml_JA_150) (hts _ knt_copy) (hts _ kst_copy) (hts _ kin_JS) hK hP hD hS 0 1 0 0 rfl rfl rfl rfl rfl (by decide) (by decide) (nI_pos (by omega)) (by rw [nI_clamp (by omega)]; show 0 + n0 ≤ n0; omega) (by rw [nI_clamp (by omega)]; show 0 + n0 ≤ K; omega) (fun i _ => rfl) (by show 1 ≤ 1; omega) (by show _ ≤ 60; exact Nat.le_of_ble_eq_true rfl) d_JA_copyOf_28 (fun H locs hP hD hS => ?_)
    rw [nI_clamp (by omega)] at hP hD
    have hP : va_P (dC, dI) cls0 [(r, .inl (cA, n0, .inl f)), (q, .inl (cA, K, .inl (va_cpy f (fun _ => 0) 0 0 n0)))] H := hP
    have hD : va_D A [(r, .inl (cA, n0, .inl f)), (q, .inl (cA, K, .inl (va_cpy f (fun _ => 0) 0 0 n0)))] := hD
    refine lv_aload_n hx hb d_JA_copyOf_31 rfl (lv_at hl 0 rfl) ?_
    refine W.cs (cells' := 1) (slots' := K) (by omega) (by omega) ?_
    exact W.aret (v := .ref q) (rt := .array .int) hx hb hr (Or.inr ⟨_, rfl⟩) (Or.inr ⟨_, rfl⟩) (fun t ht hW => ⟨⟨(), q, rfl, trivial, by rw [ht]; exact hP, va_K.moved hW.alike (hK.sub [0] rfl), hD⟩, hS.F ht⟩) hS.2.2 d_JA_copyOf_32
  · exact absurd ((nI_eq (by omega) (by omega)).mp c3) (by omega)
