/-! THE LAW'S LOOP AND ITS START, for any invariant that the walk can live with -/
set_option maxHeartbeats 8000000 in
set_option maxRecDepth 100000 in
theorem law_loop {I : Nat → Mm → Mm → (Nat → Int32) → (Nat → Nat → Bool) → Prop} (hI : LI I) {p : Program} {l : Launch} {e : Env} {s : State} {m : MethodId} {below : List Frame} {meth : Method} {c : Code} {dC : Nat → ClassId} {dI : Nat → Nat → Nat} {cI cJ cZ : ClassId} {b L : Nat} {xs : Nat → Int32} (hlt : l.stackTraces = false) (hL : L ≤ 2560) (C0 : lw_At p s m meth c b L xs) (hNc : va_Nc xUO xIA s) (hZ : xZ (fun q => s.heap.size ≤ q) s s.heap) (hK : va_K (dC, dI) cls0 [(cI, .int), (cJ, .long), (cZ, .boolean)] s) : ∀ (k t : Nat), 5 * t ≤ L → L < 5 * t + 5 * k → LH I p l e s m below meth c dC dI cI cJ cZ b t := by
  intro k
  induction k with
  | zero => intro t h1 h2; exact absurd h2 (by omega)
  | succ k ih =>
    intro t h1 h2 z a bb y N E V o0 f fa F g h H locs hin hP hD hS ls hl
    obtain ⟨hx, hb, hr, hml, hown, hts0, hX, hbl, hlocks, hgv⟩ := id C0
    have hbA : ¬ (fun q : Nat => s.heap.size ≤ q) b := Nat.not_le.mpr hbl
    have hs0 := (hI.2.1 t N E V F hin).1
    refine lv_iload hx hb d_L_law_23 (lv_at hl 0 rfl) ?_
    refine lv_aload_n hx hb d_L_law_25 rfl (lv_at hl 1 rfl) ?_
    refine va_slen hx hb hX hbl hbA hS d_L_law_26 ?_
    refine lv_iconst (v := 5) hx hb d_L_law_27 (by decide) ?_
    refine lv_isub hx hb d_L_law_28 ?_
    refine lv_icmp_gt (tgt := 921) hx hb d_L_law_29 (by decide) (fun c29 => ?_) (fun c29 => ?_)
    · refine lv_iconst (v := 1) hx hb d_L_law_921 (by decide) ?_
      refine va_forget (fun q hq => hS.2.2 q hq) ?_
      obtain ⟨w1, w2⟩ := CC_b (t := t) hs0 (by omega)
      refine W.widen (k := 601024) (n := 7293034) w1 w2 ?_
      exact lw_ret hx hb hr hlocks d_L_law_922
    · have h5 : 5 * t + 5 ≤ L := by
        rcases Nat.lt_or_ge L (5 * t + 5) with q | q
        · exact absurd ((end_gt (by omega) hL).mpr q) c29
        · exact q
      have ih := ih (t + 1) (by omega) (by omega)
      refine lv_aload_n hx hb d_L_law_32 rfl (lv_at hl 1 rfl) ?_
      refine lv_iload hx hb d_L_law_33 (lv_at hl 0 rfl) ?_
      refine va_sld hx hb hX hbl hbA hS (vp_in_nI (by omega) (by omega)) d_L_law_35 ?_
      refine lv_bipush (v := 15) hx hb d_L_law_36 (by decide) ?_
      refine lv_iand hx hb d_L_law_38 ?_
      obtain ⟨j, hj, ej⟩ := pk_andE (xs (nI (5 * t)).toNatClampNeg) (m := 15) 4 rfl
      rw [ej]
      rcases (show j = 0 ∨ j = 1 ∨ j = 2 ∨ j = 3 ∨ j = 4 ∨ j = 5 ∨ j = 6 ∨ j = 7 ∨ j = 8 ∨ j = 9 ∨ j = 10 ∨ j = 11 ∨ j = 12 ∨ j = 13 ∨ j = 14 ∨ j = 15 by omega) with rfl | rfl | rfl | rfl | rfl | rfl | rfl | rfl | rfl | rfl | rfl | rfl | rfl | rfl | rfl | rfl
      · refine lv_tableIn (off := 61) (tgt := 100) hx hb d_L_law_39 (by decide) (by decide) (by decide) (by decide) ?_
        exact law_constant hI hlt hL C0 hNc hZ hK h5 ih z a bb y N E V o0 f fa F g h H locs hin hP hD hS ls hl
      · refine lv_tableIn (off := 125) (tgt := 164) hx hb d_L_law_39 (by decide) (by decide) (by decide) (by decide) ?_
        exact law_variable hI hlt hL C0 hNc hZ hK h5 ih z a bb y N E V o0 f fa F g h H locs hin hP hD hS ls hl
      · refine lv_tableIn (off := 173) (tgt := 212) hx hb d_L_law_39 (by decide) (by decide) (by decide) (by decide) ?_
        exact law_choose hI hlt hL C0 hNc hZ hK h5 ih z a bb y N E V o0 f fa F g h H locs hin hP hD hS ls hl
      · refine lv_tableIn (off := 272) (tgt := 311) hx hb d_L_law_39 (by decide) (by decide) (by decide) (by decide) ?_
        exact law_join hI hlt hL C0 hNc hZ hK h5 ih z a bb y N E V o0 f fa F g h H locs hin hP hD hS ls hl
      · refine lv_tableIn (off := 371) (tgt := 410) hx hb d_L_law_39 (by decide) (by decide) (by decide) (by decide) ?_
        exact law_some hI hlt hL C0 hNc hZ hK h5 ih z a bb y N E V o0 f fa F g h H locs hin hP hD hS ls hl
      · refine lv_tableIn (off := 470) (tgt := 509) hx hb d_L_law_39 (by decide) (by decide) (by decide) (by decide) ?_
        exact law_turn hI hlt hL C0 hNc hZ hK h5 ih z a bb y N E V o0 f fa F g h H locs hin hP hD hS ls hl
      · refine lv_tableIn (off := 545) (tgt := 584) hx hb d_L_law_39 (by decide) (by decide) (by decide) (by decide) ?_
        exact law_value hI hlt hL C0 hNc hZ hK h5 ih z a bb y N E V o0 f fa F g h H locs hin hP hD hS ls hl
      · refine lv_tableIn (off := 620) (tgt := 659) hx hb d_L_law_39 (by decide) (by decide) (by decide) (by decide) ?_
        exact law_same hI hlt hL C0 hNc hZ hK h5 ih z a bb y N E V o0 f fa F g h H locs hin hP hD hS ls hl
      · refine lv_tableIn (off := 695) (tgt := 734) hx hb d_L_law_39 (by decide) (by decide) (by decide) (by decide) ?_
        exact law_count hI hlt hL C0 hNc hZ hK h5 ih z a bb y N E V o0 f fa F g h H locs hin hP hD hS ls hl
      · refine lv_tableIn (off := 751) (tgt := 790) hx hb d_L_law_39 (by decide) (by decide) (by decide) (by decide) ?_
        exact law_support hI hlt hL C0 hNc hZ hK h5 ih z a bb y N E V o0 f fa F g h H locs hin hP hD hS ls hl
      · refine lv_tableIn (off := 807) (tgt := 846) hx hb d_L_law_39 (by decide) (by decide) (by decide) (by decide) ?_
        exact law_tidy hI hlt hL C0 hNc hZ hK h5 ih z a bb y N E V o0 f fa F g h H locs hin hP hD hS ls hl
      · refine lv_tableIn (off := 863) (tgt := 902) hx hb d_L_law_39 (by decide) (by decide) (by decide) (by decide) ?_
        exact law_wrong hI hlt hL C0 hNc hZ hK h5 ih z a bb y N E V o0 f fa F g h H locs hin hP hD hS ls hl
      · refine lv_tableOut (tgt := 915) hx hb d_L_law_39 (by decide) (by decide) ?_
        refine lv_iinc (v := nI (5 * t) + 5) (lv' := [(4, .int (nI (5 * t) + 5)), (0, .ref b), (1, .ref (z 0)), (2, .ref (y 0)), (3, .ref o0)]) hx hb d_L_law_915 hl (k := 0) rfl rfl (by decide) rfl (fun ls hl => ?_)
        refine lv_goto (tgt := 23) hx hb d_L_law_918 (by decide) ?_
        rw [show nI (5 * t) + (5 : Int32) = nI (5 * (t + 1)) from by rw [show (5 : Int32) = nI 5 from rfl, nI_add]; rfl] at hl
        obtain ⟨w1, w2⟩ := CC_z (t := t) (N := N)
        refine W.widen (k := CC (t + 1) N) (n := SS (t + 1) N) w1 w2 ?_
        exact ih z a bb y N E V o0 f fa F g h H locs (hI.2.2.1 t N E V F hin) hP hD hS ls hl
      · refine lv_tableOut (tgt := 915) hx hb d_L_law_39 (by decide) (by decide) ?_
        refine lv_iinc (v := nI (5 * t) + 5) (lv' := [(4, .int (nI (5 * t) + 5)), (0, .ref b), (1, .ref (z 0)), (2, .ref (y 0)), (3, .ref o0)]) hx hb d_L_law_915 hl (k := 0) rfl rfl (by decide) rfl (fun ls hl => ?_)
        refine lv_goto (tgt := 23) hx hb d_L_law_918 (by decide) ?_
        rw [show nI (5 * t) + (5 : Int32) = nI (5 * (t + 1)) from by rw [show (5 : Int32) = nI 5 from rfl, nI_add]; rfl] at hl
        obtain ⟨w1, w2⟩ := CC_z (t := t) (N := N)
        refine W.widen (k := CC (t + 1) N) (n := SS (t + 1) N) w1 w2 ?_
        exact ih z a bb y N E V o0 f fa F g h H locs (hI.2.2.1 t N E V F hin) hP hD hS ls hl
      · refine lv_tableOut (tgt := 915) hx hb d_L_law_39 (by decide) (by decide) ?_
        refine lv_iinc (v := nI (5 * t) + 5) (lv' := [(4, .int (nI (5 * t) + 5)), (0, .ref b), (1, .ref (z 0)), (2, .ref (y 0)), (3, .ref o0)]) hx hb d_L_law_915 hl (k := 0) rfl rfl (by decide) rfl (fun ls hl => ?_)
        refine lv_goto (tgt := 23) hx hb d_L_law_918 (by decide) ?_
        rw [show nI (5 * t) + (5 : Int32) = nI (5 * (t + 1)) from by rw [show (5 : Int32) = nI 5 from rfl, nI_add]; rfl] at hl
        obtain ⟨w1, w2⟩ := CC_z (t := t) (N := N)
        refine W.widen (k := CC (t + 1) N) (n := SS (t + 1) N) w1 w2 ?_
        exact ih z a bb y N E V o0 f fa F g h H locs (hI.2.2.1 t N E V F hin) hP hD hS ls hl
      · refine lv_tableOut (tgt := 915) hx hb d_L_law_39 (by decide) (by decide) ?_
        refine lv_iinc (v := nI (5 * t) + 5) (lv' := [(4, .int (nI (5 * t) + 5)), (0, .ref b), (1, .ref (z 0)), (2, .ref (y 0)), (3, .ref o0)]) hx hb d_L_law_915 hl (k := 0) rfl rfl (by decide) rfl (fun ls hl => ?_)
        refine lv_goto (tgt := 23) hx hb d_L_law_918 (by decide) ?_
        rw [show nI (5 * t) + (5 : Int32) = nI (5 * (t + 1)) from by rw [show (5 : Int32) = nI 5 from rfl, nI_add]; rfl] at hl
        obtain ⟨w1, w2⟩ := CC_z (t := t) (N := N)
        refine W.widen (k := CC (t + 1) N) (n := SS (t + 1) N) w1 w2 ?_
        exact ih z a bb y N E V o0 f fa F g h H locs (hI.2.2.1 t N E V F hin) hP hD hS ls hl
/-- the classes of the arrays, as the tables have them -/
theorem arrK {args : Array Value} {s : State} {ty : FieldType} (h : (Cond.arrayClass ty).before args s = true) : ∃ cA : ClassId, ArrOfT s cA ty ∧ s.vm.findClass ("[" ++ ty.toString) = some cA := by
  obtain ⟨cA, kA, comp, h1, h2, h3⟩ := Cond.arrayClass_spec h
  exact ⟨cA, fun n z => ⟨fun k h => (by cases h), kA, h2, comp, h3⟩, h1⟩
theorem va_K_sameJ {D : va_G} {cl : List vw_C} {c1 c2 c3 c4 : ClassId} {U : State} (h : va_K D cl [(c1, .int), (c2, .long), (c3, .boolean), (c4, .long)] U) : c4 = c2 := by
  have h1 : U.vm.findClass ("[" ++ FieldType.long.toString) = some c2 := (h.2 1 _ rfl).2
  have h2 : U.vm.findClass ("[" ++ FieldType.long.toString) = some c4 := (h.2 3 _ rfl).2
  exact Option.some.inj (h2.symm.trans h1)
theorem xbl_in : ∀ w ∈ xbl, w ∈ lw_tbl := by decide +kernel
set_option maxHeartbeats 8000000 in
set_option maxRecDepth 100000 in
theorem start_of {I : Nat → Mm → Mm → (Nat → Int32) → (Nat → Nat → Bool) → Prop} (hI : LI I) {p : Program} {e : Env} {s : State} {m : MethodId} {below : List Frame} {meth : Method} {c : Code} (l : Launch) (hlt : l.stackTraces = false) {b L : Nat} {xs : Nat → Int32} (hL : L ≤ 2560) (C0 : lw_At p s m meth c b L xs) : W p l e room_1 s m #[Value.ref b] below meth c s.heap [] 0 0 (lw_Z below #[Value.ref b] s) (entryFrame m ([Value.ref b] : List Value).toArray 7) := by
  obtain ⟨hx, hb, hr, hml, hown, hts0, hX, hbl, hlocks, hgv⟩ := id C0
  have hown : s.vm.findClass R_L = some m.cls := hown
  have hts : ∀ w ∈ W0, w.before _ s = true := fun w h => hts0 w (W0_tbl w h)
  have hgs := flat_of_before _ hgv
  have hA : ∀ q : Nat, s.heap.size ≤ q → (fun q : Nat => s.heap.size ≤ q) q := fun _ h => h
  have hA0 : ∀ a : Nat, a < s.heap.size → ¬ (fun q : Nat => s.heap.size ≤ q) a := fun _ h => Nat.not_le.mpr h
  have hNc : va_Nc xUO xIA s := va_Nc.of (hgs (.not (.castable "java/lang/UnsupportedOperationException" "java/lang/IllegalArgumentException")) (by decide +kernel))
  have hZ : xZ (fun q => s.heap.size ≤ q) s s.heap := by
    refine ⟨vx_Zqof (hts0 _ (by decide +kernel)) (hts0 _ (by decide +kernel)) (hgs _ (by decide +kernel)) hA0, vx_Zqof (hts0 _ (by decide +kernel)) (hts0 _ (by decide +kernel)) (hgs _ (by decide +kernel)) hA0, ?_, ?_, ?_⟩
    · intro w hw
      have h1 := hts0 w (xbl_in w hw)
      simp only [xbl, List.mem_cons, List.not_mem_nil, or_false] at hw
      rcases hw with rfl | rfl | rfl | rfl | rfl <;> exact va_any rfl h1
    · obtain ⟨a, c1, cA, kA, q1, -⟩ := Cond.exactly_spec (args := #[Value.ref b]) (first := s) (o := none) (s := s) (idx := []) (t := .string "DiagramStore" 105) (cls := "java/lang/String") (hgs (.exactly (.string "DiagramStore" 105) "java/lang/String") (by decide +kernel))
      exact ⟨a, vk_R.of (A := #[Value.ref b]) (hts0 (.stringRef "DiagramStore" 105 "a number is out of range") (by decide +kernel)) q1⟩
    · obtain ⟨a, c1, cA, kA, q1, -⟩ := Cond.exactly_spec (args := #[Value.ref b]) (first := s) (o := none) (s := s) (idx := []) (t := .string "DiagramStore" 79) (cls := "java/lang/String") (hgs (.exactly (.string "DiagramStore" 79) "java/lang/String") (by decide +kernel))
      exact ⟨a, vk_R.of (A := #[Value.ref b]) (hts0 (.stringRef "DiagramStore" 79 "the function hangs on an odd variable") (by decide +kernel)) q1⟩
  obtain ⟨c0, iS0, hKn0⟩ := u_known (C := R_S) (T := T_S) (N := 4) (n := 4) hts in_S (hts _ kis_S)
  obtain ⟨c1, iS1, hKn1⟩ := u_known (C := R_N) (T := T_N) (N := 11) (n := 11) hts in_N (hts _ kis_N)
  obtain ⟨c2, iS2, hKn2⟩ := u_known (C := R_A) (T := T_A) (N := 2) (n := 2) hts in_A (hts _ kis_A)
  obtain ⟨c3, iS3, hKn3⟩ := u_known (C := R_M) (T := T_M) (N := 2) (n := 2) hts in_M (hts _ kis_M)
  obtain ⟨c4, iS4, hKn4⟩ := u_known (C := R_F) (T := T_F) (N := 1) (n := 1) hts in_F (hts _ kis_F)
  obtain ⟨c5, iS5, hKn5⟩ := u_known (C := R_R) (T := T_R) (N := 4) (n := 4) hts in_R (hts _ kis_R)
  obtain ⟨dC, dI, hKc⟩ : ∃ (dC : Nat → ClassId) (dI : Nat → Nat → Nat), ∀ (k : Nat) (q : vw_C), cls0[k]? = some q → u_Kn s q.1 q.2.1 q.2.2 (dC k) (dI k) := by
    refine ⟨fun k => match k with | 0 => c0 | 1 => c1 | 2 => c2 | 3 => c3 | 4 => c4 | _ => c5, fun k => match k with | 0 => iS0 | 1 => iS1 | 2 => iS2 | 3 => iS3 | 4 => iS4 | _ => iS5, ?_⟩
    intro k q hq
    match k, hq with
    | 0, hq => cases hq; exact hKn0
    | 1, hq => cases hq; exact hKn1
    | 2, hq => cases hq; exact hKn2
    | 3, hq => cases hq; exact hKn3
    | 4, hq => cases hq; exact hKn4
    | 5, hq => cases hq; exact hKn5
    | k + 6, hq => simp [cls0] at hq
  obtain ⟨cI, hI1, hI2⟩ := arrK (hts _ kac_int)
  obtain ⟨cJ, hJ1, hJ2⟩ := arrK (hts _ kac_long)
  obtain ⟨cZ, hZ1, hZ2⟩ := arrK (hts _ kac_boolean)
  have hK : va_K (dC, dI) cls0 [(cI, .int), (cJ, .long), (cZ, .boolean)] s := ⟨hKc, fun k q hq => by
    match k, hq with
    | 0, hq => cases hq; exact ⟨hI1, hI2⟩
    | 1, hq => cases hq; exact ⟨hJ1, hJ2⟩
    | 2, hq => cases hq; exact ⟨hZ1, hZ2⟩
    | k + 3, hq => simp at hq⟩
  have hS : va_S (fun q : Nat => s.heap.size ≤ q) s.heap s.heap [] := va_S.rf
  have hP : va_P (dC, dI) cls0 [] s.heap := fun k q h => by simp at h
  have hD : va_D (fun q : Nat => s.heap.size ≤ q) [] := ⟨fun i j p q h => by simp at h, fun k q h => by simp at h⟩
  have hl := lv_entry ([.ref b]) (n := 7) (Nat.le_of_ble_eq_true rfl)
  rw [lg_entry_eq]
  generalize (lg_sl ([.ref b]) ++ List.replicate (7 - (lg_sl ([.ref b])).length) Slot.unset).toArray = ls at hl ⊢
  have hl : lv_has ls 7 [(0, .ref b)] := hl
  refine va_new (ci := 0) (fs := [.null, .null, .null, .null]) (C := R_S) (T := T_S) (N := 4) hx hb hts in_S ty_S tk_S hown (hts _ kcl_L_8) (hts _ kis_S) (hts _ kin_S) hK hP hD hS hA rfl (fun j hj => by rcases (show j = 0 ∨ j = 1 ∨ j = 2 ∨ j = 3 by omega) with rfl | rfl | rfl | rfl <;> rfl) (Nat.le_of_ble_eq_true rfl) (Nat.le_of_ble_eq_true rfl) d_L_law_0 (fun z0 H hP hD hS => ?_)
  have hP : va_P (dC, dI) cls0 [(z0, .inr (0, [.null, .null, .null, .null]))] H := hP
  have hD : va_D (fun q : Nat => s.heap.size ≤ q) [(z0, .inr (0, [.null, .null, .null, .null]))] := hD
  refine lv_dup hx hb d_L_law_3 rfl ?_
  have hFc := va_free (wc := [(z0, .inr (0, [.null, .null, .null, .null]))]) hD hS hA [0] rfl
  have hKc1 := hK.sub (tys' := [(cI, .int)]) [0] rfl
  refine va_callv (va_runI (As := []) (rest := [.ref z0]) ⟨hx, hb, hml, hown, hts⟩ (c_S_init l dC dI cI z0 H.size) (cwI 0 hts (gC kcd_S_init) rfl rfl rfl (hts _ kin_S) (hts _ kml_L_51) (hts _ kim_S_init) rfl (by decide +kernel) ⟨Nat.le_of_ble_eq_true rfl, Nat.le_of_ble_eq_true rfl⟩) ⟨fun a U g mk q => by obtain ⟨q0, q1, qP, qK, qD⟩ := q; exact ⟨q0, q1, qP, va_K.moved (u := U) (U := U.calling g mk a) (Vm.Alike.refl U.vm) qK, qD⟩, fun U hU hW => ⟨rfl, by rw [hU], by rw [hU]; exact hP, va_K.moved hW.alike hKc1, hD.weaken (fun _ _ _ _ => trivial)⟩⟩ rfl rfl hl.1 rfl (lv_room (Nat.le_of_ble_eq_true rfl)) d_L_law_4 ⟨Nat.le_of_ble_eq_true rfl, Nat.le_of_ble_eq_true rfl⟩) hS (fun q _ h => hFc q h) hFc (fun u t H locs ht hvm hw hB hz1 hk1 hS => ?_)
  obtain ⟨z, a, bb⟩ := u
  obtain ⟨hP1, hK1, hD1⟩ := hB
  rw [ht] at hP1
  have hw : z 0 = z0 := hw
  obtain ⟨hP, hD⟩ := va_join (wr := []) (w1 := tW cI z a bb N0 E0 (fun _ => 0)) hP hD [0] [] rfl rfl (by decide) (by decide) hk1 hFc hP1 hD1
  have hP : va_P (dC, dI) cls0 (tW cI z a bb N0 E0 (fun _ => 0)) H := hP
  have hD : va_D (fun q : Nat => s.heap.size ≤ q) (tW cI z a bb N0 E0 (fun _ => 0)) := hD
  rw [← hw]
  refine lv_astore_n (lv' := [(1, .ref (z 0)), (0, .ref b)]) hx hb d_L_law_7 rfl hl (by decide) rfl (fun ls hl => ?_)
  refine va_new (ci := 5) (fs := [.int 0, .null, .null, .null]) (C := R_R) (T := T_R) (N := 4) hx hb hts in_R ty_R tk_R hown (hts _ kcl_L_52) (hts _ kis_R) (hts _ kin_R) hK hP hD hS hA rfl (fun j hj => by rcases (show j = 0 ∨ j = 1 ∨ j = 2 ∨ j = 3 by omega) with rfl | rfl | rfl | rfl <;> rfl) (Nat.le_of_ble_eq_true rfl) (Nat.le_of_ble_eq_true rfl) d_L_law_8 (fun y0 H hP hD hS => ?_)
  have hP : va_P (dC, dI) cls0 (tW cI z a bb N0 E0 (fun _ => 0) ++ [(y0, .inr (5, [.int 0, .null, .null, .null]))]) H := hP
  have hD : va_D (fun q : Nat => s.heap.size ≤ q) (tW cI z a bb N0 E0 (fun _ => 0) ++ [(y0, .inr (5, [.int 0, .null, .null, .null]))]) := hD
  refine lv_dup hx hb d_L_law_11 rfl ?_
  have hPc := hP.sub (ws' := [(y0, .inr (5, [.int 0, .null, .null, .null]))]) [12] rfl
  have hDc := hD.sub (ws' := [(y0, .inr (5, [.int 0, .null, .null, .null]))]) [12] (by decide) rfl
  have hFc := va_free (wc := [(y0, .inr (5, [.int 0, .null, .null, .null]))]) hD hS hA [12] rfl
  have hKc2 := hK.sub (tys' := [(cZ, .boolean)]) [2] rfl
  refine va_callv (va_runI (As := []) (rest := [.ref y0]) ⟨hx, hb, hml, hown, hts⟩ (c_R_init l dC dI cZ y0 H.size) (cwI 0 hts (gC kcd_R_init) rfl rfl rfl (hts _ kin_R) (hts _ kml_L_54) (hts _ kim_R_init) rfl (by decide +kernel) ⟨Nat.le_of_ble_eq_true rfl, Nat.le_of_ble_eq_true rfl⟩) ⟨fun a U g mk q => by obtain ⟨q0, q1, qP, qK, qD⟩ := q; exact ⟨q0, q1, qP, va_K.moved (u := U) (U := U.calling g mk a) (Vm.Alike.refl U.vm) qK, qD⟩, fun U hU hW => ⟨rfl, by rw [hU], by rw [hU]; exact hPc, va_K.moved hW.alike hKc2, hDc.weaken (fun _ _ _ _ => trivial)⟩⟩ rfl rfl hl.1 rfl (lv_room (Nat.le_of_ble_eq_true rfl)) d_L_law_12 ⟨Nat.le_of_ble_eq_true rfl, Nat.le_of_ble_eq_true rfl⟩) hS (fun q _ h => hFc q h) hFc (fun y t H locs ht hvm hw2 hB hz1 hk1 hS => ?_)
  obtain ⟨hP1, hK1, hD1⟩ := hB
  rw [ht] at hP1
  have hw2 : y 0 = y0 := hw2
  obtain ⟨hP, hD⟩ := va_join (wr := tW cI z a bb N0 E0 (fun _ => 0)) (w1 := dW cZ y 0 (fun _ _ => false) (fun _ => false) (fun _ => false)) hP hD [12] [0, 1, 2, 3, 4, 5, 6, 7, 8, 9, 10, 11] rfl rfl (by decide) (by decide) hk1 hFc hP1 hD1
  rw [← hw2]
  refine lv_astore_n (lv' := [(2, .ref (y 0)), (1, .ref (z 0)), (0, .ref b)]) hx hb d_L_law_15 rfl hl (by decide) rfl (fun ls hl => ?_)
  refine lv_iconst (v := 1) hx hb d_L_law_16 (by decide) ?_
  refine va_newa (atype := .long) (N' := 1) (a0 := (1, .inr (.inl (fun _ => 0)))) hx hb (hts _ kac_long) rfl hK hP hD hS hA (fun _ => rfl) (by decide) (by decide) (Nat.le_of_ble_eq_true rfl) (Nat.le_of_ble_eq_true rfl) (Nat.le_of_ble_eq_true rfl) d_L_law_17 (fun o0 cA H hK9 hP hD hS => ?_)
  have ec := va_K_sameJ hK9
  rw [ec] at hP hD
  refine lv_astore_n (lv' := [(3, .ref o0), (2, .ref (y 0)), (1, .ref (z 0)), (0, .ref b)]) hx hb d_L_law_19 rfl hl (by decide) rfl (fun ls hl => ?_)
  refine lv_iconst (v := 0) hx hb d_L_law_20 (by decide) ?_
  refine lv_istore (lv' := [(4, .int 0), (3, .ref o0), (2, .ref (y 0)), (1, .ref (z 0)), (0, .ref b)]) hx hb d_L_law_21 hl (by decide) rfl (fun ls hl => ?_)
  have hP := hP.sub (ws' := kW cI cJ cZ z a bb y N0 E0 (fun _ => 0) o0 (fun _ => 0) 0 (fun _ _ => false) (fun _ => false) (fun _ => false)) [0, 1, 2, 3, 4, 5, 6, 7, 8, 9, 10, 11, 16, 12, 13, 14, 15] rfl
  have hD := hD.sub (ws' := kW cI cJ cZ z a bb y N0 E0 (fun _ => 0) o0 (fun _ => 0) 0 (fun _ _ => false) (fun _ => false) (fun _ => false)) [0, 1, 2, 3, 4, 5, 6, 7, 8, 9, 10, 11, 16, 12, 13, 14, 15] (by decide) rfl
  refine W.widen (k := CC 0 N0) (n := SS 0 N0) (by unfold CC mcW; rw [rm_0]; decide) (by unfold SS msW; rw [rm_0]; decide) ?_
  exact law_loop hI hlt hL C0 hNc hZ hK (L + 1) 0 (by omega) (by omega) z a bb y N0 E0 (fun _ => 0) o0 (fun _ => 0) 0 (fun _ _ => false) (fun _ => false) (fun _ => false) H _ hI.1 hP hD hS ls (lv_sub hl [0, 4, 3, 2, 1] rfl)
