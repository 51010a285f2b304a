/-! count, where the function hangs on an odd variable -/
theorem P_keep {D : va_G} {cl : List vw_C} {ws : va_W} {H H1 : Heap} (h : va_P D cl ws H) (hq : ∀ q : Nat, q < H.size → H1[q]? = H[q]?) : va_P D cl ws H1 := h.kept (fun k q hk => hq _ (vx_lt h hk))
set_option maxHeartbeats 8000000 in
set_option maxRecDepth 100000 in
theorem u_S_count (l : Launch) (dC : Nat → ClassId) (dI : Nat → Nat → Nat) (cI : ClassId) (z a b : Nat → Nat) (N E : Mm) (V : Nat → Int32) (hlt : l.stackTraces = false) (sz : Nat) (x1 : Int32) (k1 : okb x1 32) {E' : Mm} {r : Int32} (hres : j_hang 12 N (j_forget E) (V x1.toNatClampNeg) = (E', r)) (hev : ¬ r &&& (-1366) = 0) : vx_Met l y_S_count (.code y_S_count b_S_count 5 (some .int) :: W0) ({ frames := 45, cells := 1, slots := 6, locals := 2600 } : Room) (va_Pc [.ref (z 0), .int x1] (fun U => tM dC dI cI z a b N E V sz U ∧ xZ (va_A (tW cI z a b N E V) sz) U U.heap)) (va_Qv (fun _ : Unit => False) (fun _ _ => True) (fun _ => False)) (vx_X (fun _ : Unit => True) (fun X _ t => X = xUO ∧ tE dC dI cI z a b N E' V (va_A (tW cI z a b N E V) sz) t) (va_A (tW cI z a b N E V) sz)) 1 6 (va_A (tW cI z a b N E V) sz) := by
  refine vx_ofW (cc := b_S_count) (maxL := 5) (ret := (some .int)) (by decide) rfl ?_
  intro p e s m args below meth c s₁ B hml htab hv
  obtain ⟨rfl, ⟨hsz, hP, hK, hD0⟩, hZ⟩ := hv
  have hx := B.exec
  have hb := B.bytes
  have hr := B.returns
  have hts1 := atoms_spec (ws := .code y_S_count b_S_count 5 (some .int) :: W0) B.pre
  have hts : ∀ w ∈ W0, w.before _ s = true := fun w h => hts1 w (List.mem_cons_of_mem _ h)
  have hown : s.vm.findClass R_S = some m.cls := findClass_of_methodNamed B.named
  have hlocks := B.notSynchronized
  subst hsz
  have hD := hD0.self (sz := s.heap.size)
  have hZ : xZ (va_A (tW cI z a b N E V) s.heap.size) s s.heap := hZ
  generalize hAe : va_A (tW cI z a b N E V) s.heap.size = A at hD hZ ⊢
  have hA : ∀ q : Nat, s.heap.size ≤ q → A q := fun q h => by rw [← hAe]; exact Or.inr h
  have hS : va_S A s.heap s.heap [] := va_S.rf
  have hP : va_P (dC, dI) cls0 (tW cI z a b N E V) s.heap := hP
  have hl := lv_entry ([.ref (z 0), .int x1]) (n := 5) (Nat.le_of_ble_eq_true rfl)
  rw [lg_entry_eq]
  generalize (lg_sl ([.ref (z 0), .int x1]) ++ List.replicate (5 - (lg_sl ([.ref (z 0), .int x1])).length) Slot.unset).toArray = ls at hl ⊢
  have hl : lv_has ls 5 [(0, .ref (z 0)), (1, .int x1)] := hl
  refine lv_iload_n hx hb d_S_count_0 rfl (lv_at hl 1 rfl) ?_
  refine nCallN (As := [.int x1]) (rest := []) ⟨hx, hb, hml, hown, hts⟩ (c_S_requireSlot l x1 k1) (va_cwS 1 hts (gS kml_S_42 kst_S_requireSlot kin_S kcd_S_requireSlot) rfl rfl rfl (by decide +kernel) ⟨by show 1 + 1 ≤ 45; omega, by show 8 + (1 + 11) + 21 ≤ 2600; omega⟩) rfl hl.1 rfl (Nat.le_of_ble_eq_true rfl) d_S_count_1 ⟨Nat.zero_le _, Nat.zero_le _⟩ ?_
  refine lv_aload_n hx hb d_S_count_4 rfl (lv_at hl 0 rfl) ?_
  refine va_get (D := (dC, dI)) (ci := 0) (v := .ref (z 2)) (C := R_S) (T := T_S) (N := 4) hx hb hts in_S hown hK hP 0 rfl rfl 2 (by decide) (hts _ kfl_S_31) (fun _ h9 => h9) rfl d_S_count_5 ?_
  refine lv_aload_n hx hb d_S_count_8 rfl (lv_at hl 0 rfl) ?_
  refine va_get (D := (dC, dI)) (ci := 0) (v := .ref (z 1)) (C := R_S) (T := T_S) (N := 4) hx hb hts in_S hown hK hP 0 rfl rfl 0 (by decide) (hts _ kfl_S_9) (fun _ h9 => h9) rfl d_S_count_9 ?_
  refine lv_iload_n hx hb d_S_count_12 rfl (lv_at hl 1 rfl) ?_
  refine va_iald hx hb hK hP 1 0 rfl rfl (okb_in (n := 32) k1 (by decide)) d_S_count_13 ?_
  refine tGi (As := [.int (V x1.toNatClampNeg)]) (rest := []) ⟨hx, hb, hml, hown, hts⟩ (c_A_hangsOn l dC dI cI (z 2) a b N E _ (V x1.toNatClampNeg) hres) (cwV 1 hts (gV kml_S_74 kim_A_hangsOn ksl_A_hangsOn kin_A kcd_A_hangsOn) rfl rfl rfl (by decide +kernel) ⟨by show 40 + 1 ≤ 45; omega, by show 8 + (2 + 11) + 2500 ≤ 2600; omega⟩) hP hK hD hS hA rfl hl.1 rfl (Nat.le_of_ble_eq_true rfl) d_S_count_14 ⟨Nat.zero_le _, Nat.zero_le _⟩ (fun H locs hP hD hS => ?_)
  refine lv_sipush (v := -1366) hx hb d_S_count_17 (by decide) ?_
  refine lv_iand hx hb d_S_count_20 ?_
  refine lv_if_eq (tgt := 34) hx hb d_S_count_21 (by decide) (fun c21 => ?_) (fun c21 => ?_)
  · exact absurd c21 hev
  · obtain ⟨hU, hN, hB9, -, ⟨sb, hsb⟩⟩ := hZ
    exact vx_throwS (own := R_S) (cls := xUO) (names := ["java/lang/RuntimeException", "java/lang/Exception"]) (ik := 77) (is := 79) (ic := 81) (sa := sb) hx hb hlt hown (by decide +kernel) (by decide +kernel) (hts _ kcl_S_77) (hts _ kin_UO) hsb (vx_hat (fun w hw => hts w (kat_UO w hw)) kbt_UO hB9.use) got_UO hU hN hS (hl.1.trans hml.symm) d_S_count_24 d_S_count_27 d_S_count_28 d_S_count_30 d_S_count_33 (fun x hx => (htab x hx).elim) (by show 2 + 3 < 45; omega) (Nat.le_of_ble_eq_true rfl) (Nat.le_of_ble_eq_true rfl) (Nat.le_of_ble_eq_true rfl) B.notSynchronized (fun t hal hz hk => ⟨(), trivial, ⟨rfl, P_keep hP hk, va_K.moved hal hK, hD⟩, Nat.le_trans hS.1 hz, fun q hq hn => by rw [hk q (Nat.lt_of_lt_of_le hq hS.1)]; exact hS.2.1 q hq hn⟩) hS.2.2 (Nat.le_refl _) (Nat.le_refl _)
