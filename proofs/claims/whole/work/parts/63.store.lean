/-! THE STORE's methods where they answer -/
def j_put (N : Mm) (V : Nat → Int32) (x1 x2 : Int32) : Mm := j_refer (j_refer N x2 1) (V x1.toNatClampNeg) (-1)
def j_countL (N : Mm) (node : Int32) : Nat → Int32 → Int32 → Int32
  | 0, f, _ => f
  | n + 1, f, way => j_countL N node n (if j_truthFor N node way = 0 then f else f + 1) ((way - 1365) &&& 1365)
def j_notFalse (V : Nat → Int32) : Nat → Nat → Int32 → Int32
  | 0, _, f => f
  | n + 1, j, f => j_notFalse V n (j + 1) (if V j = 0 then f else f + 1)
def j_tidy (N : Mm) (x : Int32) : Mm := if x = 1 then j_seek (j_collect N 0 5 + 8000) 12 (j_collect N) 0 else if x = 2 then j_trO 11 (j_collect N) else j_collect N

set_option maxHeartbeats 8000000 in
set_option maxRecDepth 100000 in
theorem c_S_put (l : Launch) (dC : Nat → ClassId) (dI : Nat → Nat → Nat) (cI : ClassId) (z a b : Nat → Nat) (N E : Mm) (V : Nat → Int32) (sz : Nat) (x1 x2 : Int32) (k1 : okb x1 32) : Met l y_S_put (.code y_S_put b_S_put 4 (some .boolean) :: W0) ({ frames := 2, cells := 0, slots := 0, locals := 50 } : Room) (va_Pc [.ref (z 0), .int x1, .int x2] (tM dC dI cI z a b N E V sz)) (va_Qi (fun (x : Int32) (_ : Unit) => x = (if x2 = V x1.toNatClampNeg then 0 else 1)) (fun _ t => tE dC dI cI z a b (j_put N V x1 x2) E (upd V x1.toNatClampNeg x2) (va_A (tW cI z a b N E V) sz) t) (va_A (tW cI z a b N E V) sz)) 0 0 (va_A (tW cI z a b N E V) sz) := by
  refine Met.ofW (cc := b_S_put) (maxL := 4) (ret := (some .boolean)) (by decide) rfl ?_
  intro p e s m args below meth c s₁ B hml hv
  obtain ⟨rfl, hsz, hP, hK, hD0⟩ := hv
  have hx := B.exec
  have hb := B.bytes
  have hr := B.returns
  have hts1 := atoms_spec (ws := .code y_S_put b_S_put 4 (some .boolean) :: W0) B.pre
  have hts : ∀ w ∈ W0, w.before _ s = true := fun w h => hts1 w (List.mem_cons_of_mem _ h)
  have hown : s.vm.findClass R_S = some m.cls := findClass_of_methodNamed B.named
  have hlocks := B.notSynchronized
  subst hsz
  have hD := hD0.self (sz := s.heap.size)
  generalize hAe : va_A (tW cI z a b N E V) s.heap.size = A at hD ⊢
  have hA : ∀ q : Nat, s.heap.size ≤ q → A q := fun q h => by rw [← hAe]; exact Or.inr h
  have hS : va_S A s.heap s.heap [] := va_S.rf
  have hP : va_P (dC, dI) cls0 (tW cI z a b N E V) s.heap := hP
  have hl := lv_entry ([.ref (z 0), .int x1, .int x2]) (n := 4) (Nat.le_of_ble_eq_true rfl)
  rw [lg_entry_eq]
  generalize (lg_sl ([.ref (z 0), .int x1, .int x2]) ++ List.replicate (4 - (lg_sl ([.ref (z 0), .int x1, .int x2])).length) Slot.unset).toArray = ls at hl ⊢
  have hl : lv_has ls 4 [(0, .ref (z 0)), (1, .int x1), (2, .int x2)] := hl
  refine lv_aload_n hx hb d_S_put_0 rfl (lv_at hl 0 rfl) ?_
  refine va_get (D := (dC, dI)) (ci := 0) (v := .ref (z 1)) (C := R_S) (T := T_S) (N := 4) hx hb hts in_S hown hK hP 0 rfl rfl 0 (by decide) (hts _ kfl_S_9) (fun _ h9 => h9) rfl d_S_put_1 ?_
  refine lv_iload_n hx hb d_S_put_4 rfl (lv_at hl 1 rfl) ?_
  refine va_iald hx hb hK hP 1 0 rfl rfl (okb_in (n := 32) k1 (by decide)) d_S_put_5 ?_
  refine lv_istore_n (lv' := [(3, .int (V x1.toNatClampNeg)), (0, .ref (z 0)), (1, .int x1), (2, .int x2)]) hx hb d_S_put_6 rfl hl (by decide) rfl (fun ls hl => ?_)
  refine lv_aload_n hx hb d_S_put_7 rfl (lv_at hl 1 rfl) ?_
  refine va_get (D := (dC, dI)) (ci := 0) (v := .ref (a 0)) (C := R_S) (T := T_S) (N := 4) hx hb hts in_S hown hK hP 0 rfl rfl 1 (by decide) (hts _ kfl_S_22) (fun _ h9 => h9) rfl d_S_put_8 ?_
  refine lv_iload_n hx hb d_S_put_11 rfl (lv_at hl 3 rfl) ?_
  refine lv_iconst (v := 1) hx hb d_S_put_12 (by decide) ?_
  refine tNv (As := [.int x2, .int 1]) (rest := []) ⟨hx, hb, hml, hown, hts⟩ (c_N_refer l dC dI cI a N _ x2 1) (cwV 2 hts (gV kml_S_100 kim_N_refer ksl_N_refer kin_N kcd_N_refer) rfl rfl rfl (by decide +kernel) ⟨by show 1 + 1 ≤ 2; omega, by show 8 + (3 + 11) + 24 ≤ 50; omega⟩) hP hK hD hS hA rfl hl.1 rfl (Nat.le_of_ble_eq_true rfl) d_S_put_13 ⟨Nat.zero_le _, Nat.zero_le _⟩ (fun H locs hP hD hS => ?_)
  refine lv_aload_n hx hb d_S_put_16 rfl (lv_at hl 1 rfl) ?_
  refine va_get (D := (dC, dI)) (ci := 0) (v := .ref (a 0)) (C := R_S) (T := T_S) (N := 4) hx hb hts in_S hown hK hP 0 rfl rfl 1 (by decide) (hts _ kfl_S_22) (fun _ h9 => h9) rfl d_S_put_17 ?_
  refine lv_iload_n hx hb d_S_put_20 rfl (lv_at hl 0 rfl) ?_
  refine lv_iconst (v := -1) hx hb d_S_put_21 (by decide) ?_
  refine tNv (As := [.int (V x1.toNatClampNeg), .int (-1)]) (rest := []) ⟨hx, hb, hml, hown, hts⟩ (c_N_refer l dC dI cI a (j_refer N x2 1) _ (V x1.toNatClampNeg) (-1)) (cwV 2 hts (gV kml_S_100 kim_N_refer ksl_N_refer kin_N kcd_N_refer) rfl rfl rfl (by decide +kernel) ⟨by show 1 + 1 ≤ 2; omega, by show 8 + (3 + 11) + 24 ≤ 50; omega⟩) hP hK hD hS hA rfl hl.1 rfl (Nat.le_of_ble_eq_true rfl) d_S_put_22 ⟨Nat.zero_le _, Nat.zero_le _⟩ (fun H locs hP hD hS => ?_)
  refine lv_aload_n hx hb d_S_put_25 rfl (lv_at hl 1 rfl) ?_
  refine va_get (D := (dC, dI)) (ci := 0) (v := .ref (z 1)) (C := R_S) (T := T_S) (N := 4) hx hb hts in_S hown hK hP 0 rfl rfl 0 (by decide) (hts _ kfl_S_9) (fun _ h9 => h9) rfl d_S_put_26 ?_
  refine lv_iload_n hx hb d_S_put_29 rfl (lv_at hl 2 rfl) ?_
  refine lv_iload_n hx hb d_S_put_30 rfl (lv_at hl 3 rfl) ?_
  refine va_iast hx hb hK hP hD hS 1 0 rfl rfl (okb_in (n := 32) k1 (by decide)) d_S_put_31 (fun H locs hP hD hS => ?_)
  have hP : va_P (dC, dI) cls0 (tW cI z a b (j_refer (j_refer N x2 1) (V x1.toNatClampNeg) (-1)) E (upd V x1.toNatClampNeg x2)) H := hP
  have hD : va_D A (tW cI z a b (j_refer (j_refer N x2 1) (V x1.toNatClampNeg) (-1)) E (upd V x1.toNatClampNeg x2)) := hD
  refine lv_iload_n hx hb d_S_put_32 rfl (lv_at hl 3 rfl) ?_
  refine lv_iload_n hx hb d_S_put_33 rfl (lv_at hl 0 rfl) ?_
  refine lv_icmp_eq (tgt := 41) hx hb d_S_put_34 (by decide) (fun c34 => ?_) (fun c34 => ?_)
  · refine lv_iconst (v := 0) hx hb d_S_put_41 (by decide) ?_
    have hP9 : va_P (dC, dI) cls0 (tW cI z a b (j_put N V x1 x2) E (upd V x1.toNatClampNeg x2)) H := hP
    have hD9 : va_D A (tW cI z a b (j_put N V x1 x2) E (upd V x1.toNatClampNeg x2)) := hD
    exact W.zret (ty := .boolean) (v := 0) hx hb hr rfl (fun t ht hW => ⟨⟨0, (), rfl, by rw [if_pos c34], by rw [ht]; exact hP9, va_K.moved hW.alike hK, hD9⟩, hS.F ht⟩) hS.2.2 d_S_put_42
  · refine lv_iconst (v := 1) hx hb d_S_put_37 (by decide) ?_
    refine lv_goto (tgt := 42) hx hb d_S_put_38 (by decide) ?_
    have hP9 : va_P (dC, dI) cls0 (tW cI z a b (j_put N V x1 x2) E (upd V x1.toNatClampNeg x2)) H := hP
    have hD9 : va_D A (tW cI z a b (j_put N V x1 x2) E (upd V x1.toNatClampNeg x2)) := hD
    exact W.zret (ty := .boolean) (v := 1) hx hb hr rfl (fun t ht hW => ⟨⟨1, (), rfl, by rw [if_neg c34], by rw [ht]; exact hP9, va_K.moved hW.alike hK, hD9⟩, hS.F ht⟩) hS.2.2 d_S_put_42

set_option maxHeartbeats 8000000 in
set_option maxRecDepth 100000 in
theorem c_S_slotsNotFalse (l : Launch) (dC : Nat → ClassId) (dI : Nat → Nat → Nat) (cI : ClassId) (z a b : Nat → Nat) (N E : Mm) (V : Nat → Int32) : Met l y_S_slotsNotFalse (.code y_S_slotsNotFalse b_S_slotsNotFalse 6 (some .int) :: W0) ({ frames := 1, cells := 0, slots := 0, locals := 30 } : Room) (va_Pc [.ref (z 0)] (tR dC dI cI z a b N E V)) (QcRead (j_notFalse V 32 0 0)) 0 0 (fun _ => False) := by
  refine Met.ofW (cc := b_S_slotsNotFalse) (maxL := 6) (ret := (some .int)) (by decide) rfl ?_
  intro p e s m args below meth c s₁ B hml hv
  obtain ⟨rfl, hP, hK⟩ := hv
  have hx := B.exec
  have hb := B.bytes
  have hr := B.returns
  have hts1 := atoms_spec (ws := .code y_S_slotsNotFalse b_S_slotsNotFalse 6 (some .int) :: W0) B.pre
  have hts : ∀ w ∈ W0, w.before _ s = true := fun w h => hts1 w (List.mem_cons_of_mem _ h)
  have hown : s.vm.findClass R_S = some m.cls := findClass_of_methodNamed B.named
  have hlocks := B.notSynchronized
  have hl := lv_entry ([.ref (z 0)]) (n := 6) (Nat.le_of_ble_eq_true rfl)
  rw [lg_entry_eq]
  generalize (lg_sl ([.ref (z 0)]) ++ List.replicate (6 - (lg_sl ([.ref (z 0)])).length) Slot.unset).toArray = ls at hl ⊢
  have hl : lv_has ls 6 [(0, .ref (z 0))] := hl
  have loop : ∀ (n j : Nat) (f : Int32), j + n = 32 → j_notFalse V 32 0 0 = j_notFalse V n j f → ∀ (ls : Array Slot), lv_has ls 6 [(4, .int (nI j)), (1, .int f), (2, .ref (z 1)), (3, .int (nI 32)), (0, .ref (z 0))] → W p l e (headSpec (.code y_S_slotsNotFalse b_S_slotsNotFalse 6 (some .int) :: W0) ({ frames := 1, cells := 0, slots := 0, locals := 30 } : Room)).room s m ([.ref (z 0)] : List Value).toArray below meth c s.heap [] 0 0 (MQ below (QcRead (j_notFalse V 32 0 0)) ([.ref (z 0)] : List Value).toArray s 0 0 (fun _ => False)) (F0 m 13 ls []) := by
    intro n
    induction n with
    | zero =>
      intro j f hj hr0 ls hl
      refine lv_iload hx hb d_S_slotsNotFalse_13 (lv_at hl 0 rfl) ?_
      refine lv_iload_n hx hb d_S_slotsNotFalse_15 rfl (lv_at hl 3 rfl) ?_
      refine lv_icmp_ge (tgt := 39) hx hb d_S_slotsNotFalse_16 (by decide) (fun c16 => ?_) (fun c16 => ?_)
      · refine lv_iload_n hx hb d_S_slotsNotFalse_39 rfl (lv_at hl 1 rfl) ?_
        exact W.iret (v := f) hx hb hr (fun t ht hW => ⟨by rw [show j_notFalse V 32 0 0 = f from by rw [hr0]; rfl], ht⟩) (fun q h => by cases h) d_S_slotsNotFalse_40
      · exact absurd (nI_le (by omega) (by omega)) c16
    | succ n ih =>
      intro j f hj hr0 ls hl
      refine lv_iload hx hb d_S_slotsNotFalse_13 (lv_at hl 0 rfl) ?_
      refine lv_iload_n hx hb d_S_slotsNotFalse_15 rfl (lv_at hl 3 rfl) ?_
      refine lv_icmp_ge (tgt := 39) hx hb d_S_slotsNotFalse_16 (by decide) (fun c16 => ?_) (fun c16 => ?_)
      · exact absurd c16 (nI_ge (by omega) (by omega))
      · refine lv_aload_n hx hb d_S_slotsNotFalse_19 rfl (lv_at hl 2 rfl) ?_
        refine lv_iload hx hb d_S_slotsNotFalse_20 (lv_at hl 0 rfl) ?_
        refine va_iald hx hb hK hP 1 0 rfl rfl (vp_in_nI (by omega) (by decide)) d_S_slotsNotFalse_22 ?_
        refine lv_istore (lv' := [(5, .int (V (nI j).toNatClampNeg)), (4, .int (nI j)), (1, .int f), (2, .ref (z 1)), (3, .int (nI 32)), (0, .ref (z 0))]) hx hb d_S_slotsNotFalse_23 hl (by decide) rfl (fun ls hl => ?_)
        refine lv_iload hx hb d_S_slotsNotFalse_25 (lv_at hl 0 rfl) ?_
        refine lv_if_eq (tgt := 33) hx hb d_S_slotsNotFalse_27 (by decide) (fun c27 => ?_) (fun c27 => ?_)
        · refine lv_iinc (v := ((nI j) + 1)) (lv' := [(4, .int ((nI j) + 1)), (5, .int (V (nI j).toNatClampNeg)), (1, .int f), (2, .ref (z 1)), (3, .int (nI 32)), (0, .ref (z 0))]) hx hb d_S_slotsNotFalse_33 hl (k := 1) rfl rfl (by decide) rfl (fun ls hl => ?_)
          refine lv_goto (tgt := 13) hx hb d_S_slotsNotFalse_36 (by decide) ?_
          rw [nI_1] at hl
          exact ih (j + 1) _ (by omega) (by rw [hr0, j_notFalse, if_pos (show _ from by rw [nI_clamp (by omega)] at c27; exact c27)]) ls (lv_sub hl [0, 2, 3, 4, 5] rfl)
        · refine lv_iinc (v := (f + 1)) (lv' := [(1, .int (f + 1)), (5, .int (V (nI j).toNatClampNeg)), (4, .int (nI j)), (2, .ref (z 1)), (3, .int (nI 32)), (0, .ref (z 0))]) hx hb d_S_slotsNotFalse_30 hl (k := 2) rfl rfl (by decide) rfl (fun ls hl => ?_)
          refine lv_iinc (v := ((nI j) + 1)) (lv' := [(4, .int ((nI j) + 1)), (1, .int (f + 1)), (5, .int (V (nI j).toNatClampNeg)), (2, .ref (z 1)), (3, .int (nI 32)), (0, .ref (z 0))]) hx hb d_S_slotsNotFalse_33 hl (k := 2) rfl rfl (by decide) rfl (fun ls hl => ?_)
          refine lv_goto (tgt := 13) hx hb d_S_slotsNotFalse_36 (by decide) ?_
          rw [nI_1] at hl
          exact ih (j + 1) _ (by omega) (by rw [hr0, j_notFalse, if_neg (show _ from by rw [nI_clamp (by omega)] at c27; exact c27)]) ls (lv_sub hl [0, 1, 3, 4, 5] rfl)
  refine lv_iconst (v := 0) hx hb d_S_slotsNotFalse_0 (by decide) ?_
  refine lv_istore_n (lv' := [(1, .int 0), (0, .ref (z 0))]) hx hb d_S_slotsNotFalse_1 rfl hl (by decide) rfl (fun ls hl => ?_)
  refine lv_aload_n hx hb d_S_slotsNotFalse_2 rfl (lv_at hl 1 rfl) ?_
  refine va_get (D := (dC, dI)) (ci := 0) (v := .ref (z 1)) (C := R_S) (T := T_S) (N := 4) hx hb hts in_S hown hK hP 0 rfl rfl 0 (by decide) (hts _ kfl_S_9) (fun _ h9 => h9) rfl d_S_slotsNotFalse_3 ?_
  refine lv_astore_n (lv' := [(2, .ref (z 1)), (1, .int 0), (0, .ref (z 0))]) hx hb d_S_slotsNotFalse_6 rfl hl (by decide) rfl (fun ls hl => ?_)
  refine lv_aload_n hx hb d_S_slotsNotFalse_7 rfl (lv_at hl 0 rfl) ?_
  refine va_alen (v := nI 32) hx hb hK hP 1 0 rfl rfl rfl d_S_slotsNotFalse_8 ?_
  refine lv_istore_n (lv' := [(3, .int (nI 32)), (2, .ref (z 1)), (1, .int 0), (0, .ref (z 0))]) hx hb d_S_slotsNotFalse_9 rfl hl (by decide) rfl (fun ls hl => ?_)
  refine lv_iconst (v := 0) hx hb d_S_slotsNotFalse_10 (by decide) ?_
  refine lv_istore (lv' := [(4, .int 0), (3, .int (nI 32)), (2, .ref (z 1)), (1, .int 0), (0, .ref (z 0))]) hx hb d_S_slotsNotFalse_11 hl (by decide) rfl (fun ls hl => ?_)
  exact loop 32 0 0 rfl rfl ls (lv_sub hl [0, 3, 2, 1, 4] rfl)

set_option maxHeartbeats 8000000 in
set_option maxRecDepth 100000 in
theorem c_S_constant (l : Launch) (dC : Nat → ClassId) (dI : Nat → Nat → Nat) (cI : ClassId) (z a b : Nat → Nat) (N E : Mm) (V : Nat → Int32) (sz : Nat) (x1 x2 : Int32) (k1 : okb x1 32) : Met l y_S_constant (.code y_S_constant b_S_constant 3 none :: W0) ({ frames := 45, cells := 0, slots := 0, locals := 2600 } : Room) (va_Pc [.ref (z 0), .int x1, .int x2] (tM dC dI cI z a b N E V sz)) (va_Qv (fun _ : Unit => True) (fun _ t => tE dC dI cI z a b (j_put N V x1 (if x2 = 0 then 0 else 1)) E (upd V x1.toNatClampNeg (if x2 = 0 then 0 else 1)) (va_A (tW cI z a b N E V) sz) t) (va_A (tW cI z a b N E V) sz)) 0 0 (va_A (tW cI z a b N E V) sz) := by
  refine Met.ofW (cc := b_S_constant) (maxL := 3) (ret := none) (by decide) rfl ?_
  intro p e s m args below meth c s₁ B hml hv
  obtain ⟨rfl, hsz, hP, hK, hD0⟩ := hv
  have hx := B.exec
  have hb := B.bytes
  have hr := B.returns
  have hts1 := atoms_spec (ws := .code y_S_constant b_S_constant 3 none :: W0) B.pre
  have hts : ∀ w ∈ W0, w.before _ s = true := fun w h => hts1 w (List.mem_cons_of_mem _ h)
  have hown : s.vm.findClass R_S = some m.cls := findClass_of_methodNamed B.named
  have hlocks := B.notSynchronized
  subst hsz
  have hD := hD0.self (sz := s.heap.size)
  generalize hAe : va_A (tW cI z a b N E V) s.heap.size = A at hD ⊢
  have hA : ∀ q : Nat, s.heap.size ≤ q → A q := fun q h => by rw [← hAe]; exact Or.inr h
  have hS : va_S A s.heap s.heap [] := va_S.rf
  have hP : va_P (dC, dI) cls0 (tW cI z a b N E V) s.heap := hP
  have hl := lv_entry ([.ref (z 0), .int x1, .int x2]) (n := 3) (Nat.le_of_ble_eq_true rfl)
  rw [lg_entry_eq]
  generalize (lg_sl ([.ref (z 0), .int x1, .int x2]) ++ List.replicate (3 - (lg_sl ([.ref (z 0), .int x1, .int x2])).length) Slot.unset).toArray = ls at hl ⊢
  have hl : lv_has ls 3 [(0, .ref (z 0)), (1, .int x1), (2, .int x2)] := hl
  refine lv_iload_n hx hb d_S_constant_0 rfl (lv_at hl 1 rfl) ?_
  refine nCallN (As := [.int x1]) (rest := []) ⟨hx, hb, hml, hown, hts⟩ (c_S_requireSlot l x1 k1) (va_cwS 1 hts (gS kml_S_42 kst_S_requireSlot kin_S kcd_S_requireSlot) rfl rfl rfl (by decide +kernel) ⟨by show 1 + 1 ≤ 45; omega, by show 8 + (1 + 11) + 21 ≤ 2600; omega⟩) rfl hl.1 rfl (Nat.le_of_ble_eq_true rfl) d_S_constant_1 ⟨Nat.zero_le _, Nat.zero_le _⟩ ?_
  refine lv_aload_n hx hb d_S_constant_4 rfl (lv_at hl 0 rfl) ?_
  refine lv_iload_n hx hb d_S_constant_5 rfl (lv_at hl 1 rfl) ?_
  refine lv_iload_n hx hb d_S_constant_6 rfl (lv_at hl 2 rfl) ?_
  refine lv_if_eq (tgt := 14) hx hb d_S_constant_7 (by decide) (fun c7 => ?_) (fun c7 => ?_)
  · refine lv_iconst (v := 0) hx hb d_S_constant_14 (by decide) ?_
    refine tSi (As := [.int x1, .int 0]) (rest := []) ⟨hx, hb, hml, hown, hts⟩ (c_S_put l dC dI cI z a b N E V _ x1 0 k1) (cwV 2 hts (gV kml_S_46 kim_S_put ksl_S_put kin_S kcd_S_put) rfl rfl rfl (by decide +kernel) ⟨by show 2 + 1 ≤ 45; omega, by show 8 + (4 + 11) + 50 ≤ 2600; omega⟩) hP hK hD hS hA rfl hl.1 rfl (Nat.le_of_ble_eq_true rfl) d_S_constant_15 ⟨Nat.zero_le _, Nat.zero_le _⟩ (fun H locs hP hD hS => ?_)
    refine lv_pop hx hb d_S_constant_18 rfl ?_
    have eb : (if x2 = 0 then 0 else 1 : Int32) = 0 := if_pos c7
    have hP9 : va_P (dC, dI) cls0 (tW cI z a b (j_put N V x1 (if x2 = 0 then 0 else 1)) E (upd V x1.toNatClampNeg (if x2 = 0 then 0 else 1))) H := by rw [eb]; exact hP
    have hD9 : va_D A (tW cI z a b (j_put N V x1 (if x2 = 0 then 0 else 1)) E (upd V x1.toNatClampNeg (if x2 = 0 then 0 else 1))) := by rw [eb]; exact hD
    exact W.vret hx hb hr (fun t ht hW => ⟨⟨(), rfl, trivial, by rw [ht]; exact hP9, va_K.moved hW.alike hK, hD9⟩, hS.F ht⟩) hS.2.2 d_S_constant_19
  · refine lv_iconst (v := 1) hx hb d_S_constant_10 (by decide) ?_
    refine lv_goto (tgt := 15) hx hb d_S_constant_11 (by decide) ?_
    refine tSi (As := [.int x1, .int 1]) (rest := []) ⟨hx, hb, hml, hown, hts⟩ (c_S_put l dC dI cI z a b N E V _ x1 1 k1) (cwV 2 hts (gV kml_S_46 kim_S_put ksl_S_put kin_S kcd_S_put) rfl rfl rfl (by decide +kernel) ⟨by show 2 + 1 ≤ 45; omega, by show 8 + (4 + 11) + 50 ≤ 2600; omega⟩) hP hK hD hS hA rfl hl.1 rfl (Nat.le_of_ble_eq_true rfl) d_S_constant_15 ⟨Nat.zero_le _, Nat.zero_le _⟩ (fun H locs hP hD hS => ?_)
    refine lv_pop hx hb d_S_constant_18 rfl ?_
    have eb : (if x2 = 0 then 0 else 1 : Int32) = 1 := if_neg c7
    have hP9 : va_P (dC, dI) cls0 (tW cI z a b (j_put N V x1 (if x2 = 0 then 0 else 1)) E (upd V x1.toNatClampNeg (if x2 = 0 then 0 else 1))) H := by rw [eb]; exact hP
    have hD9 : va_D A (tW cI z a b (j_put N V x1 (if x2 = 0 then 0 else 1)) E (upd V x1.toNatClampNeg (if x2 = 0 then 0 else 1))) := by rw [eb]; exact hD
    exact W.vret hx hb hr (fun t ht hW => ⟨⟨(), rfl, trivial, by rw [ht]; exact hP9, va_K.moved hW.alike hK, hD9⟩, hS.F ht⟩) hS.2.2 d_S_constant_19

set_option maxHeartbeats 8000000 in
set_option maxRecDepth 100000 in
theorem c_S_variable (l : Launch) (dC : Nat → ClassId) (dI : Nat → Nat → Nat) (cI : ClassId) (z a b : Nat → Nat) (N E : Mm) (V : Nat → Int32) (sz : Nat) (x1 x2 : Int32) (k1 : okb x1 32) (k2 : okb x2 12) (R0 : Nat) (hR : N 0 0 = nI R0) (h1 : 1024 ≤ R0) (h2 : R0 ≤ 24800) (hv : ∀ k, k < 13 → ∃ w, w < 13 ∧ N 5 k = nI w) {N' : Mm} {r : Int32} (hres : j_make (j_makeRoom N 1) x2 0 1 = (N', r)) : Met l y_S_variable (.code y_S_variable b_S_variable 3 none :: W0) ({ frames := 45, cells := (mcW N (j_makeRoom N 1)), slots := (msW N (j_makeRoom N 1)), locals := 2600 } : Room) (va_Pc [.ref (z 0), .int x1, .int x2] (tM dC dI cI z a b N E V sz)) (va_Qv (fun u : Nat → Nat => u 0 = a 0) (fun u t => tE dC dI cI z u b (j_put N' V x1 r) (j_forget E) (upd V x1.toNatClampNeg r) (va_A (tW cI z a b N E V) sz) t) (va_A (tW cI z a b N E V) sz)) (mcW N (j_makeRoom N 1)) (msW N (j_makeRoom N 1)) (va_A (tW cI z a b N E V) sz) := by
  refine Met.ofW (cc := b_S_variable) (maxL := 3) (ret := none) (by decide) rfl ?_
  intro p e s m args below meth c s₁ B hml hv
  obtain ⟨rfl, hsz, hP, hK, hD0⟩ := hv
  have hx := B.exec
  have hb := B.bytes
  have hr := B.returns
  have hts1 := atoms_spec (ws := .code y_S_variable b_S_variable 3 none :: W0) B.pre
  have hts : ∀ w ∈ W0, w.before _ s = true := fun w h => hts1 w (List.mem_cons_of_mem _ h)
  have hown : s.vm.findClass R_S = some m.cls := findClass_of_methodNamed B.named
  have hlocks := B.notSynchronized
  subst hsz
  have hD := hD0.self (sz := s.heap.size)
  generalize hAe : va_A (tW cI z a b N E V) s.heap.size = A at hD ⊢
  have hA : ∀ q : Nat, s.heap.size ≤ q → A q := fun q h => by rw [← hAe]; exact Or.inr h
  have hS : va_S A s.heap s.heap [] := va_S.rf
  have hP : va_P (dC, dI) cls0 (tW cI z a b N E V) s.heap := hP
  have hl := lv_entry ([.ref (z 0), .int x1, .int x2]) (n := 3) (Nat.le_of_ble_eq_true rfl)
  rw [lg_entry_eq]
  generalize (lg_sl ([.ref (z 0), .int x1, .int x2]) ++ List.replicate (3 - (lg_sl ([.ref (z 0), .int x1, .int x2])).length) Slot.unset).toArray = ls at hl ⊢
  have hl : lv_has ls 3 [(0, .ref (z 0)), (1, .int x1), (2, .int x2)] := hl
  refine lv_iload_n hx hb d_S_variable_0 rfl (lv_at hl 1 rfl) ?_
  refine nCallN (As := [.int x1]) (rest := []) ⟨hx, hb, hml, hown, hts⟩ (c_S_requireSlot l x1 k1) (va_cwS 1 hts (gS kml_S_42 kst_S_requireSlot kin_S kcd_S_requireSlot) rfl rfl rfl (by decide +kernel) ⟨by show 1 + 1 ≤ 45; omega, by show 8 + (1 + 11) + 21 ≤ 2600; omega⟩) rfl hl.1 rfl (Nat.le_of_ble_eq_true rfl) d_S_variable_1 ⟨Nat.zero_le _, Nat.zero_le _⟩ ?_
  refine lv_iload_n hx hb d_S_variable_4 rfl (lv_at hl 2 rfl) ?_
  refine lv_bipush (v := 12) hx hb d_S_variable_5 (by decide) ?_
  refine nCallN (As := [.int x2, .int 12]) (rest := []) ⟨hx, hb, hml, hown, hts⟩ (c_S_requireBelow l x2 12 k2) (va_cwS 2 hts (gS kml_S_50 kst_S_requireBelow kin_S kcd_S_requireBelow) rfl rfl rfl (by decide +kernel) ⟨by show 0 + 1 ≤ 45; omega, by show 8 + (2 + 11) + 0 ≤ 2600; omega⟩) rfl hl.1 rfl (Nat.le_of_ble_eq_true rfl) d_S_variable_7 ⟨Nat.zero_le _, Nat.zero_le _⟩ ?_
  refine lv_aload_n hx hb d_S_variable_10 rfl (lv_at hl 0 rfl) ?_
  refine lv_iload_n hx hb d_S_variable_11 rfl (lv_at hl 1 rfl) ?_
  refine lv_aload_n hx hb d_S_variable_12 rfl (lv_at hl 0 rfl) ?_
  refine va_get (D := (dC, dI)) (ci := 0) (v := .ref (z 2)) (C := R_S) (T := T_S) (N := 4) hx hb hts in_S hown hK hP 0 rfl rfl 2 (by decide) (hts _ kfl_S_31) (fun _ h9 => h9) rfl d_S_variable_13 ?_
  refine lv_iload_n hx hb d_S_variable_16 rfl (lv_at hl 2 rfl) ?_
  refine tGW (As := [.int x2]) (rest := [.int x1, .ref (z 0)]) ⟨hx, hb, hml, hown, hts⟩ (c_A_truthOf l dC dI cI (z 2) a b N E _ x2 R0 hR h1 h2 hv hres) (cwV 1 hts (gV kml_S_54 kim_A_truthOf ksl_A_truthOf kin_A kcd_A_truthOf) rfl rfl rfl (by decide +kernel) ⟨by show 40 + 1 ≤ 45; omega, by show 8 + (2 + 11) + 2500 ≤ 2600; omega⟩) hP hK hD hS hA rfl hl.1 rfl (Nat.le_of_ble_eq_true rfl) d_S_variable_17 ⟨by show 0 + _ ≤ (mcW N (j_makeRoom N 1)); omega, by show 0 + _ ≤ (msW N (j_makeRoom N 1)); omega⟩ (fun u H locs hu hP hD hS => ?_)
  refine W.widen (k := (mcW N (j_makeRoom N 1))) (n := (msW N (j_makeRoom N 1))) (by omega) (by omega) ?_
  refine tSi (As := [.int x1, .int r]) (rest := []) ⟨hx, hb, hml, hown, hts⟩ (c_S_put l dC dI cI z u b N' (j_forget E) V _ x1 r k1) (cwV 2 hts (gV kml_S_46 kim_S_put ksl_S_put kin_S kcd_S_put) rfl rfl rfl (by decide +kernel) ⟨by show 2 + 1 ≤ 45; omega, by show 8 + (4 + 11) + 50 ≤ 2600; omega⟩) hP hK hD hS hA rfl hl.1 rfl (Nat.le_of_ble_eq_true rfl) d_S_variable_20 ⟨Nat.le_refl _, Nat.le_refl _⟩ (fun H locs hP hD hS => ?_)
  refine lv_pop hx hb d_S_variable_23 rfl ?_
  have hP9 : va_P (dC, dI) cls0 (tW cI z u b (j_put N' V x1 r) (j_forget E) (upd V x1.toNatClampNeg r)) H := hP
  have hD9 : va_D A (tW cI z u b (j_put N' V x1 r) (j_forget E) (upd V x1.toNatClampNeg r)) := hD
  exact W.vret hx hb hr (fun t ht hW => ⟨⟨u, rfl, hu, by rw [ht]; exact hP9, va_K.moved hW.alike hK, hD9⟩, hS.F ht⟩) hS.2.2 d_S_variable_24

set_option maxHeartbeats 8000000 in
set_option maxRecDepth 100000 in
theorem c_S_choose (l : Launch) (dC : Nat → ClassId) (dI : Nat → Nat → Nat) (cI : ClassId) (z a b : Nat → Nat) (N E : Mm) (V : Nat → Int32) (sz : Nat) (x1 x2 x3 x4 : Int32) (k1 : okb x1 32) (k2 : okb x2 32) (k3 : okb x3 32) (k4 : okb x4 32) (R0 : Nat) (hR : N 0 0 = nI R0) (h1 : 1024 ≤ R0) (h2 : R0 ≤ 24800) (hv : ∀ k, k < 13 → ∃ w, w < 13 ∧ N 5 k = nI w) {N' E' : Mm} {r : Int32} (hres : j_pick 12 (j_makeRoom N 765) (j_forget E) (V x2.toNatClampNeg) (V x3.toNatClampNeg) (V x4.toNatClampNeg) = (N', E', r)) : Met l y_S_choose (.code y_S_choose b_S_choose 5 (some .boolean) :: W0) ({ frames := 45, cells := (mcW N (j_makeRoom N 765)), slots := (msW N (j_makeRoom N 765)), locals := 2600 } : Room) (va_Pc [.ref (z 0), .int x1, .int x2, .int x3, .int x4] (tM dC dI cI z a b N E V sz)) (va_Qi (fun (x : Int32) (u : Nat → Nat) => x = (if r = V x1.toNatClampNeg then 0 else 1) ∧ u 0 = a 0) (fun u t => tE dC dI cI z u b (j_put N' V x1 r) E' (upd V x1.toNatClampNeg r) (va_A (tW cI z a b N E V) sz) t) (va_A (tW cI z a b N E V) sz)) (mcW N (j_makeRoom N 765)) (msW N (j_makeRoom N 765)) (va_A (tW cI z a b N E V) sz) := by
  refine Met.ofW (cc := b_S_choose) (maxL := 5) (ret := (some .boolean)) (by decide) rfl ?_
  intro p e s m args below meth c s₁ B hml hv
  obtain ⟨rfl, hsz, hP, hK, hD0⟩ := hv
  have hx := B.exec
  have hb := B.bytes
  have hr := B.returns
  have hts1 := atoms_spec (ws := .code y_S_choose b_S_choose 5 (some .boolean) :: W0) B.pre
  have hts : ∀ w ∈ W0, w.before _ s = true := fun w h => hts1 w (List.mem_cons_of_mem _ h)
  have hown : s.vm.findClass R_S = some m.cls := findClass_of_methodNamed B.named
  have hlocks := B.notSynchronized
  subst hsz
  have hD := hD0.self (sz := s.heap.size)
  generalize hAe : va_A (tW cI z a b N E V) s.heap.size = A at hD ⊢
  have hA : ∀ q : Nat, s.heap.size ≤ q → A q := fun q h => by rw [← hAe]; exact Or.inr h
  have hS : va_S A s.heap s.heap [] := va_S.rf
  have hP : va_P (dC, dI) cls0 (tW cI z a b N E V) s.heap := hP
  have hl := lv_entry ([.ref (z 0), .int x1, .int x2, .int x3, .int x4]) (n := 5) (Nat.le_of_ble_eq_true rfl)
  rw [lg_entry_eq]
  generalize (lg_sl ([.ref (z 0), .int x1, .int x2, .int x3, .int x4]) ++ List.replicate (5 - (lg_sl ([.ref (z 0), .int x1, .int x2, .int x3, .int x4])).length) Slot.unset).toArray = ls at hl ⊢
  have hl : lv_has ls 5 [(0, .ref (z 0)), (1, .int x1), (2, .int x2), (3, .int x3), (4, .int x4)] := hl
  refine lv_iload_n hx hb d_S_choose_0 rfl (lv_at hl 1 rfl) ?_
  refine nCallN (As := [.int x1]) (rest := []) ⟨hx, hb, hml, hown, hts⟩ (c_S_requireSlot l x1 k1) (va_cwS 1 hts (gS kml_S_42 kst_S_requireSlot kin_S kcd_S_requireSlot) rfl rfl rfl (by decide +kernel) ⟨by show 1 + 1 ≤ 45; omega, by show 8 + (1 + 11) + 21 ≤ 2600; omega⟩) rfl hl.1 rfl (Nat.le_of_ble_eq_true rfl) d_S_choose_1 ⟨Nat.zero_le _, Nat.zero_le _⟩ ?_
  refine lv_iload_n hx hb d_S_choose_4 rfl (lv_at hl 2 rfl) ?_
  refine nCallN (As := [.int x2]) (rest := []) ⟨hx, hb, hml, hown, hts⟩ (c_S_requireSlot l x2 k2) (va_cwS 1 hts (gS kml_S_42 kst_S_requireSlot kin_S kcd_S_requireSlot) rfl rfl rfl (by decide +kernel) ⟨by show 1 + 1 ≤ 45; omega, by show 8 + (1 + 11) + 21 ≤ 2600; omega⟩) rfl hl.1 rfl (Nat.le_of_ble_eq_true rfl) d_S_choose_5 ⟨Nat.zero_le _, Nat.zero_le _⟩ ?_
  refine lv_iload_n hx hb d_S_choose_8 rfl (lv_at hl 3 rfl) ?_
  refine nCallN (As := [.int x3]) (rest := []) ⟨hx, hb, hml, hown, hts⟩ (c_S_requireSlot l x3 k3) (va_cwS 1 hts (gS kml_S_42 kst_S_requireSlot kin_S kcd_S_requireSlot) rfl rfl rfl (by decide +kernel) ⟨by show 1 + 1 ≤ 45; omega, by show 8 + (1 + 11) + 21 ≤ 2600; omega⟩) rfl hl.1 rfl (Nat.le_of_ble_eq_true rfl) d_S_choose_9 ⟨Nat.zero_le _, Nat.zero_le _⟩ ?_
  refine lv_iload hx hb d_S_choose_12 (lv_at hl 4 rfl) ?_
  refine nCallN (As := [.int x4]) (rest := []) ⟨hx, hb, hml, hown, hts⟩ (c_S_requireSlot l x4 k4) (va_cwS 1 hts (gS kml_S_42 kst_S_requireSlot kin_S kcd_S_requireSlot) rfl rfl rfl (by decide +kernel) ⟨by show 1 + 1 ≤ 45; omega, by show 8 + (1 + 11) + 21 ≤ 2600; omega⟩) rfl hl.1 rfl (Nat.le_of_ble_eq_true rfl) d_S_choose_14 ⟨Nat.zero_le _, Nat.zero_le _⟩ ?_
  refine lv_aload_n hx hb d_S_choose_17 rfl (lv_at hl 0 rfl) ?_
  refine lv_iload_n hx hb d_S_choose_18 rfl (lv_at hl 1 rfl) ?_
  refine lv_aload_n hx hb d_S_choose_19 rfl (lv_at hl 0 rfl) ?_
  refine va_get (D := (dC, dI)) (ci := 0) (v := .ref (z 2)) (C := R_S) (T := T_S) (N := 4) hx hb hts in_S hown hK hP 0 rfl rfl 2 (by decide) (hts _ kfl_S_31) (fun _ h9 => h9) rfl d_S_choose_20 ?_
  refine lv_aload_n hx hb d_S_choose_23 rfl (lv_at hl 0 rfl) ?_
  refine va_get (D := (dC, dI)) (ci := 0) (v := .ref (z 1)) (C := R_S) (T := T_S) (N := 4) hx hb hts in_S hown hK hP 0 rfl rfl 0 (by decide) (hts _ kfl_S_9) (fun _ h9 => h9) rfl d_S_choose_24 ?_
  refine lv_iload_n hx hb d_S_choose_27 rfl (lv_at hl 2 rfl) ?_
  refine va_iald hx hb hK hP 1 0 rfl rfl (okb_in (n := 32) k2 (by decide)) d_S_choose_28 ?_
  refine lv_aload_n hx hb d_S_choose_29 rfl (lv_at hl 0 rfl) ?_
  refine va_get (D := (dC, dI)) (ci := 0) (v := .ref (z 1)) (C := R_S) (T := T_S) (N := 4) hx hb hts in_S hown hK hP 0 rfl rfl 0 (by decide) (hts _ kfl_S_9) (fun _ h9 => h9) rfl d_S_choose_30 ?_
  refine lv_iload_n hx hb d_S_choose_33 rfl (lv_at hl 3 rfl) ?_
  refine va_iald hx hb hK hP 1 0 rfl rfl (okb_in (n := 32) k3 (by decide)) d_S_choose_34 ?_
  refine lv_aload_n hx hb d_S_choose_35 rfl (lv_at hl 0 rfl) ?_
  refine va_get (D := (dC, dI)) (ci := 0) (v := .ref (z 1)) (C := R_S) (T := T_S) (N := 4) hx hb hts in_S hown hK hP 0 rfl rfl 0 (by decide) (hts _ kfl_S_9) (fun _ h9 => h9) rfl d_S_choose_36 ?_
  refine lv_iload hx hb d_S_choose_39 (lv_at hl 4 rfl) ?_
  refine va_iald hx hb hK hP 1 0 rfl rfl (okb_in (n := 32) k4 (by decide)) d_S_choose_41 ?_
  refine tGW (As := [.int (V x2.toNatClampNeg), .int (V x3.toNatClampNeg), .int (V x4.toNatClampNeg)]) (rest := [.int x1, .ref (z 0)]) ⟨hx, hb, hml, hown, hts⟩ (c_A_chosen l dC dI cI (z 2) a b N E _ (V x2.toNatClampNeg) (V x3.toNatClampNeg) (V x4.toNatClampNeg) R0 hR h1 h2 hv hres) (cwV 3 hts (gV kml_S_58 kim_A_chosen ksl_A_chosen kin_A kcd_A_chosen) rfl rfl rfl (by decide +kernel) ⟨by show 40 + 1 ≤ 45; omega, by show 8 + (4 + 11) + 2500 ≤ 2600; omega⟩) hP hK hD hS hA rfl hl.1 rfl (Nat.le_of_ble_eq_true rfl) d_S_choose_42 ⟨by show 0 + _ ≤ (mcW N (j_makeRoom N 765)); omega, by show 0 + _ ≤ (msW N (j_makeRoom N 765)); omega⟩ (fun u H locs hu hP hD hS => ?_)
  refine W.widen (k := (mcW N (j_makeRoom N 765))) (n := (msW N (j_makeRoom N 765))) (by omega) (by omega) ?_
  refine tSi (As := [.int x1, .int r]) (rest := []) ⟨hx, hb, hml, hown, hts⟩ (c_S_put l dC dI cI z u b N' E' V _ x1 r k1) (cwV 2 hts (gV kml_S_46 kim_S_put ksl_S_put kin_S kcd_S_put) rfl rfl rfl (by decide +kernel) ⟨by show 2 + 1 ≤ 45; omega, by show 8 + (4 + 11) + 50 ≤ 2600; omega⟩) hP hK hD hS hA rfl hl.1 rfl (Nat.le_of_ble_eq_true rfl) d_S_choose_45 ⟨Nat.le_refl _, Nat.le_refl _⟩ (fun H locs hP hD hS => ?_)
  have hP9 : va_P (dC, dI) cls0 (tW cI z u b (j_put N' V x1 r) E' (upd V x1.toNatClampNeg r)) H := hP
  have hD9 : va_D A (tW cI z u b (j_put N' V x1 r) E' (upd V x1.toNatClampNeg r)) := hD
  exact W.zret (ty := .boolean) (v := (if r = V x1.toNatClampNeg then 0 else 1)) hx hb hr (by split <;> rfl) (fun t ht hW => ⟨⟨(if r = V x1.toNatClampNeg then 0 else 1), u, rfl, ⟨rfl, hu⟩, by rw [ht]; exact hP9, va_K.moved hW.alike hK, hD9⟩, hS.F ht⟩) hS.2.2 d_S_choose_48

set_option maxHeartbeats 8000000 in
set_option maxRecDepth 100000 in
theorem c_S_join (l : Launch) (dC : Nat → ClassId) (dI : Nat → Nat → Nat) (cI : ClassId) (z a b : Nat → Nat) (N E : Mm) (V : Nat → Int32) (sz : Nat) (x1 x2 x3 x4 : Int32) (k1 : okb x1 32) (k2 : okb x2 5) (k3 : okb x3 32) (k4 : okb x4 32) (R0 : Nat) (hR : N 0 0 = nI R0) (h1 : 1024 ≤ R0) (h2 : R0 ≤ 24800) (hv : ∀ k, k < 13 → ∃ w, w < 13 ∧ N 5 k = nI w) {N' E' : Mm} {r : Int32} (k : Nat) (hk : k < 5) (hx2 : x2 = nI k) (hres : j_joined k (j_makeRoom N 1530) (j_forget E) (V x3.toNatClampNeg) (V x4.toNatClampNeg) = (N', E', r)) : Met l y_S_join (.code y_S_join b_S_join 5 (some .boolean) :: W0) ({ frames := 45, cells := (mcW N (j_makeRoom N 1530)), slots := (msW N (j_makeRoom N 1530)), locals := 2600 } : Room) (va_Pc [.ref (z 0), .int x1, .int x2, .int x3, .int x4] (tM dC dI cI z a b N E V sz)) (va_Qi (fun (x : Int32) (u : Nat → Nat) => x = (if r = V x1.toNatClampNeg then 0 else 1) ∧ u 0 = a 0) (fun u t => tE dC dI cI z u b (j_put N' V x1 r) E' (upd V x1.toNatClampNeg r) (va_A (tW cI z a b N E V) sz) t) (va_A (tW cI z a b N E V) sz)) (mcW N (j_makeRoom N 1530)) (msW N (j_makeRoom N 1530)) (va_A (tW cI z a b N E V) sz) := by
  refine Met.ofW (cc := b_S_join) (maxL := 5) (ret := (some .boolean)) (by decide) rfl ?_
  intro p e s m args below meth c s₁ B hml hv
  obtain ⟨rfl, hsz, hP, hK, hD0⟩ := hv
  have hx := B.exec
  have hb := B.bytes
  have hr := B.returns
  have hts1 := atoms_spec (ws := .code y_S_join b_S_join 5 (some .boolean) :: W0) B.pre
  have hts : ∀ w ∈ W0, w.before _ s = true := fun w h => hts1 w (List.mem_cons_of_mem _ h)
  have hown : s.vm.findClass R_S = some m.cls := findClass_of_methodNamed B.named
  have hlocks := B.notSynchronized
  subst hsz
  have hD := hD0.self (sz := s.heap.size)
  generalize hAe : va_A (tW cI z a b N E V) s.heap.size = A at hD ⊢
  have hA : ∀ q : Nat, s.heap.size ≤ q → A q := fun q h => by rw [← hAe]; exact Or.inr h
  have hS : va_S A s.heap s.heap [] := va_S.rf
  have hP : va_P (dC, dI) cls0 (tW cI z a b N E V) s.heap := hP
  have hl := lv_entry ([.ref (z 0), .int x1, .int x2, .int x3, .int x4]) (n := 5) (Nat.le_of_ble_eq_true rfl)
  rw [lg_entry_eq]
  generalize (lg_sl ([.ref (z 0), .int x1, .int x2, .int x3, .int x4]) ++ List.replicate (5 - (lg_sl ([.ref (z 0), .int x1, .int x2, .int x3, .int x4])).length) Slot.unset).toArray = ls at hl ⊢
  have hl : lv_has ls 5 [(0, .ref (z 0)), (1, .int x1), (2, .int x2), (3, .int x3), (4, .int x4)] := hl
  refine lv_iload_n hx hb d_S_join_0 rfl (lv_at hl 1 rfl) ?_
  refine nCallN (As := [.int x1]) (rest := []) ⟨hx, hb, hml, hown, hts⟩ (c_S_requireSlot l x1 k1) (va_cwS 1 hts (gS kml_S_42 kst_S_requireSlot kin_S kcd_S_requireSlot) rfl rfl rfl (by decide +kernel) ⟨by show 1 + 1 ≤ 45; omega, by show 8 + (1 + 11) + 21 ≤ 2600; omega⟩) rfl hl.1 rfl (Nat.le_of_ble_eq_true rfl) d_S_join_1 ⟨Nat.zero_le _, Nat.zero_le _⟩ ?_
  refine lv_iload_n hx hb d_S_join_4 rfl (lv_at hl 2 rfl) ?_
  refine lv_iconst (v := 5) hx hb d_S_join_5 (by decide) ?_
  refine nCallN (As := [.int x2, .int 5]) (rest := []) ⟨hx, hb, hml, hown, hts⟩ (c_S_requireBelow l x2 5 k2) (va_cwS 2 hts (gS kml_S_50 kst_S_requireBelow kin_S kcd_S_requireBelow) rfl rfl rfl (by decide +kernel) ⟨by show 0 + 1 ≤ 45; omega, by show 8 + (2 + 11) + 0 ≤ 2600; omega⟩) rfl hl.1 rfl (Nat.le_of_ble_eq_true rfl) d_S_join_6 ⟨Nat.zero_le _, Nat.zero_le _⟩ ?_
  refine lv_iload_n hx hb d_S_join_9 rfl (lv_at hl 3 rfl) ?_
  refine nCallN (As := [.int x3]) (rest := []) ⟨hx, hb, hml, hown, hts⟩ (c_S_requireSlot l x3 k3) (va_cwS 1 hts (gS kml_S_42 kst_S_requireSlot kin_S kcd_S_requireSlot) rfl rfl rfl (by decide +kernel) ⟨by show 1 + 1 ≤ 45; omega, by show 8 + (1 + 11) + 21 ≤ 2600; omega⟩) rfl hl.1 rfl (Nat.le_of_ble_eq_true rfl) d_S_join_10 ⟨Nat.zero_le _, Nat.zero_le _⟩ ?_
  refine lv_iload hx hb d_S_join_13 (lv_at hl 4 rfl) ?_
  refine nCallN (As := [.int x4]) (rest := []) ⟨hx, hb, hml, hown, hts⟩ (c_S_requireSlot l x4 k4) (va_cwS 1 hts (gS kml_S_42 kst_S_requireSlot kin_S kcd_S_requireSlot) rfl rfl rfl (by decide +kernel) ⟨by show 1 + 1 ≤ 45; omega, by show 8 + (1 + 11) + 21 ≤ 2600; omega⟩) rfl hl.1 rfl (Nat.le_of_ble_eq_true rfl) d_S_join_15 ⟨Nat.zero_le _, Nat.zero_le _⟩ ?_
  refine lv_aload_n hx hb d_S_join_18 rfl (lv_at hl 0 rfl) ?_
  refine lv_iload_n hx hb d_S_join_19 rfl (lv_at hl 1 rfl) ?_
  refine lv_aload_n hx hb d_S_join_20 rfl (lv_at hl 0 rfl) ?_
  refine va_get (D := (dC, dI)) (ci := 0) (v := .ref (z 2)) (C := R_S) (T := T_S) (N := 4) hx hb hts in_S hown hK hP 0 rfl rfl 2 (by decide) (hts _ kfl_S_31) (fun _ h9 => h9) rfl d_S_join_21 ?_
  refine lv_iload_n hx hb d_S_join_24 rfl (lv_at hl 2 rfl) ?_
  refine lv_aload_n hx hb d_S_join_25 rfl (lv_at hl 0 rfl) ?_
  refine va_get (D := (dC, dI)) (ci := 0) (v := .ref (z 1)) (C := R_S) (T := T_S) (N := 4) hx hb hts in_S hown hK hP 0 rfl rfl 0 (by decide) (hts _ kfl_S_9) (fun _ h9 => h9) rfl d_S_join_26 ?_
  refine lv_iload_n hx hb d_S_join_29 rfl (lv_at hl 3 rfl) ?_
  refine va_iald hx hb hK hP 1 0 rfl rfl (okb_in (n := 32) k3 (by decide)) d_S_join_30 ?_
  refine lv_aload_n hx hb d_S_join_31 rfl (lv_at hl 0 rfl) ?_
  refine va_get (D := (dC, dI)) (ci := 0) (v := .ref (z 1)) (C := R_S) (T := T_S) (N := 4) hx hb hts in_S hown hK hP 0 rfl rfl 0 (by decide) (hts _ kfl_S_9) (fun _ h9 => h9) rfl d_S_join_32 ?_
  refine lv_iload hx hb d_S_join_35 (lv_at hl 4 rfl) ?_
  refine va_iald hx hb hK hP 1 0 rfl rfl (okb_in (n := 32) k4 (by decide)) d_S_join_37 ?_
  refine tGW (As := [.int x2, .int (V x3.toNatClampNeg), .int (V x4.toNatClampNeg)]) (rest := [.int x1, .ref (z 0)]) ⟨hx, hb, hml, hown, hts⟩ (c_A_joined l dC dI cI (z 2) a b N E _ x2 (V x3.toNatClampNeg) (V x4.toNatClampNeg) R0 hR h1 h2 hv k hk hx2 hres) (cwV 3 hts (gV kml_S_62 kim_A_joined ksl_A_joined kin_A kcd_A_joined) rfl rfl rfl (by decide +kernel) ⟨by show 40 + 1 ≤ 45; omega, by show 8 + (4 + 11) + 2500 ≤ 2600; omega⟩) hP hK hD hS hA rfl hl.1 rfl (Nat.le_of_ble_eq_true rfl) d_S_join_38 ⟨by show 0 + _ ≤ (mcW N (j_makeRoom N 1530)); omega, by show 0 + _ ≤ (msW N (j_makeRoom N 1530)); omega⟩ (fun u H locs hu hP hD hS => ?_)
  refine W.widen (k := (mcW N (j_makeRoom N 1530))) (n := (msW N (j_makeRoom N 1530))) (by omega) (by omega) ?_
  refine tSi (As := [.int x1, .int r]) (rest := []) ⟨hx, hb, hml, hown, hts⟩ (c_S_put l dC dI cI z u b N' E' V _ x1 r k1) (cwV 2 hts (gV kml_S_46 kim_S_put ksl_S_put kin_S kcd_S_put) rfl rfl rfl (by decide +kernel) ⟨by show 2 + 1 ≤ 45; omega, by show 8 + (4 + 11) + 50 ≤ 2600; omega⟩) hP hK hD hS hA rfl hl.1 rfl (Nat.le_of_ble_eq_true rfl) d_S_join_41 ⟨Nat.le_refl _, Nat.le_refl _⟩ (fun H locs hP hD hS => ?_)
  have hP9 : va_P (dC, dI) cls0 (tW cI z u b (j_put N' V x1 r) E' (upd V x1.toNatClampNeg r)) H := hP
  have hD9 : va_D A (tW cI z u b (j_put N' V x1 r) E' (upd V x1.toNatClampNeg r)) := hD
  exact W.zret (ty := .boolean) (v := (if r = V x1.toNatClampNeg then 0 else 1)) hx hb hr (by split <;> rfl) (fun t ht hW => ⟨⟨(if r = V x1.toNatClampNeg then 0 else 1), u, rfl, ⟨rfl, hu⟩, by rw [ht]; exact hP9, va_K.moved hW.alike hK, hD9⟩, hS.F ht⟩) hS.2.2 d_S_join_44

set_option maxHeartbeats 8000000 in
set_option maxRecDepth 100000 in
theorem c_S_some (l : Launch) (dC : Nat → ClassId) (dI : Nat → Nat → Nat) (cI : ClassId) (z a b : Nat → Nat) (N E : Mm) (V : Nat → Int32) (sz : Nat) (x1 x2 x3 x4 : Int32) (k1 : okb x1 32) (k2 : okb x2 32) (k3 : okb x3 32) (k4 : okb x4 4096) (R0 : Nat) (hR : N 0 0 = nI R0) (h1 : 1024 ≤ R0) (h2 : R0 ≤ 24800) (hv : ∀ k, k < 13 → ∃ w, w < 13 ∧ N 5 k = nI w) {N1 E1 N' E' : Mm} {r1 r : Int32} (hres1 : j_pick 12 (j_makeRoom N 3323) (j_forget E) (V x2.toNatClampNeg) (V x3.toNatClampNeg) 0 = (N1, E1, r1)) (hres : j_freed x4 12 N1 E1 r1 = (N', E', r)) : Met l y_S_some (.code y_S_some b_S_some 5 (some .boolean) :: W0) ({ frames := 45, cells := (mcW N (j_makeRoom N 3323)), slots := (msW N (j_makeRoom N 3323)), locals := 2600 } : Room) (va_Pc [.ref (z 0), .int x1, .int x2, .int x3, .int x4] (tM dC dI cI z a b N E V sz)) (va_Qi (fun (x : Int32) (u : Nat → Nat) => x = (if r = V x1.toNatClampNeg then 0 else 1) ∧ u 0 = a 0) (fun u t => tE dC dI cI z u b (j_put N' V x1 r) E' (upd V x1.toNatClampNeg r) (va_A (tW cI z a b N E V) sz) t) (va_A (tW cI z a b N E V) sz)) (mcW N (j_makeRoom N 3323)) (msW N (j_makeRoom N 3323)) (va_A (tW cI z a b N E V) sz) := by
  refine Met.ofW (cc := b_S_some) (maxL := 5) (ret := (some .boolean)) (by decide) rfl ?_
  intro p e s m args below meth c s₁ B hml hv
  obtain ⟨rfl, hsz, hP, hK, hD0⟩ := hv
  have hx := B.exec
  have hb := B.bytes
  have hr := B.returns
  have hts1 := atoms_spec (ws := .code y_S_some b_S_some 5 (some .boolean) :: W0) B.pre
  have hts : ∀ w ∈ W0, w.before _ s = true := fun w h => hts1 w (List.mem_cons_of_mem _ h)
  have hown : s.vm.findClass R_S = some m.cls := findClass_of_methodNamed B.named
  have hlocks := B.notSynchronized
  subst hsz
  have hD := hD0.self (sz := s.heap.size)
  generalize hAe : va_A (tW cI z a b N E V) s.heap.size = A at hD ⊢
  have hA : ∀ q : Nat, s.heap.size ≤ q → A q := fun q h => by rw [← hAe]; exact Or.inr h
  have hS : va_S A s.heap s.heap [] := va_S.rf
  have hP : va_P (dC, dI) cls0 (tW cI z a b N E V) s.heap := hP
  have hl := lv_entry ([.ref (z 0), .int x1, .int x2, .int x3, .int x4]) (n := 5) (Nat.le_of_ble_eq_true rfl)
  rw [lg_entry_eq]
  generalize (lg_sl ([.ref (z 0), .int x1, .int x2, .int x3, .int x4]) ++ List.replicate (5 - (lg_sl ([.ref (z 0), .int x1, .int x2, .int x3, .int x4])).length) Slot.unset).toArray = ls at hl ⊢
  have hl : lv_has ls 5 [(0, .ref (z 0)), (1, .int x1), (2, .int x2), (3, .int x3), (4, .int x4)] := hl
  refine lv_iload_n hx hb d_S_some_0 rfl (lv_at hl 1 rfl) ?_
  refine nCallN (As := [.int x1]) (rest := []) ⟨hx, hb, hml, hown, hts⟩ (c_S_requireSlot l x1 k1) (va_cwS 1 hts (gS kml_S_42 kst_S_requireSlot kin_S kcd_S_requireSlot) rfl rfl rfl (by decide +kernel) ⟨by show 1 + 1 ≤ 45; omega, by show 8 + (1 + 11) + 21 ≤ 2600; omega⟩) rfl hl.1 rfl (Nat.le_of_ble_eq_true rfl) d_S_some_1 ⟨Nat.zero_le _, Nat.zero_le _⟩ ?_
  refine lv_iload_n hx hb d_S_some_4 rfl (lv_at hl 2 rfl) ?_
  refine nCallN (As := [.int x2]) (rest := []) ⟨hx, hb, hml, hown, hts⟩ (c_S_requireSlot l x2 k2) (va_cwS 1 hts (gS kml_S_42 kst_S_requireSlot kin_S kcd_S_requireSlot) rfl rfl rfl (by decide +kernel) ⟨by show 1 + 1 ≤ 45; omega, by show 8 + (1 + 11) + 21 ≤ 2600; omega⟩) rfl hl.1 rfl (Nat.le_of_ble_eq_true rfl) d_S_some_5 ⟨Nat.zero_le _, Nat.zero_le _⟩ ?_
  refine lv_iload_n hx hb d_S_some_8 rfl (lv_at hl 3 rfl) ?_
  refine nCallN (As := [.int x3]) (rest := []) ⟨hx, hb, hml, hown, hts⟩ (c_S_requireSlot l x3 k3) (va_cwS 1 hts (gS kml_S_42 kst_S_requireSlot kin_S kcd_S_requireSlot) rfl rfl rfl (by decide +kernel) ⟨by show 1 + 1 ≤ 45; omega, by show 8 + (1 + 11) + 21 ≤ 2600; omega⟩) rfl hl.1 rfl (Nat.le_of_ble_eq_true rfl) d_S_some_9 ⟨Nat.zero_le _, Nat.zero_le _⟩ ?_
  refine lv_iload hx hb d_S_some_12 (lv_at hl 4 rfl) ?_
  refine lv_sipush (v := 4096) hx hb d_S_some_14 (by decide) ?_
  refine nCallN (As := [.int x4, .int 4096]) (rest := []) ⟨hx, hb, hml, hown, hts⟩ (c_S_requireBelow l x4 4096 k4) (va_cwS 2 hts (gS kml_S_50 kst_S_requireBelow kin_S kcd_S_requireBelow) rfl rfl rfl (by decide +kernel) ⟨by show 0 + 1 ≤ 45; omega, by show 8 + (2 + 11) + 0 ≤ 2600; omega⟩) rfl hl.1 rfl (Nat.le_of_ble_eq_true rfl) d_S_some_17 ⟨Nat.zero_le _, Nat.zero_le _⟩ ?_
  refine lv_aload_n hx hb d_S_some_20 rfl (lv_at hl 0 rfl) ?_
  refine lv_iload_n hx hb d_S_some_21 rfl (lv_at hl 1 rfl) ?_
  refine lv_aload_n hx hb d_S_some_22 rfl (lv_at hl 0 rfl) ?_
  refine va_get (D := (dC, dI)) (ci := 0) (v := .ref (z 2)) (C := R_S) (T := T_S) (N := 4) hx hb hts in_S hown hK hP 0 rfl rfl 2 (by decide) (hts _ kfl_S_31) (fun _ h9 => h9) rfl d_S_some_23 ?_
  refine lv_aload_n hx hb d_S_some_26 rfl (lv_at hl 0 rfl) ?_
  refine va_get (D := (dC, dI)) (ci := 0) (v := .ref (z 1)) (C := R_S) (T := T_S) (N := 4) hx hb hts in_S hown hK hP 0 rfl rfl 0 (by decide) (hts _ kfl_S_9) (fun _ h9 => h9) rfl d_S_some_27 ?_
  refine lv_iload_n hx hb d_S_some_30 rfl (lv_at hl 2 rfl) ?_
  refine va_iald hx hb hK hP 1 0 rfl rfl (okb_in (n := 32) k2 (by decide)) d_S_some_31 ?_
  refine lv_aload_n hx hb d_S_some_32 rfl (lv_at hl 0 rfl) ?_
  refine va_get (D := (dC, dI)) (ci := 0) (v := .ref (z 1)) (C := R_S) (T := T_S) (N := 4) hx hb hts in_S hown hK hP 0 rfl rfl 0 (by decide) (hts _ kfl_S_9) (fun _ h9 => h9) rfl d_S_some_33 ?_
  refine lv_iload_n hx hb d_S_some_36 rfl (lv_at hl 3 rfl) ?_
  refine va_iald hx hb hK hP 1 0 rfl rfl (okb_in (n := 32) k3 (by decide)) d_S_some_37 ?_
  refine lv_iload hx hb d_S_some_38 (lv_at hl 4 rfl) ?_
  refine tGW (As := [.int (V x2.toNatClampNeg), .int (V x3.toNatClampNeg), .int x4]) (rest := [.int x1, .ref (z 0)]) ⟨hx, hb, hml, hown, hts⟩ (c_A_bothForSome l dC dI cI (z 2) a b N E _ (V x2.toNatClampNeg) (V x3.toNatClampNeg) x4 R0 hR h1 h2 hv hres1 hres) (cwV 3 hts (gV kml_S_65 kim_A_bothForSome ksl_A_bothForSome kin_A kcd_A_bothForSome) rfl rfl rfl (by decide +kernel) ⟨by show 40 + 1 ≤ 45; omega, by show 8 + (4 + 11) + 2500 ≤ 2600; omega⟩) hP hK hD hS hA rfl hl.1 rfl (Nat.le_of_ble_eq_true rfl) d_S_some_40 ⟨by show 0 + _ ≤ (mcW N (j_makeRoom N 3323)); omega, by show 0 + _ ≤ (msW N (j_makeRoom N 3323)); omega⟩ (fun u H locs hu hP hD hS => ?_)
  refine W.widen (k := (mcW N (j_makeRoom N 3323))) (n := (msW N (j_makeRoom N 3323))) (by omega) (by omega) ?_
  refine tSi (As := [.int x1, .int r]) (rest := []) ⟨hx, hb, hml, hown, hts⟩ (c_S_put l dC dI cI z u b N' E' V _ x1 r k1) (cwV 2 hts (gV kml_S_46 kim_S_put ksl_S_put kin_S kcd_S_put) rfl rfl rfl (by decide +kernel) ⟨by show 2 + 1 ≤ 45; omega, by show 8 + (4 + 11) + 50 ≤ 2600; omega⟩) hP hK hD hS hA rfl hl.1 rfl (Nat.le_of_ble_eq_true rfl) d_S_some_43 ⟨Nat.le_refl _, Nat.le_refl _⟩ (fun H locs hP hD hS => ?_)
  have hP9 : va_P (dC, dI) cls0 (tW cI z u b (j_put N' V x1 r) E' (upd V x1.toNatClampNeg r)) H := hP
  have hD9 : va_D A (tW cI z u b (j_put N' V x1 r) E' (upd V x1.toNatClampNeg r)) := hD
  exact W.zret (ty := .boolean) (v := (if r = V x1.toNatClampNeg then 0 else 1)) hx hb hr (by split <;> rfl) (fun t ht hW => ⟨⟨(if r = V x1.toNatClampNeg then 0 else 1), u, rfl, ⟨rfl, hu⟩, by rw [ht]; exact hP9, va_K.moved hW.alike hK, hD9⟩, hS.F ht⟩) hS.2.2 d_S_some_46

set_option maxHeartbeats 8000000 in
set_option maxRecDepth 100000 in
theorem c_S_turn (l : Launch) (dC : Nat → ClassId) (dI : Nat → Nat → Nat) (cI : ClassId) (z a b : Nat → Nat) (N E : Mm) (V : Nat → Int32) (sz : Nat) (x1 x2 : Int32) (k1 : okb x1 32) (k2 : okb x2 32) (R0 : Nat) (hR : N 0 0 = nI R0) (h1 : 1024 ≤ R0) (h2 : R0 ≤ 24800) (hv : ∀ k, k < 13 → ∃ w, w < 13 ∧ N 5 k = nI w) {E9 N' : Mm} {m1 r : Int32} (hres1 : j_hang 12 (j_makeRoom N 765) (j_forget E) (V x2.toNatClampNeg) = (E9, m1)) (hres : j_turn m1 12 (j_makeRoom N 765) (V x2.toNatClampNeg) 0 0 0 = (N', r)) : Met l y_S_turn (.code y_S_turn b_S_turn 3 (some .boolean) :: W0) ({ frames := 45, cells := (mcW N (j_makeRoom N 765)), slots := (msW N (j_makeRoom N 765)), locals := 2600 } : Room) (va_Pc [.ref (z 0), .int x1, .int x2] (tM dC dI cI z a b N E V sz)) (va_Qi (fun (x : Int32) (u : Nat → Nat) => x = (if r = V x1.toNatClampNeg then 0 else 1) ∧ u 0 = a 0) (fun u t => tE dC dI cI z u b (j_put N' V x1 r) E9 (upd V x1.toNatClampNeg r) (va_A (tW cI z a b N E V) sz) t) (va_A (tW cI z a b N E V) sz)) (mcW N (j_makeRoom N 765)) (msW N (j_makeRoom N 765)) (va_A (tW cI z a b N E V) sz) := by
  refine Met.ofW (cc := b_S_turn) (maxL := 3) (ret := (some .boolean)) (by decide) rfl ?_
  intro p e s m args below meth c s₁ B hml hv
  obtain ⟨rfl, hsz, hP, hK, hD0⟩ := hv
  have hx := B.exec
  have hb := B.bytes
  have hr := B.returns
  have hts1 := atoms_spec (ws := .code y_S_turn b_S_turn 3 (some .boolean) :: W0) B.pre
  have hts : ∀ w ∈ W0, w.before _ s = true := fun w h => hts1 w (List.mem_cons_of_mem _ h)
  have hown : s.vm.findClass R_S = some m.cls := findClass_of_methodNamed B.named
  have hlocks := B.notSynchronized
  subst hsz
  have hD := hD0.self (sz := s.heap.size)
  generalize hAe : va_A (tW cI z a b N E V) s.heap.size = A at hD ⊢
  have hA : ∀ q : Nat, s.heap.size ≤ q → A q := fun q h => by rw [← hAe]; exact Or.inr h
  have hS : va_S A s.heap s.heap [] := va_S.rf
  have hP : va_P (dC, dI) cls0 (tW cI z a b N E V) s.heap := hP
  have hl := lv_entry ([.ref (z 0), .int x1, .int x2]) (n := 3) (Nat.le_of_ble_eq_true rfl)
  rw [lg_entry_eq]
  generalize (lg_sl ([.ref (z 0), .int x1, .int x2]) ++ List.replicate (3 - (lg_sl ([.ref (z 0), .int x1, .int x2])).length) Slot.unset).toArray = ls at hl ⊢
  have hl : lv_has ls 3 [(0, .ref (z 0)), (1, .int x1), (2, .int x2)] := hl
  refine lv_iload_n hx hb d_S_turn_0 rfl (lv_at hl 1 rfl) ?_
  refine nCallN (As := [.int x1]) (rest := []) ⟨hx, hb, hml, hown, hts⟩ (c_S_requireSlot l x1 k1) (va_cwS 1 hts (gS kml_S_42 kst_S_requireSlot kin_S kcd_S_requireSlot) rfl rfl rfl (by decide +kernel) ⟨by show 1 + 1 ≤ 45; omega, by show 8 + (1 + 11) + 21 ≤ 2600; omega⟩) rfl hl.1 rfl (Nat.le_of_ble_eq_true rfl) d_S_turn_1 ⟨Nat.zero_le _, Nat.zero_le _⟩ ?_
  refine lv_iload_n hx hb d_S_turn_4 rfl (lv_at hl 2 rfl) ?_
  refine nCallN (As := [.int x2]) (rest := []) ⟨hx, hb, hml, hown, hts⟩ (c_S_requireSlot l x2 k2) (va_cwS 1 hts (gS kml_S_42 kst_S_requireSlot kin_S kcd_S_requireSlot) rfl rfl rfl (by decide +kernel) ⟨by show 1 + 1 ≤ 45; omega, by show 8 + (1 + 11) + 21 ≤ 2600; omega⟩) rfl hl.1 rfl (Nat.le_of_ble_eq_true rfl) d_S_turn_5 ⟨Nat.zero_le _, Nat.zero_le _⟩ ?_
  refine lv_aload_n hx hb d_S_turn_8 rfl (lv_at hl 0 rfl) ?_
  refine lv_iload_n hx hb d_S_turn_9 rfl (lv_at hl 1 rfl) ?_
  refine lv_aload_n hx hb d_S_turn_10 rfl (lv_at hl 0 rfl) ?_
  refine va_get (D := (dC, dI)) (ci := 0) (v := .ref (z 2)) (C := R_S) (T := T_S) (N := 4) hx hb hts in_S hown hK hP 0 rfl rfl 2 (by decide) (hts _ kfl_S_31) (fun _ h9 => h9) rfl d_S_turn_11 ?_
  refine lv_aload_n hx hb d_S_turn_14 rfl (lv_at hl 0 rfl) ?_
  refine va_get (D := (dC, dI)) (ci := 0) (v := .ref (z 1)) (C := R_S) (T := T_S) (N := 4) hx hb hts in_S hown hK hP 0 rfl rfl 0 (by decide) (hts _ kfl_S_9) (fun _ h9 => h9) rfl d_S_turn_15 ?_
  refine lv_iload_n hx hb d_S_turn_18 rfl (lv_at hl 2 rfl) ?_
  refine va_iald hx hb hK hP 1 0 rfl rfl (okb_in (n := 32) k2 (by decide)) d_S_turn_19 ?_
  refine tGW (As := [.int (V x2.toNatClampNeg)]) (rest := [.int x1, .ref (z 0)]) ⟨hx, hb, hml, hown, hts⟩ (c_A_turned l dC dI cI (z 2) a b N E _ (V x2.toNatClampNeg) R0 hR h1 h2 hv hres1 hres) (cwV 1 hts (gV kml_S_68 kim_A_turned ksl_A_turned kin_A kcd_A_turned) rfl rfl rfl (by decide +kernel) ⟨by show 40 + 1 ≤ 45; omega, by show 8 + (2 + 11) + 2500 ≤ 2600; omega⟩) hP hK hD hS hA rfl hl.1 rfl (Nat.le_of_ble_eq_true rfl) d_S_turn_20 ⟨by show 0 + _ ≤ (mcW N (j_makeRoom N 765)); omega, by show 0 + _ ≤ (msW N (j_makeRoom N 765)); omega⟩ (fun u H locs hu hP hD hS => ?_)
  refine W.widen (k := (mcW N (j_makeRoom N 765))) (n := (msW N (j_makeRoom N 765))) (by omega) (by omega) ?_
  refine tSi (As := [.int x1, .int r]) (rest := []) ⟨hx, hb, hml, hown, hts⟩ (c_S_put l dC dI cI z u b N' E9 V _ x1 r k1) (cwV 2 hts (gV kml_S_46 kim_S_put ksl_S_put kin_S kcd_S_put) rfl rfl rfl (by decide +kernel) ⟨by show 2 + 1 ≤ 45; omega, by show 8 + (4 + 11) + 50 ≤ 2600; omega⟩) hP hK hD hS hA rfl hl.1 rfl (Nat.le_of_ble_eq_true rfl) d_S_turn_23 ⟨Nat.le_refl _, Nat.le_refl _⟩ (fun H locs hP hD hS => ?_)
  have hP9 : va_P (dC, dI) cls0 (tW cI z u b (j_put N' V x1 r) E9 (upd V x1.toNatClampNeg r)) H := hP
  have hD9 : va_D A (tW cI z u b (j_put N' V x1 r) E9 (upd V x1.toNatClampNeg r)) := hD
  exact W.zret (ty := .boolean) (v := (if r = V x1.toNatClampNeg then 0 else 1)) hx hb hr (by split <;> rfl) (fun t ht hW => ⟨⟨(if r = V x1.toNatClampNeg then 0 else 1), u, rfl, ⟨rfl, hu⟩, by rw [ht]; exact hP9, va_K.moved hW.alike hK, hD9⟩, hS.F ht⟩) hS.2.2 d_S_turn_26

set_option maxHeartbeats 8000000 in
set_option maxRecDepth 100000 in
theorem c_S_value (l : Launch) (dC : Nat → ClassId) (dI : Nat → Nat → Nat) (cI : ClassId) (z a b : Nat → Nat) (N E : Mm) (V : Nat → Int32) (x1 x2 : Int32) (k1 : okb x1 32) (k2 : okb x2 4096) : Met l y_S_value (.code y_S_value b_S_value 3 (some .boolean) :: W0) ({ frames := 45, cells := 0, slots := 0, locals := 2600 } : Room) (va_Pc [.ref (z 0), .int x1, .int x2] (tR dC dI cI z a b N E V)) (QcRead (j_truthFor N (V x1.toNatClampNeg) x2)) 0 0 (fun _ => False) := by
  refine Met.ofW (cc := b_S_value) (maxL := 3) (ret := (some .boolean)) (by decide) rfl ?_
  intro p e s m args below meth c s₁ B hml hv
  obtain ⟨rfl, hP, hK⟩ := hv
  have hx := B.exec
  have hb := B.bytes
  have hr := B.returns
  have hts1 := atoms_spec (ws := .code y_S_value b_S_value 3 (some .boolean) :: W0) B.pre
  have hts : ∀ w ∈ W0, w.before _ s = true := fun w h => hts1 w (List.mem_cons_of_mem _ h)
  have hown : s.vm.findClass R_S = some m.cls := findClass_of_methodNamed B.named
  have hlocks := B.notSynchronized
  have hl := lv_entry ([.ref (z 0), .int x1, .int x2]) (n := 3) (Nat.le_of_ble_eq_true rfl)
  rw [lg_entry_eq]
  generalize (lg_sl ([.ref (z 0), .int x1, .int x2]) ++ List.replicate (3 - (lg_sl ([.ref (z 0), .int x1, .int x2])).length) Slot.unset).toArray = ls at hl ⊢
  have hl : lv_has ls 3 [(0, .ref (z 0)), (1, .int x1), (2, .int x2)] := hl
  refine lv_iload_n hx hb d_S_value_0 rfl (lv_at hl 1 rfl) ?_
  refine nCallN (As := [.int x1]) (rest := []) ⟨hx, hb, hml, hown, hts⟩ (c_S_requireSlot l x1 k1) (va_cwS 1 hts (gS kml_S_42 kst_S_requireSlot kin_S kcd_S_requireSlot) rfl rfl rfl (by decide +kernel) ⟨by show 1 + 1 ≤ 45; omega, by show 8 + (1 + 11) + 21 ≤ 2600; omega⟩) rfl hl.1 rfl (Nat.le_of_ble_eq_true rfl) d_S_value_1 ⟨Nat.zero_le _, Nat.zero_le _⟩ ?_
  refine lv_iload_n hx hb d_S_value_4 rfl (lv_at hl 2 rfl) ?_
  refine lv_sipush (v := 4096) hx hb d_S_value_5 (by decide) ?_
  refine nCallN (As := [.int x2, .int 4096]) (rest := []) ⟨hx, hb, hml, hown, hts⟩ (c_S_requireBelow l x2 4096 k2) (va_cwS 2 hts (gS kml_S_50 kst_S_requireBelow kin_S kcd_S_requireBelow) rfl rfl rfl (by decide +kernel) ⟨by show 0 + 1 ≤ 45; omega, by show 8 + (2 + 11) + 0 ≤ 2600; omega⟩) rfl hl.1 rfl (Nat.le_of_ble_eq_true rfl) d_S_value_8 ⟨Nat.zero_le _, Nat.zero_le _⟩ ?_
  refine lv_aload_n hx hb d_S_value_11 rfl (lv_at hl 0 rfl) ?_
  refine va_get (D := (dC, dI)) (ci := 0) (v := .ref (a 0)) (C := R_S) (T := T_S) (N := 4) hx hb hts in_S hown hK hP 0 rfl rfl 1 (by decide) (hts _ kfl_S_22) (fun _ h9 => h9) rfl d_S_value_12 ?_
  refine lv_aload_n hx hb d_S_value_15 rfl (lv_at hl 0 rfl) ?_
  refine va_get (D := (dC, dI)) (ci := 0) (v := .ref (z 1)) (C := R_S) (T := T_S) (N := 4) hx hb hts in_S hown hK hP 0 rfl rfl 0 (by decide) (hts _ kfl_S_9) (fun _ h9 => h9) rfl d_S_value_16 ?_
  refine lv_iload_n hx hb d_S_value_19 rfl (lv_at hl 1 rfl) ?_
  refine va_iald hx hb hK hP 1 0 rfl rfl (okb_in (n := 32) k1 (by decide)) d_S_value_20 ?_
  refine lv_iload_n hx hb d_S_value_21 rfl (lv_at hl 2 rfl) ?_
  refine tNR (As := [.int (V x1.toNatClampNeg), .int x2]) (rest := []) ⟨hx, hb, hml, hown, hts⟩ (c_N_truthFor l dC dI cI a N (V x1.toNatClampNeg) x2) (cwV 2 hts (gV kml_S_71 kim_N_truthFor ksl_N_truthFor kin_N kcd_N_truthFor) rfl rfl rfl (by decide +kernel) ⟨by show 1 + 1 ≤ 45; omega, by show 8 + (6 + 11) + 23 ≤ 2600; omega⟩) hP hK rfl hl.1 rfl (Nat.le_of_ble_eq_true rfl) d_S_value_22 ⟨Nat.zero_le _, Nat.zero_le _⟩ ?_
  exact W.zret (ty := .boolean) (v := (j_truthFor N (V x1.toNatClampNeg) x2)) hx hb hr (by unfold j_truthFor; split <;> rfl) (fun t ht hW => ⟨by rw [show j_truthFor N (V x1.toNatClampNeg) x2 = j_truthFor N (V x1.toNatClampNeg) x2 from by rfl], ht⟩) (fun q h => by cases h) d_S_value_25

set_option maxHeartbeats 8000000 in
set_option maxRecDepth 100000 in
theorem c_S_same (l : Launch) (dC : Nat → ClassId) (dI : Nat → Nat → Nat) (cI : ClassId) (z a b : Nat → Nat) (N E : Mm) (V : Nat → Int32) (x1 x2 : Int32) (k1 : okb x1 32) (k2 : okb x2 32) : Met l y_S_same (.code y_S_same b_S_same 3 (some .boolean) :: W0) ({ frames := 45, cells := 0, slots := 0, locals := 2600 } : Room) (va_Pc [.ref (z 0), .int x1, .int x2] (tR dC dI cI z a b N E V)) (QcRead (if (V x1.toNatClampNeg) = (V x2.toNatClampNeg) then 1 else 0)) 0 0 (fun _ => False) := by
  refine Met.ofW (cc := b_S_same) (maxL := 3) (ret := (some .boolean)) (by decide) rfl ?_
  intro p e s m args below meth c s₁ B hml hv
  obtain ⟨rfl, hP, hK⟩ := hv
  have hx := B.exec
  have hb := B.bytes
  have hr := B.returns
  have hts1 := atoms_spec (ws := .code y_S_same b_S_same 3 (some .boolean) :: W0) B.pre
  have hts : ∀ w ∈ W0, w.before _ s = true := fun w h => hts1 w (List.mem_cons_of_mem _ h)
  have hown : s.vm.findClass R_S = some m.cls := findClass_of_methodNamed B.named
  have hlocks := B.notSynchronized
  have hl := lv_entry ([.ref (z 0), .int x1, .int x2]) (n := 3) (Nat.le_of_ble_eq_true rfl)
  rw [lg_entry_eq]
  generalize (lg_sl ([.ref (z 0), .int x1, .int x2]) ++ List.replicate (3 - (lg_sl ([.ref (z 0), .int x1, .int x2])).length) Slot.unset).toArray = ls at hl ⊢
  have hl : lv_has ls 3 [(0, .ref (z 0)), (1, .int x1), (2, .int x2)] := hl
  refine lv_iload_n hx hb d_S_same_0 rfl (lv_at hl 1 rfl) ?_
  refine nCallN (As := [.int x1]) (rest := []) ⟨hx, hb, hml, hown, hts⟩ (c_S_requireSlot l x1 k1) (va_cwS 1 hts (gS kml_S_42 kst_S_requireSlot kin_S kcd_S_requireSlot) rfl rfl rfl (by decide +kernel) ⟨by show 1 + 1 ≤ 45; omega, by show 8 + (1 + 11) + 21 ≤ 2600; omega⟩) rfl hl.1 rfl (Nat.le_of_ble_eq_true rfl) d_S_same_1 ⟨Nat.zero_le _, Nat.zero_le _⟩ ?_
  refine lv_iload_n hx hb d_S_same_4 rfl (lv_at hl 2 rfl) ?_
  refine nCallN (As := [.int x2]) (rest := []) ⟨hx, hb, hml, hown, hts⟩ (c_S_requireSlot l x2 k2) (va_cwS 1 hts (gS kml_S_42 kst_S_requireSlot kin_S kcd_S_requireSlot) rfl rfl rfl (by decide +kernel) ⟨by show 1 + 1 ≤ 45; omega, by show 8 + (1 + 11) + 21 ≤ 2600; omega⟩) rfl hl.1 rfl (Nat.le_of_ble_eq_true rfl) d_S_same_5 ⟨Nat.zero_le _, Nat.zero_le _⟩ ?_
  refine lv_aload_n hx hb d_S_same_8 rfl (lv_at hl 0 rfl) ?_
  refine va_get (D := (dC, dI)) (ci := 0) (v := .ref (z 1)) (C := R_S) (T := T_S) (N := 4) hx hb hts in_S hown hK hP 0 rfl rfl 0 (by decide) (hts _ kfl_S_9) (fun _ h9 => h9) rfl d_S_same_9 ?_
  refine lv_iload_n hx hb d_S_same_12 rfl (lv_at hl 1 rfl) ?_
  refine va_iald hx hb hK hP 1 0 rfl rfl (okb_in (n := 32) k1 (by decide)) d_S_same_13 ?_
  refine lv_aload_n hx hb d_S_same_14 rfl (lv_at hl 0 rfl) ?_
  refine va_get (D := (dC, dI)) (ci := 0) (v := .ref (z 1)) (C := R_S) (T := T_S) (N := 4) hx hb hts in_S hown hK hP 0 rfl rfl 0 (by decide) (hts _ kfl_S_9) (fun _ h9 => h9) rfl d_S_same_15 ?_
  refine lv_iload_n hx hb d_S_same_18 rfl (lv_at hl 2 rfl) ?_
  refine va_iald hx hb hK hP 1 0 rfl rfl (okb_in (n := 32) k2 (by decide)) d_S_same_19 ?_
  refine lv_icmp_ne (tgt := 27) hx hb d_S_same_20 (by decide) (fun c20 => ?_) (fun c20 => ?_)
  · refine lv_iconst (v := 0) hx hb d_S_same_27 (by decide) ?_
    exact W.zret (ty := .boolean) (v := 0) hx hb hr rfl (fun t ht hW => ⟨by rw [show (if (V x1.toNatClampNeg) = (V x2.toNatClampNeg) then 1 else 0 : Int32) = 0 from by rw [if_neg c20]], ht⟩) (fun q h => by cases h) d_S_same_28
  · refine lv_iconst (v := 1) hx hb d_S_same_23 (by decide) ?_
    refine lv_goto (tgt := 28) hx hb d_S_same_24 (by decide) ?_
    exact W.zret (ty := .boolean) (v := 1) hx hb hr rfl (fun t ht hW => ⟨by rw [show (if (V x1.toNatClampNeg) = (V x2.toNatClampNeg) then 1 else 0 : Int32) = 1 from by rw [if_pos c20]], ht⟩) (fun q h => by cases h) d_S_same_28

set_option maxHeartbeats 8000000 in
set_option maxRecDepth 100000 in
theorem c_S_wrong (l : Launch) (dC : Nat → ClassId) (dI : Nat → Nat → Nat) (cI : ClassId) (z a b : Nat → Nat) (N E : Mm) (V : Nat → Int32) : Met l y_S_wrong (.code y_S_wrong b_S_wrong 1 (some .int) :: W0) ({ frames := 45, cells := 0, slots := 0, locals := 2600 } : Room) (va_Pc [.ref (z 0)] (tR dC dI cI z a b N E V)) (QcRead (j_faults N)) 0 0 (fun _ => False) := by
  refine Met.ofW (cc := b_S_wrong) (maxL := 1) (ret := (some .int)) (by decide) rfl ?_
  intro p e s m args below meth c s₁ B hml hv
  obtain ⟨rfl, hP, hK⟩ := hv
  have hx := B.exec
  have hb := B.bytes
  have hr := B.returns
  have hts1 := atoms_spec (ws := .code y_S_wrong b_S_wrong 1 (some .int) :: W0) B.pre
  have hts : ∀ w ∈ W0, w.before _ s = true := fun w h => hts1 w (List.mem_cons_of_mem _ h)
  have hown : s.vm.findClass R_S = some m.cls := findClass_of_methodNamed B.named
  have hlocks := B.notSynchronized
  have hl := lv_entry ([.ref (z 0)]) (n := 1) (Nat.le_of_ble_eq_true rfl)
  rw [lg_entry_eq]
  generalize (lg_sl ([.ref (z 0)]) ++ List.replicate (1 - (lg_sl ([.ref (z 0)])).length) Slot.unset).toArray = ls at hl ⊢
  have hl : lv_has ls 1 [(0, .ref (z 0))] := hl
  refine lv_aload_n hx hb d_S_wrong_0 rfl (lv_at hl 0 rfl) ?_
  refine va_get (D := (dC, dI)) (ci := 0) (v := .ref (a 0)) (C := R_S) (T := T_S) (N := 4) hx hb hts in_S hown hK hP 0 rfl rfl 1 (by decide) (hts _ kfl_S_22) (fun _ h9 => h9) rfl d_S_wrong_1 ?_
  refine tNR (As := []) (rest := []) ⟨hx, hb, hml, hown, hts⟩ (c_N_faults l dC dI cI a N ) (cwV 0 hts (gV kml_S_97 kim_N_faults ksl_N_faults kin_N kcd_N_faults) rfl rfl rfl (by decide +kernel) ⟨by show 3 + 1 ≤ 45; omega, by show 8 + (5 + 11) + 70 ≤ 2600; omega⟩) hP hK rfl hl.1 rfl (Nat.le_of_ble_eq_true rfl) d_S_wrong_4 ⟨Nat.zero_le _, Nat.zero_le _⟩ ?_
  exact W.iret (v := (j_faults N)) hx hb hr (fun t ht hW => ⟨by rw [show j_faults N = j_faults N from by rfl], ht⟩) (fun q h => by cases h) d_S_wrong_7

set_option maxHeartbeats 8000000 in
set_option maxRecDepth 100000 in
theorem c_S_support (l : Launch) (dC : Nat → ClassId) (dI : Nat → Nat → Nat) (cI : ClassId) (z a b : Nat → Nat) (N E : Mm) (V : Nat → Int32) (sz : Nat) (x1 : Int32) (k1 : okb x1 32) {E' : Mm} {r : Int32} (hres : j_hang 12 N (j_forget E) (V x1.toNatClampNeg) = (E', r)) : Met l y_S_support (.code y_S_support b_S_support 2 (some .int) :: W0) ({ frames := 45, cells := 0, slots := 0, locals := 2600 } : Room) (va_Pc [.ref (z 0), .int x1] (tM dC dI cI z a b N E V sz)) (va_Qi (fun (x : Int32) (_ : Unit) => x = r) (fun _ t => tE dC dI cI z a b N E' V (va_A (tW cI z a b N E V) sz) t) (va_A (tW cI z a b N E V) sz)) 0 0 (va_A (tW cI z a b N E V) sz) := by
  refine Met.ofW (cc := b_S_support) (maxL := 2) (ret := (some .int)) (by decide) rfl ?_
  intro p e s m args below meth c s₁ B hml hv
  obtain ⟨rfl, hsz, hP, hK, hD0⟩ := hv
  have hx := B.exec
  have hb := B.bytes
  have hr := B.returns
  have hts1 := atoms_spec (ws := .code y_S_support b_S_support 2 (some .int) :: W0) B.pre
  have hts : ∀ w ∈ W0, w.before _ s = true := fun w h => hts1 w (List.mem_cons_of_mem _ h)
  have hown : s.vm.findClass R_S = some m.cls := findClass_of_methodNamed B.named
  have hlocks := B.notSynchronized
  subst hsz
  have hD := hD0.self (sz := s.heap.size)
  generalize hAe : va_A (tW cI z a b N E V) s.heap.size = A at hD ⊢
  have hA : ∀ q : Nat, s.heap.size ≤ q → A q := fun q h => by rw [← hAe]; exact Or.inr h
  have hS : va_S A s.heap s.heap [] := va_S.rf
  have hP : va_P (dC, dI) cls0 (tW cI z a b N E V) s.heap := hP
  have hl := lv_entry ([.ref (z 0), .int x1]) (n := 2) (Nat.le_of_ble_eq_true rfl)
  rw [lg_entry_eq]
  generalize (lg_sl ([.ref (z 0), .int x1]) ++ List.replicate (2 - (lg_sl ([.ref (z 0), .int x1])).length) Slot.unset).toArray = ls at hl ⊢
  have hl : lv_has ls 2 [(0, .ref (z 0)), (1, .int x1)] := hl
  refine lv_iload_n hx hb d_S_support_0 rfl (lv_at hl 1 rfl) ?_
  refine nCallN (As := [.int x1]) (rest := []) ⟨hx, hb, hml, hown, hts⟩ (c_S_requireSlot l x1 k1) (va_cwS 1 hts (gS kml_S_42 kst_S_requireSlot kin_S kcd_S_requireSlot) rfl rfl rfl (by decide +kernel) ⟨by show 1 + 1 ≤ 45; omega, by show 8 + (1 + 11) + 21 ≤ 2600; omega⟩) rfl hl.1 rfl (Nat.le_of_ble_eq_true rfl) d_S_support_1 ⟨Nat.zero_le _, Nat.zero_le _⟩ ?_
  refine lv_aload_n hx hb d_S_support_4 rfl (lv_at hl 0 rfl) ?_
  refine va_get (D := (dC, dI)) (ci := 0) (v := .ref (z 2)) (C := R_S) (T := T_S) (N := 4) hx hb hts in_S hown hK hP 0 rfl rfl 2 (by decide) (hts _ kfl_S_31) (fun _ h9 => h9) rfl d_S_support_5 ?_
  refine lv_aload_n hx hb d_S_support_8 rfl (lv_at hl 0 rfl) ?_
  refine va_get (D := (dC, dI)) (ci := 0) (v := .ref (z 1)) (C := R_S) (T := T_S) (N := 4) hx hb hts in_S hown hK hP 0 rfl rfl 0 (by decide) (hts _ kfl_S_9) (fun _ h9 => h9) rfl d_S_support_9 ?_
  refine lv_iload_n hx hb d_S_support_12 rfl (lv_at hl 1 rfl) ?_
  refine va_iald hx hb hK hP 1 0 rfl rfl (okb_in (n := 32) k1 (by decide)) d_S_support_13 ?_
  refine tGi (As := [.int (V x1.toNatClampNeg)]) (rest := []) ⟨hx, hb, hml, hown, hts⟩ (c_A_hangsOn l dC dI cI (z 2) a b N E _ (V x1.toNatClampNeg) hres) (cwV 1 hts (gV kml_S_74 kim_A_hangsOn ksl_A_hangsOn kin_A kcd_A_hangsOn) rfl rfl rfl (by decide +kernel) ⟨by show 40 + 1 ≤ 45; omega, by show 8 + (2 + 11) + 2500 ≤ 2600; omega⟩) hP hK hD hS hA rfl hl.1 rfl (Nat.le_of_ble_eq_true rfl) d_S_support_14 ⟨Nat.zero_le _, Nat.zero_le _⟩ (fun H locs hP hD hS => ?_)
  have hP9 : va_P (dC, dI) cls0 (tW cI z a b N E' V) H := hP
  have hD9 : va_D A (tW cI z a b N E' V) := hD
  exact W.iret (v := r) hx hb hr (fun t ht hW => ⟨⟨r, (), rfl, rfl, by rw [ht]; exact hP9, va_K.moved hW.alike hK, hD9⟩, hS.F ht⟩) hS.2.2 d_S_support_17

set_option maxHeartbeats 8000000 in
set_option maxRecDepth 100000 in
theorem c_S_tidy (l : Launch) (dC : Nat → ClassId) (dI : Nat → Nat → Nat) (cI : ClassId) (z a b : Nat → Nat) (N E : Mm) (V : Nat → Int32) (sz : Nat) (x1 : Int32) (k1 : okb x1 3) (hv : ∀ k, k < 13 → ∃ w, w < 13 ∧ N 5 k = nI w) (hC : sok (j_collect N)) : Met l y_S_tidy (.code y_S_tidy b_S_tidy 2 (some .int) :: W0) ({ frames := 45, cells := (mcW N (j_tidy N x1)), slots := (msW N (j_tidy N x1)), locals := 2600 } : Room) (va_Pc [.ref (z 0), .int x1] (tM dC dI cI z a b N E V sz)) (va_Qi (fun (x : Int32) (u : Nat → Nat) => x = j_notFalse V 32 0 0 ∧ u 0 = a 0) (fun u t => tE dC dI cI z u b (j_tidy N x1) E V (va_A (tW cI z a b N E V) sz) t) (va_A (tW cI z a b N E V) sz)) (mcW N (j_tidy N x1)) (msW N (j_tidy N x1)) (va_A (tW cI z a b N E V) sz) := by
  refine Met.ofW (cc := b_S_tidy) (maxL := 2) (ret := (some .int)) (by decide) rfl ?_
  intro p e s m args below meth c s₁ B hml hv
  obtain ⟨rfl, hsz, hP, hK, hD0⟩ := hv
  have hx := B.exec
  have hb := B.bytes
  have hr := B.returns
  have hts1 := atoms_spec (ws := .code y_S_tidy b_S_tidy 2 (some .int) :: W0) B.pre
  have hts : ∀ w ∈ W0, w.before _ s = true := fun w h => hts1 w (List.mem_cons_of_mem _ h)
  have hown : s.vm.findClass R_S = some m.cls := findClass_of_methodNamed B.named
  have hlocks := B.notSynchronized
  subst hsz
  have hD := hD0.self (sz := s.heap.size)
  generalize hAe : va_A (tW cI z a b N E V) s.heap.size = A at hD ⊢
  have hA : ∀ q : Nat, s.heap.size ≤ q → A q := fun q h => by rw [← hAe]; exact Or.inr h
  have hS : va_S A s.heap s.heap [] := va_S.rf
  have hP : va_P (dC, dI) cls0 (tW cI z a b N E V) s.heap := hP
  have hl := lv_entry ([.ref (z 0), .int x1]) (n := 2) (Nat.le_of_ble_eq_true rfl)
  rw [lg_entry_eq]
  generalize (lg_sl ([.ref (z 0), .int x1]) ++ List.replicate (2 - (lg_sl ([.ref (z 0), .int x1])).length) Slot.unset).toArray = ls at hl ⊢
  have hl : lv_has ls 2 [(0, .ref (z 0)), (1, .int x1)] := hl
  refine lv_iload_n hx hb d_S_tidy_0 rfl (lv_at hl 1 rfl) ?_
  refine lv_iconst (v := 3) hx hb d_S_tidy_1 (by decide) ?_
  refine nCallN (As := [.int x1, .int 3]) (rest := []) ⟨hx, hb, hml, hown, hts⟩ (c_S_requireBelow l x1 3 k1) (va_cwS 2 hts (gS kml_S_50 kst_S_requireBelow kin_S kcd_S_requireBelow) rfl rfl rfl (by decide +kernel) ⟨by show 0 + 1 ≤ 45; omega, by show 8 + (2 + 11) + 0 ≤ 2600; omega⟩) rfl hl.1 rfl (Nat.le_of_ble_eq_true rfl) d_S_tidy_2 ⟨Nat.zero_le _, Nat.zero_le _⟩ ?_
  refine lv_aload_n hx hb d_S_tidy_5 rfl (lv_at hl 0 rfl) ?_
  refine va_get (D := (dC, dI)) (ci := 0) (v := .ref (a 0)) (C := R_S) (T := T_S) (N := 4) hx hb hts in_S hown hK hP 0 rfl rfl 1 (by decide) (hts _ kfl_S_22) (fun _ h9 => h9) rfl d_S_tidy_6 ?_
  refine tNv (As := []) (rest := []) ⟨hx, hb, hml, hown, hts⟩ (c_N_collect l dC dI cI a N _ hv) (cwV 0 hts (gV kml_S_84 kim_N_collect ksl_N_collect kin_N kcd_N_collect) rfl rfl rfl (by decide +kernel) ⟨by show 3 + 1 ≤ 45; omega, by show 8 + (4 + 11) + 72 ≤ 2600; omega⟩) hP hK hD hS hA rfl hl.1 rfl (Nat.le_of_ble_eq_true rfl) d_S_tidy_9 ⟨Nat.zero_le _, Nat.zero_le _⟩ (fun H locs hP hD hS => ?_)
  refine lv_iload_n hx hb d_S_tidy_12 rfl (lv_at hl 1 rfl) ?_
  refine lv_iconst (v := 1) hx hb d_S_tidy_13 (by decide) ?_
  refine lv_icmp_ne (tgt := 27) hx hb d_S_tidy_14 (by decide) (fun c14 => ?_) (fun c14 => ?_)
  · refine lv_iload_n hx hb d_S_tidy_27 rfl (lv_at hl 1 rfl) ?_
    refine lv_iconst (v := 2) hx hb d_S_tidy_28 (by decide) ?_
    refine lv_icmp_ne (tgt := 39) hx hb d_S_tidy_29 (by decide) (fun c29 => ?_) (fun c29 => ?_)
    · refine lv_aload_n hx hb d_S_tidy_39 rfl (lv_at hl 0 rfl) ?_
      refine tSR (As := []) (rest := []) ⟨hx, hb, hml, hown, hts⟩ (c_S_slotsNotFalse l dC dI cI z a b (j_collect N) E V) (cwV 0 hts (gV kml_S_93 kim_S_slotsNotFalse ksl_S_slotsNotFalse kin_S kcd_S_slotsNotFalse) rfl rfl rfl (by decide +kernel) ⟨by show 1 + 1 ≤ 45; omega, by show 8 + (6 + 11) + 30 ≤ 2600; omega⟩) hP hK rfl hl.1 rfl (Nat.le_of_ble_eq_true rfl) d_S_tidy_40 ⟨Nat.zero_le _, Nat.zero_le _⟩ ?_
      have eP : j_tidy N x1 = j_collect N := by unfold j_tidy; rw [if_neg c14, if_neg c29]
      rw [← eP] at hP hD
      refine W.widen (k := mcW N (j_tidy N x1)) (n := msW N (j_tidy N x1)) (Nat.zero_le _) (Nat.zero_le _) ?_
      have hP9 : va_P (dC, dI) cls0 (tW cI z a b (j_tidy N x1) E V) H := hP
      have hD9 : va_D A (tW cI z a b (j_tidy N x1) E V) := hD
      exact W.iret (v := (j_notFalse V 32 0 0)) hx hb hr (fun t ht hW => ⟨⟨j_notFalse V 32 0 0, a, rfl, ⟨rfl, rfl⟩, by rw [ht]; exact hP9, va_K.moved hW.alike hK, hD9⟩, hS.F ht⟩) hS.2.2 d_S_tidy_43
    · refine lv_aload_n hx hb d_S_tidy_32 rfl (lv_at hl 0 rfl) ?_
      refine va_get (D := (dC, dI)) (ci := 0) (v := .ref (z 3)) (C := R_S) (T := T_S) (N := 4) hx hb hts in_S hown hK hP 0 rfl rfl 3 (by decide) (hts _ kfl_S_38) (fun _ h9 => h9) rfl d_S_tidy_33 ?_
      have eP : j_tidy N x1 = j_trO 11 (j_collect N) := by unfold j_tidy; rw [if_neg c14, if_pos c29]
      have emc : mcW (j_collect N) (j_trO 11 (j_collect N)) = mcW N (j_tidy N x1) := by unfold mcW rmN; rw [collect_00, eP]
      have ems : msW (j_collect N) (j_trO 11 (j_collect N)) = msW N (j_tidy N x1) := by unfold msW rmN; rw [collect_00, eP]
      refine tFW (As := []) (rest := []) ⟨hx, hb, hml, hown, hts⟩ (c_F_turnRound l dC dI cI (z 3) a (j_collect N) _ hC) (cwV 0 hts (gV kml_S_90 kim_F_turnRound ksl_F_turnRound kin_F kcd_F_turnRound) rfl rfl rfl (by decide +kernel) ⟨by show 5 + 1 ≤ 45; omega, by show 8 + (3 + 11) + 140 ≤ 2600; omega⟩) hP hK hD hS hA rfl hl.1 rfl (Nat.le_of_ble_eq_true rfl) d_S_tidy_36 ⟨by rw [emc]; show 0 + _ ≤ (mcW N (j_tidy N x1)); omega, by rw [ems]; show 0 + _ ≤ (msW N (j_tidy N x1)); omega⟩ (fun u H locs hu hP hD hS => ?_)
      refine W.widen (k := (mcW N (j_tidy N x1))) (n := (msW N (j_tidy N x1))) (by omega) (by omega) ?_
      rw [← eP] at hP hD
      refine lv_aload_n hx hb d_S_tidy_39 rfl (lv_at hl 0 rfl) ?_
      refine tSR (As := []) (rest := []) ⟨hx, hb, hml, hown, hts⟩ (c_S_slotsNotFalse l dC dI cI z u b (j_tidy N x1) E V) (cwV 0 hts (gV kml_S_93 kim_S_slotsNotFalse ksl_S_slotsNotFalse kin_S kcd_S_slotsNotFalse) rfl rfl rfl (by decide +kernel) ⟨by show 1 + 1 ≤ 45; omega, by show 8 + (6 + 11) + 30 ≤ 2600; omega⟩) hP hK rfl hl.1 rfl (Nat.le_of_ble_eq_true rfl) d_S_tidy_40 ⟨Nat.le_refl _, Nat.le_refl _⟩ ?_
      have hP9 : va_P (dC, dI) cls0 (tW cI z u b (j_tidy N x1) E V) H := hP
      have hD9 : va_D A (tW cI z u b (j_tidy N x1) E V) := hD
      exact W.iret (v := (j_notFalse V 32 0 0)) hx hb hr (fun t ht hW => ⟨⟨j_notFalse V 32 0 0, u, rfl, ⟨rfl, hu⟩, by rw [ht]; exact hP9, va_K.moved hW.alike hK, hD9⟩, hS.F ht⟩) hS.2.2 d_S_tidy_43
  · refine lv_aload_n hx hb d_S_tidy_17 rfl (lv_at hl 0 rfl) ?_
    refine va_get (D := (dC, dI)) (ci := 0) (v := .ref (z 3)) (C := R_S) (T := T_S) (N := 4) hx hb hts in_S hown hK hP 0 rfl rfl 3 (by decide) (hts _ kfl_S_38) (fun _ h9 => h9) rfl d_S_tidy_18 ?_
    have eP : j_tidy N x1 = j_seek (j_collect N 0 5 + 8000) 12 (j_collect N) 0 := by unfold j_tidy; rw [if_pos c14]
    have emc : mcW (j_collect N) (j_seek (j_collect N 0 5 + 8000) 12 (j_collect N) 0) = mcW N (j_tidy N x1) := by unfold mcW rmN; rw [collect_00, eP]
    have ems : msW (j_collect N) (j_seek (j_collect N 0 5 + 8000) 12 (j_collect N) 0) = msW N (j_tidy N x1) := by unfold msW rmN; rw [collect_00, eP]
    refine tFW (As := []) (rest := []) ⟨hx, hb, hml, hown, hts⟩ (c_F_seekLess l dC dI cI (z 3) a (j_collect N) _ hC) (cwV 0 hts (gV kml_S_87 kim_F_seekLess ksl_F_seekLess kin_F kcd_F_seekLess) rfl rfl rfl (by decide +kernel) ⟨by show 6 + 1 ≤ 45; omega, by show 8 + (5 + 11) + 170 ≤ 2600; omega⟩) hP hK hD hS hA rfl hl.1 rfl (Nat.le_of_ble_eq_true rfl) d_S_tidy_21 ⟨by rw [emc]; show 0 + _ ≤ (mcW N (j_tidy N x1)); omega, by rw [ems]; show 0 + _ ≤ (msW N (j_tidy N x1)); omega⟩ (fun u H locs hu hP hD hS => ?_)
    refine W.widen (k := (mcW N (j_tidy N x1))) (n := (msW N (j_tidy N x1))) (by omega) (by omega) ?_
    rw [← eP] at hP hD
    refine lv_goto (tgt := 39) hx hb d_S_tidy_24 (by decide) ?_
    refine lv_aload_n hx hb d_S_tidy_39 rfl (lv_at hl 0 rfl) ?_
    refine tSR (As := []) (rest := []) ⟨hx, hb, hml, hown, hts⟩ (c_S_slotsNotFalse l dC dI cI z u b (j_tidy N x1) E V) (cwV 0 hts (gV kml_S_93 kim_S_slotsNotFalse ksl_S_slotsNotFalse kin_S kcd_S_slotsNotFalse) rfl rfl rfl (by decide +kernel) ⟨by show 1 + 1 ≤ 45; omega, by show 8 + (6 + 11) + 30 ≤ 2600; omega⟩) hP hK rfl hl.1 rfl (Nat.le_of_ble_eq_true rfl) d_S_tidy_40 ⟨Nat.le_refl _, Nat.le_refl _⟩ ?_
    have hP9 : va_P (dC, dI) cls0 (tW cI z u b (j_tidy N x1) E V) H := hP
    have hD9 : va_D A (tW cI z u b (j_tidy N x1) E V) := hD
    exact W.iret (v := (j_notFalse V 32 0 0)) hx hb hr (fun t ht hW => ⟨⟨j_notFalse V 32 0 0, u, rfl, ⟨rfl, hu⟩, by rw [ht]; exact hP9, va_K.moved hW.alike hK, hD9⟩, hS.F ht⟩) hS.2.2 d_S_tidy_43

set_option maxHeartbeats 8000000 in
set_option maxRecDepth 100000 in
theorem c_S_count (l : Launch) (dC : Nat → ClassId) (dI : Nat → Nat → Nat) (cI : ClassId) (z a b : Nat → Nat) (N E : Mm) (V : Nat → Int32) (sz : Nat) (x1 : Int32) (k1 : okb x1 32) {E' : Mm} {r : Int32} (hres : j_hang 12 N (j_forget E) (V x1.toNatClampNeg) = (E', r)) (hev : r &&& (-1366) = 0) : Met l y_S_count (.code y_S_count b_S_count 5 (some .int) :: W0) ({ frames := 45, cells := 0, slots := 0, locals := 2600 } : Room) (va_Pc [.ref (z 0), .int x1] (tM dC dI cI z a b N E V sz)) (va_Qi (fun (x : Int32) (_ : Unit) => x = j_countL N (V x1.toNatClampNeg) 64 0 0) (fun _ t => tE dC dI cI z a b N E' V (va_A (tW cI z a b N E V) sz) t) (va_A (tW cI z a b N E V) sz)) 0 0 (va_A (tW cI z a b N E V) sz) := by
  refine Met.ofW (cc := b_S_count) (maxL := 5) (ret := (some .int)) (by decide) rfl ?_
  intro p e s m args below meth c s₁ B hml hv
  obtain ⟨rfl, hsz, hP, hK, hD0⟩ := hv
  have hx := B.exec
  have hb := B.bytes
  have hr := B.returns
  have hts1 := atoms_spec (ws := .code y_S_count b_S_count 5 (some .int) :: W0) B.pre
  have hts : ∀ w ∈ W0, w.before _ s = true := fun w h => hts1 w (List.mem_cons_of_mem _ h)
  have hown : s.vm.findClass R_S = some m.cls := findClass_of_methodNamed B.named
  have hlocks := B.notSynchronized
  subst hsz
  have hD := hD0.self (sz := s.heap.size)
  generalize hAe : va_A (tW cI z a b N E V) s.heap.size = A at hD ⊢
  have hA : ∀ q : Nat, s.heap.size ≤ q → A q := fun q h => by rw [← hAe]; exact Or.inr h
  have hS : va_S A s.heap s.heap [] := va_S.rf
  have hP : va_P (dC, dI) cls0 (tW cI z a b N E V) s.heap := hP
  have hl := lv_entry ([.ref (z 0), .int x1]) (n := 5) (Nat.le_of_ble_eq_true rfl)
  rw [lg_entry_eq]
  generalize (lg_sl ([.ref (z 0), .int x1]) ++ List.replicate (5 - (lg_sl ([.ref (z 0), .int x1])).length) Slot.unset).toArray = ls at hl ⊢
  have hl : lv_has ls 5 [(0, .ref (z 0)), (1, .int x1)] := hl
  have loop : ∀ (n j : Nat) (f w : Int32) (H : Heap) (locs : List Loc), va_P (dC, dI) cls0 (tW cI z a b N E' V) H → va_D A (tW cI z a b N E' V) → va_S A s.heap H locs → j + n = 64 → j_countL N (V x1.toNatClampNeg) 64 0 0 = j_countL N (V x1.toNatClampNeg) n f w → ∀ (ls : Array Slot), lv_has ls 5 [(4, .int (nI j)), (2, .int f), (3, .int w), (1, .int x1), (0, .ref (z 0))] → W p l e (headSpec (.code y_S_count b_S_count 5 (some .int) :: W0) ({ frames := 45, cells := 0, slots := 0, locals := 2600 } : Room)).room s m ([.ref (z 0), .int x1] : List Value).toArray below meth c H locs 0 0 (MQ below (va_Qi (fun (x : Int32) (_ : Unit) => x = j_countL N (V x1.toNatClampNeg) 64 0 0) (fun _ t => tE dC dI cI z a b N E' V A t) A) ([.ref (z 0), .int x1] : List Value).toArray s 0 0 A) (F0 m 41 ls []) := by
    intro n
    induction n with
    | zero =>
      intro j f w H locs hP hD hS hj hr0 ls hl
      refine lv_iload hx hb d_S_count_41 (lv_at hl 0 rfl) ?_
      refine lv_bipush (v := 64) hx hb d_S_count_43 (by decide) ?_
      refine lv_icmp_ge (tgt := 84) hx hb d_S_count_45 (by decide) (fun c45 => ?_) (fun c45 => ?_)
      · refine lv_iload_n hx hb d_S_count_84 rfl (lv_at hl 1 rfl) ?_
        have hP9 : va_P (dC, dI) cls0 (tW cI z a b N E' V) H := hP
        have hD9 : va_D A (tW cI z a b N E' V) := hD
        exact W.iret (v := f) hx hb hr (fun t ht hW => ⟨⟨f, (), rfl, by rw [hr0]; rfl, by rw [ht]; exact hP9, va_K.moved hW.alike hK, hD9⟩, hS.F ht⟩) hS.2.2 d_S_count_85
      · exact absurd (nI_le (a := 64) (by omega) (by omega)) c45
    | succ n ih =>
      intro j f w H locs hP hD hS hj hr0 ls hl
      refine lv_iload hx hb d_S_count_41 (lv_at hl 0 rfl) ?_
      refine lv_bipush (v := 64) hx hb d_S_count_43 (by decide) ?_
      refine lv_icmp_ge (tgt := 84) hx hb d_S_count_45 (by decide) (fun c45 => ?_) (fun c45 => ?_)
      · exact absurd c45 (nI_ge (b := 64) (by omega) (by omega))
      · refine lv_aload_n hx hb d_S_count_48 rfl (lv_at hl 4 rfl) ?_
        refine va_get (D := (dC, dI)) (ci := 0) (v := .ref (a 0)) (C := R_S) (T := T_S) (N := 4) hx hb hts in_S hown hK hP 0 rfl rfl 1 (by decide) (hts _ kfl_S_22) (fun _ h9 => h9) rfl d_S_count_49 ?_
        refine lv_aload_n hx hb d_S_count_52 rfl (lv_at hl 4 rfl) ?_
        refine va_get (D := (dC, dI)) (ci := 0) (v := .ref (z 1)) (C := R_S) (T := T_S) (N := 4) hx hb hts in_S hown hK hP 0 rfl rfl 0 (by decide) (hts _ kfl_S_9) (fun _ h9 => h9) rfl d_S_count_53 ?_
        refine lv_iload_n hx hb d_S_count_56 rfl (lv_at hl 3 rfl) ?_
        refine va_iald hx hb hK hP 1 0 rfl rfl (okb_in (n := 32) k1 (by decide)) d_S_count_57 ?_
        refine lv_iload_n hx hb d_S_count_58 rfl (lv_at hl 2 rfl) ?_
        refine tNR (As := [.int (V x1.toNatClampNeg), .int w]) (rest := []) ⟨hx, hb, hml, hown, hts⟩ (c_N_truthFor l dC dI cI a N (V x1.toNatClampNeg) w) (cwV 2 hts (gV kml_S_71 kim_N_truthFor ksl_N_truthFor kin_N kcd_N_truthFor) rfl rfl rfl (by decide +kernel) ⟨by show 1 + 1 ≤ 45; omega, by show 8 + (6 + 11) + 23 ≤ 2600; omega⟩) hP hK rfl hl.1 rfl (Nat.le_of_ble_eq_true rfl) d_S_count_59 ⟨Nat.zero_le _, Nat.zero_le _⟩ ?_
        refine lv_if_eq (tgt := 68) hx hb d_S_count_62 (by decide) (fun c62 => ?_) (fun c62 => ?_)
        · refine lv_iload_n hx hb d_S_count_68 rfl (lv_at hl 2 rfl) ?_
          refine lv_sipush (v := 1365) hx hb d_S_count_69 (by decide) ?_
          refine lv_isub hx hb d_S_count_72 ?_
          refine lv_sipush (v := 1365) hx hb d_S_count_73 (by decide) ?_
          refine lv_iand hx hb d_S_count_76 ?_
          refine lv_istore_n (lv' := [(3, .int ((w - 1365) &&& 1365)), (4, .int (nI j)), (2, .int f), (1, .int x1), (0, .ref (z 0))]) hx hb d_S_count_77 rfl hl (by decide) rfl (fun ls hl => ?_)
          refine lv_iinc (v := ((nI j) + 1)) (lv' := [(4, .int ((nI j) + 1)), (3, .int ((w - 1365) &&& 1365)), (2, .int f), (1, .int x1), (0, .ref (z 0))]) hx hb d_S_count_78 hl (k := 1) rfl rfl (by decide) rfl (fun ls hl => ?_)
          refine lv_goto (tgt := 41) hx hb d_S_count_81 (by decide) ?_
          rw [nI_1] at hl
          exact ih (j + 1) _ _ H locs hP hD hS (by omega) (by rw [hr0, j_countL, if_pos c62]) ls (lv_sub hl [0, 2, 1, 3, 4] rfl)
        · refine lv_iinc (v := (f + 1)) (lv' := [(2, .int (f + 1)), (4, .int (nI j)), (3, .int w), (1, .int x1), (0, .ref (z 0))]) hx hb d_S_count_65 hl (k := 1) rfl rfl (by decide) rfl (fun ls hl => ?_)
          refine lv_iload_n hx hb d_S_count_68 rfl (lv_at hl 2 rfl) ?_
          refine lv_sipush (v := 1365) hx hb d_S_count_69 (by decide) ?_
          refine lv_isub hx hb d_S_count_72 ?_
          refine lv_sipush (v := 1365) hx hb d_S_count_73 (by decide) ?_
          refine lv_iand hx hb d_S_count_76 ?_
          refine lv_istore_n (lv' := [(3, .int ((w - 1365) &&& 1365)), (2, .int (f + 1)), (4, .int (nI j)), (1, .int x1), (0, .ref (z 0))]) hx hb d_S_count_77 rfl hl (by decide) rfl (fun ls hl => ?_)
          refine lv_iinc (v := ((nI j) + 1)) (lv' := [(4, .int ((nI j) + 1)), (3, .int ((w - 1365) &&& 1365)), (2, .int (f + 1)), (1, .int x1), (0, .ref (z 0))]) hx hb d_S_count_78 hl (k := 2) rfl rfl (by decide) rfl (fun ls hl => ?_)
          refine lv_goto (tgt := 41) hx hb d_S_count_81 (by decide) ?_
          rw [nI_1] at hl
          exact ih (j + 1) _ _ H locs hP hD hS (by omega) (by rw [hr0, j_countL, if_neg c62]) ls (lv_sub hl [0, 2, 1, 3, 4] rfl)
  refine lv_iload_n hx hb d_S_count_0 rfl (lv_at hl 1 rfl) ?_
  refine nCallN (As := [.int x1]) (rest := []) ⟨hx, hb, hml, hown, hts⟩ (c_S_requireSlot l x1 k1) (va_cwS 1 hts (gS kml_S_42 kst_S_requireSlot kin_S kcd_S_requireSlot) rfl rfl rfl (by decide +kernel) ⟨by show 1 + 1 ≤ 45; omega, by show 8 + (1 + 11) + 21 ≤ 2600; omega⟩) rfl hl.1 rfl (Nat.le_of_ble_eq_true rfl) d_S_count_1 ⟨Nat.zero_le _, Nat.zero_le _⟩ ?_
  refine lv_aload_n hx hb d_S_count_4 rfl (lv_at hl 0 rfl) ?_
  refine va_get (D := (dC, dI)) (ci := 0) (v := .ref (z 2)) (C := R_S) (T := T_S) (N := 4) hx hb hts in_S hown hK hP 0 rfl rfl 2 (by decide) (hts _ kfl_S_31) (fun _ h9 => h9) rfl d_S_count_5 ?_
  refine lv_aload_n hx hb d_S_count_8 rfl (lv_at hl 0 rfl) ?_
  refine va_get (D := (dC, dI)) (ci := 0) (v := .ref (z 1)) (C := R_S) (T := T_S) (N := 4) hx hb hts in_S hown hK hP 0 rfl rfl 0 (by decide) (hts _ kfl_S_9) (fun _ h9 => h9) rfl d_S_count_9 ?_
  refine lv_iload_n hx hb d_S_count_12 rfl (lv_at hl 1 rfl) ?_
  refine va_iald hx hb hK hP 1 0 rfl rfl (okb_in (n := 32) k1 (by decide)) d_S_count_13 ?_
  refine tGi (As := [.int (V x1.toNatClampNeg)]) (rest := []) ⟨hx, hb, hml, hown, hts⟩ (c_A_hangsOn l dC dI cI (z 2) a b N E _ (V x1.toNatClampNeg) hres) (cwV 1 hts (gV kml_S_74 kim_A_hangsOn ksl_A_hangsOn kin_A kcd_A_hangsOn) rfl rfl rfl (by decide +kernel) ⟨by show 40 + 1 ≤ 45; omega, by show 8 + (2 + 11) + 2500 ≤ 2600; omega⟩) hP hK hD hS hA rfl hl.1 rfl (Nat.le_of_ble_eq_true rfl) d_S_count_14 ⟨Nat.zero_le _, Nat.zero_le _⟩ (fun H locs hP hD hS => ?_)
  refine lv_sipush (v := -1366) hx hb d_S_count_17 (by decide) ?_
  refine lv_iand hx hb d_S_count_20 ?_
  refine lv_if_eq (tgt := 34) hx hb d_S_count_21 (by decide) (fun c21 => ?_) (fun c21 => ?_)
  · refine lv_iconst (v := 0) hx hb d_S_count_34 (by decide) ?_
    refine lv_istore_n (lv' := [(2, .int 0), (0, .ref (z 0)), (1, .int x1)]) hx hb d_S_count_35 rfl hl (by decide) rfl (fun ls hl => ?_)
    refine lv_iconst (v := 0) hx hb d_S_count_36 (by decide) ?_
    refine lv_istore_n (lv' := [(3, .int 0), (2, .int 0), (0, .ref (z 0)), (1, .int x1)]) hx hb d_S_count_37 rfl hl (by decide) rfl (fun ls hl => ?_)
    refine lv_iconst (v := 0) hx hb d_S_count_38 (by decide) ?_
    refine lv_istore (lv' := [(4, .int 0), (3, .int 0), (2, .int 0), (0, .ref (z 0)), (1, .int x1)]) hx hb d_S_count_39 hl (by decide) rfl (fun ls hl => ?_)
    exact loop 64 0 0 0 H locs hP hD hS rfl rfl ls (lv_sub hl [0, 2, 1, 4, 3] rfl)
  · exact absurd hev c21
