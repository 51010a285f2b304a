set_option maxHeartbeats 4000000 in
set_option maxRecDepth 100000 in
/-- N_truthFor -/
theorem c_N_truthFor (l : Launch) (dC : Nat → ClassId) (dI : Nat → Nat → Nat) (cI : ClassId) (a : Nat → Nat) (N : Mm) (x1 x2 : Int32) : Met l y_N_truthFor (.code y_N_truthFor b_N_truthFor 6 (some .boolean) :: W0) ({ frames := 1, cells := 0, slots := 0, locals := 23 } : Room) (va_Pc [.ref (a 0), .int x1, .int x2] (nR dC dI cI a N)) (QcRead (j_truthFor N x1 x2)) 0 0 (fun _ => False) := by
  refine Met.ofW (cc := b_N_truthFor) (maxL := 6) (ret := (some .boolean)) (by decide) rfl ?_
  intro p e s m args below meth c s₁ B hml hv
  obtain ⟨rfl, hP, hK⟩ := hv
  have hx := B.exec
  have hb := B.bytes
  have hr := B.returns
  have hts1 := atoms_spec (ws := .code y_N_truthFor b_N_truthFor 6 (some .boolean) :: W0) B.pre
  have hts : ∀ w ∈ W0, w.before _ s = true := fun w h => hts1 w (List.mem_cons_of_mem _ h)
  have hown : s.vm.findClass R_N = some m.cls := findClass_of_methodNamed B.named
  have hlocks := B.notSynchronized
  have hl := lv_entry ([.ref (a 0), .int x1, .int x2]) (n := 6) (Nat.le_of_ble_eq_true rfl)
  rw [lg_entry_eq]
  generalize (lg_sl ([.ref (a 0), .int x1, .int x2]) ++ List.replicate (6 - (lg_sl ([.ref (a 0), .int x1, .int x2])).length) Slot.unset).toArray = ls at hl ⊢
  have hl : lv_has ls 6 [(0, .ref (a 0)), (1, .int x1), (2, .int x2)] := hl
  have loop : ∀ (n : Nat) (i : Nat) (x3 : Int32), i + n = 12 → j_truthFor N x1 x2 = (if j_truthL N x2 n x3 = 1 then 1 else 0) → ∀ (ls : Array Slot), lv_has ls 6 [(4, .int (nI i)), (3, .int x3), (0, .ref (a 0)), (1, .int x1), (2, .int x2)] → W p l e (headSpec (.code y_N_truthFor b_N_truthFor 6 (some .boolean) :: W0) ({ frames := 1, cells := 0, slots := 0, locals := 23 } : Room)).room s m ([.ref (a 0), .int x1, .int x2] : List Value).toArray below meth c s.heap [] 0 0 (MQ below (QcRead (j_truthFor N x1 x2)) ([.ref (a 0), .int x1, .int x2] : List Value).toArray s 0 0 (fun _ => False)) (F0 m 5 ls []) := by
    intro n
    induction n with
    | zero =>
      intro i x3 hi hr0 ls hl
      refine lv_iload hx hb d_N_truthFor_5 (lv_at hl 0 rfl) ?_
      refine lv_bipush (v := 12) hx hb d_N_truthFor_7 (by decide) ?_
      refine lv_icmp_ge (tgt := 59) hx hb d_N_truthFor_9 (by decide) (fun c9 => ?_) (fun c9 => ?_)
      · refine lv_iload_n hx hb d_N_truthFor_59 rfl (lv_at hl 1 rfl) ?_
        refine lv_iconst (v := 1) hx hb d_N_truthFor_60 (by decide) ?_
        refine lv_icmp_ne (tgt := 68) hx hb d_N_truthFor_61 (by decide) (fun c61 => ?_) (fun c61 => ?_)
        · refine lv_iconst (v := 0) hx hb d_N_truthFor_68 (by decide) ?_
          exact W.zret (ty := .boolean) (v := 0) hx hb hr rfl (fun t ht hW => ⟨by rw [show j_truthFor N x1 x2 = 0 from by rw [hr0]; simp only [j_truthL, c9, c61, Int32.not_lt.mpr c9, if_true, if_false, not_true_eq_false, not_false_eq_true, true_and, and_true, false_and, and_false, true_or, or_true, false_or, or_false, ite_true, ite_false]], ht⟩) (fun q h => by cases h) d_N_truthFor_69
        · refine lv_iconst (v := 1) hx hb d_N_truthFor_64 (by decide) ?_
          refine lv_goto (tgt := 69) hx hb d_N_truthFor_65 (by decide) ?_
          exact W.zret (ty := .boolean) (v := 1) hx hb hr rfl (fun t ht hW => ⟨by rw [show j_truthFor N x1 x2 = 1 from by rw [hr0]; (first | (simp only [j_truthL, c9, if_pos c61, Int32.not_lt.mpr c9, if_true, if_false, not_true_eq_false, not_false_eq_true, true_and, and_true, false_and, and_false, true_or, or_true, false_or, or_false, ite_true, ite_false]; done) | (simp only [j_truthL, c9, c61, Int32.not_lt.mpr c9, if_true, if_false, not_true_eq_false, not_false_eq_true, true_and, and_true, false_and, and_false, true_or, or_true, false_or, or_false, ite_true, ite_false]; done) | (simp only [j_truthL, c9, Int32.not_lt.mpr c9, if_true, if_false, not_true_eq_false, not_false_eq_true, true_and, and_true, false_and, and_false, true_or, or_true, false_or, or_false, ite_true, ite_false]; rw [if_pos c61]))], ht⟩) (fun q h => by cases h) d_N_truthFor_69
      · exact absurd (nI_le (a := 12) (b := i) (by omega) (by omega)) c9
    | succ n ih =>
      intro i x3 hi hr0 ls hl
      refine lv_iload hx hb d_N_truthFor_5 (lv_at hl 0 rfl) ?_
      refine lv_bipush (v := 12) hx hb d_N_truthFor_7 (by decide) ?_
      refine lv_icmp_ge (tgt := 59) hx hb d_N_truthFor_9 (by decide) (fun c9 => ?_) (fun c9 => ?_)
      · exact absurd c9 (nI_ge (a := i) (b := 12) (by omega) (by omega))
      · refine lv_iload_n hx hb d_N_truthFor_12 rfl (lv_at hl 1 rfl) ?_
        refine lv_iconst (v := 1) hx hb d_N_truthFor_13 (by decide) ?_
        refine lv_icmp_le (tgt := 59) hx hb d_N_truthFor_14 (by decide) (fun c14 => ?_) (fun c14 => ?_)
        · refine lv_iload_n hx hb d_N_truthFor_59 rfl (lv_at hl 1 rfl) ?_
          refine lv_iconst (v := 1) hx hb d_N_truthFor_60 (by decide) ?_
          refine lv_icmp_ne (tgt := 68) hx hb d_N_truthFor_61 (by decide) (fun c61 => ?_) (fun c61 => ?_)
          · refine lv_iconst (v := 0) hx hb d_N_truthFor_68 (by decide) ?_
            exact W.zret (ty := .boolean) (v := 0) hx hb hr rfl (fun t ht hW => ⟨by rw [show j_truthFor N x1 x2 = 0 from by rw [hr0]; simp only [j_truthL, c9, c14, c61, Int32.not_le.mp c9, Int32.not_lt.mpr c14, if_true, if_false, not_true_eq_false, not_false_eq_true, true_and, and_true, false_and, and_false, true_or, or_true, false_or, or_false, ite_true, ite_false]], ht⟩) (fun q h => by cases h) d_N_truthFor_69
          · refine lv_iconst (v := 1) hx hb d_N_truthFor_64 (by decide) ?_
            refine lv_goto (tgt := 69) hx hb d_N_truthFor_65 (by decide) ?_
            exact W.zret (ty := .boolean) (v := 1) hx hb hr rfl (fun t ht hW => ⟨by rw [show j_truthFor N x1 x2 = 1 from by rw [hr0]; (first | (simp only [j_truthL, c9, c14, if_pos c61, Int32.not_le.mp c9, Int32.not_lt.mpr c14, if_true, if_false, not_true_eq_false, not_false_eq_true, true_and, and_true, false_and, and_false, true_or, or_true, false_or, or_false, ite_true, ite_false]; done) | (simp only [j_truthL, c9, c14, c61, Int32.not_le.mp c9, Int32.not_lt.mpr c14, if_true, if_false, not_true_eq_false, not_false_eq_true, true_and, and_true, false_and, and_false, true_or, or_true, false_or, or_false, ite_true, ite_false]; done) | (simp only [j_truthL, c9, c14, Int32.not_le.mp c9, Int32.not_lt.mpr c14, if_true, if_false, not_true_eq_false, not_false_eq_true, true_and, and_true, false_and, and_false, true_or, or_true, false_or, or_false, ite_true, ite_false]; rw [if_pos c61]))], ht⟩) (fun q h => by cases h) d_N_truthFor_69
        · refine lv_iload_n hx hb d_N_truthFor_17 rfl (lv_at hl 4 rfl) ?_
          refine lv_aload_n hx hb d_N_truthFor_18 rfl (lv_at hl 2 rfl) ?_
          refine lv_iload_n hx hb d_N_truthFor_19 rfl (lv_at hl 1 rfl) ?_
          refine lv_iconst (v := 0) hx hb d_N_truthFor_20 (by decide) ?_
          refine nCallR (As := [.int x3, .int 0]) (rest := [.int x2]) ⟨hx, hb, hml, hown, hts⟩ (c_N_get l dC dI cI a N x3 0) (cwV 2 hts (gV kml_N_46 kim_N_get ksl_N_get kin_N kcd_N_get) rfl rfl rfl (by decide +kernel) ⟨Nat.le_of_ble_eq_true rfl, Nat.le_of_ble_eq_true rfl⟩) hP hK rfl hl.1 rfl (Nat.le_of_ble_eq_true rfl) d_N_truthFor_21 ⟨Nat.zero_le _, Nat.zero_le _⟩ ?_
          refine lv_ishr hx hb d_N_truthFor_24 ?_
          refine lv_iconst (v := 1) hx hb d_N_truthFor_25 (by decide) ?_
          refine lv_iand hx hb d_N_truthFor_26 ?_
          refine lv_if_eq (tgt := 34) hx hb d_N_truthFor_27 (by decide) (fun c27 => ?_) (fun c27 => ?_)
          · refine lv_iconst (v := 0) hx hb d_N_truthFor_34 (by decide) ?_
            refine lv_istore (lv' := [(5, .int 0), (4, .int (nI i)), (3, .int x3), (0, .ref (a 0)), (1, .int x1), (2, .int x2)]) hx hb d_N_truthFor_35 hl (by decide) rfl (fun ls hl => ?_)
            refine lv_aload_n hx hb d_N_truthFor_37 rfl (lv_at hl 3 rfl) ?_
            refine lv_iload_n hx hb d_N_truthFor_38 rfl (lv_at hl 2 rfl) ?_
            refine lv_iload hx hb d_N_truthFor_39 (lv_at hl 0 rfl) ?_
            refine lv_if_eq (tgt := 48) hx hb d_N_truthFor_41 (by decide) (fun c41 => ?_) (fun c41 => ?_)
            · refine lv_iconst (v := 1) hx hb d_N_truthFor_48 (by decide) ?_
              refine nCallR (As := [.int x3, .int 1]) (rest := []) ⟨hx, hb, hml, hown, hts⟩ (c_N_get l dC dI cI a N x3 1) (cwV 2 hts (gV kml_N_46 kim_N_get ksl_N_get kin_N kcd_N_get) rfl rfl rfl (by decide +kernel) ⟨Nat.le_of_ble_eq_true rfl, Nat.le_of_ble_eq_true rfl⟩) hP hK rfl hl.1 rfl (Nat.le_of_ble_eq_true rfl) d_N_truthFor_49 ⟨Nat.zero_le _, Nat.zero_le _⟩ ?_
              refine lv_istore_n (lv' := [(3, .int (j_get N x3 1)), (5, .int 0), (4, .int (nI i)), (0, .ref (a 0)), (1, .int x1), (2, .int x2)]) hx hb d_N_truthFor_52 rfl hl (by decide) rfl (fun ls hl => ?_)
              refine lv_iinc (v := ((nI i) + 1)) (lv' := [(4, .int ((nI i) + 1)), (3, .int (j_get N x3 1)), (5, .int 0), (0, .ref (a 0)), (1, .int x1), (2, .int x2)]) hx hb d_N_truthFor_53 hl (k := 2) rfl rfl (by decide) rfl (fun ls hl => ?_)
              refine lv_goto (tgt := 5) hx hb d_N_truthFor_56 (by decide) ?_
              rw [nI_1] at hl
              exact ih (i + 1) _ (by omega) (by rw [hr0]; (first | (simp only [j_truthL, c9, c14, if_pos c27, Int32.not_le.mp c9, Int32.not_le.mp c14, if_true, if_false, not_true_eq_false, not_false_eq_true, true_and, and_true, false_and, and_false, true_or, or_true, false_or, or_false, ite_true, ite_false]; done) | (simp only [j_truthL, c9, c14, c27, Int32.not_le.mp c9, Int32.not_le.mp c14, if_true, if_false, not_true_eq_false, not_false_eq_true, true_and, and_true, false_and, and_false, true_or, or_true, false_or, or_false, ite_true, ite_false]; done) | (simp only [j_truthL, c9, c14, Int32.not_le.mp c9, Int32.not_le.mp c14, if_true, if_false, not_true_eq_false, not_false_eq_true, true_and, and_true, false_and, and_false, true_or, or_true, false_or, or_false, ite_true, ite_false]; rw [if_pos c27]))) ls (lv_sub hl [0, 1, 3, 4, 5] rfl)
            · exact absurd (by decide) c41
          · refine lv_iconst (v := 1) hx hb d_N_truthFor_30 (by decide) ?_
            refine lv_goto (tgt := 35) hx hb d_N_truthFor_31 (by decide) ?_
            refine lv_istore (lv' := [(5, .int 1), (4, .int (nI i)), (3, .int x3), (0, .ref (a 0)), (1, .int x1), (2, .int x2)]) hx hb d_N_truthFor_35 hl (by decide) rfl (fun ls hl => ?_)
            refine lv_aload_n hx hb d_N_truthFor_37 rfl (lv_at hl 3 rfl) ?_
            refine lv_iload_n hx hb d_N_truthFor_38 rfl (lv_at hl 2 rfl) ?_
            refine lv_iload hx hb d_N_truthFor_39 (lv_at hl 0 rfl) ?_
            refine lv_if_eq (tgt := 48) hx hb d_N_truthFor_41 (by decide) (fun c41 => ?_) (fun c41 => ?_)
            · exact absurd c41 (by decide)
            · refine lv_iconst (v := 2) hx hb d_N_truthFor_44 (by decide) ?_
              refine lv_goto (tgt := 49) hx hb d_N_truthFor_45 (by decide) ?_
              refine nCallR (As := [.int x3, .int 2]) (rest := []) ⟨hx, hb, hml, hown, hts⟩ (c_N_get l dC dI cI a N x3 2) (cwV 2 hts (gV kml_N_46 kim_N_get ksl_N_get kin_N kcd_N_get) rfl rfl rfl (by decide +kernel) ⟨Nat.le_of_ble_eq_true rfl, Nat.le_of_ble_eq_true rfl⟩) hP hK rfl hl.1 rfl (Nat.le_of_ble_eq_true rfl) d_N_truthFor_49 ⟨Nat.zero_le _, Nat.zero_le _⟩ ?_
              refine lv_istore_n (lv' := [(3, .int (j_get N x3 2)), (5, .int 1), (4, .int (nI i)), (0, .ref (a 0)), (1, .int x1), (2, .int x2)]) hx hb d_N_truthFor_52 rfl hl (by decide) rfl (fun ls hl => ?_)
              refine lv_iinc (v := ((nI i) + 1)) (lv' := [(4, .int ((nI i) + 1)), (3, .int (j_get N x3 2)), (5, .int 1), (0, .ref (a 0)), (1, .int x1), (2, .int x2)]) hx hb d_N_truthFor_53 hl (k := 2) rfl rfl (by decide) rfl (fun ls hl => ?_)
              refine lv_goto (tgt := 5) hx hb d_N_truthFor_56 (by decide) ?_
              rw [nI_1] at hl
              exact ih (i + 1) _ (by omega) (by rw [hr0]; simp only [j_truthL, c9, c14, c27, Int32.not_le.mp c9, Int32.not_le.mp c14, if_true, if_false, not_true_eq_false, not_false_eq_true, true_and, and_true, false_and, and_false, true_or, or_true, false_or, or_false, ite_true, ite_false]) ls (lv_sub hl [0, 1, 3, 4, 5] rfl)
  refine lv_iload_n hx hb d_N_truthFor_0 rfl (lv_at hl 1 rfl) ?_
  refine lv_istore_n (lv' := [(3, .int x1), (0, .ref (a 0)), (1, .int x1), (2, .int x2)]) hx hb d_N_truthFor_1 rfl hl (by decide) rfl (fun ls hl => ?_)
  refine lv_iconst (v := 0) hx hb d_N_truthFor_2 (by decide) ?_
  refine lv_istore (lv' := [(4, .int 0), (3, .int x1), (0, .ref (a 0)), (1, .int x1), (2, .int x2)]) hx hb d_N_truthFor_3 hl (by decide) rfl (fun ls hl => ?_)
  exact loop 12 0 x1 rfl rfl ls hl

set_option maxHeartbeats 4000000 in
set_option maxRecDepth 100000 in
/-- N_followed -/
theorem c_N_followed (l : Launch) (dC : Nat → ClassId) (dI : Nat → Nat → Nat) (cI : ClassId) (a : Nat → Nat) (N : Mm) (x1 x2 x3 : Int32) : Met l y_N_followed (.code y_N_followed b_N_followed 7 (some .int) :: W0) ({ frames := 1, cells := 0, slots := 0, locals := 23 } : Room) (va_Pc [.ref (a 0), .int x1, .int x2, .int x3] (nR dC dI cI a N)) (QcRead (j_followed N x1 x2 x3)) 0 0 (fun _ => False) := by
  refine Met.ofW (cc := b_N_followed) (maxL := 7) (ret := (some .int)) (by decide) rfl ?_
  intro p e s m args below meth c s₁ B hml hv
  obtain ⟨rfl, hP, hK⟩ := hv
  have hx := B.exec
  have hb := B.bytes
  have hr := B.returns
  have hts1 := atoms_spec (ws := .code y_N_followed b_N_followed 7 (some .int) :: W0) B.pre
  have hts : ∀ w ∈ W0, w.before _ s = true := fun w h => hts1 w (List.mem_cons_of_mem _ h)
  have hown : s.vm.findClass R_N = some m.cls := findClass_of_methodNamed B.named
  have hlocks := B.notSynchronized
  have hl := lv_entry ([.ref (a 0), .int x1, .int x2, .int x3]) (n := 7) (Nat.le_of_ble_eq_true rfl)
  rw [lg_entry_eq]
  generalize (lg_sl ([.ref (a 0), .int x1, .int x2, .int x3]) ++ List.replicate (7 - (lg_sl ([.ref (a 0), .int x1, .int x2, .int x3])).length) Slot.unset).toArray = ls at hl ⊢
  have hl : lv_has ls 7 [(0, .ref (a 0)), (1, .int x1), (2, .int x2), (3, .int x3)] := hl
  have loop : ∀ (n : Nat) (i : Nat) (x4 : Int32), i + n = 12 → j_followed N x1 x2 x3 = j_followL N x2 x3 n x4 → ∀ (ls : Array Slot), lv_has ls 7 [(5, .int (nI i)), (4, .int x4), (0, .ref (a 0)), (1, .int x1), (2, .int x2), (3, .int x3)] → W p l e (headSpec (.code y_N_followed b_N_followed 7 (some .int) :: W0) ({ frames := 1, cells := 0, slots := 0, locals := 23 } : Room)).room s m ([.ref (a 0), .int x1, .int x2, .int x3] : List Value).toArray below meth c s.heap [] 0 0 (MQ below (QcRead (j_followed N x1 x2 x3)) ([.ref (a 0), .int x1, .int x2, .int x3] : List Value).toArray s 0 0 (fun _ => False)) (F0 m 6 ls []) := by
    intro n
    induction n with
    | zero =>
      intro i x4 hi hr0 ls hl
      refine lv_iload hx hb d_N_followed_6 (lv_at hl 0 rfl) ?_
      refine lv_bipush (v := 12) hx hb d_N_followed_8 (by decide) ?_
      refine lv_icmp_ge (tgt := 72) hx hb d_N_followed_10 (by decide) (fun c10 => ?_) (fun c10 => ?_)
      · refine lv_iload hx hb d_N_followed_72 (lv_at hl 1 rfl) ?_
        exact W.iret (v := x4) hx hb hr (fun t ht hW => ⟨by rw [show j_followed N x1 x2 x3 = x4 from by rw [hr0]; simp only [j_followL, c10, Int32.not_lt.mpr c10, if_true, if_false, not_true_eq_false, not_false_eq_true, true_and, and_true, false_and, and_false, true_or, or_true, false_or, or_false, ite_true, ite_false]], ht⟩) (fun q h => by cases h) d_N_followed_74
      · exact absurd (nI_le (a := 12) (b := i) (by omega) (by omega)) c10
    | succ n ih =>
      intro i x4 hi hr0 ls hl
      refine lv_iload hx hb d_N_followed_6 (lv_at hl 0 rfl) ?_
      refine lv_bipush (v := 12) hx hb d_N_followed_8 (by decide) ?_
      refine lv_icmp_ge (tgt := 72) hx hb d_N_followed_10 (by decide) (fun c10 => ?_) (fun c10 => ?_)
      · exact absurd c10 (nI_ge (a := i) (b := 12) (by omega) (by omega))
      · refine lv_iload_n hx hb d_N_followed_13 rfl (lv_at hl 4 rfl) ?_
        refine lv_aload_n hx hb d_N_followed_14 rfl (lv_at hl 2 rfl) ?_
        refine lv_iload hx hb d_N_followed_15 (lv_at hl 1 rfl) ?_
        refine lv_iconst (v := 0) hx hb d_N_followed_17 (by decide) ?_
        refine nCallR (As := [.int x4, .int 0]) (rest := [.int x2]) ⟨hx, hb, hml, hown, hts⟩ (c_N_get l dC dI cI a N x4 0) (cwV 2 hts (gV kml_N_46 kim_N_get ksl_N_get kin_N kcd_N_get) rfl rfl rfl (by decide +kernel) ⟨Nat.le_of_ble_eq_true rfl, Nat.le_of_ble_eq_true rfl⟩) hP hK rfl hl.1 rfl (Nat.le_of_ble_eq_true rfl) d_N_followed_18 ⟨Nat.zero_le _, Nat.zero_le _⟩ ?_
        refine lv_ishr hx hb d_N_followed_21 ?_
        refine lv_iconst (v := 1) hx hb d_N_followed_22 (by decide) ?_
        refine lv_iand hx hb d_N_followed_23 ?_
        refine lv_if_eq (tgt := 72) hx hb d_N_followed_24 (by decide) (fun c24 => ?_) (fun c24 => ?_)
        · refine lv_iload hx hb d_N_followed_72 (lv_at hl 1 rfl) ?_
          exact W.iret (v := x4) hx hb hr (fun t ht hW => ⟨by rw [show j_followed N x1 x2 x3 = x4 from by rw [hr0]; (first | (simp only [j_followL, c10, if_pos c24, Int32.not_le.mp c10, if_true, if_false, not_true_eq_false, not_false_eq_true, true_and, and_true, false_and, and_false, true_or, or_true, false_or, or_false, ite_true, ite_false]; done) | (simp only [j_followL, c10, c24, Int32.not_le.mp c10, if_true, if_false, not_true_eq_false, not_false_eq_true, true_and, and_true, false_and, and_false, true_or, or_true, false_or, or_false, ite_true, ite_false]; done) | (simp only [j_followL, c10, Int32.not_le.mp c10, if_true, if_false, not_true_eq_false, not_false_eq_true, true_and, and_true, false_and, and_false, true_or, or_true, false_or, or_false, ite_true, ite_false]; rw [if_pos c24]))], ht⟩) (fun q h => by cases h) d_N_followed_74
        · refine lv_iload_n hx hb d_N_followed_27 rfl (lv_at hl 5 rfl) ?_
          refine lv_aload_n hx hb d_N_followed_28 rfl (lv_at hl 2 rfl) ?_
          refine lv_iload hx hb d_N_followed_29 (lv_at hl 1 rfl) ?_
          refine lv_iconst (v := 0) hx hb d_N_followed_31 (by decide) ?_
          refine nCallR (As := [.int x4, .int 0]) (rest := [.int x3]) ⟨hx, hb, hml, hown, hts⟩ (c_N_get l dC dI cI a N x4 0) (cwV 2 hts (gV kml_N_46 kim_N_get ksl_N_get kin_N kcd_N_get) rfl rfl rfl (by decide +kernel) ⟨Nat.le_of_ble_eq_true rfl, Nat.le_of_ble_eq_true rfl⟩) hP hK rfl hl.1 rfl (Nat.le_of_ble_eq_true rfl) d_N_followed_32 ⟨Nat.zero_le _, Nat.zero_le _⟩ ?_
          refine lv_ishr hx hb d_N_followed_35 ?_
          refine lv_iconst (v := 1) hx hb d_N_followed_36 (by decide) ?_
          refine lv_iand hx hb d_N_followed_37 ?_
          refine lv_if_eq (tgt := 45) hx hb d_N_followed_38 (by decide) (fun c38 => ?_) (fun c38 => ?_)
          · refine lv_iconst (v := 0) hx hb d_N_followed_45 (by decide) ?_
            refine lv_istore (lv' := [(6, .int 0), (5, .int (nI i)), (4, .int x4), (0, .ref (a 0)), (1, .int x1), (2, .int x2), (3, .int x3)]) hx hb d_N_followed_46 hl (by decide) rfl (fun ls hl => ?_)
            refine lv_aload_n hx hb d_N_followed_48 rfl (lv_at hl 3 rfl) ?_
            refine lv_iload hx hb d_N_followed_49 (lv_at hl 2 rfl) ?_
            refine lv_iload hx hb d_N_followed_51 (lv_at hl 0 rfl) ?_
            refine lv_if_eq (tgt := 60) hx hb d_N_followed_53 (by decide) (fun c53 => ?_) (fun c53 => ?_)
            · refine lv_iconst (v := 1) hx hb d_N_followed_60 (by decide) ?_
              refine nCallR (As := [.int x4, .int 1]) (rest := []) ⟨hx, hb, hml, hown, hts⟩ (c_N_get l dC dI cI a N x4 1) (cwV 2 hts (gV kml_N_46 kim_N_get ksl_N_get kin_N kcd_N_get) rfl rfl rfl (by decide +kernel) ⟨Nat.le_of_ble_eq_true rfl, Nat.le_of_ble_eq_true rfl⟩) hP hK rfl hl.1 rfl (Nat.le_of_ble_eq_true rfl) d_N_followed_61 ⟨Nat.zero_le _, Nat.zero_le _⟩ ?_
              refine lv_istore (lv' := [(4, .int (j_get N x4 1)), (6, .int 0), (5, .int (nI i)), (0, .ref (a 0)), (1, .int x1), (2, .int x2), (3, .int x3)]) hx hb d_N_followed_64 hl (by decide) rfl (fun ls hl => ?_)
              refine lv_iinc (v := ((nI i) + 1)) (lv' := [(5, .int ((nI i) + 1)), (4, .int (j_get N x4 1)), (6, .int 0), (0, .ref (a 0)), (1, .int x1), (2, .int x2), (3, .int x3)]) hx hb d_N_followed_66 hl (k := 2) rfl rfl (by decide) rfl (fun ls hl => ?_)
              refine lv_goto (tgt := 6) hx hb d_N_followed_69 (by decide) ?_
              rw [nI_1] at hl
              exact ih (i + 1) _ (by omega) (by rw [hr0]; (first | (simp only [j_followL, c10, c24, if_pos c38, Int32.not_le.mp c10, if_true, if_false, not_true_eq_false, not_false_eq_true, true_and, and_true, false_and, and_false, true_or, or_true, false_or, or_false, ite_true, ite_false]; done) | (simp only [j_followL, c10, c24, c38, Int32.not_le.mp c10, if_true, if_false, not_true_eq_false, not_false_eq_true, true_and, and_true, false_and, and_false, true_or, or_true, false_or, or_false, ite_true, ite_false]; done) | (simp only [j_followL, c10, c24, Int32.not_le.mp c10, if_true, if_false, not_true_eq_false, not_false_eq_true, true_and, and_true, false_and, and_false, true_or, or_true, false_or, or_false, ite_true, ite_false]; rw [if_pos c38]))) ls (lv_sub hl [0, 1, 3, 4, 5, 6] rfl)
            · exact absurd (by decide) c53
          · refine lv_iconst (v := 1) hx hb d_N_followed_41 (by decide) ?_
            refine lv_goto (tgt := 46) hx hb d_N_followed_42 (by decide) ?_
            refine lv_istore (lv' := [(6, .int 1), (5, .int (nI i)), (4, .int x4), (0, .ref (a 0)), (1, .int x1), (2, .int x2), (3, .int x3)]) hx hb d_N_followed_46 hl (by decide) rfl (fun ls hl => ?_)
            refine lv_aload_n hx hb d_N_followed_48 rfl (lv_at hl 3 rfl) ?_
            refine lv_iload hx hb d_N_followed_49 (lv_at hl 2 rfl) ?_
            refine lv_iload hx hb d_N_followed_51 (lv_at hl 0 rfl) ?_
            refine lv_if_eq (tgt := 60) hx hb d_N_followed_53 (by decide) (fun c53 => ?_) (fun c53 => ?_)
            · exact absurd c53 (by decide)
            · refine lv_iconst (v := 2) hx hb d_N_followed_56 (by decide) ?_
              refine lv_goto (tgt := 61) hx hb d_N_followed_57 (by decide) ?_
              refine nCallR (As := [.int x4, .int 2]) (rest := []) ⟨hx, hb, hml, hown, hts⟩ (c_N_get l dC dI cI a N x4 2) (cwV 2 hts (gV kml_N_46 kim_N_get ksl_N_get kin_N kcd_N_get) rfl rfl rfl (by decide +kernel) ⟨Nat.le_of_ble_eq_true rfl, Nat.le_of_ble_eq_true rfl⟩) hP hK rfl hl.1 rfl (Nat.le_of_ble_eq_true rfl) d_N_followed_61 ⟨Nat.zero_le _, Nat.zero_le _⟩ ?_
              refine lv_istore (lv' := [(4, .int (j_get N x4 2)), (6, .int 1), (5, .int (nI i)), (0, .ref (a 0)), (1, .int x1), (2, .int x2), (3, .int x3)]) hx hb d_N_followed_64 hl (by decide) rfl (fun ls hl => ?_)
              refine lv_iinc (v := ((nI i) + 1)) (lv' := [(5, .int ((nI i) + 1)), (4, .int (j_get N x4 2)), (6, .int 1), (0, .ref (a 0)), (1, .int x1), (2, .int x2), (3, .int x3)]) hx hb d_N_followed_66 hl (k := 2) rfl rfl (by decide) rfl (fun ls hl => ?_)
              refine lv_goto (tgt := 6) hx hb d_N_followed_69 (by decide) ?_
              rw [nI_1] at hl
              exact ih (i + 1) _ (by omega) (by rw [hr0]; simp only [j_followL, c10, c24, c38, Int32.not_le.mp c10, if_true, if_false, not_true_eq_false, not_false_eq_true, true_and, and_true, false_and, and_false, true_or, or_true, false_or, or_false, ite_true, ite_false]) ls (lv_sub hl [0, 1, 3, 4, 5, 6] rfl)
  refine lv_iload_n hx hb d_N_followed_0 rfl (lv_at hl 1 rfl) ?_
  refine lv_istore (lv' := [(4, .int x1), (0, .ref (a 0)), (1, .int x1), (2, .int x2), (3, .int x3)]) hx hb d_N_followed_1 hl (by decide) rfl (fun ls hl => ?_)
  refine lv_iconst (v := 0) hx hb d_N_followed_3 (by decide) ?_
  refine lv_istore (lv' := [(5, .int 0), (4, .int x1), (0, .ref (a 0)), (1, .int x1), (2, .int x2), (3, .int x3)]) hx hb d_N_followed_4 hl (by decide) rfl (fun ls hl => ?_)
  exact loop 12 0 x1 rfl rfl ls hl

set_option maxHeartbeats 4000000 in
set_option maxRecDepth 100000 in
/-- N_isMisplaced -/
theorem c_N_isMisplaced (l : Launch) (dC : Nat → ClassId) (dI : Nat → Nat → Nat) (cI : ClassId) (a : Nat → Nat) (N : Mm) (x1 x2 : Int32) : Met l y_N_isMisplaced (.code y_N_isMisplaced b_N_isMisplaced 7 (some .boolean) :: W0) ({ frames := 2, cells := 0, slots := 0, locals := 44 } : Room) (va_Pc [.ref (a 0), .int x1, .int x2] (nR dC dI cI a N)) (QcRead (j_isMisplaced N x1 x2)) 0 0 (fun _ => False) := by
  refine Met.ofW (cc := b_N_isMisplaced) (maxL := 7) (ret := (some .boolean)) (by decide) rfl ?_
  intro p e s m args below meth c s₁ B hml hv
  obtain ⟨rfl, hP, hK⟩ := hv
  have hx := B.exec
  have hb := B.bytes
  have hr := B.returns
  have hts1 := atoms_spec (ws := .code y_N_isMisplaced b_N_isMisplaced 7 (some .boolean) :: W0) B.pre
  have hts : ∀ w ∈ W0, w.before _ s = true := fun w h => hts1 w (List.mem_cons_of_mem _ h)
  have hown : s.vm.findClass R_N = some m.cls := findClass_of_methodNamed B.named
  have hlocks := B.notSynchronized
  have hl := lv_entry ([.ref (a 0), .int x1, .int x2]) (n := 7) (Nat.le_of_ble_eq_true rfl)
  rw [lg_entry_eq]
  generalize (lg_sl ([.ref (a 0), .int x1, .int x2]) ++ List.replicate (7 - (lg_sl ([.ref (a 0), .int x1, .int x2])).length) Slot.unset).toArray = ls at hl ⊢
  have hl : lv_has ls 7 [(0, .ref (a 0)), (1, .int x1), (2, .int x2)] := hl
  refine lv_aload_n hx hb d_N_isMisplaced_0 rfl (lv_at hl 0 rfl) ?_
  refine lv_iload_n hx hb d_N_isMisplaced_1 rfl (lv_at hl 1 rfl) ?_
  refine lv_iconst (v := 0) hx hb d_N_isMisplaced_2 (by decide) ?_
  refine nCallR (As := [.int x1, .int 0]) (rest := []) ⟨hx, hb, hml, hown, hts⟩ (c_N_get l dC dI cI a N x1 0) (cwV 2 hts (gV kml_N_46 kim_N_get ksl_N_get kin_N kcd_N_get) rfl rfl rfl (by decide +kernel) ⟨Nat.le_of_ble_eq_true rfl, Nat.le_of_ble_eq_true rfl⟩) hP hK rfl hl.1 rfl (Nat.le_of_ble_eq_true rfl) d_N_isMisplaced_3 ⟨Nat.zero_le _, Nat.zero_le _⟩ ?_
  refine lv_istore_n (lv' := [(3, .int (j_get N x1 0)), (0, .ref (a 0)), (1, .int x1), (2, .int x2)]) hx hb d_N_isMisplaced_6 rfl hl (by decide) rfl (fun ls hl => ?_)
  refine lv_aload_n hx hb d_N_isMisplaced_7 rfl (lv_at hl 1 rfl) ?_
  refine lv_iload_n hx hb d_N_isMisplaced_8 rfl (lv_at hl 2 rfl) ?_
  refine lv_iconst (v := 1) hx hb d_N_isMisplaced_9 (by decide) ?_
  refine nCallR (As := [.int x1, .int 1]) (rest := []) ⟨hx, hb, hml, hown, hts⟩ (c_N_get l dC dI cI a N x1 1) (cwV 2 hts (gV kml_N_46 kim_N_get ksl_N_get kin_N kcd_N_get) rfl rfl rfl (by decide +kernel) ⟨Nat.le_of_ble_eq_true rfl, Nat.le_of_ble_eq_true rfl⟩) hP hK rfl hl.1 rfl (Nat.le_of_ble_eq_true rfl) d_N_isMisplaced_10 ⟨Nat.zero_le _, Nat.zero_le _⟩ ?_
  refine lv_istore (lv' := [(4, .int (j_get N x1 1)), (3, .int (j_get N x1 0)), (0, .ref (a 0)), (1, .int x1), (2, .int x2)]) hx hb d_N_isMisplaced_13 hl (by decide) rfl (fun ls hl => ?_)
  refine lv_aload_n hx hb d_N_isMisplaced_15 rfl (lv_at hl 2 rfl) ?_
  refine lv_iload_n hx hb d_N_isMisplaced_16 rfl (lv_at hl 3 rfl) ?_
  refine lv_iconst (v := 2) hx hb d_N_isMisplaced_17 (by decide) ?_
  refine nCallR (As := [.int x1, .int 2]) (rest := []) ⟨hx, hb, hml, hown, hts⟩ (c_N_get l dC dI cI a N x1 2) (cwV 2 hts (gV kml_N_46 kim_N_get ksl_N_get kin_N kcd_N_get) rfl rfl rfl (by decide +kernel) ⟨Nat.le_of_ble_eq_true rfl, Nat.le_of_ble_eq_true rfl⟩) hP hK rfl hl.1 rfl (Nat.le_of_ble_eq_true rfl) d_N_isMisplaced_18 ⟨Nat.zero_le _, Nat.zero_le _⟩ ?_
  refine lv_istore (lv' := [(5, .int (j_get N x1 2)), (4, .int (j_get N x1 1)), (3, .int (j_get N x1 0)), (0, .ref (a 0)), (1, .int x1), (2, .int x2)]) hx hb d_N_isMisplaced_21 hl (by decide) rfl (fun ls hl => ?_)
  refine lv_aload_n hx hb d_N_isMisplaced_23 rfl (lv_at hl 3 rfl) ?_
  refine lv_aload_n hx hb d_N_isMisplaced_24 rfl (lv_at hl 3 rfl) ?_
  refine lv_iload hx hb d_N_isMisplaced_25 (lv_at hl 1 rfl) ?_
  refine nCallR (As := [.int (j_get N x1 1)]) (rest := [.ref (a 0)]) ⟨hx, hb, hml, hown, hts⟩ (c_N_askedBy l dC dI cI a N (j_get N x1 1)) (cwV 1 hts (gV kml_N_50 kim_N_askedBy ksl_N_askedBy kin_N kcd_N_askedBy) rfl rfl rfl (by decide +kernel) ⟨Nat.le_of_ble_eq_true rfl, Nat.le_of_ble_eq_true rfl⟩) hP hK rfl hl.1 rfl (Nat.le_of_ble_eq_true rfl) d_N_isMisplaced_27 ⟨Nat.zero_le _, Nat.zero_le _⟩ ?_
  refine nCallR (As := [.int (j_get N (j_get N x1 1) 0)]) (rest := []) ⟨hx, hb, hml, hown, hts⟩ (c_N_levelOf l dC dI cI a N (j_get N (j_get N x1 1) 0)) (cwV 1 hts (gV kml_N_54 kim_N_levelOf ksl_N_levelOf kin_N kcd_N_levelOf) rfl rfl rfl (by decide +kernel) ⟨Nat.le_of_ble_eq_true rfl, Nat.le_of_ble_eq_true rfl⟩) hP hK rfl hl.1 rfl (Nat.le_of_ble_eq_true rfl) d_N_isMisplaced_30 ⟨Nat.zero_le _, Nat.zero_le _⟩ ?_
  refine lv_aload_n hx hb d_N_isMisplaced_33 rfl (lv_at hl 3 rfl) ?_
  refine lv_aload_n hx hb d_N_isMisplaced_34 rfl (lv_at hl 3 rfl) ?_
  refine lv_iload hx hb d_N_isMisplaced_35 (lv_at hl 0 rfl) ?_
  refine nCallR (As := [.int (j_get N x1 2)]) (rest := [.ref (a 0), .int (j_levelOf N (j_get N (j_get N x1 1) 0))]) ⟨hx, hb, hml, hown, hts⟩ (c_N_askedBy l dC dI cI a N (j_get N x1 2)) (cwV 1 hts (gV kml_N_50 kim_N_askedBy ksl_N_askedBy kin_N kcd_N_askedBy) rfl rfl rfl (by decide +kernel) ⟨Nat.le_of_ble_eq_true rfl, Nat.le_of_ble_eq_true rfl⟩) hP hK rfl hl.1 rfl (Nat.le_of_ble_eq_true rfl) d_N_isMisplaced_37 ⟨Nat.zero_le _, Nat.zero_le _⟩ ?_
  refine nCallR (As := [.int (j_get N (j_get N x1 2) 0)]) (rest := [.int (j_levelOf N (j_get N (j_get N x1 1) 0))]) ⟨hx, hb, hml, hown, hts⟩ (c_N_levelOf l dC dI cI a N (j_get N (j_get N x1 2) 0)) (cwV 1 hts (gV kml_N_54 kim_N_levelOf ksl_N_levelOf kin_N kcd_N_levelOf) rfl rfl rfl (by decide +kernel) ⟨Nat.le_of_ble_eq_true rfl, Nat.le_of_ble_eq_true rfl⟩) hP hK rfl hl.1 rfl (Nat.le_of_ble_eq_true rfl) d_N_isMisplaced_40 ⟨Nat.zero_le _, Nat.zero_le _⟩ ?_
  refine nMin hx hb (hml.trans hl.1.symm) hown hts kml_N_57 (Nat.le_of_ble_eq_true rfl) (Nat.le_of_ble_eq_true rfl) ⟨Nat.zero_le _, Nat.zero_le _⟩ d_N_isMisplaced_43 ?_
  refine lv_istore (lv' := [(6, .int (j_min (j_levelOf N (j_get N (j_get N x1 1) 0)) (j_levelOf N (j_get N (j_get N x1 2) 0)))), (5, .int (j_get N x1 2)), (4, .int (j_get N x1 1)), (3, .int (j_get N x1 0)), (0, .ref (a 0)), (1, .int x1), (2, .int x2)]) hx hb d_N_isMisplaced_46 hl (by decide) rfl (fun ls hl => ?_)
  refine lv_iload hx hb d_N_isMisplaced_48 (lv_at hl 2 rfl) ?_
  refine lv_iload hx hb d_N_isMisplaced_50 (lv_at hl 1 rfl) ?_
  refine lv_icmp_eq (tgt := 77) hx hb d_N_isMisplaced_52 (by decide) (fun c52 => ?_) (fun c52 => ?_)
  · refine lv_iconst (v := 1) hx hb d_N_isMisplaced_77 (by decide) ?_
    refine lv_goto (tgt := 82) hx hb d_N_isMisplaced_78 (by decide) ?_
    exact W.zret (ty := .boolean) (v := 1) hx hb hr rfl (fun t ht hW => ⟨by rw [show j_isMisplaced N x1 x2 = 1 from by (first | (simp only [j_isMisplaced, if_pos c52, if_true, if_false, not_true_eq_false, not_false_eq_true, true_and, and_true, false_and, and_false, true_or, or_true, false_or, or_false, ite_true, ite_false]; done) | (simp only [j_isMisplaced, c52, if_true, if_false, not_true_eq_false, not_false_eq_true, true_and, and_true, false_and, and_false, true_or, or_true, false_or, or_false, ite_true, ite_false]; done) | (simp only [j_isMisplaced, if_true, if_false, not_true_eq_false, not_false_eq_true, true_and, and_true, false_and, and_false, true_or, or_true, false_or, or_false, ite_true, ite_false]; rw [if_pos c52]))], ht⟩) (fun q h => by cases h) d_N_isMisplaced_82
  · refine lv_aload_n hx hb d_N_isMisplaced_55 rfl (lv_at hl 4 rfl) ?_
    refine lv_iload_n hx hb d_N_isMisplaced_56 rfl (lv_at hl 3 rfl) ?_
    refine nCallR (As := [.int (j_get N x1 0)]) (rest := []) ⟨hx, hb, hml, hown, hts⟩ (c_N_levelOf l dC dI cI a N (j_get N x1 0)) (cwV 1 hts (gV kml_N_54 kim_N_levelOf ksl_N_levelOf kin_N kcd_N_levelOf) rfl rfl rfl (by decide +kernel) ⟨Nat.le_of_ble_eq_true rfl, Nat.le_of_ble_eq_true rfl⟩) hP hK rfl hl.1 rfl (Nat.le_of_ble_eq_true rfl) d_N_isMisplaced_57 ⟨Nat.zero_le _, Nat.zero_le _⟩ ?_
    refine lv_iload hx hb d_N_isMisplaced_60 (lv_at hl 0 rfl) ?_
    refine lv_icmp_ge (tgt := 77) hx hb d_N_isMisplaced_62 (by decide) (fun c62 => ?_) (fun c62 => ?_)
    · refine lv_iconst (v := 1) hx hb d_N_isMisplaced_77 (by decide) ?_
      refine lv_goto (tgt := 82) hx hb d_N_isMisplaced_78 (by decide) ?_
      exact W.zret (ty := .boolean) (v := 1) hx hb hr rfl (fun t ht hW => ⟨by rw [show j_isMisplaced N x1 x2 = 1 from by simp only [j_isMisplaced, c52, c62, Int32.not_lt.mpr c62, if_true, if_false, not_true_eq_false, not_false_eq_true, true_and, and_true, false_and, and_false, true_or, or_true, false_or, or_false, ite_true, ite_false]], ht⟩) (fun q h => by cases h) d_N_isMisplaced_82
    · refine lv_iload_n hx hb d_N_isMisplaced_65 rfl (lv_at hl 3 rfl) ?_
      refine lv_iload hx hb d_N_isMisplaced_66 (lv_at hl 2 rfl) ?_
      refine lv_iload hx hb d_N_isMisplaced_68 (lv_at hl 1 rfl) ?_
      refine nCallS (As := [.int (j_get N x1 0), .int (j_get N x1 1), .int (j_get N x1 2)]) (rest := []) ⟨hx, hb, hml, hown, hts⟩ (c_N_chainFor l (j_get N x1 0) (j_get N x1 1) (j_get N x1 2)) (va_cwS 3 hts (gS kml_N_69 kst_N_chainFor kin_N kcd_N_chainFor) rfl rfl rfl (by decide +kernel) ⟨Nat.le_of_ble_eq_true rfl, Nat.le_of_ble_eq_true rfl⟩) rfl hl.1 rfl (Nat.le_of_ble_eq_true rfl) d_N_isMisplaced_70 ⟨Nat.zero_le _, Nat.zero_le _⟩ ?_
      refine lv_iload_n hx hb d_N_isMisplaced_73 rfl (lv_at hl 6 rfl) ?_
      refine lv_icmp_eq (tgt := 81) hx hb d_N_isMisplaced_74 (by decide) (fun c74 => ?_) (fun c74 => ?_)
      · refine lv_iconst (v := 0) hx hb d_N_isMisplaced_81 (by decide) ?_
        exact W.zret (ty := .boolean) (v := 0) hx hb hr rfl (fun t ht hW => ⟨by rw [show j_isMisplaced N x1 x2 = 0 from by (first | (simp only [j_isMisplaced, c52, c62, if_pos c74, Int32.not_le.mp c62, if_true, if_false, not_true_eq_false, not_false_eq_true, true_and, and_true, false_and, and_false, true_or, or_true, false_or, or_false, ite_true, ite_false]; done) | (simp only [j_isMisplaced, c52, c62, c74, Int32.not_le.mp c62, if_true, if_false, not_true_eq_false, not_false_eq_true, true_and, and_true, false_and, and_false, true_or, or_true, false_or, or_false, ite_true, ite_false]; done) | (simp only [j_isMisplaced, c52, c62, Int32.not_le.mp c62, if_true, if_false, not_true_eq_false, not_false_eq_true, true_and, and_true, false_and, and_false, true_or, or_true, false_or, or_false, ite_true, ite_false]; rw [if_pos c74]))], ht⟩) (fun q h => by cases h) d_N_isMisplaced_82
      · refine lv_iconst (v := 1) hx hb d_N_isMisplaced_77 (by decide) ?_
        refine lv_goto (tgt := 82) hx hb d_N_isMisplaced_78 (by decide) ?_
        exact W.zret (ty := .boolean) (v := 1) hx hb hr rfl (fun t ht hW => ⟨by rw [show j_isMisplaced N x1 x2 = 1 from by simp only [j_isMisplaced, c52, c62, c74, Int32.not_le.mp c62, if_true, if_false, not_true_eq_false, not_false_eq_true, true_and, and_true, false_and, and_false, true_or, or_true, false_or, or_false, ite_true, ite_false]], ht⟩) (fun q h => by cases h) d_N_isMisplaced_82

set_option maxHeartbeats 4000000 in
set_option maxRecDepth 100000 in
/-- N_isThereTwice -/
theorem c_N_isThereTwice (l : Launch) (dC : Nat → ClassId) (dI : Nat → Nat → Nat) (cI : ClassId) (a : Nat → Nat) (N : Mm) (x1 : Int32) : Met l y_N_isThereTwice (.code y_N_isThereTwice b_N_isThereTwice 4 (some .boolean) :: W0) ({ frames := 1, cells := 0, slots := 0, locals := 23 } : Room) (va_Pc [.ref (a 0), .int x1] (nR dC dI cI a N)) (QcRead (j_isThereTwice N x1)) 0 0 (fun _ => False) := by
  refine Met.ofW (cc := b_N_isThereTwice) (maxL := 4) (ret := (some .boolean)) (by decide) rfl ?_
  intro p e s m args below meth c s₁ B hml hv
  obtain ⟨rfl, hP, hK⟩ := hv
  have hx := B.exec
  have hb := B.bytes
  have hr := B.returns
  have hts1 := atoms_spec (ws := .code y_N_isThereTwice b_N_isThereTwice 4 (some .boolean) :: W0) B.pre
  have hts : ∀ w ∈ W0, w.before _ s = true := fun w h => hts1 w (List.mem_cons_of_mem _ h)
  have hown : s.vm.findClass R_N = some m.cls := findClass_of_methodNamed B.named
  have hlocks := B.notSynchronized
  have hl := lv_entry ([.ref (a 0), .int x1]) (n := 4) (Nat.le_of_ble_eq_true rfl)
  rw [lg_entry_eq]
  generalize (lg_sl ([.ref (a 0), .int x1]) ++ List.replicate (4 - (lg_sl ([.ref (a 0), .int x1])).length) Slot.unset).toArray = ls at hl ⊢
  have hl : lv_has ls 4 [(0, .ref (a 0)), (1, .int x1)] := hl
  have loop : ∀ (n : Nat) (i : Nat) (x2 : Int32), i + n = 24800 → j_isThereTwice N x1 = j_twiceL N x1 n x2 → ∀ (ls : Array Slot), lv_has ls 4 [(3, .int (nI i)), (2, .int x2), (0, .ref (a 0)), (1, .int x1)] → W p l e (headSpec (.code y_N_isThereTwice b_N_isThereTwice 4 (some .boolean) :: W0) ({ frames := 1, cells := 0, slots := 0, locals := 23 } : Room)).room s m ([.ref (a 0), .int x1] : List Value).toArray below meth c s.heap [] 0 0 (MQ below (QcRead (j_isThereTwice N x1)) ([.ref (a 0), .int x1] : List Value).toArray s 0 0 (fun _ => False)) (F0 m 9 ls []) := by
    intro n
    induction n with
    | zero =>
      intro i x2 hi hr0 ls hl
      refine lv_iload_n hx hb d_N_isThereTwice_9 rfl (lv_at hl 0 rfl) ?_
      refine lv_sipush (v := 24800) hx hb d_N_isThereTwice_10 (by decide) ?_
      refine lv_icmp_ge (tgt := 65) hx hb d_N_isThereTwice_13 (by decide) (fun c13 => ?_) (fun c13 => ?_)
      · refine lv_iconst (v := 0) hx hb d_N_isThereTwice_65 (by decide) ?_
        exact W.zret (ty := .boolean) (v := 0) hx hb hr rfl (fun t ht hW => ⟨by rw [show j_isThereTwice N x1 = 0 from by rw [hr0]; simp only [j_twiceL, c13, Int32.not_lt.mpr c13, if_true, if_false, not_true_eq_false, not_false_eq_true, true_and, and_true, false_and, and_false, true_or, or_true, false_or, or_false, ite_true, ite_false]], ht⟩) (fun q h => by cases h) d_N_isThereTwice_66
      · exact absurd (nI_le (a := 24800) (b := i) (by omega) (by omega)) c13
    | succ n ih =>
      intro i x2 hi hr0 ls hl
      refine lv_iload_n hx hb d_N_isThereTwice_9 rfl (lv_at hl 0 rfl) ?_
      refine lv_sipush (v := 24800) hx hb d_N_isThereTwice_10 (by decide) ?_
      refine lv_icmp_ge (tgt := 65) hx hb d_N_isThereTwice_13 (by decide) (fun c13 => ?_) (fun c13 => ?_)
      · exact absurd c13 (nI_ge (a := i) (b := 24800) (by omega) (by omega))
      · refine lv_iload_n hx hb d_N_isThereTwice_16 rfl (lv_at hl 1 rfl) ?_
        refine lv_if_eq (tgt := 65) hx hb d_N_isThereTwice_17 (by decide) (fun c17 => ?_) (fun c17 => ?_)
        · refine lv_iconst (v := 0) hx hb d_N_isThereTwice_65 (by decide) ?_
          exact W.zret (ty := .boolean) (v := 0) hx hb hr rfl (fun t ht hW => ⟨by rw [show j_isThereTwice N x1 = 0 from by rw [hr0]; (first | (simp only [j_twiceL, c13, if_pos c17, Int32.not_le.mp c13, if_true, if_false, not_true_eq_false, not_false_eq_true, true_and, and_true, false_and, and_false, true_or, or_true, false_or, or_false, ite_true, ite_false]; done) | (simp only [j_twiceL, c13, c17, Int32.not_le.mp c13, if_true, if_false, not_true_eq_false, not_false_eq_true, true_and, and_true, false_and, and_false, true_or, or_true, false_or, or_false, ite_true, ite_false]; done) | (simp only [j_twiceL, c13, Int32.not_le.mp c13, if_true, if_false, not_true_eq_false, not_false_eq_true, true_and, and_true, false_and, and_false, true_or, or_true, false_or, or_false, ite_true, ite_false]; rw [if_pos c17]))], ht⟩) (fun q h => by cases h) d_N_isThereTwice_66
        · refine lv_aload_n hx hb d_N_isThereTwice_20 rfl (lv_at hl 2 rfl) ?_
          refine lv_iload_n hx hb d_N_isThereTwice_21 rfl (lv_at hl 1 rfl) ?_
          refine lv_iconst (v := 1) hx hb d_N_isThereTwice_22 (by decide) ?_
          refine nCallR (As := [.int x2, .int 1]) (rest := []) ⟨hx, hb, hml, hown, hts⟩ (c_N_get l dC dI cI a N x2 1) (cwV 2 hts (gV kml_N_46 kim_N_get ksl_N_get kin_N kcd_N_get) rfl rfl rfl (by decide +kernel) ⟨Nat.le_of_ble_eq_true rfl, Nat.le_of_ble_eq_true rfl⟩) hP hK rfl hl.1 rfl (Nat.le_of_ble_eq_true rfl) d_N_isThereTwice_23 ⟨Nat.zero_le _, Nat.zero_le _⟩ ?_
          refine lv_aload_n hx hb d_N_isThereTwice_26 rfl (lv_at hl 2 rfl) ?_
          refine lv_iload_n hx hb d_N_isThereTwice_27 rfl (lv_at hl 3 rfl) ?_
          refine lv_iconst (v := 1) hx hb d_N_isThereTwice_28 (by decide) ?_
          refine nCallR (As := [.int x1, .int 1]) (rest := [.int (j_get N x2 1)]) ⟨hx, hb, hml, hown, hts⟩ (c_N_get l dC dI cI a N x1 1) (cwV 2 hts (gV kml_N_46 kim_N_get ksl_N_get kin_N kcd_N_get) rfl rfl rfl (by decide +kernel) ⟨Nat.le_of_ble_eq_true rfl, Nat.le_of_ble_eq_true rfl⟩) hP hK rfl hl.1 rfl (Nat.le_of_ble_eq_true rfl) d_N_isThereTwice_29 ⟨Nat.zero_le _, Nat.zero_le _⟩ ?_
          refine lv_icmp_ne (tgt := 52) hx hb d_N_isThereTwice_32 (by decide) (fun c32 => ?_) (fun c32 => ?_)
          · refine lv_aload_n hx hb d_N_isThereTwice_52 rfl (lv_at hl 2 rfl) ?_
            refine lv_iload_n hx hb d_N_isThereTwice_53 rfl (lv_at hl 1 rfl) ?_
            refine lv_iconst (v := 3) hx hb d_N_isThereTwice_54 (by decide) ?_
            refine nCallR (As := [.int x2, .int 3]) (rest := []) ⟨hx, hb, hml, hown, hts⟩ (c_N_get l dC dI cI a N x2 3) (cwV 2 hts (gV kml_N_46 kim_N_get ksl_N_get kin_N kcd_N_get) rfl rfl rfl (by decide +kernel) ⟨Nat.le_of_ble_eq_true rfl, Nat.le_of_ble_eq_true rfl⟩) hP hK rfl hl.1 rfl (Nat.le_of_ble_eq_true rfl) d_N_isThereTwice_55 ⟨Nat.zero_le _, Nat.zero_le _⟩ ?_
            refine lv_istore_n (lv' := [(2, .int (j_get N x2 3)), (3, .int (nI i)), (0, .ref (a 0)), (1, .int x1)]) hx hb d_N_isThereTwice_58 rfl hl (by decide) rfl (fun ls hl => ?_)
            refine lv_iinc (v := ((nI i) + 1)) (lv' := [(3, .int ((nI i) + 1)), (2, .int (j_get N x2 3)), (0, .ref (a 0)), (1, .int x1)]) hx hb d_N_isThereTwice_59 hl (k := 1) rfl rfl (by decide) rfl (fun ls hl => ?_)
            refine lv_goto (tgt := 9) hx hb d_N_isThereTwice_62 (by decide) ?_
            rw [nI_1] at hl
            exact ih (i + 1) _ (by omega) (by rw [hr0]; simp only [j_twiceL, c13, c17, c32, Int32.not_le.mp c13, if_true, if_false, not_true_eq_false, not_false_eq_true, true_and, and_true, false_and, and_false, true_or, or_true, false_or, or_false, ite_true, ite_false]) ls (lv_sub hl [0, 1, 2, 3] rfl)
          · refine lv_aload_n hx hb d_N_isThereTwice_35 rfl (lv_at hl 2 rfl) ?_
            refine lv_iload_n hx hb d_N_isThereTwice_36 rfl (lv_at hl 1 rfl) ?_
            refine lv_iconst (v := 2) hx hb d_N_isThereTwice_37 (by decide) ?_
            refine nCallR (As := [.int x2, .int 2]) (rest := []) ⟨hx, hb, hml, hown, hts⟩ (c_N_get l dC dI cI a N x2 2) (cwV 2 hts (gV kml_N_46 kim_N_get ksl_N_get kin_N kcd_N_get) rfl rfl rfl (by decide +kernel) ⟨Nat.le_of_ble_eq_true rfl, Nat.le_of_ble_eq_true rfl⟩) hP hK rfl hl.1 rfl (Nat.le_of_ble_eq_true rfl) d_N_isThereTwice_38 ⟨Nat.zero_le _, Nat.zero_le _⟩ ?_
            refine lv_aload_n hx hb d_N_isThereTwice_41 rfl (lv_at hl 2 rfl) ?_
            refine lv_iload_n hx hb d_N_isThereTwice_42 rfl (lv_at hl 3 rfl) ?_
            refine lv_iconst (v := 2) hx hb d_N_isThereTwice_43 (by decide) ?_
            refine nCallR (As := [.int x1, .int 2]) (rest := [.int (j_get N x2 2)]) ⟨hx, hb, hml, hown, hts⟩ (c_N_get l dC dI cI a N x1 2) (cwV 2 hts (gV kml_N_46 kim_N_get ksl_N_get kin_N kcd_N_get) rfl rfl rfl (by decide +kernel) ⟨Nat.le_of_ble_eq_true rfl, Nat.le_of_ble_eq_true rfl⟩) hP hK rfl hl.1 rfl (Nat.le_of_ble_eq_true rfl) d_N_isThereTwice_44 ⟨Nat.zero_le _, Nat.zero_le _⟩ ?_
            refine lv_icmp_ne (tgt := 52) hx hb d_N_isThereTwice_47 (by decide) (fun c47 => ?_) (fun c47 => ?_)
            · refine lv_aload_n hx hb d_N_isThereTwice_52 rfl (lv_at hl 2 rfl) ?_
              refine lv_iload_n hx hb d_N_isThereTwice_53 rfl (lv_at hl 1 rfl) ?_
              refine lv_iconst (v := 3) hx hb d_N_isThereTwice_54 (by decide) ?_
              refine nCallR (As := [.int x2, .int 3]) (rest := []) ⟨hx, hb, hml, hown, hts⟩ (c_N_get l dC dI cI a N x2 3) (cwV 2 hts (gV kml_N_46 kim_N_get ksl_N_get kin_N kcd_N_get) rfl rfl rfl (by decide +kernel) ⟨Nat.le_of_ble_eq_true rfl, Nat.le_of_ble_eq_true rfl⟩) hP hK rfl hl.1 rfl (Nat.le_of_ble_eq_true rfl) d_N_isThereTwice_55 ⟨Nat.zero_le _, Nat.zero_le _⟩ ?_
              refine lv_istore_n (lv' := [(2, .int (j_get N x2 3)), (3, .int (nI i)), (0, .ref (a 0)), (1, .int x1)]) hx hb d_N_isThereTwice_58 rfl hl (by decide) rfl (fun ls hl => ?_)
              refine lv_iinc (v := ((nI i) + 1)) (lv' := [(3, .int ((nI i) + 1)), (2, .int (j_get N x2 3)), (0, .ref (a 0)), (1, .int x1)]) hx hb d_N_isThereTwice_59 hl (k := 1) rfl rfl (by decide) rfl (fun ls hl => ?_)
              refine lv_goto (tgt := 9) hx hb d_N_isThereTwice_62 (by decide) ?_
              rw [nI_1] at hl
              exact ih (i + 1) _ (by omega) (by rw [hr0]; (first | (simp only [j_twiceL, c13, c17, if_pos c32, c47, Int32.not_le.mp c13, if_true, if_false, not_true_eq_false, not_false_eq_true, true_and, and_true, false_and, and_false, true_or, or_true, false_or, or_false, ite_true, ite_false]; done) | (simp only [j_twiceL, c13, c17, c32, c47, Int32.not_le.mp c13, if_true, if_false, not_true_eq_false, not_false_eq_true, true_and, and_true, false_and, and_false, true_or, or_true, false_or, or_false, ite_true, ite_false]; done) | (simp only [j_twiceL, c13, c17, c47, Int32.not_le.mp c13, if_true, if_false, not_true_eq_false, not_false_eq_true, true_and, and_true, false_and, and_false, true_or, or_true, false_or, or_false, ite_true, ite_false]; rw [if_pos c32]))) ls (lv_sub hl [0, 1, 2, 3] rfl)
            · refine lv_iconst (v := 1) hx hb d_N_isThereTwice_50 (by decide) ?_
              exact W.zret (ty := .boolean) (v := 1) hx hb hr rfl (fun t ht hW => ⟨by rw [show j_isThereTwice N x1 = 1 from by rw [hr0]; (first | (simp only [j_twiceL, c13, c17, if_pos c32, if_pos c47, Int32.not_le.mp c13, if_true, if_false, not_true_eq_false, not_false_eq_true, true_and, and_true, false_and, and_false, true_or, or_true, false_or, or_false, ite_true, ite_false]; done) | (simp only [j_twiceL, c13, c17, c32, c47, Int32.not_le.mp c13, if_true, if_false, not_true_eq_false, not_false_eq_true, true_and, and_true, false_and, and_false, true_or, or_true, false_or, or_false, ite_true, ite_false]; done) | (simp only [j_twiceL, c13, c17, Int32.not_le.mp c13, if_true, if_false, not_true_eq_false, not_false_eq_true, true_and, and_true, false_and, and_false, true_or, or_true, false_or, or_false, ite_true, ite_false]; rw [if_pos c32, if_pos c47]))], ht⟩) (fun q h => by cases h) d_N_isThereTwice_51
  refine lv_aload_n hx hb d_N_isThereTwice_0 rfl (lv_at hl 0 rfl) ?_
  refine lv_iload_n hx hb d_N_isThereTwice_1 rfl (lv_at hl 1 rfl) ?_
  refine lv_iconst (v := 3) hx hb d_N_isThereTwice_2 (by decide) ?_
  refine nCallR (As := [.int x1, .int 3]) (rest := []) ⟨hx, hb, hml, hown, hts⟩ (c_N_get l dC dI cI a N x1 3) (cwV 2 hts (gV kml_N_46 kim_N_get ksl_N_get kin_N kcd_N_get) rfl rfl rfl (by decide +kernel) ⟨Nat.le_of_ble_eq_true rfl, Nat.le_of_ble_eq_true rfl⟩) hP hK rfl hl.1 rfl (Nat.le_of_ble_eq_true rfl) d_N_isThereTwice_3 ⟨Nat.zero_le _, Nat.zero_le _⟩ ?_
  refine lv_istore_n (lv' := [(2, .int (j_get N x1 3)), (0, .ref (a 0)), (1, .int x1)]) hx hb d_N_isThereTwice_6 rfl hl (by decide) rfl (fun ls hl => ?_)
  refine lv_iconst (v := 0) hx hb d_N_isThereTwice_7 (by decide) ?_
  refine lv_istore_n (lv' := [(3, .int 0), (2, .int (j_get N x1 3)), (0, .ref (a 0)), (1, .int x1)]) hx hb d_N_isThereTwice_8 rfl hl (by decide) rfl (fun ls hl => ?_)
  exact loop 24800 0 _ rfl (by unfold j_isThereTwice; rfl) ls hl

set_option maxHeartbeats 4000000 in
set_option maxRecDepth 100000 in
/-- N_unlink -/
theorem c_N_unlink (l : Launch) (dC : Nat → ClassId) (dI : Nat → Nat → Nat) (cI : ClassId) (a : Nat → Nat) (N : Mm) (sz : Nat) (x1 : Int32) : Met l y_N_unlink (.code y_N_unlink b_N_unlink 6 none :: W0) ({ frames := 1, cells := 0, slots := 0, locals := 24 } : Room) (va_Pc [.ref (a 0), .int x1] (nM dC dI cI a N sz)) (va_Qv (fun _ : Unit => True) (fun _ t => nE dC dI cI a (j_unlink N x1) (va_A (nW cI a N) sz) t) (va_A (nW cI a N) sz)) 0 0 (va_A (nW cI a N) sz) := by
  refine Met.ofW (cc := b_N_unlink) (maxL := 6) (ret := none) (by decide) rfl ?_
  intro p e s m args below meth c s₁ B hml hv
  obtain ⟨rfl, hsz, hP, hK, hD0⟩ := hv
  have hx := B.exec
  have hb := B.bytes
  have hr := B.returns
  have hts1 := atoms_spec (ws := .code y_N_unlink b_N_unlink 6 none :: W0) B.pre
  have hts : ∀ w ∈ W0, w.before _ s = true := fun w h => hts1 w (List.mem_cons_of_mem _ h)
  have hown : s.vm.findClass R_N = some m.cls := findClass_of_methodNamed B.named
  have hlocks := B.notSynchronized
  subst hsz
  have hD := hD0.self (sz := s.heap.size)
  generalize hAe : va_A (nW cI a N) s.heap.size = A at hD ⊢
  have hA : ∀ q : Nat, s.heap.size ≤ q → A q := fun q h => by rw [← hAe]; exact Or.inr h
  have hS : va_S A s.heap s.heap [] := va_S.rf
  have hP : va_P (dC, dI) cls0 (nW cI a N) s.heap := hP
  have hl := lv_entry ([.ref (a 0), .int x1]) (n := 6) (Nat.le_of_ble_eq_true rfl)
  rw [lg_entry_eq]
  generalize (lg_sl ([.ref (a 0), .int x1]) ++ List.replicate (6 - (lg_sl ([.ref (a 0), .int x1])).length) Slot.unset).toArray = ls at hl ⊢
  have hl : lv_has ls 6 [(0, .ref (a 0)), (1, .int x1)] := hl
  have loop : ∀ (n : Nat) (N1 : Mm) (i : Nat) (x4 : Int32) (H : Heap) (locs : List Loc), i + n = 24800 → j_unlink N x1 = j_unlinkL N1 x1 n x4 → va_P (dC, dI) cls0 (nW cI a N1) H → va_D A (nW cI a N1) → va_S A s.heap H locs → ∀ (ls : Array Slot), lv_has ls 6 [(5, .int (nI i)), (4, .int x4), (0, .ref (a 0)), (1, .int x1)] → W p l e (headSpec (.code y_N_unlink b_N_unlink 6 none :: W0) ({ frames := 1, cells := 0, slots := 0, locals := 24 } : Room)).room s m ([.ref (a 0), .int x1] : List Value).toArray below meth c H locs 0 0 (MQ below (va_Qv (fun _ : Unit => True) (fun _ t => nE dC dI cI a (j_unlink N x1) A t) A) ([.ref (a 0), .int x1] : List Value).toArray s 0 0 A) (F0 m 95 ls []) := by
    intro n
    induction n with
    | zero =>
      intro N1 i x4 H locs hi hr0 hP hD hS ls hl
      refine lv_iload hx hb d_N_unlink_95 (lv_at hl 0 rfl) ?_
      refine lv_sipush (v := 24800) hx hb d_N_unlink_97 (by decide) ?_
      refine lv_icmp_ge (tgt := 148) hx hb d_N_unlink_100 (by decide) (fun c100 => ?_) (fun c100 => ?_)
      · have hP9 : va_P (dC, dI) cls0 (nW cI a (j_unlink N x1)) _ := (show N1 = j_unlink N x1 from by rw [hr0]; simp only [j_unlinkL, c100, Int32.not_lt.mpr c100, if_true, if_false, not_true_eq_false, not_false_eq_true, true_and, and_true, false_and, and_false, true_or, or_true, false_or, or_false, ite_true, ite_false]) ▸ hP
        have hD9 : va_D A (nW cI a (j_unlink N x1)) := (show N1 = j_unlink N x1 from by rw [hr0]; simp only [j_unlinkL, c100, Int32.not_lt.mpr c100, if_true, if_false, not_true_eq_false, not_false_eq_true, true_and, and_true, false_and, and_false, true_or, or_true, false_or, or_false, ite_true, ite_false]) ▸ hD
        exact W.vret hx hb hr (fun t ht hW => ⟨⟨(), rfl, trivial, by rw [ht]; exact hP9, va_K.moved hW.alike hK, hD9⟩, hS.F ht⟩) hS.2.2 d_N_unlink_148
      · exact absurd (nI_le (a := 24800) (b := i) (by omega) (by omega)) c100
    | succ n ih =>
      intro N1 i x4 H locs hi hr0 hP hD hS ls hl
      refine lv_iload hx hb d_N_unlink_95 (lv_at hl 0 rfl) ?_
      refine lv_sipush (v := 24800) hx hb d_N_unlink_97 (by decide) ?_
      refine lv_icmp_ge (tgt := 148) hx hb d_N_unlink_100 (by decide) (fun c100 => ?_) (fun c100 => ?_)
      · exact absurd c100 (nI_ge (a := i) (b := 24800) (by omega) (by omega))
      · refine lv_iload hx hb d_N_unlink_103 (lv_at hl 1 rfl) ?_
        refine lv_if_eq (tgt := 148) hx hb d_N_unlink_105 (by decide) (fun c105 => ?_) (fun c105 => ?_)
        · have hP9 : va_P (dC, dI) cls0 (nW cI a (j_unlink N x1)) _ := (show N1 = j_unlink N x1 from by rw [hr0]; (first | (simp only [j_unlinkL, c100, if_pos c105, Int32.not_le.mp c100, if_true, if_false, not_true_eq_false, not_false_eq_true, true_and, and_true, false_and, and_false, true_or, or_true, false_or, or_false, ite_true, ite_false]; done) | (simp only [j_unlinkL, c100, c105, Int32.not_le.mp c100, if_true, if_false, not_true_eq_false, not_false_eq_true, true_and, and_true, false_and, and_false, true_or, or_true, false_or, or_false, ite_true, ite_false]; done) | (simp only [j_unlinkL, c100, Int32.not_le.mp c100, if_true, if_false, not_true_eq_false, not_false_eq_true, true_and, and_true, false_and, and_false, true_or, or_true, false_or, or_false, ite_true, ite_false]; rw [if_pos c105]))) ▸ hP
          have hD9 : va_D A (nW cI a (j_unlink N x1)) := (show N1 = j_unlink N x1 from by rw [hr0]; (first | (simp only [j_unlinkL, c100, if_pos c105, Int32.not_le.mp c100, if_true, if_false, not_true_eq_false, not_false_eq_true, true_and, and_true, false_and, and_false, true_or, or_true, false_or, or_false, ite_true, ite_false]; done) | (simp only [j_unlinkL, c100, c105, Int32.not_le.mp c100, if_true, if_false, not_true_eq_false, not_false_eq_true, true_and, and_true, false_and, and_false, true_or, or_true, false_or, or_false, ite_true, ite_false]; done) | (simp only [j_unlinkL, c100, Int32.not_le.mp c100, if_true, if_false, not_true_eq_false, not_false_eq_true, true_and, and_true, false_and, and_false, true_or, or_true, false_or, or_false, ite_true, ite_false]; rw [if_pos c105]))) ▸ hD
          exact W.vret hx hb hr (fun t ht hW => ⟨⟨(), rfl, trivial, by rw [ht]; exact hP9, va_K.moved hW.alike hK, hD9⟩, hS.F ht⟩) hS.2.2 d_N_unlink_148
        · refine lv_aload_n hx hb d_N_unlink_108 rfl (lv_at hl 2 rfl) ?_
          refine lv_iload hx hb d_N_unlink_109 (lv_at hl 1 rfl) ?_
          refine lv_iconst (v := 3) hx hb d_N_unlink_111 (by decide) ?_
          refine nCallR (As := [.int x4, .int 3]) (rest := []) ⟨hx, hb, hml, hown, hts⟩ (c_N_get l dC dI cI a N1 x4 3) (cwV 2 hts (gV kml_N_46 kim_N_get ksl_N_get kin_N kcd_N_get) rfl rfl rfl (by decide +kernel) ⟨Nat.le_of_ble_eq_true rfl, Nat.le_of_ble_eq_true rfl⟩) hP hK rfl hl.1 rfl (Nat.le_of_ble_eq_true rfl) d_N_unlink_112 ⟨Nat.zero_le _, Nat.zero_le _⟩ ?_
          refine lv_iload_n hx hb d_N_unlink_115 rfl (lv_at hl 3 rfl) ?_
          refine lv_icmp_ne (tgt := 133) hx hb d_N_unlink_116 (by decide) (fun c116 => ?_) (fun c116 => ?_)
          · refine lv_aload_n hx hb d_N_unlink_133 rfl (lv_at hl 2 rfl) ?_
            refine lv_iload hx hb d_N_unlink_134 (lv_at hl 1 rfl) ?_
            refine lv_iconst (v := 3) hx hb d_N_unlink_136 (by decide) ?_
            refine nCallR (As := [.int x4, .int 3]) (rest := []) ⟨hx, hb, hml, hown, hts⟩ (c_N_get l dC dI cI a N1 x4 3) (cwV 2 hts (gV kml_N_46 kim_N_get ksl_N_get kin_N kcd_N_get) rfl rfl rfl (by decide +kernel) ⟨Nat.le_of_ble_eq_true rfl, Nat.le_of_ble_eq_true rfl⟩) hP hK rfl hl.1 rfl (Nat.le_of_ble_eq_true rfl) d_N_unlink_137 ⟨Nat.zero_le _, Nat.zero_le _⟩ ?_
            refine lv_istore (lv' := [(4, .int (j_get N1 x4 3)), (5, .int (nI i)), (0, .ref (a 0)), (1, .int x1)]) hx hb d_N_unlink_140 hl (by decide) rfl (fun ls hl => ?_)
            refine lv_iinc (v := ((nI i) + 1)) (lv' := [(5, .int ((nI i) + 1)), (4, .int (j_get N1 x4 3)), (0, .ref (a 0)), (1, .int x1)]) hx hb d_N_unlink_142 hl (k := 1) rfl rfl (by decide) rfl (fun ls hl => ?_)
            refine lv_goto (tgt := 95) hx hb d_N_unlink_145 (by decide) ?_
            rw [nI_1] at hl
            exact ih N1 (i + 1) _ H locs (by omega) (by rw [hr0]; simp only [j_unlinkL, c100, c105, c116, Int32.not_le.mp c100, if_true, if_false, not_true_eq_false, not_false_eq_true, true_and, and_true, false_and, and_false, true_or, or_true, false_or, or_false, ite_true, ite_false]) hP hD hS ls (lv_sub hl [0, 1, 2, 3] rfl)
          · refine lv_aload_n hx hb d_N_unlink_119 rfl (lv_at hl 2 rfl) ?_
            refine lv_iload hx hb d_N_unlink_120 (lv_at hl 1 rfl) ?_
            refine lv_iconst (v := 3) hx hb d_N_unlink_122 (by decide) ?_
            refine lv_aload_n hx hb d_N_unlink_123 rfl (lv_at hl 2 rfl) ?_
            refine lv_iload_n hx hb d_N_unlink_124 rfl (lv_at hl 3 rfl) ?_
            refine lv_iconst (v := 3) hx hb d_N_unlink_125 (by decide) ?_
            refine nCallR (As := [.int x1, .int 3]) (rest := [.int 3, .int x4, .ref (a 0)]) ⟨hx, hb, hml, hown, hts⟩ (c_N_get l dC dI cI a N1 x1 3) (cwV 2 hts (gV kml_N_46 kim_N_get ksl_N_get kin_N kcd_N_get) rfl rfl rfl (by decide +kernel) ⟨Nat.le_of_ble_eq_true rfl, Nat.le_of_ble_eq_true rfl⟩) hP hK rfl hl.1 rfl (Nat.le_of_ble_eq_true rfl) d_N_unlink_126 ⟨Nat.zero_le _, Nat.zero_le _⟩ ?_
            refine nCallv (As := [.int x4, .int 3, .int (j_get N1 x1 3)]) (rest := []) ⟨hx, hb, hml, hown, hts⟩ (c_N_set l dC dI cI a N1 _ x4 3 (j_get N1 x1 3)) (cwV 3 hts (gV kml_N_65 kim_N_set ksl_N_set kin_N kcd_N_set) rfl rfl rfl (by decide +kernel) ⟨Nat.le_of_ble_eq_true rfl, Nat.le_of_ble_eq_true rfl⟩) hP hK hD hS hA rfl hl.1 rfl (Nat.le_of_ble_eq_true rfl) d_N_unlink_129 ⟨Nat.zero_le _, Nat.zero_le _⟩ (fun H locs hP hD hS => ?_)
            have hP9 : va_P (dC, dI) cls0 (nW cI a (j_unlink N x1)) _ := (show j_set N1 x4 3 (j_get N1 x1 3) = j_unlink N x1 from by rw [hr0]; (first | (simp only [j_unlinkL, c100, c105, if_pos c116, Int32.not_le.mp c100, if_true, if_false, not_true_eq_false, not_false_eq_true, true_and, and_true, false_and, and_false, true_or, or_true, false_or, or_false, ite_true, ite_false]; done) | (simp only [j_unlinkL, c100, c105, c116, Int32.not_le.mp c100, if_true, if_false, not_true_eq_false, not_false_eq_true, true_and, and_true, false_and, and_false, true_or, or_true, false_or, or_false, ite_true, ite_false]; done) | (simp only [j_unlinkL, c100, c105, Int32.not_le.mp c100, if_true, if_false, not_true_eq_false, not_false_eq_true, true_and, and_true, false_and, and_false, true_or, or_true, false_or, or_false, ite_true, ite_false]; rw [if_pos c116]))) ▸ hP
            have hD9 : va_D A (nW cI a (j_unlink N x1)) := (show j_set N1 x4 3 (j_get N1 x1 3) = j_unlink N x1 from by rw [hr0]; (first | (simp only [j_unlinkL, c100, c105, if_pos c116, Int32.not_le.mp c100, if_true, if_false, not_true_eq_false, not_false_eq_true, true_and, and_true, false_and, and_false, true_or, or_true, false_or, or_false, ite_true, ite_false]; done) | (simp only [j_unlinkL, c100, c105, c116, Int32.not_le.mp c100, if_true, if_false, not_true_eq_false, not_false_eq_true, true_and, and_true, false_and, and_false, true_or, or_true, false_or, or_false, ite_true, ite_false]; done) | (simp only [j_unlinkL, c100, c105, Int32.not_le.mp c100, if_true, if_false, not_true_eq_false, not_false_eq_true, true_and, and_true, false_and, and_false, true_or, or_true, false_or, or_false, ite_true, ite_false]; rw [if_pos c116]))) ▸ hD
            exact W.vret hx hb hr (fun t ht hW => ⟨⟨(), rfl, trivial, by rw [ht]; exact hP9, va_K.moved hW.alike hK, hD9⟩, hS.F ht⟩) hS.2.2 d_N_unlink_132
  refine lv_aload_n hx hb d_N_unlink_0 rfl (lv_at hl 0 rfl) ?_
  refine lv_iload_n hx hb d_N_unlink_1 rfl (lv_at hl 1 rfl) ?_
  refine lv_iconst (v := 0) hx hb d_N_unlink_2 (by decide) ?_
  refine nCallR (As := [.int x1, .int 0]) (rest := []) ⟨hx, hb, hml, hown, hts⟩ (c_N_get l dC dI cI a N x1 0) (cwV 2 hts (gV kml_N_46 kim_N_get ksl_N_get kin_N kcd_N_get) rfl rfl rfl (by decide +kernel) ⟨Nat.le_of_ble_eq_true rfl, Nat.le_of_ble_eq_true rfl⟩) hP hK rfl hl.1 rfl (Nat.le_of_ble_eq_true rfl) d_N_unlink_3 ⟨Nat.zero_le _, Nat.zero_le _⟩ ?_
  refine lv_istore_n (lv' := [(2, .int (j_get N x1 0)), (0, .ref (a 0)), (1, .int x1)]) hx hb d_N_unlink_6 rfl hl (by decide) rfl (fun ls hl => ?_)
  refine lv_iload_n hx hb d_N_unlink_7 rfl (lv_at hl 0 rfl) ?_
  refine lv_aload_n hx hb d_N_unlink_8 rfl (lv_at hl 1 rfl) ?_
  refine lv_iload_n hx hb d_N_unlink_9 rfl (lv_at hl 2 rfl) ?_
  refine lv_iconst (v := 1) hx hb d_N_unlink_10 (by decide) ?_
  refine nCallR (As := [.int x1, .int 1]) (rest := [.int (j_get N x1 0)]) ⟨hx, hb, hml, hown, hts⟩ (c_N_get l dC dI cI a N x1 1) (cwV 2 hts (gV kml_N_46 kim_N_get ksl_N_get kin_N kcd_N_get) rfl rfl rfl (by decide +kernel) ⟨Nat.le_of_ble_eq_true rfl, Nat.le_of_ble_eq_true rfl⟩) hP hK rfl hl.1 rfl (Nat.le_of_ble_eq_true rfl) d_N_unlink_11 ⟨Nat.zero_le _, Nat.zero_le _⟩ ?_
  refine lv_aload_n hx hb d_N_unlink_14 rfl (lv_at hl 1 rfl) ?_
  refine lv_iload_n hx hb d_N_unlink_15 rfl (lv_at hl 2 rfl) ?_
  refine lv_iconst (v := 2) hx hb d_N_unlink_16 (by decide) ?_
  refine nCallR (As := [.int x1, .int 2]) (rest := [.int (j_get N x1 1), .int (j_get N x1 0)]) ⟨hx, hb, hml, hown, hts⟩ (c_N_get l dC dI cI a N x1 2) (cwV 2 hts (gV kml_N_46 kim_N_get ksl_N_get kin_N kcd_N_get) rfl rfl rfl (by decide +kernel) ⟨Nat.le_of_ble_eq_true rfl, Nat.le_of_ble_eq_true rfl⟩) hP hK rfl hl.1 rfl (Nat.le_of_ble_eq_true rfl) d_N_unlink_17 ⟨Nat.zero_le _, Nat.zero_le _⟩ ?_
  refine nCallS (As := [.int (j_get N x1 0), .int (j_get N x1 1), .int (j_get N x1 2)]) (rest := []) ⟨hx, hb, hml, hown, hts⟩ (c_N_chainFor l (j_get N x1 0) (j_get N x1 1) (j_get N x1 2)) (va_cwS 3 hts (gS kml_N_69 kst_N_chainFor kin_N kcd_N_chainFor) rfl rfl rfl (by decide +kernel) ⟨Nat.le_of_ble_eq_true rfl, Nat.le_of_ble_eq_true rfl⟩) rfl hl.1 rfl (Nat.le_of_ble_eq_true rfl) d_N_unlink_20 ⟨Nat.zero_le _, Nat.zero_le _⟩ ?_
  refine lv_istore_n (lv' := [(3, .int (j_chainFor (j_get N x1 0) (j_get N x1 1) (j_get N x1 2))), (2, .int (j_get N x1 0)), (0, .ref (a 0)), (1, .int x1)]) hx hb d_N_unlink_23 rfl hl (by decide) rfl (fun ls hl => ?_)
  refine lv_iload_n hx hb d_N_unlink_24 rfl (lv_at hl 1 rfl) ?_
  refine lv_if_lt (tgt := 50) hx hb d_N_unlink_25 (by decide) (fun c25 => ?_) (fun c25 => ?_)
  · have hP9 : va_P (dC, dI) cls0 (nW cI a (j_unlink N x1)) _ := (show N = j_unlink N x1 from by (first | (simp only [j_unlink, j_unlink2, c25, Int32.not_le.mpr c25, if_true, if_false, not_true_eq_false, not_false_eq_true, true_and, and_true, false_and, and_false, true_or, or_true, false_or, or_false, ite_true, ite_false]; done) | (simp only [j_unlink, j_unlink2, c25, Int32.not_le.mpr c25, if_true, if_false, not_true_eq_false, not_false_eq_true, true_and, and_true, false_and, and_false, true_or, or_true, false_or, or_false, ite_true, ite_false]; simp only [uq_0_1, uq_0_2, uq_0_3, uq_0_4, uq_0_5, uq_1_0, uq_1_2, uq_1_3, uq_1_4, uq_1_5, uq_2_0, uq_2_1, uq_2_3, uq_2_4, uq_2_5, uq_3_0, uq_3_1, uq_3_2, uq_3_4, uq_3_5, uq_4_0, uq_4_1, uq_4_2, uq_4_3, uq_4_5, uq_5_0, uq_5_1, uq_5_2, uq_5_3, uq_5_4, uf_0_0, uf_0_1, uf_0_2, uf_0_3, uf_0_4, uf_0_5, uf_1_0, uf_1_1, uf_1_2, uf_1_3, uf_1_4, uf_1_5, uf_2_0, uf_2_1, uf_2_2, uf_2_3, uf_2_4, uf_2_5, uf_3_0, uf_3_1, uf_3_2, uf_3_3, uf_3_4, uf_3_5, uf_4_0, uf_4_1, uf_4_2, uf_4_3, uf_4_4, uf_4_5, uf_5_0, uf_5_1, uf_5_2, uf_5_3, uf_5_4, uf_5_5, js_0, js_2, js_3, js_4, js_5]; done) | (simp only [j_unlink, j_unlink2, uq_0_1, uq_0_2, uq_0_3, uq_0_4, uq_0_5, uq_1_0, uq_1_2, uq_1_3, uq_1_4, uq_1_5, uq_2_0, uq_2_1, uq_2_3, uq_2_4, uq_2_5, uq_3_0, uq_3_1, uq_3_2, uq_3_4, uq_3_5, uq_4_0, uq_4_1, uq_4_2, uq_4_3, uq_4_5, uq_5_0, uq_5_1, uq_5_2, uq_5_3, uq_5_4, uf_0_0, uf_0_1, uf_0_2, uf_0_3, uf_0_4, uf_0_5, uf_1_0, uf_1_1, uf_1_2, uf_1_3, uf_1_4, uf_1_5, uf_2_0, uf_2_1, uf_2_2, uf_2_3, uf_2_4, uf_2_5, uf_3_0, uf_3_1, uf_3_2, uf_3_3, uf_3_4, uf_3_5, uf_4_0, uf_4_1, uf_4_2, uf_4_3, uf_4_4, uf_4_5, uf_5_0, uf_5_1, uf_5_2, uf_5_3, uf_5_4, uf_5_5, js_0, js_2, js_3, js_4, js_5, c25, Int32.not_le.mpr c25, if_true, if_false, not_true_eq_false, not_false_eq_true, true_and, and_true, false_and, and_false, true_or, or_true, false_or, or_false, ite_true, ite_false]; done))) ▸ hP
    have hD9 : va_D A (nW cI a (j_unlink N x1)) := (show N = j_unlink N x1 from by (first | (simp only [j_unlink, j_unlink2, c25, Int32.not_le.mpr c25, if_true, if_false, not_true_eq_false, not_false_eq_true, true_and, and_true, false_and, and_false, true_or, or_true, false_or, or_false, ite_true, ite_false]; done) | (simp only [j_unlink, j_unlink2, c25, Int32.not_le.mpr c25, if_true, if_false, not_true_eq_false, not_false_eq_true, true_and, and_true, false_and, and_false, true_or, or_true, false_or, or_false, ite_true, ite_false]; simp only [uq_0_1, uq_0_2, uq_0_3, uq_0_4, uq_0_5, uq_1_0, uq_1_2, uq_1_3, uq_1_4, uq_1_5, uq_2_0, uq_2_1, uq_2_3, uq_2_4, uq_2_5, uq_3_0, uq_3_1, uq_3_2, uq_3_4, uq_3_5, uq_4_0, uq_4_1, uq_4_2, uq_4_3, uq_4_5, uq_5_0, uq_5_1, uq_5_2, uq_5_3, uq_5_4, uf_0_0, uf_0_1, uf_0_2, uf_0_3, uf_0_4, uf_0_5, uf_1_0, uf_1_1, uf_1_2, uf_1_3, uf_1_4, uf_1_5, uf_2_0, uf_2_1, uf_2_2, uf_2_3, uf_2_4, uf_2_5, uf_3_0, uf_3_1, uf_3_2, uf_3_3, uf_3_4, uf_3_5, uf_4_0, uf_4_1, uf_4_2, uf_4_3, uf_4_4, uf_4_5, uf_5_0, uf_5_1, uf_5_2, uf_5_3, uf_5_4, uf_5_5, js_0, js_2, js_3, js_4, js_5]; done) | (simp only [j_unlink, j_unlink2, uq_0_1, uq_0_2, uq_0_3, uq_0_4, uq_0_5, uq_1_0, uq_1_2, uq_1_3, uq_1_4, uq_1_5, uq_2_0, uq_2_1, uq_2_3, uq_2_4, uq_2_5, uq_3_0, uq_3_1, uq_3_2, uq_3_4, uq_3_5, uq_4_0, uq_4_1, uq_4_2, uq_4_3, uq_4_5, uq_5_0, uq_5_1, uq_5_2, uq_5_3, uq_5_4, uf_0_0, uf_0_1, uf_0_2, uf_0_3, uf_0_4, uf_0_5, uf_1_0, uf_1_1, uf_1_2, uf_1_3, uf_1_4, uf_1_5, uf_2_0, uf_2_1, uf_2_2, uf_2_3, uf_2_4, uf_2_5, uf_3_0, uf_3_1, uf_3_2, uf_3_3, uf_3_4, uf_3_5, uf_4_0, uf_4_1, uf_4_2, uf_4_3, uf_4_4, uf_4_5, uf_5_0, uf_5_1, uf_5_2, uf_5_3, uf_5_4, uf_5_5, js_0, js_2, js_3, js_4, js_5, c25, Int32.not_le.mpr c25, if_true, if_false, not_true_eq_false, not_false_eq_true, true_and, and_true, false_and, and_false, true_or, or_true, false_or, or_false, ite_true, ite_false]; done))) ▸ hD
    exact W.vret hx hb hr (fun t ht hW => ⟨⟨(), rfl, trivial, by rw [ht]; exact hP9, va_K.moved hW.alike hK, hD9⟩, hS.F ht⟩) hS.2.2 d_N_unlink_50
  · refine lv_iload_n hx hb d_N_unlink_28 rfl (lv_at hl 1 rfl) ?_
    refine lv_aload_n hx hb d_N_unlink_29 rfl (lv_at hl 2 rfl) ?_
    refine va_get (D := (dC, dI)) (ci := 1) (v := .ref (a 3)) (C := R_N) (T := T_N) (N := 11) hx hb hts in_N hown hK hP 0 rfl rfl 2 (by decide) (hts _ kfl_N_28) (fun _ h9 => h9) rfl d_N_unlink_30 ?_
    refine va_alen (v := nI 12) hx hb hK hP 3 0 rfl rfl rfl d_N_unlink_33 ?_
    refine lv_icmp_ge (tgt := 50) hx hb d_N_unlink_34 (by decide) (fun c34 => ?_) (fun c34 => ?_)
    · have hP9 : va_P (dC, dI) cls0 (nW cI a (j_unlink N x1)) _ := (show N = j_unlink N x1 from by (first | (simp only [j_unlink, j_unlink2, c25, c34, Int32.not_lt.mp c25, Int32.not_lt.mpr c34, if_true, if_false, not_true_eq_false, not_false_eq_true, true_and, and_true, false_and, and_false, true_or, or_true, false_or, or_false, ite_true, ite_false]; done) | (simp only [j_unlink, j_unlink2, c25, c34, Int32.not_lt.mp c25, Int32.not_lt.mpr c34, if_true, if_false, not_true_eq_false, not_false_eq_true, true_and, and_true, false_and, and_false, true_or, or_true, false_or, or_false, ite_true, ite_false]; simp only [uq_0_1, uq_0_2, uq_0_3, uq_0_4, uq_0_5, uq_1_0, uq_1_2, uq_1_3, uq_1_4, uq_1_5, uq_2_0, uq_2_1, uq_2_3, uq_2_4, uq_2_5, uq_3_0, uq_3_1, uq_3_2, uq_3_4, uq_3_5, uq_4_0, uq_4_1, uq_4_2, uq_4_3, uq_4_5, uq_5_0, uq_5_1, uq_5_2, uq_5_3, uq_5_4, uf_0_0, uf_0_1, uf_0_2, uf_0_3, uf_0_4, uf_0_5, uf_1_0, uf_1_1, uf_1_2, uf_1_3, uf_1_4, uf_1_5, uf_2_0, uf_2_1, uf_2_2, uf_2_3, uf_2_4, uf_2_5, uf_3_0, uf_3_1, uf_3_2, uf_3_3, uf_3_4, uf_3_5, uf_4_0, uf_4_1, uf_4_2, uf_4_3, uf_4_4, uf_4_5, uf_5_0, uf_5_1, uf_5_2, uf_5_3, uf_5_4, uf_5_5, js_0, js_2, js_3, js_4, js_5]; done) | (simp only [j_unlink, j_unlink2, uq_0_1, uq_0_2, uq_0_3, uq_0_4, uq_0_5, uq_1_0, uq_1_2, uq_1_3, uq_1_4, uq_1_5, uq_2_0, uq_2_1, uq_2_3, uq_2_4, uq_2_5, uq_3_0, uq_3_1, uq_3_2, uq_3_4, uq_3_5, uq_4_0, uq_4_1, uq_4_2, uq_4_3, uq_4_5, uq_5_0, uq_5_1, uq_5_2, uq_5_3, uq_5_4, uf_0_0, uf_0_1, uf_0_2, uf_0_3, uf_0_4, uf_0_5, uf_1_0, uf_1_1, uf_1_2, uf_1_3, uf_1_4, uf_1_5, uf_2_0, uf_2_1, uf_2_2, uf_2_3, uf_2_4, uf_2_5, uf_3_0, uf_3_1, uf_3_2, uf_3_3, uf_3_4, uf_3_5, uf_4_0, uf_4_1, uf_4_2, uf_4_3, uf_4_4, uf_4_5, uf_5_0, uf_5_1, uf_5_2, uf_5_3, uf_5_4, uf_5_5, js_0, js_2, js_3, js_4, js_5, c25, c34, Int32.not_lt.mp c25, Int32.not_lt.mpr c34, if_true, if_false, not_true_eq_false, not_false_eq_true, true_and, and_true, false_and, and_false, true_or, or_true, false_or, or_false, ite_true, ite_false]; done))) ▸ hP
      have hD9 : va_D A (nW cI a (j_unlink N x1)) := (show N = j_unlink N x1 from by (first | (simp only [j_unlink, j_unlink2, c25, c34, Int32.not_lt.mp c25, Int32.not_lt.mpr c34, if_true, if_false, not_true_eq_false, not_false_eq_true, true_and, and_true, false_and, and_false, true_or, or_true, false_or, or_false, ite_true, ite_false]; done) | (simp only [j_unlink, j_unlink2, c25, c34, Int32.not_lt.mp c25, Int32.not_lt.mpr c34, if_true, if_false, not_true_eq_false, not_false_eq_true, true_and, and_true, false_and, and_false, true_or, or_true, false_or, or_false, ite_true, ite_false]; simp only [uq_0_1, uq_0_2, uq_0_3, uq_0_4, uq_0_5, uq_1_0, uq_1_2, uq_1_3, uq_1_4, uq_1_5, uq_2_0, uq_2_1, uq_2_3, uq_2_4, uq_2_5, uq_3_0, uq_3_1, uq_3_2, uq_3_4, uq_3_5, uq_4_0, uq_4_1, uq_4_2, uq_4_3, uq_4_5, uq_5_0, uq_5_1, uq_5_2, uq_5_3, uq_5_4, uf_0_0, uf_0_1, uf_0_2, uf_0_3, uf_0_4, uf_0_5, uf_1_0, uf_1_1, uf_1_2, uf_1_3, uf_1_4, uf_1_5, uf_2_0, uf_2_1, uf_2_2, uf_2_3, uf_2_4, uf_2_5, uf_3_0, uf_3_1, uf_3_2, uf_3_3, uf_3_4, uf_3_5, uf_4_0, uf_4_1, uf_4_2, uf_4_3, uf_4_4, uf_4_5, uf_5_0, uf_5_1, uf_5_2, uf_5_3, uf_5_4, uf_5_5, js_0, js_2, js_3, js_4, js_5]; done) | (simp only [j_unlink, j_unlink2, uq_0_1, uq_0_2, uq_0_3, uq_0_4, uq_0_5, uq_1_0, uq_1_2, uq_1_3, uq_1_4, uq_1_5, uq_2_0, uq_2_1, uq_2_3, uq_2_4, uq_2_5, uq_3_0, uq_3_1, uq_3_2, uq_3_4, uq_3_5, uq_4_0, uq_4_1, uq_4_2, uq_4_3, uq_4_5, uq_5_0, uq_5_1, uq_5_2, uq_5_3, uq_5_4, uf_0_0, uf_0_1, uf_0_2, uf_0_3, uf_0_4, uf_0_5, uf_1_0, uf_1_1, uf_1_2, uf_1_3, uf_1_4, uf_1_5, uf_2_0, uf_2_1, uf_2_2, uf_2_3, uf_2_4, uf_2_5, uf_3_0, uf_3_1, uf_3_2, uf_3_3, uf_3_4, uf_3_5, uf_4_0, uf_4_1, uf_4_2, uf_4_3, uf_4_4, uf_4_5, uf_5_0, uf_5_1, uf_5_2, uf_5_3, uf_5_4, uf_5_5, js_0, js_2, js_3, js_4, js_5, c25, c34, Int32.not_lt.mp c25, Int32.not_lt.mpr c34, if_true, if_false, not_true_eq_false, not_false_eq_true, true_and, and_true, false_and, and_false, true_or, or_true, false_or, or_false, ite_true, ite_false]; done))) ▸ hD
      exact W.vret hx hb hr (fun t ht hW => ⟨⟨(), rfl, trivial, by rw [ht]; exact hP9, va_K.moved hW.alike hK, hD9⟩, hS.F ht⟩) hS.2.2 d_N_unlink_50
    · refine lv_iload_n hx hb d_N_unlink_37 rfl (lv_at hl 0 rfl) ?_
      refine lv_if_lt (tgt := 50) hx hb d_N_unlink_38 (by decide) (fun c38 => ?_) (fun c38 => ?_)
      · have hP9 : va_P (dC, dI) cls0 (nW cI a (j_unlink N x1)) _ := (show N = j_unlink N x1 from by (first | (simp only [j_unlink, j_unlink2, c25, c34, c38, Int32.not_lt.mp c25, Int32.not_le.mp c34, Int32.not_le.mpr c38, if_true, if_false, not_true_eq_false, not_false_eq_true, true_and, and_true, false_and, and_false, true_or, or_true, false_or, or_false, ite_true, ite_false]; done) | (simp only [j_unlink, j_unlink2, c25, c34, c38, Int32.not_lt.mp c25, Int32.not_le.mp c34, Int32.not_le.mpr c38, if_true, if_false, not_true_eq_false, not_false_eq_true, true_and, and_true, false_and, and_false, true_or, or_true, false_or, or_false, ite_true, ite_false]; simp only [uq_0_1, uq_0_2, uq_0_3, uq_0_4, uq_0_5, uq_1_0, uq_1_2, uq_1_3, uq_1_4, uq_1_5, uq_2_0, uq_2_1, uq_2_3, uq_2_4, uq_2_5, uq_3_0, uq_3_1, uq_3_2, uq_3_4, uq_3_5, uq_4_0, uq_4_1, uq_4_2, uq_4_3, uq_4_5, uq_5_0, uq_5_1, uq_5_2, uq_5_3, uq_5_4, uf_0_0, uf_0_1, uf_0_2, uf_0_3, uf_0_4, uf_0_5, uf_1_0, uf_1_1, uf_1_2, uf_1_3, uf_1_4, uf_1_5, uf_2_0, uf_2_1, uf_2_2, uf_2_3, uf_2_4, uf_2_5, uf_3_0, uf_3_1, uf_3_2, uf_3_3, uf_3_4, uf_3_5, uf_4_0, uf_4_1, uf_4_2, uf_4_3, uf_4_4, uf_4_5, uf_5_0, uf_5_1, uf_5_2, uf_5_3, uf_5_4, uf_5_5, js_0, js_2, js_3, js_4, js_5]; done) | (simp only [j_unlink, j_unlink2, uq_0_1, uq_0_2, uq_0_3, uq_0_4, uq_0_5, uq_1_0, uq_1_2, uq_1_3, uq_1_4, uq_1_5, uq_2_0, uq_2_1, uq_2_3, uq_2_4, uq_2_5, uq_3_0, uq_3_1, uq_3_2, uq_3_4, uq_3_5, uq_4_0, uq_4_1, uq_4_2, uq_4_3, uq_4_5, uq_5_0, uq_5_1, uq_5_2, uq_5_3, uq_5_4, uf_0_0, uf_0_1, uf_0_2, uf_0_3, uf_0_4, uf_0_5, uf_1_0, uf_1_1, uf_1_2, uf_1_3, uf_1_4, uf_1_5, uf_2_0, uf_2_1, uf_2_2, uf_2_3, uf_2_4, uf_2_5, uf_3_0, uf_3_1, uf_3_2, uf_3_3, uf_3_4, uf_3_5, uf_4_0, uf_4_1, uf_4_2, uf_4_3, uf_4_4, uf_4_5, uf_5_0, uf_5_1, uf_5_2, uf_5_3, uf_5_4, uf_5_5, js_0, js_2, js_3, js_4, js_5, c25, c34, c38, Int32.not_lt.mp c25, Int32.not_le.mp c34, Int32.not_le.mpr c38, if_true, if_false, not_true_eq_false, not_false_eq_true, true_and, and_true, false_and, and_false, true_or, or_true, false_or, or_false, ite_true, ite_false]; done))) ▸ hP
        have hD9 : va_D A (nW cI a (j_unlink N x1)) := (show N = j_unlink N x1 from by (first | (simp only [j_unlink, j_unlink2, c25, c34, c38, Int32.not_lt.mp c25, Int32.not_le.mp c34, Int32.not_le.mpr c38, if_true, if_false, not_true_eq_false, not_false_eq_true, true_and, and_true, false_and, and_false, true_or, or_true, false_or, or_false, ite_true, ite_false]; done) | (simp only [j_unlink, j_unlink2, c25, c34, c38, Int32.not_lt.mp c25, Int32.not_le.mp c34, Int32.not_le.mpr c38, if_true, if_false, not_true_eq_false, not_false_eq_true, true_and, and_true, false_and, and_false, true_or, or_true, false_or, or_false, ite_true, ite_false]; simp only [uq_0_1, uq_0_2, uq_0_3, uq_0_4, uq_0_5, uq_1_0, uq_1_2, uq_1_3, uq_1_4, uq_1_5, uq_2_0, uq_2_1, uq_2_3, uq_2_4, uq_2_5, uq_3_0, uq_3_1, uq_3_2, uq_3_4, uq_3_5, uq_4_0, uq_4_1, uq_4_2, uq_4_3, uq_4_5, uq_5_0, uq_5_1, uq_5_2, uq_5_3, uq_5_4, uf_0_0, uf_0_1, uf_0_2, uf_0_3, uf_0_4, uf_0_5, uf_1_0, uf_1_1, uf_1_2, uf_1_3, uf_1_4, uf_1_5, uf_2_0, uf_2_1, uf_2_2, uf_2_3, uf_2_4, uf_2_5, uf_3_0, uf_3_1, uf_3_2, uf_3_3, uf_3_4, uf_3_5, uf_4_0, uf_4_1, uf_4_2, uf_4_3, uf_4_4, uf_4_5, uf_5_0, uf_5_1, uf_5_2, uf_5_3, uf_5_4, uf_5_5, js_0, js_2, js_3, js_4, js_5]; done) | (simp only [j_unlink, j_unlink2, uq_0_1, uq_0_2, uq_0_3, uq_0_4, uq_0_5, uq_1_0, uq_1_2, uq_1_3, uq_1_4, uq_1_5, uq_2_0, uq_2_1, uq_2_3, uq_2_4, uq_2_5, uq_3_0, uq_3_1, uq_3_2, uq_3_4, uq_3_5, uq_4_0, uq_4_1, uq_4_2, uq_4_3, uq_4_5, uq_5_0, uq_5_1, uq_5_2, uq_5_3, uq_5_4, uf_0_0, uf_0_1, uf_0_2, uf_0_3, uf_0_4, uf_0_5, uf_1_0, uf_1_1, uf_1_2, uf_1_3, uf_1_4, uf_1_5, uf_2_0, uf_2_1, uf_2_2, uf_2_3, uf_2_4, uf_2_5, uf_3_0, uf_3_1, uf_3_2, uf_3_3, uf_3_4, uf_3_5, uf_4_0, uf_4_1, uf_4_2, uf_4_3, uf_4_4, uf_4_5, uf_5_0, uf_5_1, uf_5_2, uf_5_3, uf_5_4, uf_5_5, js_0, js_2, js_3, js_4, js_5, c25, c34, c38, Int32.not_lt.mp c25, Int32.not_le.mp c34, Int32.not_le.mpr c38, if_true, if_false, not_true_eq_false, not_false_eq_true, true_and, and_true, false_and, and_false, true_or, or_true, false_or, or_false, ite_true, ite_false]; done))) ▸ hD
        exact W.vret hx hb hr (fun t ht hW => ⟨⟨(), rfl, trivial, by rw [ht]; exact hP9, va_K.moved hW.alike hK, hD9⟩, hS.F ht⟩) hS.2.2 d_N_unlink_50
      · refine lv_iload_n hx hb d_N_unlink_41 rfl (lv_at hl 0 rfl) ?_
        refine lv_aload_n hx hb d_N_unlink_42 rfl (lv_at hl 2 rfl) ?_
        refine va_get (D := (dC, dI)) (ci := 1) (v := .ref (a 2)) (C := R_N) (T := T_N) (N := 11) hx hb hts in_N hown hK hP 0 rfl rfl 1 (by decide) (hts _ kfl_N_25) (fun _ h9 => h9) rfl d_N_unlink_43 ?_
        refine va_alen (v := nI 768) hx hb hK hP 2 0 rfl rfl rfl d_N_unlink_46 ?_
        refine lv_icmp_lt (tgt := 51) hx hb d_N_unlink_47 (by decide) (fun c47 => ?_) (fun c47 => ?_)
        · refine lv_aload_n hx hb d_N_unlink_51 rfl (lv_at hl 2 rfl) ?_
          refine va_get (D := (dC, dI)) (ci := 1) (v := .ref (a 3)) (C := R_N) (T := T_N) (N := 11) hx hb hts in_N hown hK hP 0 rfl rfl 2 (by decide) (hts _ kfl_N_28) (fun _ h9 => h9) rfl d_N_unlink_52 ?_
          refine lv_iload_n hx hb d_N_unlink_55 rfl (lv_at hl 1 rfl) ?_
          refine lv_dup2_11 hx hb d_N_unlink_56 rfl rfl ?_
          refine va_iald hx hb hK hP 3 0 rfl rfl (lt_of_in c25 c34 (by decide)) d_N_unlink_57 ?_
          refine lv_iconst (v := 1) hx hb d_N_unlink_58 (by decide) ?_
          refine lv_isub hx hb d_N_unlink_59 ?_
          refine nAst3 hx hb hK hP hD hS (lt_of_in c25 c34 (by decide)) d_N_unlink_60 (fun H locs hP hD hS => ?_)
          refine lv_aload_n hx hb d_N_unlink_61 rfl (lv_at hl 2 rfl) ?_
          refine va_get (D := (dC, dI)) (ci := 1) (v := .ref (a 2)) (C := R_N) (T := T_N) (N := 11) hx hb hts in_N hown hK hP 0 rfl rfl 1 (by decide) (hts _ kfl_N_25) (fun _ h9 => h9) rfl d_N_unlink_62 ?_
          refine lv_iload_n hx hb d_N_unlink_65 rfl (lv_at hl 0 rfl) ?_
          refine va_iald hx hb hK hP 2 0 rfl rfl (lt_of_in c38 (Int32.not_le.mpr c47) (by decide)) d_N_unlink_66 ?_
          refine lv_iload_n hx hb d_N_unlink_67 rfl (lv_at hl 3 rfl) ?_
          refine lv_icmp_ne (tgt := 84) hx hb d_N_unlink_68 (by decide) (fun c68 => ?_) (fun c68 => ?_)
          · refine lv_aload_n hx hb d_N_unlink_84 rfl (lv_at hl 2 rfl) ?_
            refine va_get (D := (dC, dI)) (ci := 1) (v := .ref (a 2)) (C := R_N) (T := T_N) (N := 11) hx hb hts in_N hown hK hP 0 rfl rfl 1 (by decide) (hts _ kfl_N_25) (fun _ h9 => h9) rfl d_N_unlink_85 ?_
            refine lv_iload_n hx hb d_N_unlink_88 rfl (lv_at hl 0 rfl) ?_
            refine va_iald hx hb hK hP 2 0 rfl rfl (lt_of_in c38 (Int32.not_le.mpr c47) (by decide)) d_N_unlink_89 ?_
            refine lv_istore (lv' := [(4, .int ((up N 3 (j_get N x1 0).toNatClampNeg ((N 3 (j_get N x1 0).toNatClampNeg) - 1)) 2 (j_chainFor (j_get N x1 0) (j_get N x1 1) (j_get N x1 2)).toNatClampNeg)), (3, .int (j_chainFor (j_get N x1 0) (j_get N x1 1) (j_get N x1 2))), (2, .int (j_get N x1 0)), (0, .ref (a 0)), (1, .int x1)]) hx hb d_N_unlink_90 hl (by decide) rfl (fun ls hl => ?_)
            refine lv_iconst (v := 0) hx hb d_N_unlink_92 (by decide) ?_
            refine lv_istore (lv' := [(5, .int 0), (4, .int ((up N 3 (j_get N x1 0).toNatClampNeg ((N 3 (j_get N x1 0).toNatClampNeg) - 1)) 2 (j_chainFor (j_get N x1 0) (j_get N x1 1) (j_get N x1 2)).toNatClampNeg)), (3, .int (j_chainFor (j_get N x1 0) (j_get N x1 1) (j_get N x1 2))), (2, .int (j_get N x1 0)), (0, .ref (a 0)), (1, .int x1)]) hx hb d_N_unlink_93 hl (by decide) rfl (fun ls hl => ?_)
            exact loop 24800 _ 0 _ H locs rfl (by (first | (simp only [j_unlink, j_unlink2, c25, c34, c38, c47, c68, Int32.not_lt.mp c25, Int32.not_le.mp c34, Int32.not_lt.mp c38, Int32.not_le.mpr c47, if_true, if_false, not_true_eq_false, not_false_eq_true, true_and, and_true, false_and, and_false, true_or, or_true, false_or, or_false, ite_true, ite_false]; done) | (simp only [j_unlink, j_unlink2, c25, c34, c38, c47, c68, Int32.not_lt.mp c25, Int32.not_le.mp c34, Int32.not_lt.mp c38, Int32.not_le.mpr c47, if_true, if_false, not_true_eq_false, not_false_eq_true, true_and, and_true, false_and, and_false, true_or, or_true, false_or, or_false, ite_true, ite_false]; simp only [uq_0_1, uq_0_2, uq_0_3, uq_0_4, uq_0_5, uq_1_0, uq_1_2, uq_1_3, uq_1_4, uq_1_5, uq_2_0, uq_2_1, uq_2_3, uq_2_4, uq_2_5, uq_3_0, uq_3_1, uq_3_2, uq_3_4, uq_3_5, uq_4_0, uq_4_1, uq_4_2, uq_4_3, uq_4_5, uq_5_0, uq_5_1, uq_5_2, uq_5_3, uq_5_4, uf_0_0, uf_0_1, uf_0_2, uf_0_3, uf_0_4, uf_0_5, uf_1_0, uf_1_1, uf_1_2, uf_1_3, uf_1_4, uf_1_5, uf_2_0, uf_2_1, uf_2_2, uf_2_3, uf_2_4, uf_2_5, uf_3_0, uf_3_1, uf_3_2, uf_3_3, uf_3_4, uf_3_5, uf_4_0, uf_4_1, uf_4_2, uf_4_3, uf_4_4, uf_4_5, uf_5_0, uf_5_1, uf_5_2, uf_5_3, uf_5_4, uf_5_5, js_0, js_2, js_3, js_4, js_5]; done) | (simp only [j_unlink, j_unlink2, uq_0_1, uq_0_2, uq_0_3, uq_0_4, uq_0_5, uq_1_0, uq_1_2, uq_1_3, uq_1_4, uq_1_5, uq_2_0, uq_2_1, uq_2_3, uq_2_4, uq_2_5, uq_3_0, uq_3_1, uq_3_2, uq_3_4, uq_3_5, uq_4_0, uq_4_1, uq_4_2, uq_4_3, uq_4_5, uq_5_0, uq_5_1, uq_5_2, uq_5_3, uq_5_4, uf_0_0, uf_0_1, uf_0_2, uf_0_3, uf_0_4, uf_0_5, uf_1_0, uf_1_1, uf_1_2, uf_1_3, uf_1_4, uf_1_5, uf_2_0, uf_2_1, uf_2_2, uf_2_3, uf_2_4, uf_2_5, uf_3_0, uf_3_1, uf_3_2, uf_3_3, uf_3_4, uf_3_5, uf_4_0, uf_4_1, uf_4_2, uf_4_3, uf_4_4, uf_4_5, uf_5_0, uf_5_1, uf_5_2, uf_5_3, uf_5_4, uf_5_5, js_0, js_2, js_3, js_4, js_5, c25, c34, c38, c47, c68, Int32.not_lt.mp c25, Int32.not_le.mp c34, Int32.not_lt.mp c38, Int32.not_le.mpr c47, if_true, if_false, not_true_eq_false, not_false_eq_true, true_and, and_true, false_and, and_false, true_or, or_true, false_or, or_false, ite_true, ite_false]; done))) hP hD hS ls (lv_sub hl [0, 1, 4, 5] rfl)
          · refine lv_aload_n hx hb d_N_unlink_71 rfl (lv_at hl 2 rfl) ?_
            refine va_get (D := (dC, dI)) (ci := 1) (v := .ref (a 2)) (C := R_N) (T := T_N) (N := 11) hx hb hts in_N hown hK hP 0 rfl rfl 1 (by decide) (hts _ kfl_N_25) (fun _ h9 => h9) rfl d_N_unlink_72 ?_
            refine lv_iload_n hx hb d_N_unlink_75 rfl (lv_at hl 0 rfl) ?_
            refine lv_aload_n hx hb d_N_unlink_76 rfl (lv_at hl 2 rfl) ?_
            refine lv_iload_n hx hb d_N_unlink_77 rfl (lv_at hl 3 rfl) ?_
            refine lv_iconst (v := 3) hx hb d_N_unlink_78 (by decide) ?_
            refine nCallR (As := [.int x1, .int 3]) (rest := [.int (j_chainFor (j_get N x1 0) (j_get N x1 1) (j_get N x1 2)), .ref (a 2)]) ⟨hx, hb, hml, hown, hts⟩ (c_N_get l dC dI cI a (up N 3 (j_get N x1 0).toNatClampNeg ((N 3 (j_get N x1 0).toNatClampNeg) - 1)) x1 3) (cwV 2 hts (gV kml_N_46 kim_N_get ksl_N_get kin_N kcd_N_get) rfl rfl rfl (by decide +kernel) ⟨Nat.le_of_ble_eq_true rfl, Nat.le_of_ble_eq_true rfl⟩) hP hK rfl hl.1 rfl (Nat.le_of_ble_eq_true rfl) d_N_unlink_79 ⟨Nat.zero_le _, Nat.zero_le _⟩ ?_
            refine nAst2 hx hb hK hP hD hS (lt_of_in c38 (Int32.not_le.mpr c47) (by decide)) d_N_unlink_82 (fun H locs hP hD hS => ?_)
            have hP9 : va_P (dC, dI) cls0 (nW cI a (j_unlink N x1)) _ := (show up (up N 3 (j_get N x1 0).toNatClampNeg ((N 3 (j_get N x1 0).toNatClampNeg) - 1)) 2 (j_chainFor (j_get N x1 0) (j_get N x1 1) (j_get N x1 2)).toNatClampNeg (j_get (up N 3 (j_get N x1 0).toNatClampNeg ((N 3 (j_get N x1 0).toNatClampNeg) - 1)) x1 3) = j_unlink N x1 from by (first | (simp only [j_unlink, j_unlink2, c25, c34, c38, c47, if_pos c68, Int32.not_lt.mp c25, Int32.not_le.mp c34, Int32.not_lt.mp c38, Int32.not_le.mpr c47, if_true, if_false, not_true_eq_false, not_false_eq_true, true_and, and_true, false_and, and_false, true_or, or_true, false_or, or_false, ite_true, ite_false]; done) | (simp only [j_unlink, j_unlink2, c25, c34, c38, c47, c68, Int32.not_lt.mp c25, Int32.not_le.mp c34, Int32.not_lt.mp c38, Int32.not_le.mpr c47, if_true, if_false, not_true_eq_false, not_false_eq_true, true_and, and_true, false_and, and_false, true_or, or_true, false_or, or_false, ite_true, ite_false]; done) | (simp only [j_unlink, j_unlink2, c25, c34, c38, c47, Int32.not_lt.mp c25, Int32.not_le.mp c34, Int32.not_lt.mp c38, Int32.not_le.mpr c47, if_true, if_false, not_true_eq_false, not_false_eq_true, true_and, and_true, false_and, and_false, true_or, or_true, false_or, or_false, ite_true, ite_false]; rw [if_pos c68]) | (simp only [j_unlink, j_unlink2, c25, c34, c38, c47, if_pos c68, Int32.not_lt.mp c25, Int32.not_le.mp c34, Int32.not_lt.mp c38, Int32.not_le.mpr c47, if_true, if_false, not_true_eq_false, not_false_eq_true, true_and, and_true, false_and, and_false, true_or, or_true, false_or, or_false, ite_true, ite_false]; simp only [uq_0_1, uq_0_2, uq_0_3, uq_0_4, uq_0_5, uq_1_0, uq_1_2, uq_1_3, uq_1_4, uq_1_5, uq_2_0, uq_2_1, uq_2_3, uq_2_4, uq_2_5, uq_3_0, uq_3_1, uq_3_2, uq_3_4, uq_3_5, uq_4_0, uq_4_1, uq_4_2, uq_4_3, uq_4_5, uq_5_0, uq_5_1, uq_5_2, uq_5_3, uq_5_4, uf_0_0, uf_0_1, uf_0_2, uf_0_3, uf_0_4, uf_0_5, uf_1_0, uf_1_1, uf_1_2, uf_1_3, uf_1_4, uf_1_5, uf_2_0, uf_2_1, uf_2_2, uf_2_3, uf_2_4, uf_2_5, uf_3_0, uf_3_1, uf_3_2, uf_3_3, uf_3_4, uf_3_5, uf_4_0, uf_4_1, uf_4_2, uf_4_3, uf_4_4, uf_4_5, uf_5_0, uf_5_1, uf_5_2, uf_5_3, uf_5_4, uf_5_5, js_0, js_2, js_3, js_4, js_5]; done) | (simp only [j_unlink, j_unlink2, uq_0_1, uq_0_2, uq_0_3, uq_0_4, uq_0_5, uq_1_0, uq_1_2, uq_1_3, uq_1_4, uq_1_5, uq_2_0, uq_2_1, uq_2_3, uq_2_4, uq_2_5, uq_3_0, uq_3_1, uq_3_2, uq_3_4, uq_3_5, uq_4_0, uq_4_1, uq_4_2, uq_4_3, uq_4_5, uq_5_0, uq_5_1, uq_5_2, uq_5_3, uq_5_4, uf_0_0, uf_0_1, uf_0_2, uf_0_3, uf_0_4, uf_0_5, uf_1_0, uf_1_1, uf_1_2, uf_1_3, uf_1_4, uf_1_5, uf_2_0, uf_2_1, uf_2_2, uf_2_3, uf_2_4, uf_2_5, uf_3_0, uf_3_1, uf_3_2, uf_3_3, uf_3_4, uf_3_5, uf_4_0, uf_4_1, uf_4_2, uf_4_3, uf_4_4, uf_4_5, uf_5_0, uf_5_1, uf_5_2, uf_5_3, uf_5_4, uf_5_5, js_0, js_2, js_3, js_4, js_5, c25, c34, c38, c47, if_pos c68, Int32.not_lt.mp c25, Int32.not_le.mp c34, Int32.not_lt.mp c38, Int32.not_le.mpr c47, if_true, if_false, not_true_eq_false, not_false_eq_true, true_and, and_true, false_and, and_false, true_or, or_true, false_or, or_false, ite_true, ite_false]; done) | (simp only [j_unlink, j_unlink2, uq_0_1, uq_0_2, uq_0_3, uq_0_4, uq_0_5, uq_1_0, uq_1_2, uq_1_3, uq_1_4, uq_1_5, uq_2_0, uq_2_1, uq_2_3, uq_2_4, uq_2_5, uq_3_0, uq_3_1, uq_3_2, uq_3_4, uq_3_5, uq_4_0, uq_4_1, uq_4_2, uq_4_3, uq_4_5, uq_5_0, uq_5_1, uq_5_2, uq_5_3, uq_5_4, uf_0_0, uf_0_1, uf_0_2, uf_0_3, uf_0_4, uf_0_5, uf_1_0, uf_1_1, uf_1_2, uf_1_3, uf_1_4, uf_1_5, uf_2_0, uf_2_1, uf_2_2, uf_2_3, uf_2_4, uf_2_5, uf_3_0, uf_3_1, uf_3_2, uf_3_3, uf_3_4, uf_3_5, uf_4_0, uf_4_1, uf_4_2, uf_4_3, uf_4_4, uf_4_5, uf_5_0, uf_5_1, uf_5_2, uf_5_3, uf_5_4, uf_5_5, js_0, js_2, js_3, js_4, js_5, c25, c34, c38, c47, c68, Int32.not_lt.mp c25, Int32.not_le.mp c34, Int32.not_lt.mp c38, Int32.not_le.mpr c47, if_true, if_false, not_true_eq_false, not_false_eq_true, true_and, and_true, false_and, and_false, true_or, or_true, false_or, or_false, ite_true, ite_false]; done))) ▸ hP
            have hD9 : va_D A (nW cI a (j_unlink N x1)) := (show up (up N 3 (j_get N x1 0).toNatClampNeg ((N 3 (j_get N x1 0).toNatClampNeg) - 1)) 2 (j_chainFor (j_get N x1 0) (j_get N x1 1) (j_get N x1 2)).toNatClampNeg (j_get (up N 3 (j_get N x1 0).toNatClampNeg ((N 3 (j_get N x1 0).toNatClampNeg) - 1)) x1 3) = j_unlink N x1 from by (first | (simp only [j_unlink, j_unlink2, c25, c34, c38, c47, if_pos c68, Int32.not_lt.mp c25, Int32.not_le.mp c34, Int32.not_lt.mp c38, Int32.not_le.mpr c47, if_true, if_false, not_true_eq_false, not_false_eq_true, true_and, and_true, false_and, and_false, true_or, or_true, false_or, or_false, ite_true, ite_false]; done) | (simp only [j_unlink, j_unlink2, c25, c34, c38, c47, c68, Int32.not_lt.mp c25, Int32.not_le.mp c34, Int32.not_lt.mp c38, Int32.not_le.mpr c47, if_true, if_false, not_true_eq_false, not_false_eq_true, true_and, and_true, false_and, and_false, true_or, or_true, false_or, or_false, ite_true, ite_false]; done) | (simp only [j_unlink, j_unlink2, c25, c34, c38, c47, Int32.not_lt.mp c25, Int32.not_le.mp c34, Int32.not_lt.mp c38, Int32.not_le.mpr c47, if_true, if_false, not_true_eq_false, not_false_eq_true, true_and, and_true, false_and, and_false, true_or, or_true, false_or, or_false, ite_true, ite_false]; rw [if_pos c68]) | (simp only [j_unlink, j_unlink2, c25, c34, c38, c47, if_pos c68, Int32.not_lt.mp c25, Int32.not_le.mp c34, Int32.not_lt.mp c38, Int32.not_le.mpr c47, if_true, if_false, not_true_eq_false, not_false_eq_true, true_and, and_true, false_and, and_false, true_or, or_true, false_or, or_false, ite_true, ite_false]; simp only [uq_0_1, uq_0_2, uq_0_3, uq_0_4, uq_0_5, uq_1_0, uq_1_2, uq_1_3, uq_1_4, uq_1_5, uq_2_0, uq_2_1, uq_2_3, uq_2_4, uq_2_5, uq_3_0, uq_3_1, uq_3_2, uq_3_4, uq_3_5, uq_4_0, uq_4_1, uq_4_2, uq_4_3, uq_4_5, uq_5_0, uq_5_1, uq_5_2, uq_5_3, uq_5_4, uf_0_0, uf_0_1, uf_0_2, uf_0_3, uf_0_4, uf_0_5, uf_1_0, uf_1_1, uf_1_2, uf_1_3, uf_1_4, uf_1_5, uf_2_0, uf_2_1, uf_2_2, uf_2_3, uf_2_4, uf_2_5, uf_3_0, uf_3_1, uf_3_2, uf_3_3, uf_3_4, uf_3_5, uf_4_0, uf_4_1, uf_4_2, uf_4_3, uf_4_4, uf_4_5, uf_5_0, uf_5_1, uf_5_2, uf_5_3, uf_5_4, uf_5_5, js_0, js_2, js_3, js_4, js_5]; done) | (simp only [j_unlink, j_unlink2, uq_0_1, uq_0_2, uq_0_3, uq_0_4, uq_0_5, uq_1_0, uq_1_2, uq_1_3, uq_1_4, uq_1_5, uq_2_0, uq_2_1, uq_2_3, uq_2_4, uq_2_5, uq_3_0, uq_3_1, uq_3_2, uq_3_4, uq_3_5, uq_4_0, uq_4_1, uq_4_2, uq_4_3, uq_4_5, uq_5_0, uq_5_1, uq_5_2, uq_5_3, uq_5_4, uf_0_0, uf_0_1, uf_0_2, uf_0_3, uf_0_4, uf_0_5, uf_1_0, uf_1_1, uf_1_2, uf_1_3, uf_1_4, uf_1_5, uf_2_0, uf_2_1, uf_2_2, uf_2_3, uf_2_4, uf_2_5, uf_3_0, uf_3_1, uf_3_2, uf_3_3, uf_3_4, uf_3_5, uf_4_0, uf_4_1, uf_4_2, uf_4_3, uf_4_4, uf_4_5, uf_5_0, uf_5_1, uf_5_2, uf_5_3, uf_5_4, uf_5_5, js_0, js_2, js_3, js_4, js_5, c25, c34, c38, c47, if_pos c68, Int32.not_lt.mp c25, Int32.not_le.mp c34, Int32.not_lt.mp c38, Int32.not_le.mpr c47, if_true, if_false, not_true_eq_false, not_false_eq_true, true_and, and_true, false_and, and_false, true_or, or_true, false_or, or_false, ite_true, ite_false]; done) | (simp only [j_unlink, j_unlink2, uq_0_1, uq_0_2, uq_0_3, uq_0_4, uq_0_5, uq_1_0, uq_1_2, uq_1_3, uq_1_4, uq_1_5, uq_2_0, uq_2_1, uq_2_3, uq_2_4, uq_2_5, uq_3_0, uq_3_1, uq_3_2, uq_3_4, uq_3_5, uq_4_0, uq_4_1, uq_4_2, uq_4_3, uq_4_5, uq_5_0, uq_5_1, uq_5_2, uq_5_3, uq_5_4, uf_0_0, uf_0_1, uf_0_2, uf_0_3, uf_0_4, uf_0_5, uf_1_0, uf_1_1, uf_1_2, uf_1_3, uf_1_4, uf_1_5, uf_2_0, uf_2_1, uf_2_2, uf_2_3, uf_2_4, uf_2_5, uf_3_0, uf_3_1, uf_3_2, uf_3_3, uf_3_4, uf_3_5, uf_4_0, uf_4_1, uf_4_2, uf_4_3, uf_4_4, uf_4_5, uf_5_0, uf_5_1, uf_5_2, uf_5_3, uf_5_4, uf_5_5, js_0, js_2, js_3, js_4, js_5, c25, c34, c38, c47, c68, Int32.not_lt.mp c25, Int32.not_le.mp c34, Int32.not_lt.mp c38, Int32.not_le.mpr c47, if_true, if_false, not_true_eq_false, not_false_eq_true, true_and, and_true, false_and, and_false, true_or, or_true, false_or, or_false, ite_true, ite_false]; done))) ▸ hD
            exact W.vret hx hb hr (fun t ht hW => ⟨⟨(), rfl, trivial, by rw [ht]; exact hP9, va_K.moved hW.alike hK, hD9⟩, hS.F ht⟩) hS.2.2 d_N_unlink_83
        · have hP9 : va_P (dC, dI) cls0 (nW cI a (j_unlink N x1)) _ := (show N = j_unlink N x1 from by (first | (simp only [j_unlink, j_unlink2, c25, c34, c38, c47, Int32.not_lt.mp c25, Int32.not_le.mp c34, Int32.not_lt.mp c38, Int32.not_lt.mp c47, if_true, if_false, not_true_eq_false, not_false_eq_true, true_and, and_true, false_and, and_false, true_or, or_true, false_or, or_false, ite_true, ite_false]; done) | (simp only [j_unlink, j_unlink2, c25, c34, c38, c47, Int32.not_lt.mp c25, Int32.not_le.mp c34, Int32.not_lt.mp c38, Int32.not_lt.mp c47, if_true, if_false, not_true_eq_false, not_false_eq_true, true_and, and_true, false_and, and_false, true_or, or_true, false_or, or_false, ite_true, ite_false]; simp only [uq_0_1, uq_0_2, uq_0_3, uq_0_4, uq_0_5, uq_1_0, uq_1_2, uq_1_3, uq_1_4, uq_1_5, uq_2_0, uq_2_1, uq_2_3, uq_2_4, uq_2_5, uq_3_0, uq_3_1, uq_3_2, uq_3_4, uq_3_5, uq_4_0, uq_4_1, uq_4_2, uq_4_3, uq_4_5, uq_5_0, uq_5_1, uq_5_2, uq_5_3, uq_5_4, uf_0_0, uf_0_1, uf_0_2, uf_0_3, uf_0_4, uf_0_5, uf_1_0, uf_1_1, uf_1_2, uf_1_3, uf_1_4, uf_1_5, uf_2_0, uf_2_1, uf_2_2, uf_2_3, uf_2_4, uf_2_5, uf_3_0, uf_3_1, uf_3_2, uf_3_3, uf_3_4, uf_3_5, uf_4_0, uf_4_1, uf_4_2, uf_4_3, uf_4_4, uf_4_5, uf_5_0, uf_5_1, uf_5_2, uf_5_3, uf_5_4, uf_5_5, js_0, js_2, js_3, js_4, js_5]; done) | (simp only [j_unlink, j_unlink2, uq_0_1, uq_0_2, uq_0_3, uq_0_4, uq_0_5, uq_1_0, uq_1_2, uq_1_3, uq_1_4, uq_1_5, uq_2_0, uq_2_1, uq_2_3, uq_2_4, uq_2_5, uq_3_0, uq_3_1, uq_3_2, uq_3_4, uq_3_5, uq_4_0, uq_4_1, uq_4_2, uq_4_3, uq_4_5, uq_5_0, uq_5_1, uq_5_2, uq_5_3, uq_5_4, uf_0_0, uf_0_1, uf_0_2, uf_0_3, uf_0_4, uf_0_5, uf_1_0, uf_1_1, uf_1_2, uf_1_3, uf_1_4, uf_1_5, uf_2_0, uf_2_1, uf_2_2, uf_2_3, uf_2_4, uf_2_5, uf_3_0, uf_3_1, uf_3_2, uf_3_3, uf_3_4, uf_3_5, uf_4_0, uf_4_1, uf_4_2, uf_4_3, uf_4_4, uf_4_5, uf_5_0, uf_5_1, uf_5_2, uf_5_3, uf_5_4, uf_5_5, js_0, js_2, js_3, js_4, js_5, c25, c34, c38, c47, Int32.not_lt.mp c25, Int32.not_le.mp c34, Int32.not_lt.mp c38, Int32.not_lt.mp c47, if_true, if_false, not_true_eq_false, not_false_eq_true, true_and, and_true, false_and, and_false, true_or, or_true, false_or, or_false, ite_true, ite_false]; done))) ▸ hP
          have hD9 : va_D A (nW cI a (j_unlink N x1)) := (show N = j_unlink N x1 from by (first | (simp only [j_unlink, j_unlink2, c25, c34, c38, c47, Int32.not_lt.mp c25, Int32.not_le.mp c34, Int32.not_lt.mp c38, Int32.not_lt.mp c47, if_true, if_false, not_true_eq_false, not_false_eq_true, true_and, and_true, false_and, and_false, true_or, or_true, false_or, or_false, ite_true, ite_false]; done) | (simp only [j_unlink, j_unlink2, c25, c34, c38, c47, Int32.not_lt.mp c25, Int32.not_le.mp c34, Int32.not_lt.mp c38, Int32.not_lt.mp c47, if_true, if_false, not_true_eq_false, not_false_eq_true, true_and, and_true, false_and, and_false, true_or, or_true, false_or, or_false, ite_true, ite_false]; simp only [uq_0_1, uq_0_2, uq_0_3, uq_0_4, uq_0_5, uq_1_0, uq_1_2, uq_1_3, uq_1_4, uq_1_5, uq_2_0, uq_2_1, uq_2_3, uq_2_4, uq_2_5, uq_3_0, uq_3_1, uq_3_2, uq_3_4, uq_3_5, uq_4_0, uq_4_1, uq_4_2, uq_4_3, uq_4_5, uq_5_0, uq_5_1, uq_5_2, uq_5_3, uq_5_4, uf_0_0, uf_0_1, uf_0_2, uf_0_3, uf_0_4, uf_0_5, uf_1_0, uf_1_1, uf_1_2, uf_1_3, uf_1_4, uf_1_5, uf_2_0, uf_2_1, uf_2_2, uf_2_3, uf_2_4, uf_2_5, uf_3_0, uf_3_1, uf_3_2, uf_3_3, uf_3_4, uf_3_5, uf_4_0, uf_4_1, uf_4_2, uf_4_3, uf_4_4, uf_4_5, uf_5_0, uf_5_1, uf_5_2, uf_5_3, uf_5_4, uf_5_5, js_0, js_2, js_3, js_4, js_5]; done) | (simp only [j_unlink, j_unlink2, uq_0_1, uq_0_2, uq_0_3, uq_0_4, uq_0_5, uq_1_0, uq_1_2, uq_1_3, uq_1_4, uq_1_5, uq_2_0, uq_2_1, uq_2_3, uq_2_4, uq_2_5, uq_3_0, uq_3_1, uq_3_2, uq_3_4, uq_3_5, uq_4_0, uq_4_1, uq_4_2, uq_4_3, uq_4_5, uq_5_0, uq_5_1, uq_5_2, uq_5_3, uq_5_4, uf_0_0, uf_0_1, uf_0_2, uf_0_3, uf_0_4, uf_0_5, uf_1_0, uf_1_1, uf_1_2, uf_1_3, uf_1_4, uf_1_5, uf_2_0, uf_2_1, uf_2_2, uf_2_3, uf_2_4, uf_2_5, uf_3_0, uf_3_1, uf_3_2, uf_3_3, uf_3_4, uf_3_5, uf_4_0, uf_4_1, uf_4_2, uf_4_3, uf_4_4, uf_4_5, uf_5_0, uf_5_1, uf_5_2, uf_5_3, uf_5_4, uf_5_5, js_0, js_2, js_3, js_4, js_5, c25, c34, c38, c47, Int32.not_lt.mp c25, Int32.not_le.mp c34, Int32.not_lt.mp c38, Int32.not_lt.mp c47, if_true, if_false, not_true_eq_false, not_false_eq_true, true_and, and_true, false_and, and_false, true_or, or_true, false_or, or_false, ite_true, ite_false]; done))) ▸ hD
          exact W.vret hx hb hr (fun t ht hW => ⟨⟨(), rfl, trivial, by rw [ht]; exact hP9, va_K.moved hW.alike hK, hD9⟩, hS.F ht⟩) hS.2.2 d_N_unlink_50
