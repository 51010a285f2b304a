/-! THE STORE where it throws -/
set_option maxHeartbeats 8000000 in
set_option maxRecDepth 100000 in
theorem t_S_constant (l : Launch) (hlt : l.stackTraces = false) (A : Nat → Prop) (z0 : Nat) (x1 x2 : Int32) (hno : ¬ (okb x1 32)) : xTs l y_S_constant (.code y_S_constant b_S_constant 3 none) ({ frames := 45, cells := 1, slots := 6, locals := 2600 } : Room) [.ref z0, .int x1, .int x2] A xIA := by
  refine vx_ofW (cc := b_S_constant) (maxL := 3) (ret := none) (by decide) rfl ?_
  intro p e s m args below meth c s₁ B hml htab hv
  obtain ⟨rfl, hZ⟩ := hv
  have hZ : xZ A s s.heap := hZ
  have hx := B.exec
  have hb := B.bytes
  have hr := B.returns
  have hts1 := atoms_spec (ws := .code y_S_constant b_S_constant 3 none :: W0) B.pre
  have hts : ∀ w ∈ W0, w.before _ s = true := fun w h => hts1 w (List.mem_cons_of_mem _ h)
  have hown : s.vm.findClass R_S = some m.cls := findClass_of_methodNamed B.named
  have hlocks := B.notSynchronized
  have hl := lv_entry ([.ref z0, .int x1, .int x2]) (n := 3) (Nat.le_of_ble_eq_true rfl)
  rw [lg_entry_eq]
  generalize (lg_sl ([.ref z0, .int x1, .int x2]) ++ List.replicate (3 - (lg_sl ([.ref z0, .int x1, .int x2])).length) Slot.unset).toArray = ls at hl ⊢
  have hl : lv_has ls 3 [(0, .ref z0), (1, .int x1), (2, .int x2)] := hl
  refine lv_iload_n hx hb d_S_constant_0 rfl (lv_at hl 1 rfl) ?_
  by_cases k1 : okb x1 32
  · refine nCallN (As := [.int x1]) (rest := []) ⟨hx, hb, hml, hown, hts⟩ (c_S_requireSlot l x1 k1) (va_cwS 1 hts (gS kml_S_42 kst_S_requireSlot kin_S kcd_S_requireSlot) rfl rfl rfl (by decide +kernel) ⟨by show 1 + 1 ≤ 45; omega, by show 8 + (1 + 11) + 21 ≤ 2600; omega⟩) rfl hl.1 rfl (Nat.le_of_ble_eq_true rfl) d_S_constant_1 ⟨Nat.zero_le _, Nat.zero_le _⟩ ?_
    exact absurd k1 hno
  · refine nCallX (As := [.int x1]) (rest := []) (A := fun _ => False) ⟨hx, hb, hml, hown, hts⟩ (t_S_requireSlot l hlt (fun _ => False) x1 k1) (va_cwS 1 hts (gS kml_S_42 kst_S_requireSlot kin_S kcd_S_requireSlot) rfl rfl rfl (by decide +kernel) ⟨by show 9 + 1 ≤ 45; omega, by show 8 + (1 + 11) + 121 ≤ 2600; omega⟩) (hZ.narrow (fun _ h => h.elim)) va_S.rf rfl hl.1 rfl (Nat.le_of_ble_eq_true rfl) d_S_constant_1 ⟨Nat.le_of_ble_eq_true rfl, Nat.le_of_ble_eq_true rfl⟩ (fun ce q9 H1 locs1 hz hk hS1 hce hcv hcl => ?_)
    exact vx_out (fun x hx => (htab x hx).elim) B.notSynchronized hce hcv hcl (fun t ht _ => ⟨(), trivial, rfl, by rw [ht]; exact hz, fun q hq _ => by rw [ht]; exact hk q hq⟩) hS1.2.2 (Nat.le_refl _) (Nat.le_refl _)

set_option maxHeartbeats 8000000 in
set_option maxRecDepth 100000 in
theorem t_S_variable (l : Launch) (hlt : l.stackTraces = false) (A : Nat → Prop) (z0 : Nat) (x1 x2 : Int32) (hno : ¬ (okb x1 32 ∧ okb x2 12)) : xTs l y_S_variable (.code y_S_variable b_S_variable 3 none) ({ frames := 45, cells := 1, slots := 6, locals := 2600 } : Room) [.ref z0, .int x1, .int x2] A xIA := by
  refine vx_ofW (cc := b_S_variable) (maxL := 3) (ret := none) (by decide) rfl ?_
  intro p e s m args below meth c s₁ B hml htab hv
  obtain ⟨rfl, hZ⟩ := hv
  have hZ : xZ A s s.heap := hZ
  have hx := B.exec
  have hb := B.bytes
  have hr := B.returns
  have hts1 := atoms_spec (ws := .code y_S_variable b_S_variable 3 none :: W0) B.pre
  have hts : ∀ w ∈ W0, w.before _ s = true := fun w h => hts1 w (List.mem_cons_of_mem _ h)
  have hown : s.vm.findClass R_S = some m.cls := findClass_of_methodNamed B.named
  have hlocks := B.notSynchronized
  have hl := lv_entry ([.ref z0, .int x1, .int x2]) (n := 3) (Nat.le_of_ble_eq_true rfl)
  rw [lg_entry_eq]
  generalize (lg_sl ([.ref z0, .int x1, .int x2]) ++ List.replicate (3 - (lg_sl ([.ref z0, .int x1, .int x2])).length) Slot.unset).toArray = ls at hl ⊢
  have hl : lv_has ls 3 [(0, .ref z0), (1, .int x1), (2, .int x2)] := hl
  refine lv_iload_n hx hb d_S_variable_0 rfl (lv_at hl 1 rfl) ?_
  by_cases k1 : okb x1 32
  · refine nCallN (As := [.int x1]) (rest := []) ⟨hx, hb, hml, hown, hts⟩ (c_S_requireSlot l x1 k1) (va_cwS 1 hts (gS kml_S_42 kst_S_requireSlot kin_S kcd_S_requireSlot) rfl rfl rfl (by decide +kernel) ⟨by show 1 + 1 ≤ 45; omega, by show 8 + (1 + 11) + 21 ≤ 2600; omega⟩) rfl hl.1 rfl (Nat.le_of_ble_eq_true rfl) d_S_variable_1 ⟨Nat.zero_le _, Nat.zero_le _⟩ ?_
    refine lv_iload_n hx hb d_S_variable_4 rfl (lv_at hl 2 rfl) ?_
    refine lv_bipush (v := 12) hx hb d_S_variable_5 (by decide) ?_
    by_cases k7 : okb x2 12
    · refine nCallN (As := [.int x2, .int 12]) (rest := []) ⟨hx, hb, hml, hown, hts⟩ (c_S_requireBelow l x2 12 k7) (va_cwS 2 hts (gS kml_S_50 kst_S_requireBelow kin_S kcd_S_requireBelow) rfl rfl rfl (by decide +kernel) ⟨by show 0 + 1 ≤ 45; omega, by show 8 + (2 + 11) + 0 ≤ 2600; omega⟩) rfl hl.1 rfl (Nat.le_of_ble_eq_true rfl) d_S_variable_7 ⟨Nat.zero_le _, Nat.zero_le _⟩ ?_
      exact absurd ⟨k1, k7⟩ hno
    · refine nCallX (As := [.int x2, .int 12]) (rest := []) (A := fun _ => False) ⟨hx, hb, hml, hown, hts⟩ (t_S_requireBelow l hlt (fun _ => False) x2 12 k7) (va_cwS 2 hts (gS kml_S_50 kst_S_requireBelow kin_S kcd_S_requireBelow) rfl rfl rfl (by decide +kernel) ⟨by show 8 + 1 ≤ 45; omega, by show 8 + (2 + 11) + 100 ≤ 2600; omega⟩) (hZ.narrow (fun _ h => h.elim)) va_S.rf rfl hl.1 rfl (Nat.le_of_ble_eq_true rfl) d_S_variable_7 ⟨Nat.le_of_ble_eq_true rfl, Nat.le_of_ble_eq_true rfl⟩ (fun ce q9 H1 locs1 hz hk hS1 hce hcv hcl => ?_)
      exact vx_out (fun x hx => (htab x hx).elim) B.notSynchronized hce hcv hcl (fun t ht _ => ⟨(), trivial, rfl, by rw [ht]; exact hz, fun q hq _ => by rw [ht]; exact hk q hq⟩) hS1.2.2 (Nat.le_refl _) (Nat.le_refl _)
  · refine nCallX (As := [.int x1]) (rest := []) (A := fun _ => False) ⟨hx, hb, hml, hown, hts⟩ (t_S_requireSlot l hlt (fun _ => False) x1 k1) (va_cwS 1 hts (gS kml_S_42 kst_S_requireSlot kin_S kcd_S_requireSlot) rfl rfl rfl (by decide +kernel) ⟨by show 9 + 1 ≤ 45; omega, by show 8 + (1 + 11) + 121 ≤ 2600; omega⟩) (hZ.narrow (fun _ h => h.elim)) va_S.rf rfl hl.1 rfl (Nat.le_of_ble_eq_true rfl) d_S_variable_1 ⟨Nat.le_of_ble_eq_true rfl, Nat.le_of_ble_eq_true rfl⟩ (fun ce q9 H1 locs1 hz hk hS1 hce hcv hcl => ?_)
    exact vx_out (fun x hx => (htab x hx).elim) B.notSynchronized hce hcv hcl (fun t ht _ => ⟨(), trivial, rfl, by rw [ht]; exact hz, fun q hq _ => by rw [ht]; exact hk q hq⟩) hS1.2.2 (Nat.le_refl _) (Nat.le_refl _)

set_option maxHeartbeats 8000000 in
set_option maxRecDepth 100000 in
theorem t_S_choose (l : Launch) (hlt : l.stackTraces = false) (A : Nat → Prop) (z0 : Nat) (x1 x2 x3 x4 : Int32) (hno : ¬ (okb x1 32 ∧ okb x2 32 ∧ okb x3 32 ∧ okb x4 32)) : xTs l y_S_choose (.code y_S_choose b_S_choose 5 (some .boolean)) ({ frames := 45, cells := 1, slots := 6, locals := 2600 } : Room) [.ref z0, .int x1, .int x2, .int x3, .int x4] A xIA := by
  refine vx_ofW (cc := b_S_choose) (maxL := 5) (ret := (some .boolean)) (by decide) rfl ?_
  intro p e s m args below meth c s₁ B hml htab hv
  obtain ⟨rfl, hZ⟩ := hv
  have hZ : xZ A s s.heap := hZ
  have hx := B.exec
  have hb := B.bytes
  have hr := B.returns
  have hts1 := atoms_spec (ws := .code y_S_choose b_S_choose 5 (some .boolean) :: W0) B.pre
  have hts : ∀ w ∈ W0, w.before _ s = true := fun w h => hts1 w (List.mem_cons_of_mem _ h)
  have hown : s.vm.findClass R_S = some m.cls := findClass_of_methodNamed B.named
  have hlocks := B.notSynchronized
  have hl := lv_entry ([.ref z0, .int x1, .int x2, .int x3, .int x4]) (n := 5) (Nat.le_of_ble_eq_true rfl)
  rw [lg_entry_eq]
  generalize (lg_sl ([.ref z0, .int x1, .int x2, .int x3, .int x4]) ++ List.replicate (5 - (lg_sl ([.ref z0, .int x1, .int x2, .int x3, .int x4])).length) Slot.unset).toArray = ls at hl ⊢
  have hl : lv_has ls 5 [(0, .ref z0), (1, .int x1), (2, .int x2), (3, .int x3), (4, .int x4)] := hl
  refine lv_iload_n hx hb d_S_choose_0 rfl (lv_at hl 1 rfl) ?_
  by_cases k1 : okb x1 32
  · refine nCallN (As := [.int x1]) (rest := []) ⟨hx, hb, hml, hown, hts⟩ (c_S_requireSlot l x1 k1) (va_cwS 1 hts (gS kml_S_42 kst_S_requireSlot kin_S kcd_S_requireSlot) rfl rfl rfl (by decide +kernel) ⟨by show 1 + 1 ≤ 45; omega, by show 8 + (1 + 11) + 21 ≤ 2600; omega⟩) rfl hl.1 rfl (Nat.le_of_ble_eq_true rfl) d_S_choose_1 ⟨Nat.zero_le _, Nat.zero_le _⟩ ?_
    refine lv_iload_n hx hb d_S_choose_4 rfl (lv_at hl 2 rfl) ?_
    by_cases k5 : okb x2 32
    · refine nCallN (As := [.int x2]) (rest := []) ⟨hx, hb, hml, hown, hts⟩ (c_S_requireSlot l x2 k5) (va_cwS 1 hts (gS kml_S_42 kst_S_requireSlot kin_S kcd_S_requireSlot) rfl rfl rfl (by decide +kernel) ⟨by show 1 + 1 ≤ 45; omega, by show 8 + (1 + 11) + 21 ≤ 2600; omega⟩) rfl hl.1 rfl (Nat.le_of_ble_eq_true rfl) d_S_choose_5 ⟨Nat.zero_le _, Nat.zero_le _⟩ ?_
      refine lv_iload_n hx hb d_S_choose_8 rfl (lv_at hl 3 rfl) ?_
      by_cases k9 : okb x3 32
      · refine nCallN (As := [.int x3]) (rest := []) ⟨hx, hb, hml, hown, hts⟩ (c_S_requireSlot l x3 k9) (va_cwS 1 hts (gS kml_S_42 kst_S_requireSlot kin_S kcd_S_requireSlot) rfl rfl rfl (by decide +kernel) ⟨by show 1 + 1 ≤ 45; omega, by show 8 + (1 + 11) + 21 ≤ 2600; omega⟩) rfl hl.1 rfl (Nat.le_of_ble_eq_true rfl) d_S_choose_9 ⟨Nat.zero_le _, Nat.zero_le _⟩ ?_
        refine lv_iload hx hb d_S_choose_12 (lv_at hl 4 rfl) ?_
        by_cases k14 : okb x4 32
        · refine nCallN (As := [.int x4]) (rest := []) ⟨hx, hb, hml, hown, hts⟩ (c_S_requireSlot l x4 k14) (va_cwS 1 hts (gS kml_S_42 kst_S_requireSlot kin_S kcd_S_requireSlot) rfl rfl rfl (by decide +kernel) ⟨by show 1 + 1 ≤ 45; omega, by show 8 + (1 + 11) + 21 ≤ 2600; omega⟩) rfl hl.1 rfl (Nat.le_of_ble_eq_true rfl) d_S_choose_14 ⟨Nat.zero_le _, Nat.zero_le _⟩ ?_
          exact absurd ⟨k1, k5, k9, k14⟩ hno
        · refine nCallX (As := [.int x4]) (rest := []) (A := fun _ => False) ⟨hx, hb, hml, hown, hts⟩ (t_S_requireSlot l hlt (fun _ => False) x4 k14) (va_cwS 1 hts (gS kml_S_42 kst_S_requireSlot kin_S kcd_S_requireSlot) rfl rfl rfl (by decide +kernel) ⟨by show 9 + 1 ≤ 45; omega, by show 8 + (1 + 11) + 121 ≤ 2600; omega⟩) (hZ.narrow (fun _ h => h.elim)) va_S.rf rfl hl.1 rfl (Nat.le_of_ble_eq_true rfl) d_S_choose_14 ⟨Nat.le_of_ble_eq_true rfl, Nat.le_of_ble_eq_true rfl⟩ (fun ce q9 H1 locs1 hz hk hS1 hce hcv hcl => ?_)
          exact vx_out (fun x hx => (htab x hx).elim) B.notSynchronized hce hcv hcl (fun t ht _ => ⟨(), trivial, rfl, by rw [ht]; exact hz, fun q hq _ => by rw [ht]; exact hk q hq⟩) hS1.2.2 (Nat.le_refl _) (Nat.le_refl _)
      · refine nCallX (As := [.int x3]) (rest := []) (A := fun _ => False) ⟨hx, hb, hml, hown, hts⟩ (t_S_requireSlot l hlt (fun _ => False) x3 k9) (va_cwS 1 hts (gS kml_S_42 kst_S_requireSlot kin_S kcd_S_requireSlot) rfl rfl rfl (by decide +kernel) ⟨by show 9 + 1 ≤ 45; omega, by show 8 + (1 + 11) + 121 ≤ 2600; omega⟩) (hZ.narrow (fun _ h => h.elim)) va_S.rf rfl hl.1 rfl (Nat.le_of_ble_eq_true rfl) d_S_choose_9 ⟨Nat.le_of_ble_eq_true rfl, Nat.le_of_ble_eq_true rfl⟩ (fun ce q9 H1 locs1 hz hk hS1 hce hcv hcl => ?_)
        exact vx_out (fun x hx => (htab x hx).elim) B.notSynchronized hce hcv hcl (fun t ht _ => ⟨(), trivial, rfl, by rw [ht]; exact hz, fun q hq _ => by rw [ht]; exact hk q hq⟩) hS1.2.2 (Nat.le_refl _) (Nat.le_refl _)
    · refine nCallX (As := [.int x2]) (rest := []) (A := fun _ => False) ⟨hx, hb, hml, hown, hts⟩ (t_S_requireSlot l hlt (fun _ => False) x2 k5) (va_cwS 1 hts (gS kml_S_42 kst_S_requireSlot kin_S kcd_S_requireSlot) rfl rfl rfl (by decide +kernel) ⟨by show 9 + 1 ≤ 45; omega, by show 8 + (1 + 11) + 121 ≤ 2600; omega⟩) (hZ.narrow (fun _ h => h.elim)) va_S.rf rfl hl.1 rfl (Nat.le_of_ble_eq_true rfl) d_S_choose_5 ⟨Nat.le_of_ble_eq_true rfl, Nat.le_of_ble_eq_true rfl⟩ (fun ce q9 H1 locs1 hz hk hS1 hce hcv hcl => ?_)
      exact vx_out (fun x hx => (htab x hx).elim) B.notSynchronized hce hcv hcl (fun t ht _ => ⟨(), trivial, rfl, by rw [ht]; exact hz, fun q hq _ => by rw [ht]; exact hk q hq⟩) hS1.2.2 (Nat.le_refl _) (Nat.le_refl _)
  · refine nCallX (As := [.int x1]) (rest := []) (A := fun _ => False) ⟨hx, hb, hml, hown, hts⟩ (t_S_requireSlot l hlt (fun _ => False) x1 k1) (va_cwS 1 hts (gS kml_S_42 kst_S_requireSlot kin_S kcd_S_requireSlot) rfl rfl rfl (by decide +kernel) ⟨by show 9 + 1 ≤ 45; omega, by show 8 + (1 + 11) + 121 ≤ 2600; omega⟩) (hZ.narrow (fun _ h => h.elim)) va_S.rf rfl hl.1 rfl (Nat.le_of_ble_eq_true rfl) d_S_choose_1 ⟨Nat.le_of_ble_eq_true rfl, Nat.le_of_ble_eq_true rfl⟩ (fun ce q9 H1 locs1 hz hk hS1 hce hcv hcl => ?_)
    exact vx_out (fun x hx => (htab x hx).elim) B.notSynchronized hce hcv hcl (fun t ht _ => ⟨(), trivial, rfl, by rw [ht]; exact hz, fun q hq _ => by rw [ht]; exact hk q hq⟩) hS1.2.2 (Nat.le_refl _) (Nat.le_refl _)

set_option maxHeartbeats 8000000 in
set_option maxRecDepth 100000 in
theorem t_S_join (l : Launch) (hlt : l.stackTraces = false) (A : Nat → Prop) (z0 : Nat) (x1 x2 x3 x4 : Int32) (hno : ¬ (okb x1 32 ∧ okb x2 5 ∧ okb x3 32 ∧ okb x4 32)) : xTs l y_S_join (.code y_S_join b_S_join 5 (some .boolean)) ({ frames := 45, cells := 1, slots := 6, locals := 2600 } : Room) [.ref z0, .int x1, .int x2, .int x3, .int x4] A xIA := by
  refine vx_ofW (cc := b_S_join) (maxL := 5) (ret := (some .boolean)) (by decide) rfl ?_
  intro p e s m args below meth c s₁ B hml htab hv
  obtain ⟨rfl, hZ⟩ := hv
  have hZ : xZ A s s.heap := hZ
  have hx := B.exec
  have hb := B.bytes
  have hr := B.returns
  have hts1 := atoms_spec (ws := .code y_S_join b_S_join 5 (some .boolean) :: W0) B.pre
  have hts : ∀ w ∈ W0, w.before _ s = true := fun w h => hts1 w (List.mem_cons_of_mem _ h)
  have hown : s.vm.findClass R_S = some m.cls := findClass_of_methodNamed B.named
  have hlocks := B.notSynchronized
  have hl := lv_entry ([.ref z0, .int x1, .int x2, .int x3, .int x4]) (n := 5) (Nat.le_of_ble_eq_true rfl)
  rw [lg_entry_eq]
  generalize (lg_sl ([.ref z0, .int x1, .int x2, .int x3, .int x4]) ++ List.replicate (5 - (lg_sl ([.ref z0, .int x1, .int x2, .int x3, .int x4])).length) Slot.unset).toArray = ls at hl ⊢
  have hl : lv_has ls 5 [(0, .ref z0), (1, .int x1), (2, .int x2), (3, .int x3), (4, .int x4)] := hl
  refine lv_iload_n hx hb d_S_join_0 rfl (lv_at hl 1 rfl) ?_
  by_cases k1 : okb x1 32
  · refine nCallN (As := [.int x1]) (rest := []) ⟨hx, hb, hml, hown, hts⟩ (c_S_requireSlot l x1 k1) (va_cwS 1 hts (gS kml_S_42 kst_S_requireSlot kin_S kcd_S_requireSlot) rfl rfl rfl (by decide +kernel) ⟨by show 1 + 1 ≤ 45; omega, by show 8 + (1 + 11) + 21 ≤ 2600; omega⟩) rfl hl.1 rfl (Nat.le_of_ble_eq_true rfl) d_S_join_1 ⟨Nat.zero_le _, Nat.zero_le _⟩ ?_
    refine lv_iload_n hx hb d_S_join_4 rfl (lv_at hl 2 rfl) ?_
    refine lv_iconst (v := 5) hx hb d_S_join_5 (by decide) ?_
    by_cases k6 : okb x2 5
    · refine nCallN (As := [.int x2, .int 5]) (rest := []) ⟨hx, hb, hml, hown, hts⟩ (c_S_requireBelow l x2 5 k6) (va_cwS 2 hts (gS kml_S_50 kst_S_requireBelow kin_S kcd_S_requireBelow) rfl rfl rfl (by decide +kernel) ⟨by show 0 + 1 ≤ 45; omega, by show 8 + (2 + 11) + 0 ≤ 2600; omega⟩) rfl hl.1 rfl (Nat.le_of_ble_eq_true rfl) d_S_join_6 ⟨Nat.zero_le _, Nat.zero_le _⟩ ?_
      refine lv_iload_n hx hb d_S_join_9 rfl (lv_at hl 3 rfl) ?_
      by_cases k10 : okb x3 32
      · refine nCallN (As := [.int x3]) (rest := []) ⟨hx, hb, hml, hown, hts⟩ (c_S_requireSlot l x3 k10) (va_cwS 1 hts (gS kml_S_42 kst_S_requireSlot kin_S kcd_S_requireSlot) rfl rfl rfl (by decide +kernel) ⟨by show 1 + 1 ≤ 45; omega, by show 8 + (1 + 11) + 21 ≤ 2600; omega⟩) rfl hl.1 rfl (Nat.le_of_ble_eq_true rfl) d_S_join_10 ⟨Nat.zero_le _, Nat.zero_le _⟩ ?_
        refine lv_iload hx hb d_S_join_13 (lv_at hl 4 rfl) ?_
        by_cases k15 : okb x4 32
        · refine nCallN (As := [.int x4]) (rest := []) ⟨hx, hb, hml, hown, hts⟩ (c_S_requireSlot l x4 k15) (va_cwS 1 hts (gS kml_S_42 kst_S_requireSlot kin_S kcd_S_requireSlot) rfl rfl rfl (by decide +kernel) ⟨by show 1 + 1 ≤ 45; omega, by show 8 + (1 + 11) + 21 ≤ 2600; omega⟩) rfl hl.1 rfl (Nat.le_of_ble_eq_true rfl) d_S_join_15 ⟨Nat.zero_le _, Nat.zero_le _⟩ ?_
          exact absurd ⟨k1, k6, k10, k15⟩ hno
        · refine nCallX (As := [.int x4]) (rest := []) (A := fun _ => False) ⟨hx, hb, hml, hown, hts⟩ (t_S_requireSlot l hlt (fun _ => False) x4 k15) (va_cwS 1 hts (gS kml_S_42 kst_S_requireSlot kin_S kcd_S_requireSlot) rfl rfl rfl (by decide +kernel) ⟨by show 9 + 1 ≤ 45; omega, by show 8 + (1 + 11) + 121 ≤ 2600; omega⟩) (hZ.narrow (fun _ h => h.elim)) va_S.rf rfl hl.1 rfl (Nat.le_of_ble_eq_true rfl) d_S_join_15 ⟨Nat.le_of_ble_eq_true rfl, Nat.le_of_ble_eq_true rfl⟩ (fun ce q9 H1 locs1 hz hk hS1 hce hcv hcl => ?_)
          exact vx_out (fun x hx => (htab x hx).elim) B.notSynchronized hce hcv hcl (fun t ht _ => ⟨(), trivial, rfl, by rw [ht]; exact hz, fun q hq _ => by rw [ht]; exact hk q hq⟩) hS1.2.2 (Nat.le_refl _) (Nat.le_refl _)
      · refine nCallX (As := [.int x3]) (rest := []) (A := fun _ => False) ⟨hx, hb, hml, hown, hts⟩ (t_S_requireSlot l hlt (fun _ => False) x3 k10) (va_cwS 1 hts (gS kml_S_42 kst_S_requireSlot kin_S kcd_S_requireSlot) rfl rfl rfl (by decide +kernel) ⟨by show 9 + 1 ≤ 45; omega, by show 8 + (1 + 11) + 121 ≤ 2600; omega⟩) (hZ.narrow (fun _ h => h.elim)) va_S.rf rfl hl.1 rfl (Nat.le_of_ble_eq_true rfl) d_S_join_10 ⟨Nat.le_of_ble_eq_true rfl, Nat.le_of_ble_eq_true rfl⟩ (fun ce q9 H1 locs1 hz hk hS1 hce hcv hcl => ?_)
        exact vx_out (fun x hx => (htab x hx).elim) B.notSynchronized hce hcv hcl (fun t ht _ => ⟨(), trivial, rfl, by rw [ht]; exact hz, fun q hq _ => by rw [ht]; exact hk q hq⟩) hS1.2.2 (Nat.le_refl _) (Nat.le_refl _)
    · refine nCallX (As := [.int x2, .int 5]) (rest := []) (A := fun _ => False) ⟨hx, hb, hml, hown, hts⟩ (t_S_requireBelow l hlt (fun _ => False) x2 5 k6) (va_cwS 2 hts (gS kml_S_50 kst_S_requireBelow kin_S kcd_S_requireBelow) rfl rfl rfl (by decide +kernel) ⟨by show 8 + 1 ≤ 45; omega, by show 8 + (2 + 11) + 100 ≤ 2600; omega⟩) (hZ.narrow (fun _ h => h.elim)) va_S.rf rfl hl.1 rfl (Nat.le_of_ble_eq_true rfl) d_S_join_6 ⟨Nat.le_of_ble_eq_true rfl, Nat.le_of_ble_eq_true rfl⟩ (fun ce q9 H1 locs1 hz hk hS1 hce hcv hcl => ?_)
      exact vx_out (fun x hx => (htab x hx).elim) B.notSynchronized hce hcv hcl (fun t ht _ => ⟨(), trivial, rfl, by rw [ht]; exact hz, fun q hq _ => by rw [ht]; exact hk q hq⟩) hS1.2.2 (Nat.le_refl _) (Nat.le_refl _)
  · refine nCallX (As := [.int x1]) (rest := []) (A := fun _ => False) ⟨hx, hb, hml, hown, hts⟩ (t_S_requireSlot l hlt (fun _ => False) x1 k1) (va_cwS 1 hts (gS kml_S_42 kst_S_requireSlot kin_S kcd_S_requireSlot) rfl rfl rfl (by decide +kernel) ⟨by show 9 + 1 ≤ 45; omega, by show 8 + (1 + 11) + 121 ≤ 2600; omega⟩) (hZ.narrow (fun _ h => h.elim)) va_S.rf rfl hl.1 rfl (Nat.le_of_ble_eq_true rfl) d_S_join_1 ⟨Nat.le_of_ble_eq_true rfl, Nat.le_of_ble_eq_true rfl⟩ (fun ce q9 H1 locs1 hz hk hS1 hce hcv hcl => ?_)
    exact vx_out (fun x hx => (htab x hx).elim) B.notSynchronized hce hcv hcl (fun t ht _ => ⟨(), trivial, rfl, by rw [ht]; exact hz, fun q hq _ => by rw [ht]; exact hk q hq⟩) hS1.2.2 (Nat.le_refl _) (Nat.le_refl _)

set_option maxHeartbeats 8000000 in
set_option maxRecDepth 100000 in
theorem t_S_some (l : Launch) (hlt : l.stackTraces = false) (A : Nat → Prop) (z0 : Nat) (x1 x2 x3 x4 : Int32) (hno : ¬ (okb x1 32 ∧ okb x2 32 ∧ okb x3 32 ∧ okb x4 4096)) : xTs l y_S_some (.code y_S_some b_S_some 5 (some .boolean)) ({ frames := 45, cells := 1, slots := 6, locals := 2600 } : Room) [.ref z0, .int x1, .int x2, .int x3, .int x4] A xIA := by
  refine vx_ofW (cc := b_S_some) (maxL := 5) (ret := (some .boolean)) (by decide) rfl ?_
  intro p e s m args below meth c s₁ B hml htab hv
  obtain ⟨rfl, hZ⟩ := hv
  have hZ : xZ A s s.heap := hZ
  have hx := B.exec
  have hb := B.bytes
  have hr := B.returns
  have hts1 := atoms_spec (ws := .code y_S_some b_S_some 5 (some .boolean) :: W0) B.pre
  have hts : ∀ w ∈ W0, w.before _ s = true := fun w h => hts1 w (List.mem_cons_of_mem _ h)
  have hown : s.vm.findClass R_S = some m.cls := findClass_of_methodNamed B.named
  have hlocks := B.notSynchronized
  have hl := lv_entry ([.ref z0, .int x1, .int x2, .int x3, .int x4]) (n := 5) (Nat.le_of_ble_eq_true rfl)
  rw [lg_entry_eq]
  generalize (lg_sl ([.ref z0, .int x1, .int x2, .int x3, .int x4]) ++ List.replicate (5 - (lg_sl ([.ref z0, .int x1, .int x2, .int x3, .int x4])).length) Slot.unset).toArray = ls at hl ⊢
  have hl : lv_has ls 5 [(0, .ref z0), (1, .int x1), (2, .int x2), (3, .int x3), (4, .int x4)] := hl
  refine lv_iload_n hx hb d_S_some_0 rfl (lv_at hl 1 rfl) ?_
  by_cases k1 : okb x1 32
  · refine nCallN (As := [.int x1]) (rest := []) ⟨hx, hb, hml, hown, hts⟩ (c_S_requireSlot l x1 k1) (va_cwS 1 hts (gS kml_S_42 kst_S_requireSlot kin_S kcd_S_requireSlot) rfl rfl rfl (by decide +kernel) ⟨by show 1 + 1 ≤ 45; omega, by show 8 + (1 + 11) + 21 ≤ 2600; omega⟩) rfl hl.1 rfl (Nat.le_of_ble_eq_true rfl) d_S_some_1 ⟨Nat.zero_le _, Nat.zero_le _⟩ ?_
    refine lv_iload_n hx hb d_S_some_4 rfl (lv_at hl 2 rfl) ?_
    by_cases k5 : okb x2 32
    · refine nCallN (As := [.int x2]) (rest := []) ⟨hx, hb, hml, hown, hts⟩ (c_S_requireSlot l x2 k5) (va_cwS 1 hts (gS kml_S_42 kst_S_requireSlot kin_S kcd_S_requireSlot) rfl rfl rfl (by decide +kernel) ⟨by show 1 + 1 ≤ 45; omega, by show 8 + (1 + 11) + 21 ≤ 2600; omega⟩) rfl hl.1 rfl (Nat.le_of_ble_eq_true rfl) d_S_some_5 ⟨Nat.zero_le _, Nat.zero_le _⟩ ?_
      refine lv_iload_n hx hb d_S_some_8 rfl (lv_at hl 3 rfl) ?_
      by_cases k9 : okb x3 32
      · refine nCallN (As := [.int x3]) (rest := []) ⟨hx, hb, hml, hown, hts⟩ (c_S_requireSlot l x3 k9) (va_cwS 1 hts (gS kml_S_42 kst_S_requireSlot kin_S kcd_S_requireSlot) rfl rfl rfl (by decide +kernel) ⟨by show 1 + 1 ≤ 45; omega, by show 8 + (1 + 11) + 21 ≤ 2600; omega⟩) rfl hl.1 rfl (Nat.le_of_ble_eq_true rfl) d_S_some_9 ⟨Nat.zero_le _, Nat.zero_le _⟩ ?_
        refine lv_iload hx hb d_S_some_12 (lv_at hl 4 rfl) ?_
        refine lv_sipush (v := 4096) hx hb d_S_some_14 (by decide) ?_
        by_cases k17 : okb x4 4096
        · refine nCallN (As := [.int x4, .int 4096]) (rest := []) ⟨hx, hb, hml, hown, hts⟩ (c_S_requireBelow l x4 4096 k17) (va_cwS 2 hts (gS kml_S_50 kst_S_requireBelow kin_S kcd_S_requireBelow) rfl rfl rfl (by decide +kernel) ⟨by show 0 + 1 ≤ 45; omega, by show 8 + (2 + 11) + 0 ≤ 2600; omega⟩) rfl hl.1 rfl (Nat.le_of_ble_eq_true rfl) d_S_some_17 ⟨Nat.zero_le _, Nat.zero_le _⟩ ?_
          exact absurd ⟨k1, k5, k9, k17⟩ hno
        · refine nCallX (As := [.int x4, .int 4096]) (rest := []) (A := fun _ => False) ⟨hx, hb, hml, hown, hts⟩ (t_S_requireBelow l hlt (fun _ => False) x4 4096 k17) (va_cwS 2 hts (gS kml_S_50 kst_S_requireBelow kin_S kcd_S_requireBelow) rfl rfl rfl (by decide +kernel) ⟨by show 8 + 1 ≤ 45; omega, by show 8 + (2 + 11) + 100 ≤ 2600; omega⟩) (hZ.narrow (fun _ h => h.elim)) va_S.rf rfl hl.1 rfl (Nat.le_of_ble_eq_true rfl) d_S_some_17 ⟨Nat.le_of_ble_eq_true rfl, Nat.le_of_ble_eq_true rfl⟩ (fun ce q9 H1 locs1 hz hk hS1 hce hcv hcl => ?_)
          exact vx_out (fun x hx => (htab x hx).elim) B.notSynchronized hce hcv hcl (fun t ht _ => ⟨(), trivial, rfl, by rw [ht]; exact hz, fun q hq _ => by rw [ht]; exact hk q hq⟩) hS1.2.2 (Nat.le_refl _) (Nat.le_refl _)
      · refine nCallX (As := [.int x3]) (rest := []) (A := fun _ => False) ⟨hx, hb, hml, hown, hts⟩ (t_S_requireSlot l hlt (fun _ => False) x3 k9) (va_cwS 1 hts (gS kml_S_42 kst_S_requireSlot kin_S kcd_S_requireSlot) rfl rfl rfl (by decide +kernel) ⟨by show 9 + 1 ≤ 45; omega, by show 8 + (1 + 11) + 121 ≤ 2600; omega⟩) (hZ.narrow (fun _ h => h.elim)) va_S.rf rfl hl.1 rfl (Nat.le_of_ble_eq_true rfl) d_S_some_9 ⟨Nat.le_of_ble_eq_true rfl, Nat.le_of_ble_eq_true rfl⟩ (fun ce q9 H1 locs1 hz hk hS1 hce hcv hcl => ?_)
        exact vx_out (fun x hx => (htab x hx).elim) B.notSynchronized hce hcv hcl (fun t ht _ => ⟨(), trivial, rfl, by rw [ht]; exact hz, fun q hq _ => by rw [ht]; exact hk q hq⟩) hS1.2.2 (Nat.le_refl _) (Nat.le_refl _)
    · refine nCallX (As := [.int x2]) (rest := []) (A := fun _ => False) ⟨hx, hb, hml, hown, hts⟩ (t_S_requireSlot l hlt (fun _ => False) x2 k5) (va_cwS 1 hts (gS kml_S_42 kst_S_requireSlot kin_S kcd_S_requireSlot) rfl rfl rfl (by decide +kernel) ⟨by show 9 + 1 ≤ 45; omega, by show 8 + (1 + 11) + 121 ≤ 2600; omega⟩) (hZ.narrow (fun _ h => h.elim)) va_S.rf rfl hl.1 rfl (Nat.le_of_ble_eq_true rfl) d_S_some_5 ⟨Nat.le_of_ble_eq_true rfl, Nat.le_of_ble_eq_true rfl⟩ (fun ce q9 H1 locs1 hz hk hS1 hce hcv hcl => ?_)
      exact vx_out (fun x hx => (htab x hx).elim) B.notSynchronized hce hcv hcl (fun t ht _ => ⟨(), trivial, rfl, by rw [ht]; exact hz, fun q hq _ => by rw [ht]; exact hk q hq⟩) hS1.2.2 (Nat.le_refl _) (Nat.le_refl _)
  · refine nCallX (As := [.int x1]) (rest := []) (A := fun _ => False) ⟨hx, hb, hml, hown, hts⟩ (t_S_requireSlot l hlt (fun _ => False) x1 k1) (va_cwS 1 hts (gS kml_S_42 kst_S_requireSlot kin_S kcd_S_requireSlot) rfl rfl rfl (by decide +kernel) ⟨by show 9 + 1 ≤ 45; omega, by show 8 + (1 + 11) + 121 ≤ 2600; omega⟩) (hZ.narrow (fun _ h => h.elim)) va_S.rf rfl hl.1 rfl (Nat.le_of_ble_eq_true rfl) d_S_some_1 ⟨Nat.le_of_ble_eq_true rfl, Nat.le_of_ble_eq_true rfl⟩ (fun ce q9 H1 locs1 hz hk hS1 hce hcv hcl => ?_)
    exact vx_out (fun x hx => (htab x hx).elim) B.notSynchronized hce hcv hcl (fun t ht _ => ⟨(), trivial, rfl, by rw [ht]; exact hz, fun q hq _ => by rw [ht]; exact hk q hq⟩) hS1.2.2 (Nat.le_refl _) (Nat.le_refl _)

set_option maxHeartbeats 8000000 in
set_option maxRecDepth 100000 in
theorem t_S_turn (l : Launch) (hlt : l.stackTraces = false) (A : Nat → Prop) (z0 : Nat) (x1 x2 : Int32) (hno : ¬ (okb x1 32 ∧ okb x2 32)) : xTs l y_S_turn (.code y_S_turn b_S_turn 3 (some .boolean)) ({ frames := 45, cells := 1, slots := 6, locals := 2600 } : Room) [.ref z0, .int x1, .int x2] A xIA := by
  refine vx_ofW (cc := b_S_turn) (maxL := 3) (ret := (some .boolean)) (by decide) rfl ?_
  intro p e s m args below meth c s₁ B hml htab hv
  obtain ⟨rfl, hZ⟩ := hv
  have hZ : xZ A s s.heap := hZ
  have hx := B.exec
  have hb := B.bytes
  have hr := B.returns
  have hts1 := atoms_spec (ws := .code y_S_turn b_S_turn 3 (some .boolean) :: W0) B.pre
  have hts : ∀ w ∈ W0, w.before _ s = true := fun w h => hts1 w (List.mem_cons_of_mem _ h)
  have hown : s.vm.findClass R_S = some m.cls := findClass_of_methodNamed B.named
  have hlocks := B.notSynchronized
  have hl := lv_entry ([.ref z0, .int x1, .int x2]) (n := 3) (Nat.le_of_ble_eq_true rfl)
  rw [lg_entry_eq]
  generalize (lg_sl ([.ref z0, .int x1, .int x2]) ++ List.replicate (3 - (lg_sl ([.ref z0, .int x1, .int x2])).length) Slot.unset).toArray = ls at hl ⊢
  have hl : lv_has ls 3 [(0, .ref z0), (1, .int x1), (2, .int x2)] := hl
  refine lv_iload_n hx hb d_S_turn_0 rfl (lv_at hl 1 rfl) ?_
  by_cases k1 : okb x1 32
  · refine nCallN (As := [.int x1]) (rest := []) ⟨hx, hb, hml, hown, hts⟩ (c_S_requireSlot l x1 k1) (va_cwS 1 hts (gS kml_S_42 kst_S_requireSlot kin_S kcd_S_requireSlot) rfl rfl rfl (by decide +kernel) ⟨by show 1 + 1 ≤ 45; omega, by show 8 + (1 + 11) + 21 ≤ 2600; omega⟩) rfl hl.1 rfl (Nat.le_of_ble_eq_true rfl) d_S_turn_1 ⟨Nat.zero_le _, Nat.zero_le _⟩ ?_
    refine lv_iload_n hx hb d_S_turn_4 rfl (lv_at hl 2 rfl) ?_
    by_cases k5 : okb x2 32
    · refine nCallN (As := [.int x2]) (rest := []) ⟨hx, hb, hml, hown, hts⟩ (c_S_requireSlot l x2 k5) (va_cwS 1 hts (gS kml_S_42 kst_S_requireSlot kin_S kcd_S_requireSlot) rfl rfl rfl (by decide +kernel) ⟨by show 1 + 1 ≤ 45; omega, by show 8 + (1 + 11) + 21 ≤ 2600; omega⟩) rfl hl.1 rfl (Nat.le_of_ble_eq_true rfl) d_S_turn_5 ⟨Nat.zero_le _, Nat.zero_le _⟩ ?_
      exact absurd ⟨k1, k5⟩ hno
    · refine nCallX (As := [.int x2]) (rest := []) (A := fun _ => False) ⟨hx, hb, hml, hown, hts⟩ (t_S_requireSlot l hlt (fun _ => False) x2 k5) (va_cwS 1 hts (gS kml_S_42 kst_S_requireSlot kin_S kcd_S_requireSlot) rfl rfl rfl (by decide +kernel) ⟨by show 9 + 1 ≤ 45; omega, by show 8 + (1 + 11) + 121 ≤ 2600; omega⟩) (hZ.narrow (fun _ h => h.elim)) va_S.rf rfl hl.1 rfl (Nat.le_of_ble_eq_true rfl) d_S_turn_5 ⟨Nat.le_of_ble_eq_true rfl, Nat.le_of_ble_eq_true rfl⟩ (fun ce q9 H1 locs1 hz hk hS1 hce hcv hcl => ?_)
      exact vx_out (fun x hx => (htab x hx).elim) B.notSynchronized hce hcv hcl (fun t ht _ => ⟨(), trivial, rfl, by rw [ht]; exact hz, fun q hq _ => by rw [ht]; exact hk q hq⟩) hS1.2.2 (Nat.le_refl _) (Nat.le_refl _)
  · refine nCallX (As := [.int x1]) (rest := []) (A := fun _ => False) ⟨hx, hb, hml, hown, hts⟩ (t_S_requireSlot l hlt (fun _ => False) x1 k1) (va_cwS 1 hts (gS kml_S_42 kst_S_requireSlot kin_S kcd_S_requireSlot) rfl rfl rfl (by decide +kernel) ⟨by show 9 + 1 ≤ 45; omega, by show 8 + (1 + 11) + 121 ≤ 2600; omega⟩) (hZ.narrow (fun _ h => h.elim)) va_S.rf rfl hl.1 rfl (Nat.le_of_ble_eq_true rfl) d_S_turn_1 ⟨Nat.le_of_ble_eq_true rfl, Nat.le_of_ble_eq_true rfl⟩ (fun ce q9 H1 locs1 hz hk hS1 hce hcv hcl => ?_)
    exact vx_out (fun x hx => (htab x hx).elim) B.notSynchronized hce hcv hcl (fun t ht _ => ⟨(), trivial, rfl, by rw [ht]; exact hz, fun q hq _ => by rw [ht]; exact hk q hq⟩) hS1.2.2 (Nat.le_refl _) (Nat.le_refl _)

set_option maxHeartbeats 8000000 in
set_option maxRecDepth 100000 in
theorem t_S_value (l : Launch) (hlt : l.stackTraces = false) (A : Nat → Prop) (z0 : Nat) (x1 x2 : Int32) (hno : ¬ (okb x1 32 ∧ okb x2 4096)) : xTs l y_S_value (.code y_S_value b_S_value 3 (some .boolean)) ({ frames := 45, cells := 1, slots := 6, locals := 2600 } : Room) [.ref z0, .int x1, .int x2] A xIA := by
  refine vx_ofW (cc := b_S_value) (maxL := 3) (ret := (some .boolean)) (by decide) rfl ?_
  intro p e s m args below meth c s₁ B hml htab hv
  obtain ⟨rfl, hZ⟩ := hv
  have hZ : xZ A s s.heap := hZ
  have hx := B.exec
  have hb := B.bytes
  have hr := B.returns
  have hts1 := atoms_spec (ws := .code y_S_value b_S_value 3 (some .boolean) :: W0) B.pre
  have hts : ∀ w ∈ W0, w.before _ s = true := fun w h => hts1 w (List.mem_cons_of_mem _ h)
  have hown : s.vm.findClass R_S = some m.cls := findClass_of_methodNamed B.named
  have hlocks := B.notSynchronized
  have hl := lv_entry ([.ref z0, .int x1, .int x2]) (n := 3) (Nat.le_of_ble_eq_true rfl)
  rw [lg_entry_eq]
  generalize (lg_sl ([.ref z0, .int x1, .int x2]) ++ List.replicate (3 - (lg_sl ([.ref z0, .int x1, .int x2])).length) Slot.unset).toArray = ls at hl ⊢
  have hl : lv_has ls 3 [(0, .ref z0), (1, .int x1), (2, .int x2)] := hl
  refine lv_iload_n hx hb d_S_value_0 rfl (lv_at hl 1 rfl) ?_
  by_cases k1 : okb x1 32
  · refine nCallN (As := [.int x1]) (rest := []) ⟨hx, hb, hml, hown, hts⟩ (c_S_requireSlot l x1 k1) (va_cwS 1 hts (gS kml_S_42 kst_S_requireSlot kin_S kcd_S_requireSlot) rfl rfl rfl (by decide +kernel) ⟨by show 1 + 1 ≤ 45; omega, by show 8 + (1 + 11) + 21 ≤ 2600; omega⟩) rfl hl.1 rfl (Nat.le_of_ble_eq_true rfl) d_S_value_1 ⟨Nat.zero_le _, Nat.zero_le _⟩ ?_
    refine lv_iload_n hx hb d_S_value_4 rfl (lv_at hl 2 rfl) ?_
    refine lv_sipush (v := 4096) hx hb d_S_value_5 (by decide) ?_
    by_cases k8 : okb x2 4096
    · refine nCallN (As := [.int x2, .int 4096]) (rest := []) ⟨hx, hb, hml, hown, hts⟩ (c_S_requireBelow l x2 4096 k8) (va_cwS 2 hts (gS kml_S_50 kst_S_requireBelow kin_S kcd_S_requireBelow) rfl rfl rfl (by decide +kernel) ⟨by show 0 + 1 ≤ 45; omega, by show 8 + (2 + 11) + 0 ≤ 2600; omega⟩) rfl hl.1 rfl (Nat.le_of_ble_eq_true rfl) d_S_value_8 ⟨Nat.zero_le _, Nat.zero_le _⟩ ?_
      exact absurd ⟨k1, k8⟩ hno
    · refine nCallX (As := [.int x2, .int 4096]) (rest := []) (A := fun _ => False) ⟨hx, hb, hml, hown, hts⟩ (t_S_requireBelow l hlt (fun _ => False) x2 4096 k8) (va_cwS 2 hts (gS kml_S_50 kst_S_requireBelow kin_S kcd_S_requireBelow) rfl rfl rfl (by decide +kernel) ⟨by show 8 + 1 ≤ 45; omega, by show 8 + (2 + 11) + 100 ≤ 2600; omega⟩) (hZ.narrow (fun _ h => h.elim)) va_S.rf rfl hl.1 rfl (Nat.le_of_ble_eq_true rfl) d_S_value_8 ⟨Nat.le_of_ble_eq_true rfl, Nat.le_of_ble_eq_true rfl⟩ (fun ce q9 H1 locs1 hz hk hS1 hce hcv hcl => ?_)
      exact vx_out (fun x hx => (htab x hx).elim) B.notSynchronized hce hcv hcl (fun t ht _ => ⟨(), trivial, rfl, by rw [ht]; exact hz, fun q hq _ => by rw [ht]; exact hk q hq⟩) hS1.2.2 (Nat.le_refl _) (Nat.le_refl _)
  · refine nCallX (As := [.int x1]) (rest := []) (A := fun _ => False) ⟨hx, hb, hml, hown, hts⟩ (t_S_requireSlot l hlt (fun _ => False) x1 k1) (va_cwS 1 hts (gS kml_S_42 kst_S_requireSlot kin_S kcd_S_requireSlot) rfl rfl rfl (by decide +kernel) ⟨by show 9 + 1 ≤ 45; omega, by show 8 + (1 + 11) + 121 ≤ 2600; omega⟩) (hZ.narrow (fun _ h => h.elim)) va_S.rf rfl hl.1 rfl (Nat.le_of_ble_eq_true rfl) d_S_value_1 ⟨Nat.le_of_ble_eq_true rfl, Nat.le_of_ble_eq_true rfl⟩ (fun ce q9 H1 locs1 hz hk hS1 hce hcv hcl => ?_)
    exact vx_out (fun x hx => (htab x hx).elim) B.notSynchronized hce hcv hcl (fun t ht _ => ⟨(), trivial, rfl, by rw [ht]; exact hz, fun q hq _ => by rw [ht]; exact hk q hq⟩) hS1.2.2 (Nat.le_refl _) (Nat.le_refl _)

set_option maxHeartbeats 8000000 in
set_option maxRecDepth 100000 in
theorem t_S_same (l : Launch) (hlt : l.stackTraces = false) (A : Nat → Prop) (z0 : Nat) (x1 x2 : Int32) (hno : ¬ (okb x1 32 ∧ okb x2 32)) : xTs l y_S_same (.code y_S_same b_S_same 3 (some .boolean)) ({ frames := 45, cells := 1, slots := 6, locals := 2600 } : Room) [.ref z0, .int x1, .int x2] A xIA := by
  refine vx_ofW (cc := b_S_same) (maxL := 3) (ret := (some .boolean)) (by decide) rfl ?_
  intro p e s m args below meth c s₁ B hml htab hv
  obtain ⟨rfl, hZ⟩ := hv
  have hZ : xZ A s s.heap := hZ
  have hx := B.exec
  have hb := B.bytes
  have hr := B.returns
  have hts1 := atoms_spec (ws := .code y_S_same b_S_same 3 (some .boolean) :: W0) B.pre
  have hts : ∀ w ∈ W0, w.before _ s = true := fun w h => hts1 w (List.mem_cons_of_mem _ h)
  have hown : s.vm.findClass R_S = some m.cls := findClass_of_methodNamed B.named
  have hlocks := B.notSynchronized
  have hl := lv_entry ([.ref z0, .int x1, .int x2]) (n := 3) (Nat.le_of_ble_eq_true rfl)
  rw [lg_entry_eq]
  generalize (lg_sl ([.ref z0, .int x1, .int x2]) ++ List.replicate (3 - (lg_sl ([.ref z0, .int x1, .int x2])).length) Slot.unset).toArray = ls at hl ⊢
  have hl : lv_has ls 3 [(0, .ref z0), (1, .int x1), (2, .int x2)] := hl
  refine lv_iload_n hx hb d_S_same_0 rfl (lv_at hl 1 rfl) ?_
  by_cases k1 : okb x1 32
  · refine nCallN (As := [.int x1]) (rest := []) ⟨hx, hb, hml, hown, hts⟩ (c_S_requireSlot l x1 k1) (va_cwS 1 hts (gS kml_S_42 kst_S_requireSlot kin_S kcd_S_requireSlot) rfl rfl rfl (by decide +kernel) ⟨by show 1 + 1 ≤ 45; omega, by show 8 + (1 + 11) + 21 ≤ 2600; omega⟩) rfl hl.1 rfl (Nat.le_of_ble_eq_true rfl) d_S_same_1 ⟨Nat.zero_le _, Nat.zero_le _⟩ ?_
    refine lv_iload_n hx hb d_S_same_4 rfl (lv_at hl 2 rfl) ?_
    by_cases k5 : okb x2 32
    · refine nCallN (As := [.int x2]) (rest := []) ⟨hx, hb, hml, hown, hts⟩ (c_S_requireSlot l x2 k5) (va_cwS 1 hts (gS kml_S_42 kst_S_requireSlot kin_S kcd_S_requireSlot) rfl rfl rfl (by decide +kernel) ⟨by show 1 + 1 ≤ 45; omega, by show 8 + (1 + 11) + 21 ≤ 2600; omega⟩) rfl hl.1 rfl (Nat.le_of_ble_eq_true rfl) d_S_same_5 ⟨Nat.zero_le _, Nat.zero_le _⟩ ?_
      exact absurd ⟨k1, k5⟩ hno
    · refine nCallX (As := [.int x2]) (rest := []) (A := fun _ => False) ⟨hx, hb, hml, hown, hts⟩ (t_S_requireSlot l hlt (fun _ => False) x2 k5) (va_cwS 1 hts (gS kml_S_42 kst_S_requireSlot kin_S kcd_S_requireSlot) rfl rfl rfl (by decide +kernel) ⟨by show 9 + 1 ≤ 45; omega, by show 8 + (1 + 11) + 121 ≤ 2600; omega⟩) (hZ.narrow (fun _ h => h.elim)) va_S.rf rfl hl.1 rfl (Nat.le_of_ble_eq_true rfl) d_S_same_5 ⟨Nat.le_of_ble_eq_true rfl, Nat.le_of_ble_eq_true rfl⟩ (fun ce q9 H1 locs1 hz hk hS1 hce hcv hcl => ?_)
      exact vx_out (fun x hx => (htab x hx).elim) B.notSynchronized hce hcv hcl (fun t ht _ => ⟨(), trivial, rfl, by rw [ht]; exact hz, fun q hq _ => by rw [ht]; exact hk q hq⟩) hS1.2.2 (Nat.le_refl _) (Nat.le_refl _)
  · refine nCallX (As := [.int x1]) (rest := []) (A := fun _ => False) ⟨hx, hb, hml, hown, hts⟩ (t_S_requireSlot l hlt (fun _ => False) x1 k1) (va_cwS 1 hts (gS kml_S_42 kst_S_requireSlot kin_S kcd_S_requireSlot) rfl rfl rfl (by decide +kernel) ⟨by show 9 + 1 ≤ 45; omega, by show 8 + (1 + 11) + 121 ≤ 2600; omega⟩) (hZ.narrow (fun _ h => h.elim)) va_S.rf rfl hl.1 rfl (Nat.le_of_ble_eq_true rfl) d_S_same_1 ⟨Nat.le_of_ble_eq_true rfl, Nat.le_of_ble_eq_true rfl⟩ (fun ce q9 H1 locs1 hz hk hS1 hce hcv hcl => ?_)
    exact vx_out (fun x hx => (htab x hx).elim) B.notSynchronized hce hcv hcl (fun t ht _ => ⟨(), trivial, rfl, by rw [ht]; exact hz, fun q hq _ => by rw [ht]; exact hk q hq⟩) hS1.2.2 (Nat.le_refl _) (Nat.le_refl _)

set_option maxHeartbeats 8000000 in
set_option maxRecDepth 100000 in
theorem t_S_count (l : Launch) (hlt : l.stackTraces = false) (A : Nat → Prop) (z0 : Nat) (x1 : Int32) (hno : ¬ (okb x1 32)) : xTs l y_S_count (.code y_S_count b_S_count 5 (some .int)) ({ frames := 45, cells := 1, slots := 6, locals := 2600 } : Room) [.ref z0, .int x1] A xIA := by
  refine vx_ofW (cc := b_S_count) (maxL := 5) (ret := (some .int)) (by decide) rfl ?_
  intro p e s m args below meth c s₁ B hml htab hv
  obtain ⟨rfl, hZ⟩ := hv
  have hZ : xZ A s s.heap := hZ
  have hx := B.exec
  have hb := B.bytes
  have hr := B.returns
  have hts1 := atoms_spec (ws := .code y_S_count b_S_count 5 (some .int) :: W0) B.pre
  have hts : ∀ w ∈ W0, w.before _ s = true := fun w h => hts1 w (List.mem_cons_of_mem _ h)
  have hown : s.vm.findClass R_S = some m.cls := findClass_of_methodNamed B.named
  have hlocks := B.notSynchronized
  have hl := lv_entry ([.ref z0, .int x1]) (n := 5) (Nat.le_of_ble_eq_true rfl)
  rw [lg_entry_eq]
  generalize (lg_sl ([.ref z0, .int x1]) ++ List.replicate (5 - (lg_sl ([.ref z0, .int x1])).length) Slot.unset).toArray = ls at hl ⊢
  have hl : lv_has ls 5 [(0, .ref z0), (1, .int x1)] := hl
  refine lv_iload_n hx hb d_S_count_0 rfl (lv_at hl 1 rfl) ?_
  by_cases k1 : okb x1 32
  · refine nCallN (As := [.int x1]) (rest := []) ⟨hx, hb, hml, hown, hts⟩ (c_S_requireSlot l x1 k1) (va_cwS 1 hts (gS kml_S_42 kst_S_requireSlot kin_S kcd_S_requireSlot) rfl rfl rfl (by decide +kernel) ⟨by show 1 + 1 ≤ 45; omega, by show 8 + (1 + 11) + 21 ≤ 2600; omega⟩) rfl hl.1 rfl (Nat.le_of_ble_eq_true rfl) d_S_count_1 ⟨Nat.zero_le _, Nat.zero_le _⟩ ?_
    exact absurd k1 hno
  · refine nCallX (As := [.int x1]) (rest := []) (A := fun _ => False) ⟨hx, hb, hml, hown, hts⟩ (t_S_requireSlot l hlt (fun _ => False) x1 k1) (va_cwS 1 hts (gS kml_S_42 kst_S_requireSlot kin_S kcd_S_requireSlot) rfl rfl rfl (by decide +kernel) ⟨by show 9 + 1 ≤ 45; omega, by show 8 + (1 + 11) + 121 ≤ 2600; omega⟩) (hZ.narrow (fun _ h => h.elim)) va_S.rf rfl hl.1 rfl (Nat.le_of_ble_eq_true rfl) d_S_count_1 ⟨Nat.le_of_ble_eq_true rfl, Nat.le_of_ble_eq_true rfl⟩ (fun ce q9 H1 locs1 hz hk hS1 hce hcv hcl => ?_)
    exact vx_out (fun x hx => (htab x hx).elim) B.notSynchronized hce hcv hcl (fun t ht _ => ⟨(), trivial, rfl, by rw [ht]; exact hz, fun q hq _ => by rw [ht]; exact hk q hq⟩) hS1.2.2 (Nat.le_refl _) (Nat.le_refl _)

set_option maxHeartbeats 8000000 in
set_option maxRecDepth 100000 in
theorem t_S_support (l : Launch) (hlt : l.stackTraces = false) (A : Nat → Prop) (z0 : Nat) (x1 : Int32) (hno : ¬ (okb x1 32)) : xTs l y_S_support (.code y_S_support b_S_support 2 (some .int)) ({ frames := 45, cells := 1, slots := 6, locals := 2600 } : Room) [.ref z0, .int x1] A xIA := by
  refine vx_ofW (cc := b_S_support) (maxL := 2) (ret := (some .int)) (by decide) rfl ?_
  intro p e s m args below meth c s₁ B hml htab hv
  obtain ⟨rfl, hZ⟩ := hv
  have hZ : xZ A s s.heap := hZ
  have hx := B.exec
  have hb := B.bytes
  have hr := B.returns
  have hts1 := atoms_spec (ws := .code y_S_support b_S_support 2 (some .int) :: W0) B.pre
  have hts : ∀ w ∈ W0, w.before _ s = true := fun w h => hts1 w (List.mem_cons_of_mem _ h)
  have hown : s.vm.findClass R_S = some m.cls := findClass_of_methodNamed B.named
  have hlocks := B.notSynchronized
  have hl := lv_entry ([.ref z0, .int x1]) (n := 2) (Nat.le_of_ble_eq_true rfl)
  rw [lg_entry_eq]
  generalize (lg_sl ([.ref z0, .int x1]) ++ List.replicate (2 - (lg_sl ([.ref z0, .int x1])).length) Slot.unset).toArray = ls at hl ⊢
  have hl : lv_has ls 2 [(0, .ref z0), (1, .int x1)] := hl
  refine lv_iload_n hx hb d_S_support_0 rfl (lv_at hl 1 rfl) ?_
  by_cases k1 : okb x1 32
  · refine nCallN (As := [.int x1]) (rest := []) ⟨hx, hb, hml, hown, hts⟩ (c_S_requireSlot l x1 k1) (va_cwS 1 hts (gS kml_S_42 kst_S_requireSlot kin_S kcd_S_requireSlot) rfl rfl rfl (by decide +kernel) ⟨by show 1 + 1 ≤ 45; omega, by show 8 + (1 + 11) + 21 ≤ 2600; omega⟩) rfl hl.1 rfl (Nat.le_of_ble_eq_true rfl) d_S_support_1 ⟨Nat.zero_le _, Nat.zero_le _⟩ ?_
    exact absurd k1 hno
  · refine nCallX (As := [.int x1]) (rest := []) (A := fun _ => False) ⟨hx, hb, hml, hown, hts⟩ (t_S_requireSlot l hlt (fun _ => False) x1 k1) (va_cwS 1 hts (gS kml_S_42 kst_S_requireSlot kin_S kcd_S_requireSlot) rfl rfl rfl (by decide +kernel) ⟨by show 9 + 1 ≤ 45; omega, by show 8 + (1 + 11) + 121 ≤ 2600; omega⟩) (hZ.narrow (fun _ h => h.elim)) va_S.rf rfl hl.1 rfl (Nat.le_of_ble_eq_true rfl) d_S_support_1 ⟨Nat.le_of_ble_eq_true rfl, Nat.le_of_ble_eq_true rfl⟩ (fun ce q9 H1 locs1 hz hk hS1 hce hcv hcl => ?_)
    exact vx_out (fun x hx => (htab x hx).elim) B.notSynchronized hce hcv hcl (fun t ht _ => ⟨(), trivial, rfl, by rw [ht]; exact hz, fun q hq _ => by rw [ht]; exact hk q hq⟩) hS1.2.2 (Nat.le_refl _) (Nat.le_refl _)

set_option maxHeartbeats 8000000 in
set_option maxRecDepth 100000 in
theorem t_S_tidy (l : Launch) (hlt : l.stackTraces = false) (A : Nat → Prop) (z0 : Nat) (x1 : Int32) (hno : ¬ (okb x1 3)) : xTs l y_S_tidy (.code y_S_tidy b_S_tidy 2 (some .int)) ({ frames := 45, cells := 1, slots := 6, locals := 2600 } : Room) [.ref z0, .int x1] A xIA := by
  refine vx_ofW (cc := b_S_tidy) (maxL := 2) (ret := (some .int)) (by decide) rfl ?_
  intro p e s m args below meth c s₁ B hml htab hv
  obtain ⟨rfl, hZ⟩ := hv
  have hZ : xZ A s s.heap := hZ
  have hx := B.exec
  have hb := B.bytes
  have hr := B.returns
  have hts1 := atoms_spec (ws := .code y_S_tidy b_S_tidy 2 (some .int) :: W0) B.pre
  have hts : ∀ w ∈ W0, w.before _ s = true := fun w h => hts1 w (List.mem_cons_of_mem _ h)
  have hown : s.vm.findClass R_S = some m.cls := findClass_of_methodNamed B.named
  have hlocks := B.notSynchronized
  have hl := lv_entry ([.ref z0, .int x1]) (n := 2) (Nat.le_of_ble_eq_true rfl)
  rw [lg_entry_eq]
  generalize (lg_sl ([.ref z0, .int x1]) ++ List.replicate (2 - (lg_sl ([.ref z0, .int x1])).length) Slot.unset).toArray = ls at hl ⊢
  have hl : lv_has ls 2 [(0, .ref z0), (1, .int x1)] := hl
  refine lv_iload_n hx hb d_S_tidy_0 rfl (lv_at hl 1 rfl) ?_
  refine lv_iconst (v := 3) hx hb d_S_tidy_1 (by decide) ?_
  by_cases k2 : okb x1 3
  · refine nCallN (As := [.int x1, .int 3]) (rest := []) ⟨hx, hb, hml, hown, hts⟩ (c_S_requireBelow l x1 3 k2) (va_cwS 2 hts (gS kml_S_50 kst_S_requireBelow kin_S kcd_S_requireBelow) rfl rfl rfl (by decide +kernel) ⟨by show 0 + 1 ≤ 45; omega, by show 8 + (2 + 11) + 0 ≤ 2600; omega⟩) rfl hl.1 rfl (Nat.le_of_ble_eq_true rfl) d_S_tidy_2 ⟨Nat.zero_le _, Nat.zero_le _⟩ ?_
    exact absurd k2 hno
  · refine nCallX (As := [.int x1, .int 3]) (rest := []) (A := fun _ => False) ⟨hx, hb, hml, hown, hts⟩ (t_S_requireBelow l hlt (fun _ => False) x1 3 k2) (va_cwS 2 hts (gS kml_S_50 kst_S_requireBelow kin_S kcd_S_requireBelow) rfl rfl rfl (by decide +kernel) ⟨by show 8 + 1 ≤ 45; omega, by show 8 + (2 + 11) + 100 ≤ 2600; omega⟩) (hZ.narrow (fun _ h => h.elim)) va_S.rf rfl hl.1 rfl (Nat.le_of_ble_eq_true rfl) d_S_tidy_2 ⟨Nat.le_of_ble_eq_true rfl, Nat.le_of_ble_eq_true rfl⟩ (fun ce q9 H1 locs1 hz hk hS1 hce hcv hcl => ?_)
    exact vx_out (fun x hx => (htab x hx).elim) B.notSynchronized hce hcv hcl (fun t ht _ => ⟨(), trivial, rfl, by rw [ht]; exact hz, fun q hq _ => by rw [ht]; exact hk q hq⟩) hS1.2.2 (Nat.le_refl _) (Nat.le_refl _)
