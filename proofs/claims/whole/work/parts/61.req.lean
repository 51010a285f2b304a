/-! WHAT THROWS: a number out of range -/
def xIA : String := "java/lang/IllegalArgumentException"
def xUO : String := "java/lang/UnsupportedOperationException"
theorem kcl_S_103 : Cond.classLink R_S 103 xIA ∈ W0 := by decide +kernel
theorem kin_IA : Cond.initialized xIA ∈ W0 := by decide +kernel
def xbl : List Cond := [.declares ⟨"java/lang/RuntimeException", "<init>", "(Ljava/lang/String;)V"⟩, .declares ⟨"java/lang/Exception", "<init>", "(Ljava/lang/String;)V"⟩, .declares ⟨"java/lang/Throwable", "<init>", "(Ljava/lang/String;)V"⟩, .castable xIA xIA, .castable xUO xUO]
theorem kat_IA : ∀ w ∈ (vx_atS R_S 107 xIA ["java/lang/RuntimeException", "java/lang/Exception"]).filter goodWord, w ∈ W0 := by decide +kernel
theorem kbt_IA : ∀ w ∈ (vx_atS R_S 107 xIA ["java/lang/RuntimeException", "java/lang/Exception"]).filter (fun w => !goodWord w), w ∈ xbl := by decide +kernel
theorem kcl_S_77 : Cond.classLink R_S 77 xUO ∈ W0 := by decide +kernel
theorem kin_UO : Cond.initialized xUO ∈ W0 := by decide +kernel
theorem kat_UO : ∀ w ∈ (vx_atS R_S 81 xUO ["java/lang/RuntimeException", "java/lang/Exception"]).filter goodWord, w ∈ W0 := by decide +kernel
theorem kbt_UO : ∀ w ∈ (vx_atS R_S 81 xUO ["java/lang/RuntimeException", "java/lang/Exception"]).filter (fun w => !goodWord w), w ∈ xbl := by decide +kernel
/-- the words of xbl -/
def xB (U : State) : Prop := ∀ w ∈ xbl, w.before #[] U = true
theorem xB.moved {u U : State} (hvm : u.vm.Alike U.vm) (h : xB u) : xB U := by
  have tr : ∀ {c : Cond}, c.onTables = true → c.before #[] (u.setVm U.vm) = true → c.before #[] U = true := by
    intro c hc h
    have e := Cond.onTables_vm (A := #[]) (A' := #[]) (U := u) (U' := U) U.vm c hc
    have hU : U.setVm U.vm = U := rfl
    rw [hU] at e
    rw [← e]
    exact h
  have hd : ∀ x, Cond.declares x ∈ xbl → (Cond.declares x).before #[] U = true := fun x hx => tr rfl (by rw [Cond.declares_setVm hvm]; exact h _ hx)
  have hc : ∀ a b, Cond.castable a b ∈ xbl → (Cond.castable a b).before #[] U = true := fun a b hx => tr rfl (by rw [Cond.castable_setVm hvm]; exact h _ hx)
  intro w hw
  have hw' := hw
  simp only [xbl, List.mem_cons, List.not_mem_nil, or_false] at hw'
  rcases hw' with rfl | rfl | rfl | rfl | rfl
  · exact hd _ hw
  · exact hd _ hw
  · exact hd _ hw
  · exact hc _ _ hw
  · exact hc _ _ hw
theorem xB.use {U : State} {A : Array Value} (h : xB U) : ∀ w ∈ xbl, w.before A U = true := by
  intro w hw
  have h1 := h w hw
  simp only [xbl, List.mem_cons, List.not_mem_nil, or_false] at hw
  rcases hw with rfl | rfl | rfl | rfl | rfl
  · exact va_Nw.use (A := A) rfl h1
  · exact va_Nw.use (A := A) rfl h1
  · exact va_Nw.use (A := A) rfl h1
  · exact va_Nw.use (A := A) rfl h1
  · exact va_Nw.use (A := A) rfl h1
theorem got_IA : ∀ w ∈ Cond.classLink R_S 103 xIA :: Cond.initialized xIA :: vx_atS R_S 107 xIA ["java/lang/RuntimeException", "java/lang/Exception"], vx_ot w = true := by decide +kernel
theorem got_UO : ∀ w ∈ Cond.classLink R_S 77 xUO :: Cond.initialized xUO :: vx_atS R_S 81 xUO ["java/lang/RuntimeException", "java/lang/Exception"], vx_ot w = true := by decide +kernel
/-- what a throw finds outside of all that is written: two statics, two texts -/
def xZ (A : Nat → Prop) (U : State) (H : Heap) : Prop := vx_Zq Bundle.tN "UNASSIGNED_STACK" Bundle.steD A U H ∧ vx_Zq Bundle.tN "SUPPRESSED_SENTINEL" Bundle.listD A U H ∧ xB U ∧ (∃ sa, vk_R R_S 105 "a number is out of range" sa U) ∧ ∃ sb, vk_R R_S 79 "the function hangs on an odd variable" sb U
theorem xZ.warm {A : Nat → Prop} {s U : State} {H : Heap} (hW : s.WarmedH U.vm) (h : xZ A s H) : xZ A U H := by
  obtain ⟨h1, h2, h5, ⟨sa, h3⟩, ⟨sb, h4⟩⟩ := h
  exact ⟨h1.moved hW.alike, h2.moved hW.alike, h5.moved hW.alike, ⟨sa, h3.warm hW⟩, ⟨sb, h4.warm hW⟩⟩
theorem xZ.same {A : Nat → Prop} {s U : State} {H : Heap} (hW : U.vm = s.vm) (h : xZ A s H) : xZ A U H := by
  obtain ⟨h1, h2, h5, ⟨sa, h3⟩, ⟨sb, h4⟩⟩ := h
  have q : s.vm.Alike U.vm := by rw [hW]; exact Vm.Alike.refl _
  exact ⟨h1.moved q, h2.moved q, h5.moved q, ⟨sa, h3.same hW⟩, ⟨sb, h4.same hW⟩⟩
theorem xZ.kept {A : Nat → Prop} {s : State} {H H1 : Heap} (h : xZ A s H) (hq : ∀ a : Nat, a < H.size → ¬ A a → H1[a]? = H[a]?) : xZ A s H1 := by
  obtain ⟨h1, h2, h3, h4⟩ := h
  exact ⟨h1.kept hq, h2.kept hq, h3, h4⟩
theorem xZ.narrow {A B : Nat → Prop} {s : State} {H : Heap} (h : xZ A s H) (hAB : ∀ q, B q → A q) : xZ B s H := by
  obtain ⟨h1, h2, h3, h4⟩ := h
  exact ⟨h1.narrow hAB, h2.narrow hAB, h3, h4⟩
/-- a method that reads and answers nothing -/
def QcN : Array Value → State → Outcome → State → Prop := fun _ st o t => o = .returned none ∧ t.heap = st.heap
section NREQ
variable {p : Program} {l : Launch} {e : Env} {R : Room} {s : State} {m : MethodId} {args : Array Value} {below : List Frame} {meth : Method} {c : Code} {H : Heap} {locs : List Loc} {cells slots : Nat} {Q : State → Prop} {cc bytes : ByteArray} {pc maxL nL n index : Nat} {ls : Array Slot} {st rest As : List Value} {y : MethodName} {cy : Cond} {ret : Option FieldType} {rm : Room} {own : String} {g : JFrame} {a : Array Value}
theorem W.callN (hr : CallRun p l e R s m args below meth c H locs cells slots 0 0 g rest (QcN a) (fun _ => False)) (kk : W p l e R s m args below meth c H locs cells slots Q { g with pc := g.pc + 3, stack := rest }) : W p l e R s m args below meth c H locs cells slots Q g := by
  intro T hT X
  obtain ⟨v, st₀, t, T', L, h0, X', hL, e1, ⟨hv, hh⟩, st⟩ := hr T hT X
  cases hv
  obtain ⟨t2, a1, b1⟩ := kk T' (by rw [e1, hh, h0]) (Stand.forget X' (fun q h => (hL q h).elim))
  exact ⟨t2, st t2 a1, b1⟩
theorem nCallN (S : CallFix p m c cc nL s args W0 own) (hM : Met l y (cy :: W0) rm (va_Pc As (fun _ => True)) QcN 0 0 (fun _ => False)) (cw : CallB R s args own index y bytes maxL ret (cy :: W0) rm 0 0 n ∧ (Cond.static y).before args s = true) (hn : As.length = n) (hsz : ls.size = nL) (hst : st = As.reverse ++ rest) (hW : (rest.map fun v => v.category).sum ≤ 8) (hdg : decode cc pc = .ok (.invokestatic index, 3)) (hf : cells ≤ R.cells ∧ slots ≤ R.slots)
    (kk : W p l e R s m args below meth c H locs cells slots Q (F0 m (pc + 3) ls rest)) : W p l e R s m args below meth c H locs cells slots Q (F0 m pc ls st) := by
  subst hst
  exact W.callN (W.runS (As := As) (rest := rest) (g := F0 m pc ls (As.reverse ++ rest)) S hM cw ⟨fun a U g mk q => ⟨q.1, trivial⟩, fun U hU hWu => ⟨rfl, trivial⟩⟩ rfl hn hsz rfl (lv_room hW) hdg hf) kk
/-- the contract of what throws E and leaves all as it was -/
abbrev xTs (l : Launch) (y : MethodName) (cy : Cond) (rm : Room) (As : List Value) (A : Nat → Prop) (E0 : String) : Prop := vx_Met l y (cy :: W0) rm (va_Pc As (fun U => xZ A U U.heap)) (va_Qv (fun _ : Unit => False) (fun _ _ => True) (fun _ => False)) (vx_X (fun _ : Unit => True) (fun E _ _ => E = E0) (fun _ => False)) 1 6 (fun _ => False)
theorem nCallX {A : Nat → Prop} {E0 : String} {H0 : Heap} (S : CallFix p m c cc nL s args W0 own) (hM : xTs l y cy rm As A E0) (cw : CallB R s args own index y bytes maxL ret (cy :: W0) rm 1 6 n ∧ (Cond.static y).before args s = true) (hZ : xZ A s H) (hS : va_S A H0 H locs) (hn : As.length = n) (hsz : ls.size = nL) (hst : st = As.reverse ++ rest) (hW : (rest.map fun v => v.category).sum ≤ 8) (hdg : decode cc pc = .ok (.invokestatic index, 3)) (hf : cells + 1 ≤ R.cells ∧ slots + 6 ≤ R.slots)
    (kx : ∀ (ce : Cell) (q9 : Addr) (H1 : Heap) (locs1 : List Loc), H.size ≤ H1.size → (∀ q : Nat, q < H.size → H1[q]? = H[q]?) → va_S A H0 H1 locs1 → H1[q9]? = some ce → ce.vm = .none → s.vm.findClass E0 = some ce.cls → vx_W p l e R s m args below meth c H1 locs1 (cells + 1) (slots + 6) Q (F0 m pc ls rest) q9) : W p l e R s m args below meth c H locs cells slots Q (F0 m pc ls st) := by
  subst hst
  refine vx_callv (vx_runS (As := As) (rest := rest) (g := F0 m pc ls (As.reverse ++ rest)) S hM cw ⟨fun a U g mk q => ⟨q.1, xZ.same (s := U) (U := U.calling g mk a) (H := U.heap) rfl q.2⟩, fun U hU hWu => ⟨rfl, by show xZ A U U.heap; rw [hU]; exact hZ.warm hWu⟩⟩ rfl hn hsz rfl (lv_room hW) hdg hf) hS (fun q _ h => h.elim) (fun q h => h.elim) (fun q _ h => h.elim) (fun E ce q9 u t H1 locs1 ht hvm hp hB hz hk hS1 hc hv hcl => ?_) (fun u t H1 locs1 ht hvm hp hB hz hk hS1 => hp.elim)
  have hB : E = E0 := hB
  rw [hB] at hcl
  exact kx ce q9 H1 locs1 hz (fun q h => hk q h (fun z => z)) hS1 hc hv hcl
end NREQ
def okb (x : Int32) (n : Int32) : Prop := ¬ x < 0 ∧ x < n
set_option maxHeartbeats 4000000 in
set_option maxRecDepth 100000 in
theorem c_S_requireBelow (l : Launch) (x1 x2 : Int32) (h : okb x1 x2) : Met l y_S_requireBelow (.code y_S_requireBelow b_S_requireBelow 2 none :: W0) ({ frames := 0, cells := 0, slots := 0, locals := 0 } : Room) (va_Pc [.int x1, .int x2] (fun _ => True)) QcN 0 0 (fun _ => False) := by
  refine Met.ofW (cc := b_S_requireBelow) (maxL := 2) (ret := none) (by decide) rfl ?_
  intro p e s m args below meth c s₁ B hml hv
  obtain ⟨rfl, -⟩ := hv
  have hx := B.exec
  have hb := B.bytes
  have hr := B.returns
  have hl := lv_entry ([.int x1, .int x2]) (n := 2) (Nat.le_of_ble_eq_true rfl)
  rw [lg_entry_eq]
  generalize (lg_sl ([.int x1, .int x2]) ++ List.replicate (2 - (lg_sl ([.int x1, .int x2])).length) Slot.unset).toArray = ls at hl ⊢
  have hl : lv_has ls 2 [(0, .int x1), (1, .int x2)] := hl
  refine lv_iload_n hx hb d_S_requireBelow_0 rfl (lv_at hl 0 rfl) ?_
  refine lv_if_lt (tgt := 9) hx hb d_S_requireBelow_1 (by decide) (fun c1 => absurd c1 h.1) (fun c1 => ?_)
  refine lv_iload_n hx hb d_S_requireBelow_4 rfl (lv_at hl 0 rfl) ?_
  refine lv_iload_n hx hb d_S_requireBelow_5 rfl (lv_at hl 1 rfl) ?_
  refine lv_icmp_lt (tgt := 19) hx hb d_S_requireBelow_6 (by decide) (fun c1 => ?_) (fun c1 => absurd h.2 c1)
  exact W.vret hx hb hr (fun t ht hW => ⟨rfl, ht⟩) (fun q h => by cases h) d_S_requireBelow_19
set_option maxHeartbeats 4000000 in
set_option maxRecDepth 100000 in
theorem t_S_requireBelow (l : Launch) (hlt : l.stackTraces = false) (A : Nat → Prop) (x1 x2 : Int32) (h : ¬ okb x1 x2) : xTs l y_S_requireBelow (.code y_S_requireBelow b_S_requireBelow 2 none) ({ frames := 8, cells := 1, slots := 6, locals := 100 } : Room) [.int x1, .int x2] A xIA := by
  refine vx_ofW (cc := b_S_requireBelow) (maxL := 2) (ret := none) (by decide) rfl ?_
  intro p e s m args below meth c s₁ B hml htab hv
  obtain ⟨rfl, hU, hN, hB9, ⟨sa, hsa⟩, -⟩ := hv
  have hx := B.exec
  have hb := B.bytes
  have hr := B.returns
  have hts1 := atoms_spec (ws := .code y_S_requireBelow b_S_requireBelow 2 none :: W0) B.pre
  have hts : ∀ w ∈ W0, w.before _ s = true := fun w h => hts1 w (List.mem_cons_of_mem _ h)
  have hown : s.vm.findClass R_S = some m.cls := findClass_of_methodNamed B.named
  have hl := lv_entry ([.int x1, .int x2]) (n := 2) (Nat.le_of_ble_eq_true rfl)
  rw [lg_entry_eq]
  generalize (lg_sl ([.int x1, .int x2]) ++ List.replicate (2 - (lg_sl ([.int x1, .int x2])).length) Slot.unset).toArray = ls at hl ⊢
  have hl : lv_has ls 2 [(0, .int x1), (1, .int x2)] := hl
  have hthrow : W p l e (headSpec (.code y_S_requireBelow b_S_requireBelow 2 none :: W0) ({ frames := 8, cells := 1, slots := 6, locals := 100 } : Room)).room s m ([.int x1, .int x2] : List Value).toArray below meth c s.heap [] 0 0 (vx_MQ below (va_Qv (fun _ : Unit => False) (fun _ _ => True) (fun _ => False)) (vx_X (fun _ : Unit => True) (fun E _ _ => E = xIA) (fun _ => False)) ([.int x1, .int x2] : List Value).toArray s 1 6 (fun _ => False)) (F0 m 9 ls []) := by
    refine vx_throwS (own := R_S) (cls := xIA) (names := ["java/lang/RuntimeException", "java/lang/Exception"]) (ik := 103) (is := 105) (ic := 107) (sa := sa) hx hb hlt hown (by decide +kernel) (by decide +kernel) (hts _ kcl_S_103) (hts _ kin_IA) hsa (vx_hat (fun w hw => hts w (kat_IA w hw)) kbt_IA hB9.use) got_IA hU hN va_S.rf (hl.1.trans hml.symm) d_S_requireBelow_9 d_S_requireBelow_12 d_S_requireBelow_13 d_S_requireBelow_15 d_S_requireBelow_18 (fun x hx => (htab x hx).elim) (Nat.le_of_ble_eq_true rfl) (Nat.le_of_ble_eq_true rfl) (Nat.le_of_ble_eq_true rfl) (Nat.le_of_ble_eq_true rfl) B.notSynchronized (fun t _ hz hk => ⟨(), trivial, rfl, hz, fun q hq _ => hk q hq⟩) (fun z hz => by cases hz) (Nat.le_refl _) (Nat.le_refl _)
  refine lv_iload_n hx hb d_S_requireBelow_0 rfl (lv_at hl 0 rfl) ?_
  refine lv_if_lt (tgt := 9) hx hb d_S_requireBelow_1 (by decide) (fun c1 => hthrow) (fun c1 => ?_)
  refine lv_iload_n hx hb d_S_requireBelow_4 rfl (lv_at hl 0 rfl) ?_
  refine lv_iload_n hx hb d_S_requireBelow_5 rfl (lv_at hl 1 rfl) ?_
  exact lv_icmp_lt (tgt := 19) hx hb d_S_requireBelow_6 (by decide) (fun c2 => absurd ⟨c1, c2⟩ h) (fun c2 => hthrow)
set_option maxHeartbeats 4000000 in
set_option maxRecDepth 100000 in
theorem c_S_requireSlot (l : Launch) (x1 : Int32) (h : okb x1 32) : Met l y_S_requireSlot (.code y_S_requireSlot b_S_requireSlot 1 none :: W0) ({ frames := 1, cells := 0, slots := 0, locals := 21 } : Room) (va_Pc [.int x1] (fun _ => True)) QcN 0 0 (fun _ => False) := by
  refine Met.ofW (cc := b_S_requireSlot) (maxL := 1) (ret := none) (by decide) rfl ?_
  intro p e s m args below meth c s₁ B hml hv
  obtain ⟨rfl, -⟩ := hv
  have hx := B.exec
  have hb := B.bytes
  have hr := B.returns
  have hts1 := atoms_spec (ws := .code y_S_requireSlot b_S_requireSlot 1 none :: W0) B.pre
  have hts : ∀ w ∈ W0, w.before _ s = true := fun w h => hts1 w (List.mem_cons_of_mem _ h)
  have hown : s.vm.findClass R_S = some m.cls := findClass_of_methodNamed B.named
  have hl := lv_entry ([.int x1]) (n := 1) (Nat.le_of_ble_eq_true rfl)
  rw [lg_entry_eq]
  generalize (lg_sl ([.int x1]) ++ List.replicate (1 - (lg_sl ([.int x1])).length) Slot.unset).toArray = ls at hl ⊢
  have hl : lv_has ls 1 [(0, .int x1)] := hl
  refine lv_iload_n hx hb d_S_requireSlot_0 rfl (lv_at hl 0 rfl) ?_
  refine lv_bipush (v := 32) hx hb d_S_requireSlot_1 (by decide) ?_
  refine nCallN (As := [.int x1, .int 32]) (rest := []) ⟨hx, hb, hml, hown, hts⟩ (c_S_requireBelow l x1 32 h) (va_cwS 2 hts (gS kml_S_50 kst_S_requireBelow kin_S kcd_S_requireBelow) rfl rfl rfl (by decide +kernel) ⟨Nat.le_of_ble_eq_true rfl, Nat.le_of_ble_eq_true rfl⟩) rfl hl.1 rfl (Nat.le_of_ble_eq_true rfl) d_S_requireSlot_3 ⟨Nat.zero_le _, Nat.zero_le _⟩ ?_
  exact W.vret hx hb hr (fun t ht hW => ⟨rfl, ht⟩) (fun q h => by cases h) d_S_requireSlot_6
set_option maxHeartbeats 4000000 in
set_option maxRecDepth 100000 in
theorem t_S_requireSlot (l : Launch) (hlt : l.stackTraces = false) (A : Nat → Prop) (x1 : Int32) (h : ¬ okb x1 32) : xTs l y_S_requireSlot (.code y_S_requireSlot b_S_requireSlot 1 none) ({ frames := 9, cells := 1, slots := 6, locals := 121 } : Room) [.int x1] A xIA := by
  refine vx_ofW (cc := b_S_requireSlot) (maxL := 1) (ret := none) (by decide) rfl ?_
  intro p e s m args below meth c s₁ B hml htab hv
  obtain ⟨rfl, hZ⟩ := hv
  have hZ : xZ A s s.heap := hZ
  have hx := B.exec
  have hb := B.bytes
  have hr := B.returns
  have hts1 := atoms_spec (ws := .code y_S_requireSlot b_S_requireSlot 1 none :: W0) B.pre
  have hts : ∀ w ∈ W0, w.before _ s = true := fun w h => hts1 w (List.mem_cons_of_mem _ h)
  have hown : s.vm.findClass R_S = some m.cls := findClass_of_methodNamed B.named
  have hl := lv_entry ([.int x1]) (n := 1) (Nat.le_of_ble_eq_true rfl)
  rw [lg_entry_eq]
  generalize (lg_sl ([.int x1]) ++ List.replicate (1 - (lg_sl ([.int x1])).length) Slot.unset).toArray = ls at hl ⊢
  have hl : lv_has ls 1 [(0, .int x1)] := hl
  refine lv_iload_n hx hb d_S_requireSlot_0 rfl (lv_at hl 0 rfl) ?_
  refine lv_bipush (v := 32) hx hb d_S_requireSlot_1 (by decide) ?_
  refine nCallX (As := [.int x1, .int 32]) (rest := []) (A := fun _ => False) ⟨hx, hb, hml, hown, hts⟩ (t_S_requireBelow l hlt (fun _ => False) x1 32 h) (va_cwS 2 hts (gS kml_S_50 kst_S_requireBelow kin_S kcd_S_requireBelow) rfl rfl rfl (by decide +kernel) ⟨Nat.le_of_ble_eq_true rfl, Nat.le_of_ble_eq_true rfl⟩) (hZ.narrow (fun _ h => h.elim)) va_S.rf rfl hl.1 rfl (Nat.le_of_ble_eq_true rfl) d_S_requireSlot_3 ⟨Nat.le_of_ble_eq_true rfl, Nat.le_of_ble_eq_true rfl⟩ (fun ce q9 H1 locs1 hz hk hS1 hce hcv hcl => ?_)
  exact vx_out (fun x hx => (htab x hx).elim) B.notSynchronized hce hcv hcl (fun t ht _ => ⟨(), trivial, rfl, by rw [ht]; exact hz, fun q hq _ => by rw [ht]; exact hk q hq⟩) hS1.2.2 (Nat.le_refl _) (Nat.le_refl _)
