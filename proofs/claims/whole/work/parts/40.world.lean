/-! THE WORLD of the class's cells, and what a contract of Nodes begins with. -/
abbrev cls0 : List vw_C := [(R_S, T_S, 4), (R_N, T_N, 11), (R_A, T_A, 2), (R_M, T_M, 2), (R_F, T_F, 1), (R_R, T_R, 4)]
/-- the six cells of a Nodes: the object at a 0, rows at a 1, heads a 2, held a 3, levels a 4, variables a 5 -/
abbrev nW (cI : ClassId) (a : Nat → Nat) (N : Mm) : va_W := [(a 0, .inr (1, [.ref (a 1), .ref (a 2), .ref (a 3), .ref (a 4), .ref (a 5), .int (N 0 0), .int (N 0 1), .int (N 0 2), .int (N 0 3), .int (N 0 4), .int (N 0 5)])), (a 1, .inl (cI, jlen N, .inl (N 1))), (a 2, .inl (cI, 768, .inl (N 2))), (a 3, .inl (cI, 12, .inl (N 3))), (a 4, .inl (cI, 13, .inl (N 4))), (a 5, .inl (cI, 13, .inl (N 5)))]
def r00 : Room := { frames := 0, cells := 0, slots := 0, locals := 0 }
def nR (dC : Nat → ClassId) (dI : Nat → Nat → Nat) (cI : ClassId) (a : Nat → Nat) (N : Mm) (U : State) : Prop := va_P (dC, dI) cls0 (nW cI a N) U.heap ∧ va_K (dC, dI) cls0 [(cI, .int)] U
theorem nR_call {dC : Nat → ClassId} {dI : Nat → Nat → Nat} {cI : ClassId} {a : Nat → Nat} {N : Mm} (av : List Value) : FrameBlind (va_Pc av (nR dC dI cI a N)) := fun a U g mk q => by
  obtain ⟨q0, qP, qK⟩ := q
  exact ⟨q0, qP, va_K.moved (u := U) (U := U.calling g mk a) (Vm.Alike.refl U.vm) qK⟩
theorem lt_of_in {x : Int32} {n : Nat} (h0 : ¬ x < 0) (h1 : ¬ nI n ≤ x) (hn : n < 2 ^ 31) : vp_in x n := by
  rcases pk_ix x hn with q | q | ⟨j, h, rfl⟩
  · exact absurd q h0
  · exact absurd q h1
  · exact vp_in_nI h hn
def nM (dC : Nat → ClassId) (dI : Nat → Nat → Nat) (cI : ClassId) (a : Nat → Nat) (N : Mm) (sz : Nat) (U : State) : Prop := U.heap.size = sz ∧ va_P (dC, dI) cls0 (nW cI a N) U.heap ∧ va_K (dC, dI) cls0 [(cI, .int)] U ∧ va_D (fun _ => True) (nW cI a N)
theorem nM_call {dC : Nat → ClassId} {dI : Nat → Nat → Nat} {cI : ClassId} {a : Nat → Nat} {N : Mm} {sz : Nat} (av : List Value) : FrameBlind (va_Pc av (nM dC dI cI a N sz)) := fun a U g mk q => by
  obtain ⟨q0, q1, qP, qK, qD⟩ := q
  exact ⟨q0, q1, qP, va_K.moved (u := U) (U := U.calling g mk a) (Vm.Alike.refl U.vm) qK, qD⟩
def nE (dC : Nat → ClassId) (dI : Nat → Nat → Nat) (cI : ClassId) (a : Nat → Nat) (N : Mm) (A : Nat → Prop) (t : State) : Prop := va_P (dC, dI) cls0 (nW cI a N) t.heap ∧ va_K (dC, dI) cls0 [(cI, .int)] t ∧ va_D A (nW cI a N)
section NCALL
variable {p : Program} {l : Launch} {e : Env} {R : Room} {s : State} {m : MethodId} {args : Array Value} {below : List Frame} {meth : Method} {c : Code} {H H0 : Heap} {locs : List Loc} {cells slots : Nat} {Q : State → Prop} {cc bytes : ByteArray} {pc maxL nL n index : Nat} {ls : Array Slot} {st rest As : List Value} {A0 : Nat → Prop} {y : MethodName} {cy : Cond} {ret : Option FieldType} {rm : Room} {dC : Nat → ClassId} {dI : Nat → Nat → Nat} {cI : ClassId} {a : Nat → Nat} {N N' : Mm}
/-- a method of Nodes calls one that reads -/
theorem nCallR {r : Int32} (S : CallFix p m c cc nL s args W0 R_N) (hM : Met l y (cy :: W0) rm (va_Pc (.ref (a 0) :: As) (nR dC dI cI a N)) (QcRead r) 0 0 (fun _ => False)) (cw : CallW R s args R_N R_N index y bytes maxL ret (cy :: W0) rm 0 0 n) (hP : va_P (dC, dI) cls0 (nW cI a N) H) (hK : va_K (dC, dI) cls0 [(cI, .int)] s) (hn : As.length = n) (hsz : ls.size = nL) (hst : st = As.reverse ++ .ref (a 0) :: rest) (hW : (rest.map fun v => v.category).sum ≤ 8) (hdg : decode cc pc = .ok (.invokevirtual index, 3)) (hf : cells ≤ R.cells ∧ slots ≤ R.slots)
    (kk : W p l e R s m args below meth c H locs cells slots Q (F0 m (pc + 3) ls (.int r :: rest))) : W p l e R s m args below meth c H locs cells slots Q (F0 m pc ls st) := by
  subst hst
  exact W.callR (W.runV (As := As) (rest := rest) (g := F0 m pc ls (As.reverse ++ .ref (a 0) :: rest)) S hM cw ⟨nR_call _, va_recv hK hP (ci := 1) (q0 := 0) rfl rfl, fun U hU hWu => ⟨rfl, by rw [hU]; exact hP, va_K.moved hWu.alike hK⟩⟩ rfl hn hsz rfl (lv_room hW) hdg hf) kk
/-- a method of Nodes calls one that writes and answers nothing -/
theorem nCallv (S : CallFix p m c cc nL s args W0 R_N) (hM : Met l y (cy :: W0) rm (va_Pc (.ref (a 0) :: As) (nM dC dI cI a N H.size)) (va_Qv (fun _ : Unit => True) (fun _ t => nE dC dI cI a N' (va_A (nW cI a N) H.size) t) (va_A (nW cI a N) H.size)) 0 0 (va_A (nW cI a N) H.size)) (cw : CallW R s args R_N R_N index y bytes maxL none (cy :: W0) rm 0 0 n) (hP : va_P (dC, dI) cls0 (nW cI a N) H) (hK : va_K (dC, dI) cls0 [(cI, .int)] s) (hD : va_D A0 (nW cI a N)) (hS : va_S A0 H0 H locs) (hA : ∀ q, H0.size ≤ q → A0 q) (hn : As.length = n) (hsz : ls.size = nL) (hst : st = As.reverse ++ .ref (a 0) :: rest) (hW : (rest.map fun v => v.category).sum ≤ 8) (hdg : decode cc pc = .ok (.invokevirtual index, 3)) (hf : cells ≤ R.cells ∧ slots ≤ R.slots)
    (kk : ∀ (H1 : Heap) (locs1 : List Loc), va_P (dC, dI) cls0 (nW cI a N') H1 → va_D A0 (nW cI a N') → va_S A0 H0 H1 locs1 → W p l e R s m args below meth c H1 locs1 cells slots Q (F0 m (pc + 3) ls rest)) : W p l e R s m args below meth c H locs cells slots Q (F0 m pc ls st) := by
  subst hst
  have hFc := va_free (wc := nW cI a N) hD hS hA [0, 1, 2, 3, 4, 5] rfl
  refine va_callv (va_runV (As := As) (rest := rest) (g := F0 m pc ls (As.reverse ++ .ref (a 0) :: rest)) S hM cw ⟨nM_call _, va_recv hK hP (ci := 1) (q0 := 0) rfl rfl, fun U hU hWu => ⟨rfl, by rw [hU], by rw [hU]; exact hP, va_K.moved hWu.alike hK, hD.weaken (fun _ _ _ _ => trivial)⟩⟩ rfl hn hsz rfl (lv_room hW) hdg hf) hS (fun q _ h => hFc q h) hFc (fun u t H1 locs1 ht hvm hw hB hz1 hk1 hS1 => ?_)
  obtain ⟨hP1, hK1, hD1⟩ := hB
  rw [ht] at hP1
  obtain ⟨hP2, hD2⟩ := va_join (wr := []) (w1 := nW cI a N') hP hD [0, 1, 2, 3, 4, 5] [] rfl rfl (by decide) (by decide) hk1 hFc hP1 hD1
  exact kk H1 locs1 hP2 hD2 hS1
/-- .. one that writes and answers a number -/
theorem nCalli {r : Int32} (S : CallFix p m c cc nL s args W0 R_N) (hM : Met l y (cy :: W0) rm (va_Pc (.ref (a 0) :: As) (nM dC dI cI a N H.size)) (va_Qi (fun (z : Int32) (_ : Unit) => z = r) (fun _ t => nE dC dI cI a N' (va_A (nW cI a N) H.size) t) (va_A (nW cI a N) H.size)) 0 0 (va_A (nW cI a N) H.size)) (cw : CallW R s args R_N R_N index y bytes maxL ret (cy :: W0) rm 0 0 n) (hP : va_P (dC, dI) cls0 (nW cI a N) H) (hK : va_K (dC, dI) cls0 [(cI, .int)] s) (hD : va_D A0 (nW cI a N)) (hS : va_S A0 H0 H locs) (hA : ∀ q, H0.size ≤ q → A0 q) (hn : As.length = n) (hsz : ls.size = nL) (hst : st = As.reverse ++ .ref (a 0) :: rest) (hW : (rest.map fun v => v.category).sum ≤ 8) (hdg : decode cc pc = .ok (.invokevirtual index, 3)) (hf : cells ≤ R.cells ∧ slots ≤ R.slots)
    (kk : ∀ (H1 : Heap) (locs1 : List Loc), va_P (dC, dI) cls0 (nW cI a N') H1 → va_D A0 (nW cI a N') → va_S A0 H0 H1 locs1 → W p l e R s m args below meth c H1 locs1 cells slots Q (F0 m (pc + 3) ls (.int r :: rest))) : W p l e R s m args below meth c H locs cells slots Q (F0 m pc ls st) := by
  subst hst
  have hFc := va_free (wc := nW cI a N) hD hS hA [0, 1, 2, 3, 4, 5] rfl
  refine va_calli (va_runV (As := As) (rest := rest) (g := F0 m pc ls (As.reverse ++ .ref (a 0) :: rest)) S hM cw ⟨nM_call _, va_recv hK hP (ci := 1) (q0 := 0) rfl rfl, fun U hU hWu => ⟨rfl, by rw [hU], by rw [hU]; exact hP, va_K.moved hWu.alike hK, hD.weaken (fun _ _ _ _ => trivial)⟩⟩ rfl hn hsz rfl (lv_room hW) hdg hf) hS (fun q _ h => hFc q h) hFc (fun z u t H1 locs1 ht hvm hw hB hz1 hk1 hS1 => ?_)
  obtain ⟨hP1, hK1, hD1⟩ := hB
  rw [ht] at hP1
  subst hw
  obtain ⟨hP2, hD2⟩ := va_join (wr := []) (w1 := nW cI a N') hP hD [0, 1, 2, 3, 4, 5] [] rfl rfl (by decide) (by decide) hk1 hFc hP1 hD1
  exact kk H1 locs1 hP2 hD2 hS1
end NCALL
theorem js_k {N : Mm} {a b x : Int32} {k : Nat} (h : k ≠ 1) : j_set N a b x k = N k := by
  unfold j_set
  by_cases c1 : a * 5 + b < 0
  · rw [if_pos c1]
  · rw [if_neg c1]
    by_cases c2 : nI (jlen N) ≤ a * 5 + b
    · rw [if_pos c2]
    · rw [if_neg c2]; exact fu_n h
theorem js_0 (N : Mm) (a b x : Int32) : j_set N a b x 0 = N 0 := js_k (by decide)
theorem js_2 (N : Mm) (a b x : Int32) : j_set N a b x 2 = N 2 := js_k (by decide)
theorem js_3 (N : Mm) (a b x : Int32) : j_set N a b x 3 = N 3 := js_k (by decide)
section NCALL2
variable {p : Program} {l : Launch} {e : Env} {R : Room} {s : State} {m : MethodId} {args : Array Value} {below : List Frame} {meth : Method} {c : Code} {H : Heap} {locs : List Loc} {cells slots : Nat} {Q : State → Prop} {cc bytes : ByteArray} {pc maxL nL n index : Nat} {ls : Array Slot} {st rest As : List Value} {y : MethodName} {cy : Cond} {ret : Option FieldType} {rm : Room} {own : String}
theorem nCallS {r : Int32} (S : CallFix p m c cc nL s args W0 own) (hM : Met l y (cy :: W0) rm (va_Pc As (fun _ => True)) (QcRead r) 0 0 (fun _ => False)) (cw : CallB R s args own index y bytes maxL ret (cy :: W0) rm 0 0 n ∧ (Cond.static y).before args s = true) (hn : As.length = n) (hsz : ls.size = nL) (hst : st = As.reverse ++ rest) (hW : (rest.map fun v => v.category).sum ≤ 8) (hdg : decode cc pc = .ok (.invokestatic index, 3)) (hf : cells ≤ R.cells ∧ slots ≤ R.slots)
    (kk : W p l e R s m args below meth c H locs cells slots Q (F0 m (pc + 3) ls (.int r :: rest))) : W p l e R s m args below meth c H locs cells slots Q (F0 m pc ls st) := by
  subst hst
  exact W.callR (W.runS (As := As) (rest := rest) (g := F0 m pc ls (As.reverse ++ rest)) S hM cw ⟨fun a U g mk q => ⟨q.1, trivial⟩, fun U hU hWu => ⟨rfl, trivial⟩⟩ rfl hn hsz rfl (lv_room hW) hdg hf) kk
end NCALL2
