/-! THE STORE's world: its own object z 0, slots z 1, algebra z 2, sifting z 3; a Nodes, a Memo; and its calls -/
abbrev tW (cI : ClassId) (z a b : Nat → Nat) (N E : Mm) (V : Nat → Int32) : va_W := [(z 0, .inr (0, [.ref (z 1), .ref (a 0), .ref (z 2), .ref (z 3)])), (z 1, .inl (cI, 32, .inl V)), (z 3, .inr (4, [.ref (a 0)])), (z 2, .inr (2, [.ref (a 0), .ref (b 0)])), (a 0, .inr (1, [.ref (a 1), .ref (a 2), .ref (a 3), .ref (a 4), .ref (a 5), .int (N 0 0), .int (N 0 1), .int (N 0 2), .int (N 0 3), .int (N 0 4), .int (N 0 5)])), (a 1, .inl (cI, jlen N, .inl (N 1))), (a 2, .inl (cI, 768, .inl (N 2))), (a 3, .inl (cI, 12, .inl (N 3))), (a 4, .inl (cI, 13, .inl (N 4))), (a 5, .inl (cI, 13, .inl (N 5))), (b 0, .inr (3, [.ref (b 1), .int (E 1 0)])), (b 1, .inl (cI, 5120, .inl (E 0)))]
def tR (dC : Nat → ClassId) (dI : Nat → Nat → Nat) (cI : ClassId) (z a b : Nat → Nat) (N E : Mm) (V : Nat → Int32) (U : State) : Prop := va_P (dC, dI) cls0 (tW cI z a b N E V) U.heap ∧ va_K (dC, dI) cls0 [(cI, .int)] U
theorem tR_call {dC : Nat → ClassId} {dI : Nat → Nat → Nat} {cI : ClassId} {z a b : Nat → Nat} {N E : Mm} {V : Nat → Int32} (av : List Value) : FrameBlind (va_Pc av (tR dC dI cI z a b N E V)) := fun a U g mk q => by
  obtain ⟨q0, qP, qK⟩ := q
  exact ⟨q0, qP, va_K.moved (u := U) (U := U.calling g mk a) (Vm.Alike.refl U.vm) qK⟩
def tM (dC : Nat → ClassId) (dI : Nat → Nat → Nat) (cI : ClassId) (z a b : Nat → Nat) (N E : Mm) (V : Nat → Int32) (sz : Nat) (U : State) : Prop := U.heap.size = sz ∧ va_P (dC, dI) cls0 (tW cI z a b N E V) U.heap ∧ va_K (dC, dI) cls0 [(cI, .int)] U ∧ va_D (fun _ => True) (tW cI z a b N E V)
theorem tM_call {dC : Nat → ClassId} {dI : Nat → Nat → Nat} {cI : ClassId} {z a b : Nat → Nat} {N E : Mm} {V : Nat → Int32} {sz : Nat} (av : List Value) : FrameBlind (va_Pc av (tM dC dI cI z a b N E V sz)) := fun a U g mk q => by
  obtain ⟨q0, q1, qP, qK, qD⟩ := q
  exact ⟨q0, q1, qP, va_K.moved (u := U) (U := U.calling g mk a) (Vm.Alike.refl U.vm) qK, qD⟩
def tE (dC : Nat → ClassId) (dI : Nat → Nat → Nat) (cI : ClassId) (z a b : Nat → Nat) (N E : Mm) (V : Nat → Int32) (A : Nat → Prop) (t : State) : Prop := va_P (dC, dI) cls0 (tW cI z a b N E V) t.heap ∧ va_K (dC, dI) cls0 [(cI, .int)] t ∧ va_D A (tW cI z a b N E V)
section TCALL
variable {p : Program} {l : Launch} {e : Env} {R : Room} {s : State} {m : MethodId} {args : Array Value} {below : List Frame} {meth : Method} {c : Code} {H H0 : Heap} {locs : List Loc} {cells slots mc ms : Nat} {Q : State → Prop} {cc bytes : ByteArray} {pc maxL nL n index : Nat} {ls : Array Slot} {st rest As : List Value} {A0 : Nat → Prop} {y : MethodName} {cy : Cond} {ret : Option FieldType} {rm : Room} {dC : Nat → ClassId} {dI : Nat → Nat → Nat} {cI : ClassId} {z a b : Nat → Nat} {N N' E E' : Mm} {V V' : Nat → Int32} {r : Int32}
theorem tNR (S : CallFix p m c cc nL s args W0 R_S) (hM : Met l y (cy :: W0) rm (va_Pc (.ref (a 0) :: As) (nR dC dI cI a N)) (QcRead r) 0 0 (fun _ => False)) (cw : CallW R s args R_S R_N index y bytes maxL ret (cy :: W0) rm 0 0 n) (hP : va_P (dC, dI) cls0 (tW cI z a b N E V) H) (hK : va_K (dC, dI) cls0 [(cI, .int)] s) (hn : As.length = n) (hsz : ls.size = nL) (hst : st = As.reverse ++ .ref (a 0) :: rest) (hW : (rest.map fun v => v.category).sum ≤ 8) (hdg : decode cc pc = .ok (.invokevirtual index, 3)) (hf : cells ≤ R.cells ∧ slots ≤ R.slots)
    (kk : W p l e R s m args below meth c H locs cells slots Q (F0 m (pc + 3) ls (.int r :: rest))) : W p l e R s m args below meth c H locs cells slots Q (F0 m pc ls st) := by
  subst hst
  exact W.callR (W.runV (As := As) (rest := rest) (g := F0 m pc ls (As.reverse ++ .ref (a 0) :: rest)) S hM cw ⟨nR_call _, va_recv hK hP (ci := 1) (q0 := 4) rfl rfl, fun U hU hWu => ⟨rfl, by rw [hU]; exact hP.sub [4, 5, 6, 7, 8, 9] rfl, va_K.moved hWu.alike hK⟩⟩ rfl hn hsz rfl (lv_room hW) hdg hf) kk
theorem tSR (S : CallFix p m c cc nL s args W0 R_S) (hM : Met l y (cy :: W0) rm (va_Pc (.ref (z 0) :: As) (tR dC dI cI z a b N E V)) (QcRead r) 0 0 (fun _ => False)) (cw : CallW R s args R_S R_S index y bytes maxL ret (cy :: W0) rm 0 0 n) (hP : va_P (dC, dI) cls0 (tW cI z a b N E V) H) (hK : va_K (dC, dI) cls0 [(cI, .int)] s) (hn : As.length = n) (hsz : ls.size = nL) (hst : st = As.reverse ++ .ref (z 0) :: rest) (hW : (rest.map fun v => v.category).sum ≤ 8) (hdg : decode cc pc = .ok (.invokevirtual index, 3)) (hf : cells ≤ R.cells ∧ slots ≤ R.slots)
    (kk : W p l e R s m args below meth c H locs cells slots Q (F0 m (pc + 3) ls (.int r :: rest))) : W p l e R s m args below meth c H locs cells slots Q (F0 m pc ls st) := by
  subst hst
  exact W.callR (W.runV (As := As) (rest := rest) (g := F0 m pc ls (As.reverse ++ .ref (z 0) :: rest)) S hM cw ⟨tR_call _, va_recv hK hP (ci := 0) (q0 := 0) rfl rfl, fun U hU hWu => ⟨rfl, by rw [hU]; exact hP, va_K.moved hWu.alike hK⟩⟩ rfl hn hsz rfl (lv_room hW) hdg hf) kk
theorem tNv (S : CallFix p m c cc nL s args W0 R_S) (hM : Met l y (cy :: W0) rm (va_Pc (.ref (a 0) :: As) (nM dC dI cI a N H.size)) (va_Qv (fun _ : Unit => True) (fun _ t => nE dC dI cI a N' (va_A (nW cI a N) H.size) t) (va_A (nW cI a N) H.size)) 0 0 (va_A (nW cI a N) H.size)) (cw : CallW R s args R_S R_N index y bytes maxL none (cy :: W0) rm 0 0 n) (hP : va_P (dC, dI) cls0 (tW cI z a b N E V) H) (hK : va_K (dC, dI) cls0 [(cI, .int)] s) (hD : va_D A0 (tW cI z a b N E V)) (hS : va_S A0 H0 H locs) (hA : ∀ q, H0.size ≤ q → A0 q) (hn : As.length = n) (hsz : ls.size = nL) (hst : st = As.reverse ++ .ref (a 0) :: rest) (hW : (rest.map fun v => v.category).sum ≤ 8) (hdg : decode cc pc = .ok (.invokevirtual index, 3)) (hf : cells + 0 ≤ R.cells ∧ slots + 0 ≤ R.slots)
    (kk : ∀ (H1 : Heap) (locs1 : List Loc), va_P (dC, dI) cls0 (tW cI z a b N' E V) H1 → va_D A0 (tW cI z a b N' E V) → va_S A0 H0 H1 locs1 → W p l e R s m args below meth c H1 locs1 cells slots Q (F0 m (pc + 3) ls rest)) : W p l e R s m args below meth c H locs cells slots Q (F0 m pc ls st) := by
  subst hst
  have hPc := hP.sub (ws' := nW cI a N) [4, 5, 6, 7, 8, 9] rfl
  have hDc := hD.sub (ws' := nW cI a N) [4, 5, 6, 7, 8, 9] (by decide) rfl
  have hFc := va_free (wc := nW cI a N) hD hS hA [4, 5, 6, 7, 8, 9] rfl
  refine va_callv (va_runV (As := As) (rest := rest) (g := F0 m pc ls (As.reverse ++ .ref (a 0) :: rest)) S hM cw ⟨nM_call _, va_recv hK hP (ci := 1) (q0 := 4) rfl rfl, fun U hU hWu => ⟨rfl, by rw [hU], by rw [hU]; exact hPc, va_K.moved hWu.alike hK, hDc.weaken (fun _ _ _ _ => trivial)⟩⟩ rfl hn hsz rfl (lv_room hW) hdg hf) hS (fun q _ h => hFc q h) hFc (fun u t H1 locs1 ht hvm hw hB hz1 hk1 hS1 => ?_)
  obtain ⟨hP1, hK1, hD1⟩ := hB
  rw [ht] at hP1
  obtain ⟨hP2, hD2⟩ := va_join (wr := [(z 0, .inr (0, [.ref (z 1), .ref (a 0), .ref (z 2), .ref (z 3)])), (z 1, .inl (cI, 32, .inl V)), (z 3, .inr (4, [.ref (a 0)])), (z 2, .inr (2, [.ref (a 0), .ref (b 0)])), (b 0, .inr (3, [.ref (b 1), .int (E 1 0)])), (b 1, .inl (cI, 5120, .inl (E 0)))]) (w1 := nW cI a N') hP hD [4, 5, 6, 7, 8, 9] [0, 1, 2, 3, 10, 11] rfl rfl (by decide) (by decide) hk1 hFc hP1 hD1
  exact kk H1 locs1 (hP2.sub [0, 1, 2, 3, 6, 7, 8, 9, 10, 11, 4, 5] rfl) (hD2.sub [0, 1, 2, 3, 6, 7, 8, 9, 10, 11, 4, 5] (by decide) rfl) hS1
/-- a call of the algebra that answers a number and makes nothing -/
theorem tGi (S : CallFix p m c cc nL s args W0 R_S) (hM : Met l y (cy :: W0) rm (va_Pc (.ref (z 2) :: As) (gM dC dI cI (z 2) a b N E H.size)) (va_Qi (fun (x : Int32) (_ : Unit) => x = r) (fun _ t => gE dC dI cI (z 2) a b N' E' (va_A (gW cI (z 2) a b N E) H.size) t) (va_A (gW cI (z 2) a b N E) H.size)) 0 0 (va_A (gW cI (z 2) a b N E) H.size)) (cw : CallW R s args R_S R_A index y bytes maxL ret (cy :: W0) rm 0 0 n) (hP : va_P (dC, dI) cls0 (tW cI z a b N E V) H) (hK : va_K (dC, dI) cls0 [(cI, .int)] s) (hD : va_D A0 (tW cI z a b N E V)) (hS : va_S A0 H0 H locs) (hA : ∀ q, H0.size ≤ q → A0 q) (hn : As.length = n) (hsz : ls.size = nL) (hst : st = As.reverse ++ .ref (z 2) :: rest) (hW : (rest.map fun v => v.category).sum ≤ 8) (hdg : decode cc pc = .ok (.invokevirtual index, 3)) (hf : cells + 0 ≤ R.cells ∧ slots + 0 ≤ R.slots)
    (kk : ∀ (H1 : Heap) (locs1 : List Loc), va_P (dC, dI) cls0 (tW cI z a b N' E' V) H1 → va_D A0 (tW cI z a b N' E' V) → va_S A0 H0 H1 locs1 → W p l e R s m args below meth c H1 locs1 cells slots Q (F0 m (pc + 3) ls (.int r :: rest))) : W p l e R s m args below meth c H locs cells slots Q (F0 m pc ls st) := by
  subst hst
  have hPc := hP.sub (ws' := gW cI (z 2) a b N E) [3, 4, 5, 6, 7, 8, 9, 10, 11] rfl
  have hDc := hD.sub (ws' := gW cI (z 2) a b N E) [3, 4, 5, 6, 7, 8, 9, 10, 11] (by decide) rfl
  have hFc := va_free (wc := gW cI (z 2) a b N E) hD hS hA [3, 4, 5, 6, 7, 8, 9, 10, 11] rfl
  refine va_calli (va_runV (As := As) (rest := rest) (g := F0 m pc ls (As.reverse ++ .ref (z 2) :: rest)) S hM cw ⟨gM_call _, va_recv hK hP (ci := 2) (q0 := 3) rfl rfl, fun U hU hWu => ⟨rfl, by rw [hU], by rw [hU]; exact hPc, va_K.moved hWu.alike hK, hDc.weaken (fun _ _ _ _ => trivial)⟩⟩ rfl hn hsz rfl (lv_room hW) hdg hf) hS (fun q _ h => hFc q h) hFc (fun x u t H1 locs1 ht hvm hw hB hz1 hk1 hS1 => ?_)
  obtain ⟨hP1, hK1, hD1⟩ := hB
  rw [ht] at hP1
  subst hw
  obtain ⟨hP2, hD2⟩ := va_join (wr := [(z 0, .inr (0, [.ref (z 1), .ref (a 0), .ref (z 2), .ref (z 3)])), (z 1, .inl (cI, 32, .inl V)), (z 3, .inr (4, [.ref (a 0)]))]) (w1 := gW cI (z 2) a b N' E') hP hD [3, 4, 5, 6, 7, 8, 9, 10, 11] [0, 1, 2] rfl rfl (by decide) (by decide) hk1 hFc hP1 hD1
  exact kk H1 locs1 hP2 hD2 hS1
/-- .. that may make the rows anew -/
theorem tGW (S : CallFix p m c cc nL s args W0 R_S) (hM : Met l y (cy :: W0) rm (va_Pc (.ref (z 2) :: As) (gM dC dI cI (z 2) a b N E H.size)) (va_Qi (fun (x : Int32) (u : Nat → Nat) => x = r ∧ u 0 = a 0) (fun u t => gE dC dI cI (z 2) u b N' E' (va_A (gW cI (z 2) a b N E) H.size) t) (va_A (gW cI (z 2) a b N E) H.size)) mc ms (va_A (gW cI (z 2) a b N E) H.size)) (cw : CallW R s args R_S R_A index y bytes maxL ret (cy :: W0) rm mc ms n) (hP : va_P (dC, dI) cls0 (tW cI z a b N E V) H) (hK : va_K (dC, dI) cls0 [(cI, .int)] s) (hD : va_D A0 (tW cI z a b N E V)) (hS : va_S A0 H0 H locs) (hA : ∀ q, H0.size ≤ q → A0 q) (hn : As.length = n) (hsz : ls.size = nL) (hst : st = As.reverse ++ .ref (z 2) :: rest) (hW : (rest.map fun v => v.category).sum ≤ 8) (hdg : decode cc pc = .ok (.invokevirtual index, 3)) (hf : cells + mc ≤ R.cells ∧ slots + ms ≤ R.slots)
    (kk : ∀ (u : Nat → Nat) (H1 : Heap) (locs1 : List Loc), u 0 = a 0 → va_P (dC, dI) cls0 (tW cI z u b N' E' V) H1 → va_D A0 (tW cI z u b N' E' V) → va_S A0 H0 H1 locs1 → W p l e R s m args below meth c H1 locs1 (cells + mc) (slots + ms) Q (F0 m (pc + 3) ls (.int r :: rest))) : W p l e R s m args below meth c H locs cells slots Q (F0 m pc ls st) := by
  subst hst
  have hPc := hP.sub (ws' := gW cI (z 2) a b N E) [3, 4, 5, 6, 7, 8, 9, 10, 11] rfl
  have hDc := hD.sub (ws' := gW cI (z 2) a b N E) [3, 4, 5, 6, 7, 8, 9, 10, 11] (by decide) rfl
  have hFc := va_free (wc := gW cI (z 2) a b N E) hD hS hA [3, 4, 5, 6, 7, 8, 9, 10, 11] rfl
  refine va_calli (va_runV (As := As) (rest := rest) (g := F0 m pc ls (As.reverse ++ .ref (z 2) :: rest)) S hM cw ⟨gM_call _, va_recv hK hP (ci := 2) (q0 := 3) rfl rfl, fun U hU hWu => ⟨rfl, by rw [hU], by rw [hU]; exact hPc, va_K.moved hWu.alike hK, hDc.weaken (fun _ _ _ _ => trivial)⟩⟩ rfl hn hsz rfl (lv_room hW) hdg hf) hS (fun q _ h => hFc q h) hFc (fun x u t H1 locs1 ht hvm hw hB hz1 hk1 hS1 => ?_)
  obtain ⟨hP1, hK1, hD1⟩ := hB
  rw [ht] at hP1
  obtain ⟨hw0, hw⟩ := hw
  subst hw0
  obtain ⟨hP2, hD2⟩ := va_join (wr := [(z 0, .inr (0, [.ref (z 1), .ref (a 0), .ref (z 2), .ref (z 3)])), (z 1, .inl (cI, 32, .inl V)), (z 3, .inr (4, [.ref (a 0)]))]) (w1 := gW cI (z 2) u b N' E') hP hD [3, 4, 5, 6, 7, 8, 9, 10, 11] [0, 1, 2] rfl rfl (by decide) (by decide) hk1 hFc hP1 hD1
  rw [← hw] at hP2 hD2
  exact kk u H1 locs1 hw hP2 hD2 hS1
/-- a call of sifting -/
theorem tFW (S : CallFix p m c cc nL s args W0 R_S) (hM : Met l y (cy :: W0) rm (va_Pc (.ref (z 3) :: As) (sM dC dI cI (z 3) a N H.size)) (va_Qv (fun u : Nat → Nat => u 0 = a 0) (fun u t => sE dC dI cI (z 3) u N' (va_A (sW cI (z 3) a N) H.size) t) (va_A (sW cI (z 3) a N) H.size)) mc ms (va_A (sW cI (z 3) a N) H.size)) (cw : CallW R s args R_S R_F index y bytes maxL none (cy :: W0) rm mc ms n) (hP : va_P (dC, dI) cls0 (tW cI z a b N E V) H) (hK : va_K (dC, dI) cls0 [(cI, .int)] s) (hD : va_D A0 (tW cI z a b N E V)) (hS : va_S A0 H0 H locs) (hA : ∀ q, H0.size ≤ q → A0 q) (hn : As.length = n) (hsz : ls.size = nL) (hst : st = As.reverse ++ .ref (z 3) :: rest) (hW : (rest.map fun v => v.category).sum ≤ 8) (hdg : decode cc pc = .ok (.invokevirtual index, 3)) (hf : cells + mc ≤ R.cells ∧ slots + ms ≤ R.slots)
    (kk : ∀ (u : Nat → Nat) (H1 : Heap) (locs1 : List Loc), u 0 = a 0 → va_P (dC, dI) cls0 (tW cI z u b N' E V) H1 → va_D A0 (tW cI z u b N' E V) → va_S A0 H0 H1 locs1 → W p l e R s m args below meth c H1 locs1 (cells + mc) (slots + ms) Q (F0 m (pc + 3) ls rest)) : W p l e R s m args below meth c H locs cells slots Q (F0 m pc ls st) := by
  subst hst
  have hPc := hP.sub (ws' := sW cI (z 3) a N) [2, 4, 5, 6, 7, 8, 9] rfl
  have hDc := hD.sub (ws' := sW cI (z 3) a N) [2, 4, 5, 6, 7, 8, 9] (by decide) rfl
  have hFc := va_free (wc := sW cI (z 3) a N) hD hS hA [2, 4, 5, 6, 7, 8, 9] rfl
  refine va_callv (va_runV (As := As) (rest := rest) (g := F0 m pc ls (As.reverse ++ .ref (z 3) :: rest)) S hM cw ⟨sM_call _, va_recv hK hP (ci := 4) (q0 := 2) rfl rfl, fun U hU hWu => ⟨rfl, by rw [hU], by rw [hU]; exact hPc, va_K.moved hWu.alike hK, hDc.weaken (fun _ _ _ _ => trivial)⟩⟩ rfl hn hsz rfl (lv_room hW) hdg hf) hS (fun q _ h => hFc q h) hFc (fun u t H1 locs1 ht hvm hw hB hz1 hk1 hS1 => ?_)
  obtain ⟨hP1, hK1, hD1⟩ := hB
  rw [ht] at hP1
  obtain ⟨hP2, hD2⟩ := va_join (wr := [(z 0, .inr (0, [.ref (z 1), .ref (a 0), .ref (z 2), .ref (z 3)])), (z 1, .inl (cI, 32, .inl V)), (z 2, .inr (2, [.ref (a 0), .ref (b 0)])), (b 0, .inr (3, [.ref (b 1), .int (E 1 0)])), (b 1, .inl (cI, 5120, .inl (E 0)))]) (w1 := sW cI (z 3) u N') hP hD [2, 4, 5, 6, 7, 8, 9] [0, 1, 3, 10, 11] rfl rfl (by decide) (by decide) hk1 hFc hP1 hD1
  rw [← hw] at hP2 hD2
  exact kk u H1 locs1 hw (hP2.sub [0, 1, 5, 2, 6, 7, 8, 9, 10, 11, 3, 4] rfl) (hD2.sub [0, 1, 5, 2, 6, 7, 8, 9, 10, 11, 3, 4] (by decide) rfl) hS1
/-- the store calls its own put -/
theorem tSi (S : CallFix p m c cc nL s args W0 R_S) (hM : Met l y (cy :: W0) rm (va_Pc (.ref (z 0) :: As) (tM dC dI cI z a b N E V H.size)) (va_Qi (fun (x : Int32) (_ : Unit) => x = r) (fun _ t => tE dC dI cI z a b N' E' V' (va_A (tW cI z a b N E V) H.size) t) (va_A (tW cI z a b N E V) H.size)) 0 0 (va_A (tW cI z a b N E V) H.size)) (cw : CallW R s args R_S R_S index y bytes maxL ret (cy :: W0) rm 0 0 n) (hP : va_P (dC, dI) cls0 (tW cI z a b N E V) H) (hK : va_K (dC, dI) cls0 [(cI, .int)] s) (hD : va_D A0 (tW cI z a b N E V)) (hS : va_S A0 H0 H locs) (hA : ∀ q, H0.size ≤ q → A0 q) (hn : As.length = n) (hsz : ls.size = nL) (hst : st = As.reverse ++ .ref (z 0) :: rest) (hW : (rest.map fun v => v.category).sum ≤ 8) (hdg : decode cc pc = .ok (.invokevirtual index, 3)) (hf : cells + 0 ≤ R.cells ∧ slots + 0 ≤ R.slots)
    (kk : ∀ (H1 : Heap) (locs1 : List Loc), va_P (dC, dI) cls0 (tW cI z a b N' E' V') H1 → va_D A0 (tW cI z a b N' E' V') → va_S A0 H0 H1 locs1 → W p l e R s m args below meth c H1 locs1 cells slots Q (F0 m (pc + 3) ls (.int r :: rest))) : W p l e R s m args below meth c H locs cells slots Q (F0 m pc ls st) := by
  subst hst
  have hFc := va_free (wc := tW cI z a b N E V) hD hS hA [0, 1, 2, 3, 4, 5, 6, 7, 8, 9, 10, 11] rfl
  refine va_calli (va_runV (As := As) (rest := rest) (g := F0 m pc ls (As.reverse ++ .ref (z 0) :: rest)) S hM cw ⟨tM_call _, va_recv hK hP (ci := 0) (q0 := 0) rfl rfl, fun U hU hWu => ⟨rfl, by rw [hU], by rw [hU]; exact hP, va_K.moved hWu.alike hK, hD.weaken (fun _ _ _ _ => trivial)⟩⟩ rfl hn hsz rfl (lv_room hW) hdg hf) hS (fun q _ h => hFc q h) hFc (fun x u t H1 locs1 ht hvm hw hB hz1 hk1 hS1 => ?_)
  obtain ⟨hP1, hK1, hD1⟩ := hB
  rw [ht] at hP1
  subst hw
  obtain ⟨hP2, hD2⟩ := va_join (wr := []) (w1 := tW cI z a b N' E' V') hP hD [0, 1, 2, 3, 4, 5, 6, 7, 8, 9, 10, 11] [] rfl rfl (by decide) (by decide) hk1 hFc hP1 hD1
  exact kk H1 locs1 hP2 hD2 hS1
end TCALL
theorem okb_in {x : Int32} {n : Nat} (h : okb x (nI n)) (hn : n < 2 ^ 31) : vp_in x n := lt_of_in h.1 (Int32.not_le.mpr h.2) hn
