/-! ALGEBRA's world: its own object, a Nodes and a Memo; and its calls -/
abbrev gW (cI : ClassId) (g : Nat) (a b : Nat → Nat) (N E : Mm) : va_W := [(g, .inr (2, [.ref (a 0), .ref (b 0)])), (a 0, .inr (1, [.ref (a 1), .ref (a 2), .ref (a 3), .ref (a 4), .ref (a 5), .int (N 0 0), .int (N 0 1), .int (N 0 2), .int (N 0 3), .int (N 0 4), .int (N 0 5)])), (a 1, .inl (cI, jlen N, .inl (N 1))), (a 2, .inl (cI, 768, .inl (N 2))), (a 3, .inl (cI, 12, .inl (N 3))), (a 4, .inl (cI, 13, .inl (N 4))), (a 5, .inl (cI, 13, .inl (N 5))), (b 0, .inr (3, [.ref (b 1), .int (E 1 0)])), (b 1, .inl (cI, 5120, .inl (E 0)))]
def gM (dC : Nat → ClassId) (dI : Nat → Nat → Nat) (cI : ClassId) (g : Nat) (a b : Nat → Nat) (N E : Mm) (sz : Nat) (U : State) : Prop := U.heap.size = sz ∧ va_P (dC, dI) cls0 (gW cI g a b N E) U.heap ∧ va_K (dC, dI) cls0 [(cI, .int)] U ∧ va_D (fun _ => True) (gW cI g a b N E)
theorem gM_call {dC : Nat → ClassId} {dI : Nat → Nat → Nat} {cI : ClassId} {g : Nat} {a b : Nat → Nat} {N E : Mm} {sz : Nat} (av : List Value) : FrameBlind (va_Pc av (gM dC dI cI g a b N E sz)) := fun a U g mk q => by
  obtain ⟨q0, q1, qP, qK, qD⟩ := q
  exact ⟨q0, q1, qP, va_K.moved (u := U) (U := U.calling g mk a) (Vm.Alike.refl U.vm) qK, qD⟩
def gE (dC : Nat → ClassId) (dI : Nat → Nat → Nat) (cI : ClassId) (g : Nat) (a b : Nat → Nat) (N E : Mm) (A : Nat → Prop) (t : State) : Prop := va_P (dC, dI) cls0 (gW cI g a b N E) t.heap ∧ va_K (dC, dI) cls0 [(cI, .int)] t ∧ va_D A (gW cI g a b N E)
section ACALL
variable {p : Program} {l : Launch} {e : Env} {R : Room} {s : State} {m : MethodId} {args : Array Value} {below : List Frame} {meth : Method} {c : Code} {H H0 : Heap} {locs : List Loc} {cells slots mc ms : Nat} {Q : State → Prop} {cc bytes : ByteArray} {pc maxL nL n index : Nat} {ls : Array Slot} {st rest As : List Value} {A0 : Nat → Prop} {y : MethodName} {cy : Cond} {ret : Option FieldType} {rm : Room} {dC : Nat → ClassId} {dI : Nat → Nat → Nat} {cI : ClassId} {g : Nat} {a b : Nat → Nat} {N N' E E' : Mm} {r : Int32}
theorem aNR (S : CallFix p m c cc nL s args W0 R_A) (hM : Met l y (cy :: W0) rm (va_Pc (.ref (a 0) :: As) (nR dC dI cI a N)) (QcRead r) 0 0 (fun _ => False)) (cw : CallW R s args R_A R_N index y bytes maxL ret (cy :: W0) rm 0 0 n) (hP : va_P (dC, dI) cls0 (gW cI g a b N E) H) (hK : va_K (dC, dI) cls0 [(cI, .int)] s) (hn : As.length = n) (hsz : ls.size = nL) (hst : st = As.reverse ++ .ref (a 0) :: rest) (hW : (rest.map fun v => v.category).sum ≤ 8) (hdg : decode cc pc = .ok (.invokevirtual index, 3)) (hf : cells ≤ R.cells ∧ slots ≤ R.slots)
    (kk : W p l e R s m args below meth c H locs cells slots Q (F0 m (pc + 3) ls (.int r :: rest))) : W p l e R s m args below meth c H locs cells slots Q (F0 m pc ls st) := by
  subst hst
  exact W.callR (W.runV (As := As) (rest := rest) (g := F0 m pc ls (As.reverse ++ .ref (a 0) :: rest)) S hM cw ⟨nR_call _, va_recv hK hP (ci := 1) (q0 := 1) rfl rfl, fun U hU hWu => ⟨rfl, by rw [hU]; exact hP.sub [1, 2, 3, 4, 5, 6] rfl, va_K.moved hWu.alike hK⟩⟩ rfl hn hsz rfl (lv_room hW) hdg hf) kk
theorem aMR (S : CallFix p m c cc nL s args W0 R_A) (hM : Met l y (cy :: W0) rm (va_Pc (.ref (b 0) :: As) (mR dC dI cI b E)) (QcRead r) 0 0 (fun _ => False)) (cw : CallW R s args R_A R_M index y bytes maxL ret (cy :: W0) rm 0 0 n) (hP : va_P (dC, dI) cls0 (gW cI g a b N E) H) (hK : va_K (dC, dI) cls0 [(cI, .int)] s) (hn : As.length = n) (hsz : ls.size = nL) (hst : st = As.reverse ++ .ref (b 0) :: rest) (hW : (rest.map fun v => v.category).sum ≤ 8) (hdg : decode cc pc = .ok (.invokevirtual index, 3)) (hf : cells ≤ R.cells ∧ slots ≤ R.slots)
    (kk : W p l e R s m args below meth c H locs cells slots Q (F0 m (pc + 3) ls (.int r :: rest))) : W p l e R s m args below meth c H locs cells slots Q (F0 m pc ls st) := by
  subst hst
  exact W.callR (W.runV (As := As) (rest := rest) (g := F0 m pc ls (As.reverse ++ .ref (b 0) :: rest)) S hM cw ⟨mR_call _, va_recv hK hP (ci := 3) (q0 := 7) rfl rfl, fun U hU hWu => ⟨rfl, by rw [hU]; exact hP.sub [7, 8] rfl, va_K.moved hWu.alike hK⟩⟩ rfl hn hsz rfl (lv_room hW) hdg hf) kk
theorem aNi (S : CallFix p m c cc nL s args W0 R_A) (hM : Met l y (cy :: W0) rm (va_Pc (.ref (a 0) :: As) (nM dC dI cI a N H.size)) (va_Qi (fun (z : Int32) (_ : Unit) => z = r) (fun _ t => nE dC dI cI a N' (va_A (nW cI a N) H.size) t) (va_A (nW cI a N) H.size)) 0 0 (va_A (nW cI a N) H.size)) (cw : CallW R s args R_A R_N index y bytes maxL ret (cy :: W0) rm 0 0 n) (hP : va_P (dC, dI) cls0 (gW cI g a b N E) H) (hK : va_K (dC, dI) cls0 [(cI, .int)] s) (hD : va_D A0 (gW cI g a b N E)) (hS : va_S A0 H0 H locs) (hA : ∀ q, H0.size ≤ q → A0 q) (hn : As.length = n) (hsz : ls.size = nL) (hst : st = As.reverse ++ .ref (a 0) :: rest) (hW : (rest.map fun v => v.category).sum ≤ 8) (hdg : decode cc pc = .ok (.invokevirtual index, 3)) (hf : cells ≤ R.cells ∧ slots ≤ R.slots)
    (kk : ∀ (H1 : Heap) (locs1 : List Loc), va_P (dC, dI) cls0 (gW cI g a b N' E) H1 → va_D A0 (gW cI g a b N' E) → va_S A0 H0 H1 locs1 → W p l e R s m args below meth c H1 locs1 cells slots Q (F0 m (pc + 3) ls (.int r :: rest))) : W p l e R s m args below meth c H locs cells slots Q (F0 m pc ls st) := by
  subst hst
  have hPc := hP.sub (ws' := nW cI a N) [1, 2, 3, 4, 5, 6] rfl
  have hDc := hD.sub (ws' := nW cI a N) [1, 2, 3, 4, 5, 6] (by decide) rfl
  have hFc := va_free (wc := nW cI a N) hD hS hA [1, 2, 3, 4, 5, 6] rfl
  refine va_calli (va_runV (As := As) (rest := rest) (g := F0 m pc ls (As.reverse ++ .ref (a 0) :: rest)) S hM cw ⟨nM_call _, va_recv hK hP (ci := 1) (q0 := 1) rfl rfl, fun U hU hWu => ⟨rfl, by rw [hU], by rw [hU]; exact hPc, va_K.moved hWu.alike hK, hDc.weaken (fun _ _ _ _ => trivial)⟩⟩ rfl hn hsz rfl (lv_room hW) hdg hf) hS (fun q _ h => hFc q h) hFc (fun z u t H1 locs1 ht hvm hw hB hz1 hk1 hS1 => ?_)
  obtain ⟨hP1, hK1, hD1⟩ := hB
  rw [ht] at hP1
  subst hw
  obtain ⟨hP2, hD2⟩ := va_join (wr := [(g, .inr (2, [.ref (a 0), .ref (b 0)])), (b 0, .inr (3, [.ref (b 1), .int (E 1 0)])), (b 1, .inl (cI, 5120, .inl (E 0)))]) (w1 := nW cI a N') hP hD [1, 2, 3, 4, 5, 6] [0, 7, 8] rfl rfl (by decide) (by decide) hk1 hFc hP1 hD1
  exact kk H1 locs1 (hP2.sub [0, 3, 4, 5, 6, 7, 8, 1, 2] rfl) (hD2.sub [0, 3, 4, 5, 6, 7, 8, 1, 2] (by decide) rfl) hS1
theorem aMv (S : CallFix p m c cc nL s args W0 R_A) (hM : Met l y (cy :: W0) rm (va_Pc (.ref (b 0) :: As) (mM dC dI cI b E H.size)) (va_Qv (fun _ : Unit => True) (fun _ t => mE dC dI cI b E' (va_A (mW cI b E) H.size) t) (va_A (mW cI b E) H.size)) 0 0 (va_A (mW cI b E) H.size)) (cw : CallW R s args R_A R_M index y bytes maxL none (cy :: W0) rm 0 0 n) (hP : va_P (dC, dI) cls0 (gW cI g a b N E) H) (hK : va_K (dC, dI) cls0 [(cI, .int)] s) (hD : va_D A0 (gW cI g a b N E)) (hS : va_S A0 H0 H locs) (hA : ∀ q, H0.size ≤ q → A0 q) (hn : As.length = n) (hsz : ls.size = nL) (hst : st = As.reverse ++ .ref (b 0) :: rest) (hW : (rest.map fun v => v.category).sum ≤ 8) (hdg : decode cc pc = .ok (.invokevirtual index, 3)) (hf : cells ≤ R.cells ∧ slots ≤ R.slots)
    (kk : ∀ (H1 : Heap) (locs1 : List Loc), va_P (dC, dI) cls0 (gW cI g a b N E') H1 → va_D A0 (gW cI g a b N E') → va_S A0 H0 H1 locs1 → W p l e R s m args below meth c H1 locs1 cells slots Q (F0 m (pc + 3) ls rest)) : W p l e R s m args below meth c H locs cells slots Q (F0 m pc ls st) := by
  subst hst
  have hPc := hP.sub (ws' := mW cI b E) [7, 8] rfl
  have hDc := hD.sub (ws' := mW cI b E) [7, 8] (by decide) rfl
  have hFc := va_free (wc := mW cI b E) hD hS hA [7, 8] rfl
  refine va_callv (va_runV (As := As) (rest := rest) (g := F0 m pc ls (As.reverse ++ .ref (b 0) :: rest)) S hM cw ⟨mM_call _, va_recv hK hP (ci := 3) (q0 := 7) rfl rfl, fun U hU hWu => ⟨rfl, by rw [hU], by rw [hU]; exact hPc, va_K.moved hWu.alike hK, hDc.weaken (fun _ _ _ _ => trivial)⟩⟩ rfl hn hsz rfl (lv_room hW) hdg hf) hS (fun q _ h => hFc q h) hFc (fun u t H1 locs1 ht hvm hw hB hz1 hk1 hS1 => ?_)
  obtain ⟨hP1, hK1, hD1⟩ := hB
  rw [ht] at hP1
  obtain ⟨hP2, hD2⟩ := va_join (wr := (g, .inr (2, [.ref (a 0), .ref (b 0)])) :: nW cI a N) (w1 := mW cI b E') hP hD [7, 8] [0, 1, 2, 3, 4, 5, 6] rfl rfl (by decide) (by decide) hk1 hFc hP1 hD1
  exact kk H1 locs1 hP2 hD2 hS1
theorem aNW (S : CallFix p m c cc nL s args W0 R_A) (hM : Met l y (cy :: W0) rm (va_Pc (.ref (a 0) :: As) (nM dC dI cI a N H.size)) (va_Qv (fun u : Nat → Nat => u 0 = a 0) (fun u t => nE dC dI cI u N' (va_A (nW cI a N) H.size) t) (va_A (nW cI a N) H.size)) mc ms (va_A (nW cI a N) H.size)) (cw : CallW R s args R_A R_N index y bytes maxL none (cy :: W0) rm mc ms n) (hP : va_P (dC, dI) cls0 (gW cI g a b N E) H) (hK : va_K (dC, dI) cls0 [(cI, .int)] s) (hD : va_D A0 (gW cI g a b N E)) (hS : va_S A0 H0 H locs) (hA : ∀ q, H0.size ≤ q → A0 q) (hn : As.length = n) (hsz : ls.size = nL) (hst : st = As.reverse ++ .ref (a 0) :: rest) (hW : (rest.map fun v => v.category).sum ≤ 8) (hdg : decode cc pc = .ok (.invokevirtual index, 3)) (hf : cells + mc ≤ R.cells ∧ slots + ms ≤ R.slots)
    (kk : ∀ (u : Nat → Nat) (H1 : Heap) (locs1 : List Loc), u 0 = a 0 → va_P (dC, dI) cls0 (gW cI g u b N' E) H1 → va_D A0 (gW cI g u b N' E) → va_S A0 H0 H1 locs1 → W p l e R s m args below meth c H1 locs1 (cells + mc) (slots + ms) Q (F0 m (pc + 3) ls rest)) : W p l e R s m args below meth c H locs cells slots Q (F0 m pc ls st) := by
  subst hst
  have hPc := hP.sub (ws' := nW cI a N) [1, 2, 3, 4, 5, 6] rfl
  have hDc := hD.sub (ws' := nW cI a N) [1, 2, 3, 4, 5, 6] (by decide) rfl
  have hFc := va_free (wc := nW cI a N) hD hS hA [1, 2, 3, 4, 5, 6] rfl
  refine va_callv (va_runV (As := As) (rest := rest) (g := F0 m pc ls (As.reverse ++ .ref (a 0) :: rest)) S hM cw ⟨nM_call _, va_recv hK hP (ci := 1) (q0 := 1) rfl rfl, fun U hU hWu => ⟨rfl, by rw [hU], by rw [hU]; exact hPc, va_K.moved hWu.alike hK, hDc.weaken (fun _ _ _ _ => trivial)⟩⟩ rfl hn hsz rfl (lv_room hW) hdg hf) hS (fun q _ h => hFc q h) hFc (fun u t H1 locs1 ht hvm hw hB hz1 hk1 hS1 => ?_)
  obtain ⟨hP1, hK1, hD1⟩ := hB
  rw [ht] at hP1
  obtain ⟨hP2, hD2⟩ := va_join (wr := [(g, .inr (2, [.ref (a 0), .ref (b 0)])), (b 0, .inr (3, [.ref (b 1), .int (E 1 0)])), (b 1, .inl (cI, 5120, .inl (E 0)))]) (w1 := nW cI u N') hP hD [1, 2, 3, 4, 5, 6] [0, 7, 8] rfl rfl (by decide) (by decide) hk1 hFc hP1 hD1
  rw [← hw] at hP2 hD2
  exact kk u H1 locs1 hw (hP2.sub [0, 3, 4, 5, 6, 7, 8, 1, 2] rfl) (hD2.sub [0, 3, 4, 5, 6, 7, 8, 1, 2] (by decide) rfl) hS1
/-- a method of Algebra calls another one that answers a number and makes nothing -/
theorem aAi (S : CallFix p m c cc nL s args W0 R_A) (hM : Met l y (cy :: W0) rm (va_Pc (.ref g :: As) (gM dC dI cI g a b N E H.size)) (va_Qi (fun (z : Int32) (_ : Unit) => z = r) (fun _ t => gE dC dI cI g a b N' E' (va_A (gW cI g a b N E) H.size) t) (va_A (gW cI g a b N E) H.size)) 0 0 (va_A (gW cI g a b N E) H.size)) (cw : CallW R s args R_A R_A index y bytes maxL ret (cy :: W0) rm 0 0 n) (hP : va_P (dC, dI) cls0 (gW cI g a b N E) H) (hK : va_K (dC, dI) cls0 [(cI, .int)] s) (hD : va_D A0 (gW cI g a b N E)) (hS : va_S A0 H0 H locs) (hA : ∀ q, H0.size ≤ q → A0 q) (hn : As.length = n) (hsz : ls.size = nL) (hst : st = As.reverse ++ .ref g :: rest) (hW : (rest.map fun v => v.category).sum ≤ 8) (hdg : decode cc pc = .ok (.invokevirtual index, 3)) (hf : cells ≤ R.cells ∧ slots ≤ R.slots)
    (kk : ∀ (H1 : Heap) (locs1 : List Loc), va_P (dC, dI) cls0 (gW cI g a b N' E') H1 → va_D A0 (gW cI g a b N' E') → va_S A0 H0 H1 locs1 → W p l e R s m args below meth c H1 locs1 cells slots Q (F0 m (pc + 3) ls (.int r :: rest))) : W p l e R s m args below meth c H locs cells slots Q (F0 m pc ls st) := by
  subst hst
  have hFc := va_free (wc := gW cI g a b N E) hD hS hA [0, 1, 2, 3, 4, 5, 6, 7, 8] rfl
  refine va_calli (va_runV (As := As) (rest := rest) (g := F0 m pc ls (As.reverse ++ .ref g :: rest)) S hM cw ⟨gM_call _, va_recv hK hP (ci := 2) (q0 := 0) rfl rfl, fun U hU hWu => ⟨rfl, by rw [hU], by rw [hU]; exact hP, va_K.moved hWu.alike hK, hD.weaken (fun _ _ _ _ => trivial)⟩⟩ rfl hn hsz rfl (lv_room hW) hdg hf) hS (fun q _ h => hFc q h) hFc (fun z u t H1 locs1 ht hvm hw hB hz1 hk1 hS1 => ?_)
  obtain ⟨hP1, hK1, hD1⟩ := hB
  rw [ht] at hP1
  subst hw
  obtain ⟨hP2, hD2⟩ := va_join (wr := []) (w1 := gW cI g a b N' E') hP hD [0, 1, 2, 3, 4, 5, 6, 7, 8] [] rfl rfl (by decide) (by decide) hk1 hFc hP1 hD1
  exact kk H1 locs1 hP2 hD2 hS1
/-- .. one that answers nothing and may make the rows anew -/
theorem aAW (S : CallFix p m c cc nL s args W0 R_A) (hM : Met l y (cy :: W0) rm (va_Pc (.ref g :: As) (gM dC dI cI g a b N E H.size)) (va_Qv (fun u : Nat → Nat => u 0 = a 0) (fun u t => gE dC dI cI g u b N' E' (va_A (gW cI g a b N E) H.size) t) (va_A (gW cI g a b N E) H.size)) mc ms (va_A (gW cI g a b N E) H.size)) (cw : CallW R s args R_A R_A index y bytes maxL none (cy :: W0) rm mc ms n) (hP : va_P (dC, dI) cls0 (gW cI g a b N E) H) (hK : va_K (dC, dI) cls0 [(cI, .int)] s) (hD : va_D A0 (gW cI g a b N E)) (hS : va_S A0 H0 H locs) (hA : ∀ q, H0.size ≤ q → A0 q) (hn : As.length = n) (hsz : ls.size = nL) (hst : st = As.reverse ++ .ref g :: rest) (hW : (rest.map fun v => v.category).sum ≤ 8) (hdg : decode cc pc = .ok (.invokevirtual index, 3)) (hf : cells + mc ≤ R.cells ∧ slots + ms ≤ R.slots)
    (kk : ∀ (u : Nat → Nat) (H1 : Heap) (locs1 : List Loc), u 0 = a 0 → va_P (dC, dI) cls0 (gW cI g u b N' E') H1 → va_D A0 (gW cI g u b N' E') → va_S A0 H0 H1 locs1 → W p l e R s m args below meth c H1 locs1 (cells + mc) (slots + ms) Q (F0 m (pc + 3) ls rest)) : W p l e R s m args below meth c H locs cells slots Q (F0 m pc ls st) := by
  subst hst
  have hFc := va_free (wc := gW cI g a b N E) hD hS hA [0, 1, 2, 3, 4, 5, 6, 7, 8] rfl
  refine va_callv (va_runV (As := As) (rest := rest) (g := F0 m pc ls (As.reverse ++ .ref g :: rest)) S hM cw ⟨gM_call _, va_recv hK hP (ci := 2) (q0 := 0) rfl rfl, fun U hU hWu => ⟨rfl, by rw [hU], by rw [hU]; exact hP, va_K.moved hWu.alike hK, hD.weaken (fun _ _ _ _ => trivial)⟩⟩ rfl hn hsz rfl (lv_room hW) hdg hf) hS (fun q _ h => hFc q h) hFc (fun u t H1 locs1 ht hvm hw hB hz1 hk1 hS1 => ?_)
  obtain ⟨hP1, hK1, hD1⟩ := hB
  rw [ht] at hP1
  obtain ⟨hP2, hD2⟩ := va_join (wr := []) (w1 := gW cI g u b N' E') hP hD [0, 1, 2, 3, 4, 5, 6, 7, 8] [] rfl rfl (by decide) (by decide) hk1 hFc hP1 hD1
  exact kk u H1 locs1 hw hP2 hD2 hS1
end ACALL
theorem ex2 {α β : Type} (p : α × β) : ∃ (a : α) (b : β), p = (a, b) := ⟨p.1, p.2, rfl⟩
theorem ex3 {α β γ : Type} (p : α × β × γ) : ∃ (a : α) (b : β) (c : γ), p = (a, b, c) := ⟨p.1, p.2.1, p.2.2, rfl⟩
theorem pe3 {α β γ : Type} {a a' : α} {b b' : β} {c c' : γ} (h : (a, b, c) = (a', b', c')) : a = a' ∧ b = b' ∧ c = c' := by
  cases h; exact ⟨rfl, rfl, rfl⟩
theorem pe2 {α β : Type} {a a' : α} {b b' : β} (h : (a, b) = (a', b')) : a = a' ∧ b = b' := by
  cases h; exact ⟨rfl, rfl⟩
/-- make's contract, by what it gives -/
theorem c_N_make' (l : Launch) (dC : Nat → ClassId) (dI : Nat → Nat → Nat) (cI : ClassId) (a : Nat → Nat) (N : Mm) (sz : Nat) (x1 x2 x3 : Int32) {N' : Mm} {r : Int32} (h : j_make N x1 x2 x3 = (N', r)) : Met l y_N_make (.code y_N_make b_N_make 7 (some .int) :: W0) ({ frames := 2, cells := 0, slots := 0, locals := 49 } : Room) (va_Pc [.ref (a 0), .int x1, .int x2, .int x3] (nM dC dI cI a N sz)) (va_Qi (fun (z : Int32) (_ : Unit) => z = r) (fun _ t => nE dC dI cI a N' (va_A (nW cI a N) sz) t) (va_A (nW cI a N) sz)) 0 0 (va_A (nW cI a N) sz) := by
  have hm := c_N_make l dC dI cI a N sz x1 x2 x3
  rw [h] at hm
  exact hm
