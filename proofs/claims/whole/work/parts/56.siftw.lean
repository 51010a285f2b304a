/-! SIFTING: its functions, its world and its calls -/
def j_trI : Nat → Mm → Nat → Mm
  | 0, N, _ => N
  | n + 1, N, k => j_trI n (j_swap N (nI k)) (k + 1)
def j_trO : Nat → Mm → Mm
  | 0, N => N
  | n + 1, N => j_trO n (j_trI (n + 1) N 0)
theorem trI_sle : ∀ (n : Nat) (N : Mm) (k : Nat), sok N → k + n ≤ 12 → sle N (j_trI n N k)
  | 0, _, _, h, _ => sle_rf h
  | n + 1, N, k, h, hk => by
    have h1 := sok_swap h (kk := k) (by omega)
    exact sle_tr h1 (trI_sle n _ (k + 1) h1.1 (by omega))
theorem trO_sle : ∀ (n : Nat) (N : Mm), sok N → n ≤ 11 → sle N (j_trO n N)
  | 0, _, h, _ => sle_rf h
  | n + 1, N, h, hn => by
    have h1 := trI_sle (n + 1) N 0 h (by omega)
    exact sle_tr h1 (trO_sle n _ h1.1 (by omega))
def j_sift1 (bear : Int32) : Nat → Mm → Nat → Nat → Int32 → Mm × Nat × Nat × Int32
  | 0, N, k, bl, b => (N, k, bl, b)
  | n + 1, N, k, bl, b => if 12 ≤ k + 1 then (N, k, bl, b) else if bear < N 0 3 then (N, k, bl, b) else
    if b ≤ j_swap N (nI k) 0 3 then j_sift1 bear n (j_swap N (nI k)) (k + 1) bl b else j_sift1 bear n (j_swap N (nI k)) (k + 1) (k + 1) (j_swap N (nI k) 0 3)
def j_sift2 (start : Nat) (bear : Int32) : Nat → Mm → Nat → Int32 → Mm × Nat × Nat
  | 0, N, bl, _ => (N, 0, bl)
  | k + 1, N, bl, b => if start < k + 1 ∨ ¬ bear < N 0 3 then
      (if b ≤ j_swap N (nI k) 0 3 then j_sift2 start bear k (j_swap N (nI k)) bl b else j_sift2 start bear k (j_swap N (nI k)) k (j_swap N (nI k) 0 3))
    else (N, k + 1, bl)
def j_sift3 (bl : Nat) : Nat → Mm → Nat → Mm
  | 0, N, _ => N
  | n + 1, N, k => if k < bl then j_sift3 bl n (j_swap N (nI k)) (k + 1) else N
theorem sift1_sle (bear : Int32) : ∀ (n : Nat) (N : Mm) (k bl : Nat) (b : Int32) {N' : Mm} {k' bl' : Nat} {b' : Int32}, sok N → k < 12 → bl < 12 → j_sift1 bear n N k bl b = (N', k', bl', b') → sle N N' ∧ k' < 12 ∧ bl' < 12
  | 0, N, k, bl, b, N', k', bl', b', h, hk, hb, e => by
    rw [j_sift1] at e
    cases e
    exact ⟨sle_rf h, hk, hb⟩
  | n + 1, N, k, bl, b, N', k', bl', b', h, hk, hb, e => by
    rw [j_sift1] at e
    by_cases c1 : 12 ≤ k + 1
    · rw [if_pos c1] at e
      cases e
      exact ⟨sle_rf h, hk, hb⟩
    · rw [if_neg c1] at e
      by_cases c2 : bear < N 0 3
      · rw [if_pos c2] at e
        cases e
        exact ⟨sle_rf h, hk, hb⟩
      · rw [if_neg c2] at e
        have h1 := sok_swap h (kk := k) (by omega)
        by_cases c3 : b ≤ j_swap N (nI k) 0 3
        · rw [if_pos c3] at e
          obtain ⟨g1, g2, g3⟩ := sift1_sle bear n _ _ _ _ h1.1 (by omega) hb e
          exact ⟨sle_tr h1 g1, g2, g3⟩
        · rw [if_neg c3] at e
          obtain ⟨g1, g2, g3⟩ := sift1_sle bear n _ _ _ _ h1.1 (by omega) (by omega) e
          exact ⟨sle_tr h1 g1, g2, g3⟩
theorem sift2_sle (start : Nat) (bear : Int32) : ∀ (k : Nat) (N : Mm) (bl : Nat) (b : Int32) {N' : Mm} {k' bl' : Nat}, sok N → k < 12 → bl < 12 → j_sift2 start bear k N bl b = (N', k', bl') → sle N N' ∧ k' < 12 ∧ bl' < 12
  | 0, N, bl, b, N', k', bl', h, hk, hb, e => by
    rw [j_sift2] at e
    cases e
    exact ⟨sle_rf h, hk, hb⟩
  | k + 1, N, bl, b, N', k', bl', h, hk, hb, e => by
    rw [j_sift2] at e
    by_cases c1 : start < k + 1 ∨ ¬ bear < N 0 3
    · rw [if_pos c1] at e
      have h1 := sok_swap h (kk := k) (by omega)
      by_cases c3 : b ≤ j_swap N (nI k) 0 3
      · rw [if_pos c3] at e
        obtain ⟨g1, g2, g3⟩ := sift2_sle start bear k _ _ _ h1.1 (by omega) hb e
        exact ⟨sle_tr h1 g1, g2, g3⟩
      · rw [if_neg c3] at e
        obtain ⟨g1, g2, g3⟩ := sift2_sle start bear k _ _ _ h1.1 (by omega) (by omega) e
        exact ⟨sle_tr h1 g1, g2, g3⟩
    · rw [if_neg c1] at e
      cases e
      exact ⟨sle_rf h, hk, hb⟩
theorem sift3_sle {bl : Nat} (hbl : bl < 12) : ∀ (n : Nat) (N : Mm) (k : Nat), sok N → sle N (j_sift3 bl n N k)
  | 0, _, _, h => sle_rf h
  | n + 1, N, k, h => by
    rw [j_sift3]
    by_cases c1 : k < bl
    · rw [if_pos c1]
      have h1 := sok_swap h (kk := k) (by omega)
      exact sle_tr h1 (sift3_sle hbl n _ (k + 1) h1.1)
    · rw [if_neg c1]
      exact sle_rf h
abbrev sW (cI : ClassId) (f : Nat) (a : Nat → Nat) (N : Mm) : va_W := [(f, .inr (4, [.ref (a 0)])), (a 0, .inr (1, [.ref (a 1), .ref (a 2), .ref (a 3), .ref (a 4), .ref (a 5), .int (N 0 0), .int (N 0 1), .int (N 0 2), .int (N 0 3), .int (N 0 4), .int (N 0 5)])), (a 1, .inl (cI, jlen N, .inl (N 1))), (a 2, .inl (cI, 768, .inl (N 2))), (a 3, .inl (cI, 12, .inl (N 3))), (a 4, .inl (cI, 13, .inl (N 4))), (a 5, .inl (cI, 13, .inl (N 5)))]
def sR (dC : Nat → ClassId) (dI : Nat → Nat → Nat) (cI : ClassId) (f : Nat) (a : Nat → Nat) (N : Mm) (U : State) : Prop := va_P (dC, dI) cls0 (sW cI f a N) U.heap ∧ va_K (dC, dI) cls0 [(cI, .int)] U
theorem sR_call {dC : Nat → ClassId} {dI : Nat → Nat → Nat} {cI : ClassId} {f : Nat} {a : Nat → Nat} {N : Mm} (av : List Value) : FrameBlind (va_Pc av (sR dC dI cI f a N)) := fun a U g mk q => by
  obtain ⟨q0, qP, qK⟩ := q
  exact ⟨q0, qP, va_K.moved (u := U) (U := U.calling g mk a) (Vm.Alike.refl U.vm) qK⟩
def sM (dC : Nat → ClassId) (dI : Nat → Nat → Nat) (cI : ClassId) (f : Nat) (a : Nat → Nat) (N : Mm) (sz : Nat) (U : State) : Prop := U.heap.size = sz ∧ va_P (dC, dI) cls0 (sW cI f a N) U.heap ∧ va_K (dC, dI) cls0 [(cI, .int)] U ∧ va_D (fun _ => True) (sW cI f a N)
theorem sM_call {dC : Nat → ClassId} {dI : Nat → Nat → Nat} {cI : ClassId} {f : Nat} {a : Nat → Nat} {N : Mm} {sz : Nat} (av : List Value) : FrameBlind (va_Pc av (sM dC dI cI f a N sz)) := fun a U g mk q => by
  obtain ⟨q0, q1, qP, qK, qD⟩ := q
  exact ⟨q0, q1, qP, va_K.moved (u := U) (U := U.calling g mk a) (Vm.Alike.refl U.vm) qK, qD⟩
def sE (dC : Nat → ClassId) (dI : Nat → Nat → Nat) (cI : ClassId) (f : Nat) (a : Nat → Nat) (N : Mm) (A : Nat → Prop) (t : State) : Prop := va_P (dC, dI) cls0 (sW cI f a N) t.heap ∧ va_K (dC, dI) cls0 [(cI, .int)] t ∧ va_D A (sW cI f a N)
section SCALL
variable {p : Program} {l : Launch} {e : Env} {R : Room} {s : State} {m : MethodId} {args : Array Value} {below : List Frame} {meth : Method} {c : Code} {H H0 : Heap} {locs : List Loc} {cells slots mc ms : Nat} {Q : State → Prop} {cc bytes : ByteArray} {pc maxL nL n index : Nat} {ls : Array Slot} {st rest As : List Value} {A0 : Nat → Prop} {y : MethodName} {cy : Cond} {ret : Option FieldType} {rm : Room} {dC : Nat → ClassId} {dI : Nat → Nat → Nat} {cI : ClassId} {f : Nat} {a : Nat → Nat} {N N' : Mm} {r : Int32}
theorem sNR (S : CallFix p m c cc nL s args W0 R_F) (hM : Met l y (cy :: W0) rm (va_Pc (.ref (a 0) :: As) (nR dC dI cI a N)) (QcRead r) 0 0 (fun _ => False)) (cw : CallW R s args R_F R_N index y bytes maxL ret (cy :: W0) rm 0 0 n) (hP : va_P (dC, dI) cls0 (sW cI f a N) H) (hK : va_K (dC, dI) cls0 [(cI, .int)] s) (hn : As.length = n) (hsz : ls.size = nL) (hst : st = As.reverse ++ .ref (a 0) :: rest) (hW : (rest.map fun v => v.category).sum ≤ 8) (hdg : decode cc pc = .ok (.invokevirtual index, 3)) (hf : cells ≤ R.cells ∧ slots ≤ R.slots)
    (kk : W p l e R s m args below meth c H locs cells slots Q (F0 m (pc + 3) ls (.int r :: rest))) : W p l e R s m args below meth c H locs cells slots Q (F0 m pc ls st) := by
  subst hst
  exact W.callR (W.runV (As := As) (rest := rest) (g := F0 m pc ls (As.reverse ++ .ref (a 0) :: rest)) S hM cw ⟨nR_call _, va_recv hK hP (ci := 1) (q0 := 1) rfl rfl, fun U hU hWu => ⟨rfl, by rw [hU]; exact hP.sub [1, 2, 3, 4, 5, 6] rfl, va_K.moved hWu.alike hK⟩⟩ rfl hn hsz rfl (lv_room hW) hdg hf) kk
theorem sFR (S : CallFix p m c cc nL s args W0 R_F) (hM : Met l y (cy :: W0) rm (va_Pc (.ref f :: As) (sR dC dI cI f a N)) (QcRead r) 0 0 (fun _ => False)) (cw : CallW R s args R_F R_F index y bytes maxL ret (cy :: W0) rm 0 0 n) (hP : va_P (dC, dI) cls0 (sW cI f a N) H) (hK : va_K (dC, dI) cls0 [(cI, .int)] s) (hn : As.length = n) (hsz : ls.size = nL) (hst : st = As.reverse ++ .ref f :: rest) (hW : (rest.map fun v => v.category).sum ≤ 8) (hdg : decode cc pc = .ok (.invokevirtual index, 3)) (hf : cells ≤ R.cells ∧ slots ≤ R.slots)
    (kk : W p l e R s m args below meth c H locs cells slots Q (F0 m (pc + 3) ls (.int r :: rest))) : W p l e R s m args below meth c H locs cells slots Q (F0 m pc ls st) := by
  subst hst
  exact W.callR (W.runV (As := As) (rest := rest) (g := F0 m pc ls (As.reverse ++ .ref f :: rest)) S hM cw ⟨sR_call _, va_recv hK hP (ci := 4) (q0 := 0) rfl rfl, fun U hU hWu => ⟨rfl, by rw [hU]; exact hP, va_K.moved hWu.alike hK⟩⟩ rfl hn hsz rfl (lv_room hW) hdg hf) kk
theorem sNW (S : CallFix p m c cc nL s args W0 R_F) (hM : Met l y (cy :: W0) rm (va_Pc (.ref (a 0) :: As) (nM dC dI cI a N H.size)) (va_Qv (fun u : Nat → Nat => u 0 = a 0) (fun u t => nE dC dI cI u N' (va_A (nW cI a N) H.size) t) (va_A (nW cI a N) H.size)) mc ms (va_A (nW cI a N) H.size)) (cw : CallW R s args R_F R_N index y bytes maxL none (cy :: W0) rm mc ms n) (hP : va_P (dC, dI) cls0 (sW cI f a N) H) (hK : va_K (dC, dI) cls0 [(cI, .int)] s) (hD : va_D A0 (sW cI f a N)) (hS : va_S A0 H0 H locs) (hA : ∀ q, H0.size ≤ q → A0 q) (hn : As.length = n) (hsz : ls.size = nL) (hst : st = As.reverse ++ .ref (a 0) :: rest) (hW : (rest.map fun v => v.category).sum ≤ 8) (hdg : decode cc pc = .ok (.invokevirtual index, 3)) (hf : cells + mc ≤ R.cells ∧ slots + ms ≤ R.slots)
    (kk : ∀ (u : Nat → Nat) (H1 : Heap) (locs1 : List Loc), u 0 = a 0 → va_P (dC, dI) cls0 (sW cI f u N') H1 → va_D A0 (sW cI f u N') → va_S A0 H0 H1 locs1 → W p l e R s m args below meth c H1 locs1 (cells + mc) (slots + ms) Q (F0 m (pc + 3) ls rest)) : W p l e R s m args below meth c H locs cells slots Q (F0 m pc ls st) := by
  subst hst
  have hPc := hP.sub (ws' := nW cI a N) [1, 2, 3, 4, 5, 6] rfl
  have hDc := hD.sub (ws' := nW cI a N) [1, 2, 3, 4, 5, 6] (by decide) rfl
  have hFc := va_free (wc := nW cI a N) hD hS hA [1, 2, 3, 4, 5, 6] rfl
  refine va_callv (va_runV (As := As) (rest := rest) (g := F0 m pc ls (As.reverse ++ .ref (a 0) :: rest)) S hM cw ⟨nM_call _, va_recv hK hP (ci := 1) (q0 := 1) rfl rfl, fun U hU hWu => ⟨rfl, by rw [hU], by rw [hU]; exact hPc, va_K.moved hWu.alike hK, hDc.weaken (fun _ _ _ _ => trivial)⟩⟩ rfl hn hsz rfl (lv_room hW) hdg hf) hS (fun q _ h => hFc q h) hFc (fun u t H1 locs1 ht hvm hw hB hz1 hk1 hS1 => ?_)
  obtain ⟨hP1, hK1, hD1⟩ := hB
  rw [ht] at hP1
  obtain ⟨hP2, hD2⟩ := va_join (wr := [(f, .inr (4, [.ref (a 0)]))]) (w1 := nW cI u N') hP hD [1, 2, 3, 4, 5, 6] [0] rfl rfl (by decide) (by decide) hk1 hFc hP1 hD1
  rw [← hw] at hP2 hD2
  exact kk u H1 locs1 hw hP2 hD2 hS1
theorem sFW (S : CallFix p m c cc nL s args W0 R_F) (hM : Met l y (cy :: W0) rm (va_Pc (.ref f :: As) (sM dC dI cI f a N H.size)) (va_Qv (fun u : Nat → Nat => u 0 = a 0) (fun u t => sE dC dI cI f u N' (va_A (sW cI f a N) H.size) t) (va_A (sW cI f a N) H.size)) mc ms (va_A (sW cI f a N) H.size)) (cw : CallW R s args R_F R_F index y bytes maxL none (cy :: W0) rm mc ms n) (hP : va_P (dC, dI) cls0 (sW cI f a N) H) (hK : va_K (dC, dI) cls0 [(cI, .int)] s) (hD : va_D A0 (sW cI f a N)) (hS : va_S A0 H0 H locs) (hA : ∀ q, H0.size ≤ q → A0 q) (hn : As.length = n) (hsz : ls.size = nL) (hst : st = As.reverse ++ .ref f :: rest) (hW : (rest.map fun v => v.category).sum ≤ 8) (hdg : decode cc pc = .ok (.invokevirtual index, 3)) (hf : cells + mc ≤ R.cells ∧ slots + ms ≤ R.slots)
    (kk : ∀ (u : Nat → Nat) (H1 : Heap) (locs1 : List Loc), u 0 = a 0 → va_P (dC, dI) cls0 (sW cI f u N') H1 → va_D A0 (sW cI f u N') → va_S A0 H0 H1 locs1 → W p l e R s m args below meth c H1 locs1 (cells + mc) (slots + ms) Q (F0 m (pc + 3) ls rest)) : W p l e R s m args below meth c H locs cells slots Q (F0 m pc ls st) := by
  subst hst
  have hFc := va_free (wc := sW cI f a N) hD hS hA [0, 1, 2, 3, 4, 5, 6] rfl
  refine va_callv (va_runV (As := As) (rest := rest) (g := F0 m pc ls (As.reverse ++ .ref f :: rest)) S hM cw ⟨sM_call _, va_recv hK hP (ci := 4) (q0 := 0) rfl rfl, fun U hU hWu => ⟨rfl, by rw [hU], by rw [hU]; exact hP, va_K.moved hWu.alike hK, hD.weaken (fun _ _ _ _ => trivial)⟩⟩ rfl hn hsz rfl (lv_room hW) hdg hf) hS (fun q _ h => hFc q h) hFc (fun u t H1 locs1 ht hvm hw hB hz1 hk1 hS1 => ?_)
  obtain ⟨hP1, hK1, hD1⟩ := hB
  rw [ht] at hP1
  obtain ⟨hP2, hD2⟩ := va_join (wr := []) (w1 := sW cI f u N') hP hD [0, 1, 2, 3, 4, 5, 6] [] rfl rfl (by decide) (by decide) hk1 hFc hP1 hD1
  exact kk u H1 locs1 hw hP2 hD2 hS1
end SCALL
