/-! THE MEMO's world -/
abbrev mW (cI : ClassId) (b : Nat → Nat) (E : Mm) : va_W := [(b 0, .inr (3, [.ref (b 1), .int (E 1 0)])), (b 1, .inl (cI, 5120, .inl (E 0)))]
def mR (dC : Nat → ClassId) (dI : Nat → Nat → Nat) (cI : ClassId) (b : Nat → Nat) (E : Mm) (U : State) : Prop := va_P (dC, dI) cls0 (mW cI b E) U.heap ∧ va_K (dC, dI) cls0 [(cI, .int)] U
theorem mR_call {dC : Nat → ClassId} {dI : Nat → Nat → Nat} {cI : ClassId} {b : Nat → Nat} {E : Mm} (av : List Value) : FrameBlind (va_Pc av (mR dC dI cI b E)) := fun a U g mk q => by
  obtain ⟨q0, qP, qK⟩ := q
  exact ⟨q0, qP, va_K.moved (u := U) (U := U.calling g mk a) (Vm.Alike.refl U.vm) qK⟩
def mM (dC : Nat → ClassId) (dI : Nat → Nat → Nat) (cI : ClassId) (b : Nat → Nat) (E : Mm) (sz : Nat) (U : State) : Prop := U.heap.size = sz ∧ va_P (dC, dI) cls0 (mW cI b E) U.heap ∧ va_K (dC, dI) cls0 [(cI, .int)] U ∧ va_D (fun _ => True) (mW cI b E)
theorem mM_call {dC : Nat → ClassId} {dI : Nat → Nat → Nat} {cI : ClassId} {b : Nat → Nat} {E : Mm} {sz : Nat} (av : List Value) : FrameBlind (va_Pc av (mM dC dI cI b E sz)) := fun a U g mk q => by
  obtain ⟨q0, q1, qP, qK, qD⟩ := q
  exact ⟨q0, q1, qP, va_K.moved (u := U) (U := U.calling g mk a) (Vm.Alike.refl U.vm) qK, qD⟩
def mE (dC : Nat → ClassId) (dI : Nat → Nat → Nat) (cI : ClassId) (b : Nat → Nat) (E : Mm) (A : Nat → Prop) (t : State) : Prop := va_P (dC, dI) cls0 (mW cI b E) t.heap ∧ va_K (dC, dI) cls0 [(cI, .int)] t ∧ va_D A (mW cI b E)
theorem place_in0 (a b c : Int32) : vp_in (j_place a b c) 5120 := by
  obtain ⟨q, q1, e⟩ := place_e a b c
  rw [e]
  exact vp_in_nI (by omega) (by decide)
theorem place_in1 (a b c : Int32) : vp_in ((j_place a b c + 1)) 5120 := by
  obtain ⟨q, q1, e⟩ := place_e a b c
  rw [e]
  rw [show nI (5 * q) + 1 = nI (5 * q + 1) from nI_add _ _]
  exact vp_in_nI (by omega) (by decide)
theorem place_in2 (a b c : Int32) : vp_in ((j_place a b c + 2)) 5120 := by
  obtain ⟨q, q1, e⟩ := place_e a b c
  rw [e]
  rw [show nI (5 * q) + 2 = nI (5 * q + 2) from nI_add _ _]
  exact vp_in_nI (by omega) (by decide)
theorem place_in3 (a b c : Int32) : vp_in ((j_place a b c + 3)) 5120 := by
  obtain ⟨q, q1, e⟩ := place_e a b c
  rw [e]
  rw [show nI (5 * q) + 3 = nI (5 * q + 3) from nI_add _ _]
  exact vp_in_nI (by omega) (by decide)
theorem place_in4 (a b c : Int32) : vp_in ((j_place a b c + 4)) 5120 := by
  obtain ⟨q, q1, e⟩ := place_e a b c
  rw [e]
  rw [show nI (5 * q) + 4 = nI (5 * q + 4) from nI_add _ _]
  exact vp_in_nI (by omega) (by decide)
theorem ue_1 (E : Mm) (j : Nat) (x : Int32) : up E 0 j x 1 = E 1 := rfl
section MST
variable {p : Program} {l : Launch} {e : Env} {R : Room} {s : State} {m : MethodId} {args : Array Value} {below : List Frame} {meth : Method} {c : Code} {H H0 : Heap} {locs : List Loc} {cells slots : Nat} {Q : State → Prop} {cc : ByteArray} {pc index : Nat} {ls : Array Slot} {rest : List Value} {A : Nat → Prop} {dC : Nat → ClassId} {dI : Nat → Nat → Nat} {cI : ClassId} {b : Nat → Nat} {E : Mm} {x i : Int32}
theorem mAst (hx : p.tables.exec = Jvm.exec) (hb : c.code = cc) (hK : va_K (dC, dI) cls0 [(cI, .int)] s) (hP : va_P (dC, dI) cls0 (mW cI b E) H) (hD : va_D A (mW cI b E)) (hS : va_S A H0 H locs) (hin : vp_in i 5120) (hdg : decode cc pc = .ok (.iastore, 1))
    (kk : ∀ (H1 : Heap) (locs1 : List Loc), va_P (dC, dI) cls0 (mW cI b (up E 0 i.toNatClampNeg x)) H1 → va_D A (mW cI b (up E 0 i.toNatClampNeg x)) → va_S A H0 H1 locs1 → W p l e R s m args below meth c H1 locs1 cells slots Q (F0 m (pc + 1) ls rest)) : W p l e R s m args below meth c H locs cells slots Q (F0 m pc ls (.int x :: .int i :: .ref (b 1) :: rest)) :=
  va_iast hx hb hK hP hD hS 1 0 rfl rfl hin hdg (fun H1 locs1 h1 h2 h3 => kk H1 locs1 h1 h2 h3)
theorem mPut (hx : p.tables.exec = Jvm.exec) (hb : c.code = cc) (hts : ∀ w ∈ W0, w.before args s = true) (hown : s.vm.findClass R_M = some m.cls) (hK : va_K (dC, dI) cls0 [(cI, .int)] s) (hP : va_P (dC, dI) cls0 (mW cI b E) H) (hD : va_D A (mW cI b E)) (hS : va_S A H0 H locs) (hk : Cond.fieldLink R_M index "DiagramStore$Memo" "age" "I" ∈ W0) (hdg : decode cc pc = .ok (.putfield index, 3))
    (kk : ∀ (H1 : Heap) (locs1 : List Loc), va_P (dC, dI) cls0 (mW cI b (up E 1 0 x)) H1 → va_D A (mW cI b (up E 1 0 x)) → va_S A H0 H1 locs1 → W p l e R s m args below meth c H1 locs1 cells slots Q (F0 m (pc + 3) ls rest)) : W p l e R s m args below meth c H locs cells slots Q (F0 m pc ls (.int x :: .ref (b 0) :: rest)) :=
  va_put (D := (dC, dI)) (ci := 3) (v := .int x) (ty := .int) (C := R_M) (T := T_M) (N := 2) hx hb hts in_M ty_M tk_M nm_M hown hK hP hD hS 0 rfl rfl 1 (by decide) (hts _ hk) (fun _ h9 => h9) rfl (by decide +kernel) rfl rfl (Nat.le_of_ble_eq_true rfl) hdg (fun H1 locs1 h1 h2 h3 => kk H1 locs1 h1 h2 h3)
end MST
