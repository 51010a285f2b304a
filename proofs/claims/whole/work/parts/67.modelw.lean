/-! THE REFERENCE: its world. F i w: what slot i's function gives at the way w; g, h: the two rows that it works with. -/
def zb (b : Bool) : Int32 := if b then 1 else 0
theorem zb_t : zb true = 1 := rfl
theorem zb_f : zb false = 0 := rfl
theorem zb_0 {b : Bool} : zb b = 0 ↔ b = false := by cases b <;> decide
theorem zb_n0 {b : Bool} (h : ¬ zb b = 0) : b = true := by revert h; cases b <;> decide
theorem zb_q {a b : Bool} : zb a = zb b ↔ a = b := by cases a <;> cases b <;> decide
theorem zb_nar (b : Bool) : vp_nar .boolean (zb b) = zb b := by cases b <;> rfl
theorem zb_nw (b : Bool) : narrow .boolean (.int (zb b)) = .int (zb b) := by cases b <;> rfl
def rI (F : Nat → Nat → Bool) : Nat → Int32 := fun k => zb (F (k / 4096) (k % 4096))
def mI (g : Nat → Bool) : Nat → Int32 := fun k => zb (g k)
def fp (F : Nat → Nat → Bool) (i n : Nat) (g : Nat → Bool) : Nat → Nat → Bool := fun a w => if a = i ∧ w < n then g w else F a w
def gp (g : Nat → Bool) (n : Nat) (f : Nat → Bool) : Nat → Bool := fun w => if w < n then f w else g w
/-- two functions differ below n -/
def dif (f g : Nat → Bool) : Nat → Bool
  | 0 => false
  | n + 1 => dif f g n || (f n != g n)
def anyb (f : Nat → Bool) : Nat → Bool
  | 0 => false
  | n + 1 => anyb f n || f n
def cntb (f : Nat → Bool) : Nat → Nat
  | 0 => 0
  | n + 1 => cntb f n + (if f n then 1 else 0)
def hgI (f : Nat → Bool) : Nat → Int32
  | 0 => 0
  | n + 1 => if dif f (fun w => f (w ^^^ 2 ^ n)) 4096 then hgI f n ||| ((1 : Int32) <<< (nI n &&& 31)) else hgI f n
theorem ix_e (i w : Nat) : (4096 : Int32) * nI i + nI w = nI (4096 * i + w) := by
  show nI 4096 * nI i + nI w = _
  rw [pk_mul, nI_add]
theorem rI_at (F : Nat → Nat → Bool) {i w : Nat} (hi : i < 32) (hw : w < 4096) : rI F (nI (4096 * i + w)).toNatClampNeg = zb (F i w) := by
  rw [nI_clamp (by omega)]
  unfold rI
  rw [show (4096 * i + w) / 4096 = i by omega, show (4096 * i + w) % 4096 = w by omega]
theorem mI_at (g : Nat → Bool) {w : Nat} (hw : w < 4096) : mI g (nI w).toNatClampNeg = zb (g w) := by
  rw [nI_clamp (by omega)]; rfl
theorem rI_up (F : Nat → Nat → Bool) (g : Nat → Bool) {i n : Nat} (hi : i < 32) (hn : n < 4096) : upd (rI (fp F i n g)) (nI (4096 * i + n)).toNatClampNeg (vp_nar .boolean (zb (g n))) = rI (fp F i (n + 1) g) := by
  rw [nI_clamp (by omega), zb_nar]
  funext k
  unfold upd rI fp
  by_cases h : k = 4096 * i + n
  · rw [if_pos h]
    have h1 : k / 4096 = i := by omega
    have h2 : k % 4096 = n := by omega
    rw [if_pos ⟨h1, by omega⟩, h2]
  · rw [if_neg h]
    by_cases c : k / 4096 = i ∧ k % 4096 < n
    · rw [if_pos c, if_pos ⟨c.1, by omega⟩]
    · rw [if_neg c, if_neg (fun q => c ⟨q.1, by have := q.2; have := q.1; omega⟩)]
theorem mI_up (g f : Nat → Bool) {n : Nat} (hn : n < 4096) : upd (mI (gp g n f)) (nI n).toNatClampNeg (vp_nar .boolean (zb (f n))) = mI (gp g (n + 1) f) := by
  rw [nI_clamp (by omega), zb_nar]
  funext k
  unfold upd mI gp
  by_cases h : k = n
  · rw [if_pos h, if_pos (by omega), h]
  · rw [if_neg h]
    by_cases c : k < n
    · rw [if_pos c, if_pos (by omega)]
    · rw [if_neg c, if_neg (by omega)]
theorem fp_0 (F : Nat → Nat → Bool) (i : Nat) (g : Nat → Bool) : fp F i 0 g = F := by
  funext a w; unfold fp; rw [if_neg (by omega)]
theorem gp_0 (g f : Nat → Bool) : gp g 0 f = g := by
  funext w; unfold gp; rw [if_neg (by omega)]
theorem fp_at (F : Nat → Nat → Bool) (i n : Nat) (g : Nat → Bool) : fp F i n g i n = F i n := by
  unfold fp; rw [if_neg (by omega)]
theorem gp_lt {g f : Nat → Bool} {n w : Nat} (h : w < n) : gp g n f w = f w := if_pos h
abbrev dW (cZ : ClassId) (y : Nat → Nat) (fa : Int32) (F : Nat → Nat → Bool) (g h : Nat → Bool) : va_W := [(y 0, .inr (5, [.int fa, .ref (y 1), .ref (y 2), .ref (y 3)])), (y 1, .inl (cZ, 131072, .inl (rI F))), (y 2, .inl (cZ, 4096, .inl (mI g))), (y 3, .inl (cZ, 4096, .inl (mI h)))]
def dR (dC : Nat → ClassId) (dI : Nat → Nat → Nat) (cZ : ClassId) (y : Nat → Nat) (fa : Int32) (F : Nat → Nat → Bool) (g h : Nat → Bool) (U : State) : Prop := va_P (dC, dI) cls0 (dW cZ y fa F g h) U.heap ∧ va_K (dC, dI) cls0 [(cZ, .boolean)] U
theorem dR_call {dC : Nat → ClassId} {dI : Nat → Nat → Nat} {cZ : ClassId} {y : Nat → Nat} {fa : Int32} {F : Nat → Nat → Bool} {g h : Nat → Bool} (av : List Value) : FrameBlind (va_Pc av (dR dC dI cZ y fa F g h)) := fun a U g mk q => by
  obtain ⟨q0, qP, qK⟩ := q
  exact ⟨q0, qP, va_K.moved (u := U) (U := U.calling g mk a) (Vm.Alike.refl U.vm) qK⟩
def dM (dC : Nat → ClassId) (dI : Nat → Nat → Nat) (cZ : ClassId) (y : Nat → Nat) (fa : Int32) (F : Nat → Nat → Bool) (g h : Nat → Bool) (sz : Nat) (U : State) : Prop := U.heap.size = sz ∧ va_P (dC, dI) cls0 (dW cZ y fa F g h) U.heap ∧ va_K (dC, dI) cls0 [(cZ, .boolean)] U ∧ va_D (fun _ => True) (dW cZ y fa F g h)
theorem dM_call {dC : Nat → ClassId} {dI : Nat → Nat → Nat} {cZ : ClassId} {y : Nat → Nat} {fa : Int32} {F : Nat → Nat → Bool} {g h : Nat → Bool} {sz : Nat} (av : List Value) : FrameBlind (va_Pc av (dM dC dI cZ y fa F g h sz)) := fun a U g mk q => by
  obtain ⟨q0, q1, qP, qK, qD⟩ := q
  exact ⟨q0, q1, qP, va_K.moved (u := U) (U := U.calling g mk a) (Vm.Alike.refl U.vm) qK, qD⟩
def dE (dC : Nat → ClassId) (dI : Nat → Nat → Nat) (cZ : ClassId) (y : Nat → Nat) (fa : Int32) (F : Nat → Nat → Bool) (g h : Nat → Bool) (A : Nat → Prop) (t : State) : Prop := va_P (dC, dI) cls0 (dW cZ y fa F g h) t.heap ∧ va_K (dC, dI) cls0 [(cZ, .boolean)] t ∧ va_D A (dW cZ y fa F g h)
section DCALL
variable {p : Program} {l : Launch} {e : Env} {R : Room} {s : State} {m : MethodId} {args : Array Value} {below : List Frame} {meth : Method} {c : Code} {H H0 : Heap} {locs : List Loc} {cells slots : Nat} {Q : State → Prop} {cc bytes : ByteArray} {pc maxL nL n index : Nat} {ls : Array Slot} {st rest As : List Value} {A0 : Nat → Prop} {yy : MethodName} {cy : Cond} {ret : Option FieldType} {rm : Room} {dC : Nat → ClassId} {dI : Nat → Nat → Nat} {cZ : ClassId} {y : Nat → Nat} {fa fa' : Int32} {F F' : Nat → Nat → Bool} {g h : Nat → Bool} {r : Int32}
theorem dRR (S : CallFix p m c cc nL s args W0 R_R) (hM : Met l yy (cy :: W0) rm (va_Pc (.ref (y 0) :: As) (dR dC dI cZ y fa F g h)) (QcRead r) 0 0 (fun _ => False)) (cw : CallW R s args R_R R_R index yy bytes maxL ret (cy :: W0) rm 0 0 n) (hP : va_P (dC, dI) cls0 (dW cZ y fa F g h) H) (hK : va_K (dC, dI) cls0 [(cZ, .boolean)] s) (hn : As.length = n) (hsz : ls.size = nL) (hst : st = As.reverse ++ .ref (y 0) :: rest) (hW : (rest.map fun v => v.category).sum ≤ 8) (hdg : decode cc pc = .ok (.invokevirtual index, 3)) (hf : cells ≤ R.cells ∧ slots ≤ R.slots)
    (kk : W p l e R s m args below meth c H locs cells slots Q (F0 m (pc + 3) ls (.int r :: rest))) : W p l e R s m args below meth c H locs cells slots Q (F0 m pc ls st) := by
  subst hst
  exact W.callR (W.runV (As := As) (rest := rest) (g := F0 m pc ls (As.reverse ++ .ref (y 0) :: rest)) S hM cw ⟨dR_call _, va_recv hK hP (ci := 5) (q0 := 0) rfl rfl, fun U hU hWu => ⟨rfl, by rw [hU]; exact hP, va_K.moved hWu.alike hK⟩⟩ rfl hn hsz rfl (lv_room hW) hdg hf) kk
theorem dRi (S : CallFix p m c cc nL s args W0 R_R) (hM : Met l yy (cy :: W0) rm (va_Pc (.ref (y 0) :: As) (dM dC dI cZ y fa F g h H.size)) (va_Qi (fun (x : Int32) (_ : Unit) => x = r) (fun _ t => dE dC dI cZ y fa' F' g h (va_A (dW cZ y fa F g h) H.size) t) (va_A (dW cZ y fa F g h) H.size)) 0 0 (va_A (dW cZ y fa F g h) H.size)) (cw : CallW R s args R_R R_R index yy bytes maxL ret (cy :: W0) rm 0 0 n) (hP : va_P (dC, dI) cls0 (dW cZ y fa F g h) H) (hK : va_K (dC, dI) cls0 [(cZ, .boolean)] s) (hD : va_D A0 (dW cZ y fa F g h)) (hS : va_S A0 H0 H locs) (hA : ∀ q, H0.size ≤ q → A0 q) (hn : As.length = n) (hsz : ls.size = nL) (hst : st = As.reverse ++ .ref (y 0) :: rest) (hW : (rest.map fun v => v.category).sum ≤ 8) (hdg : decode cc pc = .ok (.invokevirtual index, 3)) (hf : cells + 0 ≤ R.cells ∧ slots + 0 ≤ R.slots)
    (kk : ∀ (H1 : Heap) (locs1 : List Loc), va_P (dC, dI) cls0 (dW cZ y fa' F' g h) H1 → va_D A0 (dW cZ y fa' F' g h) → va_S A0 H0 H1 locs1 → W p l e R s m args below meth c H1 locs1 cells slots Q (F0 m (pc + 3) ls (.int r :: rest))) : W p l e R s m args below meth c H locs cells slots Q (F0 m pc ls st) := by
  subst hst
  have hFc := va_free (wc := dW cZ y fa F g h) hD hS hA [0, 1, 2, 3] rfl
  refine va_calli (va_runV (As := As) (rest := rest) (g := F0 m pc ls (As.reverse ++ .ref (y 0) :: rest)) S hM cw ⟨dM_call _, va_recv hK hP (ci := 5) (q0 := 0) rfl rfl, fun U hU hWu => ⟨rfl, by rw [hU], by rw [hU]; exact hP, va_K.moved hWu.alike hK, hD.weaken (fun _ _ _ _ => trivial)⟩⟩ rfl hn hsz rfl (lv_room hW) hdg hf) hS (fun q _ h => hFc q h) hFc (fun x u t H1 locs1 ht hvm hw hB hz1 hk1 hS1 => ?_)
  obtain ⟨hP1, hK1, hD1⟩ := hB
  rw [ht] at hP1
  subst hw
  obtain ⟨hP2, hD2⟩ := va_join (wr := []) (w1 := dW cZ y fa' F' g h) hP hD [0, 1, 2, 3] [] rfl rfl (by decide) (by decide) hk1 hFc hP1 hD1
  exact kk H1 locs1 hP2 hD2 hS1
theorem dPut (hx : p.tables.exec = Jvm.exec) (hb : c.code = cc) (hts : ∀ w ∈ W0, w.before args s = true) (hown : s.vm.findClass R_R = some m.cls) (hK : va_K (dC, dI) cls0 [(cZ, .boolean)] s) (hP : va_P (dC, dI) cls0 (dW cZ y fa F g h) H) (hD : va_D A0 (dW cZ y fa F g h)) (hS : va_S A0 H0 H locs) (hdg : decode cc pc = .ok (.putfield 20, 3))
    (kk : ∀ (H1 : Heap) (locs1 : List Loc), va_P (dC, dI) cls0 (dW cZ y r F g h) H1 → va_D A0 (dW cZ y r F g h) → va_S A0 H0 H1 locs1 → W p l e R s m args below meth c H1 locs1 cells slots Q (F0 m (pc + 3) ls rest)) : W p l e R s m args below meth c H locs cells slots Q (F0 m pc ls (.int r :: .ref (y 0) :: rest)) :=
  va_put (D := (dC, dI)) (ci := 5) (v := .int r) (ty := .int) (C := R_R) (T := T_R) (N := 4) hx hb hts in_R ty_R tk_R nm_R hown hK hP hD hS 0 rfl rfl 0 (by decide) (hts _ kfl_R_20) (fun _ h9 => h9) rfl (by decide +kernel) rfl rfl (Nat.le_of_ble_eq_true rfl) hdg (fun H1 locs1 h1 h2 h3 => kk H1 locs1 h1 h2 h3)
end DCALL
