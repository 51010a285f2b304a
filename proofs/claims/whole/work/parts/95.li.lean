/-! THE INVARIANT HOLDS: call by call -/
section
variable {N E : Mm} {W : Nat → Int32} {F : Nat → Nat → Bool} {t : Nat}
theorem li_sok (hI : Iv t N E W F) : sok N ∧ ∀ k, k < 13 → ∃ w, w < 13 ∧ N 5 k = nI w := by
  obtain ⟨A, Vn, dn, ch, fl, sl, ag, h1, h2, -⟩ := hI
  exact ⟨sok_of h1 h2, fun k hk => ⟨A 8 k, (h2.1.2.1 k hk).1, h1.2.2.2.2.2.1 k hk⟩⟩
theorem li_next (hI : Iv t N E W F) : Iv (t + 1) N E W F := by
  obtain ⟨A, Vn, dn, ch, fl, sl, ag, h1, h2, h3, h4, h5, h6⟩ := hI
  exact ⟨A, Vn, dn, ch, fl, sl, ag, h1, h2, h3, by omega, h5, h6⟩
theorem li_const {i : Nat} {b : Bool} (hI : Iv t N E W F) (hi : i < 32) : Iv (t + 1) (j_put N W (nI i) (zb b)) E (upd W (cl i) (zb b)) (fp F i 4096 (fun _ => b)) := by
  obtain ⟨A, Vn, dn, ch, fl, sl, ag, h1, h2, h3, h4, h5, h6⟩ := hI
  rw [zb_n]
  refine (I_put (t := t) h1 h2 h3 (by omega) h5 h6 hi (r := b.toNat) (Or.inl (Bool.toNat_le b)) (new := fun _ => b) (fun w _ => ?_)).1
  obtain ⟨-, -, e0, e1⟩ := h2.2.1.2.1
  cases b
  · show dn 0 _ = false
    rw [e0]
  · show dn 1 _ = true
    rw [e1]
theorem li_var {i v : Nat} {N' : Mm} {r : Int32} (hI : Iv t N E W F) (ht : t < 512) (hi : i < 32) (hv : v < 12) (hj : j_make (j_makeRoom N 1) (nI v) 0 1 = (N', r)) : Iv (t + 1) (j_put N' W (nI i) r) (j_forget E) (upd W (cl i) r) (fp F i 4096 (fun w => w.testBit v)) ∧ N' 0 0 = j_makeRoom N 1 0 0 ∧ rmN N ≤ rmN N' := by
  obtain ⟨A, V, dn, ch, fl, sl, ag, a1, a2, a3, a4, a5, a6, a7, a8, a9⟩ := I_begin hI ht (need := 1) (by omega)
  rw [show (1 : Int32) = nI 1 from rfl, show (0 : Int32) = nI 0 from rfl] at hj
  have lv := lp_lt a2.1 hv
  obtain ⟨-, -, e0, e1⟩ := a2.2.1.2.1
  have z0 : A 7 (A 0 0) = 12 := by rw [a2.2.1.2.1.1, a2.1.2.2]
  have z1 : A 7 (A 0 1) = 12 := by rw [a2.2.1.2.1.2.1, a2.1.2.2]
  obtain ⟨N1, A1, V1, dn1, ch1, fl1, q, b1, b2, b3, b4, b5, b6, b7, -⟩ := make_spec a1 a2 (v := v) (low := 0) (high := 1) hv (fun _ z => by cases z) (Or.inl (by omega)) (Or.inl (by omega)) rfl rfl (by omega) (by omega) (fun _ _ _ _ _ => by omega)
  obtain ⟨e2, e3⟩ := pe2 (b1.symm.trans hj)
  subst e2; subst e3
  refine ⟨(I_put (t := t) b2 b3 (a3 _) a4 (by rw [b4.2.2.2.2]; exact a5) (slots_grow a2 b4 a9) hi b5 (fun w hw => ?_)).1, room_e a1 b2 b4.2.2.2.1, by rw [rm_of b2, b4.2.2.2.1]; exact a8⟩
  rw [b7, e0, e1]
  show (bif w.testBit v then true else false) = w.testBit v
  cases w.testBit v <;> rfl
theorem li_choose {i f1 f2 f3 : Nat} {N' E' : Mm} {r : Int32} (hI : Iv t N E W F) (ht : t < 512) (hi : i < 32) (hf1 : f1 < 32) (hf2 : f2 < 32) (hf3 : f3 < 32) (hj : j_pick 12 (j_makeRoom N 765) (j_forget E) (W (cl f1)) (W (cl f2)) (W (cl f3)) = (N', E', r)) : Iv (t + 1) (j_put N' W (nI i) r) E' (upd W (cl i) r) (fp F i 4096 (fun w => if F f1 w then F f2 w else F f3 w)) ∧ N' 0 0 = j_makeRoom N 765 0 0 ∧ rmN N ≤ rmN N' ∧ (r = W (cl i) ↔ dif (F i) (fun w => if F f1 w then F f2 w else F f3 w) 4096 = false) := by
  obtain ⟨A, V, dn, ch, fl, sl, ag, a1, a2, a3, a4, a5, a6, a7, a8, a9⟩ := I_begin hI ht (need := 765) (by omega)
  rw [cl_e hf1, cl_e hf2, cl_e hf3, (a9 f1 hf1).1, (a9 f2 hf2).1, (a9 f3 hf3).1, show (765 : Int32) = nI 765 from rfl] at hj
  obtain ⟨N1, E1, A1, V1, dn1, ch1, fl1, q, b1, b2, b3, b4, b5, b6, b7, -⟩ := pick_12 a1 a2 (a3 _) (slot_vl a2 hf1) (slot_vl a2 hf2) (slot_vl a2 hf3) (by omega)
  obtain ⟨e1, e2, e3⟩ := pe3 (b1.symm.trans hj)
  subst e1; subst e2; subst e3
  obtain ⟨k1, k2⟩ := I_put (t := t) b2 b3 (me_mono b4 (fun _ _ _ _ _ => trivial)) a4 (by rw [b5.2.2.2.2]; exact a5) (slots_grow a2 b5 a9) hi b6 (new := fun w => if F f1 w then F f2 w else F f3 w) (fun w hw => by
    rw [b7]
    show (bif dn (sl f1) _ then dn (sl f2) _ else dn (sl f3) _) = _
    rw [(a9 f1 hf1).2 w hw, (a9 f2 hf2).2 w hw, (a9 f3 hf3).2 w hw]
    cases F f1 w <;> rfl)
  exact ⟨k1, room_e a1 b2 b5.2.2.2.1, by rw [rm_of b2, b5.2.2.2.1]; exact a8, k2⟩
theorem li_join {i k f1 f2 : Nat} {N' E' : Mm} {r : Int32} (hI : Iv t N E W F) (ht : t < 512) (hi : i < 32) (hk : k < 5) (hf1 : f1 < 32) (hf2 : f2 < 32) (hj : j_joined k (j_makeRoom N 1530) (j_forget E) (W (cl f1)) (W (cl f2)) = (N', E', r)) : Iv (t + 1) (j_put N' W (nI i) r) E' (upd W (cl i) r) (fp F i 4096 (fun w => jn k (F f1 w) (F f2 w))) ∧ N' 0 0 = j_makeRoom N 1530 0 0 ∧ rmN N ≤ rmN N' ∧ (r = W (cl i) ↔ dif (F i) (fun w => jn k (F f1 w) (F f2 w)) 4096 = false) := by
  obtain ⟨A, V, dn, ch, fl, sl, ag, a1, a2, a3, a4, a5, a6, a7, a8, a9⟩ := I_begin hI ht (need := 1530) (by omega)
  rw [cl_e hf1, cl_e hf2, (a9 f1 hf1).1, (a9 f2 hf2).1, show (1530 : Int32) = nI 1530 from rfl] at hj
  have v1 := slot_vl a2 hf1
  have v2 := slot_vl a2 hf2
  have w0 : ∀ V : Nat → Bool, vl V 0 := fun _ => Or.inl (by omega)
  have w1 : ∀ V : Nat → Bool, vl V 1 := fun _ => Or.inl (by omega)
  obtain ⟨-, -, e0, e1⟩ := a2.2.1.2.1
  have fin : ∀ (N1 E1 : Mm) (A1 : Am) (V1 : Nat → Bool) (dn1 : Nat → Bf) (ch1 : Nat → List Nat) (fl1 : List Nat) (q : Nat), (N1, E1, nI q) = (N', E', r) → mr N1 A1 → tn A1 V1 dn1 ch1 fl1 (ex sl) → me E1 ag (fun _ _ _ _ => True) → grow A V dn A1 V1 dn1 → vl V1 q → (∀ w, w < 4096 → dn1 q (fun v => w.testBit v) = jn k (F f1 w) (F f2 w)) →
      Iv (t + 1) (j_put N' W (nI i) r) E' (upd W (cl i) r) (fp F i 4096 (fun w => jn k (F f1 w) (F f2 w))) ∧ N' 0 0 = j_makeRoom N 1530 0 0 ∧ rmN N ≤ rmN N' ∧ (r = W (cl i) ↔ dif (F i) (fun w => jn k (F f1 w) (F f2 w)) 4096 = false) := by
    intro N1 E1 A1 V1 dn1 ch1 fl1 q hq b2 b3 b4 b5 b6 b7
    obtain ⟨e1, e2, e3⟩ := pe3 hq
    subst e1; subst e2; subst e3
    obtain ⟨k1, k2⟩ := I_put (t := t) b2 b3 b4 a4 (by rw [b5.2.2.2.2]; exact a5) (slots_grow a2 b5 a9) hi b6 (new := fun w => jn k (F f1 w) (F f2 w)) b7
    exact ⟨k1, room_e a1 b2 b5.2.2.2.1, by rw [rm_of b2, b5.2.2.2.1]; exact a8, k2⟩
  have one : ∀ (x y z : Nat), vl V x → vl V y → vl V z → j_pick 12 (j_makeRoom N (nI 1530)) (j_forget E) (nI x) (nI y) (nI z) = (N', E', r) → (∀ w, w < 4096 → itf (dn x) (dn y) (dn z) (fun v => w.testBit v) = jn k (F f1 w) (F f2 w)) → Iv (t + 1) (j_put N' W (nI i) r) E' (upd W (cl i) r) (fp F i 4096 (fun w => jn k (F f1 w) (F f2 w))) ∧ N' 0 0 = j_makeRoom N 1530 0 0 ∧ rmN N ≤ rmN N' ∧ (r = W (cl i) ↔ dif (F i) (fun w => jn k (F f1 w) (F f2 w)) 4096 = false) := by
    intro x y z x1 y1 z1 hp hw
    obtain ⟨N1, E1, A1, V1, dn1, ch1, fl1, q, b1, b2, b3, b4, b5, b6, b7, -⟩ := pick_12 a1 a2 (a3 _) x1 y1 z1 (by omega)
    exact fin N1 E1 A1 V1 dn1 ch1 fl1 q (b1.symm.trans hp) b2 b3 (me_mono b4 (fun _ _ _ _ _ => trivial)) b5 b6 (fun w h => by rw [b7]; exact hw w h)
  unfold j_joined at hj
  rcases (show k = 0 ∨ k = 1 ∨ k = 2 ∨ k = 3 ∨ k = 4 by omega) with c | c | c | c | c
  · subst c
    rw [if_pos rfl, show (0 : Int32) = nI 0 from rfl] at hj
    refine one _ _ _ v1 v2 (w0 _) hj (fun w hw => ?_)
    show (bif dn (sl f1) _ then dn (sl f2) _ else dn 0 _) = (F f1 w && F f2 w)
    rw [(a9 f1 hf1).2 w hw, (a9 f2 hf2).2 w hw, e0]
    cases F f1 w <;> rfl
  · subst c
    rw [if_neg (by omega), if_pos rfl, show (1 : Int32) = nI 1 from rfl] at hj
    refine one _ _ _ v1 (w1 _) v2 hj (fun w hw => ?_)
    show (bif dn (sl f1) _ then dn 1 _ else dn (sl f2) _) = (F f1 w || F f2 w)
    rw [(a9 f1 hf1).2 w hw, (a9 f2 hf2).2 w hw, e1]
    cases F f1 w <;> rfl
  · subst c
    rw [if_neg (by omega), if_neg (by omega), if_pos rfl, show (0 : Int32) = nI 0 from rfl, show (1 : Int32) = nI 1 from rfl] at hj
    obtain ⟨N1, E1, A1, V1, dn1, ch1, fl1, q, b1, b2, b3, b4, b5, b6, b7, b8⟩ := pick_12 a1 a2 (a3 _) v2 (w0 _) (w1 _) (by omega)
    rw [b1] at hj
    dsimp only at hj
    obtain ⟨x1, x2, -⟩ := b5.1 _ v1
    obtain ⟨y1, y2, -⟩ := b5.1 _ v2
    obtain ⟨N2, E2, A2, V2, dn2, ch2, fl2, q2, c1, c2, c3, c4, c5, c6, c7, -⟩ := pick_12 b2 b3 b4 x1 b6 y1 (by rw [b5.2.2.2.1]; omega)
    refine fin N2 E2 A2 V2 dn2 ch2 fl2 q2 (c1.symm.trans hj) c2 c3 (me_mono c4 (fun _ _ _ _ _ => trivial)) (grow_tr b5 c5) c6 (fun w hw => ?_)
    rw [c7, b7, x2, y2]
    show (bif dn (sl f1) _ then (bif dn (sl f2) _ then dn 0 _ else dn 1 _) else dn (sl f2) _) = (F f1 w != F f2 w)
    rw [(a9 f1 hf1).2 w hw, (a9 f2 hf2).2 w hw, e0, e1]
    cases F f1 w <;> cases F f2 w <;> rfl
  · subst c
    rw [if_neg (by omega), if_neg (by omega), if_neg (by omega), if_pos rfl, show (0 : Int32) = nI 0 from rfl] at hj
    refine one _ _ _ v2 (w0 _) v1 hj (fun w hw => ?_)
    show (bif dn (sl f2) _ then dn 0 _ else dn (sl f1) _) = (F f1 w && !F f2 w)
    rw [(a9 f1 hf1).2 w hw, (a9 f2 hf2).2 w hw, e0]
    cases F f1 w <;> cases F f2 w <;> rfl
  · subst c
    rw [if_neg (by omega), if_neg (by omega), if_neg (by omega), if_neg (by omega), show (0 : Int32) = nI 0 from rfl, show (1 : Int32) = nI 1 from rfl] at hj
    refine one _ _ _ v1 (w0 _) (w1 _) hj (fun w hw => ?_)
    show (bif dn (sl f1) _ then dn 0 _ else dn 1 _) = !F f1 w
    rw [(a9 f1 hf1).2 w hw, e0, e1]
    cases F f1 w <;> rfl
theorem li_some {i f1 f2 k : Nat} {N1 E1 N' E' : Mm} {r1 r : Int32} (hI : Iv t N E W F) (ht : t < 512) (hi : i < 32) (hf1 : f1 < 32) (hf2 : f2 < 32) (hk : k < 4096) (hj1 : j_pick 12 (j_makeRoom N 3323) (j_forget E) (W (cl f1)) (W (cl f2)) 0 = (N1, E1, r1)) (hj2 : j_freed (nI k) 12 N1 E1 r1 = (N', E', r)) :
    Iv (t + 1) (j_put N' W (nI i) r) E' (upd W (cl i) r) (fp F i 4096 (fun w => sm (4095 ^^^ k) (fun w => F f1 w && F f2 w) 4096 (w &&& (4095 ^^^ k)))) ∧ N' 0 0 = j_makeRoom N 3323 0 0 ∧ rmN N ≤ rmN N' ∧ (r = W (cl i) ↔ dif (F i) (fun w => sm (4095 ^^^ k) (fun w => F f1 w && F f2 w) 4096 (w &&& (4095 ^^^ k))) 4096 = false) := by
  obtain ⟨A, V, dn, ch, fl, sl, ag, a1, a2, a3, a4, a5, a6, a7, a8, a9⟩ := I_begin hI ht (need := 3323) (by omega)
  rw [cl_e hf1, cl_e hf2, (a9 f1 hf1).1, (a9 f2 hf2).1, show (3323 : Int32) = nI 3323 from rfl, show (0 : Int32) = nI 0 from rfl] at hj1
  have v1 := slot_vl a2 hf1
  have v2 := slot_vl a2 hf2
  obtain ⟨-, -, e0, -⟩ := a2.2.1.2.1
  have bd := bud_12
  have cd := cud_12
  obtain ⟨M1, G1, A1, V1, dn1, ch1, fl1, q, b1, b2, b3, b4, b5, b6, b7, b8⟩ := pick_spec (ext := ex sl) (ag := ag) (X := fx_P k) (fun V dn a b c r hX => hX.1) (fun A V dn A' V' dn' a b c r hg hX => FX_grow hg hX) 12 _ _ A V dn ch fl (sl f1) (sl f2) 0 a1 a2 (a3 _) v1 v2 (Or.inl (by omega)) (by omega) (by omega) (by omega) (by rw [bd]; omega)
  obtain ⟨z1, z2, z3⟩ := pe3 (b1.symm.trans hj1)
  subst z1; subst z2; subst z3
  rw [bd] at b8
  obtain ⟨M2, G2, A2, V2, dn2, ch2, fl2, q2, c1, c2, c3, c4, c5, c6, c7, -⟩ := freed_spec (ext := ex sl) (ag := ag) hk 12 _ _ A1 V1 dn1 ch1 fl1 q b2 b3 b4 b6 (by omega) (by rw [b5.2.2.2.1]; omega)
  obtain ⟨z1, z2, z3⟩ := pe3 (c1.symm.trans hj2)
  subst z1; subst z2; subst z3
  have hg := grow_tr b5 c5
  have hq : ∀ x, x < 4096 → dn1 q (fun v => x.testBit v) = (F f1 x && F f2 x) := fun x hx => by
    rw [b7]
    show (bif dn (sl f1) _ then dn (sl f2) _ else dn 0 _) = _
    rw [(a9 f1 hf1).2 x hx, (a9 f2 hf2).2 x hx, e0]
    cases F f1 x <;> rfl
  have nmb : ∀ j, j < 12 → (4095 ^^^ k).testBit j = !k.testBit j := fun j hj => by
    rw [Nat.testBit_xor, show (4095 : Nat) = 2 ^ 12 - 1 from rfl, Nat.testBit_two_pow_sub_one, decide_eq_true hj, Bool.true_xor]
  have nml : 4095 ^^^ k < 4096 := Nat.xor_lt_two_pow (n := 12) (by decide) hk
  obtain ⟨k1, k2⟩ := I_put (t := t) c2 c3 (me_mono c4 (fun _ _ _ _ _ => trivial)) a4 (by rw [hg.2.2.2.2]; exact a5) (slots_grow a2 hg a9) hi c6 (new := fun w => sm (4095 ^^^ k) (fun w => F f1 w && F f2 w) 4096 (w &&& (4095 ^^^ k))) (fun w hw => by
    rw [c7, Bool.eq_iff_iff, exq_t]
    unfold sm
    rw [any_t]
    constructor
    · rintro ⟨b, p1, p2⟩
      have hx := tbc_lt 12 b
      refine ⟨tbc b 12, hx, ?_⟩
      dsimp only
      rw [Bool.and_eq_true, ← hq _ hx, ← tn_tb b3 b6 b, p2, beq_iff_eq]
      refine ⟨Nat.eq_of_testBit_eq (fun j => ?_), rfl⟩
      rw [Nat.testBit_and, Nat.testBit_and]
      by_cases cj : j < 12
      · rw [tbc_bit 12 b j cj, nmb j cj]
        cases c : k.testBit j
        · rw [p1 j c]
        · rw [Bool.not_true, Bool.and_false, Bool.and_false]
      · rw [tb_lt nml (by omega), Bool.and_false, Bool.and_false]
    · rintro ⟨x, hx, p⟩
      dsimp only at p
      rw [Bool.and_eq_true, beq_iff_eq, ← hq x hx] at p
      refine ⟨fun v => x.testBit v, fun u hu => ?_, p.2⟩
      show x.testBit u = w.testBit u
      by_cases cu : u < 12
      · have := congrArg (fun y => Nat.testBit y u) p.1
        simp only [Nat.testBit_and] at this
        rw [nmb u cu, hu, Bool.not_false, Bool.and_true, Bool.and_true] at this
        exact this
      · rw [tb_lt hx (by omega), tb_lt hw (by omega)])
  exact ⟨k1, room_e a1 c2 hg.2.2.2.1, by rw [rm_of c2, hg.2.2.2.1]; exact a8, k2⟩
theorem li_turn {i f1 : Nat} {E9 N' : Mm} {m1 r : Int32} (hI : Iv t N E W F) (ht : t < 512) (hi : i < 32) (hf1 : f1 < 32) (hj1 : j_hang 12 (j_makeRoom N 765) (j_forget E) (W (cl f1)) = (E9, m1)) (hj2 : j_turn m1 12 (j_makeRoom N 765) (W (cl f1)) 0 0 0 = (N', r)) :
    Iv (t + 1) (j_put N' W (nI i) r) E9 (upd W (cl i) r) (fp F i 4096 (fun w => F f1 (tw w))) ∧ N' 0 0 = j_makeRoom N 765 0 0 ∧ rmN N ≤ rmN N' ∧ (r = W (cl i) ↔ dif (F i) (fun w => F f1 (tw w)) 4096 = false) := by
  obtain ⟨A, V, dn, ch, fl, sl, ag, a1, a2, a3, a4, a5, a6, a7, a8, a9⟩ := I_begin hI ht (need := 765) (by omega)
  rw [cl_e hf1, (a9 f1 hf1).1, show (765 : Int32) = nI 765 from rfl] at hj1 hj2
  have v1 := slot_vl a2 hf1
  have bd := bud_12
  obtain ⟨G1, m, b1, b2, b3, b4⟩ := hang_spec a1 a2 (ag := ag) 12 (j_forget E) (sl f1) (a3 _) v1 (by omega)
  obtain ⟨z1, z2⟩ := pe2 (b1.symm.trans hj1)
  subst z1; subst z2
  rw [show (0 : Int32) = nI 0 from rfl] at hj2
  obtain ⟨M2, A2, V2, dn2, ch2, fl2, q2, c1, c2, c3, c4, c5, c6, -⟩ := turn_spec (ext := ex sl) b3 12 _ A V dn ch fl (sl f1) 0 0 0 a1 a2 v1 (by omega) (by omega) (by omega) (by rw [bd]; omega) (fun u hu q => by
      rcases Classical.em (ind (dn (sl f1)) u) with z | z
      · exact z
      · have := (b4 u hu).mpr z
        rw [q] at this; cases this) (fun u _ _ q => by omega) (fun u _ q => by rw [Nat.zero_testBit] at q; cases q) (fun u q => by rw [Nat.zero_testBit] at q; cases q)
  obtain ⟨z1, z2⟩ := pe2 (c1.symm.trans hj2)
  subst z1; subst z2
  obtain ⟨k1, k2⟩ := I_put (t := t) c2 c3 (me_mono b2 (fun _ _ _ _ _ => trivial)) a4 (by rw [c4.2.2.2.2]; exact a5) (slots_grow a2 c4 a9) hi c5 (new := fun w => F f1 (tw w)) (fun w hw => by
    rw [c6, ← (a9 f1 hf1).2 _ (tw_lt w)]
    refine gi_same a2.2.1 a2.1 v1 (fun x hx _ => ?_)
    show kw 0 0 (fun v => w.testBit v) x = (tw w).testBit x
    unfold kw
    rw [if_neg (by rw [Nat.zero_testBit]; exact Bool.false_ne_true), tw_bit hx])
  exact ⟨k1, room_e a1 c2 c4.2.2.2.1, by rw [rm_of c2, c4.2.2.2.1]; exact a8, k2⟩
theorem li_value {i w : Nat} (hI : Iv t N E W F) (hi : i < 32) (hw : w < 4096) : j_truthFor N (W (cl i)) (nI w) = zb (F i w) := by
  obtain ⟨A, Vn, dn, ch, fl, sl, ag, h1, h2, h3, h4, h5, h6⟩ := hI
  rw [cl_e hi, (h6 i hi).1, truth_spec h1 h2 (by omega) (slot_vl h2 hi), (h6 i hi).2 w hw, zb_n]
theorem li_same {i f1 : Nat} (hI : Iv t N E W F) (hi : i < 32) (hf1 : f1 < 32) : W (cl i) = W (cl f1) ↔ dif (F i) (F f1) 4096 = false := by
  obtain ⟨A, Vn, dn, ch, fl, sl, ag, h1, h2, h3, h4, h5, h6⟩ := hI
  rw [cl_e hi, cl_e hf1, (h6 i hi).1, (h6 f1 hf1).1, nI_qq (tn_lt h2 (slot_vl h2 hi)) (tn_lt h2 (slot_vl h2 hf1)), dfx_f]
  constructor
  · intro q w hw
    rw [← (h6 i hi).2 w hw, ← (h6 f1 hf1).2 w hw, q]
  · intro q
    exact tn_eq h2 (slot_vl h2 hi) (slot_vl h2 hf1) (fun w hw => by rw [(h6 i hi).2 w hw, (h6 f1 hf1).2 w hw, q w hw])
theorem li_hang {i : Nat} {E' : Mm} {r : Int32} (hI : Iv t N E W F) (ht : t < 512) (hi : i < 32) (hj : j_hang 12 N (j_forget E) (W (cl i)) = (E', r)) : Iv (t + 1) N E' W F ∧ r = hgI (F i) 12 := by
  obtain ⟨A, Vn, dn, ch, fl, sl, ag, h1, h2, h3, h4, h5, h6⟩ := hI
  rw [cl_e hi, (h6 i hi).1] at hj
  obtain ⟨G1, m, b1, b2, b3, b4⟩ := hang_spec h1 h2 (ag := ag + 1) 12 (j_forget E) (sl i) (me_forget h3 (by omega)) (slot_vl h2 hi) (by omega)
  obtain ⟨z1, z2⟩ := pe2 (b1.symm.trans hj)
  subst z1; subst z2
  exact ⟨⟨A, Vn, dn, ch, fl, sl, ag + 1, h1, h2, me_mono b2 (fun _ _ _ _ _ => trivial), by omega, h5, h6⟩, hang_hg h2 (slot_vl h2 hi) (h6 i hi).2 b3 b4⟩
theorem li_count {i : Nat} (hI : Iv t N E W F) (hi : i < 32) (hh : hgI (F i) 12 &&& 2730 = 0) : j_countL N (W (cl i)) 64 0 0 = nI (cntb (F i) 4096 / 64) := by
  obtain ⟨A, Vn, dn, ch, fl, sl, ag, h1, h2, h3, h4, h5, h6⟩ := hI
  rw [cl_e hi, (h6 i hi).1]
  exact count_spec h1 h2 (slot_vl h2 hi) (h6 i hi).2 hh
theorem li_tidy {x : Nat} (hI : Iv t N E W F) : Iv (t + 1) (j_tidy N (nI x)) E W F ∧ rmN N ≤ rmN (j_tidy N (nI x)) ∧ sok (j_collect N) ∧ j_notFalse W 32 0 0 = nI (cntb (fun a => anyb (F a) 4096) 32) := by
  obtain ⟨A, Vn, dn, ch, fl, sl, ag, h1, h2, h3, h4, h5, h6⟩ := hI
  obtain ⟨A', V', ch', fl', y1, y2, y3, y4, y5, y6, y7⟩ := collect_spec (dn := dn) (ex_le sl) h1 h2
  have sk := sok_of y1 y2
  have rc : rmN (j_collect N) = rmN N := by rw [rm_of y1, rm_of h1, y6]
  refine ⟨?_, ?_, sk, ?_⟩
  · obtain ⟨B, Vb, db, cb, fb, b1, b2, b3, b4, b5⟩ := wk_tidy h1 h2 h5 (nI x)
    refine ⟨B, Vb, db, cb, fb, sl, ag, b1, b2, h3, by omega, b4, fun s hs => ⟨(h6 s hs).1, fun w hw => ?_⟩⟩
    rw [b5 (sl s) (Or.inr (ex_pos hs))]
    exact (h6 s hs).2 w hw
  · rw [← rc]
    unfold j_tidy
    by_cases c1 : nI x = 1
    · rw [if_pos c1]; exact (seek_sle _ 12 _ _ sk).2
    · rw [if_neg c1]
      by_cases c2 : nI x = 2
      · rw [if_pos c2]; exact (trO_sle 11 _ sk (by omega)).2
      · rw [if_neg c2]; exact Nat.le_refl _
  · exact notFalse_spec h2 (fun s hs => slot_vl h2 hs) (fun s hs => (h6 s hs).1) (fun s hs => (h6 s hs).2) 32 0 (by omega)
theorem li_wrong (hI : Iv t N E W F) : j_faults N = 0 := by
  obtain ⟨A, Vn, dn, ch, fl, sl, ag, h1, h2, -⟩ := hI
  exact faults_spec h1 h2
end
/-! THE START -/
def A0 : Am := fun f i => if f = 0 then (if i ≤ 1 then 12 else 0) else if f = 7 then i else if f = 8 then i else if f = 9 then (if i = 0 then 1024 else if i = 1 then 2 else if i = 4 then 1024 else 0) else 0
theorem mr_0 : mr N0 A0 := by
  refine ⟨fun j hj => ?_, fun f hf i hi h2 => ?_, fun c hc => ?_, fun v hv => ?_, fun v hv => ?_, fun k hk => ?_, ?_, ?_⟩
  · rcases (show j = 0 ∨ j = 1 ∨ j = 2 ∨ j = 3 ∨ j = 4 by omega) with e | e | e | e | e <;> subst e <;> rfl
  · show upd (upd (fun _ => 0) (0 : Int32).toNatClampNeg 12) (5 : Int32).toNatClampNeg 12 (5 * i + f) = nI (A0 f i)
    rw [show (0 : Int32).toNatClampNeg = 0 from by decide, show (5 : Int32).toNatClampNeg = 5 from by decide]
    unfold upd A0
    by_cases c0 : f = 0
    · subst c0
      rw [if_pos rfl]
      by_cases c1 : i = 1
      · subst c1; rfl
      · rw [if_neg (by omega)]
        by_cases c2 : i = 0
        · subst c2; rfl
        · rw [if_neg (by omega), if_neg (by omega)]; rfl
    · rw [if_neg (by omega), if_neg (by omega), if_neg c0, if_neg (by omega), if_neg (by omega), if_neg (by omega)]; rfl
  · rfl
  · rfl
  · show lv0 13 v = nI v
    unfold lv0
    rw [if_pos hv]
  · show lv0 13 k = nI k
    unfold lv0
    rw [if_pos hk]
  · decide
  · decide
theorem li_0 : Iv 0 N0 E0 (fun _ => 0) (fun _ _ => false) := by
  have ez : ∀ i, 2 ≤ i → ex (fun _ => 0) i = 0 := fun i hi => pc_none (fun j _ => by
    show ((0 : Nat) == i) = false
    rw [beq_eq_false_iff_ne]; omega)
  refine ⟨A0, fun _ => false, fun i => if i = 1 then (fun _ => true) else (fun _ => false), fun _ => [], [], fun _ => 0, 1, mr_0, ⟨⟨fun v hv => ⟨hv, rfl⟩, fun k hk => ⟨hk, rfl⟩, rfl⟩, ⟨(fun i q => absurd q Bool.false_ne_true), ⟨rfl, rfl, rfl, rfl⟩, (fun i q => absurd q Bool.false_ne_true), fun i j hi hj e => ?_, (fun i q => absurd q Bool.false_ne_true), (fun i q => absurd q Bool.false_ne_true)⟩, fun c _ => ⟨rfl, List.nodup_nil, fun i => ⟨(fun q => absurd q List.not_mem_nil), (fun q => absurd q.1 Bool.false_ne_true)⟩⟩, ⟨rfl, List.nodup_nil, fun i => ⟨(fun q => absurd q List.not_mem_nil), fun q => ?_⟩⟩, (fun i q => absurd q Bool.false_ne_true), ⟨by decide, by decide, by decide⟩, ?_, (fun i q => absurd q Bool.false_ne_true), fun v hv => ?_, fun i q2 _ => ez i q2⟩, ⟨rfl, by decide, fun q hq => ⟨⟨0, by omega, rfl⟩, fun _ => trivial⟩⟩, by omega, by decide, fun s _ => ⟨rfl, fun w _ => rfl⟩⟩
  · have vi : i ≤ 1 := by
      rcases hi with z | z
      · exact z
      · cases z
    have vj : j ≤ 1 := by
      rcases hj with z | z
      · exact z
      · cases z
    rcases (show i = 0 ∨ i = 1 by omega) with a | a <;> rcases (show j = 0 ∨ j = 1 by omega) with b | b
    · rw [a, b]
    · subst a; subst b
      have := congrFun e (fun _ => false)
      exact absurd this (by decide)
    · subst a; subst b
      have := congrFun e (fun _ => false)
      exact absurd this (by decide)
    · rw [a, b]
  · have q2 : i < 2 := q.2.1
    omega
  · show 0 = pc_cnt (fun _ => false) 24800
    exact (pc_none (fun _ _ => rfl)).symm
  · show 0 = pc_cnt (fun j => false && (!nT j && A0 0 j == v)) 24800
    exact (pc_none (fun _ _ => rfl)).symm
theorem inv_LI : LI Iv :=
  ⟨li_0, fun _ _ _ _ _ h => li_sok h, fun _ _ _ _ _ h => li_next h, fun _ _ _ _ _ _ _ h _ hi => li_const h hi, fun _ _ _ _ _ _ _ _ _ h ht hi hv hj => li_var h ht hi hv hj,
   fun _ _ _ _ _ _ _ _ _ _ _ _ h ht hi h1 h2 h3 hj => li_choose h ht hi h1 h2 h3 hj, fun _ _ _ _ _ _ _ _ _ _ _ _ h ht hi hk h1 h2 hj => li_join h ht hi hk h1 h2 hj,
   fun _ _ _ _ _ _ _ _ _ _ _ _ _ _ _ h ht hi h1 h2 hk hj1 hj2 => li_some h ht hi h1 h2 hk hj1 hj2, fun _ _ _ _ _ _ _ _ _ _ _ h ht hi h1 hj1 hj2 => li_turn h ht hi h1 hj1 hj2,
   fun _ _ _ _ _ _ _ h hi hw => li_value h hi hw, fun _ _ _ _ _ _ _ h hi h1 => li_same h hi h1, fun _ _ _ _ _ _ _ _ h ht hi hj => li_hang h ht hi hj, fun _ _ _ _ _ _ h hi hh => li_count h hi hh, fun _ _ _ _ _ _ h _ _ => li_tidy h, fun _ _ _ _ _ h => li_wrong h⟩
