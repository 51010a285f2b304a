/-! turnedFrom -/
theorem x1_lt : ∀ v, v < 12 → v ^^^ 1 < 12 := by decide
theorem x1_x1 (u : Nat) : (u ^^^ 1) ^^^ 1 = u := by rw [Nat.xor_assoc, Nat.xor_self, Nat.xor_zero]
theorem x1_inj {u v : Nat} (h : u ^^^ 1 = v) : u = v ^^^ 1 := by rw [← h, x1_x1]
theorem and_bit {m p : Nat} (hm : m < 4096) : nI m &&& nI (2 ^ p) = 0 ↔ m.testBit p = false := by
  have h1 : m &&& 2 ^ p ≤ m := Nat.and_le_left
  rw [nx_and, show (0 : Int32) = nI 0 from rfl, nI_eq (by omega) (by omega)]
  constructor
  · intro q
    have := congrArg (fun x => Nat.testBit x p) q
    simp only [Nat.testBit_and, Nat.testBit_two_pow_self, Bool.and_true, Nat.zero_testBit] at this
    exact this
  · intro q
    refine Nat.eq_of_testBit_eq (fun i => ?_)
    rw [Nat.testBit_and, Nat.testBit_two_pow, Nat.zero_testBit]
    by_cases c : p = i
    · subst c; rw [q, Bool.false_and]
    · rw [decide_eq_false c, Bool.and_false]
def kw (K W : Nat) (a : Nat → Bool) : Nat → Bool := fun u => if K.testBit u = true then W.testBit u else a (u ^^^ 1)
theorem kw_a {K W : Nat} {a : Nat → Bool} : ∀ u, K.testBit u = true → kw K W a u = W.testBit u := fun u hu => if_pos hu
section
variable {N : Mm} {A : Am} {V : Nat → Bool} {dn : Nat → Bf} {ch : Nat → List Nat} {fl : List Nat} {ext : Nat → Nat}
theorem follow_spec (hm : mr N A) (h : tn A V dn ch fl ext) {K W : Nat} (hK : K < 4096) (hW : W < 4096) : ∀ (n f : Nat), vl V f → 12 ≤ n + A 7 (A 0 f) → ∃ r : Nat, j_followL N (nI K) (nI W) n (nI f) = nI r ∧ vl V r ∧ K.testBit (A 0 r) = false ∧ (∀ u, ind (dn f) u → ind (dn r) u) ∧ (∀ a : Nat → Bool, (∀ u, K.testBit u = true → a u = W.testBit u) → dn r a = dn f a) := by
  have ends : ∀ f, f ≤ 1 → K.testBit (A 0 f) = false := fun f q => by
    rw [gi_end h.2.1 q]; exact tb_lt hK (Nat.le_refl _)
  intro n
  induction n with
  | zero =>
    intro f hf hn
    have hf1 : f ≤ 1 := by
      rcases hf with q | q
      · exact q
      · have := lp_lt h.1 (h.2.1.1 f q).2.1
        omega
    exact ⟨f, rfl, hf, ends f hf1, fun _ q => q, fun _ _ => rfl⟩
  | succ n ih =>
    intro f hf hn
    have va := tn_va h hf
    have estep : j_followL N (nI K) (nI W) (n + 1) (nI f) = (if (nI K >>> (nI (A 0 f) &&& 31)) &&& 1 = 0 then nI f else j_followL N (nI K) (nI W) n (j_get N (nI f) (if (nI W >>> (nI (A 0 f) &&& 31)) &&& 1 = 0 then 1 else 2))) := by
      rw [← asked_spec hm h hf]; rfl
    rw [estep]
    have b1 := bitI (w := K) (v := A 0 f) (by omega) (by omega)
    have b2 := bitI (w := W) (v := A 0 f) (by omega) (by omega)
    by_cases c : K.testBit (A 0 f) = false
    · rw [if_pos (b1.mpr c)]
      exact ⟨f, rfl, hf, c, fun _ q => q, fun _ _ => rfl⟩
    · rw [if_neg (fun q => c (b1.mp q))]
      have fV : V f = true := by
        rcases hf with q | q
        · exact absurd (ends f q) c
        · exact q
      have ck : K.testBit (A 0 f) = true := by rw [← Bool.not_eq_false]; exact c
      obtain ⟨hv, w1, w2, o1, o2, e0, i1, i2⟩ := tn_dep h fV
      by_cases c2 : W.testBit (A 0 f) = false
      · rw [if_pos (b2.mpr c2), show j_get N (nI f) 1 = nI (A 1 f) from mr_get hm (f := 1) (ti_lt h hf).2 (by omega) (by omega)]
        obtain ⟨r, r1, r2, r3, r4, r5⟩ := ih _ w1 (by omega)
        refine ⟨r, r1, r2, r3, fun u hu => r4 u ((ind_node h fV).mp hu).2.1, fun a ha => ?_⟩
        rw [r5 a ha, e0, mk_f (by rw [ha _ ck]; exact c2)]
      · rw [if_neg (fun q => c2 (b2.mp q)), show j_get N (nI f) 2 = nI (A 2 f) from mr_get hm (f := 2) (ti_lt h hf).2 (by omega) (by omega)]
        obtain ⟨r, r1, r2, r3, r4, r5⟩ := ih _ w2 (by omega)
        refine ⟨r, r1, r2, r3, fun u hu => r4 u ((ind_node h fV).mp hu).2.2, fun a ha => ?_⟩
        rw [r5 a ha, e0, mk_t (by rw [ha _ ck, ← Bool.not_eq_false]; exact c2)]
end
/-- a function that follows its partners, and what it does not hang on -/
theorem kw_ind {F : Bf} {K W x : Nat} (h : K.testBit (x ^^^ 1) = true ∨ ind F (x ^^^ 1)) : ind (fun a => F (kw K W a)) x := fun a b => by
  show F (kw K W (bs a x b)) = F (kw K W a)
  by_cases c : K.testBit (x ^^^ 1) = true
  · refine congrArg F (funext fun u => ?_)
    unfold kw
    by_cases cu : K.testBit u = true
    · rw [if_pos cu, if_pos cu]
    · rw [if_neg cu, if_neg cu]
      refine bs_n (fun q => cu ?_)
      rw [x1_inj q]; exact c
  · have hi : ind F (x ^^^ 1) := by
      rcases h with q | q
      · exact absurd q c
      · exact q
    rw [← hi (kw K W a) b]
    refine congrArg F (funext fun u => ?_)
    by_cases e : u = x ^^^ 1
    · subst e
      rw [bs_s]
      unfold kw
      rw [if_neg c, x1_x1, bs_s]
    · rw [bs_n e]
      unfold kw
      by_cases cu : K.testBit u = true
      · rw [if_pos cu, if_pos cu]
      · rw [if_neg cu, if_neg cu]
        exact bs_n (fun q => e (x1_inj q))
set_option maxHeartbeats 1000000 in
theorem turn_spec {ext : Nat → Nat} {m : Nat} (hm9 : m < 4096) :
    ∀ (d : Nat) (N : Mm) (A : Am) (V : Nat → Bool) (dn : Nat → Bf) (ch : Nat → List Nat) (fl : List Nat) (f k K W : Nat), mr N A → tn A V dn ch fl ext → vl V f → d + k = 12 → K < 4096 → W < 4096 → tp A V + bud d + 256 ≤ A 9 0 →
      (∀ u, u < 12 → m.testBit u = false → ind (dn f) u) → (∀ u, u < 12 → m.testBit u = true → A 7 (u ^^^ 1) < k → K.testBit u = true) → (∀ u, u < 12 → K.testBit u = true → A 7 (u ^^^ 1) < k) → (∀ u, W.testBit u = true → K.testBit u = true) →
      ∃ (N' : Mm) (A' : Am) (V' : Nat → Bool) (dn' : Nat → Bf) (ch' : Nat → List Nat) (fl' : List Nat) (r : Nat), j_turn (nI m) d N (nI f) (nI k) (nI K) (nI W) = (N', nI r) ∧ mr N' A' ∧ tn A' V' dn' ch' fl' ext ∧ grow A V dn A' V' dn' ∧ vl V' r ∧ dn' r = (fun a => dn f (kw K W a)) ∧ tp A' V' ≤ tp A V + bud d := by
  have fin : ∀ (A : Am) (V : Nat → Bool) (dn : Nat → Bf) (ch : Nat → List Nat) (fl : List Nat) (f r K W : Nat), tn A V dn ch fl ext → r ≤ 1 → (∀ a : Nat → Bool, (∀ u, K.testBit u = true → a u = W.testBit u) → dn r a = dn f a) → dn r = (fun a => dn f (kw K W a)) := fun A V dn ch fl f r K W h hr h5 => by
    funext a
    rw [← h5 _ kw_a]
    obtain ⟨-, -, e0, e1⟩ := h.2.1.2.1
    rcases (show r = 0 ∨ r = 1 by omega) with rfl | rfl
    · rw [e0]
    · rw [e1]
  intro d
  induction d with
  | zero =>
    intro N A V dn ch fl f k K W hm h hf hdk hK hW hb g1 g2 g3 g4
    obtain ⟨r, r1, r2, r3, r4, r5⟩ := follow_spec hm h hK hW 12 f hf (by omega)
    have hr1 : r ≤ 1 := by
      rcases r2 with q | q
      · exact q
      · exfalso
        have va := (h.2.1.1 r q).2.1
        have hd := gi_dep h.2.1 h.1 q
        cases c : m.testBit (A 0 r)
        · exact hd (r4 _ (g1 _ va c))
        · have := g2 _ va c (by have := lp_lt h.1 (x1_lt _ va); omega)
          rw [r3] at this; cases this
    exact ⟨N, A, V, dn, ch, fl, r, by show (N, j_followed N (nI f) (nI K) (nI W)) = _; unfold j_followed; rw [r1], hm, h, grow_rf _ _ _, r2, fin A V dn ch fl f r K W h hr1 r5, Nat.le_add_right _ _⟩
  | succ d ih =>
    intro N A V dn ch fl f k K W hm h hf hdk hK hW hb g1 g2 g3 g4
    obtain ⟨r, r1, r2, r3, r4, r5⟩ := follow_spec hm h hK hW 12 f hf (by omega)
    have ef : j_followed N (nI f) (nI K) (nI W) = nI r := r1
    have br := tn_lt h r2
    by_cases hr1 : r ≤ 1
    · exact ⟨N, A, V, dn, ch, fl, r, by rw [turn_b (by rw [ef]; exact (nI_l1 br).mpr hr1), ef], hm, h, grow_rf _ _ _, r2, fin A V dn ch fl f r K W h hr1 r5, Nat.le_add_right _ _⟩
    · have c0 : ¬ j_followed N (nI f) (nI K) (nI W) ≤ 1 := by rw [ef]; exact fun q => hr1 ((nI_l1 br).mp q)
      obtain ⟨v, ev⟩ : ∃ v, A 8 k = v := ⟨_, rfl⟩
      have hv : v < 12 := by rw [← ev]; exact lp_vr h.1 (by omega)
      have hlv : A 7 v = k := by rw [← ev]; exact (h.1.2.1 k (by omega)).2
      obtain ⟨p, ep⟩ : ∃ p, v ^^^ 1 = p := ⟨_, rfl⟩
      have hp : p < 12 := by rw [← ep]; exact x1_lt v hv
      have hpv : p ^^^ 1 = v := by rw [← ep]; exact x1_x1 v
      have eV : j_variableAt N (nI k) = nI v := by rw [mr_var hm (by omega), ev]
      have eP : (1 : Int32) <<< ((j_variableAt N (nI k) ^^^ 1) &&& 31) = nI (2 ^ p) := by
        rw [eV, show (1 : Int32) = nI 1 from rfl, nx_xor, ep]; exact nx_sh hp
      obtain ⟨bd1, bd2⟩ := bud_le (d := d) (k := k) (by omega)
      have gr1 : ∀ u, u < 12 → m.testBit u = false → ind (dn r) u := fun u hu q => r4 u (g1 u hu q)
      have lvx : ∀ u, u < 12 → A 7 (u ^^^ 1) = k → u = p := fun u hu q => by
        have e := lp_inj h.1 (u := u ^^^ 1) (v := v) (by have := x1_lt u hu; omega) (by omega) (by rw [q, hlv])
        rw [x1_inj e, ep]
      cases cm : m.testBit p
      · obtain ⟨N1, A1, V1, dn1, ch1, fl1, q, t1, t2, t3, t4, t5, t6, t7⟩ := ih N A V dn ch fl r (k + 1) K W hm h r2 (by omega) hK hW (by omega) gr1 (fun u hu q1 q2 => g2 u hu q1 (by
          rcases Nat.lt_or_ge (A 7 (u ^^^ 1)) k with z | z
          · exact z
          · have := lvx u hu (by omega)
            rw [this, cm] at q1; cases q1)) (fun u hu q1 => by have := g3 u hu q1; omega) g4
        refine ⟨N1, A1, V1, dn1, ch1, fl1, q, turn_s c0 (by rw [eP]; exact (and_bit hm9).mpr cm) (by rw [ef, nI_1]; exact t1), t2, t3, t4, t5, ?_, by omega⟩
        rw [t6]
        funext a
        exact r5 _ kw_a
      · have hKp : K.testBit p = false := by
          cases c : K.testBit p
          · rfl
          · have := g3 p hp c
            rw [hpv, hlv] at this; omega
        have hWp : W.testBit p = false := by
          cases c : W.testBit p
          · rfl
          · have := g4 p c
            rw [hKp] at this; cases this
        have bK : ∀ u, (K ||| 2 ^ p).testBit u = (K.testBit u || decide (p = u)) := fun u => by rw [Nat.testBit_or, Nat.testBit_two_pow]
        have bW : ∀ u, (W ||| 2 ^ p).testBit u = (W.testBit u || decide (p = u)) := fun u => by rw [Nat.testBit_or, Nat.testBit_two_pow]
        have hK' : K ||| 2 ^ p < 4096 := Nat.or_lt_two_pow (n := 12) hK (Nat.pow_lt_pow_right (by decide) hp)
        have hW' : W ||| 2 ^ p < 4096 := Nat.or_lt_two_pow (n := 12) hW (Nat.pow_lt_pow_right (by decide) hp)
        have y2 : ∀ u, u < 12 → m.testBit u = true → A 7 (u ^^^ 1) < k + 1 → (K ||| 2 ^ p).testBit u = true := fun u hu q1 q2 => by
          rw [bK, Bool.or_eq_true]
          rcases Nat.lt_or_ge (A 7 (u ^^^ 1)) k with z | z
          · exact Or.inl (g2 u hu q1 z)
          · exact Or.inr (decide_eq_true (lvx u hu (by omega)).symm)
        have y3 : ∀ u, u < 12 → (K ||| 2 ^ p).testBit u = true → A 7 (u ^^^ 1) < k + 1 := fun u hu q1 => by
          rw [bK, Bool.or_eq_true] at q1
          rcases q1 with z | z
          · have := g3 u hu z; omega
          · have z := of_decide_eq_true z
            rw [← z, hpv, hlv]; omega
        obtain ⟨N1, A1, V1, dn1, ch1, fl1, q1, t1, t2, t3, t4, t5, t6, t7⟩ := ih N A V dn ch fl r (k + 1) (K ||| 2 ^ p) W hm h r2 (by omega) hK' hW (by omega) gr1 y2 y3 (fun u hu => by rw [bK, g4 u hu, Bool.true_or])
        obtain ⟨s1, s2, s3, s4, s5⟩ := id t4
        obtain ⟨z1, z2, -⟩ := s1 r r2
        obtain ⟨N2, A2, V2, dn2, ch2, fl2, q2, w1, w2, w3, w4, w5, w6, w7⟩ := ih N1 A1 V1 dn1 ch1 fl1 r (k + 1) (K ||| 2 ^ p) (W ||| 2 ^ p) t2 t3 z1 (by omega) hK' hW' (by rw [s4]; omega) (fun u hu q => by rw [z2]; exact gr1 u hu q) (fun u hu => by rw [s2]; exact y2 u hu) (fun u hu => by rw [s2]; exact y3 u hu) (fun u hu => by
          rw [bW, Bool.or_eq_true] at hu
          rw [bK, Bool.or_eq_true]
          rcases hu with q | q
          · exact Or.inl (g4 u q)
          · exact Or.inr q)
        obtain ⟨v1, v2, v3, v4, v5⟩ := id w4
        obtain ⟨x1, x2, -⟩ := v1 q1 t5
        have hind : ∀ W0, ∀ x, x < 12 → A2 7 x < k + 1 → ind (fun a => dn r (kw (K ||| 2 ^ p) W0 a)) x := fun W0 x hx hl => by
          refine kw_ind ?_
          cases c : m.testBit (x ^^^ 1)
          · exact Or.inr (gr1 _ (x1_lt x hx) c)
          · exact Or.inl (y2 _ (x1_lt x hx) c (by rw [x1_x1, ← s2, ← v2]; exact hl))
        have e27 : A2 7 v = k := by rw [v2, s2, hlv]
        have m1 := gi_lev w3.2.1 w3.1 x1 (k := k + 1) (fun x hx hl => by rw [x2, t6]; exact hind W x hx hl) (by omega)
        have m2 := gi_lev w3.2.1 w3.1 w5 (k := k + 1) (fun x hx hl => by rw [w6, z2]; exact hind _ x hx hl) (by omega)
        obtain ⟨N3, A3, V3, dn3, ch3, fl3, q3, c1, c2, c3, c4, c5, c6, c7⟩ := make_tn w2 w3 hv x1 w5 (by rw [e27]; omega) (by rw [e27]; omega) (by rw [e27, v4, s4]; omega)
        refine ⟨N3, A3, V3, dn3, ch3, fl3, q3, turn_r (N1 := N1) (low := nI q1) (N2 := N2) (high := nI q2) c0 (by rw [eP]; exact fun z => by rw [(and_bit hm9).mp z] at cm; cases cm) (by rw [ef, eP, nI_1, nx_or]; exact t1) (by rw [ef, eP, nI_1, nx_or, nx_or]; exact w1) (by rw [eV]; exact c1), c2, c3, grow_tr t4 (grow_tr w4 c4), c5, ?_, by rw [e27] at c7; omega⟩
        rw [c6, x2, t6, w6, z2]
        funext a
        rw [← r5 _ kw_a]
        cases av : a v
        · rw [mk_f av]
          refine congrArg (dn r) (funext fun u => ?_)
          unfold kw
          rw [bK]
          by_cases cu : p = u
          · rw [← cu, decide_eq_true rfl, Bool.or_true, if_pos rfl, if_neg (by rw [hKp]; exact Bool.false_ne_true), hpv, av, hWp]
          · rw [decide_eq_false cu, Bool.or_false]
        · rw [mk_t av]
          refine congrArg (dn r) (funext fun u => ?_)
          unfold kw
          rw [bK, bW]
          by_cases cu : p = u
          · rw [← cu, decide_eq_true rfl, Bool.or_true, if_pos rfl, if_neg (by rw [hKp]; exact Bool.false_ne_true), hpv, av, Bool.or_true]
          · rw [decide_eq_false cu, Bool.or_false, Bool.or_false]
