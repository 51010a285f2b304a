/-! freed, against the functions that nodes stand for -/
theorem tn_dep {A : Am} {V : Nat → Bool} {dn : Nat → Bf} {ch : Nat → List Nat} {fl : List Nat} {ext : Nat → Nat} (h : tn A V dn ch fl ext) {f : Nat} (hf : V f = true) : A 0 f < 12 ∧ vl V (A 1 f) ∧ vl V (A 2 f) ∧ A 7 (A 0 f) < A 7 (A 0 (A 1 f)) ∧ A 7 (A 0 f) < A 7 (A 0 (A 2 f)) ∧ dn f = mk (A 0 f) (dn (A 1 f)) (dn (A 2 f)) ∧ ind (dn (A 1 f)) (A 0 f) ∧ ind (dn (A 2 f)) (A 0 f) := by
  have h2 := h.2.1
  obtain ⟨-, q1, q2, q3⟩ := h2.1 f hf
  obtain ⟨o1, o2⟩ := h2.2.2.2.2.1 f hf rfl
  rw [rk_f rfl] at o1 o2
  obtain ⟨c1, c2⟩ := gi_ch h2 h.1 hf
  exact ⟨q1, q2, q3, o1, o2, h2.2.2.1 f hf, c1, c2⟩
def fx_P (k : Nat) (V : Nat → Bool) (dn : Nat → Bf) (a b c r : Int32) : Prop := c = -1 ∧ ∃ f q : Nat, a = nI f ∧ r = nI q ∧ vl V f ∧ vl V q ∧ (b = nI k → dn q = exq (fun v => k.testBit v) (dn f))
theorem FX_grow {k : Nat} {A : Am} {V : Nat → Bool} {dn : Nat → Bf} {A' : Am} {V' : Nat → Bool} {dn' : Nat → Bf} {a b c r : Int32} (hg : grow A V dn A' V' dn') (h : fx_P k V dn a b c r) : fx_P k V' dn' a b c r := by
  obtain ⟨h1, f, q, e1, e2, v1, v2, e⟩ := h
  obtain ⟨a1, a2, -⟩ := hg.1 f v1
  obtain ⟨b1, b2, -⟩ := hg.1 q v2
  exact ⟨h1, f, q, e1, e2, a1, b1, fun hb => by rw [a2, b2]; exact e hb⟩
theorem cud_s (d : Nat) : cud (d + 1) = if d < 3 then 0 else 2 * cud d + max 1 (bud d) := rfl
theorem bud_s (d : Nat) : bud (d + 1) = if d < 3 then 0 else 2 * bud d + 1 := rfl
theorem bud_3 : ∀ d, d ≤ 3 → bud d = 0 := by decide
theorem cud_3 : ∀ d, d ≤ 3 → cud d = 0 := by decide
theorem exq_end {A : Am} {V : Nat → Bool} {dn : Nat → Bf} {ch : Nat → List Nat} {fl : List Nat} {ext : Nat → Nat} (h : tn A V dn ch fl ext) {f : Nat} (hf : f ≤ 1) (M : Nat → Bool) : exq M (dn f) = dn f := by
  obtain ⟨-, -, e0, e1⟩ := h.2.1.2.1
  rcases (show f = 0 ∨ f = 1 by omega) with rfl | rfl
  · rw [e0]; exact exq_c M false
  · rw [e1]; exact exq_c M true
set_option maxHeartbeats 1000000 in
theorem freed_spec {ext : Nat → Nat} {ag k : Nat} (hk : k < 4096) :
    ∀ (d : Nat) (N E : Mm) (A : Am) (V : Nat → Bool) (dn : Nat → Bf) (ch : Nat → List Nat) (fl : List Nat) (f : Nat), mr N A → tn A V dn ch fl ext → me E ag (fun a b c r => PP V dn a b c r ∨ fx_P k V dn a b c r) → vl V f → 12 ≤ d + A 7 (A 0 f) → tp A V + cud d + 256 ≤ A 9 0 →
    ∃ (N' E' : Mm) (A' : Am) (V' : Nat → Bool) (dn' : Nat → Bf) (ch' : Nat → List Nat) (fl' : List Nat) (r : Nat), j_freed (nI k) d N E (nI f) = (N', E', nI r) ∧ mr N' A' ∧ tn A' V' dn' ch' fl' ext ∧ me E' ag (fun a b c r => PP V' dn' a b c r ∨ fx_P k V' dn' a b c r) ∧ grow A V dn A' V' dn' ∧ vl V' r ∧ dn' r = exq (fun v => k.testBit v) (dn f) ∧ tp A' V' ≤ tp A V + cud d := by
  intro d
  induction d with
  | zero =>
    intro N E A V dn ch fl f hm h he hf l1 hb
    have hf1 : f ≤ 1 := by
      rcases hf with q | q
      · exact q
      · have := lp_lt h.1 (h.2.1.1 f q).2.1
        omega
    exact ⟨N, E, A, V, dn, ch, fl, f, rfl, hm, h, he, grow_rf _ _ _, hf, (exq_end h hf1 _).symm, Nat.le_add_right _ _⟩
  | succ d ih =>
    intro N E A V dn ch fl f hm h he hf l1 hb
    have bf := tn_lt h hf
    by_cases c0 : f ≤ 1
    · exact ⟨N, E, A, V, dn, ch, fl, f, freed_b ((nI_l1 bf).mpr c0), hm, h, he, grow_rf _ _ _, hf, (exq_end h c0 _).symm, Nat.le_add_right _ _⟩
    · have fV : V f = true := by
        rcases hf with q | q
        · exact absurd q c0
        · exact q
      have c0' : ¬ nI f ≤ 1 := fun q => c0 ((nI_l1 bf).mp q)
      rcases me_ask he (nI f) (nI k) (-1) with ea | ea
      · have ev := asked_spec hm h hf
        obtain ⟨hv, w1, w2, o1, o2, e0, i1, i2⟩ := tn_dep h fV
        obtain ⟨f1, -, -, -, -, -, -⟩ := low_spec hm h hf hv (Nat.le_refl _)
        have elw : lw A (A 0 f) f = A 1 f := if_pos rfl
        have ehw : hw A (A 0 f) f = A 2 f := if_pos rfl
        rw [elw] at f1
        have lv12 := lp_lt h.1 hv
        have hc2 : 2 * cud d ≤ cud (d + 1) ∧ cud d ≤ cud (d + 1) := by
          rw [cud_s]
          by_cases q : d < 3
          · rw [cud_3 d (by omega), if_pos q]; omega
          · rw [if_neg q]; omega
        obtain ⟨N1, E1, A1, V1, dn1, ch1, fl1, r1, hp1, a2, a3, a4, a5, a6, a7, a8⟩ := ih N E A V dn ch fl _ hm h he w1 (by omega) (by omega)
        obtain ⟨s1, s2, s3, s4, s5⟩ := id a5
        obtain ⟨uf1, uf2, uf3, uf4, uf5⟩ := s1 f hf
        obtain ⟨-, f2', -⟩ := low_spec a2 a3 uf1 hv (by rw [s2, uf3]; exact Nat.le_refl _)
        have ehw1 : hw A1 (A 0 f) f = A 2 f := by unfold hw; rw [uf3, uf5, if_pos rfl]
        rw [ehw1] at f2'
        obtain ⟨tf1, tf2, tf3, -⟩ := s1 _ w2
        obtain ⟨N2, E2, A2, V2, dn2, ch2, fl2, r2, hp2, b2, b3, b4, b5, b6, b7, b8⟩ := ih N1 E1 A1 V1 dn1 ch1 fl1 _ a2 a3 a4 tf1 (by rw [s2, tf3]; omega) (by rw [s4]; omega)
        obtain ⟨w1', w2', w3, w4, w5⟩ := id b5
        obtain ⟨x1, x2, -⟩ := w1' r1 a6
        have n1 : ∀ x, x < 12 → A2 7 x < A 7 (A 0 f) + 1 → ind (dn2 r1) x := fun x _ hx => by
          rw [w2', s2] at hx
          rw [x2, a7]
          exact exq_ind (gi_ind h.2.1 h.1 w1 (by rw [rk_f rfl]; omega))
        have n2 : ∀ x, x < 12 → A2 7 x < A 7 (A 0 f) + 1 → ind (dn2 r2) x := fun x _ hx => by
          rw [w2', s2] at hx
          rw [b7, tf2]
          exact exq_ind (gi_ind h.2.1 h.1 w2 (by rw [rk_f rfl]; omega))
        have m1 := gi_lev b3.2.1 b3.1 x1 n1 (by omega)
        have m2 := gi_lev b3.2.1 b3.1 b6 n2 (by omega)
        have e27 : A2 7 (A 0 f) = A 7 (A 0 f) := by rw [w2', s2]
        have hbit := bitI (w := k) (v := A 0 f) (by omega) (by omega)
        have key : ∀ (N3 E3 : Mm) (A3 : Am) (V3 : Nat → Bool) (dn3 : Nat → Bf) (ch3 : Nat → List Nat) (fl3 : List Nat) (r3 : Nat), j_freed (nI k) (d + 1) N E (nI f) = (N3, j_keep E3 (nI f) (nI k) (-1) (nI r3), nI r3) → mr N3 A3 → tn A3 V3 dn3 ch3 fl3 ext → me E3 ag (fun a b c r => PP V3 dn3 a b c r ∨ fx_P k V3 dn3 a b c r) → grow A2 V2 dn2 A3 V3 dn3 → vl V3 r3 → dn3 r3 = exq (fun v => k.testBit v) (dn f) → tp A3 V3 ≤ tp A V + cud (d + 1) →
            ∃ (N' E' : Mm) (A' : Am) (V' : Nat → Bool) (dn' : Nat → Bf) (ch' : Nat → List Nat) (fl' : List Nat) (r : Nat), j_freed (nI k) (d + 1) N E (nI f) = (N', E', nI r) ∧ mr N' A' ∧ tn A' V' dn' ch' fl' ext ∧ me E' ag (fun a b c r => PP V' dn' a b c r ∨ fx_P k V' dn' a b c r) ∧ grow A V dn A' V' dn' ∧ vl V' r ∧ dn' r = exq (fun v => k.testBit v) (dn f) ∧ tp A' V' ≤ tp A V + cud (d + 1) := by
          intro N3 E3 A3 V3 dn3 ch3 fl3 r3 ej c2 c3 c4 cg c5 c6 c7
          have hg3 : grow A V dn A3 V3 dn3 := grow_tr a5 (grow_tr b5 cg)
          obtain ⟨yf1, yf2, -⟩ := hg3.1 f hf
          exact ⟨N3, _, A3, V3, dn3, ch3, fl3, r3, ej, c2, c3, me_keep c4 (Or.inr ⟨rfl, f, r3, rfl, rfl, yf1, c5, fun _ => by rw [yf2]; exact c6⟩), hg3, c5, c6, c7⟩
        by_cases cb : k.testBit (A 0 f) = false
        · -- the variable stays
          have hcm : cud d * 2 + (if A 7 (A 0 f) < 9 then 1 else 0) ≤ cud (d + 1) := by
            rw [cud_s]
            by_cases q : d < 3
            · rw [cud_3 d (by omega), if_pos q, if_neg (by omega)]; omega
            · rw [if_neg q]
              have : (if A 7 (A 0 f) < 9 then 1 else 0) ≤ 1 := by split <;> omega
              omega
          obtain ⟨N3, A3, V3, dn3, ch3, fl3, r3, c1, c2, c3, c4, c5, c6, c7⟩ := make_tn b2 b3 hv x1 b6 (by rw [e27]; omega) (by rw [e27]; omega) (by rw [e27, w4, s4]; omega)
          refine key N3 E2 A3 V3 dn3 ch3 fl3 r3 ?_ c2 c3 (me_mono b4 (fun a b c r hh => ?_)) c4 c5 ?_ (by rw [e27] at c7; omega)
          · exact freed_k (N1 := N1) (E1 := E1) (low := nI r1) (N2 := N2) (high := nI r2) c0' ea (by rw [ev]; exact hbit.mpr cb) (by rw [ev, f1]; exact hp1) (by rw [ev, f2']; exact hp2) (by rw [ev]; exact c1)
          · rcases hh with hh | hh
            · exact Or.inl (PP_grow c4 hh)
            · exact Or.inr (FX_grow c4 hh)
          · rw [c6, x2, a7, b7, tf2, e0, exq_keep cb]
        · have cb' : k.testBit (A 0 f) = true := by
            rcases hq : k.testBit (A 0 f) with _ | _
            · exact absurd hq cb
            · rfl
          have hcm : cud d * 2 + bud d ≤ cud (d + 1) := by
            rw [cud_s]
            by_cases q : d < 3
            · rw [cud_3 d (by omega), bud_3 d (by omega), if_pos q]; omega
            · rw [if_neg q]; omega
          have v1 : vl V2 1 := Or.inl (Nat.le_refl 1)
          have z1 : A2 7 (A2 0 1) = 12 := by rw [b3.2.1.2.1.2.1, b3.1.2.2]
          obtain ⟨N3, E3, A3, V3, dn3, ch3, fl3, r3, c1, c2, c3, c4, cg, c5, c6, c7⟩ := pick_spec (ext := ext) (ag := ag) (X := fx_P k) (fun V dn a b c r hX => hX.1) (fun A V dn A' V' dn' a b c r hg hX => FX_grow hg hX) d N2 E2 A2 V2 dn2 ch2 fl2 r1 1 r2 b2 b3 b4 x1 v1 b6 (by omega) (by omega) (by omega) (by rw [w4, s4]; omega)
          refine key N3 E3 A3 V3 dn3 ch3 fl3 r3 ?_ c2 c3 c4 cg c5 ?_ (by omega)
          · exact freed_p (N1 := N1) (E1 := E1) (low := nI r1) (N2 := N2) (E2 := E2) (high := nI r2) c0' ea (by rw [ev]; exact fun q => cb (hbit.mp q)) (by rw [ev, f1]; exact hp1) (by rw [ev, f2']; exact hp2) c1
          · rw [c6, x2, a7, b7, tf2, e0, b3.2.1.2.1.2.2.2, exq_free cb' i1 i2]
      · rcases ea with ⟨f', g', k', r, e1, e2, e3, e4, v1, v2, v3, v4, e⟩ | ⟨-, f', q, e1, e2, v1, v2, e⟩
        · exact absurd e3.symm (neg1 (tn_lt h v3))
        · have q1 := (nI_qq bf (tn_lt h v1)).mp e1
          subst q1
          exact ⟨N, E, A, V, dn, ch, fl, q, by rw [freed_m c0' (by rw [e2]; exact neg1 (tn_lt h v2)), e2], hm, h, he, grow_rf _ _ _, v2, e rfl, Nat.le_add_right _ _⟩
