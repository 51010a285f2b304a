/-! rewrite: one node that waits is written anew -/
def c9_n (A : Am) (V T : Nat → Bool) (L : Nat) : Nat := pc_cnt (fun i => V i && decide (rk (A 7) (A 0) T L i < 9)) 24800
theorem mk_swap {u w : Nat} (h : u ≠ w) (a b c d : Bf) : mk u (mk w a b) (mk w c d) = mk w (mk u a c) (mk u b d) := by
  funext x
  unfold mk
  cases x u <;> cases x w <;> rfl
section
variable {N : Mm} {A : Am} {V T : Nat → Bool} {L : Nat} {dn : Nat → Bf} {ch : Nat → List Nat} {fl : List Nat} {ext : Nat → Nat}
theorem gpk_low (hm : mr N A) (h : ti A V T L dn ch fl ext) {c w : Nat} (hc : vl V c) (hk : gpk (A 7) V T L (A 0) (A 1) (A 2) c) (hw9 : w < 12) (lw9 : A 7 w = L) :
    j_lowFor N (nI c) (nI w) = nI (lw A w c) ∧ j_highFor N (nI c) (nI w) = nI (hw A w c) ∧ vl V (lw A w c) ∧ vl V (hw A w c) ∧ T (lw A w c) = false ∧ T (hw A w c) = false ∧ L + 1 < A 7 (A 0 (lw A w c)) ∧ L + 1 < A 7 (A 0 (hw A w c)) ∧ dn c = mk w (dn (lw A w c)) (dn (hw A w c)) := by
  have h2 := h.2.1
  have clt := (ti_lt h hc).2
  have va := gi_va h2 hc
  have g0 : j_get N (nI c) 0 = nI (A 0 c) := mr_get hm (f := 0) clt (by omega) (by omega)
  obtain ⟨t0, hk⟩ := hk
  have hTn : ∀ j, L + 1 < A 7 (A 0 j) → T j = false := fun j q => by
    cases e : T j
    · rfl
    · have := (h2.2.2.2.2.2 j e).2.1
      omega
  unfold j_lowFor j_highFor lw hw
  rw [g0]
  by_cases e : A 0 c = w
  · rcases hk with q | ⟨-, q2, q3, q4⟩
    · rw [e, lw9] at q; omega
    · obtain ⟨-, -, c1, c2⟩ := h2.1 c q2
      rw [if_pos e, if_pos e, if_pos (by rw [e]), if_pos (by rw [e])]
      refine ⟨mr_get hm (f := 1) clt (by omega) (by omega), mr_get hm (f := 2) clt (by omega) (by omega), c1, c2, hTn _ q3, hTn _ q4, q3, q4, ?_⟩
      have := h2.2.2.1 c q2
      rw [e] at this
      exact this
  · rcases hk with q | ⟨q, -⟩
    · have en : ¬ nI (A 0 c) = nI w := fun z => e ((nI_eq (by omega) (by omega)).mp z)
      rw [if_neg e, if_neg e, if_neg en, if_neg en]
      exact ⟨rfl, rfl, hc, hc, t0, t0, q, q, (mk_same w _).symm⟩
    · exact absurd (lp_inj h.1 va (by omega) (by rw [q, lw9])) e
theorem c9_make {A' : Am} {V' : Nat → Bool} {u r : Nat} (hL : 8 ≤ L) (lu : A 7 u = L + 1) (e7 : A' 7 = A 7) (tr : T r = false) (hc : (V' = V ∧ A' 0 = A 0) ∨ (V r = false ∧ V' = fu V r true ∧ A' 0 = fu (A 0) r u)) : c9_n A' V' T L = c9_n A V T L := by
  unfold c9_n
  refine pc_congr (fun j _ => ?_)
  rcases hc with ⟨rfl, e⟩ | ⟨q1, rfl, e⟩
  · rw [e7, e]
  · by_cases ej : j = r
    · subst ej
      rw [q1, fu_s, rk_f tr, e, fu_s, e7, lu, decide_eq_false (by omega)]
      rfl
    · rw [fu_n ej]
      unfold rk
      rw [e, fu_n ej, e7]
set_option maxHeartbeats 2000000 in
theorem rewrite_spec (hm : mr N A) (h : ti A V T L dn ch fl ext) (hn : nd_a A V) (hxb : ∀ i, ext i ≤ 100) {p u w : Nat} (tp : T p = true) (hu : u < 12) (hw9 : w < 12) (lu : A 7 u = L + 1) (lw9 : A 7 w = L) (hr : A 9 3 + 3 < A 9 0) :
    ∃ (A' : Am) (V' : Nat → Bool) (dn' : Nat → Bf) (ch' : Nat → List Nat) (fl' : List Nat), mr (j_rewrite N (nI p) (nI u) (nI w)) A' ∧ ti A' V' (fu T p false) L dn' ch' fl' ext ∧ nd_a A' V' ∧ (∀ i, fu T p false i = true → A' 3 i = A 3 i) ∧ A' 7 = A 7 ∧ A' 8 = A 8 ∧ A' 9 0 = A 9 0 ∧ A' 9 4 = A 9 4 ∧ A' 9 3 ≤ A 9 3 + 2 ∧ (∀ i, vl V i → dn' i = dn i) ∧ (8 ≤ L → c9_n A' V' (fu T p false) L ≤ c9_n A V T L) := by
  obtain ⟨h1, h2, h3, h4, h5, h6, h7, h8, h9, h10⟩ := id h
  obtain ⟨vp, lp1, k1, k2, -⟩ := h2.2.2.2.2.2 p tp
  obtain ⟨p2, pva, w1, w2⟩ := h2.1 p vp
  have plt := (ti_lt h (Or.inr vp)).2
  have eu : A 0 p = u := lp_inj h1 (by omega) (by omega) (by rw [lp1, lu])
  have uw : u ≠ w := fun e => by rw [e, lw9] at lu; omega
  have hTL : ∀ i, T i = true → L < A 7 u := fun _ _ => by omega
  obtain ⟨a1, -, a3, a4, a5, a6, a7, a8, a9⟩ := gpk_low hm h w1 k1 hw9 lw9
  obtain ⟨b1, -, b3, b4, b5, b6, b7, b8, b9⟩ := gpk_low hm h w2 k2 hw9 lw9
  have g1 : j_get N (nI p) 1 = nI (A 1 p) := mr_get hm (f := 1) plt (by omega) (by omega)
  have g2 : j_get N (nI p) 2 = nI (A 2 p) := mr_get hm (f := 2) plt (by omega) (by omega)
  -- the two new children
  obtain ⟨N1, A1, V1, dn1, ch1, fl1, r1, m1, m2, m3, m4, m5, m6, m7, m8, m9, m10⟩ := make_spec2 hm h (v := u) hu hTL a3 b3 a5 b5 (by rw [lu]; omega) (by rw [lu]; omega) (fun _ _ _ _ _ => by omega)
  obtain ⟨s1, s2, s3, s4, s5⟩ := id m4
  have z1 : A1 9 3 ≤ A 9 3 + 1 := by
    rcases m8 with ⟨-, e, -⟩ | ⟨-, -, -, -, -, e⟩
    · rw [e]; omega
    · omega
  obtain ⟨x1, x2, x3, x4, x5⟩ := s1 _ w1
  obtain ⟨y1, y2, y3, y4, y5⟩ := s1 _ w2
  obtain ⟨xa1, xa2, xa3, -⟩ := s1 _ a4
  obtain ⟨ya1, ya2, ya3, -⟩ := s1 _ b4
  have gh1 : j_highFor N1 (nI (A 1 p)) (nI w) = nI (hw A w (A 1 p)) := by
    unfold j_highFor hw
    have q0 : j_get N1 (nI (A 1 p)) 0 = nI (A1 0 (A 1 p)) := mr_get m2 (f := 0) (ti_lt m3 x1).2 (by omega) (by omega)
    have q2 : j_get N1 (nI (A 1 p)) 2 = nI (A1 2 (A 1 p)) := mr_get m2 (f := 2) (ti_lt m3 x1).2 (by omega) (by omega)
    have va := gi_va h2 w1
    rw [q0, q2, x3, x5]
    by_cases e : A 0 (A 1 p) = w
    · rw [if_pos e, if_pos (by rw [e])]
    · rw [if_neg e, if_neg (fun z => e ((nI_eq (by omega) (by omega)).mp z))]
  have gh2 : j_highFor N1 (nI (A 2 p)) (nI w) = nI (hw A w (A 2 p)) := by
    unfold j_highFor hw
    have q0 : j_get N1 (nI (A 2 p)) 0 = nI (A1 0 (A 2 p)) := mr_get m2 (f := 0) (ti_lt m3 y1).2 (by omega) (by omega)
    have q2 : j_get N1 (nI (A 2 p)) 2 = nI (A1 2 (A 2 p)) := mr_get m2 (f := 2) (ti_lt m3 y1).2 (by omega) (by omega)
    have va := gi_va h2 w2
    rw [q0, q2, y3, y5]
    by_cases e : A 0 (A 2 p) = w
    · rw [if_pos e, if_pos (by rw [e])]
    · rw [if_neg e, if_neg (fun z => e ((nI_eq (by omega) (by omega)).mp z))]
  obtain ⟨N2, A2, V2, dn2, ch2, fl2, r2, n1, n2, n3, n4, n5, n6, n7, n8, n9, n10⟩ := make_spec2 m2 m3 (v := u) hu (fun i q => by rw [s2]; exact hTL i q) xa1 ya1 a6 b6 (by rw [s2, xa3, lu]; omega) (by rw [s2, ya3, lu]; omega) (fun _ _ _ _ _ => by rw [s4]; omega)
  obtain ⟨t1, t2, t3, t4, t5⟩ := id n4
  have z2 : A2 9 3 ≤ A 9 3 + 2 := by
    rcases n8 with ⟨-, e, -⟩ | ⟨-, -, -, -, -, e⟩
    · rw [e]; omega
    · omega
  obtain ⟨v1, v2, v3, v4, v5⟩ := t1 r1 m5
  have g12 := grow_tr m4 n4
  obtain ⟨gr1, gr2, gr3, gr4, gr5⟩ := id g12
  have e27 : A2 7 = A 7 := gr2
  obtain ⟨P1, P2, P3, P4, P5⟩ := gr1 p (Or.inr vp)
  have vp2 : V2 p = true := by
    rcases P1 with q | q
    · omega
    · exact q
  have hnd2 : ∀ i, V i = true → 0 < A2 4 i := fun i q => by
    have i2 := (h2.1 i q).1
    have vi : V2 i = true := by
      rcases (gr1 i (Or.inr q)).1 with z | z
      · omega
      · exact z
    rw [n3.2.2.2.2.2.2.2.1 i vi]
    have := hn i q
    rw [h8 i q] at this
    rcases Nat.eq_zero_or_pos (ext i) with z | z
    · obtain ⟨j, j1, j2, j3⟩ := oc_wit (A := A) (V := V) (i := i) (by omega)
      obtain ⟨q1, -, -, q4, q5⟩ := gr1 j (Or.inr j2)
      have vj : V2 j = true := by
        have := (h2.1 j j2).1
        rcases q1 with z | z
        · omega
        · exact z
      have := oc_pos1 (A := A2) (V := V2) (i := i) j1 vj (by rw [q4, q5]; exact j3)
      omega
    · omega
  have l1 : L < A2 7 (A2 0 r1) := by
    refine gi_lev n3.2.1 n3.1 v1 (k := L + 1) (fun x hx hl => ?_) (by have := lp_lt h1 hu; omega)
    rw [e27] at hl
    rw [v2, m7]
    refine ind_mk (fun e => by rw [← e, lu] at hl; omega) (gi_ind h2 h1 a3 (by rw [rk_f a5]; omega)) (gi_ind h2 h1 b3 (by rw [rk_f b5]; omega))
  have l2 : L < A2 7 (A2 0 r2) := by
    refine gi_lev n3.2.1 n3.1 n5 (k := L + 1) (fun x hx hl => ?_) (by have := lp_lt h1 hu; omega)
    rw [e27] at hl
    rw [n7, xa2, ya2]
    refine ind_mk (fun e => by rw [← e, lu] at hl; omega) (gi_ind h2 h1 a4 (by rw [rk_f a6]; omega)) (gi_ind h2 h1 b4 (by rw [rk_f b6]; omega))
  have hdn : dn2 p = mk w (dn2 r1) (dn2 r2) := by
    rw [P2, v2, m7, n7, xa2, ya2, h2.2.2.1 p vp, eu, a9, b9, mk_swap uw]
  obtain ⟨A3a, u1, u2, u3⟩ := refer_up n2 (i := r1) (ti_lt n3 v1).2
  obtain ⟨A3, u4, u5, u6⟩ := refer_up u1 (i := r2) (by rw [u2 9 (by omega)]; exact (ti_lt n3 n5).2)
  have ef3 : ∀ f, f ≠ 4 → A3 f = A2 f := fun f q => (u5 f q).trans (u2 f q)
  obtain ⟨A4, o1, o2, o3, o4, o5, o6, o7, o8, o9, o10, o11⟩ := link_spec u4 (k := p) (v := w) (low := r1) (high := r2) (by rw [ef3 9 (by omega)]; exact (ti_lt n3 P1).2) hw9
  rw [ef3 0 (by omega)] at o2
  rw [ef3 1 (by omega)] at o3
  rw [ef3 2 (by omega)] at o4
  rw [ef3 3 (by omega), ef3 5 (by omega)] at o5
  rw [ef3 5 (by omega)] at o7
  rw [ef3 6 (by omega)] at o8
  rw [ef3 7 (by omega)] at o9
  rw [ef3 8 (by omega)] at o10
  rw [ef3 9 (by omega)] at o11
  have o64 : ∀ j, 2 ≤ j → A4 4 j = A2 4 j + (if j = r1 then 1 else 0) + (if j = r2 then 1 else 0) := fun j hj => by
    rw [o6, u6 j hj, u3 j hj]
  have tw4 := ti_write n3 tp hw9 (by rw [e27]; exact lw9) v1 n5 m6 n6 l1 l2 hdn o2 o3 o4 o5 o64 o7 o8 o9 o10 o11
  have oPl : A4 1 p = r1 := by rw [o3, fu_s]
  have oPh : A4 2 p = r2 := by rw [o4, fu_s]
  have rp1 : ∀ r, T r = false → r ≠ p := fun r q e => by rw [e, tp] at q; cases q
  -- who refers to the old grandchildren
  have cov1 : ∀ f, (f = lw A w (A 1 p) ∨ f = lw A w (A 2 p)) → ∃ j, V2 j = true ∧ (j = p ∨ A4 0 j = u) ∧ (A4 1 j = f ∨ A4 2 j = f) := fun f hf => by
    rcases m10 with ⟨q1, q2⟩ | ⟨q1, q2, q3, q4⟩
    · refine ⟨p, vp2, Or.inl rfl, Or.inl ?_⟩
      rw [oPl, q2]
      rcases hf with e | e
      · rw [e]
      · rw [e, q1]
    · have ne := rp1 r1 m6
      refine ⟨r1, ?_, Or.inr (by rw [o2, fu_n ne, v3, q2]), ?_⟩
      · rcases v1 with z | z
        · have := (m3.2.1.1 r1 q1).1; omega
        · exact z
      · rw [o3, o4, fu_n ne, fu_n ne, v4, v5, q3, q4]
        rcases hf with e | e
        · exact Or.inl e.symm
        · exact Or.inr e.symm
  have cov2 : ∀ f, (f = hw A w (A 1 p) ∨ f = hw A w (A 2 p)) → ∃ j, V2 j = true ∧ (j = p ∨ A4 0 j = u) ∧ (A4 1 j = f ∨ A4 2 j = f) := fun f hf => by
    rcases n10 with ⟨q1, q2⟩ | ⟨q1, q2, q3, q4⟩
    · refine ⟨p, vp2, Or.inl rfl, Or.inr ?_⟩
      rw [oPh, q2]
      rcases hf with e | e
      · rw [e]
      · rw [e, q1]
    · have ne := rp1 r2 n6
      refine ⟨r2, q1, Or.inr (by rw [o2, fu_n ne, q2]), ?_⟩
      rw [o3, o4, fu_n ne, fu_n ne, q3, q4]
      rcases hf with e | e
      · exact Or.inl e.symm
      · exact Or.inr e.symm
  have nd4 : nd_a A4 V2 := fun i q => by
    have i2 := (n3.2.1.1 i q).1
    rw [o64 i i2]
    by_cases c1 : i = r1
    · rw [if_pos c1]; omega
    · by_cases c2 : i = r2
      · rw [if_pos c2]; omega
      · have vi : V i = true := by
          have q' : V1 i = true := by
            rcases n8 with ⟨e, -⟩ | ⟨-, e, -⟩
            · rw [← e]; exact q
            · rw [e, fu_n c2] at q; exact q
          rcases m8 with ⟨e, -⟩ | ⟨-, e, -⟩
          · rw [← e]; exact q'
          · rw [e, fu_n c1] at q'; exact q'
        have := hnd2 i vi
        omega
  have c1p : A 1 p ≠ p := rp1 _ k1.1
  have c2p : A 2 p ≠ p := rp1 _ k2.1
  have ne12 : A 1 p ≠ A 2 p := gi_ne h2 vp
  -- what the old children look like after the write
  have old1 : A4 0 (A 1 p) = A 0 (A 1 p) ∧ A4 1 (A 1 p) = A 1 (A 1 p) ∧ A4 2 (A 1 p) = A 2 (A 1 p) := by
    obtain ⟨-, -, q3, q4, q5⟩ := gr1 _ w1
    rw [o2, o3, o4, fu_n c1p, fu_n c1p, fu_n c1p]
    exact ⟨q3, q4, q5⟩
  have old2 : A4 0 (A 2 p) = A 0 (A 2 p) ∧ A4 1 (A 2 p) = A 1 (A 2 p) ∧ A4 2 (A 2 p) = A 2 (A 2 p) := by
    obtain ⟨-, -, q3, q4, q5⟩ := gr1 _ w2
    rw [o2, o3, o4, fu_n c2p, fu_n c2p, fu_n c2p]
    exact ⟨q3, q4, q5⟩
  rw [P4, P5] at tw4
  -- first release
  have kid1 : V2 (A 1 p) = true → A4 4 (A 1 p) = 1 → A 0 (A 1 p) = w := fun q1 q2 => by
    have e8 := tw4.2.2.2.2.2.2.2.1 _ q1
    rw [q2] at e8
    by_cases e : A 0 (A 1 p) = w
    · exact e
    · exfalso
      have el : lw A w (A 1 p) = A 1 p := if_neg e
      obtain ⟨j, j1, -, j3⟩ := cov1 (A 1 p) (Or.inl el.symm)
      have := oc_pos1 (A := A4) (V := V2) (i := A 1 p) (j := j) (by have := (ti_lt tw4 (Or.inr j1)).2; have := tw4.2.2.2.2.2.1; omega) j1 j3
      dsimp only at e8
      rw [if_pos rfl] at e8
      omega
  obtain ⟨A5, V5, ch5, fl5, d1, d2, d3, d4, d5, d6, d7, d8, d9⟩ := release_spec o1 tw4 nd4 (fun i => by
      show ext i + (if i = A 1 p then 1 else 0) + (if i = A 2 p then 1 else 0) ≤ 1000
      have := hxb i
      have q1 : (if i = A 1 p then 1 else 0) ≤ 1 := by split <;> omega
      have q2 : (if i = A 2 p then 1 else 0) ≤ 1 := by split <;> omega
      omega) (x := A 1 p) (ext' := fun i => ext i + (if i = A 2 p then 1 else 0)) (gr1 _ w1).1 (by rw [fu_n c1p]; exact k1.1) (fun i => by
      show ext i + (if i = A 2 p then 1 else 0) + (if i = A 1 p then 1 else 0) = ext i + (if i = A 1 p then 1 else 0) + (if i = A 2 p then 1 else 0)
      omega) (fun q1 q2 c hc _ => by
      have e := kid1 q1 q2
      have key : ∃ j, V2 j = true ∧ (j = p ∨ A4 0 j = u) ∧ (A4 1 j = c ∨ A4 2 j = c) := by
        rcases hc with z | z
        · exact cov1 c (Or.inl (by rw [z, old1.2.1]; unfold lw; rw [if_pos e]))
        · exact cov2 c (Or.inl (by rw [z, old1.2.2]; unfold hw; rw [if_pos e]))
      obtain ⟨j, j1, j2, j3⟩ := key
      refine ⟨j, j1, fun z => ?_, j3⟩
      rcases j2 with y | y
      · exact c1p (z.symm.trans y)
      · rw [z, old1.1, e] at y
        exact uw y.symm)
  have V5V : ∀ j, V2 j = true → (j = p ∨ A4 0 j = u) → V5 j = true := fun j q1 q2 => by
    rcases d4 with e | ⟨e1, e2, e3⟩
    · rw [e]; exact q1
    · rw [e3, fu_n (fun z => ?_)]
      · exact q1
      · rcases q2 with y | y
        · exact c1p (z.symm.trans y)
        · rw [z, old1.1, kid1 e1 e2] at y
          exact uw y.symm
  have vl5 : vl V5 (A 2 p) := by
    rcases d4 with e | ⟨-, -, e3⟩
    · rw [e]; exact (gr1 _ w2).1
    · rcases (gr1 _ w2).1 with z | z
      · exact Or.inl z
      · exact Or.inr (by rw [e3, fu_n (fun y => ne12 y.symm)]; exact z)
  have E0 := d5 0 (by omega)
  have E1 := d5 1 (by omega)
  have E2 := d5 2 (by omega)
  have kid2 : V5 (A 2 p) = true → A5 4 (A 2 p) = 1 → A 0 (A 2 p) = w := fun q1 q2 => by
    have e8 := d2.2.2.2.2.2.2.2.1 _ q1
    rw [q2] at e8
    by_cases e : A 0 (A 2 p) = w
    · exact e
    · exfalso
      have el : lw A w (A 2 p) = A 2 p := if_neg e
      obtain ⟨j, j1, j2, j3⟩ := cov1 (A 2 p) (Or.inr el.symm)
      have j5 := V5V j j1 j2
      have := oc_pos1 (A := A5) (V := V5) (i := A 2 p) (j := j) (by have := (ti_lt d2 (Or.inr j5)).2; have := d2.2.2.2.2.2.1; omega) j5 (by rw [E1, E2]; exact j3)
      dsimp only at e8
      rw [if_pos rfl] at e8
      omega
  obtain ⟨A6, V6, ch6, fl6, f1, f2, f3, f4, f5, f6, f7, f8, f9⟩ := release_spec d1 d2 d3 (fun i => by
      show ext i + (if i = A 2 p then 1 else 0) ≤ 1000
      have := hxb i
      have q2 : (if i = A 2 p then 1 else 0) ≤ 1 := by split <;> omega
      omega) (x := A 2 p) (ext' := ext) vl5 (by rw [fu_n c2p]; exact k2.1) (fun i => rfl) (fun q1 q2 c hc _ => by
      have e := kid2 q1 q2
      have key : ∃ j, V2 j = true ∧ (j = p ∨ A4 0 j = u) ∧ (A4 1 j = c ∨ A4 2 j = c) := by
        rcases hc with z | z
        · exact cov1 c (Or.inr (by rw [z, E1, old2.2.1]; unfold lw; rw [if_pos e]))
        · exact cov2 c (Or.inr (by rw [z, E2, old2.2.2]; unfold hw; rw [if_pos e]))
      obtain ⟨j, j1, j2, j3⟩ := key
      refine ⟨j, V5V j j1 j2, fun z => ?_, by rw [E1, E2]; exact j3⟩
      rcases j2 with y | y
      · exact c2p (z.symm.trans y)
      · rw [z, old2.1, e] at y
        exact uw y.symm)
  -- the code
  have eA : j_rewriteA N (nI p) (nI u) (nI w) = (N1, nI r1) := by
    unfold j_rewriteA
    rw [g1, g2, a1, b1]
    exact m1
  have eB : j_rewriteB N N1 (nI p) (nI u) (nI w) = (N2, nI r2) := by
    unfold j_rewriteB
    rw [g1, g2, gh1, gh2]
    exact n1
  obtain ⟨X, hX⟩ : ∃ X, j_release (j_release (j_link (j_refer (j_refer N2 (nI r1) 1) (nI r2) 1) (nI p) (nI w) (nI r1) (nI r2)) (nI (A 1 p))) (nI (A 2 p)) = X := ⟨_, rfl⟩
  have ej : j_rewrite N (nI p) (nI u) (nI w) = up X 0 5 (X 0 5 + 1) := by
    unfold j_rewrite
    rw [eA]
    dsimp only
    rw [eB, g1, g2]
    have : j_rewrite1 (N1, nI r1) (N2, nI r2) (nI p) (nI w) (nI (A 1 p)) (nI (A 2 p)) = X := by
      unfold j_rewrite1 j_rewrite2
      exact hX
    rw [this]
  rw [hX] at f1
  have e9 : ∀ j, A4 9 j = A2 9 j := fun j => by rw [o11]
  refine ⟨A6, V6, dn2, ch6, fl6, by rw [ej]; exact mr_rew f1 _, f2, f3, fun i q => ?_, ?_, ?_, ?_, ?_, ?_, fun i q => (gr1 i q).2.1, fun hL => ?_⟩
  · have ip : i ≠ p := fun z => by rw [z, fu_s] at q; cases q
    have ti9 : T i = true := by rw [fu_n ip] at q; exact q
    have vi := (h2.2.2.2.2.2 i ti9).1
    have vi1 : V1 i = true := by
      have := (h2.1 i vi).1
      rcases (s1 i (Or.inr vi)).1 with z | z
      · omega
      · exact z
    rw [f6 i q, d6 i q, o5, fu_n ip, n9 i vi1, m9 i vi]
  · rw [f5 7 (by omega), d5 7 (by omega), o9, e27]
  · rw [f5 8 (by omega), d5 8 (by omega), o10, gr3]
  · rw [f7, d7, e9, gr4]
  · rw [f8, d8, e9, gr5]
  · have := e9 3
    omega
  · have q1 := c9_make (A := A) (V := V) (A' := A1) (V' := V1) hL lu s2 m6 (by
      rcases m8 with ⟨e, e', -⟩ | ⟨e, e', e'', -⟩
      · exact Or.inl ⟨e, by rw [e']⟩
      · exact Or.inr ⟨e, e', e''⟩)
    have q2 := c9_make (A := A1) (V := V1) (A' := A2) (V' := V2) (u := u) (T := T) hL (by rw [s2]; exact lu) t2 n6 (by
      rcases n8 with ⟨e, e', -⟩ | ⟨e, e', e'', -⟩
      · exact Or.inl ⟨e, by rw [e']⟩
      · exact Or.inr ⟨e, e', e''⟩)
    rw [← q1, ← q2]
    unfold c9_n
    refine pc_le (fun j _ q => ?_)
    rw [Bool.and_eq_true] at q ⊢
    have vj : V2 j = true := by
      have v5j : V5 j = true := by
        rcases f4 with e | ⟨-, -, e⟩
        · rw [← e]; exact q.1
        · have := q.1
          rw [e] at this
          by_cases z : j = A 2 p
          · rw [z, fu_s] at this; cases this
          · rw [fu_n z] at this; exact this
      rcases d4 with e | ⟨-, -, e⟩
      · rw [← e]; exact v5j
      · rw [e] at v5j
        by_cases z : j = A 1 p
        · rw [z, fu_s] at v5j; cases v5j
        · rw [fu_n z] at v5j; exact v5j
    refine ⟨vj, ?_⟩
    have q9 := q.2
    rw [f5 7 (by omega), d5 7 (by omega), f5 0 (by omega), E0, o9, o2] at q9
    by_cases z : j = p
    · rw [z, rk_f (fu_s _ _ _), fu_s, e27, lw9] at q9
      rw [z, rk_t tp]
      exact q9
    · have : rk (A2 7) (fu (A2 0) p w) (fu T p false) L j = rk (A2 7) (A2 0) T L j := by
        unfold rk
        rw [fu_n z, fu_n z]
      rw [this] at q9
      exact q9
end
