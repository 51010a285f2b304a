/-! swap, as a whole -/
theorem lp_swap {lv vr : Nat → Nat} (h : lp lv vr) {k u w : Nat} (hk : k + 1 < 12) (hu : vr k = u) (hw9 : vr (k + 1) = w) : lp (fu (fu lv w k) u (k + 1)) (fu (fu vr k w) (k + 1) u) := by
  obtain ⟨h1, h2, h3⟩ := id h
  obtain ⟨u1, u2⟩ := h2 k (by omega)
  obtain ⟨w1, w2⟩ := h2 (k + 1) (by omega)
  rw [hu] at u1 u2
  rw [hw9] at w1 w2
  have uw : u ≠ w := fun e => by rw [e, w2] at u2; omega
  refine ⟨fun v hv => ?_, fun m hm => ?_, ?_⟩
  · by_cases c1 : v = u
    · rw [c1, fu_s, fu_s]; exact ⟨by omega, rfl⟩
    · rw [fu_n c1]
      by_cases c2 : v = w
      · rw [c2, fu_s, fu_n (by omega), fu_s]; exact ⟨by omega, rfl⟩
      · rw [fu_n c2]
        obtain ⟨a, b⟩ := h1 v hv
        refine ⟨a, ?_⟩
        rw [fu_n (fun e => c2 (by rw [← b, e, hw9])), fu_n (fun e => c1 (by rw [← b, e, hu]))]
        exact b
  · by_cases c1 : m = k + 1
    · rw [c1, fu_s, fu_s]; exact ⟨u1, rfl⟩
    · rw [fu_n c1]
      by_cases c2 : m = k
      · rw [c2, fu_s, fu_n (fun e => uw e.symm), fu_s]; exact ⟨w1, rfl⟩
      · rw [fu_n c2]
        obtain ⟨a, b⟩ := h2 m hm
        refine ⟨a, ?_⟩
        rw [fu_n (fun e => c2 (by rw [← b, e, u2])), fu_n (fun e => c1 (by rw [← b, e, w2]))]
        exact b
  · have e1 : (12 : Nat) ≠ u := fun e => by rw [← e, h3] at u2; omega
    have e2 : (12 : Nat) ≠ w := fun e => by rw [← e, h3] at w2; omega
    rw [fu_n e1, fu_n e2]; exact h3
set_option maxHeartbeats 2000000 in
theorem swap_spec {N : Mm} {A : Am} {V : Nat → Bool} {dn : Nat → Bf} {ch : Nat → List Nat} {fl : List Nat} {sl : Nat → Nat} (hm : mr N A) (h : tn A V dn ch fl (ex sl)) (hn : nd_a A V) {k : Nat} (hk : k + 1 < 12) :
    ∃ (A' : Am) (V' : Nat → Bool) (dn' : Nat → Bf) (ch' : Nat → List Nat) (fl' : List Nat), mr (j_swap N (nI k)) A' ∧ tn A' V' dn' ch' fl' (ex sl) ∧ nd_a A' V' ∧ A' 9 4 = A 9 4 ∧ (∀ i, (i ≤ 1 ∨ 0 < ex sl i) → dn' i = dn i) := by
  obtain ⟨h1, h2, h3, h4, h5, h6, h7, h8, h9, h10⟩ := id h
  obtain ⟨u, hu9⟩ : ∃ u, A 8 k = u := ⟨_, rfl⟩
  obtain ⟨w, hw9⟩ : ∃ w, A 8 (k + 1) = w := ⟨_, rfl⟩
  have hu : u < 12 := by rw [← hu9]; exact lp_vr h1 (by omega)
  have hw : w < 12 := by rw [← hw9]; exact lp_vr h1 (by omega)
  have lu : A 7 u = k := by rw [← hu9]; exact (h1.2.1 k (by omega)).2
  have lw9 : A 7 w = k + 1 := by rw [← hw9]; exact (h1.2.1 (k + 1) (by omega)).2
  have uw : u ≠ w := fun e => by rw [e, lw9] at lu; omega
  have n5a : N 5 k = nI u := by rw [hm.2.2.2.2.2.1 k (by omega), hu9]
  have n5b : N 5 (k + 1) = nI w := by rw [hm.2.2.2.2.2.1 (k + 1) (by omega), hw9]
  have m1 := mr_vars hm (j := k) w
  have m2 := mr_vars m1 (j := k + 1) u
  have m3 := mr_levs m2 (j := w) k
  have m4 := mr_levs m3 (j := u) (k + 1)
  have ej1 : j_swap N (nI k) = j_swap2 (up (up (up (up N 5 k (nI w)) 5 (k + 1) (nI u)) 4 w (nI k)) 4 u (nI (k + 1))) (nI u) (nI w) := by
    unfold j_swap j_swap1
    rw [nI_1, nI_clamp (by omega : k < 2 ^ 31), nI_clamp (by omega : k + 1 < 2 ^ 31), n5a, n5b, if_neg (nI_pos (by omega)), if_neg (show ¬ (12 : Int32) ≤ nI (k + 1) from nI_ge (a := k + 1) (b := 12) hk (by omega)), if_neg (nI_ge (by omega) (by omega)), if_neg (nI_pos (by omega)), if_neg (nI_ge (by omega) (by omega)), if_neg (nI_pos (by omega)), if_neg (nI_ge (by omega) (by omega)), nI_clamp (by omega : u < 2 ^ 31), nI_clamp (by omega : w < 2 ^ 31)]
  rw [ej1]
  obtain ⟨N1, hN1⟩ : ∃ M, up (up (up (up N 5 k (nI w)) 5 (k + 1) (nI u)) 4 w (nI k)) 4 u (nI (k + 1)) = M := ⟨_, rfl⟩
  obtain ⟨A1, hA1⟩ : ∃ B, am (am (am (am A 8 k w) 8 (k + 1) u) 7 w k) 7 u (k + 1) = B := ⟨_, rfl⟩
  rw [hN1, hA1] at m4
  rw [hN1]
  have e17 : A1 7 = fu (fu (A 7) w k) u (k + 1) := by rw [← hA1, am_s, am_s, am_n (by omega), am_n (by omega)]
  have e18 : A1 8 = fu (fu (A 8) k w) (k + 1) u := by rw [← hA1, am_n (by omega), am_n (by omega), am_s, am_s]
  have e1n : ∀ f, f ≠ 7 → f ≠ 8 → A1 f = A f := fun f q1 q2 => by rw [← hA1, am_n q1, am_n q1, am_n q2, am_n q2]
  have hlp : lp (A1 7) (A1 8) := by rw [e17, e18]; exact lp_swap h1 hk hu9 hw9
  have l1 : A1 7 w = k := by rw [e17, fu_n (fun e => uw e.symm), fu_s]
  have l2 : A1 7 u = k + 1 := by rw [e17, fu_s]
  have l3 : ∀ x, x ≠ u → x ≠ w → A1 7 x = A 7 x := fun x q1 q2 => by rw [e17, fu_n q1, fu_n q2]
  have hgk : gi (A 7) V (fun _ => false) k (A 0) (A 1) (A 2) dn := gi_L h2 (fun _ => rfl) k
  have hf1 : j_heldFor N1 (nI u) = nI (A 6 u) := by rw [mr_hef m4 hu, e1n 6 (by omega) (by omega)]
  have hf2 : j_heldFor N1 (nI w) = nI (A 6 w) := by rw [mr_hef m4 hw, e1n 6 (by omega) (by omega)]
  have b6 : ∀ v, v < 12 → A 6 v ≤ 24800 := fun v hv => by rw [h9 v hv]; exact pc_lt _ _
  have bu := b6 u hu
  have bw := b6 w hw
  have gT : gi (A1 7) V (fun i => V i && (A 0 i == u && (A 0 (A 1 i) == w || A 0 (A 2 i) == w))) k (A 0) (A 1) (A 2) dn := gi_turn hgk h1 hk hu hw lu lw9 l1 l2 l3 (fun _ => rfl)
  by_cases c0 : A 6 u = 0 ∨ A 6 w = 0
  · have ej : j_swap2 N1 (nI u) (nI w) = N1 := by
      unfold j_swap2
      rw [hf1, hf2]
      rcases c0 with q | q
      · rw [q, nI_0, if_pos rfl]
      · rw [q, nI_0, if_pos rfl]
        split
        · rfl
        · rfl
    rw [ej]
    have hno : ∀ v, v < 12 → A 6 v = 0 → ∀ i, V i = true → A 0 i ≠ v := fun v hv q i vi e => by
      have := pc_pos (P := fun j => V j && (!nT j && A 0 j == v)) (n := 24800) (k := i) (by have := h5 i vi; omega) (by rw [vi, e]; simp [nT])
      rw [← h9 v hv, q] at this
      omega
    have T0 : (fun i => V i && (A 0 i == u && (A 0 (A 1 i) == w || A 0 (A 2 i) == w))) = nT := funext fun i => by
      show (V i && (A 0 i == u && (A 0 (A 1 i) == w || A 0 (A 2 i) == w))) = false
      cases e : (V i && (A 0 i == u && (A 0 (A 1 i) == w || A 0 (A 2 i) == w)))
      · rfl
      · exfalso
        simp only [Bool.and_eq_true, beq_iff_eq, Bool.or_eq_true] at e
        obtain ⟨vi, iu, kw⟩ := e
        rcases c0 with q | q
        · exact hno u hu q i vi iu
        · obtain ⟨-, -, c1, c2⟩ := h2.1 i vi
          have key : ∀ c, vl V c → A 0 c = w → False := fun c hc e => by
            rcases hc with z | z
            · have := gi_end h2 z; omega
            · exact hno w hw q c z e
          rcases kw with z | z
          · exact key _ c1 z
          · exact key _ c2 z
    rw [T0] at gT
    refine ⟨A1, V, dn, ch, fl, m4, ⟨hlp, by rw [e1n 0 (by omega) (by omega), e1n 1 (by omega) (by omega), e1n 2 (by omega) (by omega)]; exact gi_L gT (fun _ => rfl) 0, fun c q => by rw [e1n 3 (by omega) (by omega), e1n 5 (by omega) (by omega), e1n 0 (by omega) (by omega), e1n 1 (by omega) (by omega), e1n 2 (by omega) (by omega)]; exact h3 c q, ⟨by rw [e1n 3 (by omega) (by omega), e1n 9 (by omega) (by omega)]; exact h4.1, h4.2.1, by rw [e1n 9 (by omega) (by omega)]; exact h4.2.2⟩, by rw [e1n 9 (by omega) (by omega)]; exact h5, by rw [e1n 9 (by omega) (by omega)]; exact h6, by rw [e1n 9 (by omega) (by omega)]; exact h7, fun i q => ?_, by rw [e1n 6 (by omega) (by omega), e1n 0 (by omega) (by omega)]; exact h9, h10⟩, fun i q => by rw [e1n 4 (by omega) (by omega)]; exact hn i q, by rw [e1n 9 (by omega) (by omega)], fun _ _ => rfl⟩
    rw [e1n 4 (by omega) (by omega), h8 i q]
    unfold oc
    rw [e1n 1 (by omega) (by omega), e1n 2 (by omega) (by omega)]
  · have cu : A 6 u ≠ 0 := fun q => c0 (Or.inl q)
    have cw : A 6 w ≠ 0 := fun q => c0 (Or.inr q)
    have sz := nd_size h hn
    have n3 : N1 0 3 = nI (A 9 3) := by rw [m4.1 3 (by omega), e1n 9 (by omega) (by omega)]
    have ej : j_swap2 N1 (nI u) (nI w) = j_swap3 (j_widen N1 (nI (A 9 3 + 2 * A 6 u))) (nI u) (nI w) := by
      unfold j_swap2
      rw [hf1, hf2, if_neg (nI_ne0 (by omega) (by omega)), if_neg (nI_ne0 (by omega) (by omega)), n3, show (2 : Int32) = nI 2 from rfl, pk_mul, nI_add]
    rw [ej]
    obtain ⟨A2, q1, q2, q3, q4, q5, q6, q7⟩ := widen_mem m4 (w := A 9 3 + 2 * A 6 u) (by omega)
    rw [e1n 9 (by omega) (by omega)] at q2 q4 q5
    obtain ⟨N2, hN2⟩ : ∃ M, j_widen N1 (nI (A 9 3 + 2 * A 6 u)) = M := ⟨_, rfl⟩
    rw [hN2] at q1
    rw [hN2]
    -- the table before the levels changed, but wide
    obtain ⟨B, hB⟩ : ∃ B : Am, fu (fu A2 7 (A 7)) 8 (A 8) = B := ⟨_, rfl⟩
    have B7 : B 7 = A 7 := by rw [← hB, fu_n (by omega), fu_s]
    have B8 : B 8 = A 8 := by rw [← hB, fu_s]
    have Bn : ∀ f, f ≠ 7 → f ≠ 8 → B f = A2 f := fun f z1 z2 => by rw [← hB, fu_n z2, fu_n z1]
    have A27 : A2 7 = A1 7 := q3 7 (by omega) (by omega)
    have A28 : A2 8 = A1 8 := q3 8 (by omega) (by omega)
    have tB : tn B V dn ch fl (ex sl) := ti_cg h (fun f i hf hi => by
        rw [Bn f (by omega) (by omega), q2 f i hf (by omega), e1n f (by omega) (by omega)]) (fun f f1 f2 => by
        by_cases z1 : f = 7
        · rw [z1, B7]
        · by_cases z2 : f = 8
          · rw [z2, B8]
          · rw [Bn f z1 z2, q3 f f1 f2, e1n f z1 z2]) (by rw [Bn 9 (by omega) (by omega), q4 1 (by omega)]) (by rw [Bn 9 (by omega) (by omega), q4 2 (by omega)]) (by rw [Bn 9 (by omega) (by omega), q4 3 (by omega)]) (by rw [Bn 9 (by omega) (by omega)]; exact q5) (by rw [Bn 9 (by omega) (by omega)]; exact q6)
    obtain ⟨k1, k2, k3, ⟨kf1, kf2, kf3⟩, k5, k6, k7, k8, k9, k10⟩ := id tB
    rw [B7, Bn 0 (by omega) (by omega), Bn 1 (by omega) (by omega), Bn 2 (by omega) (by omega)] at k2
    have gk2 : gi (A 7) V (fun _ => false) k (A2 0) (A2 1) (A2 2) dn := gi_L k2 (fun _ => rfl) k
    obtain ⟨T, hT⟩ : ∃ T : Nat → Bool, ∀ i, T i = (V i && (A2 0 i == u && (A2 0 (A2 1 i) == w || A2 0 (A2 2 i) == w))) := ⟨_, fun _ => rfl⟩
    have gT2 : gi (A2 7) V T k (A2 0) (A2 1) (A2 2) dn := gi_turn gk2 h1 hk hu hw lu lw9 (by rw [A27]; exact l1) (by rw [A27]; exact l2) (fun x z1 z2 => by rw [A27]; exact l3 x z1 z2) hT
    have lt2 : ∀ i, vl V i → i < A2 9 0 := fun i z => by
      have := (ti_lt tB z).2
      rw [Bn 9 (by omega) (by omega)] at this
      exact this
    have hBB : ∀ i, V i = true → 2 ≤ i ∧ i < A2 9 0 ∧ A2 1 i < A2 9 0 ∧ A2 2 i < A2 9 0 ∧ A2 0 (A2 1 i) < 13 ∧ A2 0 (A2 2 i) < 13 := fun i z => by
      obtain ⟨a, b, c, d⟩ := k2.1 i z
      exact ⟨a, lt2 i (Or.inr z), lt2 _ c, lt2 _ d, gi_va k2 c, gi_va k2 d⟩
    have d0 : dst A2 V T fl N2 A2 [] 0 := ⟨q1, fun _ _ _ _ => rfl, rfl, List.nodup_nil, (fun i z => by cases z), by
        rw [Bn 3 (by omega) (by omega), Bn 9 (by omega) (by omega)] at kf1; exact kf1, fun v hv => by
        have := k9 v hv
        rw [Bn 6 (by omega) (by omega), Bn 0 (by omega) (by omega)] at this
        rw [Tl_0]
        exact this⟩
    have c00 : chs A2 V (Tl []) ch := fun c z => by
      have := k3 c z
      rw [Bn 3 (by omega) (by omega), Bn 5 (by omega) (by omega), Bn 0 (by omega) (by omega), Bn 1 (by omega) (by omega), Bn 2 (by omega) (by omega)] at this
      rw [Tl_0]
      exact this
    obtain ⟨N3, A3, taken, tl, ch3, y1, y2, y3, y4⟩ := detachH_spec hu hw hBB q6 (fun i z => ((kf3 i).mp z).2.2) hT 64 0 N2 A2 0 [] ch (by omega) d0 c00 (fun i _ z => by omega)
    obtain ⟨z1, z2, z3, z4, z5, z6, z7⟩ := id y2
    have eT : Tl tl = T := funext fun i => by
      cases e : T i
      · rw [Tl_f]
        intro q
        have := (z5 i q).2
        rw [e] at this; cases this
      · exact Tl_t.mpr (y4 i e)
    rw [eT] at y3 z7
    have eD : j_detach N2 (nI u) (nI w) = (N3, nI taken) := by
      unfold j_detach
      rw [show (64 : Int32) = nI 64 from rfl, pk_mul]
      exact y1
    have ej3 : j_swap3 N2 (nI u) (nI w) = j_swapL (nI u) (nI w) 24800 N3 (nI taken) := by
      unfold j_swap3
      rw [eD]
    rw [ej3]
    have A3n : ∀ f, f ≠ 3 → f ≠ 5 → f ≠ 6 → f ≠ 7 → f ≠ 8 → A3 f = B f := fun f a b c d e => by rw [z2 f a b c, Bn f d e]
    have A37 : A3 7 = A1 7 := by rw [z2 7 (by omega) (by omega) (by omega), A27]
    have A38 : A3 8 = A1 8 := by rw [z2 8 (by omega) (by omega) (by omega), A28]
    have t3 : ti A3 V T k dn ch3 fl (ex sl) := by
      refine ⟨by rw [A37, A38]; exact hlp, by rw [A37, z2 0 (by omega) (by omega) (by omega), z2 1 (by omega) (by omega) (by omega), z2 2 (by omega) (by omega) (by omega), ← A27]; exact gT2, y3, ⟨z6, kf2, by rw [A3n 9 (by omega) (by omega) (by omega) (by omega) (by omega)]; exact kf3⟩, by rw [A3n 9 (by omega) (by omega) (by omega) (by omega) (by omega)]; exact k5, by rw [A3n 9 (by omega) (by omega) (by omega) (by omega) (by omega)]; exact k6, by rw [A3n 9 (by omega) (by omega) (by omega) (by omega) (by omega)]; exact k7, fun i q => ?_, z7, k10⟩
      rw [A3n 4 (by omega) (by omega) (by omega) (by omega) (by omega), k8 i q]
      unfold oc
      rw [A3n 1 (by omega) (by omega) (by omega) (by omega) (by omega), A3n 2 (by omega) (by omega) (by omega) (by omega) (by omega)]
    have B93 : B 9 3 = A 9 3 := by rw [Bn 9 (by omega) (by omega), q4 3 (by omega)]
    have nd3 : nd_a A3 V := fun i q => by
      rw [A3n 4 (by omega) (by omega) (by omega) (by omega) (by omega), Bn 4 (by omega) (by omega), q2 4 i (by omega) (by have := h5 i q; omega), e1n 4 (by omega) (by omega)]
      exact hn i q
    have tlen : tl.length ≤ A 6 u := by
      rw [h9 u hu]
      refine pc_list z4 (fun x q => ?_)
      obtain ⟨vx, tx⟩ := z5 x q
      rw [hT x] at tx
      simp only [Bool.and_eq_true, beq_iff_eq] at tx
      have xu := h5 x vx
      have e0 : A2 0 x = A 0 x := by rw [q2 0 x (by omega) (by omega), e1n 0 (by omega) (by omega)]
      refine ⟨by omega, ?_⟩
      rw [vx, ← e0, tx.2.1]
      simp [nT]
    have A390 : A3 9 0 = A2 9 0 := by rw [z2 9 (by omega) (by omega) (by omega)]
    have A393 : A3 9 3 = A 9 3 := by rw [A3n 9 (by omega) (by omega) (by omega) (by omega) (by omega), B93]
    have hroom : A3 9 3 + 2 * tl.length + 2 ≤ A3 9 0 ∨ (8 ≤ k ∧ A3 9 0 = 24800 ∧ c9_n A3 V T k ≤ 16606) := by
      rw [A390, A393]
      by_cases c1 : A 9 3 + 2 * A 6 u + 2 ≤ 24800
      · rw [Nat.min_eq_left c1] at q7
        exact Or.inl (by omega)
      · rw [Nat.min_eq_right (by omega)] at q7
        refine Or.inr ⟨?_, by omega, ?_⟩
        · rcases Nat.lt_or_ge k 8 with z | z
          · exfalso
            have lev := gi_level h2 h1 (nd_hr h hn) 24800 k
            have le6 : A 6 u ≤ 32 * 2 ^ k := by
              rw [h9 u hu]
              refine Nat.le_trans (pc_le (fun j _ q => ?_)) lev
              simp only [Bool.and_eq_true, beq_iff_eq] at q ⊢
              exact ⟨q.1, by rw [q.2.2, lu]⟩
            have p7 : 2 ^ k ≤ 128 := Nat.pow_le_pow_right (n := 2) (by omega) (by omega : k ≤ 7)
            omega
          · exact z
        · refine Nat.le_trans (pc_le (Q := V) (fun j _ q => ?_)) (by rw [← h7]; exact sz)
          rw [Bool.and_eq_true] at q
          exact q.1
    have tl24 : tl.length ≤ 24800 := by omega
    obtain ⟨A', V', dn', ch', fl', r1, r2, r3, r4, r5⟩ := swapL_spec (ext := ex sl) (ex_le sl) hu hw 24800 tl taken N3 A3 V T dn ch3 fl z1 t3 nd3 z3 z4 (fun i => by rw [← eT]; exact Tl_t.symm) tl24 (by rw [A37]; exact l2) (by rw [A37]; exact l1) hroom
    exact ⟨A', V', dn', ch', fl', r1, r2, r3, by rw [r4, A3n 9 (by omega) (by omega) (by omega) (by omega) (by omega), Bn 9 (by omega) (by omega), q4 4 (by omega)], r5⟩
