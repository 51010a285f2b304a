/-! make once more: what it leaves alone, and where its node stands -/
section
variable {N : Mm} {A : Am} {V T : Nat → Bool} {L : Nat} {dn : Nat → Bf} {ch : Nat → List Nat} {fl : List Nat} {ext : Nat → Nat}
theorem make_spec2 (hm : mr N A) (h : ti A V T L dn ch fl ext) {v low high : Nat} (hv : v < 12) (hTL : ∀ i, T i = true → L < A 7 v) (hl : vl V low) (hh : vl V high) (tl : T low = false) (th : T high = false) (ll : A 7 v < A 7 (A 0 low)) (lh : A 7 v < A 7 (A 0 high))
    (hroom : ∀ k, V k = false → 2 ≤ k → k ≤ 24800 → gi (A 7) (fu V k true) T L (fu (A 0) k v) (fu (A 1) k low) (fu (A 2) k high) (fu dn k (mk v (dn low) (dn high))) → A 9 3 + 2 < A 9 0) :
    ∃ (N' : Mm) (A' : Am) (V' : Nat → Bool) (dn' : Nat → Bf) (ch' : Nat → List Nat) (fl' : List Nat) (r : Nat), j_make N (nI v) (nI low) (nI high) = (N', nI r) ∧ mr N' A' ∧ ti A' V' T L dn' ch' fl' ext ∧ grow A V dn A' V' dn' ∧ vl V' r ∧ T r = false ∧ dn' r = mk v (dn low) (dn high) ∧
      ((V' = V ∧ A' = A ∧ dn' = dn) ∨ (V r = false ∧ V' = fu V r true ∧ A' 0 = fu (A 0) r v ∧ A' 1 = fu (A 1) r low ∧ A' 2 = fu (A 2) r high ∧ A' 9 3 = A 9 3 + 1)) ∧ (∀ i, V i = true → A' 3 i = A 3 i) ∧ ((low = high ∧ r = low) ∨ (V' r = true ∧ A' 0 r = v ∧ A' 1 r = low ∧ A' 2 r = high)) := by
  have hR := hm.2.2.2.2.2.2.2
  obtain ⟨h1, h2, h3, h4, h5, h6, h7, h8, h9, h10⟩ := id h
  have bl := (ti_lt h hl).2
  have bh := (ti_lt h hh).2
  by_cases e : low = high
  · refine ⟨N, A, V, dn, ch, fl, low, ?_, hm, h, grow_rf _ _ _, hl, tl, ?_, Or.inl ⟨rfl, rfl, rfl⟩, fun _ _ => rfl, Or.inl ⟨e, rfl⟩⟩
    · unfold j_make; rw [if_pos (by rw [e])]
    · rw [← e, mk_same]
  · have en : ¬ nI low = nI high := fun q => e ((nI_eq (by omega) (by omega)).mp q)
    have hc1 : hc v low high < 768 := hc_lt hv
    have e2 : N 2 (hc v low high) = nI (A 5 (hc v low high)) := hm.2.2.1 _ hc1
    obtain ⟨c1, c2, c3⟩ := h3 _ hc1
    have hin : ∀ x ∈ ch (hc v low high), V x = true ∧ T x = false ∧ hc (A 0 x) (A 1 x) (A 2 x) = hc v low high := fun x hx => (c3 x).mp hx
    have hlen : (ch (hc v low high)).length ≤ 24800 := Nat.le_trans (pc_list (P := V) (n := 24800) c2 (fun x hx => ⟨by have := h5 x (hin x hx).1; omega, (hin x hx).1⟩)) (pc_lt _ _)
    have ej : j_make N (nI v) (nI low) (nI high) = if j_findL N (nI low) (nI high) 24800 (nI (A 5 (hc v low high))) = 0 then j_fresh2 N (nI v) (nI low) (nI high) else (N, j_findL N (nI low) (nI high) 24800 (nI (A 5 (hc v low high)))) := by
      unfold j_make
      rw [if_neg en, j_chain, if_neg (nI_pos (by omega)), if_neg (nI_ge hc1 (by omega)), nI_clamp (by omega : hc v low high < 2 ^ 31), e2]
    rcases findL_spec hm (low := low) (high := high) (by omega) (by omega) 24800 _ _ c1 hlen (fun x hx => by
      obtain ⟨q1, q2, q3⟩ := hin x hx
      obtain ⟨-, -, k1, k2⟩ := h2.1 x q1
      have t1 := (ti_lt h k1).2
      have t2 := (ti_lt h k2).2
      have t3 := h5 x q1
      omega) with ⟨f1, f2⟩ | ⟨x, x1, x2, x3, x4⟩
    · have nf : ∀ j, V j = true → T j = false → A 0 j = v → A 1 j = low → A 2 j = high → False := fun j q1 q2 q3 q4 q5 => f2 j ((c3 j).mpr ⟨q1, q2, by rw [q3, q4, q5]⟩) ⟨q4, q5⟩
      have hU : V (A 9 1) = false := by
        cases q : V (A 9 1)
        · rfl
        · have := h5 _ q; omega
      have hrm := hroom _ hU h6.1 (by omega) (gi_add h2 h1 hv hTL hl hh tl th ll lh e nf hU h6.1)
      obtain ⟨k, A1, fl1, k1, m1, k2, k3, k4, p1, p2, p3, p4, p5, p6, p7, p8, p9, p10, p11⟩ := fresh_spec hm h hrm
      obtain ⟨A2, m2, q1, q2⟩ := refer_up m1 (i := low) (by rw [p3]; exact bl)
      have q19 : A2 9 = A1 9 := q1 9 (by omega)
      obtain ⟨A3, m3, r1, r2⟩ := refer_up m2 (i := high) (by rw [q19, p3]; exact bh)
      have r19 : A3 9 = A1 9 := (r1 9 (by omega)).trans q19
      obtain ⟨A4, m4, s0, s1, s2, s3, s4, s5, s6, s7, s8, s9⟩ := link_spec m3 (k := k) (v := v) (low := low) (high := high) (by rw [r19, p3]; exact k3) hv
      have hf : ∀ f, f ≠ 9 → f ≠ 4 → A3 f = A f := fun f g1 g2 => by rw [r1 f g2, q1 f g2, p1 f g1 g2]
      rw [hf 0 (by omega) (by omega)] at s0
      rw [hf 1 (by omega) (by omega)] at s1
      rw [hf 2 (by omega) (by omega)] at s2
      rw [hf 3 (by omega) (by omega), hf 5 (by omega) (by omega)] at s3
      rw [hf 5 (by omega) (by omega)] at s5
      rw [hf 6 (by omega) (by omega)] at s6
      rw [hf 7 (by omega) (by omega)] at s7
      rw [hf 8 (by omega) (by omega)] at s8
      rw [r19] at s9
      have ej2 : j_make N (nI v) (nI low) (nI high) = (j_link (j_refer (j_refer (j_freshRow N).1 (nI low) 1) (nI high) 1) (nI k) (nI v) (nI low) (nI high), nI k) := by
        rw [ej, if_pos f1]
        unfold j_fresh2
        rw [k1, if_neg (nI_ne0 (by omega) (by omega))]
      have hgi := gi_add h2 h1 hv hTL hl hh tl th ll lh e nf k4 k2
      have hkl : ∀ c, vl V c → c ≠ k := fun c hc e => by
        rcases hc with q | q
        · omega
        · rw [e, k4] at q; cases q
      refine ⟨_, A4, fu V k true, fu dn k (mk v (dn low) (dn high)), fu ch (hc v low high) (k :: ch (hc v low high)), fl1, k, ej2, m4, ?_, ⟨fun i hi => ?_, s7, s8, by rw [s9, p3], by rw [s9, p4]⟩, Or.inr (fu_s _ _ _), ?_, fu_s _ _ _, Or.inr ⟨k4, rfl, s0, s1, s2, by rw [s9, p5]⟩, fun i hi => by rw [s3, fu_n (hkl i (Or.inr hi))], Or.inr ⟨fu_s _ _ _, by rw [s0, fu_s], by rw [s1, fu_s], by rw [s2, fu_s]⟩⟩
      · refine ti_add h hv hl hh k4 k2 hgi s0 s1 s2 s3 s5 s6 s7 s8 (fun j hj => ?_) (by rw [s9, p3]) (by rw [s9, p5]) (by rw [s9]; exact p6) (by rw [s9]; exact p7) (by rw [s9]; exact p8) (by rw [s9]; exact p9) p10 (by rw [s9]; exact p11)
        rw [s4, r2 j hj, q2 j hj, p2]
      · have ne := hkl i hi
        rw [s0, s1, s2, fu_n ne, fu_n ne, fu_n ne, fu_n ne]
        refine ⟨?_, rfl, rfl, rfl, rfl⟩
        rcases hi with q | q
        · exact Or.inl q
        · exact Or.inr (by rw [fu_n ne]; exact q)
      · cases q : T k
        · rfl
        · have := (h2.2.2.2.2.2 k q).1
          rw [k4] at this; cases this
    · obtain ⟨q1, q2, q3⟩ := hin x x1
      have ev : A 0 x = v := by
        rw [x2, x3] at q3
        unfold hc at q3
        omega
      have ej2 : j_make N (nI v) (nI low) (nI high) = (N, nI x) := by
        rw [ej, x4, if_neg (nI_ne0 (by have := (h2.1 x q1).1; omega) (by have := h5 x q1; omega))]
      refine ⟨N, A, V, dn, ch, fl, x, ej2, hm, h, grow_rf _ _ _, Or.inr q1, q2, ?_, Or.inl ⟨rfl, rfl, rfl⟩, fun _ _ => rfl, Or.inr ⟨q1, ev, x2, x3⟩⟩
      rw [h2.2.2.1 x q1, ev, x2, x3]
end
