/-! A NEW NODE in the table, and what make gives. -/
section
variable {N : Mm} {A A' : Am} {V T : Nat → Bool} {L : Nat} {dn : Nat → Bf} {ch : Nat → List Nat} {fl : List Nat} {ext : Nat → Nat}
theorem oc_new (h : gi (A 7) V T L (A 0) (A 1) (A 2) dn) {k low high : Nat} (hk : V k = false) (hk2 : k < 24800) (e1 : A' 1 = fu (A 1) k low) (e2 : A' 2 = fu (A 2) k high) (i : Nat) : oc A' (fu V k true) i = oc A V i + (if i = low then 1 else 0) + (if i = high then 1 else 0) := by
  unfold oc
  have c1 := pc_one (P := fun j => V j && A 1 j == i) (Q := fun j => fu V k true j && A' 1 j == i) (k := k) hk2 (fun j hj => by show (fu V k true j && A' 1 j == i) = (V j && A 1 j == i); rw [e1, fu_n hj, fu_n hj])
  have c2 := pc_one (P := fun j => V j && A 2 j == i) (Q := fun j => fu V k true j && A' 2 j == i) (k := k) hk2 (fun j hj => by show (fu V k true j && A' 2 j == i) = (V j && A 2 j == i); rw [e2, fu_n hj, fu_n hj])
  simp only [hk, Bool.false_and, Bool.toNat_false, e1, e2, fu_s, Bool.true_and] at c1 c2
  rw [e1, e2]
  have d1 : (low == i).toNat = if i = low then 1 else 0 := by
    by_cases q : i = low
    · subst q; simp
    · rw [if_neg q]; simp; exact fun z => q z.symm
  have d2 : (high == i).toNat = if i = high then 1 else 0 := by
    by_cases q : i = high
    · subst q; simp
    · rw [if_neg q]; simp; exact fun z => q z.symm
  rw [d1] at c1
  rw [d2] at c2
  omega
/-- nobody refers to what is not there -/
theorem oc_none (h : gi (A 7) V T L (A 0) (A 1) (A 2) dn) {k : Nat} (hk : V k = false) (hk2 : 2 ≤ k) : oc A V k = 0 := by
  unfold oc
  have key : ∀ c, vl V c → c ≠ k := fun c hc e => by
    rcases hc with q | q
    · omega
    · rw [e, hk] at q; cases q
  rw [pc_none (fun j _ => ?_), pc_none (fun j _ => ?_)]
  · cases q : V j
    · rfl
    · have := key _ (h.1 j q).2.2.2
      simpa using this
  · cases q : V j
    · rfl
    · have := key _ (h.1 j q).2.2.1
      simpa using this
theorem ti_add (h : ti A V T L dn ch fl ext) {k v low high : Nat} {fl1 : List Nat} (hv : v < 12) (hl : vl V low) (hh : vl V high) (hk : V k = false) (hk2 : 2 ≤ k)
    (hg : gi (A 7) (fu V k true) T L (fu (A 0) k v) (fu (A 1) k low) (fu (A 2) k high) (fu dn k (mk v (dn low) (dn high))))
    (e0 : A' 0 = fu (A 0) k v) (e1 : A' 1 = fu (A 1) k low) (e2 : A' 2 = fu (A 2) k high) (e3 : A' 3 = fu (A 3) k (A 5 (hc v low high))) (e5 : A' 5 = fu (A 5) (hc v low high) k) (e6 : A' 6 = fu (A 6) v (A 6 v + 1)) (e7 : A' 7 = A 7) (e8 : A' 8 = A 8)
    (e4 : ∀ j, 2 ≤ j → A' 4 j = fu (A 4) k 0 j + (if j = low then 1 else 0) + (if j = high then 1 else 0))
    (z0 : A' 9 0 = A 9 0) (z3 : A' 9 3 = A 9 3 + 1) (z1 : k < A' 9 1) (z2 : A 9 1 ≤ A' 9 1) (z4 : A' 9 1 ≤ A 9 0)
    (g1 : pl_lst (A 3) (A' 9 2) fl1) (g2 : fl1.Nodup) (g3 : ∀ i, i ∈ fl1 ↔ (2 ≤ i ∧ i < A' 9 1 ∧ fu V k true i = false)) :
    ti A' (fu V k true) T L (fu dn k (mk v (dn low) (dn high))) (fu ch (hc v low high) (k :: ch (hc v low high))) fl1 ext := by
  obtain ⟨h1, h2, h3, h4, h5, h6, h7, h8, h9, h10⟩ := h
  have hTk : T k = false := by
    cases e : T k
    · rfl
    · have := (h2.2.2.2.2.2 k e).1
      rw [hk] at this; cases this
  have hk3 : k < 24800 := by omega
  have hc1 : hc v low high < 768 := hc_lt hv
  have hkl : ∀ c, vl V c → c ≠ k := fun c hc e => by
    rcases hc with q | q
    · omega
    · rw [e, hk] at q; cases q
  refine ⟨by rw [e7, e8]; exact h1, by rw [e7, e0, e1, e2]; exact hg, fun c hcc => ?_, ⟨?_, g2, g3⟩, fun i q => ?_, ?_, ?_, fun i q => ?_, fun u hu => ?_, fun i q2 q => ?_⟩
  · obtain ⟨a1, a2, a3⟩ := h3 c hcc
    have hni : k ∉ ch c := fun q => by have := ((a3 k).mp q).1; rw [hk] at this; cases this
    have hmem : ∀ i, (fu V k true i = true ∧ T i = false ∧ hc (A' 0 i) (A' 1 i) (A' 2 i) = c) ↔ ((i = k ∧ hc v low high = c) ∨ i ∈ ch c) := fun i => by
      rw [e0, e1, e2]
      by_cases e : i = k
      · subst e
        rw [fu_s, fu_s, fu_s, fu_s]
        exact ⟨fun q => Or.inl ⟨rfl, q.2.2⟩, fun q => by
          rcases q with q | q
          · exact ⟨rfl, hTk, q.2⟩
          · exact absurd q hni⟩
      · rw [fu_n e, fu_n e, fu_n e, fu_n e, a3 i]
        exact ⟨fun q => Or.inr q, fun q => by
          rcases q with q | q
          · exact absurd q.1 e
          · exact q⟩
    by_cases ec : c = hc v low high
    · subst ec
      rw [e5, fu_s, fu_s, e3]
      refine ⟨⟨rfl, by omega, ?_⟩, List.nodup_cons.mpr ⟨hni, a2⟩, fun i => ?_⟩
      · rw [fu_s]; exact pl_upd a1 hni
      · rw [hmem i, List.mem_cons]
        exact ⟨fun q => by
          rcases q with q | q
          · exact Or.inl ⟨q, rfl⟩
          · exact Or.inr q, fun q => by
          rcases q with q | q
          · exact Or.inl q.1
          · exact Or.inr q⟩
    · rw [e5, fu_n ec, fu_n ec, e3]
      refine ⟨pl_upd a1 hni, a2, fun i => ?_⟩
      rw [hmem i]
      exact ⟨fun q => Or.inr q, fun q => by
        rcases q with q | q
        · exact absurd q.2.symm ec
        · exact q⟩
  · rw [e3]
    exact pl_upd g1 (fun q => by have := ((g3 k).mp q).2.2; rw [fu_s] at this; cases this)
  · by_cases e : i = k
    · rw [e]; exact z1
    · rw [fu_n e] at q
      have := h5 i q; omega
  · rw [z0]; exact ⟨by omega, z4, h6.2.2⟩
  · rw [z3, h7, pc_up hk3 (fun j hj => fu_n hj) hk (fu_s _ _ _)]
  · rw [oc_new h2 hk hk3 e1 e2]
    by_cases e : i = k
    · subst e
      rw [e4 i hk2, fu_s, if_neg (hkl _ hl).symm, if_neg (hkl _ hh).symm, oc_none h2 hk hk2, h10 i hk2 hk]
    · rw [fu_n e] at q
      rw [e4 i (h2.1 i q).1, fu_n e, h8 i q]
      omega
  · have c1 := pc_one (P := fun j => V j && (!T j && A 0 j == u)) (Q := fun j => fu V k true j && (!T j && A' 0 j == u)) (k := k) hk3 (fun j hj => by show (fu V k true j && (!T j && A' 0 j == u)) = (V j && (!T j && A 0 j == u)); rw [e0, fu_n hj, fu_n hj])
    simp only [hk, hTk, Bool.false_and, Bool.toNat_false, e0, fu_s, Bool.true_and, Bool.not_false] at c1
    rw [e6, e0]
    by_cases e : u = v
    · subst e
      rw [fu_s, h9 u hu]
      simp at c1
      omega
    · rw [fu_n e, h9 u hu]
      have ev : (v == u) = false := by
        rw [beq_eq_false_iff_ne]
        exact fun z => e z.symm
      rw [ev] at c1
      simp only [Bool.toNat_false, Nat.add_zero] at c1
      exact c1.symm
  · by_cases e : i = k
    · rw [e, fu_s] at q; cases q
    · rw [fu_n e] at q; exact h10 i q2 q
end
