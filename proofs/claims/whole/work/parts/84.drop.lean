/-! A NODE GOES: the table without its chains, and what is left of it -/
def tc_t (A : Am) (V T : Nat → Bool) (L : Nat) (dn : Nat → Bf) (fl : List Nat) (ext : Nat → Nat) : Prop :=
  lp (A 7) (A 8) ∧ gi (A 7) V T L (A 0) (A 1) (A 2) dn ∧ frs A V fl ∧
  (∀ i, V i = true → i < A 9 1) ∧ (2 ≤ A 9 1 ∧ A 9 1 ≤ A 9 0 ∧ A 9 0 ≤ 24800) ∧ A 9 3 = pc_cnt V 24800 ∧
  (∀ i, V i = true → A 4 i = oc A V i + ext i) ∧
  (∀ v, v < 12 → A 6 v = pc_cnt (fun j => V j && (!T j && A 0 j == v)) 24800) ∧
  (∀ i, 2 ≤ i → V i = false → ext i = 0)
theorem tc_of {A : Am} {V T : Nat → Bool} {L : Nat} {dn : Nat → Bf} {ch : Nat → List Nat} {fl : List Nat} {ext : Nat → Nat} (h : ti A V T L dn ch fl ext) : tc_t A V T L dn fl ext := by
  obtain ⟨h1, h2, h3, h4, h5, h6, h7, h8, h9, h10⟩ := h
  exact ⟨h1, h2, h4, h5, h6, h7, h8, h9, h10⟩
theorem ti_of {A : Am} {V T : Nat → Bool} {L : Nat} {dn : Nat → Bf} {ch : Nat → List Nat} {fl : List Nat} {ext : Nat → Nat} (hc : chs A V T ch) (h : tc_t A V T L dn fl ext) : ti A V T L dn ch fl ext := by
  obtain ⟨h1, h2, h4, h5, h6, h7, h8, h9, h10⟩ := h
  exact ⟨h1, h2, hc, h4, h5, h6, h7, h8, h9, h10⟩
theorem nI_sub1 {p : Nat} (h : 0 < p) : nI p - 1 = nI (p - 1) := by
  rw [Int32.sub_eq_add_neg]; exact sb_m1 h
theorem bq_if {a i : Nat} : (a == i).toNat = if i = a then 1 else 0 := by
  by_cases q : i = a
  · subst q; simp
  · rw [if_neg q]; simp; exact fun z => q z.symm
section
variable {N : Mm} {A A' : Am} {V T : Nat → Bool} {L : Nat} {dn : Nat → Bf} {fl : List Nat} {ext ext' : Nat → Nat}
theorem tc_lt (h : tc_t A V T L dn fl ext) {i : Nat} (hv : vl V i) : i < A 9 1 ∧ i < A 9 0 ∧ i < 24800 := by
  obtain ⟨-, -, -, h5, h6, -⟩ := h
  rcases hv with q | q
  · omega
  · have := h5 i q; omega
theorem oc_pos1 {i j : Nat} (hj : j < 24800) (hv : V j = true) (e : A 1 j = i ∨ A 2 j = i) : 0 < oc A V i := by
  unfold oc
  rcases e with e | e
  · have := pc_pos (P := fun j => V j && A 1 j == i) hj (by simp [hv, e]); omega
  · have := pc_pos (P := fun j => V j && A 2 j == i) hj (by simp [hv, e]); omega
theorem oc_wit {i : Nat} (h : 0 < oc A V i) : ∃ j, j < 24800 ∧ V j = true ∧ (A 1 j = i ∨ A 2 j = i) := by
  unfold oc at h
  rcases Nat.eq_zero_or_pos (pc_cnt (fun j => V j && A 1 j == i) 24800) with q | q
  · obtain ⟨k, k1, k2⟩ := pc_wit (P := fun j => V j && A 2 j == i) (n := 24800) (by omega)
    simp at k2
    exact ⟨k, k1, k2.1, Or.inr k2.2⟩
  · obtain ⟨k, k1, k2⟩ := pc_wit q
    simp at k2
    exact ⟨k, k1, k2.1, Or.inl k2.2⟩
theorem oc_del {x : Nat} (hx : V x = true) (hx2 : x < 24800) (e1 : A' 1 = A 1) (e2 : A' 2 = A 2) (i : Nat) : oc A' (fu V x false) i + (if i = A 1 x then 1 else 0) + (if i = A 2 x then 1 else 0) = oc A V i := by
  unfold oc
  have c1 := pc_one (P := fun j => V j && A 1 j == i) (Q := fun j => fu V x false j && A' 1 j == i) (k := x) hx2 (fun j hj => by show (fu V x false j && A' 1 j == i) = (V j && A 1 j == i); rw [e1, fu_n hj])
  have c2 := pc_one (P := fun j => V j && A 2 j == i) (Q := fun j => fu V x false j && A' 2 j == i) (k := x) hx2 (fun j hj => by show (fu V x false j && A' 2 j == i) = (V j && A 2 j == i); rw [e2, fu_n hj])
  simp only [hx, Bool.false_and, Bool.toNat_false, fu_s, Bool.true_and] at c1 c2
  rw [bq_if] at c1 c2
  omega
theorem tc_drop (h : tc_t A V T L dn fl ext) {x : Nat} (hx : V x = true) (hT : T x = false) (h0 : oc A V x = 0)
    (e : ∀ f, (f = 0 ∨ f = 1 ∨ f = 2 ∨ f = 7 ∨ f = 8) → A' f = A f) (e3 : A' 3 x = A 9 2) (e3' : ∀ i ∈ fl, A' 3 i = A 3 i)
    (e4 : ∀ i, V i = true → i ≠ x → A' 4 i + (if i = A 1 x then 1 else 0) + (if i = A 2 x then 1 else 0) = A 4 i)
    (e6 : ∀ v, v < 12 → A' 6 v + (if v = A 0 x then 1 else 0) = A 6 v)
    (z0 : A' 9 0 = A 9 0) (z1 : A' 9 1 = A 9 1) (z2 : A' 9 2 = x) (z3 : A' 9 3 + 1 = A 9 3)
    (hext : ∀ i, i ≠ x → ext' i = ext i) (hext0 : ext' x = 0) : tc_t A' (fu V x false) T L dn (x :: fl) ext' := by
  obtain ⟨h1, h2, ⟨f1, f2, f3⟩, h5, h6, h7, h8, h9, h10⟩ := id h
  have x2 := (h2.1 x hx).1
  have xu := h5 x hx
  have E0 := e 0 (by omega)
  have E1 := e 1 (by omega)
  have E2 := e 2 (by omega)
  have E7 := e 7 (by omega)
  have E8 := e 8 (by omega)
  have hVx : ∀ i, fu V x false i = true → i ≠ x ∧ V i = true := fun i q => by
    by_cases c : i = x
    · rw [c, fu_s] at q; cases q
    · rw [fu_n c] at q; exact ⟨c, q⟩
  have hno : ∀ i, V i = true → i ≠ x → A 1 i ≠ x ∧ A 2 i ≠ x := fun i q _ => by
    have hi := (tc_lt h (Or.inr q)).2.2
    constructor
    · intro z
      have := oc_pos1 (A := A) hi q (Or.inl z)
      omega
    · intro z
      have := oc_pos1 (A := A) hi q (Or.inr z)
      omega
  refine ⟨by rw [E7, E8]; exact h1, by rw [E0, E1, E2, E7]; exact gi_del h2 hT hno, ⟨?_, ?_, fun i => ?_⟩, fun i q => by rw [z1]; exact h5 i (hVx i q).2, by rw [z0, z1]; exact h6, ?_, fun i q => ?_, fun v hv => ?_, fun i q2 q => ?_⟩
  · rw [z2]
    exact ⟨rfl, by omega, by rw [e3]; exact pl_congr e3' f1⟩
  · refine List.nodup_cons.mpr ⟨fun q => ?_, f2⟩
    have := ((f3 x).mp q).2.2
    rw [hx] at this; cases this
  · rw [List.mem_cons, z1]
    by_cases c : i = x
    · subst c
      rw [fu_s]
      exact ⟨fun _ => ⟨x2, xu, rfl⟩, fun _ => Or.inl rfl⟩
    · rw [fu_n c, ← f3 i]
      exact ⟨fun q => by
        rcases q with q | q
        · exact absurd q c
        · exact q, fun q => Or.inr q⟩
  · have := pc_down (P := V) (Q := fu V x false) (k := x) (n := 24800) (by omega) (fun j hj => fu_n hj) hx (fu_s _ _ _)
    omega
  · obtain ⟨q1, q2⟩ := hVx i q
    have a1 := oc_del (A := A) (A' := A') hx (by omega) E1 E2 i
    have a2 := e4 i q2 q1
    have a3 := h8 i q2
    rw [hext i q1]
    omega
  · have c1 := pc_one (P := fun j => V j && (!T j && A 0 j == v)) (Q := fun j => fu V x false j && (!T j && A' 0 j == v)) (k := x) (n := 24800) (by omega) (fun j hj => by show (fu V x false j && (!T j && A' 0 j == v)) = (V j && (!T j && A 0 j == v)); rw [E0, fu_n hj])
    simp only [hx, hT, Bool.false_and, Bool.toNat_false, fu_s, Bool.true_and, Bool.not_false] at c1
    rw [bq_if] at c1
    have a1 := e6 v hv
    have a2 := h9 v hv
    omega
  · by_cases c : i = x
    · rw [c]; exact hext0
    · rw [fu_n c] at q; rw [hext i c]; exact h10 i q2 q
/-- the two children lose a reference, the row is free -/
theorem drop_mem (hm : mr N A) {x : Nat} (hx : x < A 9 0) (hl : A 1 x < A 9 0) (hh : A 2 x < A 9 0) (ne : A 1 x ≠ A 2 x) (p1 : 2 ≤ A 1 x → 1 ≤ A 4 (A 1 x)) (p2 : 2 ≤ A 2 x → 1 ≤ A 4 (A 2 x)) (hs : 1 ≤ A 9 3) :
    ∃ A' : Am, mr (j_giveBack (j_dropKids N (nI x)) (nI x)) A' ∧ (∀ f, f ≠ 3 → f ≠ 4 → f ≠ 9 → A' f = A f) ∧ A' 3 = fu (A 3) x (A 9 2) ∧ (∀ j, 2 ≤ j → A' 4 j + (if j = A 1 x then 1 else 0) + (if j = A 2 x then 1 else 0) = A 4 j) ∧ A' 9 0 = A 9 0 ∧ A' 9 1 = A 9 1 ∧ A' 9 2 = x ∧ A' 9 3 + 1 = A 9 3 ∧ A' 9 4 = A 9 4 := by
  have g1 : j_get N (nI x) 1 = nI (A 1 x) := mr_get hm (f := 1) hx (by omega) (by omega)
  obtain ⟨A1, m1, q1, q2⟩ := refer_down hm hl p1
  have g2 : j_get (j_refer N (nI (A 1 x)) (-1)) (nI x) 2 = nI (A 2 x) := by
    have := mr_get m1 (i := x) (f := 2) (by rw [q1 9 (by omega)]; exact hx) (by omega) (by omega)
    rw [q1 2 (by omega)] at this
    exact this
  obtain ⟨A2, m2, r1, r2⟩ := refer_down m1 (i := A 2 x) (by rw [q1 9 (by omega)]; exact hh) (fun z => by
    have a := q2 _ z
    rw [if_neg (fun w => ne w.symm)] at a
    have := p2 z
    omega)
  have e9 : A2 9 = A 9 := (r1 9 (by omega)).trans (q1 9 (by omega))
  have e3 : A2 3 = A 3 := (r1 3 (by omega)).trans (q1 3 (by omega))
  have ek : j_dropKids N (nI x) = j_refer (j_refer N (nI (A 1 x)) (-1)) (nI (A 2 x)) (-1) := by
    unfold j_dropKids; rw [g1, g2]
  obtain ⟨M, hM⟩ : ∃ M, j_refer (j_refer N (nI (A 1 x)) (-1)) (nI (A 2 x)) (-1) = M := ⟨_, rfl⟩
  rw [ek, hM]
  rw [hM] at m2
  have n2 : M 0 2 = nI (A 9 2) := by rw [m2.1 2 (by omega), e9]
  have n3 : M 0 3 = nI (A 9 3) := by rw [m2.1 3 (by omega), e9]
  have t1 := mr_set m2 (i := x) (f := 3) (by rw [e9]; exact hx) (by omega) (A 9 2)
  have t2 := mr_fld t1 (j := 2) (by omega) (by omega) x
  have t3 := mr_fld t2 (j := 3) (by omega) (by omega) (A 9 3 - 1)
  refine ⟨am (am (am A2 3 x (A 9 2)) 9 2 x) 9 3 (A 9 3 - 1), ?_, fun f f3 f4 f9 => ?_, ?_, fun j hj => ?_, ?_, ?_, ?_, ?_, ?_⟩
  · unfold j_giveBack
    rw [n2, n3, nI_sub1 (by omega)]
    exact t3
  · rw [am_n f9, am_n f9, am_n f3, r1 f f4, q1 f f4]
  · rw [am_n (by omega), am_n (by omega), am_s, e3]
  · rw [am_n (by omega), am_n (by omega), am_n (by omega)]
    have a1 := q2 j hj
    have a2 := r2 j hj
    omega
  · rw [am_s, fu_n (by omega), am_s, fu_n (by omega), am_n (by omega), e9]
  · rw [am_s, fu_n (by omega), am_s, fu_n (by omega), am_n (by omega), e9]
  · rw [am_s, fu_n (by omega), am_s, fu_s]
  · rw [am_s, fu_s]; omega
  · rw [am_s, fu_n (by omega), am_s, fu_n (by omega), am_n (by omega), e9]
theorem refs_pos (h : tc_t A V T L dn fl ext) {x : Nat} (hx : V x = true) : (2 ≤ A 1 x → 1 ≤ A 4 (A 1 x)) ∧ (2 ≤ A 2 x → 1 ≤ A 4 (A 2 x)) ∧ 1 ≤ A 9 3 := by
  have hx3 := (tc_lt h (Or.inr hx)).2.2
  obtain ⟨h1, h2, -, h5, h6, h7, h8, -, -⟩ := id h
  obtain ⟨-, -, c1, c2⟩ := h2.1 x hx
  refine ⟨fun q => ?_, fun q => ?_, ?_⟩
  · rcases c1 with z | z
    · omega
    · rw [h8 _ z]
      have := oc_pos1 (A := A) (i := A 1 x) hx3 hx (Or.inl rfl)
      omega
  · rcases c2 with z | z
    · omega
    · rw [h8 _ z]
      have := oc_pos1 (A := A) (i := A 2 x) hx3 hx (Or.inr rfl)
      omega
  · have := pc_pos (P := V) hx3 hx
    omega
/-- drop: what needed does with a node to which nobody refers -/
theorem drop_spec (hm : mr N A) (h : tc_t A V T L dn fl ext) {x : Nat} (hx : V x = true) (hT : T x = false) (h0 : A 4 x = 0) :
    ∃ A' : Am, mr (j_drop N (nI x)) A' ∧ tc_t A' (fu V x false) T L dn (x :: fl) ext ∧ (∀ f, (f = 0 ∨ f = 1 ∨ f = 2 ∨ f = 5 ∨ f = 7 ∨ f = 8) → A' f = A f) ∧ A' 3 = fu (A 3) x (A 9 2) ∧ (∀ j, V j = true → j ≠ A 1 x → j ≠ A 2 x → A' 4 j = A 4 j) ∧ A' 9 0 = A 9 0 ∧ A' 9 4 = A 9 4 := by
  obtain ⟨-, x0, x00⟩ := tc_lt h (Or.inr hx)
  obtain ⟨h1, h2, ⟨-, -, f3⟩, h5, h6, h7, h8, h9, h10⟩ := id h
  obtain ⟨x2, hv, c1, c2⟩ := h2.1 x hx
  obtain ⟨p1, p2, p3⟩ := refs_pos h hx
  have g0 : j_get N (nI x) 0 = nI (A 0 x) := mr_get hm (f := 0) x0 (by omega) (by omega)
  have hv6 : 1 ≤ A 6 (A 0 x) := by
    rw [h9 _ hv]
    exact pc_pos x00 (by simp [hx, hT])
  have ed : j_dropHeld N (nI (A 0 x)) = up N 3 (A 0 x) (nI (A 6 (A 0 x) - 1)) := by
    unfold j_dropHeld
    rw [if_neg (nI_pos (by omega)), if_neg (nI_ge hv (by omega)), nI_clamp (by omega), hm.2.2.2.1 _ hv, nI_sub1 (by omega)]
  have m1 := mr_held hm (j := A 0 x) (A 6 (A 0 x) - 1)
  obtain ⟨A', m2, a1, a2, a3, a4, a5, a6, a7, a8⟩ := drop_mem m1 (x := x) (by rw [am_n (by omega)]; exact x0) (by rw [am_n (by omega), am_n (by omega)]; exact (tc_lt h c1).2.1) (by rw [am_n (by omega), am_n (by omega)]; exact (tc_lt h c2).2.1) (by rw [am_n (by omega), am_n (by omega)]; exact gi_ne h2 hx) (by rw [am_n (by omega), am_n (by omega)]; exact p1) (by rw [am_n (by omega), am_n (by omega)]; exact p2) (by rw [am_n (by omega)]; exact p3)
  rw [am_n (by omega), am_n (by omega)] at a2
  rw [am_n (by omega), am_n (by omega), am_n (by omega)] at a3
  rw [am_n (by omega)] at a4 a5 a7 a8
  have hf : ∀ f, (f = 0 ∨ f = 1 ∨ f = 2 ∨ f = 5 ∨ f = 7 ∨ f = 8) → A' f = A f := fun f q => by rw [a1 f (by omega) (by omega) (by omega), am_n (by omega)]
  have h0o : oc A V x = 0 := by have := h8 x hx; omega
  refine ⟨A', by unfold j_drop; rw [g0, ed]; exact m2, ?_, hf, a2, fun j q1 q2 q3 => ?_, a4, a8⟩
  · refine tc_drop h hx hT h0o (fun f q => hf f (by omega)) (by rw [a2, fu_s]) (fun i q => ?_) (fun i q1 q2 => a3 i (h2.1 i q1).1) (fun v hv2 => ?_) a4 a5 a6 a7 (fun _ _ => rfl) (by have := h8 x hx; omega)
    · rw [a2, fu_n (fun z => ?_)]
      have := ((f3 i).mp q).2.2
      rw [z, hx] at this; cases this
    · rw [a1 6 (by omega) (by omega) (by omega), am_s]
      by_cases c : v = A 0 x
      · rw [if_pos c, c, fu_s]; omega
      · rw [if_neg c, fu_n c]; omega
  · have := a3 j (h2.1 j q1).1
    rw [if_neg q2, if_neg q3] at this
    omega
end
