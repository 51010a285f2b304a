/-! put, widen, makeRoom -/
def ex (sl : Nat → Nat) (i : Nat) : Nat := pc_cnt (fun s => sl s == i) 32
theorem ex_le (sl : Nat → Nat) (i : Nat) : ex sl i ≤ 100 := Nat.le_trans (pc_lt _ 32) (by decide)
theorem ex_pos {sl : Nat → Nat} {s : Nat} (h : s < 32) : 0 < ex sl (sl s) := pc_pos h (by simp)
theorem ex_wit {sl : Nat → Nat} {i : Nat} (h : 0 < ex sl i) : ∃ s, s < 32 ∧ sl s = i := by
  obtain ⟨s, h1, h2⟩ := pc_wit h
  exact ⟨s, h1, by simpa using h2⟩
theorem ex_fu {sl : Nat → Nat} {s r : Nat} (h : s < 32) (i : Nat) : ex (fu sl s r) i + (if i = sl s then 1 else 0) = ex sl i + (if i = r then 1 else 0) := by
  have c := pc_one (P := fun t => sl t == i) (Q := fun t => fu sl s r t == i) (k := s) h (fun j hj => by show (fu sl s r j == i) = (sl j == i); rw [fu_n hj])
  simp only [fu_s] at c
  rw [bq_if, bq_if] at c
  exact c
theorem gi_cg {lv : Nat → Nat} {V T : Nat → Bool} {L : Nat} {va lo hi va' lo' hi' : Nat → Nat} {dn : Nat → Bf} (h : gi lv V T L va lo hi dn) (e : ∀ i, vl V i → va' i = va i ∧ lo' i = lo i ∧ hi' i = hi i) : gi lv V T L va' lo' hi' dn := by
  obtain ⟨h1, h2, h3, h4, h5, h6⟩ := id h
  have rke : ∀ c, vl V c → rk lv va' T L c = rk lv va T L c := fun c q => by unfold rk; rw [(e c q).1]
  have gpe : ∀ c, vl V c → gpk lv V T L va lo hi c → gpk lv V T L va' lo' hi' c := fun c q k => by
    obtain ⟨k0, k1⟩ := k
    refine ⟨k0, ?_⟩
    rw [(e c q).1]
    rcases k1 with k1 | ⟨k1, k2, k3, k4⟩
    · exact Or.inl k1
    · obtain ⟨-, -, c1, c2⟩ := h1 c k2
      rw [(e c q).2.1, (e c q).2.2, (e _ c1).1, (e _ c2).1]
      exact Or.inr ⟨k1, k2, k3, k4⟩
  refine ⟨fun i q => ?_, ?_, fun i q => ?_, h4, fun i q t => ?_, fun i t => ?_⟩
  · obtain ⟨a, b, c⟩ := e i (Or.inr q)
    rw [a, b, c]; exact h1 i q
  · rw [(e 0 (Or.inl (by omega))).1, (e 1 (Or.inl (by omega))).1]; exact h2
  · obtain ⟨a, b, c⟩ := e i (Or.inr q)
    rw [a, b, c]; exact h3 i q
  · obtain ⟨a, b, c⟩ := e i (Or.inr q)
    obtain ⟨-, -, c1, c2⟩ := h1 i q
    rw [a, b, c, rke _ c1, rke _ c2]; exact h5 i q t
  · obtain ⟨q, k1, k2, k3, k4⟩ := h6 i t
    obtain ⟨a, b, c⟩ := e i (Or.inr q)
    obtain ⟨-, -, c1, c2⟩ := h1 i q
    rw [a, b, c, (e _ c1).1, (e _ c2).1]
    exact ⟨q, k1, gpe _ c1 k2, gpe _ c2 k3, k4⟩
section
variable {N : Mm} {A A' : Am} {V T : Nat → Bool} {L : Nat} {dn : Nat → Bf} {ch : Nat → List Nat} {fl : List Nat} {ext : Nat → Nat} {sl : Nat → Nat}
theorem ti_cg (h : ti A V T L dn ch fl ext) (e : ∀ f i, f < 5 → i < A 9 1 → A' f i = A f i) (e5 : ∀ f, 5 ≤ f → f ≤ 8 → A' f = A f) (z1 : A' 9 1 = A 9 1) (z2 : A' 9 2 = A 9 2) (z3 : A' 9 3 = A 9 3) (z0 : A 9 0 ≤ A' 9 0) (z0' : A' 9 0 ≤ 24800) : ti A' V T L dn ch fl ext := by
  obtain ⟨h1, h2, h3, ⟨f1, f2, f3⟩, h5, h6, h7, h8, h9, h10⟩ := id h
  have ev : ∀ f i, f < 5 → vl V i → A' f i = A f i := fun f i hf q => e f i hf (ti_lt h q).1
  refine ⟨by rw [e5 7 (by omega) (by omega), e5 8 (by omega) (by omega)]; exact h1, ?_, fun c hc1 => ?_, ⟨?_, f2, by rw [z1]; exact f3⟩, by rw [z1]; exact h5, by rw [z1]; omega, by rw [z3]; exact h7, fun i q => ?_, fun v hv => ?_, h10⟩
  · rw [e5 7 (by omega) (by omega)]
    exact gi_cg h2 (fun i q => ⟨ev 0 i (by omega) q, ev 1 i (by omega) q, ev 2 i (by omega) q⟩)
  · obtain ⟨a1, a2, a3⟩ := h3 c hc1
    rw [e5 5 (by omega) (by omega)]
    refine ⟨pl_congr (fun x hx => ev 3 x (by omega) (Or.inr ((a3 x).mp hx).1)) a1, a2, fun i => ?_⟩
    rw [a3 i]
    constructor
    · rintro ⟨q1, q2, q3⟩
      exact ⟨q1, q2, by rw [ev 0 i (by omega) (Or.inr q1), ev 1 i (by omega) (Or.inr q1), ev 2 i (by omega) (Or.inr q1)]; exact q3⟩
    · rintro ⟨q1, q2, q3⟩
      exact ⟨q1, q2, by rw [ev 0 i (by omega) (Or.inr q1), ev 1 i (by omega) (Or.inr q1), ev 2 i (by omega) (Or.inr q1)] at q3; exact q3⟩
  · rw [z2]
    exact pl_congr (fun x hx => e 3 x (by omega) ((f3 x).mp hx).2.1) f1
  · rw [ev 4 i (by omega) (Or.inr q), h8 i q]
    unfold oc
    rw [pc_congr (P := fun j => V j && A' 1 j == i) (Q := fun j => V j && A 1 j == i) (fun j _ => by
      cases w : V j
      · rfl
      · rw [ev 1 j (by omega) (Or.inr w)]), pc_congr (P := fun j => V j && A' 2 j == i) (Q := fun j => V j && A 2 j == i) (fun j _ => by
      cases w : V j
      · rfl
      · rw [ev 2 j (by omega) (Or.inr w)])]
  · rw [e5 6 (by omega) (by omega), h9 v hv]
    refine pc_congr (fun j _ => ?_)
    cases w : V j
    · rfl
    · rw [ev 0 j (by omega) (Or.inr w)]
theorem j_max_m {a b : Nat} (ha : a < 2 ^ 31) (hb : b < 2 ^ 31) : j_max (nI a) (nI b) = nI (max a b) := by
  unfold j_max
  by_cases q : a < b
  · rw [if_pos ((nI_ltI ha hb).mpr q), Nat.max_eq_right (by omega)]
  · rw [if_neg (fun z => q ((nI_ltI ha hb).mp z)), Nat.max_eq_left (by omega)]
theorem widen_mem (hm : mr N A) {w : Nat} (hw : w < 100000) : ∃ A' : Am, mr (j_widen N (nI w)) A' ∧ (∀ f i, f < 5 → i < A 9 0 → A' f i = A f i) ∧ (∀ f, 5 ≤ f → f ≤ 8 → A' f = A f) ∧ (∀ j, j ≠ 0 → A' 9 j = A 9 j) ∧ A 9 0 ≤ A' 9 0 ∧ A' 9 0 ≤ 24800 ∧ min (w + 2) 24800 ≤ A' 9 0 := by
  obtain ⟨m1, m2, m3, m4, m5, m6, m7, m8⟩ := id hm
  have e1 : j_min (nI w + 2) 24800 = nI (min (w + 2) 24800) := by
    rw [show (2 : Int32) = nI 2 from rfl, show (24800 : Int32) = nI 24800 from rfl, nI_add]
    exact j_min_n (by omega) (by omega)
  have n0 : N 0 0 = nI (A 9 0) := m1 0 (by omega)
  unfold j_widen
  rw [e1, n0]
  by_cases c : min (w + 2) 24800 ≤ A 9 0
  · rw [if_pos ((nI_leI (by omega) (by omega)).mpr c)]
    exact ⟨A, hm, fun _ _ _ _ => rfl, fun _ _ _ => rfl, fun _ _ => rfl, Nat.le_refl _, m8, c⟩
  · rw [if_neg (fun q => c ((nI_leI (by omega) (by omega)).mp q))]
    have e2 : j_wroom N (nI w) = nI (min (max (min (w + 2) 24800) (2 * A 9 0)) 24800) := by
      unfold j_wroom
      rw [e1, n0, show (2 : Int32) = nI 2 from rfl, pk_mul, j_max_m (by omega) (by omega), show (24800 : Int32) = nI 24800 from rfl, j_min_n (by omega) (by omega)]
    rw [e2, mr_len hm]
    obtain ⟨R, hR⟩ : ∃ R, min (max (min (w + 2) 24800) (2 * A 9 0)) 24800 = R := ⟨_, rfl⟩
    rw [hR]
    have r1 : A 9 0 ≤ R ∧ R ≤ 24800 ∧ min (w + 2) 24800 ≤ R := by omega
    refine ⟨fun f i => if f < 5 then (if i < A 9 0 then A f i else 0) else if f = 9 ∧ i = 0 then R else A f i, ⟨fun j hj => ?_, fun f hf i hi h2 => ?_, fun c' hc' => ?_, fun v hv => ?_, fun v hv => ?_, fun v hv => ?_, ?_, ?_⟩, fun f i hf hi => ?_, fun f f1 f2 => ?_, fun j hj => ?_, ?_, ?_, ?_⟩
    · show fu (up N 0 0 (nI R)) 1 _ 0 j = nI (if (9 : Nat) < 5 then _ else if 9 = 9 ∧ j = 0 then R else A 9 j)
      rw [fu_n (by omega), up_s, if_neg (by omega)]
      by_cases q : j = 0
      · subst q; rw [upd_s, if_pos ⟨rfl, rfl⟩]
      · rw [upd_n q, if_neg (fun z => q z.2)]; exact m1 j hj
    · show fu (up N 0 0 (nI R)) 1 _ 1 (5 * i + f) = nI (if f < 5 then (if i < A 9 0 then A f i else 0) else _)
      rw [fu_s, if_pos hf]
      unfold va_cpy
      by_cases q : i < A 9 0
      · rw [if_pos (by omega), if_pos q, show 0 + (5 * i + f - 0) = 5 * i + f by omega]
        exact m2 f hf i q h2
      · rw [if_neg (by omega), if_neg q]; rfl
    · show fu (up N 0 0 (nI R)) 1 _ 2 c' = nI (if (5 : Nat) < 5 then _ else if 5 = 9 ∧ c' = 0 then R else A 5 c')
      rw [fu_n (by omega), up_n (by omega), if_neg (by omega), if_neg (by omega)]; exact m3 c' hc'
    · show fu (up N 0 0 (nI R)) 1 _ 3 v = nI (if (6 : Nat) < 5 then _ else if 6 = 9 ∧ v = 0 then R else A 6 v)
      rw [fu_n (by omega), up_n (by omega), if_neg (by omega), if_neg (by omega)]; exact m4 v hv
    · show fu (up N 0 0 (nI R)) 1 _ 4 v = nI (if (7 : Nat) < 5 then _ else if 7 = 9 ∧ v = 0 then R else A 7 v)
      rw [fu_n (by omega), up_n (by omega), if_neg (by omega), if_neg (by omega)]; exact m5 v hv
    · show fu (up N 0 0 (nI R)) 1 _ 5 v = nI (if (8 : Nat) < 5 then _ else if 8 = 9 ∧ v = 0 then R else A 8 v)
      rw [fu_n (by omega), up_n (by omega), if_neg (by omega), if_neg (by omega)]; exact m6 v hv
    · show 1024 ≤ (if (9 : Nat) < 5 then _ else if 9 = 9 ∧ 0 = 0 then R else A 9 0)
      rw [if_neg (by omega), if_pos ⟨rfl, rfl⟩]; omega
    · show (if (9 : Nat) < 5 then _ else if 9 = 9 ∧ 0 = 0 then R else A 9 0) ≤ 24800
      rw [if_neg (by omega), if_pos ⟨rfl, rfl⟩]; omega
    · show (if f < 5 then (if i < A 9 0 then A f i else 0) else _) = A f i
      rw [if_pos hf, if_pos hi]
    · funext i
      show (if f < 5 then (if i < A 9 0 then A f i else 0) else if f = 9 ∧ i = 0 then R else A f i) = A f i
      rw [if_neg (by omega), if_neg (by omega)]
    · show (if (9 : Nat) < 5 then _ else if 9 = 9 ∧ j = 0 then R else A 9 j) = A 9 j
      rw [if_neg (by omega), if_neg (fun z => hj z.2)]
    · show A 9 0 ≤ (if (9 : Nat) < 5 then _ else if 9 = 9 ∧ 0 = 0 then R else A 9 0)
      rw [if_neg (by omega), if_pos ⟨rfl, rfl⟩]; omega
    · show (if (9 : Nat) < 5 then _ else if 9 = 9 ∧ 0 = 0 then R else A 9 0) ≤ 24800
      rw [if_neg (by omega), if_pos ⟨rfl, rfl⟩]; omega
    · show min (w + 2) 24800 ≤ (if (9 : Nat) < 5 then _ else if 9 = 9 ∧ 0 = 0 then R else A 9 0)
      rw [if_neg (by omega), if_pos ⟨rfl, rfl⟩]; omega
theorem widen_tn (hm : mr N A) (h : tn A V dn ch fl ext) {w : Nat} (hw : w < 100000) : ∃ A' : Am, mr (j_widen N (nI w)) A' ∧ tn A' V dn ch fl ext ∧ A' 9 3 = A 9 3 ∧ A' 9 4 = A 9 4 ∧ min (w + 2) 24800 ≤ A' 9 0 ∧ A 9 0 ≤ A' 9 0 := by
  obtain ⟨A', q1, q2, q3, q4, q5, q6, q7⟩ := widen_mem hm hw
  have h6 := h.2.2.2.2.2.1
  exact ⟨A', q1, ti_cg h (fun f i hf hi => q2 f i hf (by omega)) q3 (q4 1 (by omega)) (q4 2 (by omega)) (q4 3 (by omega)) q5 q6, q4 3 (by omega), q4 4 (by omega), q7, q5⟩
theorem nd_hr (h : tn A V dn ch fl (ex sl)) (hn : nd_a A V) : ∀ i, V i = true → (∃ s, s < 32 ∧ sl s = i) ∨ (∃ j, V j = true ∧ (A 1 j = i ∨ A 2 j = i)) := fun i q => by
  have h8 := h.2.2.2.2.2.2.2.1 i q
  have := hn i q
  rcases Nat.eq_zero_or_pos (ex sl i) with z | z
  · obtain ⟨j, -, j1, j2⟩ := oc_wit (A := A) (V := V) (i := i) (by omega)
    exact Or.inr ⟨j, j1, j2⟩
  · exact Or.inl (ex_wit z)
theorem nd_size (h : tn A V dn ch fl (ex sl)) (hn : nd_a A V) : A 9 3 ≤ 16606 := by
  have h7 := h.2.2.2.2.2.2.1
  rw [h7]
  exact gi_size h.2.1 h.1 (nd_hr h hn) (by omega)
theorem makeRoom_spec (hm : mr N A) (h : tn A V dn ch fl (ex sl)) (hl : A 9 4 ≤ 21475) {need : Nat} (hn : need ≤ 3323) : ∃ (A' : Am) (V' : Nat → Bool) (ch' : Nat → List Nat) (fl' : List Nat), mr (j_makeRoom N (nI need)) A' ∧ tn A' V' dn ch' fl' (ex sl) ∧ A' 9 4 ≤ 21475 ∧ A' 9 3 + need + 2 ≤ A' 9 0 ∧ A 9 0 ≤ A' 9 0 := by
  have n3 : N 0 3 = nI (A 9 3) := hm.1 3 (by omega)
  have n4 : N 0 4 = nI (A 9 4) := hm.1 4 (by omega)
  have s3 : A 9 3 ≤ 24800 := by rw [h.2.2.2.2.2.2.1]; exact pc_lt V 24800
  by_cases c : A 9 3 ≤ A 9 4
  · have ej : j_makeRoom N (nI need) = j_widen N (nI (A 9 3 + need)) := by
      unfold j_makeRoom
      rw [n3, n4, if_pos ((nI_leI (by omega) (by omega)).mpr c), nI_add]
    rw [ej]
    obtain ⟨A', q1, q2, q3, q4, q5, q6⟩ := widen_tn hm h (w := A 9 3 + need) (by omega)
    exact ⟨A', V, ch, fl, q1, q2, by omega, by omega, q6⟩
  · obtain ⟨A1, V1, ch1, fl1, y1, y2, y3, y4, y5, y6, y7⟩ := collect_spec (dn := dn) (ex_le sl) hm h
    have sz := nd_size y2 y3
    obtain ⟨M, hM⟩ : ∃ M, j_collect N = M := ⟨_, rfl⟩
    rw [hM] at y1
    have k3 : M 0 3 = nI (A1 9 3) := y1.1 3 (by omega)
    have ej : j_makeRoom N (nI need) = j_widen (up M 0 4 (nI (min (max (2 * A1 9 3) 1024) 21475))) (nI (A1 9 3 + need)) := by
      unfold j_makeRoom
      rw [n3, n4, if_neg (fun q => c ((nI_leI (by omega) (by omega)).mp q)), hM, k3, nI_add, show (2 : Int32) = nI 2 from rfl, pk_mul, show (1024 : Int32) = nI 1024 from rfl, j_max_m (by omega) (by omega), show (21475 : Int32) = nI 21475 from rfl, j_min_n (by omega) (by omega)]
    rw [ej]
    obtain ⟨l, hl1⟩ : ∃ l, min (max (2 * A1 9 3) 1024) 21475 = l := ⟨_, rfl⟩
    rw [hl1]
    have m2 := mr_fld y1 (j := 4) (by omega) (by omega) l
    have e9 : ∀ j, j ≠ 4 → am A1 9 4 l 9 j = A1 9 j := fun j hj => by rw [am_s, fu_n hj]
    have en : ∀ f, f ≠ 9 → am A1 9 4 l f = A1 f := fun f hf => am_n hf
    have h6 := y2.2.2.2.2.2.1
    have t2 : tn (am A1 9 4 l) V1 dn ch1 fl1 (ex sl) := ti_cg y2 (fun f i hf _ => by rw [en f (by omega)]) (fun f f1 f2 => en f (by omega)) (e9 1 (by omega)) (e9 2 (by omega)) (e9 3 (by omega)) (by rw [e9 0 (by omega)]; exact Nat.le_refl _) (by rw [e9 0 (by omega)]; exact h6.2.2)
    obtain ⟨A', q1, q2, q3, q4, q5, q6⟩ := widen_tn m2 t2 (w := A1 9 3 + need) (by omega)
    rw [e9 3 (by omega)] at q3
    rw [e9 0 (by omega), y6] at q6
    rw [am_s, fu_s] at q4
    have b1 : A1 9 3 + need + 2 ≤ 24800 := by clear q5 q4 hl1; omega
    rw [Nat.min_eq_left b1] at q5
    have b2 : l ≤ 21475 := by rw [← hl1]; exact Nat.min_le_right _ _
    exact ⟨A', V1, ch1, fl1, q1, q2, by rw [q4]; exact b2, by rw [q3]; exact q5, q6⟩
theorem put_spec (hm : mr N A) (h : tn A V dn ch fl (ex sl)) {s r : Nat} (hs : s < 32) (hr : vl V r) (hv : vl V (sl s)) : ∃ A' : Am, mr (j_refer (j_refer N (nI r) 1) (nI (sl s)) (-1)) A' ∧ tn A' V dn ch fl (ex (fu sl s r)) ∧ A' 9 = A 9 := by
  obtain ⟨h1, h2, h3, h4, h5, h6, h7, h8, h9, h10⟩ := id h
  obtain ⟨A1, m1, q1, q2⟩ := refer_up hm (ti_lt h hr).2
  have hp : 2 ≤ sl s → 1 ≤ A1 4 (sl s) := fun z => by
    have a := q2 _ z
    have b : V (sl s) = true := by
      rcases hv with w | w
      · omega
      · exact w
    have c := h8 _ b
    have d := ex_pos (sl := sl) hs
    omega
  obtain ⟨A2, m2, r1, r2⟩ := refer_down m1 (i := sl s) (by rw [q1 9 (by omega)]; exact (ti_lt h hv).2) hp
  have en : ∀ f, f ≠ 4 → A2 f = A f := fun f hf => (r1 f hf).trans (q1 f hf)
  refine ⟨A2, m2, ?_, en 9 (by omega)⟩
  have oc_e : ∀ i, oc A2 V i = oc A V i := fun i => by unfold oc; rw [en 1 (by omega), en 2 (by omega)]
  refine ⟨by rw [en 7 (by omega), en 8 (by omega)]; exact h1, by rw [en 7 (by omega), en 0 (by omega), en 1 (by omega), en 2 (by omega)]; exact h2, fun c q => by rw [en 3 (by omega), en 5 (by omega), en 0 (by omega), en 1 (by omega), en 2 (by omega)]; exact h3 c q, ⟨by rw [en 3 (by omega), en 9 (by omega)]; exact h4.1, h4.2.1, by rw [en 9 (by omega)]; exact h4.2.2⟩, by rw [en 9 (by omega)]; exact h5, by rw [en 9 (by omega)]; exact h6, by rw [en 9 (by omega)]; exact h7, fun i q => ?_, by rw [en 6 (by omega), en 0 (by omega)]; exact h9, fun i q2 q => ?_⟩
  · have i2 := (h2.1 i q).1
    have a1 := q2 i i2
    have a2 := r2 i i2
    have a3 := h8 i q
    have a4 := ex_fu (sl := sl) (r := r) hs i
    rw [oc_e]
    omega
  · have a4 := ex_fu (sl := sl) (r := r) hs i
    have a5 := h10 i q2 q
    have ne : i ≠ r := fun z => by
      rcases hr with w | w
      · omega
      · rw [← z, q] at w; cases w
    rw [if_neg ne] at a4
    omega
end
