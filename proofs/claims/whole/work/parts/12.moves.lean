/-! PURE, 3: what the graph's invariant survives: a new node, a node that goes, two levels that change places. -/
section
variable {lv vr : Nat → Nat} {V T : Nat → Bool} {L : Nat} {va lo hi : Nat → Nat} {dn : Nat → Bf}
theorem gi_add (h : gi lv V T L va lo hi dn) (hp : lp lv vr) {v low high k : Nat} (hv : v < 12) (hTL : ∀ i, T i = true → L < lv v) (hl : vl V low) (hh : vl V high) (tl : T low = false) (th : T high = false) (ll : lv v < lv (va low)) (lh : lv v < lv (va high)) (hne : low ≠ high)
    (nf : ∀ j, V j = true → T j = false → va j = v → lo j = low → hi j = high → False) (hk : V k = false) (hk2 : 2 ≤ k) :
    gi lv (fu V k true) T L (fu va k v) (fu lo k low) (fu hi k high) (fu dn k (mk v (dn low) (dn high))) := by
  have hnk : ∀ i, vl V i → i ≠ k := fun i hi1 e => by
    rcases hi1 with q | q
    · omega
    · rw [e, hk] at q; cases q
  have hTk : T k = false := by
    cases e : T k
    · rfl
    · have := (h.2.2.2.2.2 k e).1
      rw [hk] at this; cases this
  have hvl : ∀ i, vl V i → vl (fu V k true) i := fun i hi1 => by
    rcases hi1 with q | q
    · exact Or.inl q
    · refine Or.inr ?_
      rw [fu_n (hnk i (Or.inr q))]; exact q
  have hVn : ∀ i, i ≠ k → fu V k true i = true → V i = true := fun i hi1 q => by rw [fu_n hi1] at q; exact q
  have hrk : ∀ c, vl V c → rk lv (fu va k v) T L c = rk lv va T L c := fun c hc => by
    unfold rk; rw [fu_n (hnk c hc)]
  have hgpk : ∀ c, vl V c → gpk lv V T L va lo hi c → gpk lv (fu V k true) T L (fu va k v) (fu lo k low) (fu hi k high) c := fun c hc hk1 => by
    obtain ⟨q0, q1⟩ := hk1
    refine ⟨q0, ?_⟩
    rw [fu_n (hnk c hc)]
    rcases q1 with q1 | ⟨q1, q2, q3, q4⟩
    · exact Or.inl q1
    · obtain ⟨-, -, cl, ch⟩ := h.1 c q2
      rw [fu_n (f := lo) (hnk c hc), fu_n (f := hi) (hnk c hc), fu_n (f := V) (hnk c hc), fu_n (hnk _ cl), fu_n (hnk _ ch)]
      exact Or.inr ⟨q1, q2, q3, q4⟩
  refine ⟨fun i q => ?_, ?_, fun i q => ?_, fun i j qi qj e => ?_, fun i q t => ?_, fun i t => ?_⟩
  · by_cases e : i = k
    · subst e
      rw [fu_s, fu_s, fu_s]
      exact ⟨hk2, hv, hvl _ hl, hvl _ hh⟩
    · rw [fu_n e, fu_n e, fu_n e]
      obtain ⟨q1, q2, q3, q4⟩ := h.1 i (hVn i e q)
      exact ⟨q1, q2, hvl _ q3, hvl _ q4⟩
  · rw [fu_n (by omega : (0 : Nat) ≠ k), fu_n (by omega : (1 : Nat) ≠ k), fu_n (by omega : (0 : Nat) ≠ k), fu_n (by omega : (1 : Nat) ≠ k)]
    exact h.2.1
  · by_cases e : i = k
    · subst e
      rw [fu_s, fu_s, fu_s, fu_s, fu_n (hnk _ hl), fu_n (hnk _ hh)]
    · obtain ⟨q1, q2, q3, q4⟩ := h.1 i (hVn i e q)
      rw [fu_n e, fu_n e, fu_n e, fu_n e, fu_n (hnk _ q3), fu_n (hnk _ q4)]
      exact h.2.2.1 i (hVn i e q)
  · have hold : ∀ x, x ≠ k → vl (fu V k true) x → vl V x := fun x hx q => by
      rcases q with q | q
      · exact Or.inl q
      · exact Or.inr (hVn x hx q)
    by_cases ei : i = k
    · by_cases ej : j = k
      · rw [ei, ej]
      · exfalso
        rw [ei, fu_s, fu_n ej] at e
        exact gi_new h hp hv hTL hl hh tl th ll lh hne nf (hold j ej qj) e.symm
    · by_cases ej : j = k
      · exfalso
        rw [ej, fu_s, fu_n ei] at e
        exact gi_new h hp hv hTL hl hh tl th ll lh hne nf (hold i ei qi) e
      · rw [fu_n ei, fu_n ej] at e
        exact h.2.2.2.1 i j (hold i ei qi) (hold j ej qj) e
  · by_cases e : i = k
    · subst e
      rw [fu_s, fu_s, fu_s, hrk _ hl, hrk _ hh, rk_f tl, rk_f th]
      exact ⟨ll, lh⟩
    · have qV := hVn i e q
      obtain ⟨q1, q2, q3, q4⟩ := h.1 i qV
      rw [fu_n e, fu_n e, fu_n e, hrk _ q3, hrk _ q4]
      exact h.2.2.2.2.1 i qV t
  · obtain ⟨q0, q1, q2, q3, q4⟩ := h.2.2.2.2.2 i t
    have e : i ≠ k := hnk i (Or.inr q0)
    obtain ⟨-, -, c1, c2⟩ := h.1 i q0
    rw [fu_n e, fu_n e, fu_n e, fu_n e, fu_n (hnk _ c1), fu_n (hnk _ c2)]
    exact ⟨q0, q1, hgpk _ c1 q2, hgpk _ c2 q3, q4⟩
/-- what nobody refers to may go -/
theorem gi_del (h : gi lv V T L va lo hi dn) {k : Nat} (hT : T k = false) (hr : ∀ i, V i = true → i ≠ k → lo i ≠ k ∧ hi i ≠ k) : gi lv (fu V k false) T L va lo hi dn := by
  have hV : ∀ i, fu V k false i = true → i ≠ k ∧ V i = true := fun i q => by
    by_cases e : i = k
    · rw [e, fu_s] at q; cases q
    · rw [fu_n e] at q; exact ⟨e, q⟩
  have hvl : ∀ c, c ≠ k → vl V c → vl (fu V k false) c := fun c e q => by
    rcases q with q | q
    · exact Or.inl q
    · exact Or.inr (by rw [fu_n e]; exact q)
  have hvo : ∀ c, vl (fu V k false) c → vl V c := fun c q => by
    rcases q with q | q
    · exact Or.inl q
    · exact Or.inr (hV c q).2
  have hgpk : ∀ c, gpk lv V T L va lo hi c → c ≠ k → gpk lv (fu V k false) T L va lo hi c := fun c q e => by
    unfold gpk
    rw [fu_n e]
    exact q
  refine ⟨fun i q => ?_, h.2.1, fun i q => h.2.2.1 i (hV i q).2, fun i j qi qj e => h.2.2.2.1 i j (hvo i qi) (hvo j qj) e, fun i q t => h.2.2.2.2.1 i (hV i q).2 t, fun i t => ?_⟩
  · obtain ⟨e, q1⟩ := hV i q
    obtain ⟨a1, a2, a3, a4⟩ := h.1 i q1
    obtain ⟨b1, b2⟩ := hr i q1 e
    exact ⟨a1, a2, hvl _ b1 a3, hvl _ b2 a4⟩
  · obtain ⟨q0, q1, q2, q3, q4⟩ := h.2.2.2.2.2 i t
    have e : i ≠ k := fun e => by rw [e, hT] at t; cases t
    obtain ⟨b1, b2⟩ := hr i q0 e
    exact ⟨by rw [fu_n e]; exact q0, q1, hgpk _ q2 b1, hgpk _ q3 b2, q4⟩
/-- no one waits: L says nothing -/
theorem gi_L (h : gi lv V T L va lo hi dn) (hT : ∀ i, T i = false) (L' : Nat) : gi lv V (fun _ => false) L' va lo hi dn := by
  refine ⟨h.1, h.2.1, h.2.2.1, h.2.2.2.1, fun i q _ => ?_, fun i t => by cases t⟩
  obtain ⟨a, b⟩ := h.2.2.2.2.1 i q (hT i)
  rw [rk_f (hT _)] at a b
  rw [rk_f rfl, rk_f rfl]
  exact ⟨a, b⟩
/-- the levels L (of u) and L + 1 (of w) have changed places; those that ask u and then w wait -/
theorem gi_turn (h : gi lv V (fun _ => false) L va lo hi dn) (hp : lp lv vr) {u w : Nat} (hL : L + 1 < 12) (hu : u < 12) (hw : w < 12) (lu : lv u = L) (lw : lv w = L + 1) {lv' : Nat → Nat} (l1 : lv' w = L) (l2 : lv' u = L + 1) (l3 : ∀ x, x ≠ u → x ≠ w → lv' x = lv x)
    {T' : Nat → Bool} (hT : ∀ i, T' i = (V i && (va i == u && (va (lo i) == w || va (hi i) == w)))) : gi lv' V T' L va lo hi dn := by
  have hord : ∀ i, V i = true → lv (va i) < lv (va (lo i)) ∧ lv (va i) < lv (va (hi i)) := fun i q => by
    have := h.2.2.2.2.1 i q rfl
    rw [rk_f rfl, rk_f rfl] at this
    exact this
  have e1 : ∀ x, x < 13 → lv x = L → x = u := fun x hx e => lp_inj hp hx (by omega) (by rw [e, lu])
  have e2 : ∀ x, x < 13 → lv x = L + 1 → x = w := fun x hx e => lp_inj hp hx (by omega) (by rw [e, lw])
  have l4 : ∀ x, lv x < L ∨ L + 1 < lv x → lv' x = lv x := fun x hx => l3 x (fun e => by rw [e] at hx; omega) (fun e => by rw [e] at hx; omega)
  have hTt : ∀ i, T' i = true → V i = true ∧ va i = u ∧ (va (lo i) = w ∨ va (hi i) = w) := fun i q => by
    rw [hT i] at q
    simp at q
    exact q
  have hTf : ∀ i, V i = true → va i = u → T' i = false → va (lo i) ≠ w ∧ va (hi i) ≠ w := fun i q1 q2 q => by
    rw [hT i, q1, q2] at q
    simp at q
    exact q
  have hTu : ∀ i, va i ≠ u → T' i = false := fun i q => by
    rw [hT i]
    simp [q]
  have stp : ∀ i c, V i = true → T' i = false → vl V c → lv (va i) < lv (va c) → (va i = u → va c ≠ w) → lv' (va i) < rk lv' va T' L c := by
    intro i c q t hc ho hx
    have iva := (h.1 i q).2.1
    have cva := gi_va h hc
    cases tc : T' c
    · rw [rk_f tc]
      rcases Nat.lt_trichotomy (lv (va i)) L with k | k | k
      · rw [l4 _ (Or.inl k)]
        by_cases c1 : va c = u
        · rw [c1, l2]; omega
        · by_cases c2 : va c = w
          · rw [c2, l1]; omega
          · rw [l3 _ c1 c2]; exact ho
      · have iu := e1 _ (by omega) k
        have c2 := hx iu
        have c3 : lv (va c) ≠ L + 1 := fun e => c2 (e2 _ cva e)
        rw [l4 (va c) (Or.inr (by omega)), iu, l2]
        omega
      · rcases Nat.lt_or_ge (L + 1) (lv (va i)) with k2 | k2
        · rw [l4 _ (Or.inr k2), l4 _ (Or.inr (by omega))]; exact ho
        · have iw := e2 _ (by omega) (by omega : lv (va i) = L + 1)
          rw [iw, l1, l4 (va c) (Or.inr (by omega))]
          omega
    · obtain ⟨-, c1, -⟩ := hTt c tc
      rw [rk_t tc]
      rw [c1, lu] at ho
      rw [l4 _ (Or.inl ho)]
      exact ho
  have hpk : ∀ i c, V i = true → va i = u → vl V c → lv (va i) < lv (va c) → gpk lv' V T' L va lo hi c := by
    intro i c q iu hc ho
    rw [iu, lu] at ho
    have cva := gi_va h hc
    refine ⟨hTu c (fun e => by rw [e, lu] at ho; omega), ?_⟩
    rcases Nat.lt_or_ge (L + 1) (lv (va c)) with k | k
    · exact Or.inl (by rw [l4 _ (Or.inr k)]; exact k)
    · have cw := e2 _ cva (by omega : lv (va c) = L + 1)
      have cV : V c = true := by
        rcases hc with z | z
        · have := gi_end h z
          omega
        · exact z
      obtain ⟨o1, o2⟩ := hord c cV
      rw [cw, lw] at o1 o2
      exact Or.inr ⟨by rw [cw, l1], cV, by rw [l4 _ (Or.inr o1)]; exact o1, by rw [l4 _ (Or.inr o2)]; exact o2⟩
  refine ⟨h.1, h.2.1, h.2.2.1, h.2.2.2.1, fun i q t => ?_, fun i t => ?_⟩
  · obtain ⟨o1, o2⟩ := hord i q
    obtain ⟨-, -, c1, c2⟩ := h.1 i q
    exact ⟨stp i _ q t c1 o1 (fun e => (hTf i q e t).1), stp i _ q t c2 o2 (fun e => (hTf i q e t).2)⟩
  · obtain ⟨q, iu, k⟩ := hTt i t
    obtain ⟨o1, o2⟩ := hord i q
    obtain ⟨-, -, c1, c2⟩ := h.1 i q
    refine ⟨q, by rw [iu, l2], hpk i _ q iu c1 o1, hpk i _ q iu c2 o2, ?_⟩
    rcases k with k | k
    · exact Or.inl (by rw [k, l1])
    · exact Or.inr (by rw [k, l1])
/-- one that waited is written anew: it asks the variable of level L -/
theorem gi_write (h : gi lv V T L va lo hi dn) {p w low high : Nat} (tp : T p = true) (hw : w < 12) (lw : lv w = L) (hl : vl V low) (hh : vl V high) (tl : T low = false) (th : T high = false) (ll : L < lv (va low)) (lh : L < lv (va high)) (hd : dn p = mk w (dn low) (dn high)) :
    gi lv V (fu T p false) L (fu va p w) (fu lo p low) (fu hi p high) dn := by
  obtain ⟨vp, lp1, -⟩ := h.2.2.2.2.2 p tp
  have p2 := (h.1 p vp).1
  have hTf : ∀ c, T c = false → c ≠ p := fun c q e => by rw [e, tp] at q; cases q
  have hTo : ∀ c, T c = false → fu T p false c = false := fun c q => by rw [fu_n (hTf c q)]; exact q
  have hrk : ∀ c, rk lv (fu va p w) (fu T p false) L c = rk lv va T L c := fun c => by
    by_cases e : c = p
    · subst e
      rw [rk_f (fu_s _ _ _), rk_t tp, fu_s, lw]
    · unfold rk
      rw [fu_n e, fu_n e]
  have hgpk : ∀ c, gpk lv V T L va lo hi c → gpk lv V (fu T p false) L (fu va p w) (fu lo p low) (fu hi p high) c := fun c q => by
    obtain ⟨q0, q1⟩ := q
    have e := hTf c q0
    refine ⟨hTo c q0, ?_⟩
    rw [fu_n e]
    rcases q1 with q1 | ⟨q1, q2, q3, q4⟩
    · exact Or.inl q1
    · have c1 : lo c ≠ p := fun z => by rw [z, lp1] at q3; omega
      have c2 : hi c ≠ p := fun z => by rw [z, lp1] at q4; omega
      rw [fu_n (f := lo) e, fu_n (f := hi) e, fu_n c1, fu_n c2]
      exact Or.inr ⟨q1, q2, q3, q4⟩
  refine ⟨fun i q => ?_, ?_, fun i q => ?_, h.2.2.2.1, fun i q t => ?_, fun i t => ?_⟩
  · obtain ⟨a1, a2, a3, a4⟩ := h.1 i q
    by_cases e : i = p
    · subst e
      rw [fu_s, fu_s, fu_s]
      exact ⟨a1, hw, hl, hh⟩
    · rw [fu_n e, fu_n e, fu_n e]
      exact ⟨a1, a2, a3, a4⟩
  · rw [fu_n (by omega : (0 : Nat) ≠ p), fu_n (by omega : (1 : Nat) ≠ p)]
    exact h.2.1
  · by_cases e : i = p
    · subst e
      rw [fu_s, fu_s, fu_s]
      exact hd
    · rw [fu_n e, fu_n e, fu_n e]
      exact h.2.2.1 i q
  · rw [hrk, hrk]
    by_cases e : i = p
    · subst e
      rw [fu_s, fu_s, fu_s, rk_f tl, rk_f th, lw]
      exact ⟨ll, lh⟩
    · rw [fu_n e] at t
      rw [fu_n e, fu_n e, fu_n e]
      exact h.2.2.2.2.1 i q t
  · have e : i ≠ p := fun z => by rw [z, fu_s] at t; cases t
    rw [fu_n e] at t
    obtain ⟨q0, q1, q2, q3, q4⟩ := h.2.2.2.2.2 i t
    rw [fu_n e, fu_n e, fu_n e, fu_n (hTf _ q2.1), fu_n (hTf _ q3.1)]
    exact ⟨q0, q1, hgpk _ q2, hgpk _ q3, q4⟩
end
