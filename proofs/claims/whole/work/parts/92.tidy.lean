/-! tidy: what it keeps -/
/-- the cells hold a table in which all is needed, and in which the slots sl stand for the functions of dn0 -/
def wk_s (N : Mm) (sl : Nat → Nat) (dn0 : Nat → Bf) : Prop := ∃ (A : Am) (V : Nat → Bool) (dn : Nat → Bf) (ch : Nat → List Nat) (fl : List Nat), mr N A ∧ tn A V dn ch fl (ex sl) ∧ nd_a A V ∧ A 9 4 ≤ 21475 ∧ (∀ i, (i ≤ 1 ∨ 0 < ex sl i) → dn i = dn0 i)
section
variable {sl : Nat → Nat} {dn0 : Nat → Bf}
theorem wk_swap {N : Mm} (h : wk_s N sl dn0) {k : Nat} (hk : k < 1000) : wk_s (j_swap N (nI k)) sl dn0 := by
  rcases Nat.lt_or_ge (k + 1) 12 with q | q
  · obtain ⟨A, V, dn, ch, fl, h1, h2, h3, h4, h5⟩ := h
    obtain ⟨A', V', dn', ch', fl', a1, a2, a3, a4, a5⟩ := swap_spec h1 h2 h3 q
    exact ⟨A', V', dn', ch', fl', a1, a2, a3, by rw [a4]; exact h4, fun i z => (a5 i z).trans (h5 i z)⟩
  · have e : j_swap N (nI k) = N := by
      unfold j_swap
      rw [nI_1, if_neg (nI_pos (by omega)), if_pos (show (12 : Int32) ≤ nI (k + 1) from nI_le (a := 12) q (by omega))]
    rw [e]; exact h
theorem wk_trI : ∀ (n : Nat) (N : Mm) (k : Nat), wk_s N sl dn0 → k + n < 1000 → wk_s (j_trI n N k) sl dn0
  | 0, _, _, h, _ => h
  | n + 1, N, k, h, hk => wk_trI n _ (k + 1) (wk_swap h (by omega)) (by omega)
theorem wk_trO : ∀ (n : Nat) (N : Mm), wk_s N sl dn0 → n < 500 → wk_s (j_trO n N) sl dn0
  | 0, _, h, _ => h
  | n + 1, N, h, hn => wk_trO n _ (wk_trI (n + 1) N 0 h (by omega)) (by omega)
theorem wk_sift1 (bear : Int32) : ∀ (n : Nat) (N : Mm) (k bl : Nat) (b : Int32) {N' : Mm} {k' bl' : Nat} {b' : Int32}, wk_s N sl dn0 → k + n < 500 → j_sift1 bear n N k bl b = (N', k', bl', b') → wk_s N' sl dn0 ∧ k' ≤ k + n
  | 0, N, k, bl, b, N', k', bl', b', h, hk, e => by
    rw [j_sift1] at e
    cases e
    exact ⟨h, Nat.le_refl _⟩
  | n + 1, N, k, bl, b, N', k', bl', b', h, hk, e => by
    rw [j_sift1] at e
    by_cases c1 : 12 ≤ k + 1
    · rw [if_pos c1] at e
      cases e
      exact ⟨h, by omega⟩
    · rw [if_neg c1] at e
      by_cases c2 : bear < N 0 3
      · rw [if_pos c2] at e
        cases e
        exact ⟨h, by omega⟩
      · rw [if_neg c2] at e
        have h1 := wk_swap h (k := k) (by omega)
        by_cases c3 : b ≤ j_swap N (nI k) 0 3
        · rw [if_pos c3] at e
          have := wk_sift1 bear n _ (k + 1) bl b h1 (by omega) e
          exact ⟨this.1, by omega⟩
        · rw [if_neg c3] at e
          have := wk_sift1 bear n _ (k + 1) (k + 1) _ h1 (by omega) e
          exact ⟨this.1, by omega⟩
theorem wk_sift2 (s0 : Nat) (bear : Int32) : ∀ (k : Nat) (N : Mm) (bl : Nat) (b : Int32) {N' : Mm} {k' bl' : Nat}, wk_s N sl dn0 → k < 600 → j_sift2 s0 bear k N bl b = (N', k', bl') → wk_s N' sl dn0 ∧ k' ≤ k
  | 0, N, bl, b, N', k', bl', h, hk, e => by
    rw [j_sift2] at e
    cases e
    exact ⟨h, Nat.le_refl _⟩
  | k + 1, N, bl, b, N', k', bl', h, hk, e => by
    rw [j_sift2] at e
    by_cases c1 : s0 < k + 1 ∨ ¬ bear < N 0 3
    · rw [if_pos c1] at e
      have h1 := wk_swap h (k := k) (by omega)
      by_cases c3 : b ≤ j_swap N (nI k) 0 3
      · rw [if_pos c3] at e
        have := wk_sift2 s0 bear k _ bl b h1 (by omega) e
        exact ⟨this.1, by omega⟩
      · rw [if_neg c3] at e
        have := wk_sift2 s0 bear k _ k _ h1 (by omega) e
        exact ⟨this.1, by omega⟩
    · rw [if_neg c1] at e
      cases e
      exact ⟨h, Nat.le_refl _⟩
theorem wk_sift3 (bl : Nat) : ∀ (n : Nat) (N : Mm) (k : Nat), wk_s N sl dn0 → k + n < 1000 → wk_s (j_sift3 bl n N k) sl dn0
  | 0, _, _, h, _ => h
  | n + 1, N, k, h, hk => by
    rw [j_sift3]
    by_cases c : k < bl
    · rw [if_pos c]
      exact wk_sift3 bl n _ (k + 1) (wk_swap h (by omega)) (by omega)
    · rw [if_neg c]; exact h
theorem wk_sift {N : Mm} {v : Nat} (h : wk_s N sl dn0) (hv : v < 13) : wk_s (j_sift N v) sl dn0 := by
  have hs : (N 4 v).toNatClampNeg < 13 := by
    obtain ⟨A, V, dn, ch, fl, h1, h2, -⟩ := h
    have := (h2.1.1 v hv).1
    rw [h1.2.2.2.2.1 v hv, nI_clamp (by omega)]
    exact this
  obtain ⟨N1, k1, bl1, b1, e⟩ := ex4 (j_sift1 (N 0 3 + N 0 3 / 4) 12 N (N 4 v).toNatClampNeg (N 4 v).toNatClampNeg (N 0 3))
  rw [sift_e e]
  obtain ⟨a1, a2⟩ := wk_sift1 _ 12 N _ _ _ h (by omega) e
  obtain ⟨N2, k2, bl2, e2⟩ : ∃ (a : Mm) (b c : Nat), j_sift2 (N 4 v).toNatClampNeg (N 0 3 + N 0 3 / 4) k1 N1 bl1 b1 = (a, b, c) := ⟨_, _, _, rfl⟩
  rw [fin2_e e2]
  obtain ⟨b1', b2⟩ := wk_sift2 _ _ k1 N1 _ _ a1 (by omega) e2
  exact wk_sift3 _ 12 N2 k2 b1' (by omega)
theorem wk_seek (e9 : Int32) : ∀ (n : Nat) (N : Mm) (done : Int32), wk_s N sl dn0 → wk_s (j_seek e9 n N done) sl dn0
  | 0, _, _, h => h
  | n + 1, N, done, h => by
    rw [j_seek]
    by_cases c1 : 0 ≤ N 0 5 - e9
    · rw [if_pos c1]; exact h
    · rw [if_neg c1]
      by_cases c2 : j_heldFor N (j_fullest N done) ≤ 0
      · rw [if_pos c2]; exact wk_seek e9 n N _ h
      · rw [if_neg c2]
        obtain ⟨w, hw, e⟩ := fullest_v c2
        exact wk_seek e9 n _ _ (wk_sift h (by rw [e, nI_clamp (by omega)]; omega))
theorem wk_tidy {N : Mm} {A : Am} {V : Nat → Bool} {dn : Nat → Bf} {ch : Nat → List Nat} {fl : List Nat} (hm : mr N A) (h : tn A V dn ch fl (ex sl)) (hl : A 9 4 ≤ 21475) (x : Int32) : wk_s (j_tidy N x) sl dn := by
  obtain ⟨A', V', ch', fl', y1, y2, y3, y4, y5, y6, y7⟩ := collect_spec (dn := dn) (ex_le sl) hm h
  have h0 : wk_s (j_collect N) sl dn := ⟨A', V', dn, ch', fl', y1, y2, y3, by rw [y7]; exact hl, fun _ _ => rfl⟩
  unfold j_tidy
  by_cases c1 : x = 1
  · rw [if_pos c1]; exact wk_seek _ 12 _ _ h0
  · rw [if_neg c1]
    by_cases c2 : x = 2
    · rw [if_pos c2]; exact wk_trO 11 _ h0 (by omega)
    · rw [if_neg c2]; exact h0
end
/-! wrong: no faults -/
section
variable {N : Mm} {A : Am} {V : Nat → Bool} {dn : Nat → Bf} {ch : Nat → List Nat} {fl : List Nat} {ext : Nat → Nat}
theorem twiceL_spec (hm : mr N A) (h : tn A V dn ch fl ext) {x : Nat} (vx : V x = true) : ∀ (n : Nat) (l : List Nat) (a : Nat), pl_lst (A 3) a l → x ∉ l → (∀ i, i ∈ l → V i = true ∧ A 0 i = A 0 x) → j_twiceL N (nI x) n (nI a) = 0 := by
  intro n
  induction n with
  | zero => intro l a _ _ _; rfl
  | succ n ih =>
    intro l a hl hx hin
    cases l with
    | nil =>
      have e0 : a = 0 := hl
      subst e0
      rw [j_twiceL, nI_0, if_pos rfl]
    | cons y l =>
      obtain ⟨e, y0, hl'⟩ := hl
      subst e
      obtain ⟨va, ea⟩ := hin a List.mem_cons_self
      have alt := tn_lt h (Or.inr va)
      have b1 := (ti_lt h (Or.inr va)).2
      have b2 := (ti_lt h (Or.inr vx)).2
      obtain ⟨-, -, c1, c2⟩ := h.2.1.1 a va
      obtain ⟨-, -, d1, d2⟩ := h.2.1.1 x vx
      have g1 : j_get N (nI a) 1 = nI (A 1 a) := mr_get hm (f := 1) b1 (by omega) (by omega)
      have g2 : j_get N (nI a) 2 = nI (A 2 a) := mr_get hm (f := 2) b1 (by omega) (by omega)
      have g3 : j_get N (nI a) 3 = nI (A 3 a) := mr_get hm (f := 3) b1 (by omega) (by omega)
      have k1 : j_get N (nI x) 1 = nI (A 1 x) := mr_get hm (f := 1) b2 (by omega) (by omega)
      have k2 : j_get N (nI x) 2 = nI (A 2 x) := mr_get hm (f := 2) b2 (by omega) (by omega)
      have ne : a ≠ x := fun z => hx (by rw [z]; exact List.mem_cons_self)
      have ih' := ih l (A 3 a) hl' (fun z => hx (List.mem_cons_of_mem _ z)) (fun i q => hin i (List.mem_cons_of_mem _ q))
      rw [j_twiceL, if_neg (nI_ne0 (by omega) (by omega)), g1, g2, g3, k1, k2]
      by_cases e1 : A 1 a = A 1 x
      · by_cases e2 : A 2 a = A 2 x
        · exfalso
          refine ne (h.2.1.2.2.2.1 a x (Or.inr va) (Or.inr vx) ?_)
          rw [h.2.1.2.2.1 a va, h.2.1.2.2.1 x vx, e1, e2, ea]
        · rw [if_pos (by rw [e1]), if_neg (fun z => e2 ((nI_qq (tn_lt h c2) (tn_lt h d2)).mp z))]
          exact ih'
      · rw [if_neg (fun z => e1 ((nI_qq (tn_lt h c1) (tn_lt h d1)).mp z))]
        exact ih'
theorem misp_spec (hm : mr N A) (h : tn A V dn ch fl ext) {x c : Nat} (vx : V x = true) (ec : hc (A 0 x) (A 1 x) (A 2 x) = c) : j_isMisplaced N (nI x) (nI c) = 0 := by
  have b := (ti_lt h (Or.inr vx)).2
  obtain ⟨hv, w1, w2, o1, o2, -, -, -⟩ := tn_dep h vx
  have g0 := asked_spec hm h (Or.inr vx)
  have g1 : j_get N (nI x) 1 = nI (A 1 x) := mr_get hm (f := 1) b (by omega) (by omega)
  have g2 : j_get N (nI x) 2 = nI (A 2 x) := mr_get hm (f := 2) b (by omega) (by omega)
  have l1 := (h.1.1 _ (tn_va h w1)).1
  have l2 := (h.1.1 _ (tn_va h w2)).1
  unfold j_isMisplaced
  rw [g0, g1, g2, levA_spec hm h w1, levA_spec hm h w2, mr_lev hm (by omega), j_chain, ec, j_min_n (by omega) (by omega), if_neg (fun z => gi_ne h.2.1 vx ((nI_qq (tn_lt h w1) (tn_lt h w2)).mp z)), if_neg (nI_ge (by omega) (by omega)), if_pos rfl]
theorem faultsC_spec (hm : mr N A) (h : tn A V dn ch fl ext) {c : Nat} (found : Int32) : ∀ (n : Nat) (l : List Nat) (a : Nat), pl_lst (A 3) a l → l.Nodup → (∀ i, i ∈ l → V i = true ∧ hc (A 0 i) (A 1 i) (A 2 i) = c) → j_faultsC N (nI c) n found (nI a) = found := by
  intro n
  induction n with
  | zero => intro l a _ _ _; rfl
  | succ n ih =>
    intro l a hl hd hin
    cases l with
    | nil =>
      have e0 : a = 0 := hl
      subst e0
      rw [j_faultsC, nI_0, if_pos rfl]
    | cons y l =>
      obtain ⟨e, y0, hl'⟩ := hl
      subst e
      rw [List.nodup_cons] at hd
      obtain ⟨va, ea⟩ := hin a List.mem_cons_self
      have alt := tn_lt h (Or.inr va)
      have g3 : j_get N (nI a) 3 = nI (A 3 a) := mr_get hm (f := 3) (ti_lt h (Or.inr va)).2 (by omega) (by omega)
      have e1 := misp_spec hm h va ea
      have e2 : j_isThereTwice N (nI a) = 0 := by
        unfold j_isThereTwice
        rw [g3]
        refine twiceL_spec hm h va 24800 l (A 3 a) hl' hd.1 (fun i q => ?_)
        obtain ⟨vi, ei⟩ := hin i (List.mem_cons_of_mem _ q)
        exact ⟨vi, by rw [← hc_div (v := A 0 i) (l := A 1 i) (h := A 2 i), ei, ← ea, hc_div]⟩
      rw [j_faultsC, if_neg (nI_ne0 (by omega) (by omega)), e1, e2, if_pos rfl, if_pos rfl, g3]
      exact ih l (A 3 a) hl' hd.2 (fun i q => hin i (List.mem_cons_of_mem _ q))
theorem faultsH_spec (hm : mr N A) (h : tn A V dn ch fl ext) : ∀ (n c : Nat), c + n ≤ 768 → j_faultsH N n (nI c) 0 = 0 := by
  intro n
  induction n with
  | zero => intro c _; rfl
  | succ n ih =>
    intro c hc1
    obtain ⟨w1, w2, w3⟩ := h.2.2.1 c (by omega)
    rw [j_faultsH, nI_clamp (by omega), hm.2.2.1 c (by omega), faultsC_spec hm h 0 24800 _ _ w1 w2 (fun i q => ⟨((w3 i).mp q).1, ((w3 i).mp q).2.2⟩), nI_1]
    exact ih (c + 1) (by omega)
theorem faults_spec (hm : mr N A) (h : tn A V dn ch fl ext) : j_faults N = 0 := faultsH_spec hm h 768 0 (by omega)
end
