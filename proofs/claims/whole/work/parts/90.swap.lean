/-! swap: two levels change places -/
section
variable {ext : Nat → Nat}
theorem c9_size {A : Am} {V T : Nat → Bool} {L : Nat} {dn : Nat → Bf} {ch : Nat → List Nat} {fl : List Nat} (h : ti A V T L dn ch fl ext) : A 9 3 ≤ c9_n A V T L + 254 := by
  obtain ⟨h1, h2, -, -, -, h6, h7, -⟩ := h
  have q1 := pc_split V (fun i => decide (rk (A 7) (A 0) T L i < 9)) 24800
  have q2 := gi_bot h2 h1 (n := 24800) (by omega)
  have q3 : pc_cnt (fun i => V i && !decide (rk (A 7) (A 0) T L i < 9)) 24800 = pc_cnt (fun i => V i && decide (9 ≤ rk (A 7) (A 0) T L i)) 24800 := pc_congr (fun i _ => by
    cases V i
    · rfl
    · simp only [Bool.true_and]
      rw [Bool.eq_iff_iff]
      simp)
  rw [q3] at q1
  unfold c9_n
  omega
theorem swapL_spec (hxb : ∀ i, ext i ≤ 100) {u w L : Nat} (hu : u < 12) (hw9 : w < 12) : ∀ (n : Nat) (tl : List Nat) (node : Nat) (N : Mm) (A : Am) (V T : Nat → Bool) (dn : Nat → Bf) (ch : Nat → List Nat) (fl : List Nat), mr N A → ti A V T L dn ch fl ext → nd_a A V → pl_lst (A 3) node tl → tl.Nodup → (∀ i, i ∈ tl ↔ T i = true) → tl.length ≤ n → A 7 u = L + 1 → A 7 w = L → (A 9 3 + 2 * tl.length + 2 ≤ A 9 0 ∨ (8 ≤ L ∧ A 9 0 = 24800 ∧ c9_n A V T L ≤ 16606)) →
    ∃ (A' : Am) (V' : Nat → Bool) (dn' : Nat → Bf) (ch' : Nat → List Nat) (fl' : List Nat), mr (j_swapL (nI u) (nI w) n N (nI node)) A' ∧ tn A' V' dn' ch' fl' ext ∧ nd_a A' V' ∧ A' 9 4 = A 9 4 ∧ (∀ i, (i ≤ 1 ∨ 0 < ext i) → dn' i = dn i) := by
  have fin : ∀ (A : Am) (V T : Nat → Bool) (dn : Nat → Bf) (ch : Nat → List Nat) (fl : List Nat), ti A V T L dn ch fl ext → (∀ i, T i = false) → tn A V dn ch fl ext := fun A V T dn ch fl h hT => by
    have eT : T = nT := funext hT
    subst eT
    obtain ⟨h1, h2, h3⟩ := h
    exact ⟨h1, gi_L h2 (fun _ => rfl) 0, h3⟩
  intro n
  induction n with
  | zero =>
    intro tl node N A V T dn ch fl hm h hn hl hd hin hlen lu lw9 hr
    have : tl = [] := List.eq_nil_of_length_eq_zero (by omega)
    subst this
    exact ⟨A, V, dn, ch, fl, hm, fin A V T dn ch fl h (fun i => by
      cases e : T i
      · rfl
      · have := (hin i).mpr e
        cases this), hn, rfl, fun _ _ => rfl⟩
  | succ n ih =>
    intro tl node N A V T dn ch fl hm h hn hl hd hin hlen lu lw9 hr
    cases tl with
    | nil =>
      have e0 : node = 0 := hl
      subst e0
      rw [j_swapL, nI_0, if_pos rfl]
      exact ⟨A, V, dn, ch, fl, hm, fin A V T dn ch fl h (fun i => by
        cases e : T i
        · rfl
        · have := (hin i).mpr e
          cases this), hn, rfl, fun _ _ => rfl⟩
    | cons p tl =>
      obtain ⟨ep, p0, hl'⟩ := hl
      subst ep
      rw [List.nodup_cons] at hd
      have tp := (hin node).mp List.mem_cons_self
      have vp := (h.2.1.2.2.2.2.2 node tp).1
      have plt := (ti_lt h (Or.inr vp)).2
      have hR := hm.2.2.2.2.2.2.2
      have g3 : j_get N (nI node) 3 = nI (A 3 node) := mr_get hm (f := 3) plt (by omega) (by omega)
      rw [j_swapL, if_neg (nI_ne0 (by omega) (by omega)), g3]
      have c9s := c9_size h
      simp only [List.length_cons] at hr hlen
      obtain ⟨A1, V1, dn1, ch1, fl1, a1, a2, a3, a4, a5, a6, a7, a8, a9, a10, a11⟩ := rewrite_spec hm h hn hxb tp hu hw9 lu lw9 (by omega)
      have mem : ∀ i, i ∈ tl ↔ fu T node false i = true := fun i => by
        by_cases e : i = node
        · subst e
          rw [fu_s]
          exact ⟨fun q => absurd q hd.1, fun q => by cases q⟩
        · rw [fu_n e, ← hin i, List.mem_cons]
          exact ⟨fun q => Or.inr q, fun q => by
            rcases q with q | q
            · exact absurd q e
            · exact q⟩
      obtain ⟨A', V', dn', ch', fl', b1, b2, b3, b4, b5⟩ := ih tl (A 3 node) _ A1 V1 (fu T node false) dn1 ch1 fl1 a1 a2 a3 (pl_congr (fun i q => a4 i ((mem i).mp q)) hl') hd.2 mem (by omega) (by rw [a5]; exact lu) (by rw [a5]; exact lw9) (by
        rcases hr with q | ⟨q1, q2, q3⟩
        · exact Or.inl (by omega)
        · exact Or.inr ⟨q1, by omega, Nat.le_trans (a11 q1) q3⟩)
      refine ⟨A', V', dn', ch', fl', b1, b2, b3, by rw [b4, a8], fun i q => ?_⟩
      rw [b5 i q]
      refine a10 i ?_
      rcases Nat.lt_or_ge i 2 with z | z
      · exact Or.inl (by omega)
      · refine Or.inr ?_
        cases e : V i
        · have := h.2.2.2.2.2.2.2.2.2 i z e
          omega
        · rfl
def Tl (tl : List Nat) : Nat → Bool := fun j => decide (j ∈ tl)
theorem Tl_f {tl : List Nat} {i : Nat} : Tl tl i = false ↔ i ∉ tl := by unfold Tl; exact decide_eq_false_iff_not
theorem Tl_t {tl : List Nat} {i : Nat} : Tl tl i = true ↔ i ∈ tl := by unfold Tl; exact decide_eq_true_iff
theorem Tl_n {tl : List Nat} {i x : Nat} (h : i ≠ x) : Tl (x :: tl) i = Tl tl i := by
  unfold Tl
  exact decide_eq_decide.mpr (by rw [List.mem_cons]; exact ⟨fun q => by
    rcases q with q | q
    · exact absurd q h
    · exact q, fun q => Or.inr q⟩)
theorem Tl_0 : Tl [] = nT := by funext i; unfold Tl nT; simp
def dst (B : Am) (V T : Nat → Bool) (fl : List Nat) (N : Mm) (A : Am) (tl : List Nat) (taken : Nat) : Prop :=
  mr N A ∧ (∀ f, f ≠ 3 → f ≠ 5 → f ≠ 6 → A f = B f) ∧ pl_lst (A 3) taken tl ∧ tl.Nodup ∧ (∀ i, i ∈ tl → V i = true ∧ T i = true) ∧ pl_lst (A 3) (A 9 2) fl ∧ (∀ v, v < 12 → A 6 v = pc_cnt (fun j => V j && (!(Tl tl) j && A 0 j == v)) 24800)
set_option maxHeartbeats 1000000 in
theorem detachC_spec {B : Am} {V T : Nat → Bool} {fl : List Nat} {ch : Nat → List Nat} {u w c : Nat} (hu : u < 12) (hw9 : w < 12) (hB : ∀ i, V i = true → 2 ≤ i ∧ i < B 9 0 ∧ B 1 i < B 9 0 ∧ B 2 i < B 9 0 ∧ B 0 (B 1 i) < 13 ∧ B 0 (B 2 i) < 13) (hB0 : B 9 0 ≤ 24800) (hfl : ∀ i, i ∈ fl → V i = false) (hT : ∀ i, T i = (V i && (B 0 i == u && (B 0 (B 1 i) == w || B 0 (B 2 i) == w)))) (hcu : c / 64 = u) :
    ∀ (n : Nat) (N : Mm) (A : Am) (taken kept node : Nat) (tl kl rl : List Nat), dst B V T fl N A tl taken → oth A V (Tl tl) ch c → pl_lst (A 3) kept kl → pl_lst (A 3) node rl → kl.Nodup → rl.Nodup → (∀ i, i ∈ kl → i ∉ rl) → (∀ i, (i ∈ kl ∨ i ∈ rl) ↔ (V i = true ∧ Tl tl i = false ∧ hc (B 0 i) (B 1 i) (B 2 i) = c)) → (∀ i, i ∈ kl → T i = false) → rl.length ≤ n →
    ∃ (N' : Mm) (A' : Am) (taken' kept' : Nat) (tl' kl' : List Nat), j_detachC (nI w) u n N (nI taken) (nI kept) (nI node) = (N', nI taken', nI kept') ∧ dst B V T fl N' A' tl' taken' ∧ oth A' V (Tl tl') ch c ∧ pl_lst (A' 3) kept' kl' ∧ kl'.Nodup ∧ (∀ i, i ∈ kl' ↔ (V i = true ∧ Tl tl' i = false ∧ hc (B 0 i) (B 1 i) (B 2 i) = c)) ∧ (∀ i, i ∈ kl' → T i = false) ∧ (∀ i, i ∈ tl → i ∈ tl') := by
  intro n
  induction n with
  | zero =>
    intro N A taken kept node tl kl rl hd ho k1 r1 k2 r2 dj hin hk hn
    have : rl = [] := List.eq_nil_of_length_eq_zero (by omega)
    subst this
    exact ⟨N, A, taken, kept, tl, kl, rfl, hd, ho, k1, k2, fun i => ⟨fun q => (hin i).mp (Or.inl q), fun q => by
      rcases (hin i).mpr q with z | z
      · exact z
      · cases z⟩, hk, fun _ q => q⟩
  | succ n ih =>
    intro N A taken kept node tl kl rl hd ho k1 r1 k2 r2 dj hin hk hn
    cases rl with
    | nil =>
      have e0 : node = 0 := r1
      subst e0
      exact ⟨N, A, taken, kept, tl, kl, by rw [j_detachC, nI_0, if_pos rfl], hd, ho, k1, k2, fun i => ⟨fun q => (hin i).mp (Or.inl q), fun q => by
        rcases (hin i).mpr q with z | z
        · exact z
        · cases z⟩, hk, fun _ q => q⟩
    | cons y rl =>
      obtain ⟨ey, y0, r1'⟩ := r1
      subst ey
      obtain ⟨hm, hAB, t1, t2, t3, t4, t5⟩ := id hd
      obtain ⟨vy, ty, cy⟩ := (hin node).mp (Or.inr List.mem_cons_self)
      obtain ⟨y2, yb, yl, yh, ya, yc⟩ := hB node vy
      have A0 := hAB 0 (by omega) (by omega) (by omega)
      have A1e := hAB 1 (by omega) (by omega) (by omega)
      have A2e := hAB 2 (by omega) (by omega) (by omega)
      have A9 := hAB 9 (by omega) (by omega) (by omega)
      have yu : B 0 node = u := by rw [← hcu, ← cy, hc_div]
      have yb' : node < A 9 0 := by rw [A9]; exact yb
      have g1 : j_get N (nI node) 1 = nI (B 1 node) := by
        have := mr_get hm (i := node) (f := 1) yb' (by omega) (by omega)
        rw [A1e] at this; exact this
      have g2 : j_get N (nI node) 2 = nI (B 2 node) := by
        have := mr_get hm (i := node) (f := 2) yb' (by omega) (by omega)
        rw [A2e] at this; exact this
      have g3 : j_get N (nI node) 3 = nI (A 3 node) := mr_get hm (f := 3) yb' (by omega) (by omega)
      have g10 : j_get N (nI (B 1 node)) 0 = nI (B 0 (B 1 node)) := by
        have := mr_get hm (i := B 1 node) (f := 0) (by rw [A9]; exact yl) (by omega) (by omega)
        rw [A0] at this; exact this
      have g20 : j_get N (nI (B 2 node)) 0 = nI (B 0 (B 2 node)) := by
        have := mr_get hm (i := B 2 node) (f := 0) (by rw [A9]; exact yh) (by omega) (by omega)
        rw [A0] at this; exact this
      rw [List.nodup_cons] at r2
      have ntl : node ∉ tl := Tl_f.mp ty
      have nkl : node ∉ kl := fun q => dj node q List.mem_cons_self
      have nfl : node ∉ fl := fun q => by
        have := hfl node q
        rw [vy] at this; cases this
      have noth : ∀ c', c' < 768 → c' ≠ c → node ∉ ch c' := fun c' q1 q2 q => by
        have := ((ho c' q1 q2).2.2 node).mp q
        rw [A0, A1e, A2e] at this
        exact q2 (this.2.2.symm.trans cy)
      have hcond : (nI (B 0 (B 1 node)) = nI w ∨ nI (B 0 (B 2 node)) = nI w) ↔ T node = true := by
        rw [hT node, vy, yu, nI_eq (by omega) (by omega), nI_eq (by omega) (by omega)]
        simp
      have hst : j_detachC (nI w) u (n + 1) N (nI taken) (nI kept) (nI node) = if nI (B 0 (B 1 node)) = nI w ∨ nI (B 0 (B 2 node)) = nI w then j_detachC (nI w) u n (up (j_set N (nI node) 3 (nI taken)) 3 u (N 3 u - 1)) (nI node) (nI kept) (nI (A 3 node)) else j_detachC (nI w) u n (j_set N (nI node) 3 (nI kept)) (nI taken) (nI node) (nI (A 3 node)) := by
        rw [j_detachC, if_neg (nI_ne0 (by omega) (by omega)), g1, g2, g3, g10, g20]
      have nylt : node < 24800 := by omega
      by_cases ct : T node = true
      · rw [hst, if_pos (hcond.mpr ct)]
        have h6 : 1 ≤ A 6 u := by
          rw [t5 u hu]
          refine pc_pos (k := node) nylt ?_
          rw [vy, ty, A0, yu]; simp
        have e6 : N 3 u - 1 = nI (A 6 u - 1) := by rw [hm.2.2.2.1 u hu, nI_sub1 (by omega)]
        rw [e6]
        have m1 := mr_set hm (i := node) (f := 3) yb' (by omega) taken
        have m2 := mr_held m1 (j := u) (A 6 u - 1)
        obtain ⟨C, hC⟩ : ∃ C, am (am A 3 node taken) 6 u (A 6 u - 1) = C := ⟨_, rfl⟩
        have C3 : C 3 = fu (A 3) node taken := by rw [← hC, am_n (by omega), am_s]
        have C6 : C 6 = fu (A 6) u (A 6 u - 1) := by rw [← hC, am_s, am_n (by omega)]
        have Cn : ∀ f, f ≠ 3 → f ≠ 6 → C f = A f := fun f q1 q2 => by rw [← hC, am_n q2, am_n q1]
        have m2' : mr (up (j_set N (nI node) 3 (nI taken)) 3 u (nI (A 6 u - 1))) C := by rw [← hC]; exact m2
        have d2 : dst B V T fl (up (j_set N (nI node) 3 (nI taken)) 3 u (nI (A 6 u - 1))) C (node :: tl) node := by
          refine ⟨m2', fun f q1 q2 q3 => by rw [Cn f q1 q3, hAB f q1 q2 q3], ?_, List.nodup_cons.mpr ⟨ntl, t2⟩, fun i q => ?_, ?_, fun v hv => ?_⟩
          · rw [C3]
            exact ⟨rfl, y0, by rw [fu_s]; exact pl_upd t1 ntl⟩
          · rcases List.mem_cons.mp q with z | z
            · rw [z]; exact ⟨vy, ct⟩
            · exact t3 i z
          · rw [C3, Cn 9 (by omega) (by omega)]
            exact pl_upd t4 nfl
          · have c1 := pc_one (P := fun j => V j && (!(Tl tl) j && A 0 j == v)) (Q := fun j => V j && (!(Tl (node :: tl)) j && C 0 j == v)) (k := node) nylt (fun j hj => by show (V j && (!(Tl (node :: tl)) j && C 0 j == v)) = (V j && (!(Tl tl) j && A 0 j == v)); rw [Tl_n hj, Cn 0 (by omega) (by omega)])
            have c2 : Tl (node :: tl) node = true := Tl_t.mpr List.mem_cons_self
            simp only [vy, ty, c2, Bool.true_and, Bool.not_true, Bool.not_false, Bool.false_and, Bool.toNat_false] at c1
            rw [bq_if, A0, yu] at c1
            have a2 := t5 v hv
            rw [A0] at a2
            rw [C6]
            by_cases e : v = u
            · subst e
              rw [fu_s]
              rw [if_pos rfl] at c1
              omega
            · rw [fu_n e]
              rw [if_neg e] at c1
              omega
        obtain ⟨N', A', taken', kept', tl', kl', z1, z2, z3, z4, z5, z6, z7, z8⟩ := ih _ C node kept (A 3 node) (node :: tl) kl rl d2 (fun c' q1 q2 => by
            obtain ⟨v1, v2, v3⟩ := ho c' q1 q2
            rw [C3, Cn 5 (by omega) (by omega), Cn 0 (by omega) (by omega), Cn 1 (by omega) (by omega), Cn 2 (by omega) (by omega)]
            refine ⟨pl_upd v1 (noth c' q1 q2), v2, fun i => ?_⟩
            by_cases ci : i = node
            · rw [ci]
              exact ⟨fun q => absurd q (noth c' q1 q2), fun q => by
                have := q.2.1
                rw [Tl_f] at this
                exact absurd List.mem_cons_self this⟩
            · rw [Tl_n ci]; exact v3 i)
          (by rw [C3]; exact pl_upd k1 nkl) (by rw [C3]; exact pl_upd r1' r2.1) k2 r2.2 (fun i q z => dj i q (List.mem_cons_of_mem _ z))
          (fun i => by
            by_cases ci : i = node
            · rw [ci]
              refine ⟨fun q => ?_, fun q => ?_⟩
              · rcases q with q | q
                · exact absurd q nkl
                · exact absurd q r2.1
              · have := q.2.1
                rw [Tl_f] at this
                exact absurd List.mem_cons_self this
            · rw [Tl_n ci, ← hin i, List.mem_cons]
              exact ⟨fun q => by
                rcases q with q | q
                · exact Or.inl q
                · exact Or.inr (Or.inr q), fun q => by
                rcases q with q | q | q
                · exact Or.inl q
                · exact absurd q ci
                · exact Or.inr q⟩)
          hk (by simp at hn; omega)
        exact ⟨N', A', taken', kept', tl', kl', z1, z2, z3, z4, z5, z6, z7, fun i q => z8 i (List.mem_cons_of_mem _ q)⟩
      · rw [hst, if_neg (fun q => ct (hcond.mp q))]
        have m1 := mr_set hm (i := node) (f := 3) yb' (by omega) kept
        obtain ⟨C, hC⟩ : ∃ C, am A 3 node kept = C := ⟨_, rfl⟩
        have C3 : C 3 = fu (A 3) node kept := by rw [← hC, am_s]
        have Cn : ∀ f, f ≠ 3 → C f = A f := fun f q1 => by rw [← hC, am_n q1]
        have m1' : mr (j_set N (nI node) 3 (nI kept)) C := by rw [← hC]; exact m1
        have d2 : dst B V T fl (j_set N (nI node) 3 (nI kept)) C tl taken := by
          refine ⟨m1', fun f q1 q2 q3 => by rw [Cn f q1, hAB f q1 q2 q3], ?_, t2, t3, ?_, fun v hv => ?_⟩
          · rw [C3]; exact pl_upd t1 ntl
          · rw [C3, Cn 9 (by omega)]; exact pl_upd t4 nfl
          · rw [Cn 6 (by omega), Cn 0 (by omega)]; exact t5 v hv
        exact ih _ C taken node (A 3 node) tl (node :: kl) rl d2 (fun c' q1 q2 => by
            obtain ⟨v1, v2, v3⟩ := ho c' q1 q2
            rw [C3, Cn 5 (by omega), Cn 0 (by omega), Cn 1 (by omega), Cn 2 (by omega)]
            exact ⟨pl_upd v1 (noth c' q1 q2), v2, v3⟩)
          (by rw [C3]; exact ⟨rfl, y0, by rw [fu_s]; exact pl_upd k1 nkl⟩) (by rw [C3]; exact pl_upd r1' r2.1) (List.nodup_cons.mpr ⟨nkl, k2⟩) r2.2
          (fun i q z => by
            rcases List.mem_cons.mp q with y | y
            · rw [y] at z; exact r2.1 z
            · exact dj i y (List.mem_cons_of_mem _ z))
          (fun i => by
            rw [← hin i, List.mem_cons, List.mem_cons]
            constructor
            · rintro ((y | y) | y)
              · exact Or.inr (Or.inl y)
              · exact Or.inl y
              · exact Or.inr (Or.inr y)
            · rintro (y | y | y)
              · exact Or.inl (Or.inr y)
              · exact Or.inl (Or.inl y)
              · exact Or.inr y)
          (fun i q => by
            rcases List.mem_cons.mp q with y | y
            · rw [y, ← Bool.not_eq_true]; exact ct
            · exact hk i y) (by simp at hn; omega)
theorem detachH_spec {B : Am} {V T : Nat → Bool} {fl : List Nat} {u w : Nat} (hu : u < 12) (hw9 : w < 12) (hB : ∀ i, V i = true → 2 ≤ i ∧ i < B 9 0 ∧ B 1 i < B 9 0 ∧ B 2 i < B 9 0 ∧ B 0 (B 1 i) < 13 ∧ B 0 (B 2 i) < 13) (hB0 : B 9 0 ≤ 24800) (hfl : ∀ i, i ∈ fl → V i = false) (hT : ∀ i, T i = (V i && (B 0 i == u && (B 0 (B 1 i) == w || B 0 (B 2 i) == w)))) :
    ∀ (n j : Nat) (N : Mm) (A : Am) (taken : Nat) (tl : List Nat) (ch : Nat → List Nat), n + j = 64 → dst B V T fl N A tl taken → chs A V (Tl tl) ch → (∀ i, T i = true → hs (B 1 i) (B 2 i) < j → i ∈ tl) →
    ∃ (N' : Mm) (A' : Am) (taken' : Nat) (tl' : List Nat) (ch' : Nat → List Nat), j_detachH (nI w) (nI u) n N (nI taken) (nI (u * 64 + j)) = (N', nI taken') ∧ dst B V T fl N' A' tl' taken' ∧ chs A' V (Tl tl') ch' ∧ (∀ i, T i = true → i ∈ tl') := by
  intro n
  induction n with
  | zero =>
    intro j N A taken tl ch hj hd hc1 hp
    exact ⟨N, A, taken, tl, ch, rfl, hd, hc1, fun i q => hp i q (by have := (hs_e (B 1 i) (B 2 i)).1; omega)⟩
  | succ n ih =>
    intro j N A taken tl ch hj hd hc1 hp
    have hcc : u * 64 + j < 768 := by omega
    obtain ⟨hm, hAB, t1, t2, t3, t4, t5⟩ := id hd
    have A0 := hAB 0 (by omega) (by omega) (by omega)
    have A1e := hAB 1 (by omega) (by omega) (by omega)
    have A2e := hAB 2 (by omega) (by omega) (by omega)
    obtain ⟨c1, c2, c3⟩ := hc1 _ hcc
    have hlen : (ch (u * 64 + j)).length ≤ 24800 := by
      have := pc_list (P := V) (n := 24800) c2 (fun x q => ⟨by have := (hB x ((c3 x).mp q).1).2.1; omega, ((c3 x).mp q).1⟩)
      exact Nat.le_trans this (pc_lt V 24800)
    rw [A0, A1e, A2e] at c3
    obtain ⟨N1, A1, taken1, kept1, tl1, kl1, z1, z2, z3, z4, z5, z6, z7, z8⟩ := detachC_spec (ch := ch) (c := u * 64 + j) hu hw9 hB hB0 hfl hT (by omega) 24800 N A taken 0 (A 5 (u * 64 + j)) tl [] (ch (u * 64 + j)) hd (fun c' q1 _ => hc1 c' q1) rfl c1 List.nodup_nil c2 (fun i q => by cases q) (fun i => by
        rw [c3 i]
        exact ⟨fun q => by
          rcases q with q | q
          · cases q
          · exact q, fun q => Or.inr q⟩) (fun i q => by cases q) hlen
    have eC : j_detachC (nI w) u 24800 N (nI taken) 0 (N 2 (u * 64 + j)) = (N1, nI taken1, nI kept1) := by
      rw [hm.2.2.1 _ hcc]; exact z1
    have est : j_detachH (nI w) (nI u) (n + 1) N (nI taken) (nI (u * 64 + j)) = j_detachH (nI w) (nI u) n (up N1 2 (u * 64 + j) (nI kept1)) (nI taken1) (nI (u * 64 + (j + 1))) := by
      rw [j_detachH, if_neg (nI_pos (by omega)), if_neg (nI_ge hcc (by omega)), if_neg (nI_pos (by omega)), if_neg (nI_ge hu (by omega)), nI_clamp (by omega : u * 64 + j < 2 ^ 31), nI_clamp (by omega : u < 2 ^ 31), eC, nI_1]
      rfl
    rw [est]
    obtain ⟨y1, y2, y3, y4, y5, y6, y7⟩ := id z2
    obtain ⟨C, hC⟩ : ∃ C, am A1 5 (u * 64 + j) kept1 = C := ⟨_, rfl⟩
    have C5 : C 5 = fu (A1 5) (u * 64 + j) kept1 := by rw [← hC, am_s]
    have Cn : ∀ f, f ≠ 5 → C f = A1 f := fun f q1 => by rw [← hC, am_n q1]
    have m1 : mr (up N1 2 (u * 64 + j) (nI kept1)) C := by rw [← hC]; exact mr_head y1 _
    have d2 : dst B V T fl (up N1 2 (u * 64 + j) (nI kept1)) C tl1 taken1 :=
      ⟨m1, fun f q1 q2 q3 => by rw [Cn f q2, y2 f q1 q2 q3], by rw [Cn 3 (by omega)]; exact y3, y4, y5, by rw [Cn 3 (by omega), Cn 9 (by omega)]; exact y6, fun v hv => by rw [Cn 6 (by omega), Cn 0 (by omega)]; exact y7 v hv⟩
    refine ih (j + 1) _ C taken1 tl1 (fu ch (u * 64 + j) kl1) (by omega) d2 (fun c' q1 => ?_) (fun i q1 q2 => ?_)
    · rw [C5, Cn 3 (by omega), Cn 0 (by omega), Cn 1 (by omega), Cn 2 (by omega)]
      by_cases e : c' = u * 64 + j
      · subst e
        rw [fu_s, fu_s, y2 0 (by omega) (by omega) (by omega), y2 1 (by omega) (by omega) (by omega), y2 2 (by omega) (by omega) (by omega)]
        exact ⟨z4, z5, z6⟩
      · rw [fu_n e, fu_n e]
        exact z3 c' q1 e
    · by_cases e : hs (B 1 i) (B 2 i) < j
      · exact z8 i (hp i q1 e)
      · have q1' := q1
        rw [hT i] at q1'
        simp only [Bool.and_eq_true, beq_iff_eq] at q1'
        rcases Classical.em (i ∈ tl1) with z | z
        · exact z
        · have := z7 i ((z6 i).mpr ⟨q1'.1, Tl_f.mpr z, by unfold hc; rw [q1'.2.1]; omega⟩)
          rw [q1] at this; cases this
end
