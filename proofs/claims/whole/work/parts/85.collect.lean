/-! collect: what nobody needs goes -/
def nd_a (A : Am) (V : Nat → Bool) : Prop := ∀ i, V i = true → 0 < A 4 i
/-- the chains but one -/
def oth (A : Am) (V T : Nat → Bool) (ch : Nat → List Nat) (c : Nat) : Prop := ∀ c', c' < 768 → c' ≠ c → pl_lst (A 3) (A 5 c') (ch c') ∧ (ch c').Nodup ∧ ∀ i, i ∈ ch c' ↔ (V i = true ∧ T i = false ∧ hc (A 0 i) (A 1 i) (A 2 i) = c')
theorem oc_le (A : Am) (V : Nat → Bool) (i : Nat) : oc A V i ≤ 49600 := by
  unfold oc
  have h1 := pc_lt (fun j => V j && A 1 j == i) 24800
  have h2 := pc_lt (fun j => V j && A 2 j == i) 24800
  omega
theorem hc_div {v l h : Nat} : hc v l h / 64 = v := by
  have := (hs_e l h).1
  unfold hc; omega
section
variable {dn : Nat → Bf} {ext : Nat → Nat}
set_option maxHeartbeats 1000000 in
theorem needed_spec (hx : ∀ i, ext i ≤ 100) {c : Nat} {ch : Nat → List Nat} : ∀ (n : Nat) (N : Mm) (A : Am) (V : Nat → Bool) (fl : List Nat) (kept node : Nat) (kl rl : List Nat), mr N A → tc_t A V nT 0 dn fl ext → oth A V nT ch c → pl_lst (A 3) kept kl → pl_lst (A 3) node rl → kl.Nodup → rl.Nodup → (∀ i, i ∈ kl → i ∉ rl) → (∀ i, (i ∈ kl ∨ i ∈ rl) ↔ (V i = true ∧ hc (A 0 i) (A 1 i) (A 2 i) = c)) → rl.length ≤ n → (∀ i, i ∈ kl → 0 < A 4 i) →
    ∃ (N' : Mm) (A' : Am) (V' : Nat → Bool) (fl' : List Nat) (kept' : Nat) (kl' : List Nat), j_neededL n N (nI kept) (nI node) = (N', nI kept') ∧ mr N' A' ∧ tc_t A' V' nT 0 dn fl' ext ∧ oth A' V' nT ch c ∧ pl_lst (A' 3) kept' kl' ∧ kl'.Nodup ∧ (∀ i, i ∈ kl' ↔ (V' i = true ∧ hc (A' 0 i) (A' 1 i) (A' 2 i) = c)) ∧ (∀ i, i ∈ kl' → 0 < A' 4 i) ∧ (∀ i, V' i = true → V i = true) ∧ (∀ f, (f = 0 ∨ f = 1 ∨ f = 2 ∨ f = 5 ∨ f = 7 ∨ f = 8) → A' f = A f) ∧ A' 9 0 = A 9 0 ∧ A' 9 4 = A 9 4 ∧ (∀ i, V' i = true → A 7 (A 0 i) ≤ A 7 (c / 64) → A' 4 i = A 4 i) := by
  intro n
  induction n with
  | zero =>
    intro N A V fl kept node kl rl hm h ho k1 r1 k2 r2 d1 hin hn hk
    have : rl = [] := List.eq_nil_of_length_eq_zero (by omega)
    subst this
    exact ⟨N, A, V, fl, kept, kl, rfl, hm, h, ho, k1, k2, fun i => ⟨fun q => (hin i).mp (Or.inl q), fun q => by
      rcases (hin i).mpr q with z | z
      · exact z
      · cases z⟩, hk, fun _ q => q, fun _ _ => rfl, rfl, rfl, fun _ _ _ => rfl⟩
  | succ n ih =>
    intro N A V fl kept node kl rl hm h ho k1 r1 k2 r2 d1 hin hn hk
    cases rl with
    | nil =>
      have e0 : node = 0 := r1
      subst e0
      exact ⟨N, A, V, fl, kept, kl, by rw [j_neededL, nI_0, if_pos rfl], hm, h, ho, k1, k2, fun i => ⟨fun q => (hin i).mp (Or.inl q), fun q => by
        rcases (hin i).mpr q with z | z
        · exact z
        · cases z⟩, hk, fun _ q => q, fun _ _ => rfl, rfl, rfl, fun _ _ _ => rfl⟩
    | cons y rl =>
      obtain ⟨ey, y0, r1'⟩ := r1
      subst ey
      obtain ⟨vy, cy⟩ := (hin node).mp (Or.inr List.mem_cons_self)
      obtain ⟨-, b1, b2⟩ := tc_lt h (Or.inr vy)
      obtain ⟨h1, h2, ⟨f1, f2, f3⟩, h5, h6, h7, h8, h9, h10⟩ := id h
      have y2 := (h2.1 node vy).1
      have g3 : j_get N (nI node) 3 = nI (A 3 node) := mr_get hm (f := 3) b1 (by omega) (by omega)
      have g4 : j_get N (nI node) 4 = nI (A 4 node) := mr_get hm (f := 4) b1 (by omega) (fun _ => y2)
      have a4 : A 4 node < 2 ^ 31 := by
        have a1 := h8 node vy
        have a2 := oc_le A V node
        have a3 := hx node
        omega
      rw [List.nodup_cons] at r2
      have hstep : j_neededL (n + 1) N (nI kept) (nI node) = if 0 < nI (A 4 node) then j_neededL n (j_set N (nI node) 3 (nI kept)) (nI node) (nI (A 3 node)) else j_neededL n (j_drop N (nI node)) (nI kept) (nI (A 3 node)) := by
        rw [j_neededL, if_neg (nI_ne0 (by omega) (by omega)), g3, g4]
      have hnfl : node ∉ fl := fun q => by
        have := ((f3 node).mp q).2.2
        rw [vy] at this; cases this
      have hnoth : ∀ c', c' < 768 → c' ≠ c → node ∉ ch c' := fun c' q1 q2 q => by
        have := ((ho c' q1 q2).2.2 node).mp q
        exact q2 (this.2.2.symm.trans cy)
      have hnkl : node ∉ kl := fun q => d1 node q List.mem_cons_self
      by_cases cp : 0 < A 4 node
      · have e1 : (0 : Int32) < nI (A 4 node) := nI_lt (a := 0) cp a4
        rw [hstep, if_pos e1]
        have m1 := mr_set hm (i := node) (f := 3) b1 (by omega) kept
        have e3 : am A 3 node kept 3 = fu (A 3) node kept := am_s _ _ _ _
        have en : ∀ f, f ≠ 3 → am A 3 node kept f = A f := fun f q => am_n q
        have oc_e : ∀ i, oc (am A 3 node kept) V i = oc A V i := fun i => by unfold oc; rw [en 1 (by omega), en 2 (by omega)]
        have tc1 : tc_t (am A 3 node kept) V nT 0 dn fl ext := by
          refine ⟨by rw [en 7 (by omega), en 8 (by omega)]; exact h1, by rw [en 7 (by omega), en 0 (by omega), en 1 (by omega), en 2 (by omega)]; exact h2, ⟨by rw [e3, en 9 (by omega)]; exact pl_upd f1 hnfl, f2, by rw [en 9 (by omega)]; exact f3⟩, by rw [en 9 (by omega)]; exact h5, by rw [en 9 (by omega)]; exact h6, by rw [en 9 (by omega)]; exact h7, fun i q => by rw [en 4 (by omega), oc_e]; exact h8 i q, by rw [en 6 (by omega), en 0 (by omega)]; exact h9, h10⟩
        obtain ⟨N', A', V', fl', kept', kl', z1, z2, z3, z4, z5, z6, z7, z8, z9, z10, z11, z12, z13⟩ := ih _ _ V fl node (A 3 node) (node :: kl) rl m1 tc1 (fun c' q1 q2 => by
            obtain ⟨w1, w2, w3⟩ := ho c' q1 q2
            rw [e3, en 5 (by omega), en 0 (by omega), en 1 (by omega), en 2 (by omega)]
            exact ⟨pl_upd w1 (hnoth c' q1 q2), w2, w3⟩)
          (by rw [e3]; exact ⟨rfl, y0, by rw [fu_s]; exact pl_upd k1 hnkl⟩) (by rw [e3]; exact pl_upd r1' r2.1) (List.nodup_cons.mpr ⟨hnkl, k2⟩) r2.2
          (fun i q z => by
            rcases List.mem_cons.mp q with w | w
            · rw [w] at z; exact r2.1 z
            · exact d1 i w (List.mem_cons_of_mem _ z))
          (fun i => by
            rw [en 0 (by omega), en 1 (by omega), en 2 (by omega), ← hin i, List.mem_cons, List.mem_cons]
            constructor
            · rintro ((w | w) | w)
              · exact Or.inr (Or.inl w)
              · exact Or.inl w
              · exact Or.inr (Or.inr w)
            · rintro (w | w | w)
              · exact Or.inl (Or.inr w)
              · exact Or.inl (Or.inl w)
              · exact Or.inr w)
          (by simp at hn; omega)
          (fun i q => by
            rw [en 4 (by omega)]
            rcases List.mem_cons.mp q with w | w
            · rw [w]; exact cp
            · exact hk i w)
        exact ⟨N', A', V', fl', kept', kl', z1, z2, z3, z4, z5, z6, z7, z8, z9, fun f q => by rw [z10 f q, en f (by omega)], by rw [z11, en 9 (by omega)], by rw [z12, en 9 (by omega)], fun i q1 q2 => by
          have := z13 i q1 (by rw [en 7 (by omega), en 0 (by omega)]; exact q2)
          rw [this, en 4 (by omega)]⟩
      · have e1 : ¬ (0 : Int32) < nI (A 4 node) := by
          have : A 4 node = 0 := by omega
          rw [this, nI_0]; decide
        rw [hstep, if_neg e1]
        obtain ⟨A1, m1, tc1, a1, a2, a3, a4', a5⟩ := drop_spec hm h vy rfl (by omega)
        have E0 := a1 0 (by omega)
        have E1 := a1 1 (by omega)
        have E2 := a1 2 (by omega)
        have E5 := a1 5 (by omega)
        have E7 := a1 7 (by omega)
        have hne : ∀ i, (i ∈ kl ∨ i ∈ rl) → i ≠ node := fun i q z => by
          rcases q with q | q
          · rw [z] at q; exact hnkl q
          · rw [z] at q; exact r2.1 q
        obtain ⟨o1, o2⟩ := h2.2.2.2.2.1 node vy rfl
        rw [rk_f rfl] at o1 o2
        have lvn : A 0 node = c / 64 := by rw [← cy, hc_div]
        have kid : ∀ i, A 7 (A 0 i) ≤ A 7 (c / 64) → i ≠ A 1 node ∧ i ≠ A 2 node := fun i q => by
          constructor
          · intro z; rw [z, ← lvn] at q; omega
          · intro z; rw [z, ← lvn] at q; omega
        obtain ⟨N', A', V', fl', kept', kl', z1, z2, z3, z4, z5, z6, z7, z8, z9, z10, z11, z12, z13⟩ := ih _ _ (fu V node false) (node :: fl) kept (A 3 node) kl rl m1 tc1 (fun c' q1 q2 => by
            obtain ⟨w1, w2, w3⟩ := ho c' q1 q2
            rw [a2, E5, E0, E1, E2]
            refine ⟨pl_upd w1 (hnoth c' q1 q2), w2, fun i => ?_⟩
            rw [w3 i]
            by_cases ci : i = node
            · subst ci
              rw [fu_s]
              exact ⟨fun q => absurd (q.2.2.symm.trans cy) q2, fun q => by cases q.1⟩
            · rw [fu_n ci])
          (by rw [a2]; exact pl_upd k1 hnkl) (by rw [a2]; exact pl_upd r1' r2.1) k2 r2.2
          (fun i q z => d1 i q (List.mem_cons_of_mem _ z))
          (fun i => by
            rw [E0, E1, E2]
            constructor
            · intro q
              rw [fu_n (hne i q)]
              exact (hin i).mp (by
                rcases q with q | q
                · exact Or.inl q
                · exact Or.inr (List.mem_cons_of_mem _ q))
            · intro q
              by_cases ci : i = node
              · rw [ci, fu_s] at q; cases q.1
              · rw [fu_n ci] at q
                rcases (hin i).mpr q with z | z
                · exact Or.inl z
                · rcases List.mem_cons.mp z with w | w
                  · exact absurd w ci
                  · exact Or.inr w)
          (by simp at hn; omega)
          (fun i q => by
            obtain ⟨vi, ci⟩ := (hin i).mp (Or.inl q)
            have := kid i (by rw [← ci, hc_div]; exact Nat.le_refl _)
            rw [a3 i vi this.1 this.2]
            exact hk i q)
        have hV : ∀ i, V' i = true → V i = true := fun i q => by
          have := z9 i q
          by_cases ci : i = node
          · rw [ci, fu_s] at this; cases this
          · rw [fu_n ci] at this; exact this
        exact ⟨N', A', V', fl', kept', kl', z1, z2, z3, z4, z5, z6, z7, z8, hV, fun f q => by rw [z10 f q, a1 f q], by rw [z11, a4'], by rw [z12, a5], fun i q1 q2 => by
          have := z13 i q1 (by rw [E7, E0]; exact q2)
          have w := kid i q2
          rw [this, a3 i (hV i q1) w.1 w.2]⟩
def pd (A : Am) (V : Nat → Bool) (k j : Nat) : Prop := ∀ i, V i = true → (A 7 (A 0 i) < k ∨ (A 7 (A 0 i) = k ∧ hs (A 1 i) (A 2 i) < j)) → 0 < A 4 i
theorem collectH_spec (hx : ∀ i, ext i ≤ 100) {k : Nat} (hk : k < 12) : ∀ (n j : Nat) (N : Mm) (A : Am) (V : Nat → Bool) (ch : Nat → List Nat) (fl : List Nat), n + j = 64 → mr N A → tn A V dn ch fl ext → pd A V k j →
    ∃ (A' : Am) (V' : Nat → Bool) (ch' : Nat → List Nat) (fl' : List Nat), mr (j_collectH n N (nI (A 8 k * 64 + j))) A' ∧ tn A' V' dn ch' fl' ext ∧ pd A' V' k 64 ∧ (∀ i, V' i = true → V i = true) ∧ (∀ f, (f = 0 ∨ f = 1 ∨ f = 2 ∨ f = 7 ∨ f = 8) → A' f = A f) ∧ A' 9 0 = A 9 0 ∧ A' 9 4 = A 9 4 := by
  intro n
  induction n with
  | zero =>
    intro j N A V ch fl hj hm h hp
    have : j = 64 := by omega
    subst this
    exact ⟨A, V, ch, fl, hm, h, hp, fun _ q => q, fun _ _ => rfl, rfl, rfl⟩
  | succ n ih =>
    intro j N A V ch fl hj hm h hp
    have hv : A 8 k < 12 := lp_vr h.1 hk
    have hlv : A 7 (A 8 k) = k := (h.1.2.1 k (by omega)).2
    have hc1 : A 8 k * 64 + j < 768 := by omega
    obtain ⟨c1, c2, c3⟩ := h.2.2.1 _ hc1
    have hlen : (ch (A 8 k * 64 + j)).length ≤ 24800 := by
      have := pc_list (P := V) (n := 24800) c2 (fun x q => ⟨tn_lt h (Or.inr ((c3 x).mp q).1), ((c3 x).mp q).1⟩)
      exact Nat.le_trans this (pc_lt V 24800)
    obtain ⟨N1, A1, V1, fl1, kept, kl, z1, z2, z3, z4, z5, z6, z7, z8, z9, z10, z11, z12, z13⟩ := needed_spec (dn := dn) (ext := ext) hx (c := A 8 k * 64 + j) (ch := ch) 24800 N A V fl 0 (A 5 (A 8 k * 64 + j)) [] (ch (A 8 k * 64 + j)) hm (tc_of h) (fun c' q1 q2 => h.2.2.1 c' q1) rfl c1 List.nodup_nil c2 (fun i q => by cases q) (fun i => by
        rw [c3 i]
        exact ⟨fun q => by
          rcases q with q | q
          · cases q
          · exact ⟨q.1, q.2.2⟩, fun q => Or.inr ⟨q.1, rfl, q.2⟩⟩) hlen (fun i q => by cases q)
    have ej : j_needed N (N 2 (A 8 k * 64 + j)) = (N1, nI kept) := by
      rw [hm.2.2.1 _ hc1]; exact z1
    have est : j_collectH (n + 1) N (nI (A 8 k * 64 + j)) = j_collectH n (up N1 2 (A 8 k * 64 + j) (nI kept)) (nI (A 8 k * 64 + (j + 1))) := by
      rw [j_collectH, if_neg (nI_pos (by omega)), if_neg (nI_ge hc1 (by omega)), nI_clamp (by omega), ej, nI_1]
      rfl
    have m1 := mr_head z2 (j := A 8 k * 64 + j) kept
    have en : ∀ f, f ≠ 5 → am A1 5 (A 8 k * 64 + j) kept f = A1 f := fun f q => am_n q
    have ef : ∀ f, (f = 0 ∨ f = 1 ∨ f = 2 ∨ f = 7 ∨ f = 8) → am A1 5 (A 8 k * 64 + j) kept f = A f := fun f q => by rw [en f (by omega), z10 f (by omega)]
    have t1 : tn (am A1 5 (A 8 k * 64 + j) kept) V1 dn (fu ch (A 8 k * 64 + j) kl) fl1 ext := by
      refine ti_of (fun c' q1 => ?_) ?_
      · rw [en 3 (by omega), en 0 (by omega), en 1 (by omega), en 2 (by omega), am_s]
        by_cases cc : c' = A 8 k * 64 + j
        · subst cc
          rw [fu_s, fu_s]
          exact ⟨z5, z6, fun i => by rw [z7 i]; exact ⟨fun q => ⟨q.1, rfl, q.2⟩, fun q => ⟨q.1, q.2.2⟩⟩⟩
        · rw [fu_n cc, fu_n cc]
          exact z4 c' q1 cc
      · obtain ⟨h1, h2, ⟨f1, f2, f3⟩, h5, h6, h7, h8, h9, h10⟩ := z3
        have oc_e : ∀ i, oc (am A1 5 (A 8 k * 64 + j) kept) V1 i = oc A1 V1 i := fun i => by unfold oc; rw [en 1 (by omega), en 2 (by omega)]
        exact ⟨by rw [en 7 (by omega), en 8 (by omega)]; exact h1, by rw [en 7 (by omega), en 0 (by omega), en 1 (by omega), en 2 (by omega)]; exact h2, ⟨by rw [en 3 (by omega), en 9 (by omega)]; exact f1, f2, by rw [en 9 (by omega)]; exact f3⟩, by rw [en 9 (by omega)]; exact h5, by rw [en 9 (by omega)]; exact h6, by rw [en 9 (by omega)]; exact h7, fun i q => by rw [en 4 (by omega), oc_e]; exact h8 i q, by rw [en 6 (by omega), en 0 (by omega)]; exact h9, h10⟩
    have p1 : pd (am A1 5 (A 8 k * 64 + j) kept) V1 k (j + 1) := fun i q1 q2 => by
      rw [ef 7 (by omega), ef 0 (by omega), ef 1 (by omega), ef 2 (by omega)] at q2
      rw [en 4 (by omega)]
      have vi := z9 i q1
      by_cases ch1 : A 7 (A 0 i) < k ∨ (A 7 (A 0 i) = k ∧ hs (A 1 i) (A 2 i) < j)
      · rw [z13 i q1 (by
          rw [show (A 8 k * 64 + j) / 64 = A 8 k by omega, hlv]
          rcases ch1 with w | w
          · omega
          · omega)]
        exact hp i vi ch1
      · have w1 : A 7 (A 0 i) = k ∧ hs (A 1 i) (A 2 i) = j := by
          have n1 := fun z => ch1 (Or.inl z)
          rcases q2 with w | ⟨w, w'⟩
          · exact absurd w n1
          · exact ⟨w, by
              rcases Nat.lt_or_ge (hs (A 1 i) (A 2 i)) j with y | y
              · exact absurd (Or.inr ⟨w, y⟩) ch1
              · omega⟩
        have ev : A 0 i = A 8 k := lp_inj h.1 (by have := (h.2.1.1 i vi).2.1; omega) (by omega) (by rw [w1.1, hlv])
        refine z8 i ((z7 i).mpr ⟨q1, ?_⟩)
        rw [z10 0 (by omega), z10 1 (by omega), z10 2 (by omega)]
        unfold hc
        rw [ev, w1.2]
    rw [est]
    obtain ⟨A', V', ch', fl', y1, y2, y3, y4, y5, y6, y7⟩ := ih (j + 1) _ _ V1 _ fl1 (by omega) m1 t1 p1
    rw [ef 8 (by omega)] at y1
    exact ⟨A', V', ch', fl', y1, y2, y3, fun i q => z9 i (y4 i q), fun f q => by rw [y5 f q, ef f q], by rw [y6, en 9 (by omega), z11], by rw [y7, en 9 (by omega), z12]⟩
theorem collectL_spec (hx : ∀ i, ext i ≤ 100) : ∀ (n k : Nat) (N : Mm) (A : Am) (V : Nat → Bool) (ch : Nat → List Nat) (fl : List Nat), n + k = 12 → mr N A → tn A V dn ch fl ext → pd A V k 0 →
    ∃ (A' : Am) (V' : Nat → Bool) (ch' : Nat → List Nat) (fl' : List Nat), mr (j_collectL n N (nI k)) A' ∧ tn A' V' dn ch' fl' ext ∧ pd A' V' 12 0 ∧ (∀ i, V' i = true → V i = true) ∧ (∀ f, (f = 0 ∨ f = 1 ∨ f = 2 ∨ f = 7 ∨ f = 8) → A' f = A f) ∧ A' 9 0 = A 9 0 ∧ A' 9 4 = A 9 4 := by
  intro n
  induction n with
  | zero =>
    intro k N A V ch fl hk hm h hp
    have : k = 12 := by omega
    subst this
    exact ⟨A, V, ch, fl, hm, h, hp, fun _ q => q, fun _ _ => rfl, rfl, rfl⟩
  | succ n ih =>
    intro k N A V ch fl hk hm h hp
    obtain ⟨A1, V1, ch1, fl1, z1, z2, z3, z4, z5, z6, z7⟩ := collectH_spec (dn := dn) hx (k := k) (by omega) 64 0 N A V ch fl (by omega) hm h hp
    have est : j_collectL (n + 1) N (nI k) = j_collectL n (j_collectH 64 N (nI (A 8 k * 64 + 0))) (nI (k + 1)) := by
      rw [show A 8 k * 64 + 0 = A 8 k * 64 from Nat.add_zero _, j_collectL, mr_var hm (by omega), nI_1, show (64 : Int32) = nI 64 from rfl, pk_mul]
    rw [est]
    obtain ⟨A', V', ch', fl', y1, y2, y3, y4, y5, y6, y7⟩ := ih (k + 1) _ A1 V1 ch1 fl1 (by omega) z1 z2 (fun i q1 q2 => z3 i q1 (by
      have := (hs_e (A1 1 i) (A1 2 i)).1
      omega))
    exact ⟨A', V', ch', fl', y1, y2, y3, fun i q => z4 i (y4 i q), fun f q => by rw [y5 f q, z5 f q], by rw [y6, z6], by rw [y7, z7]⟩
theorem collect_spec {N : Mm} {A : Am} {V : Nat → Bool} {ch : Nat → List Nat} {fl : List Nat} (hx : ∀ i, ext i ≤ 100) (hm : mr N A) (h : tn A V dn ch fl ext) :
    ∃ (A' : Am) (V' : Nat → Bool) (ch' : Nat → List Nat) (fl' : List Nat), mr (j_collect N) A' ∧ tn A' V' dn ch' fl' ext ∧ nd_a A' V' ∧ (∀ i, V' i = true → V i = true) ∧ (∀ f, (f = 0 ∨ f = 1 ∨ f = 2 ∨ f = 7 ∨ f = 8) → A' f = A f) ∧ A' 9 0 = A 9 0 ∧ A' 9 4 = A 9 4 := by
  obtain ⟨A', V', ch', fl', y1, y2, y3, y4⟩ := collectL_spec (dn := dn) hx 12 0 N A V ch fl (by omega) hm h (fun i _ q => by omega)
  exact ⟨A', V', ch', fl', y1, y2, fun i q => y3 i q (Or.inl (lp_lt y2.1 (y2.2.1.1 i q).2.1)), y4⟩
end
