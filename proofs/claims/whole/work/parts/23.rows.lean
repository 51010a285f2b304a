/-! ROWS: a fresh row, references, a node put into its chain, as they change the numbers A. -/
section
variable {N : Mm} {A : Am} {V T : Nat → Bool} {L : Nat} {dn : Nat → Bf} {ch : Nat → List Nat} {fl : List Nat} {ext : Nat → Nat}
theorem fresh_spec (hm : mr N A) (h : ti A V T L dn ch fl ext) (hr : A 9 3 + 2 < A 9 0) : ∃ (k : Nat) (A1 : Am) (fl1 : List Nat), (j_freshRow N).2 = nI k ∧ mr (j_freshRow N).1 A1 ∧ 2 ≤ k ∧ k < A 9 0 ∧ V k = false ∧ (∀ f, f ≠ 9 → f ≠ 4 → A1 f = A f) ∧ A1 4 = fu (A 4) k 0 ∧ A1 9 0 = A 9 0 ∧ A1 9 4 = A 9 4 ∧ A1 9 3 = A 9 3 + 1 ∧ k < A1 9 1 ∧ A 9 1 ≤ A1 9 1 ∧ A1 9 1 ≤ A 9 0 ∧ pl_lst (A 3) (A1 9 2) fl1 ∧ fl1.Nodup ∧ (∀ i, i ∈ fl1 ↔ (2 ≤ i ∧ i < A1 9 1 ∧ fu V k true i = false)) := by
  have hR := hm.2.2.2.2.2.2.2
  obtain ⟨-, hgi, -, ⟨f1, f2, f3⟩, h5, h6, h7, -⟩ := id h
  have n1 : N 0 1 = nI (A 9 1) := hm.1 1 (by omega)
  have n2 : N 0 2 = nI (A 9 2) := hm.1 2 (by omega)
  have n3 : N 0 3 = nI (A 9 3) := hm.1 3 (by omega)
  have n0 : N 0 0 = nI (A 9 0) := hm.1 0 (by omega)
  cases fl with
  | nil =>
    have ef : A 9 2 = 0 := f1
    have hU := ti_row h hr rfl
    have hVU : V (A 9 1) = false := by
      cases e : V (A 9 1)
      · rfl
      · have := h5 _ e; omega
    have ej : j_freshRow N = (up (j_set (up N 0 1 (nI (A 9 1 + 1))) (nI (A 9 1)) (nI 4) (nI 0)) 0 3 (nI (A 9 3 + 1)), nI (A 9 1)) := by
      unfold j_freshRow
      rw [n2, ef, nI_0, if_pos rfl, n0, n1, if_pos (nI_lt hU (by omega)), n3, nI_1, nI_1]
      rfl
    have m1 := mr_fld hm (j := 1) (by omega) (by omega) (A 9 1 + 1)
    have m2 := mr_set m1 (i := A 9 1) (f := 4) (by rw [am_s, fu_n (by omega)]; exact hU) (by omega) 0
    have m3 := mr_fld m2 (j := 3) (by omega) (by omega) (A 9 3 + 1)
    refine ⟨A 9 1, am (am (am A 9 1 (A 9 1 + 1)) 4 (A 9 1) 0) 9 3 (A 9 3 + 1), [], by rw [ej], by rw [ej]; exact m3, h6.1, hU, hVU, fun f q1 q2 => ?_, ?_, ?_, ?_, ?_, ?_, ?_, ?_, ?_, List.nodup_nil, fun i => ⟨fun q => (by cases q), fun q => ?_⟩⟩
    · rw [am_n q1, am_n q2, am_n q1]
    · rw [am_n (by omega), am_s, am_n (by omega)]
    · rw [am_s, fu_n (by omega), am_n (by omega), am_s, fu_n (by omega)]
    · rw [am_s, fu_n (by omega), am_n (by omega), am_s, fu_n (by omega)]
    · rw [am_s, fu_s]
    · rw [am_s, fu_n (by omega), am_n (by omega), am_s, fu_s]; omega
    · rw [am_s, fu_n (by omega), am_n (by omega), am_s, fu_s]; omega
    · rw [am_s, fu_n (by omega), am_n (by omega), am_s, fu_s]; omega
    · rw [am_s, fu_n (by omega), am_n (by omega), am_s, fu_n (by omega)]; exact ef
    · exfalso
      obtain ⟨q1, q2, q3⟩ := q
      rw [am_s, fu_n (by omega), am_n (by omega), am_s, fu_s] at q2
      by_cases e : i = A 9 1
      · rw [e, fu_s] at q3; cases q3
      · rw [fu_n e] at q3
        have := (f3 i).mpr ⟨q1, by omega, q3⟩
        cases this
  | cons F fl' =>
    obtain ⟨ef, hF0, f1'⟩ := f1
    obtain ⟨hF2, hFU, hVF⟩ := (f3 F).mp List.mem_cons_self
    have g3 : j_get N (nI F) 3 = nI (A 3 F) := mr_get hm (f := 3) (by omega) (by omega) (by omega)
    have ej : j_freshRow N = (up (j_set (up N 0 2 (nI (A 3 F))) (nI F) (nI 4) (nI 0)) 0 3 (nI (A 9 3 + 1)), nI F) := by
      unfold j_freshRow
      rw [n2, ef, if_neg (nI_ne0 (by omega) (by omega)), g3, n3, nI_1]
      rfl
    have m1 := mr_fld hm (j := 2) (by omega) (by omega) (A 3 F)
    have m2 := mr_set m1 (i := F) (f := 4) (by rw [am_s, fu_n (by omega)]; omega) (by omega) 0
    have m3 := mr_fld m2 (j := 3) (by omega) (by omega) (A 9 3 + 1)
    rw [List.nodup_cons] at f2
    refine ⟨F, am (am (am A 9 2 (A 3 F)) 4 F 0) 9 3 (A 9 3 + 1), fl', by rw [ej], by rw [ej]; exact m3, hF2, by omega, hVF, fun f q1 q2 => ?_, ?_, ?_, ?_, ?_, ?_, ?_, ?_, ?_, f2.2, fun i => ⟨fun q => ?_, fun q => ?_⟩⟩
    · rw [am_n q1, am_n q2, am_n q1]
    · rw [am_n (by omega), am_s, am_n (by omega)]
    · rw [am_s, fu_n (by omega), am_n (by omega), am_s, fu_n (by omega)]
    · rw [am_s, fu_n (by omega), am_n (by omega), am_s, fu_n (by omega)]
    · rw [am_s, fu_s]
    · rw [am_s, fu_n (by omega), am_n (by omega), am_s, fu_n (by omega)]; omega
    · rw [am_s, fu_n (by omega), am_n (by omega), am_s, fu_n (by omega)]; omega
    · rw [am_s, fu_n (by omega), am_n (by omega), am_s, fu_n (by omega)]; omega
    · rw [am_s, fu_n (by omega), am_n (by omega), am_s, fu_s]; exact f1'
    · obtain ⟨a1, a2, a3⟩ := (f3 i).mp (List.mem_cons_of_mem _ q)
      refine ⟨a1, ?_, ?_⟩
      · rw [am_s, fu_n (by omega), am_n (by omega), am_s, fu_n (by omega)]; exact a2
      · rw [fu_n (fun e => f2.1 (by rw [← e]; exact q))]; exact a3
    · obtain ⟨q1, q2, q3⟩ := q
      rw [am_s, fu_n (by omega), am_n (by omega), am_s, fu_n (by omega)] at q2
      have e : i ≠ F := fun e => by rw [e, fu_s] at q3; cases q3
      rw [fu_n e] at q3
      rcases List.mem_cons.mp ((f3 i).mpr ⟨q1, q2, q3⟩) with z | z
      · exact absurd z e
      · exact z
theorem refer_up (hm : mr N A) {i : Nat} (hi : i < A 9 0) : ∃ A1 : Am, mr (j_refer N (nI i) 1) A1 ∧ (∀ f, f ≠ 4 → A1 f = A f) ∧ (∀ j, 2 ≤ j → A1 4 j = A 4 j + (if j = i then 1 else 0)) := by
  rcases Nat.lt_or_ge i 2 with q | q
  · refine ⟨A, mr_setE hm (by omega) _, fun _ _ => rfl, fun j hj => by rw [if_neg (by omega)]; rfl⟩
  · have g : j_get N (nI i) 4 = nI (A 4 i) := mr_get hm (f := 4) hi (by omega) (fun _ => q)
    refine ⟨am A 4 i (A 4 i + 1), ?_, fun f hf => am_n hf, fun j _ => ?_⟩
    · unfold j_refer
      rw [g, nI_1]
      exact mr_set hm (f := 4) hi (by omega) _
    · rw [am_s]
      by_cases e : j = i
      · subst e; rw [fu_s, if_pos rfl]
      · rw [fu_n e, if_neg e]; rfl
theorem refer_down (hm : mr N A) {i : Nat} (hi : i < A 9 0) (hp : 2 ≤ i → 1 ≤ A 4 i) : ∃ A1 : Am, mr (j_refer N (nI i) (-1)) A1 ∧ (∀ f, f ≠ 4 → A1 f = A f) ∧ (∀ j, 2 ≤ j → A1 4 j + (if j = i then 1 else 0) = A 4 j) := by
  rcases Nat.lt_or_ge i 2 with q | q
  · refine ⟨A, mr_setE hm (by omega) _, fun _ _ => rfl, fun j hj => by rw [if_neg (by omega)]; rfl⟩
  · have g : j_get N (nI i) 4 = nI (A 4 i) := mr_get hm (f := 4) hi (by omega) (fun _ => q)
    have p1 := hp q
    refine ⟨am A 4 i (A 4 i - 1), ?_, fun f hf => am_n hf, fun j _ => ?_⟩
    · unfold j_refer
      rw [g, sb_m1 (by omega)]
      exact mr_set hm (f := 4) hi (by omega) _
    · rw [am_s]
      by_cases e : j = i
      · subst e; rw [fu_s, if_pos rfl]; omega
      · rw [fu_n e, if_neg e]; rfl
theorem link_spec (hm : mr N A) {k v low high : Nat} (hk : k < A 9 0) (hv : v < 12) : ∃ A1 : Am, mr (j_link N (nI k) (nI v) (nI low) (nI high)) A1 ∧ A1 0 = fu (A 0) k v ∧ A1 1 = fu (A 1) k low ∧ A1 2 = fu (A 2) k high ∧ A1 3 = fu (A 3) k (A 5 (hc v low high)) ∧ A1 4 = A 4 ∧ A1 5 = fu (A 5) (hc v low high) k ∧ A1 6 = fu (A 6) v (A 6 v + 1) ∧ A1 7 = A 7 ∧ A1 8 = A 8 ∧ A1 9 = A 9 := by
  have hc1 : hc v low high < 768 := hc_lt hv
  have e1 : N 2 (hc v low high) = nI (A 5 (hc v low high)) := hm.2.2.1 _ hc1
  have e2 : N 3 v = nI (A 6 v) := hm.2.2.2.1 v hv
  have m1 := mr_set hm (i := k) (f := 0) hk (by omega) v
  have m2 := mr_set m1 (i := k) (f := 1) (by rw [am_n (by omega)]; exact hk) (by omega) low
  have m3 := mr_set m2 (i := k) (f := 2) (by rw [am_n (by omega), am_n (by omega)]; exact hk) (by omega) high
  have m4 := mr_set m3 (i := k) (f := 3) (by rw [am_n (by omega), am_n (by omega), am_n (by omega)]; exact hk) (by omega) (A 5 (hc v low high))
  have m5 := mr_head m4 (j := hc v low high) k
  have m6 := mr_held m5 (j := v) (A 6 v + 1)
  refine ⟨am (am (am (am (am (am A 0 k v) 1 k low) 2 k high) 3 k (A 5 (hc v low high))) 5 (hc v low high) k) 6 v (A 6 v + 1), ?_, rfl, rfl, rfl, rfl, rfl, rfl, rfl, rfl, rfl, rfl⟩
  unfold j_link
  rw [if_neg (nI_pos (by omega)), if_neg (nI_ge hv (by omega)), j_chain, if_neg (nI_pos (by omega)), if_neg (nI_ge hc1 (by omega)), nI_clamp (by omega : hc v low high < 2 ^ 31), nI_clamp (by omega : v < 2 ^ 31), e1, e2, nI_1]
  exact m6
end
