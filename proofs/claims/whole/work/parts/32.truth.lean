/-! truthFor: what a node gives for a way. -/
theorem nI_l1 {f : Nat} (h : f < 24800) : nI f ≤ 1 ↔ f ≤ 1 := nI_leI (a := f) (b := 1) (by omega) (by omega)
section
variable {N : Mm} {A : Am} {V : Nat → Bool} {dn : Nat → Bf} {ch : Nat → List Nat} {fl : List Nat} {ext : Nat → Nat}
theorem truthL_spec (hm : mr N A) (h : tn A V dn ch fl ext) {w : Nat} (hw : w < 2 ^ 31) : ∀ (n f : Nat), vl V f → 12 ≤ n + A 7 (A 0 f) → j_truthL N (nI w) n (nI f) = nI (dn f (fun v => w.testBit v)).toNat := by
  intro n
  induction n with
  | zero =>
    intro f hf hn
    have hf1 : f ≤ 1 := by
      rcases hf with q | q
      · exact q
      · have := lp_lt h.1 (h.2.1.1 f q).2.1
        omega
    have e : f = 0 ∨ f = 1 := by omega
    rcases e with e | e
    · rw [e, h.2.1.2.1.2.2.1]; rfl
    · rw [e, h.2.1.2.1.2.2.2]; rfl
  | succ n ih =>
    intro f hf hn
    have bf := tn_lt h hf
    show (if nI f ≤ 1 then nI f else j_truthL N (nI w) n (j_get N (nI f) (if (nI w >>> (j_get N (nI f) 0 &&& 31)) &&& 1 = 0 then 1 else 2))) = _
    by_cases c : f ≤ 1
    · rw [if_pos ((nI_l1 bf).mpr c)]
      have e : f = 0 ∨ f = 1 := by omega
      rcases e with e | e
      · rw [e, h.2.1.2.1.2.2.1]; rfl
      · rw [e, h.2.1.2.1.2.2.2]; rfl
    · rw [if_neg (fun q => c ((nI_l1 bf).mp q))]
      have fV : V f = true := by
        rcases hf with q | q
        · omega
        · exact q
      obtain ⟨-, fva, c1, c2⟩ := h.2.1.1 f fV
      obtain ⟨o1, o2⟩ := h.2.1.2.2.2.2.1 f fV rfl
      rw [rk_f rfl] at o1 o2
      rw [asked_spec hm h hf, h.2.1.2.2.1 f fV]
      cases b : w.testBit (A 0 f)
      · rw [if_pos ((bitI hw (by omega)).mpr b), mk_f b, show j_get N (nI f) 1 = nI (A 1 f) from mr_get hm (f := 1) (ti_lt h hf).2 (by omega) (by omega)]
        exact ih _ c1 (by omega)
      · rw [if_neg (fun q => by rw [(bitI hw (by omega)).mp q] at b; cases b), mk_t b, show j_get N (nI f) 2 = nI (A 2 f) from mr_get hm (f := 2) (ti_lt h hf).2 (by omega) (by omega)]
        exact ih _ c2 (by omega)
theorem truth_spec (hm : mr N A) (h : tn A V dn ch fl ext) {w f : Nat} (hw : w < 2 ^ 31) (hf : vl V f) : j_truthFor N (nI f) (nI w) = nI (dn f (fun v => w.testBit v)).toNat := by
  unfold j_truthFor
  rw [truthL_spec hm h hw 12 f hf (by omega)]
  cases dn f (fun v => w.testBit v)
  · rfl
  · rfl
end
