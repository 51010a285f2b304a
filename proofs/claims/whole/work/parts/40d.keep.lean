/-! what the writing methods leave as it is: the order of the variables -/
theorem refer_5 (N : Mm) (a b : Int32) : j_refer N a b 5 = N 5 := js_5 _ _ _ _
theorem giveBack_5 (N : Mm) (a : Int32) : j_giveBack N a 5 = N 5 := by unfold j_giveBack; rw [uq_0_5, uq_0_5, js_5]
theorem dropHeld_5 (N : Mm) (v : Int32) : j_dropHeld N v 5 = N 5 := by
  unfold j_dropHeld
  by_cases c1 : v < 0
  · rw [if_pos c1]
  · rw [if_neg c1]
    by_cases c2 : nI 12 ≤ v
    · rw [if_pos c2]
    · rw [if_neg c2, uq_3_5]
theorem drop_5 (N : Mm) (a : Int32) : j_drop N a 5 = N 5 := by
  unfold j_drop j_dropKids
  rw [giveBack_5, refer_5, refer_5, dropHeld_5]
theorem neededL_5 : ∀ (n : Nat) (N : Mm) (a b : Int32), (j_neededL n N a b).1 5 = N 5
  | 0, _, _, _ => rfl
  | n + 1, N, a, b => by
    rw [j_neededL]
    by_cases c1 : b = 0
    · rw [if_pos c1]
    · rw [if_neg c1]
      by_cases c2 : 0 < j_get N b 4
      · rw [if_pos c2, neededL_5 n, js_5]
      · rw [if_neg c2, neededL_5 n, drop_5]
theorem needed_5 (N : Mm) (a : Int32) : (j_needed N a).1 5 = N 5 := neededL_5 _ _ _ _
theorem varAt_n {N : Mm} {k w : Nat} (hk : k < 13) (e : N 5 k = nI w) : j_variableAt N (nI k) * 64 = nI (w * 64) := by
  unfold j_variableAt
  rw [if_neg (nI_pos (by omega)), if_neg (nI_ge (by omega) (by omega)), nI_clamp (by omega), e, show (64 : Int32) = nI 64 from rfl, pk_mul]
theorem nI_64 (k : Nat) : nI k + 64 = nI (k + 64) := nI_add k 64
