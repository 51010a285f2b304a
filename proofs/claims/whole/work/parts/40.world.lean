/-! THE WORLD of the class's cells, and what a contract of Nodes begins with. -/
abbrev cls0 : List vw_C := [(R_S, T_S, 4), (R_N, T_N, 11), (R_A, T_A, 2), (R_M, T_M, 2), (R_F, T_F, 1), (R_R, T_R, 4)]
/-- the six cells of a Nodes: the object at a 0, rows at a 1, heads a 2, held a 3, levels a 4, variables a 5 -/
abbrev nW (cI : ClassId) (a : Nat → Nat) (N : Mm) : va_W := [(a 0, .inr (1, [.ref (a 1), .ref (a 2), .ref (a 3), .ref (a 4), .ref (a 5), .int (N 0 0), .int (N 0 1), .int (N 0 2), .int (N 0 3), .int (N 0 4), .int (N 0 5)])), (a 1, .inl (cI, jlen N, .inl (N 1))), (a 2, .inl (cI, 768, .inl (N 2))), (a 3, .inl (cI, 12, .inl (N 3))), (a 4, .inl (cI, 13, .inl (N 4))), (a 5, .inl (cI, 13, .inl (N 5)))]
def r00 : Room := { frames := 0, cells := 0, slots := 0, locals := 0 }
def nR (dC : Nat → ClassId) (dI : Nat → Nat → Nat) (cI : ClassId) (a : Nat → Nat) (N : Mm) (U : State) : Prop := va_P (dC, dI) cls0 (nW cI a N) U.heap ∧ va_K (dC, dI) cls0 [(cI, .int)] U
theorem nR_call {dC : Nat → ClassId} {dI : Nat → Nat → Nat} {cI : ClassId} {a : Nat → Nat} {N : Mm} (av : List Value) : FrameBlind (va_Pc av (nR dC dI cI a N)) := fun a U g mk q => by
  obtain ⟨q0, qP, qK⟩ := q
  exact ⟨q0, qP, va_K.moved (u := U) (U := U.calling g mk a) (Vm.Alike.refl U.vm) qK⟩
theorem lt_of_in {x : Int32} {n : Nat} (h0 : ¬ x < 0) (h1 : ¬ nI n ≤ x) (hn : n < 2 ^ 31) : vp_in x n := by
  rcases pk_ix x hn with q | q | ⟨j, h, rfl⟩
  · exact absurd q h0
  · exact absurd q h1
  · exact vp_in_nI h hn
