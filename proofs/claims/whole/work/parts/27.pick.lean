/-! pick: the choice of two functions by a third. -/
def j_pickB (f g h : Int32) : Int32 := if f = 1 then g else if g = h then g else if f = 0 then h else f
def j_pick : Nat → Mm → Mm → Int32 → Int32 → Int32 → Mm × Mm × Int32
  | 0, N, E, f, g, h => (N, E, j_pickB f g h)
  | d + 1, N, E, f, g, h =>
    if f = 1 ∨ g = h ∨ f = 0 ∨ (g = 1 ∧ h = 0) then (N, E, j_pickB f g h) else
    if ¬ j_answerFor E f g h = -1 then (N, E, j_answerFor E f g h) else
    match j_pick d N E (j_lowFor N f (j_firstAsked N f g h)) (j_lowFor N g (j_firstAsked N f g h)) (j_lowFor N h (j_firstAsked N f g h)) with
    | (N1, E1, low) =>
      match j_pick d N1 E1 (j_highFor N1 f (j_firstAsked N f g h)) (j_highFor N1 g (j_firstAsked N f g h)) (j_highFor N1 h (j_firstAsked N f g h)) with
      | (N2, E2, high) =>
        match j_make N2 (j_firstAsked N f g h) low high with
        | (N3, r) => (N3, j_keep E2 f g h r, r)
def itf (F G H : Bf) : Bf := fun a => bif F a then G a else H a
def tp (A : Am) (V : Nat → Bool) : Nat := pc_cnt (fun i => V i && decide (A 7 (A 0 i) < 9)) 24800
def nT : Nat → Bool := fun _ => false
/-- what there is between two calls: the table without a swap -/
def tn (A : Am) (V : Nat → Bool) (dn : Nat → Bf) (ch : Nat → List Nat) (fl : List Nat) (ext : Nat → Nat) : Prop := ti A V nT 0 dn ch fl ext
def bud : Nat → Nat
  | 0 => 0
  | d + 1 => if d < 3 then 0 else 2 * bud d + 1
section
variable {N E : Mm} {A : Am} {V : Nat → Bool} {dn : Nat → Bf} {ch : Nat → List Nat} {fl : List Nat} {ext : Nat → Nat}
theorem tn_size (h : tn A V dn ch fl ext) : A 9 3 ≤ tp A V + 254 := by
  obtain ⟨h1, h2, -, -, -, h6, h7, -⟩ := h
  have c1 := pc_split V (fun i => decide (A 7 (A 0 i) < 9)) 24800
  have c2 := gi_bot h2 h1 (n := 24800) (by omega)
  have c3 : pc_cnt (fun i => V i && !decide (A 7 (A 0 i) < 9)) 24800 = pc_cnt (fun i => V i && decide (9 ≤ rk (A 7) (A 0) nT 0 i)) 24800 := pc_congr (fun i _ => by
    rw [rk_f rfl]
    cases V i
    · rfl
    · simp only [Bool.true_and]
      rw [Bool.eq_iff_iff]
      simp)
  rw [c3] at c1
  unfold tp
  omega
/-- make between calls: at most one node more on the first nine levels, if it stands there -/
theorem make_tn (hm : mr N A) (h : tn A V dn ch fl ext) {v low high : Nat} (hv : v < 12) (hl : vl V low) (hh : vl V high) (ll : A 7 v < A 7 (A 0 low)) (lh : A 7 v < A 7 (A 0 high)) (hb : tp A V + (if A 7 v < 9 then 1 else 0) + 256 ≤ A 9 0) :
    ∃ (N' : Mm) (A' : Am) (V' : Nat → Bool) (dn' : Nat → Bf) (ch' : Nat → List Nat) (fl' : List Nat) (r : Nat), j_make N (nI v) (nI low) (nI high) = (N', nI r) ∧ mr N' A' ∧ tn A' V' dn' ch' fl' ext ∧ grow A V dn A' V' dn' ∧ vl V' r ∧ dn' r = mk v (dn low) (dn high) ∧ tp A' V' ≤ tp A V + (if A 7 v < 9 then 1 else 0) := by
  obtain ⟨h1, h2, h3, h4, h5, h6, h7, -⟩ := id h
  have hroom : ∀ k, V k = false → 2 ≤ k → k ≤ 24800 → gi (A 7) (fu V k true) nT 0 (fu (A 0) k v) (fu (A 1) k low) (fu (A 2) k high) (fu dn k (mk v (dn low) (dn high))) → A 9 3 + 2 < A 9 0 := fun k k1 k2 k3 hg => by
    have hsz := tn_size h
    by_cases c : A 7 v < 9
    · rw [if_pos c] at hb; omega
    · rw [if_neg c] at hb
      have b2 := gi_bot hg h1 (n := 24801) (by omega)
      have c0 := pc_up (P := fun i => V i && decide (9 ≤ rk (A 7) (A 0) nT 0 i)) (Q := fun i => fu V k true i && decide (9 ≤ rk (A 7) (fu (A 0) k v) nT 0 i)) (n := 24801) (k := k) (by omega) (fun j hj => by
        show (fu V k true j && decide (9 ≤ rk (A 7) (fu (A 0) k v) nT 0 j)) = (V j && decide (9 ≤ rk (A 7) (A 0) nT 0 j))
        rw [fu_n hj]
        unfold rk
        rw [fu_n hj]) (by simp [k1]) (by
        show (fu V k true k && decide (9 ≤ rk (A 7) (fu (A 0) k v) nT 0 k)) = true
        rw [fu_s, rk_f rfl, fu_s]
        simp
        omega)
      have c2 : pc_cnt (fun i => V i && decide (9 ≤ rk (A 7) (A 0) nT 0 i)) 24801 = pc_cnt (fun i => V i && decide (9 ≤ rk (A 7) (A 0) nT 0 i)) 24800 := by
        show pc_cnt (fun i => V i && decide (9 ≤ rk (A 7) (A 0) nT 0 i)) 24800 + (V 24800 && decide (9 ≤ rk (A 7) (A 0) nT 0 24800)).toNat = _
        have : V 24800 = false := by
          cases q : V 24800
          · rfl
          · have := h5 _ q; omega
        rw [this, Bool.false_and, Bool.toNat_false, Nat.add_zero]
      have c1 := pc_split V (fun i => decide (A 7 (A 0 i) < 9)) 24800
      have c3 : pc_cnt (fun i => V i && !decide (A 7 (A 0 i) < 9)) 24800 = pc_cnt (fun i => V i && decide (9 ≤ rk (A 7) (A 0) nT 0 i)) 24800 := pc_congr (fun i _ => by
        rw [rk_f rfl]
        cases V i
        · rfl
        · simp only [Bool.true_and]
          rw [Bool.eq_iff_iff]
          simp)
      rw [c3] at c1
      unfold tp at hb
      omega
  obtain ⟨N', A', V', dn', ch', fl', r, q1, q2, q3, q4, q5, q6, q7, q8⟩ := make_spec hm h hv (fun _ q => by cases q) hl hh rfl rfl ll lh hroom
  refine ⟨N', A', V', dn', ch', fl', r, q1, q2, q3, q4, q5, q7, ?_⟩
  rcases q8 with ⟨rfl, rfl, -⟩ | ⟨z1, rfl, z2, -, -, -⟩
  · omega
  · unfold tp
    have hr : r < 24800 := by
      have := (ti_lt q3 q5).2
      have h6' := q3.2.2.2.2.2.1
      omega
    have c := pc_one (P := fun i => V i && decide (A 7 (A 0 i) < 9)) (Q := fun i => fu V r true i && decide (A' 7 (A' 0 i) < 9)) hr (fun j hj => by
      show (fu V r true j && decide (A' 7 (A' 0 j) < 9)) = (V j && decide (A 7 (A 0 j) < 9))
      rw [q4.2.1, z2, fu_n hj, fu_n hj])
    simp only [z1, Bool.false_and, Bool.toNat_false, q4.2.1, z2, fu_s, Bool.true_and] at c
    rw [q4.2.1, z2]
    by_cases c9 : A 7 v < 9
    · rw [if_pos c9]; simp [c9] at c; omega
    · rw [if_neg c9]; simp [c9] at c; omega
end
