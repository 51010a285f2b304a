/-! freed: true where f is true for some truths of the variables of a mask. -/
noncomputable def exq (M : Nat → Bool) (F : Bf) : Bf := fun a => @decide (∃ b : Nat → Bool, (∀ u, M u = false → b u = a u) ∧ F b = true) (Classical.propDecidable _)
theorem exq_t {M : Nat → Bool} {F : Bf} {a : Nat → Bool} : exq M F a = true ↔ ∃ b : Nat → Bool, (∀ u, M u = false → b u = a u) ∧ F b = true := by
  unfold exq
  exact @decide_eq_true_iff _ (Classical.propDecidable _)
theorem exq_c (M : Nat → Bool) (c : Bool) : exq M (fun _ => c) = fun _ => c := by
  funext a
  rw [Bool.eq_iff_iff, exq_t]
  exact ⟨fun ⟨_, _, h⟩ => h, fun h => ⟨a, fun _ _ => rfl, h⟩⟩
theorem exq_ind {M : Nat → Bool} {F : Bf} {x : Nat} (h : ind F x) : ind (exq M F) x := fun a c => by
  rw [Bool.eq_iff_iff, exq_t, exq_t]
  constructor
  · rintro ⟨b, h1, h2⟩
    refine ⟨bs b x (a x), fun u hu => ?_, by rw [h]; exact h2⟩
    by_cases e : u = x
    · subst e; rw [bs_s]
    · rw [bs_n e, h1 u hu, bs_n e]
  · rintro ⟨b, h1, h2⟩
    refine ⟨bs b x c, fun u hu => ?_, by rw [h]; exact h2⟩
    by_cases e : u = x
    · subst e; rw [bs_s, bs_s]
    · rw [bs_n e, h1 u hu, bs_n e]
theorem exq_free {M : Nat → Bool} {v : Nat} {F0 F1 : Bf} (hv : M v = true) (h0 : ind F0 v) (h1 : ind F1 v) : exq M (mk v F0 F1) = itf (exq M F0) (fun _ => true) (exq M F1) := by
  funext a
  have e : itf (exq M F0) (fun _ => true) (exq M F1) a = (exq M F0 a || exq M F1 a) := by
    unfold itf
    cases exq M F0 a <;> rfl
  rw [e, Bool.eq_iff_iff, Bool.or_eq_true, exq_t, exq_t, exq_t]
  constructor
  · rintro ⟨b, q1, q2⟩
    cases c : b v
    · rw [mk_f c] at q2; exact Or.inl ⟨b, q1, q2⟩
    · rw [mk_t c] at q2; exact Or.inr ⟨b, q1, q2⟩
  · have ag : ∀ (b : Nat → Bool) (c : Bool), (∀ u, M u = false → b u = a u) → ∀ u, M u = false → bs b v c u = a u := fun b c q u hu => by
      rw [bs_n (fun z => by rw [z, hv] at hu; cases hu)]; exact q u hu
    rintro (⟨b, q1, q2⟩ | ⟨b, q1, q2⟩)
    · exact ⟨bs b v false, ag b false q1, by rw [mk_f (bs_s b v false), h0]; exact q2⟩
    · exact ⟨bs b v true, ag b true q1, by rw [mk_t (bs_s b v true), h1]; exact q2⟩
theorem exq_keep {M : Nat → Bool} {v : Nat} {F0 F1 : Bf} (hv : M v = false) : exq M (mk v F0 F1) = mk v (exq M F0) (exq M F1) := by
  funext a
  cases c : a v
  · rw [mk_f c, Bool.eq_iff_iff, exq_t, exq_t]
    constructor
    · rintro ⟨b, q1, q2⟩
      exact ⟨b, q1, by rw [mk_f (by rw [q1 v hv, c])] at q2; exact q2⟩
    · rintro ⟨b, q1, q2⟩
      exact ⟨b, q1, by rw [mk_f (by rw [q1 v hv, c])]; exact q2⟩
  · rw [mk_t c, Bool.eq_iff_iff, exq_t, exq_t]
    constructor
    · rintro ⟨b, q1, q2⟩
      exact ⟨b, q1, by rw [mk_t (by rw [q1 v hv, c])] at q2; exact q2⟩
    · rintro ⟨b, q1, q2⟩
      exact ⟨b, q1, by rw [mk_t (by rw [q1 v hv, c])]; exact q2⟩
def j_freed (mask : Int32) : Nat → Mm → Mm → Int32 → Mm × Mm × Int32
  | 0, N, E, f => (N, E, f)
  | d + 1, N, E, f =>
    if f ≤ 1 then (N, E, f) else
    if ¬ j_answerFor E f mask (-1) = -1 then (N, E, j_answerFor E f mask (-1)) else
    match j_freed mask d N E (j_lowFor N f (j_get N f 0)) with
    | (N1, E1, low) =>
      match j_freed mask d N1 E1 (j_highFor N1 f (j_get N f 0)) with
      | (N2, E2, high) =>
        if (mask >>> (j_get N f 0 &&& 31)) &&& 1 = 0 then
          match j_make N2 (j_get N f 0) low high with
          | (N3, r) => (N3, j_keep E2 f mask (-1) r, r)
        else
          match j_pick d N2 E2 low 1 high with
          | (N3, E3, r) => (N3, j_keep E3 f mask (-1) r, r)
theorem freed_b {mask : Int32} {d : Nat} {N E : Mm} {f : Int32} (c : f ≤ 1) : j_freed mask (d + 1) N E f = (N, E, f) := by
  rw [j_freed, if_pos c]
theorem freed_m {mask : Int32} {d : Nat} {N E : Mm} {f : Int32} (c : ¬ f ≤ 1) (c2 : ¬ j_answerFor E f mask (-1) = -1) : j_freed mask (d + 1) N E f = (N, E, j_answerFor E f mask (-1)) := by
  rw [j_freed, if_neg c, if_pos c2]
theorem freed_k {mask : Int32} {d : Nat} {N E N1 E1 N2 E2 N3 : Mm} {f low high r : Int32} (c : ¬ f ≤ 1) (c2 : j_answerFor E f mask (-1) = -1) (c3 : (mask >>> (j_get N f 0 &&& 31)) &&& 1 = 0)
    (c4 : j_freed mask d N E (j_lowFor N f (j_get N f 0)) = (N1, E1, low)) (c5 : j_freed mask d N1 E1 (j_highFor N1 f (j_get N f 0)) = (N2, E2, high)) (c6 : j_make N2 (j_get N f 0) low high = (N3, r)) : j_freed mask (d + 1) N E f = (N3, j_keep E2 f mask (-1) r, r) := by
  rw [j_freed, if_neg c, if_neg (fun z => z c2), c4]
  dsimp only
  rw [c5]
  dsimp only
  rw [if_pos c3, c6]
theorem freed_p {mask : Int32} {d : Nat} {N E N1 E1 N2 E2 N3 E3 : Mm} {f low high r : Int32} (c : ¬ f ≤ 1) (c2 : j_answerFor E f mask (-1) = -1) (c3 : ¬ (mask >>> (j_get N f 0 &&& 31)) &&& 1 = 0)
    (c4 : j_freed mask d N E (j_lowFor N f (j_get N f 0)) = (N1, E1, low)) (c5 : j_freed mask d N1 E1 (j_highFor N1 f (j_get N f 0)) = (N2, E2, high)) (c6 : j_pick d N2 E2 low 1 high = (N3, E3, r)) : j_freed mask (d + 1) N E f = (N3, j_keep E3 f mask (-1) r, r) := by
  rw [j_freed, if_neg c, if_neg (fun z => z c2), c4]
  dsimp only
  rw [c5]
  dsimp only
  rw [if_neg c3, c6]
def j_hang : Nat → Mm → Mm → Int32 → Mm × Int32
  | 0, _, E, _ => (E, 0)
  | d + 1, N, E, f =>
    if f ≤ 1 then (E, 0) else
    if ¬ j_answerFor E f 0 (-1) = -1 then (E, j_answerFor E f 0 (-1)) else
    match j_hang d N E (j_lowFor N f (j_get N f 0)) with
    | (E1, m1) =>
      match j_hang d N E1 (j_highFor N f (j_get N f 0)) with
      | (E2, m2) => (j_keep E2 f 0 (-1) (((1 <<< (j_get N f 0 &&& 31)) ||| m1) ||| m2), ((1 <<< (j_get N f 0 &&& 31)) ||| m1) ||| m2)
theorem hang_b {d : Nat} {N E : Mm} {f : Int32} (c : f ≤ 1) : j_hang (d + 1) N E f = (E, 0) := by
  rw [j_hang, if_pos c]
theorem hang_m {d : Nat} {N E : Mm} {f : Int32} (c : ¬ f ≤ 1) (c2 : ¬ j_answerFor E f 0 (-1) = -1) : j_hang (d + 1) N E f = (E, j_answerFor E f 0 (-1)) := by
  rw [j_hang, if_neg c, if_pos c2]
theorem hang_r {d : Nat} {N E E1 E2 : Mm} {f m1 m2 : Int32} (c : ¬ f ≤ 1) (c2 : j_answerFor E f 0 (-1) = -1) (c4 : j_hang d N E (j_lowFor N f (j_get N f 0)) = (E1, m1)) (c5 : j_hang d N E1 (j_highFor N f (j_get N f 0)) = (E2, m2)) :
    j_hang (d + 1) N E f = (j_keep E2 f 0 (-1) (((1 <<< (j_get N f 0 &&& 31)) ||| m1) ||| m2), ((1 <<< (j_get N f 0 &&& 31)) ||| m1) ||| m2) := by
  rw [j_hang, if_neg c, if_neg (fun z => z c2), c4]
  dsimp only
  rw [c5]
def j_turn (mask : Int32) : Nat → Mm → Int32 → Int32 → Int32 → Int32 → Mm × Int32
  | 0, N, f, _, known, way => (N, j_followed N f known way)
  | d + 1, N, f, k, known, way =>
    if j_followed N f known way ≤ 1 then (N, j_followed N f known way) else
    if mask &&& (1 <<< ((j_variableAt N k ^^^ 1) &&& 31)) = 0 then j_turn mask d N (j_followed N f known way) (k + 1) known way else
    match j_turn mask d N (j_followed N f known way) (k + 1) (known ||| (1 <<< ((j_variableAt N k ^^^ 1) &&& 31))) way with
    | (N1, low) =>
      match j_turn mask d N1 (j_followed N f known way) (k + 1) (known ||| (1 <<< ((j_variableAt N k ^^^ 1) &&& 31))) (way ||| (1 <<< ((j_variableAt N k ^^^ 1) &&& 31))) with
      | (N2, high) => j_make N2 (j_variableAt N k) low high
theorem turn_b {mask : Int32} {d : Nat} {N : Mm} {f k known way : Int32} (c : j_followed N f known way ≤ 1) : j_turn mask (d + 1) N f k known way = (N, j_followed N f known way) := by
  rw [j_turn, if_pos c]
theorem turn_s {mask : Int32} {d : Nat} {N N1 : Mm} {f k known way r : Int32} (c : ¬ j_followed N f known way ≤ 1) (c2 : mask &&& (1 <<< ((j_variableAt N k ^^^ 1) &&& 31)) = 0) (c3 : j_turn mask d N (j_followed N f known way) (k + 1) known way = (N1, r)) : j_turn mask (d + 1) N f k known way = (N1, r) := by
  rw [j_turn, if_neg c, if_pos c2, c3]
theorem turn_r {mask : Int32} {d : Nat} {N N1 N2 N3 : Mm} {f k known way low high r : Int32} (c : ¬ j_followed N f known way ≤ 1) (c2 : ¬ mask &&& (1 <<< ((j_variableAt N k ^^^ 1) &&& 31)) = 0)
    (c3 : j_turn mask d N (j_followed N f known way) (k + 1) (known ||| (1 <<< ((j_variableAt N k ^^^ 1) &&& 31))) way = (N1, low)) (c4 : j_turn mask d N1 (j_followed N f known way) (k + 1) (known ||| (1 <<< ((j_variableAt N k ^^^ 1) &&& 31))) (way ||| (1 <<< ((j_variableAt N k ^^^ 1) &&& 31))) = (N2, high)) (c5 : j_make N2 (j_variableAt N k) low high = (N3, r)) :
    j_turn mask (d + 1) N f k known way = (N3, r) := by
  rw [j_turn, if_neg c, if_neg c2, c3]
  dsimp only
  rw [c4]
  exact c5
def cud : Nat → Nat
  | 0 => 0
  | d + 1 => if d < 3 then 0 else 2 * cud d + max 1 (bud d)
/-- a bit of a number -/
theorem bitI {w v : Nat} (hw : w < 2 ^ 31) (hv : v < 32) : (nI w >>> (nI v &&& 31)) &&& 1 = 0 ↔ w.testBit v = false := by
  have hs : ((nI v &&& 31).toBitVec.smod 32).toNat = v := by
    have : ∀ n : Fin 32, ((nI n.val &&& 31).toBitVec.smod 32).toNat = n.val := by decide
    exact this ⟨v, hv⟩
  have hd : w / 2 ^ v < 2 ^ 31 := Nat.lt_of_le_of_lt (Nat.div_le_self _ _) hw
  rw [pk_shrN hw _ v hs, pk_andN (by omega) (m := 1) 1 (by decide), Nat.testBit_eq_decide_div_mod_eq]
  have h2 : w / 2 ^ v % 2 ^ 1 < 2 := Nat.mod_lt _ (by omega)
  rw [show (2 : Nat) ^ 1 = 2 from rfl] at h2 ⊢
  rw [show (0 : Int32) = nI 0 from rfl, nI_eq (by omega) (by omega)]
  simp
