/-! THE MEMO. E 0: its rows (1024 of five numbers), E 1 0: the age. -/
def j_place (a b c : Int32) : Int32 := ((((a * (-1640531535) + b * (-2048144789) + c * (-1028477387)).toUInt32 >>> ((20 : Int32).toUInt32 &&& Int32.toUInt32 31)).toInt32) &&& 1023) * 5
def j_forget (E : Mm) : Mm := up E 1 0 (E 1 0 + 1)
def j_answerFor (E : Mm) (a b c : Int32) : Int32 :=
  if j_place a b c < 0 then -1 else if nI 5120 < j_place a b c + 5 then -1 else if ¬ E 0 (j_place a b c + 3).toNatClampNeg = E 1 0 then -1 else
  if E 0 (j_place a b c).toNatClampNeg = a ∧ E 0 (j_place a b c + 1).toNatClampNeg = b ∧ E 0 (j_place a b c + 2).toNatClampNeg = c then E 0 (j_place a b c + 4).toNatClampNeg else -1
def j_keep (E : Mm) (a b c r : Int32) : Mm :=
  if j_place a b c < 0 then E else if nI 5120 < j_place a b c + 5 then E else
  up (up (up (up (up E 0 (j_place a b c).toNatClampNeg a) 0 (j_place a b c + 1).toNatClampNeg b) 0 (j_place a b c + 2).toNatClampNeg c) 0 (j_place a b c + 3).toNatClampNeg (E 1 0)) 0 (j_place a b c + 4).toNatClampNeg r
theorem place_e (a b c : Int32) : ∃ q : Nat, q < 1024 ∧ j_place a b c = nI (5 * q) := by
  obtain ⟨j, hj, e⟩ := pk_andE ((((a * (-1640531535) + b * (-2048144789) + c * (-1028477387)).toUInt32 >>> ((20 : Int32).toUInt32 &&& Int32.toUInt32 31)).toInt32)) (m := 1023) 10 (by decide)
  refine ⟨j, by omega, ?_⟩
  unfold j_place
  rw [e, show (5 : Int32) = nI 5 from rfl, pk_mul, Nat.mul_comm]
/-- no entry is younger than g, and what is of age g is P -/
def me (E : Mm) (g : Nat) (P : Int32 → Int32 → Int32 → Int32 → Prop) : Prop :=
  E 1 0 = nI g ∧ g < 2 ^ 30 ∧ ∀ q, q < 1024 → (∃ t, t ≤ g ∧ E 0 (5 * q + 3) = nI t) ∧ (E 0 (5 * q + 3) = nI g → P (E 0 (5 * q)) (E 0 (5 * q + 1)) (E 0 (5 * q + 2)) (E 0 (5 * q + 4)))
theorem me_mono {E : Mm} {g : Nat} {P Q : Int32 → Int32 → Int32 → Int32 → Prop} (h : me E g P) (hq : ∀ a b c r, P a b c r → Q a b c r) : me E g Q := ⟨h.1, h.2.1, fun q hq1 => ⟨(h.2.2 q hq1).1, fun e => hq _ _ _ _ ((h.2.2 q hq1).2 e)⟩⟩
theorem me_forget {E : Mm} {g : Nat} {P Q : Int32 → Int32 → Int32 → Int32 → Prop} (h : me E g P) (hg : g + 1 < 2 ^ 30) : me (j_forget E) (g + 1) Q := by
  obtain ⟨h1, h2, h3⟩ := h
  have e0 : j_forget E 0 = E 0 := up_n (by omega)
  refine ⟨?_, hg, fun q hq => ?_⟩
  · unfold j_forget; rw [up_s, upd_s, h1, nI_1]
  · obtain ⟨⟨t, t1, t2⟩, -⟩ := h3 q hq
    rw [e0]
    refine ⟨⟨t, by omega, t2⟩, fun e => ?_⟩
    rw [t2] at e
    have := (nI_eq (by omega) (by omega)).mp e
    omega
theorem me_ask {E : Mm} {g : Nat} {P : Int32 → Int32 → Int32 → Int32 → Prop} (h : me E g P) (a b c : Int32) : j_answerFor E a b c = -1 ∨ P a b c (j_answerFor E a b c) := by
  obtain ⟨q, q1, e⟩ := place_e a b c
  obtain ⟨h1, h2, h3⟩ := h
  obtain ⟨⟨t, t1, t2⟩, hp⟩ := h3 q q1
  unfold j_answerFor
  rw [e, if_neg (nI_pos (by omega)), show nI (5 * q) + 5 = nI (5 * q + 5) from nI_add _ _, if_neg (nI_nlt (by omega) (by omega)), show nI (5 * q) + 3 = nI (5 * q + 3) from nI_add _ _, show nI (5 * q) + 1 = nI (5 * q + 1) from nI_add _ _, show nI (5 * q) + 2 = nI (5 * q + 2) from nI_add _ _, show nI (5 * q) + 4 = nI (5 * q + 4) from nI_add _ _,
    nI_clamp (by omega : 5 * q < 2 ^ 31), nI_clamp (by omega : 5 * q + 1 < 2 ^ 31), nI_clamp (by omega : 5 * q + 2 < 2 ^ 31), nI_clamp (by omega : 5 * q + 3 < 2 ^ 31), nI_clamp (by omega : 5 * q + 4 < 2 ^ 31)]
  by_cases c1 : E 0 (5 * q + 3) = E 1 0
  · rw [if_neg (fun z => z c1)]
    by_cases c2 : E 0 (5 * q) = a ∧ E 0 (5 * q + 1) = b ∧ E 0 (5 * q + 2) = c
    · rw [if_pos c2]
      have := hp (by rw [c1, h1])
      rw [c2.1, c2.2.1, c2.2.2] at this
      exact Or.inr this
    · rw [if_neg c2]; exact Or.inl rfl
  · rw [if_pos c1]; exact Or.inl rfl
theorem me_keep {E : Mm} {g : Nat} {P : Int32 → Int32 → Int32 → Int32 → Prop} (h : me E g P) {a b c r : Int32} (hp : P a b c r) : me (j_keep E a b c r) g P := by
  obtain ⟨q, q1, e⟩ := place_e a b c
  obtain ⟨h1, h2, h3⟩ := h
  have ek : j_keep E a b c r = up (up (up (up (up E 0 (5 * q) a) 0 (5 * q + 1) b) 0 (5 * q + 2) c) 0 (5 * q + 3) (E 1 0)) 0 (5 * q + 4) r := by
    unfold j_keep
    rw [e, if_neg (nI_pos (by omega)), show nI (5 * q) + 5 = nI (5 * q + 5) from nI_add _ _, if_neg (nI_nlt (by omega) (by omega)), show nI (5 * q) + 3 = nI (5 * q + 3) from nI_add _ _, show nI (5 * q) + 1 = nI (5 * q + 1) from nI_add _ _, show nI (5 * q) + 2 = nI (5 * q + 2) from nI_add _ _, show nI (5 * q) + 4 = nI (5 * q + 4) from nI_add _ _,
      nI_clamp (by omega : 5 * q < 2 ^ 31), nI_clamp (by omega : 5 * q + 1 < 2 ^ 31), nI_clamp (by omega : 5 * q + 2 < 2 ^ 31), nI_clamp (by omega : 5 * q + 3 < 2 ^ 31), nI_clamp (by omega : 5 * q + 4 < 2 ^ 31)]
  have e0 : j_keep E a b c r 0 = upd (upd (upd (upd (upd (E 0) (5 * q) a) (5 * q + 1) b) (5 * q + 2) c) (5 * q + 3) (E 1 0)) (5 * q + 4) r := by
    rw [ek, up_s, up_s, up_s, up_s, up_s]
  have e1 : j_keep E a b c r 1 = E 1 := by
    rw [ek, up_n (by omega), up_n (by omega), up_n (by omega), up_n (by omega), up_n (by omega)]
  refine ⟨by rw [e1]; exact h1, h2, fun z hz => ?_⟩
  rw [e0]
  by_cases ez : z = q
  · subst ez
    rw [upd_n (by omega : 5 * z + 3 ≠ 5 * z + 4), upd_s]
    refine ⟨⟨g, Nat.le_refl g, h1⟩, fun _ => ?_⟩
    rw [upd_s, upd_n (by omega : 5 * z + 2 ≠ 5 * z + 4), upd_n (by omega : 5 * z + 2 ≠ 5 * z + 3), upd_s, upd_n (by omega : 5 * z + 1 ≠ 5 * z + 4), upd_n (by omega : 5 * z + 1 ≠ 5 * z + 3), upd_n (by omega : 5 * z + 1 ≠ 5 * z + 2), upd_s,
      upd_n (by omega : 5 * z ≠ 5 * z + 4), upd_n (by omega : 5 * z ≠ 5 * z + 3), upd_n (by omega : 5 * z ≠ 5 * z + 2), upd_n (by omega : 5 * z ≠ 5 * z + 1), upd_s]
    exact hp
  · have k : ∀ d, d < 5 → upd (upd (upd (upd (upd (E 0) (5 * q) a) (5 * q + 1) b) (5 * q + 2) c) (5 * q + 3) (E 1 0)) (5 * q + 4) r (5 * z + d) = E 0 (5 * z + d) := fun d hd => by
      rw [upd_n (by omega), upd_n (by omega), upd_n (by omega), upd_n (by omega), upd_n (by omega)]
    have k0 : upd (upd (upd (upd (upd (E 0) (5 * q) a) (5 * q + 1) b) (5 * q + 2) c) (5 * q + 3) (E 1 0)) (5 * q + 4) r (5 * z) = E 0 (5 * z) := k 0 (by omega)
    rw [k 3 (by omega), k0, k 1 (by omega), k 2 (by omega), k 4 (by omega)]
    exact h3 z hz
