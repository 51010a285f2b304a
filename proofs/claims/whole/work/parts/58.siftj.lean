/-! SIFTING, 2: the search for a better order, as functions -/
def j_fin2 (s0 : Nat) (bear : Int32) (N : Mm) (k bl : Nat) (b : Int32) : Mm := match j_sift2 s0 bear k N bl b with
  | (N2, k2, bl2) => j_sift3 bl2 12 N2 k2
theorem fin2_e {s0 : Nat} {bear : Int32} {N : Mm} {k bl : Nat} {b : Int32} {N2 : Mm} {k2 bl2 : Nat} (e : j_sift2 s0 bear k N bl b = (N2, k2, bl2)) : j_fin2 s0 bear N k bl b = j_sift3 bl2 12 N2 k2 := by
  unfold j_fin2; rw [e]
theorem fin2_sle {s0 : Nat} {bear : Int32} {N : Mm} {k bl : Nat} {b : Int32} (h : sok N) (hk : k < 12) (hb : bl < 12) : sle N (j_fin2 s0 bear N k bl b) := by
  obtain ⟨N2, k2, bl2, e⟩ := ex3 (j_sift2 s0 bear k N bl b)
  obtain ⟨g1, g2, g3⟩ := sift2_sle s0 bear k N bl b h hk hb e
  rw [fin2_e e]
  exact sle_tr g1 (sift3_sle g3 12 N2 k2 g1.1)
theorem ex4 {α β γ δ : Type} (p : α × β × γ × δ) : ∃ (a : α) (b : β) (c : γ) (d : δ), p = (a, b, c, d) := ⟨p.1, p.2.1, p.2.2.1, p.2.2.2, rfl⟩
def j_sift (N : Mm) (v : Nat) : Mm := match j_sift1 (N 0 3 + N 0 3 / 4) 12 N (N 4 v).toNatClampNeg (N 4 v).toNatClampNeg (N 0 3) with
  | (N1, k1, bl1, b1) => j_fin2 (N 4 v).toNatClampNeg (N 0 3 + N 0 3 / 4) N1 k1 bl1 b1
theorem sift_e {N : Mm} {v : Nat} {N1 : Mm} {k1 bl1 : Nat} {b1 : Int32} (e : j_sift1 (N 0 3 + N 0 3 / 4) 12 N (N 4 v).toNatClampNeg (N 4 v).toNatClampNeg (N 0 3) = (N1, k1, bl1, b1)) : j_sift N v = j_fin2 (N 4 v).toNatClampNeg (N 0 3 + N 0 3 / 4) N1 k1 bl1 b1 := by
  unfold j_sift; rw [e]
theorem sift_sle {N : Mm} {v : Nat} (h : sok N) (hv : v < 12) : sle N (j_sift N v) := by
  obtain ⟨s0, h0, e0⟩ := h.2.2 v hv
  have e1 : (N 4 v).toNatClampNeg = s0 := by rw [e0]; exact nI_clamp (by omega)
  obtain ⟨N1, k1, bl1, b1, e⟩ := ex4 (j_sift1 (N 0 3 + N 0 3 / 4) 12 N (N 4 v).toNatClampNeg (N 4 v).toNatClampNeg (N 0 3))
  rw [sift_e e]
  obtain ⟨g1, g2, g3⟩ := sift1_sle _ 12 N _ _ _ h (by omega) (by omega) e
  exact sle_tr g1 (fin2_sle g1.1 g2 g3)
def j_fullL (N : Mm) (done : Int32) : Nat → Nat → Int32 → Int32
  | 0, _, best => best
  | n + 1, v, best => j_fullL N done n (v + 1) (if (done >>> (nI v &&& 31)) &&& 1 = 0 then (if best = 12 then nI v else if j_heldFor N (nI v) ≤ j_heldFor N best then best else nI v) else best)
def j_fullest (N : Mm) (done : Int32) : Int32 := j_fullL N done 12 0 12
theorem fullL_lt (N : Mm) (done : Int32) : ∀ (n v : Nat) (best : Int32), v + n ≤ 12 → (∃ w, w ≤ 12 ∧ best = nI w) → ∃ w, w ≤ 12 ∧ j_fullL N done n v best = nI w
  | 0, _, _, _, h => h
  | n + 1, v, best, hv, h => by
    rw [j_fullL]
    refine fullL_lt N done n (v + 1) _ (by omega) ?_
    by_cases c1 : (done >>> (nI v &&& 31)) &&& 1 = 0
    · rw [if_pos c1]
      by_cases c2 : best = 12
      · rw [if_pos c2]; exact ⟨v, by omega, rfl⟩
      · rw [if_neg c2]
        by_cases c3 : j_heldFor N (nI v) ≤ j_heldFor N best
        · rw [if_pos c3]; exact h
        · rw [if_neg c3]; exact ⟨v, by omega, rfl⟩
    · rw [if_neg c1]; exact h
theorem fullest_lt (N : Mm) (done : Int32) : ∃ w, w ≤ 12 ∧ j_fullest N done = nI w := fullL_lt N done 12 0 12 (by omega) ⟨12, by omega, rfl⟩
theorem held_12 (N : Mm) : j_heldFor N (nI 12) = 0 := by
  unfold j_heldFor
  rw [if_neg (nI_pos (by omega)), if_pos (nI_le (by omega) (by omega))]
/-- one that holds nodes is a variable -/
theorem fullest_v {N : Mm} {done : Int32} (h : ¬ j_heldFor N (j_fullest N done) ≤ 0) : ∃ w, w < 12 ∧ j_fullest N done = nI w := by
  obtain ⟨w, h1, e⟩ := fullest_lt N done
  rcases Nat.lt_or_ge w 12 with q | q
  · exact ⟨w, q, e⟩
  · exfalso
    have q2 : w = 12 := by omega
    rw [e, q2, held_12] at h
    exact h (Int32.le_refl _)
def j_seek (e9 : Int32) : Nat → Mm → Int32 → Mm
  | 0, N, _ => N
  | n + 1, N, done => if 0 ≤ N 0 5 - e9 then N else
    if j_heldFor N (j_fullest N done) ≤ 0 then j_seek e9 n N (done ||| (1 <<< (j_fullest N done &&& 31)))
    else j_seek e9 n (j_sift N (j_fullest N done).toNatClampNeg) (done ||| (1 <<< (j_fullest N done &&& 31)))
theorem seek_sle (e9 : Int32) : ∀ (n : Nat) (N : Mm) (done : Int32), sok N → sle N (j_seek e9 n N done)
  | 0, _, _, h => sle_rf h
  | n + 1, N, done, h => by
    rw [j_seek]
    by_cases c1 : 0 ≤ N 0 5 - e9
    · rw [if_pos c1]; exact sle_rf h
    · rw [if_neg c1]
      by_cases c2 : j_heldFor N (j_fullest N done) ≤ 0
      · rw [if_pos c2]; exact seek_sle e9 n N _ h
      · rw [if_neg c2]
        obtain ⟨w, hw, e⟩ := fullest_v c2
        have h1 := sift_sle h (v := (j_fullest N done).toNatClampNeg) (by rw [e, nI_clamp (by omega)]; exact hw)
        exact sle_tr h1 (seek_sle e9 n _ _ h1.1)
