/-! MEMORY: N holds the numbers A. A 0 .. A 4: what a node asks, low, high, next, references; A 5: heads; A 6: held; A 7: levels; A 8: variables; A 9: room, used, free, size, limit. -/
abbrev Am : Type := Nat → Nat → Nat
def am (A : Am) (k j x : Nat) : Am := fu A k (fu (A k) j x)
theorem am_s (A : Am) (k j x : Nat) : am A k j x k = fu (A k) j x := fu_s _ _ _
theorem am_n {A : Am} {k j x k' : Nat} (h : k' ≠ k) : am A k j x k' = A k' := fu_n h
theorem up_s (N : Mm) (k j : Nat) (x : Int32) : up N k j x k = upd (N k) j x := fu_s _ _ _
theorem up_n {N : Mm} {k j : Nat} {x : Int32} {k' : Nat} (h : k' ≠ k) : up N k j x k' = N k' := fu_n h
theorem upd_s (f : Nat → Int32) (k : Nat) (x : Int32) : upd f k x k = x := if_pos rfl
theorem upd_n {f : Nat → Int32} {k j : Nat} {x : Int32} (h : j ≠ k) : upd f k x j = f j := if_neg h
def mr (N : Mm) (A : Am) : Prop :=
  (∀ j, j < 5 → N 0 j = nI (A 9 j)) ∧
  (∀ f, f < 5 → ∀ i, i < A 9 0 → (f = 4 → 2 ≤ i) → N 1 (5 * i + f) = nI (A f i)) ∧
  (∀ c, c < 768 → N 2 c = nI (A 5 c)) ∧ (∀ v, v < 12 → N 3 v = nI (A 6 v)) ∧ (∀ v, v < 13 → N 4 v = nI (A 7 v)) ∧ (∀ k, k < 13 → N 5 k = nI (A 8 k)) ∧
  1024 ≤ A 9 0 ∧ A 9 0 ≤ 24800
theorem mr_len {N : Mm} {A : Am} (h : mr N A) : jlen N = 5 * A 9 0 := by
  have := h.2.2.2.2.2.2.2
  unfold jlen
  rw [h.1 0 (by omega), nI_clamp (by omega), Nat.min_eq_left this]
theorem mr_at {i f : Nat} : nI i * 5 + nI f = nI (5 * i + f) := by
  rw [show (5 : Int32) = nI 5 from rfl, pk_mul, nI_add, Nat.mul_comm]
theorem mr_get0 {N : Mm} {A : Am} (h : mr N A) {i f : Nat} (hi : i < A 9 0) (hf : f < 5) : j_get N (nI i) (nI f) = N 1 (5 * i + f) := by
  have hR := h.2.2.2.2.2.2.2
  unfold j_get
  rw [mr_at, if_neg (nI_pos (by omega)), mr_len h, if_neg (nI_ge (by omega) (by omega)), nI_clamp (by omega)]
theorem mr_get {N : Mm} {A : Am} (h : mr N A) {i f : Nat} (hi : i < A 9 0) (hf : f < 5) (h2 : f = 4 → 2 ≤ i) : j_get N (nI i) (nI f) = nI (A f i) := by
  rw [mr_get0 h hi hf, h.2.1 f hf i hi h2]
theorem mr_set0 {N : Mm} {A : Am} (h : mr N A) {i f : Nat} (hi : i < A 9 0) (hf : f < 5) (x : Int32) : j_set N (nI i) (nI f) x = up N 1 (5 * i + f) x := by
  have hR := h.2.2.2.2.2.2.2
  unfold j_set
  rw [mr_at, if_neg (nI_pos (by omega)), mr_len h, if_neg (nI_ge (by omega) (by omega)), nI_clamp (by omega)]
theorem mr_set {N : Mm} {A : Am} (h : mr N A) {i f : Nat} (hi : i < A 9 0) (hf : f < 5) (x : Nat) : mr (j_set N (nI i) (nI f) (nI x)) (am A f i x) := by
  rw [mr_set0 h hi hf]
  have e9 : am A f i x 9 = A 9 := am_n (by omega)
  refine ⟨fun j hj => ?_, fun g hg k hk h2 => ?_, fun c hc => ?_, fun v hv => ?_, fun v hv => ?_, fun k hk => ?_, ?_, ?_⟩
  · rw [up_n (by omega), e9]; exact h.1 j hj
  · rw [e9] at hk
    rw [up_s]
    by_cases e : 5 * k + g = 5 * i + f
    · have e1 : k = i := by omega
      have e2 : g = f := by omega
      subst e1; subst e2
      rw [upd_s, am_s, fu_s]
    · rw [upd_n e, h.2.1 g hg k hk h2]
      by_cases e2 : g = f
      · subst e2
        rw [am_s, fu_n (fun q => e (by rw [q]))]
      · rw [am_n e2]
  · rw [up_n (by omega), am_n (by omega)]; exact h.2.2.1 c hc
  · rw [up_n (by omega), am_n (by omega)]; exact h.2.2.2.1 v hv
  · rw [up_n (by omega), am_n (by omega)]; exact h.2.2.2.2.1 v hv
  · rw [up_n (by omega), am_n (by omega)]; exact h.2.2.2.2.2.1 k hk
  · rw [e9]; exact h.2.2.2.2.2.2.1
  · rw [e9]; exact h.2.2.2.2.2.2.2
/-- the references of the ends are not kept -/
theorem mr_setE {N : Mm} {A : Am} (h : mr N A) {i : Nat} (hi : i ≤ 1) (x : Int32) : mr (j_set N (nI i) 4 x) A := by
  have hR := h.2.2.2.2.2.2.1
  rw [show (4 : Int32) = nI 4 from rfl, mr_set0 h (by omega) (by omega)]
  refine ⟨fun j hj => ?_, fun g hg k hk h2 => ?_, fun c hc => ?_, fun v hv => ?_, fun v hv => ?_, fun k hk => ?_, h.2.2.2.2.2.2.1, h.2.2.2.2.2.2.2⟩
  · rw [up_n (by omega)]; exact h.1 j hj
  · rw [up_s, upd_n (by omega)]; exact h.2.1 g hg k hk h2
  · rw [up_n (by omega)]; exact h.2.2.1 c hc
  · rw [up_n (by omega)]; exact h.2.2.2.1 v hv
  · rw [up_n (by omega)]; exact h.2.2.2.2.1 v hv
  · rw [up_n (by omega)]; exact h.2.2.2.2.2.1 k hk
/-- a field of the object, but not its room -/
theorem mr_fld {N : Mm} {A : Am} (h : mr N A) {j : Nat} (hj : j < 5) (h0 : j ≠ 0) (x : Nat) : mr (up N 0 j (nI x)) (am A 9 j x) := by
  have e0 : am A 9 j x 9 0 = A 9 0 := by rw [am_s, fu_n (fun q => h0 q.symm)]
  refine ⟨fun k hk => ?_, fun g hg k hk h2 => ?_, fun c hc => ?_, fun v hv => ?_, fun v hv => ?_, fun k hk => ?_, ?_, ?_⟩
  · rw [up_s, am_s]
    by_cases e : k = j
    · subst e; rw [upd_s, fu_s]
    · rw [upd_n e, fu_n e]; exact h.1 k hk
  · rw [e0] at hk
    rw [up_n (by omega), am_n (by omega)]; exact h.2.1 g hg k hk h2
  · rw [up_n (by omega), am_n (by omega)]; exact h.2.2.1 c hc
  · rw [up_n (by omega), am_n (by omega)]; exact h.2.2.2.1 v hv
  · rw [up_n (by omega), am_n (by omega)]; exact h.2.2.2.2.1 v hv
  · rw [up_n (by omega), am_n (by omega)]; exact h.2.2.2.2.2.1 k hk
  · rw [e0]; exact h.2.2.2.2.2.2.1
  · rw [e0]; exact h.2.2.2.2.2.2.2
/-- the number of nodes written anew is nobody's -/
theorem mr_rew {N : Mm} {A : Am} (h : mr N A) (x : Int32) : mr (up N 0 5 x) A := by
  refine ⟨fun k hk => ?_, fun g hg k hk h2 => ?_, fun c hc => ?_, fun v hv => ?_, fun v hv => ?_, fun k hk => ?_, h.2.2.2.2.2.2.1, h.2.2.2.2.2.2.2⟩
  · rw [up_s, upd_n (by omega)]; exact h.1 k hk
  · rw [up_n (by omega)]; exact h.2.1 g hg k hk h2
  · rw [up_n (by omega)]; exact h.2.2.1 c hc
  · rw [up_n (by omega)]; exact h.2.2.2.1 v hv
  · rw [up_n (by omega)]; exact h.2.2.2.2.1 v hv
  · rw [up_n (by omega)]; exact h.2.2.2.2.2.1 k hk
theorem mr_head {N : Mm} {A : Am} (h : mr N A) {j : Nat} (x : Nat) : mr (up N 2 j (nI x)) (am A 5 j x) := by
  have e9 : am A 5 j x 9 = A 9 := am_n (by omega)
  refine ⟨fun k hk => ?_, fun g hg k hk h2 => ?_, fun c hc => ?_, fun v hv => ?_, fun v hv => ?_, fun k hk => ?_, ?_, ?_⟩
  · rw [up_n (by omega), e9]; exact h.1 k hk
  · rw [e9] at hk
    rw [up_n (by omega), am_n (by omega)]; exact h.2.1 g hg k hk h2
  · rw [up_s, am_s]
    by_cases e : c = j
    · subst e; rw [upd_s, fu_s]
    · rw [upd_n e, fu_n e]; exact h.2.2.1 c hc
  · rw [up_n (by omega), am_n (by omega)]; exact h.2.2.2.1 v hv
  · rw [up_n (by omega), am_n (by omega)]; exact h.2.2.2.2.1 v hv
  · rw [up_n (by omega), am_n (by omega)]; exact h.2.2.2.2.2.1 k hk
  · rw [e9]; exact h.2.2.2.2.2.2.1
  · rw [e9]; exact h.2.2.2.2.2.2.2
theorem mr_held {N : Mm} {A : Am} (h : mr N A) {j : Nat} (x : Nat) : mr (up N 3 j (nI x)) (am A 6 j x) := by
  have e9 : am A 6 j x 9 = A 9 := am_n (by omega)
  refine ⟨fun k hk => ?_, fun g hg k hk h2 => ?_, fun c hc => ?_, fun v hv => ?_, fun v hv => ?_, fun k hk => ?_, ?_, ?_⟩
  · rw [up_n (by omega), e9]; exact h.1 k hk
  · rw [e9] at hk
    rw [up_n (by omega), am_n (by omega)]; exact h.2.1 g hg k hk h2
  · rw [up_n (by omega), am_n (by omega)]; exact h.2.2.1 c hc
  · rw [up_s, am_s]
    by_cases e : v = j
    · subst e; rw [upd_s, fu_s]
    · rw [upd_n e, fu_n e]; exact h.2.2.2.1 v hv
  · rw [up_n (by omega), am_n (by omega)]; exact h.2.2.2.2.1 v hv
  · rw [up_n (by omega), am_n (by omega)]; exact h.2.2.2.2.2.1 k hk
  · rw [e9]; exact h.2.2.2.2.2.2.1
  · rw [e9]; exact h.2.2.2.2.2.2.2
theorem mr_levs {N : Mm} {A : Am} (h : mr N A) {j : Nat} (x : Nat) : mr (up N 4 j (nI x)) (am A 7 j x) := by
  have e9 : am A 7 j x 9 = A 9 := am_n (by omega)
  refine ⟨fun k hk => ?_, fun g hg k hk h2 => ?_, fun c hc => ?_, fun v hv => ?_, fun v hv => ?_, fun k hk => ?_, ?_, ?_⟩
  · rw [up_n (by omega), e9]; exact h.1 k hk
  · rw [e9] at hk
    rw [up_n (by omega), am_n (by omega)]; exact h.2.1 g hg k hk h2
  · rw [up_n (by omega), am_n (by omega)]; exact h.2.2.1 c hc
  · rw [up_n (by omega), am_n (by omega)]; exact h.2.2.2.1 v hv
  · rw [up_s, am_s]
    by_cases e : v = j
    · subst e; rw [upd_s, fu_s]
    · rw [upd_n e, fu_n e]; exact h.2.2.2.2.1 v hv
  · rw [up_n (by omega), am_n (by omega)]; exact h.2.2.2.2.2.1 k hk
  · rw [e9]; exact h.2.2.2.2.2.2.1
  · rw [e9]; exact h.2.2.2.2.2.2.2
theorem mr_vars {N : Mm} {A : Am} (h : mr N A) {j : Nat} (x : Nat) : mr (up N 5 j (nI x)) (am A 8 j x) := by
  have e9 : am A 8 j x 9 = A 9 := am_n (by omega)
  refine ⟨fun k hk => ?_, fun g hg k hk h2 => ?_, fun c hc => ?_, fun v hv => ?_, fun v hv => ?_, fun k hk => ?_, ?_, ?_⟩
  · rw [up_n (by omega), e9]; exact h.1 k hk
  · rw [e9] at hk
    rw [up_n (by omega), am_n (by omega)]; exact h.2.1 g hg k hk h2
  · rw [up_n (by omega), am_n (by omega)]; exact h.2.2.1 c hc
  · rw [up_n (by omega), am_n (by omega)]; exact h.2.2.2.1 v hv
  · rw [up_n (by omega), am_n (by omega)]; exact h.2.2.2.2.1 v hv
  · rw [up_s, am_s]
    by_cases e : k = j
    · subst e; rw [upd_s, fu_s]
    · rw [upd_n e, fu_n e]; exact h.2.2.2.2.2.1 k hk
  · rw [e9]; exact h.2.2.2.2.2.2.1
  · rw [e9]; exact h.2.2.2.2.2.2.2
theorem mr_lev {N : Mm} {A : Am} (h : mr N A) {v : Nat} (hv : v < 13) : j_levelOf N (nI v) = nI (A 7 v) := by
  unfold j_levelOf
  rw [if_neg (nI_pos (by omega)), if_neg (nI_ge (by omega) (by omega)), nI_clamp (by omega)]
  exact h.2.2.2.2.1 v hv
theorem mr_var {N : Mm} {A : Am} (h : mr N A) {v : Nat} (hv : v < 13) : j_variableAt N (nI v) = nI (A 8 v) := by
  unfold j_variableAt
  rw [if_neg (nI_pos (by omega)), if_neg (nI_ge (by omega) (by omega)), nI_clamp (by omega)]
  exact h.2.2.2.2.2.1 v hv
theorem mr_hef {N : Mm} {A : Am} (h : mr N A) {v : Nat} (hv : v < 12) : j_heldFor N (nI v) = nI (A 6 v) := by
  unfold j_heldFor
  rw [if_neg (nI_pos (by omega)), if_neg (nI_ge (by omega) (by omega)), nI_clamp (by omega)]
  exact h.2.2.2.1 v hv
