/-! PURE, 1: counting below n, lists through a table of successors, updates. Nothing of the machine. -/
def fu {α : Type} (f : Nat → α) (k : Nat) (v : α) : Nat → α := fun j => if j = k then v else f j
theorem fu_s {α : Type} (f : Nat → α) (k : Nat) (v : α) : fu f k v k = v := if_pos rfl
theorem fu_n {α : Type} {f : Nat → α} {k : Nat} {v : α} {j : Nat} (h : j ≠ k) : fu f k v j = f j := if_neg h
def pc_cnt (P : Nat → Bool) : Nat → Nat
  | 0 => 0
  | n + 1 => pc_cnt P n + (P n).toNat
theorem pc_congr {P Q : Nat → Bool} : ∀ {n : Nat}, (∀ j, j < n → P j = Q j) → pc_cnt P n = pc_cnt Q n
  | 0, _ => rfl
  | n + 1, h => by
    show pc_cnt P n + (P n).toNat = pc_cnt Q n + (Q n).toNat
    rw [pc_congr (fun j hj => h j (by omega)), h n (by omega)]
theorem pc_le {P Q : Nat → Bool} : ∀ {n : Nat}, (∀ j, j < n → P j = true → Q j = true) → pc_cnt P n ≤ pc_cnt Q n
  | 0, _ => Nat.le_refl _
  | n + 1, h => by
    have h1 := pc_le (P := P) (Q := Q) (n := n) (fun j hj => h j (by omega))
    have h2 := h n (by omega)
    show pc_cnt P n + (P n).toNat ≤ pc_cnt Q n + (Q n).toNat
    cases hp : P n
    · simp only [Bool.toNat_false]; omega
    · rw [h2 hp]; simp only [Bool.toNat_true]; omega
/-- one place k changes: the count moves by what stands there -/
theorem pc_one {P Q : Nat → Bool} {k : Nat} : ∀ {n : Nat}, k < n → (∀ j, j ≠ k → Q j = P j) → pc_cnt Q n + (P k).toNat = pc_cnt P n + (Q k).toNat
  | 0, h, _ => by omega
  | n + 1, h, hq => by
    show pc_cnt Q n + (Q n).toNat + (P k).toNat = pc_cnt P n + (P n).toNat + (Q k).toNat
    rcases Nat.lt_or_ge k n with hk | hk
    · have h1 := pc_one (P := P) (Q := Q) (n := n) hk hq
      rw [hq n (by omega)]; omega
    · have e : k = n := by omega
      subst e
      rw [pc_congr (P := Q) (Q := P) (n := k) (fun j hj => hq j (by omega))]
      omega
theorem pc_up {P Q : Nat → Bool} {k n : Nat} (h : k < n) (hq : ∀ j, j ≠ k → Q j = P j) (h0 : P k = false) (h1 : Q k = true) : pc_cnt Q n = pc_cnt P n + 1 := by
  have := pc_one h hq
  rw [h0, h1] at this
  simpa using this
theorem pc_down {P Q : Nat → Bool} {k n : Nat} (h : k < n) (hq : ∀ j, j ≠ k → Q j = P j) (h0 : P k = true) (h1 : Q k = false) : pc_cnt P n = pc_cnt Q n + 1 := by
  have := pc_one h hq
  rw [h0, h1] at this
  simpa using this.symm
theorem pc_split (P Q : Nat → Bool) : ∀ (n : Nat), pc_cnt P n = pc_cnt (fun j => P j && Q j) n + pc_cnt (fun j => P j && !Q j) n
  | 0 => rfl
  | n + 1 => by
    have h := pc_split P Q n
    show pc_cnt P n + (P n).toNat = (pc_cnt (fun j => P j && Q j) n + (P n && Q n).toNat) + (pc_cnt (fun j => P j && !Q j) n + (P n && !Q n).toNat)
    cases hp : P n <;> cases hq : Q n <;> simp <;> omega
theorem pc_or (P Q : Nat → Bool) : ∀ (n : Nat), pc_cnt (fun j => P j || Q j) n ≤ pc_cnt P n + pc_cnt Q n
  | 0 => Nat.le_refl _
  | n + 1 => by
    have h := pc_or P Q n
    show pc_cnt (fun j => P j || Q j) n + (P n || Q n).toNat ≤ (pc_cnt P n + (P n).toNat) + (pc_cnt Q n + (Q n).toNat)
    cases hp : P n <;> cases hq : Q n <;> simp <;> omega
theorem pc_pos {P : Nat → Bool} {k : Nat} : ∀ {n : Nat}, k < n → P k = true → 0 < pc_cnt P n
  | 0, h, _ => by omega
  | n + 1, h, hk => by
    show 0 < pc_cnt P n + (P n).toNat
    rcases Nat.lt_or_ge k n with q | q
    · have := pc_pos (P := P) q hk; omega
    · have e : k = n := by omega
      subst e; rw [hk]; simp
theorem pc_wit {P : Nat → Bool} : ∀ {n : Nat}, 0 < pc_cnt P n → ∃ k, k < n ∧ P k = true
  | 0, h => absurd h (Nat.lt_irrefl 0)
  | n + 1, h => by
    cases hp : P n
    · have h' : 0 < pc_cnt P n := by
        have : 0 < pc_cnt P n + (P n).toNat := h
        rw [hp] at this; simpa using this
      obtain ⟨k, h1, h2⟩ := pc_wit h'
      exact ⟨k, by omega, h2⟩
    · exact ⟨n, by omega, hp⟩
theorem pc_none {P : Nat → Bool} {n : Nat} (h : ∀ j, j < n → P j = false) : pc_cnt P n = 0 := by
  rcases Nat.eq_zero_or_pos (pc_cnt P n) with q | q
  · exact q
  · obtain ⟨k, h1, h2⟩ := pc_wit q
    rw [h k h1] at h2; cases h2
theorem pc_len (P : Nat → Bool) : ∀ (n : Nat), ((List.range n).filter P).length = pc_cnt P n
  | 0 => rfl
  | n + 1 => by
    rw [List.range_succ, List.filter_append, List.length_append, pc_len P n]
    show _ = pc_cnt P n + (P n).toNat
    cases hp : P n <;> simp [hp]
theorem pc_lt (P : Nat → Bool) (n : Nat) : pc_cnt P n ≤ n := by
  rw [← pc_len]
  exact Nat.le_trans (List.length_filter_le _ _) (by simp)
/-- what a list without doubles holds, if all of it is counted -/
theorem pc_list {P : Nat → Bool} {n : Nat} {l : List Nat} (hd : l.Nodup) (h : ∀ x ∈ l, x < n ∧ P x = true) : l.length ≤ pc_cnt P n := by
  rw [← pc_len]
  refine List.Nodup.length_le_of_subset hd (fun x hx => ?_)
  obtain ⟨h1, h2⟩ := h x hx
  exact List.mem_filter.mpr ⟨List.mem_range.mpr h1, h2⟩
/-- pigeons: an injective map of the counted into numbers below m -/
theorem pc_pigeon {P : Nat → Bool} {n m : Nat} (f : Nat → Nat) (hm : ∀ j, j < n → P j = true → f j < m) (hi : ∀ i j, i < n → j < n → P i = true → P j = true → f i = f j → i = j) : pc_cnt P n ≤ m := by
  rw [← pc_len]
  have hnd : (((List.range n).filter P).map f).Nodup := by
    have h0 : ((List.range n).filter P).Nodup := List.Nodup.sublist List.filter_sublist List.nodup_range
    have hin : ∀ x ∈ (List.range n).filter P, x < n ∧ P x = true := fun x hx => ⟨List.mem_range.mp (List.mem_filter.mp hx).1, (List.mem_filter.mp hx).2⟩
    generalize (List.range n).filter P = l at h0 hin
    induction l with
    | nil => simp
    | cons x l ih =>
      rw [List.map_cons, List.nodup_cons]
      rw [List.nodup_cons] at h0
      refine ⟨fun hx => ?_, ih h0.2 (fun y hy => hin y (List.mem_cons_of_mem _ hy))⟩
      obtain ⟨y, hy, e⟩ := List.mem_map.mp hx
      obtain ⟨a1, a2⟩ := hin y (List.mem_cons_of_mem _ hy)
      obtain ⟨b1, b2⟩ := hin x List.mem_cons_self
      have := hi y x a1 b1 a2 b2 e
      rw [this] at hy
      exact h0.1 hy
  have := List.Nodup.length_le_of_subset hnd (l₂ := List.range m) (fun x hx => by
    obtain ⟨y, hy, rfl⟩ := List.mem_map.mp hx
    exact List.mem_range.mpr (hm y (List.mem_range.mp (List.mem_filter.mp hy).1) (List.mem_filter.mp hy).2))
  simpa using this
/-- pigeons, the other way: every counted one is hit by a number below m -/
theorem pc_hit {P : Nat → Bool} {n m : Nat} (g : Nat → Nat) (hg : ∀ j, j < n → P j = true → ∃ k, k < m ∧ g k = j) : pc_cnt P n ≤ m := by
  rw [← pc_len]
  have h0 : ((List.range n).filter P).Nodup := List.Nodup.sublist List.filter_sublist List.nodup_range
  have := List.Nodup.length_le_of_subset h0 (l₂ := (List.range m).map g) (fun x hx => by
    obtain ⟨k, h1, h2⟩ := hg x (List.mem_range.mp (List.mem_filter.mp hx).1) (List.mem_filter.mp hx).2
    exact List.mem_map.mpr ⟨k, List.mem_range.mpr h1, h2⟩)
  simpa using this
/-- levels: if level i holds at most 32 * 2^i, all below level m hold at most 32 * (2^m - 1) -/
theorem pc_levels {P : Nat → Bool} {g : Nat → Nat} {n : Nat} : ∀ {m : Nat}, (∀ i, i < m → pc_cnt (fun j => P j && g j == i) n ≤ 32 * 2 ^ i) → pc_cnt (fun j => P j && decide (g j < m)) n + 32 ≤ 32 * 2 ^ m
  | 0, _ => by
    rw [pc_none (n := n) (fun j _ => by simp)]
    simp
  | m + 1, h => by
    have h1 := pc_levels (P := P) (g := g) (n := n) (m := m) (fun i hi => h i (by omega))
    have h2 := h m (by omega)
    have h3 := pc_split (fun j => P j && decide (g j < m + 1)) (fun j => decide (g j < m)) n
    have h4 : pc_cnt (fun j => (P j && decide (g j < m + 1)) && decide (g j < m)) n = pc_cnt (fun j => P j && decide (g j < m)) n := pc_congr (fun j _ => by
      cases P j
      · simp
      · simp only [Bool.true_and, ← Bool.decide_and]
        exact decide_eq_decide.mpr ⟨fun q => q.2, fun q => ⟨by omega, q⟩⟩)
    have h5 : pc_cnt (fun j => (P j && decide (g j < m + 1)) && !decide (g j < m)) n = pc_cnt (fun j => P j && g j == m) n := pc_congr (fun j _ => by
      cases P j
      · simp
      · rw [Bool.eq_iff_iff]
        simp
        omega)
    rw [h4, h5] at h3
    rw [Nat.pow_succ]
    omega
/-- the list that begins at a and goes on by nx; 0 ends it -/
def pl_lst (nx : Nat → Nat) : Nat → List Nat → Prop
  | a, [] => a = 0
  | a, x :: l => a = x ∧ x ≠ 0 ∧ pl_lst nx (nx x) l
theorem pl_upd {nx : Nat → Nat} {x y : Nat} : ∀ {l : List Nat} {a : Nat}, pl_lst nx a l → x ∉ l → pl_lst (fu nx x y) a l
  | [], _, h, _ => h
  | z :: l, a, h, hx => by
    obtain ⟨h1, h2, h3⟩ := h
    rw [List.mem_cons, not_or] at hx
    exact ⟨h1, h2, by rw [fu_n (fun e => hx.1 e.symm)]; exact pl_upd h3 hx.2⟩
theorem pl_congr {nx ny : Nat → Nat} : ∀ {l : List Nat} {a : Nat}, (∀ x ∈ l, ny x = nx x) → pl_lst nx a l → pl_lst ny a l
  | [], _, _, h => h
  | z :: l, a, hc, h => by
    obtain ⟨h1, h2, h3⟩ := h
    exact ⟨h1, h2, by rw [hc z List.mem_cons_self]; exact pl_congr (fun x hx => hc x (List.mem_cons_of_mem _ hx)) h3⟩
theorem pl_nz {nx : Nat → Nat} : ∀ {l : List Nat} {a : Nat}, pl_lst nx a l → ∀ x ∈ l, x ≠ 0
  | [], _, _, _, hx => absurd hx List.not_mem_nil
  | z :: l, a, h, x, hx => by
    obtain ⟨h1, h2, h3⟩ := h
    rcases List.mem_cons.mp hx with e | e
    · rw [e]; exact h2
    · exact pl_nz h3 x e
theorem pl_0 {nx : Nat → Nat} {l : List Nat} (h : pl_lst nx 0 l) : l = [] := by
  cases l with
  | nil => rfl
  | cons x l => obtain ⟨h1, h2, _⟩ := h; exact absurd h1.symm h2
theorem pl_s {nx : Nat → Nat} {l : List Nat} {a : Nat} (h : pl_lst nx a l) (ha : a ≠ 0) : ∃ l', l = a :: l' ∧ pl_lst nx (nx a) l' := by
  cases l with
  | nil => exact absurd h ha
  | cons x l' => obtain ⟨h1, h2, h3⟩ := h; subst h1; exact ⟨l', rfl, h3⟩
theorem pl_app {nx : Nat → Nat} {b : Nat} {r : List Nat} : ∀ {l : List Nat} {a x : Nat}, pl_lst nx a (l ++ x :: r) → pl_lst nx x (x :: r)
  | [], _, _, h => by obtain ⟨h1, h2, h3⟩ := h; exact ⟨rfl, h2, h3⟩
  | _ :: _, _, _, h => pl_app (b := b) h.2.2
