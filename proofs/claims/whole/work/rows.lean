section
/-! PURE, 1: counting below n, lists through a table of successors, updates. Nothing of the machine. -/
def fu {α : Type} (f : Nat → α) (k : Nat) (v : α) : Nat → α := fun j => if j = k then v else f j
theorem fu_s {α : Type} (f : Nat → α) (k : Nat) (v : α) : fu f k v k = v := if_pos rfl
theorem fu_n {α : Type} {f : Nat → α} {k : Nat} {v : α} {j : Nat} (h : j ≠ k) : fu f k v j = f j := if_neg h
def pc_cnt (P : Nat → Bool) : Nat → Nat
  | 0 => 0
  | n + 1 => pc_cnt P n + (P n).toNat
theorem pc_congr {P Q : Nat → Bool} : ∀ {n : Nat}, (∀ j, j < n → P j = Q j) → pc_cnt P n = pc_cnt Q n
  | 0, _ => rfl
  | n + 1, h => by
    show pc_cnt P n + (P n).toNat = pc_cnt Q n + (Q n).toNat
    rw [pc_congr (fun j hj => h j (by omega)), h n (by omega)]
theorem pc_le {P Q : Nat → Bool} : ∀ {n : Nat}, (∀ j, j < n → P j = true → Q j = true) → pc_cnt P n ≤ pc_cnt Q n
  | 0, _ => Nat.le_refl _
  | n + 1, h => by
    have h1 := pc_le (P := P) (Q := Q) (n := n) (fun j hj => h j (by omega))
    have h2 := h n (by omega)
    show pc_cnt P n + (P n).toNat ≤ pc_cnt Q n + (Q n).toNat
    cases hp : P n
    · simp only [Bool.toNat_false]; omega
    · rw [h2 hp]; simp only [Bool.toNat_true]; omega
/-- one place k changes: the count moves by what stands there -/
theorem pc_one {P Q : Nat → Bool} {k : Nat} : ∀ {n : Nat}, k < n → (∀ j, j ≠ k → Q j = P j) → pc_cnt Q n + (P k).toNat = pc_cnt P n + (Q k).toNat
  | 0, h, _ => by omega
  | n + 1, h, hq => by
    show pc_cnt Q n + (Q n).toNat + (P k).toNat = pc_cnt P n + (P n).toNat + (Q k).toNat
    rcases Nat.lt_or_ge k n with hk | hk
    · have h1 := pc_one (P := P) (Q := Q) (n := n) hk hq
      rw [hq n (by omega)]; omega
    · have e : k = n := by omega
      subst e
      rw [pc_congr (P := Q) (Q := P) (n := k) (fun j hj => hq j (by omega))]
      omega
theorem pc_up {P Q : Nat → Bool} {k n : Nat} (h : k < n) (hq : ∀ j, j ≠ k → Q j = P j) (h0 : P k = false) (h1 : Q k = true) : pc_cnt Q n = pc_cnt P n + 1 := by
  have := pc_one h hq
  rw [h0, h1] at this
  simpa using this
theorem pc_down {P Q : Nat → Bool} {k n : Nat} (h : k < n) (hq : ∀ j, j ≠ k → Q j = P j) (h0 : P k = true) (h1 : Q k = false) : pc_cnt P n = pc_cnt Q n + 1 := by
  have := pc_one h hq
  rw [h0, h1] at this
  simpa using this.symm
theorem pc_split (P Q : Nat → Bool) : ∀ (n : Nat), pc_cnt P n = pc_cnt (fun j => P j && Q j) n + pc_cnt (fun j => P j && !Q j) n
  | 0 => rfl
  | n + 1 => by
    have h := pc_split P Q n
    show pc_cnt P n + (P n).toNat = (pc_cnt (fun j => P j && Q j) n + (P n && Q n).toNat) + (pc_cnt (fun j => P j && !Q j) n + (P n && !Q n).toNat)
    cases hp : P n <;> cases hq : Q n <;> simp <;> omega
theorem pc_or (P Q : Nat → Bool) : ∀ (n : Nat), pc_cnt (fun j => P j || Q j) n ≤ pc_cnt P n + pc_cnt Q n
  | 0 => Nat.le_refl _
  | n + 1 => by
    have h := pc_or P Q n
    show pc_cnt (fun j => P j || Q j) n + (P n || Q n).toNat ≤ (pc_cnt P n + (P n).toNat) + (pc_cnt Q n + (Q n).toNat)
    cases hp : P n <;> cases hq : Q n <;> simp <;> omega
theorem pc_pos {P : Nat → Bool} {k : Nat} : ∀ {n : Nat}, k < n → P k = true → 0 < pc_cnt P n
  | 0, h, _ => by omega
  | n + 1, h, hk => by
    show 0 < pc_cnt P n + (P n).toNat
    rcases Nat.lt_or_ge k n with q | q
    · have := pc_pos (P := P) q hk; omega
    · have e : k = n := by omega
      subst e; rw [hk]; simp
theorem pc_wit {P : Nat → Bool} : ∀ {n : Nat}, 0 < pc_cnt P n → ∃ k, k < n ∧ P k = true
  | 0, h => absurd h (Nat.lt_irrefl 0)
  | n + 1, h => by
    cases hp : P n
    · have h' : 0 < pc_cnt P n := by
        have : 0 < pc_cnt P n + (P n).toNat := h
        rw [hp] at this; simpa using this
      obtain ⟨k, h1, h2⟩ := pc_wit h'
      exact ⟨k, by omega, h2⟩
    · exact ⟨n, by omega, hp⟩
theorem pc_none {P : Nat → Bool} {n : Nat} (h : ∀ j, j < n → P j = false) : pc_cnt P n = 0 := by
  rcases Nat.eq_zero_or_pos (pc_cnt P n) with q | q
  · exact q
  · obtain ⟨k, h1, h2⟩ := pc_wit q
    rw [h k h1] at h2; cases h2
theorem pc_len (P : Nat → Bool) : ∀ (n : Nat), ((List.range n).filter P).length = pc_cnt P n
  | 0 => rfl
  | n + 1 => by
    rw [List.range_succ, List.filter_append, List.length_append, pc_len P n]
    show _ = pc_cnt P n + (P n).toNat
    cases hp : P n <;> simp [hp]
theorem pc_lt (P : Nat → Bool) (n : Nat) : pc_cnt P n ≤ n := by
  rw [← pc_len]
  exact Nat.le_trans (List.length_filter_le _ _) (by simp)
/-- what a list without doubles holds, if all of it is counted -/
theorem pc_list {P : Nat → Bool} {n : Nat} {l : List Nat} (hd : l.Nodup) (h : ∀ x ∈ l, x < n ∧ P x = true) : l.length ≤ pc_cnt P n := by
  rw [← pc_len]
  refine List.Nodup.length_le_of_subset hd (fun x hx => ?_)
  obtain ⟨h1, h2⟩ := h x hx
  exact List.mem_filter.mpr ⟨List.mem_range.mpr h1, h2⟩
/-- pigeons: an injective map of the counted into numbers below m -/
theorem pc_pigeon {P : Nat → Bool} {n m : Nat} (f : Nat → Nat) (hm : ∀ j, j < n → P j = true → f j < m) (hi : ∀ i j, i < n → j < n → P i = true → P j = true → f i = f j → i = j) : pc_cnt P n ≤ m := by
  rw [← pc_len]
  have hnd : (((List.range n).filter P).map f).Nodup := by
    have h0 : ((List.range n).filter P).Nodup := List.Nodup.sublist List.filter_sublist List.nodup_range
    have hin : ∀ x ∈ (List.range n).filter P, x < n ∧ P x = true := fun x hx => ⟨List.mem_range.mp (List.mem_filter.mp hx).1, (List.mem_filter.mp hx).2⟩
    generalize (List.range n).filter P = l at h0 hin
    induction l with
    | nil => simp
    | cons x l ih =>
      rw [List.map_cons, List.nodup_cons]
      rw [List.nodup_cons] at h0
      refine ⟨fun hx => ?_, ih h0.2 (fun y hy => hin y (List.mem_cons_of_mem _ hy))⟩
      obtain ⟨y, hy, e⟩ := List.mem_map.mp hx
      obtain ⟨a1, a2⟩ := hin y (List.mem_cons_of_mem _ hy)
      obtain ⟨b1, b2⟩ := hin x List.mem_cons_self
      have := hi y x a1 b1 a2 b2 e
      rw [this] at hy
      exact h0.1 hy
  have := List.Nodup.length_le_of_subset hnd (l₂ := List.range m) (fun x hx => by
    obtain ⟨y, hy, rfl⟩ := List.mem_map.mp hx
    exact List.mem_range.mpr (hm y (List.mem_range.mp (List.mem_filter.mp hy).1) (List.mem_filter.mp hy).2))
  simpa using this
/-- pigeons, the other way: every counted one is hit by a number below m -/
theorem pc_hit {P : Nat → Bool} {n m : Nat} (g : Nat → Nat) (hg : ∀ j, j < n → P j = true → ∃ k, k < m ∧ g k = j) : pc_cnt P n ≤ m := by
  rw [← pc_len]
  have h0 : ((List.range n).filter P).Nodup := List.Nodup.sublist List.filter_sublist List.nodup_range
  have := List.Nodup.length_le_of_subset h0 (l₂ := (List.range m).map g) (fun x hx => by
    obtain ⟨k, h1, h2⟩ := hg x (List.mem_range.mp (List.mem_filter.mp hx).1) (List.mem_filter.mp hx).2
    exact List.mem_map.mpr ⟨k, List.mem_range.mpr h1, h2⟩)
  simpa using this
/-- levels: if level i holds at most 32 * 2^i, all below level m hold at most 32 * (2^m - 1) -/
theorem pc_levels {P : Nat → Bool} {g : Nat → Nat} {n : Nat} : ∀ {m : Nat}, (∀ i, i < m → pc_cnt (fun j => P j && g j == i) n ≤ 32 * 2 ^ i) → pc_cnt (fun j => P j && decide (g j < m)) n + 32 ≤ 32 * 2 ^ m
  | 0, _ => by
    rw [pc_none (n := n) (fun j _ => by simp)]
    simp
  | m + 1, h => by
    have h1 := pc_levels (P := P) (g := g) (n := n) (m := m) (fun i hi => h i (by omega))
    have h2 := h m (by omega)
    have h3 := pc_split (fun j => P j && decide (g j < m + 1)) (fun j => decide (g j < m)) n
    have h4 : pc_cnt (fun j => (P j && decide (g j < m + 1)) && decide (g j < m)) n = pc_cnt (fun j => P j && decide (g j < m)) n := pc_congr (fun j _ => by
      cases P j
      · simp
      · simp only [Bool.true_and, ← Bool.decide_and]
        exact decide_eq_decide.mpr ⟨fun q => q.2, fun q => ⟨by omega, q⟩⟩)
    have h5 : pc_cnt (fun j => (P j && decide (g j < m + 1)) && !decide (g j < m)) n = pc_cnt (fun j => P j && g j == m) n := pc_congr (fun j _ => by
      cases P j
      · simp
      · rw [Bool.eq_iff_iff]
        simp
        omega)
    rw [h4, h5] at h3
    rw [Nat.pow_succ]
    omega
/-- the list that begins at a and goes on by nx; 0 ends it -/
def pl_lst (nx : Nat → Nat) : Nat → List Nat → Prop
  | a, [] => a = 0
  | a, x :: l => a = x ∧ x ≠ 0 ∧ pl_lst nx (nx x) l
theorem pl_upd {nx : Nat → Nat} {x y : Nat} : ∀ {l : List Nat} {a : Nat}, pl_lst nx a l → x ∉ l → pl_lst (fu nx x y) a l
  | [], _, h, _ => h
  | z :: l, a, h, hx => by
    obtain ⟨h1, h2, h3⟩ := h
    rw [List.mem_cons, not_or] at hx
    exact ⟨h1, h2, by rw [fu_n (fun e => hx.1 e.symm)]; exact pl_upd h3 hx.2⟩
theorem pl_congr {nx ny : Nat → Nat} : ∀ {l : List Nat} {a : Nat}, (∀ x ∈ l, ny x = nx x) → pl_lst nx a l → pl_lst ny a l
  | [], _, _, h => h
  | z :: l, a, hc, h => by
    obtain ⟨h1, h2, h3⟩ := h
    exact ⟨h1, h2, by rw [hc z List.mem_cons_self]; exact pl_congr (fun x hx => hc x (List.mem_cons_of_mem _ hx)) h3⟩
theorem pl_nz {nx : Nat → Nat} : ∀ {l : List Nat} {a : Nat}, pl_lst nx a l → ∀ x ∈ l, x ≠ 0
  | [], _, _, _, hx => absurd hx List.not_mem_nil
  | z :: l, a, h, x, hx => by
    obtain ⟨h1, h2, h3⟩ := h
    rcases List.mem_cons.mp hx with e | e
    · rw [e]; exact h2
    · exact pl_nz h3 x e
theorem pl_0 {nx : Nat → Nat} {l : List Nat} (h : pl_lst nx 0 l) : l = [] := by
  cases l with
  | nil => rfl
  | cons x l => obtain ⟨h1, h2, _⟩ := h; exact absurd h1.symm h2
theorem pl_s {nx : Nat → Nat} {l : List Nat} {a : Nat} (h : pl_lst nx a l) (ha : a ≠ 0) : ∃ l', l = a :: l' ∧ pl_lst nx (nx a) l' := by
  cases l with
  | nil => exact absurd h ha
  | cons x l' => obtain ⟨h1, h2, h3⟩ := h; subst h1; exact ⟨l', rfl, h3⟩
theorem pl_app {nx : Nat → Nat} {b : Nat} {r : List Nat} : ∀ {l : List Nat} {a x : Nat}, pl_lst nx a (l ++ x :: r) → pl_lst nx x (x :: r)
  | [], _, _, h => by obtain ⟨h1, h2, h3⟩ := h; exact ⟨rfl, h2, h3⟩
  | _ :: _, _, _, h => pl_app (b := b) h.2.2
end
section
/-! PURE, 2: the graph of nodes. lv: the level of a variable; V: the nodes that are there; T: those that wait to be written anew while the levels L and L + 1 change places; va, lo, hi: what a node asks, and its children; dn: what function a node stands for. -/
abbrev Bf : Type := (Nat → Bool) → Bool
def bs (a : Nat → Bool) (v : Nat) (b : Bool) : Nat → Bool := fun u => if u = v then b else a u
theorem bs_s (a : Nat → Bool) (v : Nat) (b : Bool) : bs a v b v = b := if_pos rfl
theorem bs_n {a : Nat → Bool} {v : Nat} {b : Bool} {u : Nat} (h : u ≠ v) : bs a v b u = a u := if_neg h
def ind (f : Bf) (x : Nat) : Prop := ∀ (a : Nat → Bool) (b : Bool), f (bs a x b) = f a
def mk (v : Nat) (fl fh : Bf) : Bf := fun a => bif a v then fh a else fl a
theorem mk_t {v : Nat} {fl fh : Bf} {a : Nat → Bool} (h : a v = true) : mk v fl fh a = fh a := by simp [mk, h]
theorem mk_f {v : Nat} {fl fh : Bf} {a : Nat → Bool} (h : a v = false) : mk v fl fh a = fl a := by simp [mk, h]
theorem ind_mk {v x : Nat} {fl fh : Bf} (hx : v ≠ x) (h1 : ind fl x) (h2 : ind fh x) : ind (mk v fl fh) x := fun a b => by
  show (bif bs a x b v then fh (bs a x b) else fl (bs a x b)) = (bif a v then fh a else fl a)
  rw [bs_n hx, h1, h2]
theorem mk_dep {v : Nat} {fl fh : Bf} (h1 : ind fl v) (h2 : ind fh v) (hne : fl ≠ fh) : ¬ ind (mk v fl fh) v := fun h => by
  refine hne (funext fun a => ?_)
  have e1 : mk v fl fh (bs a v false) = fl a := by rw [mk_f (bs_s a v false), h1]
  have e2 : mk v fl fh (bs a v true) = fh a := by rw [mk_t (bs_s a v true), h2]
  rw [← e1, ← e2, h, h]
theorem mk_inj {v : Nat} {f1 f2 g1 g2 : Bf} (a1 : ind f1 v) (a2 : ind f2 v) (b1 : ind g1 v) (b2 : ind g2 v) (h : mk v f1 g1 = mk v f2 g2) : f1 = f2 ∧ g1 = g2 := by
  constructor
  · funext a
    have := congrFun h (bs a v false)
    rw [mk_f (bs_s a v false), mk_f (bs_s a v false), a1, a2] at this
    exact this
  · funext a
    have := congrFun h (bs a v true)
    rw [mk_t (bs_s a v true), mk_t (bs_s a v true), b1, b2] at this
    exact this
theorem mk_same (v : Nat) (f : Bf) : mk v f f = f := by
  funext a
  unfold mk
  cases a v <;> rfl
/-- the order: lv and vr undo each other on 0 .. 12, and 12 (the ends) stands last -/
def lp (lv vr : Nat → Nat) : Prop := (∀ v, v < 13 → lv v < 13 ∧ vr (lv v) = v) ∧ (∀ k, k < 13 → vr k < 13 ∧ lv (vr k) = k) ∧ lv 12 = 12
theorem lp_inj {lv vr : Nat → Nat} (h : lp lv vr) {u v : Nat} (hu : u < 13) (hv : v < 13) (e : lv u = lv v) : u = v := by
  rw [← (h.1 u hu).2, ← (h.1 v hv).2, e]
theorem lp_lt {lv vr : Nat → Nat} (h : lp lv vr) {v : Nat} (hv : v < 12) : lv v < 12 := by
  have h1 := (h.1 v (by omega)).1
  rcases Nat.lt_or_ge (lv v) 12 with q | q
  · exact q
  · have e : lv v = lv 12 := by rw [h.2.2]; omega
    have := lp_inj h (by omega) (by omega) e
    omega
theorem lp_vr {lv vr : Nat → Nat} (h : lp lv vr) {k : Nat} (hk : k < 12) : vr k < 12 := by
  obtain ⟨h1, h2⟩ := h.2.1 k (by omega)
  rcases Nat.lt_or_ge (vr k) 12 with q | q
  · exact q
  · have e : vr k = 12 := by omega
    rw [e, h.2.2] at h2
    omega
def vl (V : Nat → Bool) (i : Nat) : Prop := i ≤ 1 ∨ V i = true
def rk (lv va : Nat → Nat) (T : Nat → Bool) (L i : Nat) : Nat := if T i = true then L else lv (va i)
theorem rk_f {lv va : Nat → Nat} {T : Nat → Bool} {L i : Nat} (h : T i = false) : rk lv va T L i = lv (va i) := by
  unfold rk; rw [h]; rfl
theorem rk_t {lv va : Nat → Nat} {T : Nat → Bool} {L i : Nat} (h : T i = true) : rk lv va T L i = L := if_pos h
def gpk (lv : Nat → Nat) (V T : Nat → Bool) (L : Nat) (va lo hi : Nat → Nat) (c : Nat) : Prop := T c = false ∧ (L + 1 < lv (va c) ∨ (lv (va c) = L ∧ V c = true ∧ L + 1 < lv (va (lo c)) ∧ L + 1 < lv (va (hi c))))
def gi (lv : Nat → Nat) (V T : Nat → Bool) (L : Nat) (va lo hi : Nat → Nat) (dn : Nat → Bf) : Prop :=
  (∀ i, V i = true → 2 ≤ i ∧ va i < 12 ∧ vl V (lo i) ∧ vl V (hi i)) ∧
  (va 0 = 12 ∧ va 1 = 12 ∧ dn 0 = (fun _ => false) ∧ dn 1 = (fun _ => true)) ∧
  (∀ i, V i = true → dn i = mk (va i) (dn (lo i)) (dn (hi i))) ∧
  (∀ i j, vl V i → vl V j → dn i = dn j → i = j) ∧
  (∀ i, V i = true → T i = false → lv (va i) < rk lv va T L (lo i) ∧ lv (va i) < rk lv va T L (hi i)) ∧
  (∀ i, T i = true → V i = true ∧ lv (va i) = L + 1 ∧ gpk lv V T L va lo hi (lo i) ∧ gpk lv V T L va lo hi (hi i) ∧ (lv (va (lo i)) = L ∨ lv (va (hi i)) = L))
section
variable {lv vr : Nat → Nat} {V T : Nat → Bool} {L : Nat} {va lo hi : Nat → Nat} {dn : Nat → Bf}
theorem gi_T0 (h : gi lv V T L va lo hi dn) {i : Nat} (hi1 : i ≤ 1) : T i = false := by
  cases ht : T i
  · rfl
  · have := (h.1 i (h.2.2.2.2.2 i ht).1).1
    omega
theorem gi_V0 (h : gi lv V T L va lo hi dn) {i : Nat} (hi1 : i ≤ 1) : V i = false := by
  cases ht : V i
  · rfl
  · have := (h.1 i ht).1
    omega
theorem gi_va (h : gi lv V T L va lo hi dn) {i : Nat} (hv : vl V i) : va i < 13 := by
  rcases hv with q | q
  · have e : i = 0 ∨ i = 1 := by omega
    rcases e with e | e
    · rw [e, h.2.1.1]; omega
    · rw [e, h.2.1.2.1]; omega
  · have := (h.1 i q).2.1
    omega
theorem gi_end (h : gi lv V T L va lo hi dn) {i : Nat} (hi1 : i ≤ 1) : va i = 12 := by
  have e : i = 0 ∨ i = 1 := by omega
  rcases e with e | e
  · rw [e, h.2.1.1]
  · rw [e, h.2.1.2.1]
/-- a node's function hangs only on the variables from its rank on -/
theorem gi_cong (h : gi lv V T L va lo hi dn) (hp : lp lv vr) : ∀ (n i : Nat), vl V i → 2 * (13 - rk lv va T L i) + (T i).toNat ≤ n → ∀ (a b : Nat → Bool), (∀ x, x < 12 → rk lv va T L i ≤ lv x → a x = b x) → dn i a = dn i b := by
  intro n
  induction n with
  | zero =>
    intro i hv hm a b hab
    rcases hv with q | q
    · have e : i = 0 ∨ i = 1 := by omega
      rcases e with e | e
      · rw [e, h.2.1.2.2.1]
      · rw [e, h.2.1.2.2.2]
    · exfalso
      have hva := (h.1 i q).2.1
      have h1 := lp_lt hp hva
      cases ht : T i
      · rw [rk_f ht] at hm; omega
      · rw [ht] at hm; simp at hm
  | succ n ih =>
    intro i hv hm a b hab
    rcases hv with q | q
    · have e : i = 0 ∨ i = 1 := by omega
      rcases e with e | e
      · rw [e, h.2.1.2.2.1]
      · rw [e, h.2.1.2.2.2]
    · obtain ⟨-, hva, hl, hh⟩ := h.1 i q
      have hlt := lp_lt hp hva
      rw [h.2.2.1 i q]
      have key : ∀ c, vl V c → (2 * (13 - rk lv va T L c) + (T c).toNat ≤ n) → rk lv va T L i ≤ rk lv va T L c → dn c a = dn c b := fun c hc hn hr => ih c hc hn a b (fun x hx hxc => hab x hx (Nat.le_trans hr hxc))
      have hroot : a (va i) = b (va i) := by
        refine hab (va i) hva ?_
        cases ht : T i
        · rw [rk_f ht]; exact Nat.le_refl _
        · rw [rk_t ht, (h.2.2.2.2.2 i ht).2.1]; omega
      have hch : dn (lo i) a = dn (lo i) b ∧ dn (hi i) a = dn (hi i) b := by
        cases ht : T i
        · obtain ⟨r1, r2⟩ := h.2.2.2.2.1 i q ht
          rw [rk_f ht, ht] at hm
          have t1 : (T (lo i)).toNat ≤ 1 := Bool.toNat_le _
          have t2 : (T (hi i)).toNat ≤ 1 := Bool.toNat_le _
          simp only [Bool.toNat_false] at hm
          refine ⟨key _ hl (by omega) (by rw [rk_f ht]; omega), key _ hh (by omega) (by rw [rk_f ht]; omega)⟩
        · obtain ⟨-, r0, ⟨t1, r1⟩, ⟨t2, r2⟩, -⟩ := h.2.2.2.2.2 i ht
          rw [rk_t ht, ht] at hm
          simp only [Bool.toNat_true] at hm
          refine ⟨key _ hl ?_ ?_, key _ hh ?_ ?_⟩
          · rw [rk_f t1, t1]; simp only [Bool.toNat_false]; omega
          · rw [rk_t ht, rk_f t1]; omega
          · rw [rk_f t2, t2]; simp only [Bool.toNat_false]; omega
          · rw [rk_t ht, rk_f t2]; omega
      show (bif a (va i) then dn (hi i) a else dn (lo i) a) = (bif b (va i) then dn (hi i) b else dn (lo i) b)
      rw [hroot, hch.1, hch.2]
theorem gi_same (h : gi lv V T L va lo hi dn) (hp : lp lv vr) {i : Nat} (hv : vl V i) {a b : Nat → Bool} (hab : ∀ x, x < 12 → rk lv va T L i ≤ lv x → a x = b x) : dn i a = dn i b := gi_cong h hp _ i hv (Nat.le_refl _) a b hab
theorem gi_ind (h : gi lv V T L va lo hi dn) (hp : lp lv vr) {i x : Nat} (hv : vl V i) (hx : lv x < rk lv va T L i) : ind (dn i) x := fun a b => gi_same h hp hv (fun y _ hr => bs_n (fun e => by rw [e] at hr; omega))
/-- the children of a node do not hang on what it asks -/
theorem gi_ch (h : gi lv V T L va lo hi dn) (hp : lp lv vr) {i : Nat} (hv : V i = true) : ind (dn (lo i)) (va i) ∧ ind (dn (hi i)) (va i) := by
  obtain ⟨h2, hva, hl, hh⟩ := h.1 i hv
  cases ht : T i
  · obtain ⟨r1, r2⟩ := h.2.2.2.2.1 i hv ht
    exact ⟨gi_ind h hp hl r1, gi_ind h hp hh r2⟩
  · obtain ⟨-, r0, k1, k2, -⟩ := h.2.2.2.2.2 i ht
    have key : ∀ c, vl V c → gpk lv V T L va lo hi c → ind (dn c) (va i) := by
      intro c hc hk
      obtain ⟨t1, q | ⟨q1, q2, q3, q4⟩⟩ := hk
      · exact gi_ind h hp hc (by rw [rk_f t1]; omega)
      · obtain ⟨-, cva, cl, ch⟩ := h.1 c q2
        obtain ⟨s1, s2⟩ := h.2.2.2.2.1 c q2 t1
        have u1 : T (lo c) = false := by
          cases e : T (lo c)
          · rfl
          · rw [rk_t e] at s1; omega
        have u2 : T (hi c) = false := by
          cases e : T (hi c)
          · rfl
          · rw [rk_t e] at s2; omega
        rw [h.2.2.1 c q2]
        refine ind_mk (fun e => by rw [e] at q1; omega) (gi_ind h hp cl (by rw [rk_f u1]; omega)) (gi_ind h hp ch (by rw [rk_f u2]; omega))
    exact ⟨key _ hl k1, key _ hh k2⟩
theorem gi_two (h : gi lv V T L va lo hi dn) {i : Nat} (hv : V i = true) : dn (lo i) ≠ dn (hi i) := fun e => by
  obtain ⟨h2, hva, hl, hh⟩ := h.1 i hv
  have e1 : dn i = dn (lo i) := by rw [h.2.2.1 i hv, ← e, mk_same]
  have e2 := h.2.2.2.1 i (lo i) (Or.inr hv) hl e1
  cases ht : T i
  · have r1 := (h.2.2.2.2.1 i hv ht).1
    rw [← e2, rk_f ht] at r1
    omega
  · have k1 := (h.2.2.2.2.2 i ht).2.2.1.1
    rw [← e2, ht] at k1
    cases k1
theorem gi_ne (h : gi lv V T L va lo hi dn) {i : Nat} (hv : V i = true) : lo i ≠ hi i := fun e => gi_two h hv (by rw [e])
theorem gi_dep (h : gi lv V T L va lo hi dn) (hp : lp lv vr) {i : Nat} (hv : V i = true) : ¬ ind (dn i) (va i) := by
  rw [h.2.2.1 i hv]
  exact mk_dep (gi_ch h hp hv).1 (gi_ch h hp hv).2 (gi_two h hv)
theorem ind_lift {v x : Nat} {fl fh : Bf} (hx : v ≠ x) (h1 : ind fl v) (h2 : ind fh v) (h : ind (mk v fl fh) x) : ind fl x ∧ ind fh x := by
  constructor
  · intro a b
    have e := h (bs a v false) b
    have c : bs (bs a v false) x b v = false := by rw [bs_n hx, bs_s]
    rw [mk_f c, mk_f (bs_s a v false), h1] at e
    have c2 : bs (bs a v false) x b = bs (bs a x b) v false := by
      funext u
      by_cases p : u = x
      · subst p; rw [bs_s, bs_n (fun q => hx q.symm), bs_s]
      · rw [bs_n p]
        by_cases p2 : u = v
        · subst p2; rw [bs_s, bs_s]
        · rw [bs_n p2, bs_n p2, bs_n p]
    rw [c2, h1] at e
    exact e
  · intro a b
    have e := h (bs a v true) b
    have c : bs (bs a v true) x b v = true := by rw [bs_n hx, bs_s]
    rw [mk_t c, mk_t (bs_s a v true), h2] at e
    have c2 : bs (bs a v true) x b = bs (bs a x b) v true := by
      funext u
      by_cases p : u = x
      · subst p; rw [bs_s, bs_n (fun q => hx q.symm), bs_s]
      · rw [bs_n p]
        by_cases p2 : u = v
        · subst p2; rw [bs_s, bs_s]
        · rw [bs_n p2, bs_n p2, bs_n p]
    rw [c2, h2] at e
    exact e
/-- one that waits hangs on the variable of level L -/
theorem gi_depT (h : gi lv V T L va lo hi dn) (hp : lp lv vr) {i w : Nat} (ht : T i = true) (hw : w < 13) (hL : lv w = L) : ¬ ind (dn i) w := fun hc => by
  obtain ⟨hv, r0, ⟨t1, k1⟩, ⟨t2, k2⟩, k3⟩ := h.2.2.2.2.2 i ht
  obtain ⟨h2, hva, hl, hh⟩ := h.1 i hv
  rw [h.2.2.1 i hv] at hc
  have hne : va i ≠ w := fun e => by rw [e] at r0; omega
  obtain ⟨c1, c2⟩ := ind_lift hne (gi_ch h hp hv).1 (gi_ch h hp hv).2 hc
  rcases k3 with e | e
  · have e2 : va (lo i) = w := lp_inj hp (gi_va h hl) hw (by rw [e, hL])
    rcases k1 with q | ⟨-, q, -⟩
    · omega
    · exact gi_dep h hp q (by rw [e2]; exact c1)
  · have e2 : va (hi i) = w := lp_inj hp (gi_va h hh) hw (by rw [e, hL])
    rcases k2 with q | ⟨-, q, -⟩
    · omega
    · exact gi_dep h hp q (by rw [e2]; exact c2)
/-- a function's node stands no higher than the function hangs -/
theorem gi_lev (h : gi lv V T L va lo hi dn) (hp : lp lv vr) {r k : Nat} (hr : vl V r) (hi1 : ∀ x, x < 12 → lv x < k → ind (dn r) x) (hk : k ≤ 12) : k ≤ lv (va r) := by
  rcases Nat.lt_or_ge (lv (va r)) k with q | q
  · exfalso
    rcases hr with e | e
    · rw [gi_end h e, hp.2.2] at q; omega
    · exact gi_dep h hp e (hi1 _ (h.1 r e).2.1 q)
  · exact q
/-- no node stands yet for a node that is not found -/
theorem gi_new (h : gi lv V T L va lo hi dn) (hp : lp lv vr) {v low high : Nat} (hv : v < 12) (hTL : ∀ i, T i = true → L < lv v) (hl : vl V low) (hh : vl V high) (tl : T low = false) (th : T high = false) (ll : lv v < lv (va low)) (lh : lv v < lv (va high)) (hne : low ≠ high)
    (nf : ∀ j, V j = true → T j = false → va j = v → lo j = low → hi j = high → False) {j : Nat} (hj : vl V j) : dn j ≠ mk v (dn low) (dn high) := fun e => by
  have i1 : ind (dn low) v := gi_ind h hp hl (by rw [rk_f tl]; exact ll)
  have i2 : ind (dn high) v := gi_ind h hp hh (by rw [rk_f th]; exact lh)
  have hdep : ¬ ind (mk v (dn low) (dn high)) v := mk_dep i1 i2 (fun q => hne (h.2.2.2.1 _ _ hl hh q))
  have hup : ∀ x, lv x < lv v → ind (mk v (dn low) (dn high)) x := fun x hx => ind_mk (fun q => by rw [q] at hx; omega) (gi_ind h hp hl (by rw [rk_f tl]; omega)) (gi_ind h hp hh (by rw [rk_f th]; omega))
  rcases hj with q | q
  · have q' : j = 0 ∨ j = 1 := by omega
    refine hdep ?_
    rw [← e]
    rcases q' with q' | q'
    · rw [q', h.2.1.2.2.1]; exact fun _ _ => rfl
    · rw [q', h.2.1.2.2.2]; exact fun _ _ => rfl
  · have jva := (h.1 j q).2.1
    cases ht : T j
    · rcases Nat.lt_trichotomy (lv (va j)) (lv v) with c | c | c
      · exact gi_dep h hp q (by rw [e]; exact hup _ c)
      · have ev : va j = v := lp_inj hp (by omega) (by omega) c
        obtain ⟨c1, c2⟩ := gi_ch h hp q
        rw [ev] at c1 c2
        rw [h.2.2.1 j q, ev] at e
        obtain ⟨e1, e2⟩ := mk_inj c1 i1 c2 i2 e
        exact nf j q ht ev (h.2.2.2.1 _ _ (h.1 j q).2.2.1 hl e1) (h.2.2.2.1 _ _ (h.1 j q).2.2.2 hh e2)
      · exact hdep (by rw [← e]; exact gi_ind h hp (Or.inr q) (by rw [rk_f ht]; exact c))
    · have hL := hTL j ht
      obtain ⟨-, r0, -⟩ := h.2.2.2.2.2 j ht
      have hL12 : L < 13 := by
        have := (hp.1 (va j) (by omega)).1
        omega
      obtain ⟨w1, w2⟩ := hp.2.1 L hL12
      exact gi_depT h hp ht w1 w2 (by rw [e]; exact hup _ (by rw [w2]; exact hL))
end
end
section
/-! PURE, 3: what the graph's invariant survives: a new node, a node that goes, two levels that change places. -/
section
variable {lv vr : Nat → Nat} {V T : Nat → Bool} {L : Nat} {va lo hi : Nat → Nat} {dn : Nat → Bf}
theorem gi_add (h : gi lv V T L va lo hi dn) (hp : lp lv vr) {v low high k : Nat} (hv : v < 12) (hTL : ∀ i, T i = true → L < lv v) (hl : vl V low) (hh : vl V high) (tl : T low = false) (th : T high = false) (ll : lv v < lv (va low)) (lh : lv v < lv (va high)) (hne : low ≠ high)
    (nf : ∀ j, V j = true → T j = false → va j = v → lo j = low → hi j = high → False) (hk : V k = false) (hk2 : 2 ≤ k) :
    gi lv (fu V k true) T L (fu va k v) (fu lo k low) (fu hi k high) (fu dn k (mk v (dn low) (dn high))) := by
  have hnk : ∀ i, vl V i → i ≠ k := fun i hi1 e => by
    rcases hi1 with q | q
    · omega
    · rw [e, hk] at q; cases q
  have hTk : T k = false := by
    cases e : T k
    · rfl
    · have := (h.2.2.2.2.2 k e).1
      rw [hk] at this; cases this
  have hvl : ∀ i, vl V i → vl (fu V k true) i := fun i hi1 => by
    rcases hi1 with q | q
    · exact Or.inl q
    · refine Or.inr ?_
      rw [fu_n (hnk i (Or.inr q))]; exact q
  have hVn : ∀ i, i ≠ k → fu V k true i = true → V i = true := fun i hi1 q => by rw [fu_n hi1] at q; exact q
  have hrk : ∀ c, vl V c → rk lv (fu va k v) T L c = rk lv va T L c := fun c hc => by
    unfold rk; rw [fu_n (hnk c hc)]
  have hgpk : ∀ c, vl V c → gpk lv V T L va lo hi c → gpk lv (fu V k true) T L (fu va k v) (fu lo k low) (fu hi k high) c := fun c hc hk1 => by
    obtain ⟨q0, q1⟩ := hk1
    refine ⟨q0, ?_⟩
    rw [fu_n (hnk c hc)]
    rcases q1 with q1 | ⟨q1, q2, q3, q4⟩
    · exact Or.inl q1
    · obtain ⟨-, -, cl, ch⟩ := h.1 c q2
      rw [fu_n (f := lo) (hnk c hc), fu_n (f := hi) (hnk c hc), fu_n (f := V) (hnk c hc), fu_n (hnk _ cl), fu_n (hnk _ ch)]
      exact Or.inr ⟨q1, q2, q3, q4⟩
  refine ⟨fun i q => ?_, ?_, fun i q => ?_, fun i j qi qj e => ?_, fun i q t => ?_, fun i t => ?_⟩
  · by_cases e : i = k
    · subst e
      rw [fu_s, fu_s, fu_s]
      exact ⟨hk2, hv, hvl _ hl, hvl _ hh⟩
    · rw [fu_n e, fu_n e, fu_n e]
      obtain ⟨q1, q2, q3, q4⟩ := h.1 i (hVn i e q)
      exact ⟨q1, q2, hvl _ q3, hvl _ q4⟩
  · rw [fu_n (by omega : (0 : Nat) ≠ k), fu_n (by omega : (1 : Nat) ≠ k), fu_n (by omega : (0 : Nat) ≠ k), fu_n (by omega : (1 : Nat) ≠ k)]
    exact h.2.1
  · by_cases e : i = k
    · subst e
      rw [fu_s, fu_s, fu_s, fu_s, fu_n (hnk _ hl), fu_n (hnk _ hh)]
    · obtain ⟨q1, q2, q3, q4⟩ := h.1 i (hVn i e q)
      rw [fu_n e, fu_n e, fu_n e, fu_n e, fu_n (hnk _ q3), fu_n (hnk _ q4)]
      exact h.2.2.1 i (hVn i e q)
  · have hold : ∀ x, x ≠ k → vl (fu V k true) x → vl V x := fun x hx q => by
      rcases q with q | q
      · exact Or.inl q
      · exact Or.inr (hVn x hx q)
    by_cases ei : i = k
    · by_cases ej : j = k
      · rw [ei, ej]
      · exfalso
        rw [ei, fu_s, fu_n ej] at e
        exact gi_new h hp hv hTL hl hh tl th ll lh hne nf (hold j ej qj) e.symm
    · by_cases ej : j = k
      · exfalso
        rw [ej, fu_s, fu_n ei] at e
        exact gi_new h hp hv hTL hl hh tl th ll lh hne nf (hold i ei qi) e
      · rw [fu_n ei, fu_n ej] at e
        exact h.2.2.2.1 i j (hold i ei qi) (hold j ej qj) e
  · by_cases e : i = k
    · subst e
      rw [fu_s, fu_s, fu_s, hrk _ hl, hrk _ hh, rk_f tl, rk_f th]
      exact ⟨ll, lh⟩
    · have qV := hVn i e q
      obtain ⟨q1, q2, q3, q4⟩ := h.1 i qV
      rw [fu_n e, fu_n e, fu_n e, hrk _ q3, hrk _ q4]
      exact h.2.2.2.2.1 i qV t
  · obtain ⟨q0, q1, q2, q3, q4⟩ := h.2.2.2.2.2 i t
    have e : i ≠ k := hnk i (Or.inr q0)
    obtain ⟨-, -, c1, c2⟩ := h.1 i q0
    rw [fu_n e, fu_n e, fu_n e, fu_n e, fu_n (hnk _ c1), fu_n (hnk _ c2)]
    exact ⟨q0, q1, hgpk _ c1 q2, hgpk _ c2 q3, q4⟩
/-- what nobody refers to may go -/
theorem gi_del (h : gi lv V T L va lo hi dn) {k : Nat} (hT : T k = false) (hr : ∀ i, V i = true → i ≠ k → lo i ≠ k ∧ hi i ≠ k) : gi lv (fu V k false) T L va lo hi dn := by
  have hV : ∀ i, fu V k false i = true → i ≠ k ∧ V i = true := fun i q => by
    by_cases e : i = k
    · rw [e, fu_s] at q; cases q
    · rw [fu_n e] at q; exact ⟨e, q⟩
  have hvl : ∀ c, c ≠ k → vl V c → vl (fu V k false) c := fun c e q => by
    rcases q with q | q
    · exact Or.inl q
    · exact Or.inr (by rw [fu_n e]; exact q)
  have hvo : ∀ c, vl (fu V k false) c → vl V c := fun c q => by
    rcases q with q | q
    · exact Or.inl q
    · exact Or.inr (hV c q).2
  have hgpk : ∀ c, gpk lv V T L va lo hi c → c ≠ k → gpk lv (fu V k false) T L va lo hi c := fun c q e => by
    unfold gpk
    rw [fu_n e]
    exact q
  refine ⟨fun i q => ?_, h.2.1, fun i q => h.2.2.1 i (hV i q).2, fun i j qi qj e => h.2.2.2.1 i j (hvo i qi) (hvo j qj) e, fun i q t => h.2.2.2.2.1 i (hV i q).2 t, fun i t => ?_⟩
  · obtain ⟨e, q1⟩ := hV i q
    obtain ⟨a1, a2, a3, a4⟩ := h.1 i q1
    obtain ⟨b1, b2⟩ := hr i q1 e
    exact ⟨a1, a2, hvl _ b1 a3, hvl _ b2 a4⟩
  · obtain ⟨q0, q1, q2, q3, q4⟩ := h.2.2.2.2.2 i t
    have e : i ≠ k := fun e => by rw [e, hT] at t; cases t
    obtain ⟨b1, b2⟩ := hr i q0 e
    exact ⟨by rw [fu_n e]; exact q0, q1, hgpk _ q2 b1, hgpk _ q3 b2, q4⟩
/-- no one waits: L says nothing -/
theorem gi_L (h : gi lv V T L va lo hi dn) (hT : ∀ i, T i = false) (L' : Nat) : gi lv V (fun _ => false) L' va lo hi dn := by
  refine ⟨h.1, h.2.1, h.2.2.1, h.2.2.2.1, fun i q _ => ?_, fun i t => by cases t⟩
  obtain ⟨a, b⟩ := h.2.2.2.2.1 i q (hT i)
  rw [rk_f (hT _)] at a b
  rw [rk_f rfl, rk_f rfl]
  exact ⟨a, b⟩
/-- the levels L (of u) and L + 1 (of w) have changed places; those that ask u and then w wait -/
theorem gi_turn (h : gi lv V (fun _ => false) L va lo hi dn) (hp : lp lv vr) {u w : Nat} (hL : L + 1 < 12) (hu : u < 12) (hw : w < 12) (lu : lv u = L) (lw : lv w = L + 1) {lv' : Nat → Nat} (l1 : lv' w = L) (l2 : lv' u = L + 1) (l3 : ∀ x, x ≠ u → x ≠ w → lv' x = lv x)
    {T' : Nat → Bool} (hT : ∀ i, T' i = (V i && (va i == u && (va (lo i) == w || va (hi i) == w)))) : gi lv' V T' L va lo hi dn := by
  have hord : ∀ i, V i = true → lv (va i) < lv (va (lo i)) ∧ lv (va i) < lv (va (hi i)) := fun i q => by
    have := h.2.2.2.2.1 i q rfl
    rw [rk_f rfl, rk_f rfl] at this
    exact this
  have e1 : ∀ x, x < 13 → lv x = L → x = u := fun x hx e => lp_inj hp hx (by omega) (by rw [e, lu])
  have e2 : ∀ x, x < 13 → lv x = L + 1 → x = w := fun x hx e => lp_inj hp hx (by omega) (by rw [e, lw])
  have l4 : ∀ x, lv x < L ∨ L + 1 < lv x → lv' x = lv x := fun x hx => l3 x (fun e => by rw [e] at hx; omega) (fun e => by rw [e] at hx; omega)
  have hTt : ∀ i, T' i = true → V i = true ∧ va i = u ∧ (va (lo i) = w ∨ va (hi i) = w) := fun i q => by
    rw [hT i] at q
    simp at q
    exact q
  have hTf : ∀ i, V i = true → va i = u → T' i = false → va (lo i) ≠ w ∧ va (hi i) ≠ w := fun i q1 q2 q => by
    rw [hT i, q1, q2] at q
    simp at q
    exact q
  have hTu : ∀ i, va i ≠ u → T' i = false := fun i q => by
    rw [hT i]
    simp [q]
  have stp : ∀ i c, V i = true → T' i = false → vl V c → lv (va i) < lv (va c) → (va i = u → va c ≠ w) → lv' (va i) < rk lv' va T' L c := by
    intro i c q t hc ho hx
    have iva := (h.1 i q).2.1
    have cva := gi_va h hc
    cases tc : T' c
    · rw [rk_f tc]
      rcases Nat.lt_trichotomy (lv (va i)) L with k | k | k
      · rw [l4 _ (Or.inl k)]
        by_cases c1 : va c = u
        · rw [c1, l2]; omega
        · by_cases c2 : va c = w
          · rw [c2, l1]; omega
          · rw [l3 _ c1 c2]; exact ho
      · have iu := e1 _ (by omega) k
        have c2 := hx iu
        have c3 : lv (va c) ≠ L + 1 := fun e => c2 (e2 _ cva e)
        rw [l4 (va c) (Or.inr (by omega)), iu, l2]
        omega
      · rcases Nat.lt_or_ge (L + 1) (lv (va i)) with k2 | k2
        · rw [l4 _ (Or.inr k2), l4 _ (Or.inr (by omega))]; exact ho
        · have iw := e2 _ (by omega) (by omega : lv (va i) = L + 1)
          rw [iw, l1, l4 (va c) (Or.inr (by omega))]
          omega
    · obtain ⟨-, c1, -⟩ := hTt c tc
      rw [rk_t tc]
      rw [c1, lu] at ho
      rw [l4 _ (Or.inl ho)]
      exact ho
  have hpk : ∀ i c, V i = true → va i = u → vl V c → lv (va i) < lv (va c) → gpk lv' V T' L va lo hi c := by
    intro i c q iu hc ho
    rw [iu, lu] at ho
    have cva := gi_va h hc
    refine ⟨hTu c (fun e => by rw [e, lu] at ho; omega), ?_⟩
    rcases Nat.lt_or_ge (L + 1) (lv (va c)) with k | k
    · exact Or.inl (by rw [l4 _ (Or.inr k)]; exact k)
    · have cw := e2 _ cva (by omega : lv (va c) = L + 1)
      have cV : V c = true := by
        rcases hc with z | z
        · have := gi_end h z
          omega
        · exact z
      obtain ⟨o1, o2⟩ := hord c cV
      rw [cw, lw] at o1 o2
      exact Or.inr ⟨by rw [cw, l1], cV, by rw [l4 _ (Or.inr o1)]; exact o1, by rw [l4 _ (Or.inr o2)]; exact o2⟩
  refine ⟨h.1, h.2.1, h.2.2.1, h.2.2.2.1, fun i q t => ?_, fun i t => ?_⟩
  · obtain ⟨o1, o2⟩ := hord i q
    obtain ⟨-, -, c1, c2⟩ := h.1 i q
    exact ⟨stp i _ q t c1 o1 (fun e => (hTf i q e t).1), stp i _ q t c2 o2 (fun e => (hTf i q e t).2)⟩
  · obtain ⟨q, iu, k⟩ := hTt i t
    obtain ⟨o1, o2⟩ := hord i q
    obtain ⟨-, -, c1, c2⟩ := h.1 i q
    refine ⟨q, by rw [iu, l2], hpk i _ q iu c1 o1, hpk i _ q iu c2 o2, ?_⟩
    rcases k with k | k
    · exact Or.inl (by rw [k, l1])
    · exact Or.inr (by rw [k, l1])
/-- one that waited is written anew: it asks the variable of level L -/
theorem gi_write (h : gi lv V T L va lo hi dn) {p w low high : Nat} (tp : T p = true) (hw : w < 12) (lw : lv w = L) (hl : vl V low) (hh : vl V high) (tl : T low = false) (th : T high = false) (ll : L < lv (va low)) (lh : L < lv (va high)) (hd : dn p = mk w (dn low) (dn high)) :
    gi lv V (fu T p false) L (fu va p w) (fu lo p low) (fu hi p high) dn := by
  obtain ⟨vp, lp1, -⟩ := h.2.2.2.2.2 p tp
  have p2 := (h.1 p vp).1
  have hTf : ∀ c, T c = false → c ≠ p := fun c q e => by rw [e, tp] at q; cases q
  have hTo : ∀ c, T c = false → fu T p false c = false := fun c q => by rw [fu_n (hTf c q)]; exact q
  have hrk : ∀ c, rk lv (fu va p w) (fu T p false) L c = rk lv va T L c := fun c => by
    by_cases e : c = p
    · subst e
      rw [rk_f (fu_s _ _ _), rk_t tp, fu_s, lw]
    · unfold rk
      rw [fu_n e, fu_n e]
  have hgpk : ∀ c, gpk lv V T L va lo hi c → gpk lv V (fu T p false) L (fu va p w) (fu lo p low) (fu hi p high) c := fun c q => by
    obtain ⟨q0, q1⟩ := q
    have e := hTf c q0
    refine ⟨hTo c q0, ?_⟩
    rw [fu_n e]
    rcases q1 with q1 | ⟨q1, q2, q3, q4⟩
    · exact Or.inl q1
    · have c1 : lo c ≠ p := fun z => by rw [z, lp1] at q3; omega
      have c2 : hi c ≠ p := fun z => by rw [z, lp1] at q4; omega
      rw [fu_n (f := lo) e, fu_n (f := hi) e, fu_n c1, fu_n c2]
      exact Or.inr ⟨q1, q2, q3, q4⟩
  refine ⟨fun i q => ?_, ?_, fun i q => ?_, h.2.2.2.1, fun i q t => ?_, fun i t => ?_⟩
  · obtain ⟨a1, a2, a3, a4⟩ := h.1 i q
    by_cases e : i = p
    · subst e
      rw [fu_s, fu_s, fu_s]
      exact ⟨a1, hw, hl, hh⟩
    · rw [fu_n e, fu_n e, fu_n e]
      exact ⟨a1, a2, a3, a4⟩
  · rw [fu_n (by omega : (0 : Nat) ≠ p), fu_n (by omega : (1 : Nat) ≠ p)]
    exact h.2.1
  · by_cases e : i = p
    · subst e
      rw [fu_s, fu_s, fu_s]
      exact hd
    · rw [fu_n e, fu_n e, fu_n e]
      exact h.2.2.1 i q
  · rw [hrk, hrk]
    by_cases e : i = p
    · subst e
      rw [fu_s, fu_s, fu_s, rk_f tl, rk_f th, lw]
      exact ⟨ll, lh⟩
    · rw [fu_n e] at t
      rw [fu_n e, fu_n e, fu_n e]
      exact h.2.2.2.2.1 i q t
  · have e : i ≠ p := fun z => by rw [z, fu_s] at t; cases t
    rw [fu_n e] at t
    obtain ⟨q0, q1, q2, q3, q4⟩ := h.2.2.2.2.2 i t
    rw [fu_n e, fu_n e, fu_n e, fu_n (hTf _ q2.1), fu_n (hTf _ q3.1)]
    exact ⟨q0, q1, hgpk _ q2, hgpk _ q3, q4⟩
end
end
section
/-! PURE, 4: how many nodes there can be. -/
/-- a row of n truths as a number -/
def tbc (f : Nat → Bool) : Nat → Nat
  | 0 => 0
  | n + 1 => (f 0).toNat + 2 * tbc (fun m => f (m + 1)) n
theorem tbc_lt : ∀ (n : Nat) (f : Nat → Bool), tbc f n < 2 ^ n
  | 0, _ => by simp [tbc]
  | n + 1, f => by
    have h := tbc_lt n (fun m => f (m + 1))
    have b := Bool.toNat_le (f 0)
    show (f 0).toNat + 2 * tbc (fun m => f (m + 1)) n < 2 ^ (n + 1)
    rw [Nat.pow_succ]
    omega
theorem tbc_bit : ∀ (n : Nat) (f : Nat → Bool) (j : Nat), j < n → (tbc f n).testBit j = f j
  | 0, _, _, h => by omega
  | n + 1, f, 0, _ => by
    show ((f 0).toNat + 2 * tbc (fun m => f (m + 1)) n).testBit 0 = f 0
    rw [Nat.testBit_zero]
    cases f 0
    · simp
    · simp
  | n + 1, f, j + 1, h => by
    show ((f 0).toNat + 2 * tbc (fun m => f (m + 1)) n).testBit (j + 1) = f (j + 1)
    rw [Nat.testBit_add_one]
    have b := Bool.toNat_le (f 0)
    rw [show ((f 0).toNat + 2 * tbc (fun m => f (m + 1)) n) / 2 = tbc (fun m => f (m + 1)) n by omega]
    exact tbc_bit n (fun m => f (m + 1)) j (by omega)
theorem tbc_inj {n : Nat} {f g : Nat → Bool} (h : tbc f n = tbc g n) (j : Nat) (hj : j < n) : f j = g j := by
  rw [← tbc_bit n f j hj, ← tbc_bit n g j hj, h]
section
variable {lv vr : Nat → Nat} {V T : Nat → Bool} {L : Nat} {va lo hi : Nat → Nat} {dn : Nat → Bf}
/-- the last three levels hold 254 nodes at most: with the ends, all functions of three variables -/
theorem gi_bot (h : gi lv V T L va lo hi dn) (hp : lp lv vr) {n : Nat} (hn : 2 ≤ n) : pc_cnt (fun i => V i && decide (9 ≤ rk lv va T L i)) n ≤ 254 := by
  have V0 := gi_V0 h (i := 0) (by omega)
  have V1 := gi_V0 h (i := 1) (by omega)
  have c1 := pc_up (P := fun i => V i && decide (9 ≤ rk lv va T L i)) (Q := fu (fun i => V i && decide (9 ≤ rk lv va T L i)) 0 true) (k := 0) (n := n) (by omega) (fun j hj => fu_n hj) (by simp [V0]) (fu_s _ _ _)
  have c2 := pc_up (P := fu (fun i => V i && decide (9 ≤ rk lv va T L i)) 0 true) (Q := fu (fu (fun i => V i && decide (9 ≤ rk lv va T L i)) 0 true) 1 true) (k := 1) (n := n) (by omega) (fun j hj => fu_n hj) (by rw [fu_n (by omega)]; simp [V1]) (fu_s _ _ _)
  have hq : ∀ i, fu (fu (fun i => V i && decide (9 ≤ rk lv va T L i)) 0 true) 1 true i = true → vl V i ∧ 9 ≤ rk lv va T L i := fun i q => by
    by_cases e1 : i = 1
    · subst e1
      exact ⟨Or.inl (by omega), by rw [rk_f (gi_T0 h (by omega)), gi_end h (by omega), hp.2.2]; omega⟩
    · rw [fu_n e1] at q
      by_cases e0 : i = 0
      · subst e0
        exact ⟨Or.inl (by omega), by rw [rk_f (gi_T0 h (by omega)), gi_end h (by omega), hp.2.2]; omega⟩
      · rw [fu_n e0] at q
        simp at q
        exact ⟨Or.inr q.1, q.2⟩
  have hc : pc_cnt (fu (fu (fun i => V i && decide (9 ≤ rk lv va T L i)) 0 true) 1 true) n ≤ 256 := by
    refine pc_pigeon (fun i => tbc (fun m => dn i (fun x => m.testBit (lv x - 9))) 8) (fun j _ _ => tbc_lt 8 _) (fun i j _ _ qi qj e => ?_)
    obtain ⟨vi, ri⟩ := hq i qi
    obtain ⟨vj, rj⟩ := hq j qj
    refine h.2.2.2.1 i j vi vj (funext fun a => ?_)
    have hm : tbc (fun t => a (vr (9 + t))) 3 < 8 := tbc_lt 3 _
    have hb : ∀ x, x < 12 → 9 ≤ lv x → a x = (tbc (fun t => a (vr (9 + t))) 3).testBit (lv x - 9) := fun x hx h9 => by
      have hlt := lp_lt hp hx
      rw [tbc_bit 3 _ (lv x - 9) (by omega)]
      rw [show 9 + (lv x - 9) = lv x by omega, (hp.1 x (by omega)).2]
    rw [gi_same h hp vi (b := fun x => (tbc (fun t => a (vr (9 + t))) 3).testBit (lv x - 9)) (fun x hx hr => hb x hx (by omega)), gi_same h hp vj (a := a) (b := fun x => (tbc (fun t => a (vr (9 + t))) 3).testBit (lv x - 9)) (fun x hx hr => hb x hx (by omega))]
    exact tbc_inj e _ hm
  omega
/-- where a way from slot s stands when the levels below k have been asked -/
def gw (lv vr va lo hi sl : Nat → Nat) (a : Nat → Bool) (s : Nat) : Nat → Nat
  | 0 => sl s
  | k + 1 => if lv (va (gw lv vr va lo hi sl a s k)) = k then (if a (vr k) = true then hi (gw lv vr va lo hi sl a s k) else lo (gw lv vr va lo hi sl a s k)) else gw lv vr va lo hi sl a s k
theorem gw_cong {sl : Nat → Nat} {a b : Nat → Bool} {s : Nat} : ∀ {k : Nat}, (∀ j, j < k → a (vr j) = b (vr j)) → gw lv vr va lo hi sl a s k = gw lv vr va lo hi sl b s k
  | 0, _ => rfl
  | k + 1, h => by
    have e := gw_cong (sl := sl) (s := s) (k := k) (fun j hj => h j (by omega))
    show (if lv (va (gw lv vr va lo hi sl a s k)) = k then (if a (vr k) = true then hi (gw lv vr va lo hi sl a s k) else lo (gw lv vr va lo hi sl a s k)) else gw lv vr va lo hi sl a s k) = (if lv (va (gw lv vr va lo hi sl b s k)) = k then (if b (vr k) = true then hi (gw lv vr va lo hi sl b s k) else lo (gw lv vr va lo hi sl b s k)) else gw lv vr va lo hi sl b s k)
    rw [e, h k (by omega)]
theorem gw_stay {sl : Nat → Nat} {a : Nat → Bool} {s i k : Nat} (h : gw lv vr va lo hi sl a s k = i) : ∀ (d : Nat), k + d ≤ lv (va i) → gw lv vr va lo hi sl a s (k + d) = i
  | 0, _ => h
  | d + 1, hd => by
    have e := gw_stay h d (by omega)
    show (if lv (va (gw lv vr va lo hi sl a s (k + d))) = k + d then (if a (vr (k + d)) = true then hi (gw lv vr va lo hi sl a s (k + d)) else lo (gw lv vr va lo hi sl a s (k + d))) else gw lv vr va lo hi sl a s (k + d)) = i
    rw [e, if_neg (by omega)]
/-- every node to which something refers is met on a way from a slot -/
theorem gw_all (h : gi lv V (fun _ => false) L va lo hi dn) (hp : lp lv vr) {sl : Nat → Nat} (hr : ∀ i, V i = true → (∃ s, s < 32 ∧ sl s = i) ∨ (∃ j, V j = true ∧ (lo j = i ∨ hi j = i))) : ∀ (n i : Nat), V i = true → lv (va i) < n → ∃ (s : Nat) (a : Nat → Bool), s < 32 ∧ gw lv vr va lo hi sl a s (lv (va i)) = i := by
  intro n
  induction n with
  | zero => intro i _ q; omega
  | succ n ih =>
    intro i hv hn
    rcases hr i hv with ⟨s, hs, e⟩ | ⟨j, hj, e⟩
    · refine ⟨s, fun _ => false, hs, ?_⟩
      have := gw_stay (lv := lv) (vr := vr) (va := va) (lo := lo) (hi := hi) (sl := sl) (a := fun _ => false) (s := s) (i := i) (k := 0) e (lv (va i)) (by omega)
      rw [Nat.zero_add] at this
      exact this
    · have ho := h.2.2.2.2.1 j hj rfl
      rw [rk_f rfl, rk_f rfl] at ho
      have jlt := lp_lt hp (h.1 j hj).2.1
      have key : ∀ b : Bool, (if b = true then hi j else lo j) = i → ∃ (s : Nat) (a : Nat → Bool), s < 32 ∧ gw lv vr va lo hi sl a s (lv (va i)) = i := by
        intro b hb
        have hlt : lv (va j) < lv (va i) := by
          cases b
          · rw [if_neg (by simp)] at hb; rw [hb] at ho; exact ho.1
          · rw [if_pos rfl] at hb; rw [hb] at ho; exact ho.2
        obtain ⟨s, a, hs, e1⟩ := ih j hj (by omega)
        refine ⟨s, bs a (vr (lv (va j))) b, hs, ?_⟩
        have e2 : gw lv vr va lo hi sl (bs a (vr (lv (va j))) b) s (lv (va j)) = j := by
          refine (gw_cong (b := a) (fun t ht => ?_)).trans e1
          refine bs_n (fun q => ?_)
          have q1 := (hp.2.1 t (by omega)).2
          rw [q, (hp.2.1 (lv (va j)) (by omega)).2] at q1
          omega
        have e3 : gw lv vr va lo hi sl (bs a (vr (lv (va j))) b) s (lv (va j) + 1) = i := by
          show (if lv (va (gw lv vr va lo hi sl (bs a (vr (lv (va j))) b) s (lv (va j)))) = lv (va j) then (if bs a (vr (lv (va j))) b (vr (lv (va j))) = true then hi (gw lv vr va lo hi sl (bs a (vr (lv (va j))) b) s (lv (va j))) else lo (gw lv vr va lo hi sl (bs a (vr (lv (va j))) b) s (lv (va j)))) else gw lv vr va lo hi sl (bs a (vr (lv (va j))) b) s (lv (va j))) = i
          rw [e2, if_pos rfl, bs_s]
          exact hb
        have := gw_stay e3 (lv (va i) - (lv (va j) + 1)) (by omega)
        rw [show lv (va j) + 1 + (lv (va i) - (lv (va j) + 1)) = lv (va i) by omega] at this
        exact this
      rcases e with e | e
      · exact key false (by simpa using e)
      · exact key true (by simpa using e)
theorem gi_level (h : gi lv V (fun _ => false) L va lo hi dn) (hp : lp lv vr) {sl : Nat → Nat} (hr : ∀ i, V i = true → (∃ s, s < 32 ∧ sl s = i) ∨ (∃ j, V j = true ∧ (lo j = i ∨ hi j = i))) (n k : Nat) : pc_cnt (fun i => V i && lv (va i) == k) n ≤ 32 * 2 ^ k := by
  refine pc_hit (fun q => gw lv vr va lo hi sl (fun x => (q / 32).testBit (lv x)) (q % 32) k) (fun i _ q => ?_)
  simp at q
  obtain ⟨qv, qk⟩ := q
  obtain ⟨s, a, hs, e⟩ := gw_all h hp hr (lv (va i) + 1) i qv (by omega)
  have hk : k < 12 := by rw [← qk]; exact lp_lt hp (h.1 i qv).2.1
  rw [qk] at e
  have hm := tbc_lt k (fun j => a (vr j))
  refine ⟨32 * tbc (fun j => a (vr j)) k + s, ?_, ?_⟩
  · have : tbc (fun j => a (vr j)) k + 1 ≤ 2 ^ k := hm
    omega
  · show gw lv vr va lo hi sl (fun x => ((32 * tbc (fun j => a (vr j)) k + s) / 32).testBit (lv x)) ((32 * tbc (fun j => a (vr j)) k + s) % 32) k = i
    rw [show (32 * tbc (fun j => a (vr j)) k + s) / 32 = tbc (fun j => a (vr j)) k by omega, show (32 * tbc (fun j => a (vr j)) k + s) % 32 = s by omega, ← e]
    refine gw_cong (fun j hj => ?_)
    show (tbc (fun j => a (vr j)) k).testBit (lv (vr j)) = a (vr j)
    rw [(hp.2.1 j (by omega)).2, tbc_bit k _ j hj]
/-- all together: 32 * 511 + 254 -/
theorem gi_size (h : gi lv V (fun _ => false) L va lo hi dn) (hp : lp lv vr) {sl : Nat → Nat} (hr : ∀ i, V i = true → (∃ s, s < 32 ∧ sl s = i) ∨ (∃ j, V j = true ∧ (lo j = i ∨ hi j = i))) {n : Nat} (hn : 2 ≤ n) : pc_cnt V n ≤ 16606 := by
  have h1 := pc_split V (fun i => decide (lv (va i) < 9)) n
  have h2 := pc_levels (P := V) (g := fun i => lv (va i)) (n := n) (m := 9) (fun k _ => gi_level h hp hr n k)
  have h3 := gi_bot h hp hn
  have h4 : pc_cnt (fun i => V i && !decide (lv (va i) < 9)) n = pc_cnt (fun i => V i && decide (9 ≤ rk lv va (fun _ => false) L i)) n := pc_congr (fun i _ => by
    rw [rk_f rfl]
    cases V i
    · rfl
    · simp only [Bool.true_and]
      rw [Bool.eq_iff_iff]
      simp)
  rw [h4] at h1
  omega
end
end
section
/-! JAVA, 1: the class's own methods as functions of what its cells hold. N 0: room, used, free, size, limit, rewritten; N 1: rows; N 2: heads; N 3: held; N 4: levels; N 5: variables. The array rows has 5 * room places. -/
abbrev Mm : Type := Nat → Nat → Int32
def up (N : Mm) (k j : Nat) (x : Int32) : Mm := fu N k (upd (N k) j x)
def jlen (N : Mm) : Nat := 5 * (N 0 0).toNatClampNeg
def j_get (N : Mm) (node field : Int32) : Int32 := if node * 5 + field < 0 then 0 else if nI (jlen N) ≤ node * 5 + field then 0 else N 1 (node * 5 + field).toNatClampNeg
def j_set (N : Mm) (node field x : Int32) : Mm := if node * 5 + field < 0 then N else if nI (jlen N) ≤ node * 5 + field then N else up N 1 (node * 5 + field).toNatClampNeg x
def j_lowFor (N : Mm) (node v : Int32) : Int32 := if j_get N node 0 = v then j_get N node 1 else node
def j_highFor (N : Mm) (node v : Int32) : Int32 := if j_get N node 0 = v then j_get N node 2 else node
def j_levelOf (N : Mm) (v : Int32) : Int32 := if v < 0 then 12 else if nI 13 ≤ v then 12 else N 4 v.toNatClampNeg
def j_variableAt (N : Mm) (k : Int32) : Int32 := if k < 0 then 12 else if nI 13 ≤ k then 12 else N 5 k.toNatClampNeg
def j_heldFor (N : Mm) (v : Int32) : Int32 := if v < 0 then 0 else if nI 12 ≤ v then 0 else N 3 v.toNatClampNeg
def j_min (a b : Int32) : Int32 := if a ≤ b then a else b
def j_max (a b : Int32) : Int32 := if b ≤ a then a else b
def j_firstAsked (N : Mm) (f g h : Int32) : Int32 := j_variableAt N (j_min (j_min (j_levelOf N (j_get N f 0)) (j_levelOf N (j_get N g 0))) (j_levelOf N (j_get N h 0)))
/-- the loop of truthFor, n steps at most -/
def j_truthL (N : Mm) (way : Int32) : Nat → Int32 → Int32
  | 0, node => node
  | n + 1, node => if node ≤ 1 then node else j_truthL N way n (j_get N node (if (way >>> (j_get N node 0 &&& 31)) &&& 1 = 0 then 1 else 2))
def j_truthFor (N : Mm) (node way : Int32) : Int32 := if j_truthL N way 12 node = 1 then 1 else 0
def j_followL (N : Mm) (known way : Int32) : Nat → Int32 → Int32
  | 0, node => node
  | n + 1, node => if (known >>> (j_get N node 0 &&& 31)) &&& 1 = 0 then node else j_followL N known way n (j_get N node (if (way >>> (j_get N node 0 &&& 31)) &&& 1 = 0 then 1 else 2))
def j_followed (N : Mm) (node known way : Int32) : Int32 := j_followL N known way 12 node
def j_refer (N : Mm) (node d : Int32) : Mm := j_set N node 4 (j_get N node 4 + d)
def j_chainFor (v low high : Int32) : Int32 := v * 64 + ((((low * (-1640531535) + high * (-2048144789)).toUInt32 >>> ((20 : Int32).toUInt32 &&& Int32.toUInt32 31)).toInt32) &&& 63)
def j_findL (N : Mm) (low high : Int32) : Nat → Int32 → Int32
  | 0, _ => 0
  | n + 1, node => if node = 0 then 0 else if j_get N node 1 = low then (if j_get N node 2 = high then node else j_findL N low high n (j_get N node 3)) else j_findL N low high n (j_get N node 3)
def j_freshRow (N : Mm) : Mm × Int32 :=
  if N 0 2 = 0 then (if N 0 1 < N 0 0 then (up (j_set (up N 0 1 (N 0 1 + 1)) (N 0 1) 4 0) 0 3 (N 0 3 + 1), N 0 1) else (N, 0))
  else (up (j_set (up N 0 2 (j_get N (N 0 2) 3)) (N 0 2) 4 0) 0 3 (N 0 3 + 1), N 0 2)
def j_giveBack (N : Mm) (row : Int32) : Mm := up (up (j_set N row 3 (N 0 2)) 0 2 row) 0 3 (N 0 3 - 1)
def j_link (N : Mm) (node v low high : Int32) : Mm :=
  if v < 0 then N else if nI 12 ≤ v then N else if j_chainFor v low high < 0 then N else if nI 768 ≤ j_chainFor v low high then N else
  up (up (j_set (j_set (j_set (j_set N node 0 v) node 1 low) node 2 high) node 3 (N 2 (j_chainFor v low high).toNatClampNeg)) 2 (j_chainFor v low high).toNatClampNeg node) 3 v.toNatClampNeg (N 3 v.toNatClampNeg + 1)
def j_fresh2 (N : Mm) (v low high : Int32) : Mm × Int32 :=
  if (j_freshRow N).2 = 0 then ((j_freshRow N).1, 0) else (j_link (j_refer (j_refer (j_freshRow N).1 low 1) high 1) (j_freshRow N).2 v low high, (j_freshRow N).2)
def j_make (N : Mm) (v low high : Int32) : Mm × Int32 :=
  if low = high then (N, low) else if j_chainFor v low high < 0 then (N, 0) else if nI 768 ≤ j_chainFor v low high then (N, 0) else
  if j_findL N low high 24800 (N 2 (j_chainFor v low high).toNatClampNeg) = 0 then j_fresh2 N v low high else (N, j_findL N low high 24800 (N 2 (j_chainFor v low high).toNatClampNeg))
def j_unlinkL (N : Mm) (node : Int32) : Nat → Int32 → Mm
  | 0, _ => N
  | n + 1, at1 => if at1 = 0 then N else if j_get N at1 3 = node then j_set N at1 3 (j_get N node 3) else j_unlinkL N node n (j_get N at1 3)
def j_unlink2 (N : Mm) (node c : Int32) : Mm := if N 2 c.toNatClampNeg = node then up N 2 c.toNatClampNeg (j_get N node 3) else j_unlinkL N node 24800 (N 2 c.toNatClampNeg)
def j_unlink (N : Mm) (node : Int32) : Mm :=
  if j_get N node 0 < 0 then N else if nI 12 ≤ j_get N node 0 then N else if j_chainFor (j_get N node 0) (j_get N node 1) (j_get N node 2) < 0 then N else if nI 768 ≤ j_chainFor (j_get N node 0) (j_get N node 1) (j_get N node 2) then N else
  j_unlink2 (up N 3 (j_get N node 0).toNatClampNeg (N 3 (j_get N node 0).toNatClampNeg - 1)) node (j_chainFor (j_get N node 0) (j_get N node 1) (j_get N node 2))
def j_dropHeld (N : Mm) (v : Int32) : Mm := if v < 0 then N else if nI 12 ≤ v then N else up N 3 v.toNatClampNeg (N 3 v.toNatClampNeg - 1)
def j_dropKids (N : Mm) (node : Int32) : Mm := j_refer (j_refer N (j_get N node 1) (-1)) (j_get (j_refer N (j_get N node 1) (-1)) node 2) (-1)
def j_drop (N : Mm) (node : Int32) : Mm := j_giveBack (j_dropKids (j_dropHeld N (j_get N node 0)) node) node
def j_neededL : Nat → Mm → Int32 → Int32 → Mm × Int32
  | 0, N, kept, _ => (N, kept)
  | n + 1, N, kept, node => if node = 0 then (N, kept) else if 0 < j_get N node 4 then j_neededL n (j_set N node 3 kept) node (j_get N node 3) else j_neededL n (j_drop N node) kept (j_get N node 3)
def j_needed (N : Mm) (chain : Int32) : Mm × Int32 := j_neededL 24800 N 0 chain
/-- the chains from head on, n of them -/
def j_collectH : Nat → Mm → Int32 → Mm
  | 0, N, _ => N
  | n + 1, N, head => j_collectH n (if head < 0 then N else if nI 768 ≤ head then N else up (j_needed N (N 2 head.toNatClampNeg)).1 2 head.toNatClampNeg (j_needed N (N 2 head.toNatClampNeg)).2) (head + 1)
/-- the levels from k on, n of them -/
def j_collectL : Nat → Mm → Int32 → Mm
  | 0, N, _ => N
  | n + 1, N, k => j_collectL n (j_collectH 64 N (j_variableAt N k * 64)) (k + 1)
def j_collect (N : Mm) : Mm := j_collectL 12 N 0
def j_widen (N : Mm) (wanted : Int32) : Mm :=
  if j_min (wanted + 2) 24800 ≤ N 0 0 then N else up N 0 0 (j_min (j_max (j_min (wanted + 2) 24800) (2 * N 0 0)) 24800)
def j_makeRoom (N : Mm) (need : Int32) : Mm :=
  if N 0 3 ≤ N 0 4 then j_widen N (N 0 3 + need) else
  j_widen (up (j_collect N) 0 4 (j_min (j_max (2 * j_collect N 0 3) 1024) 21475)) (j_collect N 0 3 + need)
def j_detachC (lower : Int32) (upper : Nat) : Nat → Mm → Int32 → Int32 → Int32 → Mm × Int32 × Int32
  | 0, N, taken, kept, _ => (N, taken, kept)
  | n + 1, N, taken, kept, node => if node = 0 then (N, taken, kept) else
    if j_get N (j_get N node 1) 0 = lower ∨ j_get N (j_get N node 2) 0 = lower then j_detachC lower upper n (up (j_set N node 3 taken) 3 upper (N 3 upper - 1)) node kept (j_get N node 3)
    else j_detachC lower upper n (j_set N node 3 kept) taken node (j_get N node 3)
def j_detachH (lower upper : Int32) : Nat → Mm → Int32 → Int32 → Mm × Int32
  | 0, N, taken, _ => (N, taken)
  | n + 1, N, taken, head => if head < 0 then (N, taken) else if nI 768 ≤ head then (N, taken) else if upper < 0 then (N, taken) else if nI 12 ≤ upper then (N, taken) else
    j_detachH lower upper n (up (j_detachC lower upper.toNatClampNeg 24800 N taken 0 (N 2 head.toNatClampNeg)).1 2 head.toNatClampNeg (j_detachC lower upper.toNatClampNeg 24800 N taken 0 (N 2 head.toNatClampNeg)).2.2) (j_detachC lower upper.toNatClampNeg 24800 N taken 0 (N 2 head.toNatClampNeg)).2.1 (head + 1)
def j_detach (N : Mm) (upper lower : Int32) : Mm × Int32 := j_detachH lower upper 64 N 0 (upper * 64)
def j_release (N : Mm) (node : Int32) : Mm :=
  if node ≤ 1 then j_refer N node (-1) else if 0 < j_get (j_refer N node (-1)) node 4 then j_refer N node (-1) else
  j_giveBack (j_dropKids (j_unlink (j_refer N node (-1)) node) node) node
def j_rewrite2 (N : Mm) (node lower low high oldLow oldHigh : Int32) : Mm :=
  j_release (j_release (j_link (j_refer (j_refer N low 1) high 1) node lower low high) oldLow) oldHigh
def j_rewrite1 (M1 M2 : Mm × Int32) (node lower oldLow oldHigh : Int32) : Mm := j_rewrite2 M2.1 node lower M1.2 M2.2 oldLow oldHigh
def j_rewriteA (N : Mm) (node upper lower : Int32) : Mm × Int32 := j_make N upper (j_lowFor N (j_get N node 1) lower) (j_lowFor N (j_get N node 2) lower)
def j_rewriteB (N M : Mm) (node upper lower : Int32) : Mm × Int32 := j_make M upper (j_highFor M (j_get N node 1) lower) (j_highFor M (j_get N node 2) lower)
def j_rewrite (N : Mm) (node upper lower : Int32) : Mm :=
  up (j_rewrite1 (j_rewriteA N node upper lower) (j_rewriteB N (j_rewriteA N node upper lower).1 node upper lower) node lower (j_get N node 1) (j_get N node 2)) 0 5
    (j_rewrite1 (j_rewriteA N node upper lower) (j_rewriteB N (j_rewriteA N node upper lower).1 node upper lower) node lower (j_get N node 1) (j_get N node 2) 0 5 + 1)
def j_swapL (upper lower : Int32) : Nat → Mm → Int32 → Mm
  | 0, N, _ => N
  | n + 1, N, node => if node = 0 then N else j_swapL upper lower n (j_rewrite N node upper lower) (j_get N node 3)
def j_swap3 (N : Mm) (upper lower : Int32) : Mm := j_swapL upper lower 24800 (j_detach N upper lower).1 (j_detach N upper lower).2
def j_swap2 (N : Mm) (upper lower : Int32) : Mm := if j_heldFor N upper = 0 then N else if j_heldFor N lower = 0 then N else j_swap3 (j_widen N (N 0 3 + 2 * j_heldFor N upper)) upper lower
def j_swap1 (N : Mm) (k upper lower : Int32) : Mm := up (up (up (up N 5 k.toNatClampNeg lower) 5 (k + 1).toNatClampNeg upper) 4 lower.toNatClampNeg k) 4 upper.toNatClampNeg (k + 1)
def j_swap (N : Mm) (k : Int32) : Mm :=
  if k < 0 then N else if 12 ≤ k + 1 then N else if nI 13 ≤ k + 1 then N else
  if N 5 k.toNatClampNeg < 0 then N else if nI 13 ≤ N 5 k.toNatClampNeg then N else if N 5 (k + 1).toNatClampNeg < 0 then N else if nI 13 ≤ N 5 (k + 1).toNatClampNeg then N else
  j_swap2 (j_swap1 N k (N 5 k.toNatClampNeg) (N 5 (k + 1).toNatClampNeg)) (N 5 k.toNatClampNeg) (N 5 (k + 1).toNatClampNeg)
end
section
/-! MEMORY: N holds the numbers A. A 0 .. A 4: what a node asks, low, high, next, references; A 5: heads; A 6: held; A 7: levels; A 8: variables; A 9: room, used, free, size, limit. -/
abbrev Am : Type := Nat → Nat → Nat
def am (A : Am) (k j x : Nat) : Am := fu A k (fu (A k) j x)
theorem am_s (A : Am) (k j x : Nat) : am A k j x k = fu (A k) j x := fu_s _ _ _
theorem am_n {A : Am} {k j x k' : Nat} (h : k' ≠ k) : am A k j x k' = A k' := fu_n h
theorem up_s (N : Mm) (k j : Nat) (x : Int32) : up N k j x k = upd (N k) j x := fu_s _ _ _
theorem up_n {N : Mm} {k j : Nat} {x : Int32} {k' : Nat} (h : k' ≠ k) : up N k j x k' = N k' := fu_n h
theorem upd_s (f : Nat → Int32) (k : Nat) (x : Int32) : upd f k x k = x := if_pos rfl
theorem upd_n {f : Nat → Int32} {k j : Nat} {x : Int32} (h : j ≠ k) : upd f k x j = f j := if_neg h
def mr (N : Mm) (A : Am) : Prop :=
  (∀ j, j < 5 → N 0 j = nI (A 9 j)) ∧
  (∀ f, f < 5 → ∀ i, i < A 9 0 → (f = 4 → 2 ≤ i) → N 1 (5 * i + f) = nI (A f i)) ∧
  (∀ c, c < 768 → N 2 c = nI (A 5 c)) ∧ (∀ v, v < 12 → N 3 v = nI (A 6 v)) ∧ (∀ v, v < 13 → N 4 v = nI (A 7 v)) ∧ (∀ k, k < 13 → N 5 k = nI (A 8 k)) ∧
  1024 ≤ A 9 0 ∧ A 9 0 ≤ 24800
theorem mr_len {N : Mm} {A : Am} (h : mr N A) : jlen N = 5 * A 9 0 := by
  unfold jlen
  rw [h.1 0 (by omega), nI_clamp (by have := h.2.2.2.2.2.2.2; omega)]
theorem mr_at {i f : Nat} : nI i * 5 + nI f = nI (5 * i + f) := by
  rw [show (5 : Int32) = nI 5 from rfl, pk_mul, nI_add, Nat.mul_comm]
theorem mr_get0 {N : Mm} {A : Am} (h : mr N A) {i f : Nat} (hi : i < A 9 0) (hf : f < 5) : j_get N (nI i) (nI f) = N 1 (5 * i + f) := by
  have hR := h.2.2.2.2.2.2.2
  unfold j_get
  rw [mr_at, if_neg (nI_pos (by omega)), mr_len h, if_neg (nI_ge (by omega) (by omega)), nI_clamp (by omega)]
theorem mr_get {N : Mm} {A : Am} (h : mr N A) {i f : Nat} (hi : i < A 9 0) (hf : f < 5) (h2 : f = 4 → 2 ≤ i) : j_get N (nI i) (nI f) = nI (A f i) := by
  rw [mr_get0 h hi hf, h.2.1 f hf i hi h2]
theorem mr_set0 {N : Mm} {A : Am} (h : mr N A) {i f : Nat} (hi : i < A 9 0) (hf : f < 5) (x : Int32) : j_set N (nI i) (nI f) x = up N 1 (5 * i + f) x := by
  have hR := h.2.2.2.2.2.2.2
  unfold j_set
  rw [mr_at, if_neg (nI_pos (by omega)), mr_len h, if_neg (nI_ge (by omega) (by omega)), nI_clamp (by omega)]
theorem mr_set {N : Mm} {A : Am} (h : mr N A) {i f : Nat} (hi : i < A 9 0) (hf : f < 5) (x : Nat) : mr (j_set N (nI i) (nI f) (nI x)) (am A f i x) := by
  rw [mr_set0 h hi hf]
  have e9 : am A f i x 9 = A 9 := am_n (by omega)
  refine ⟨fun j hj => ?_, fun g hg k hk h2 => ?_, fun c hc => ?_, fun v hv => ?_, fun v hv => ?_, fun k hk => ?_, ?_, ?_⟩
  · rw [up_n (by omega), e9]; exact h.1 j hj
  · rw [e9] at hk
    rw [up_s]
    by_cases e : 5 * k + g = 5 * i + f
    · have e1 : k = i := by omega
      have e2 : g = f := by omega
      subst e1; subst e2
      rw [upd_s, am_s, fu_s]
    · rw [upd_n e, h.2.1 g hg k hk h2]
      by_cases e2 : g = f
      · subst e2
        rw [am_s, fu_n (fun q => e (by rw [q]))]
      · rw [am_n e2]
  · rw [up_n (by omega), am_n (by omega)]; exact h.2.2.1 c hc
  · rw [up_n (by omega), am_n (by omega)]; exact h.2.2.2.1 v hv
  · rw [up_n (by omega), am_n (by omega)]; exact h.2.2.2.2.1 v hv
  · rw [up_n (by omega), am_n (by omega)]; exact h.2.2.2.2.2.1 k hk
  · rw [e9]; exact h.2.2.2.2.2.2.1
  · rw [e9]; exact h.2.2.2.2.2.2.2
/-- the references of the ends are not kept -/
theorem mr_setE {N : Mm} {A : Am} (h : mr N A) {i : Nat} (hi : i ≤ 1) (x : Int32) : mr (j_set N (nI i) 4 x) A := by
  have hR := h.2.2.2.2.2.2.1
  rw [show (4 : Int32) = nI 4 from rfl, mr_set0 h (by omega) (by omega)]
  refine ⟨fun j hj => ?_, fun g hg k hk h2 => ?_, fun c hc => ?_, fun v hv => ?_, fun v hv => ?_, fun k hk => ?_, h.2.2.2.2.2.2.1, h.2.2.2.2.2.2.2⟩
  · rw [up_n (by omega)]; exact h.1 j hj
  · rw [up_s, upd_n (by omega)]; exact h.2.1 g hg k hk h2
  · rw [up_n (by omega)]; exact h.2.2.1 c hc
  · rw [up_n (by omega)]; exact h.2.2.2.1 v hv
  · rw [up_n (by omega)]; exact h.2.2.2.2.1 v hv
  · rw [up_n (by omega)]; exact h.2.2.2.2.2.1 k hk
/-- a field of the object, but not its room -/
theorem mr_fld {N : Mm} {A : Am} (h : mr N A) {j : Nat} (hj : j < 5) (h0 : j ≠ 0) (x : Nat) : mr (up N 0 j (nI x)) (am A 9 j x) := by
  have e0 : am A 9 j x 9 0 = A 9 0 := by rw [am_s, fu_n (fun q => h0 q.symm)]
  refine ⟨fun k hk => ?_, fun g hg k hk h2 => ?_, fun c hc => ?_, fun v hv => ?_, fun v hv => ?_, fun k hk => ?_, ?_, ?_⟩
  · rw [up_s, am_s]
    by_cases e : k = j
    · subst e; rw [upd_s, fu_s]
    · rw [upd_n e, fu_n e]; exact h.1 k hk
  · rw [e0] at hk
    rw [up_n (by omega), am_n (by omega)]; exact h.2.1 g hg k hk h2
  · rw [up_n (by omega), am_n (by omega)]; exact h.2.2.1 c hc
  · rw [up_n (by omega), am_n (by omega)]; exact h.2.2.2.1 v hv
  · rw [up_n (by omega), am_n (by omega)]; exact h.2.2.2.2.1 v hv
  · rw [up_n (by omega), am_n (by omega)]; exact h.2.2.2.2.2.1 k hk
  · rw [e0]; exact h.2.2.2.2.2.2.1
  · rw [e0]; exact h.2.2.2.2.2.2.2
/-- the number of nodes written anew is nobody's -/
theorem mr_rew {N : Mm} {A : Am} (h : mr N A) (x : Int32) : mr (up N 0 5 x) A := by
  refine ⟨fun k hk => ?_, fun g hg k hk h2 => ?_, fun c hc => ?_, fun v hv => ?_, fun v hv => ?_, fun k hk => ?_, h.2.2.2.2.2.2.1, h.2.2.2.2.2.2.2⟩
  · rw [up_s, upd_n (by omega)]; exact h.1 k hk
  · rw [up_n (by omega)]; exact h.2.1 g hg k hk h2
  · rw [up_n (by omega)]; exact h.2.2.1 c hc
  · rw [up_n (by omega)]; exact h.2.2.2.1 v hv
  · rw [up_n (by omega)]; exact h.2.2.2.2.1 v hv
  · rw [up_n (by omega)]; exact h.2.2.2.2.2.1 k hk
theorem mr_head {N : Mm} {A : Am} (h : mr N A) {j : Nat} (x : Nat) : mr (up N 2 j (nI x)) (am A 5 j x) := by
  have e9 : am A 5 j x 9 = A 9 := am_n (by omega)
  refine ⟨fun k hk => ?_, fun g hg k hk h2 => ?_, fun c hc => ?_, fun v hv => ?_, fun v hv => ?_, fun k hk => ?_, ?_, ?_⟩
  · rw [up_n (by omega), e9]; exact h.1 k hk
  · rw [e9] at hk
    rw [up_n (by omega), am_n (by omega)]; exact h.2.1 g hg k hk h2
  · rw [up_s, am_s]
    by_cases e : c = j
    · subst e; rw [upd_s, fu_s]
    · rw [upd_n e, fu_n e]; exact h.2.2.1 c hc
  · rw [up_n (by omega), am_n (by omega)]; exact h.2.2.2.1 v hv
  · rw [up_n (by omega), am_n (by omega)]; exact h.2.2.2.2.1 v hv
  · rw [up_n (by omega), am_n (by omega)]; exact h.2.2.2.2.2.1 k hk
  · rw [e9]; exact h.2.2.2.2.2.2.1
  · rw [e9]; exact h.2.2.2.2.2.2.2
theorem mr_held {N : Mm} {A : Am} (h : mr N A) {j : Nat} (x : Nat) : mr (up N 3 j (nI x)) (am A 6 j x) := by
  have e9 : am A 6 j x 9 = A 9 := am_n (by omega)
  refine ⟨fun k hk => ?_, fun g hg k hk h2 => ?_, fun c hc => ?_, fun v hv => ?_, fun v hv => ?_, fun k hk => ?_, ?_, ?_⟩
  · rw [up_n (by omega), e9]; exact h.1 k hk
  · rw [e9] at hk
    rw [up_n (by omega), am_n (by omega)]; exact h.2.1 g hg k hk h2
  · rw [up_n (by omega), am_n (by omega)]; exact h.2.2.1 c hc
  · rw [up_s, am_s]
    by_cases e : v = j
    · subst e; rw [upd_s, fu_s]
    · rw [upd_n e, fu_n e]; exact h.2.2.2.1 v hv
  · rw [up_n (by omega), am_n (by omega)]; exact h.2.2.2.2.1 v hv
  · rw [up_n (by omega), am_n (by omega)]; exact h.2.2.2.2.2.1 k hk
  · rw [e9]; exact h.2.2.2.2.2.2.1
  · rw [e9]; exact h.2.2.2.2.2.2.2
theorem mr_levs {N : Mm} {A : Am} (h : mr N A) {j : Nat} (x : Nat) : mr (up N 4 j (nI x)) (am A 7 j x) := by
  have e9 : am A 7 j x 9 = A 9 := am_n (by omega)
  refine ⟨fun k hk => ?_, fun g hg k hk h2 => ?_, fun c hc => ?_, fun v hv => ?_, fun v hv => ?_, fun k hk => ?_, ?_, ?_⟩
  · rw [up_n (by omega), e9]; exact h.1 k hk
  · rw [e9] at hk
    rw [up_n (by omega), am_n (by omega)]; exact h.2.1 g hg k hk h2
  · rw [up_n (by omega), am_n (by omega)]; exact h.2.2.1 c hc
  · rw [up_n (by omega), am_n (by omega)]; exact h.2.2.2.1 v hv
  · rw [up_s, am_s]
    by_cases e : v = j
    · subst e; rw [upd_s, fu_s]
    · rw [upd_n e, fu_n e]; exact h.2.2.2.2.1 v hv
  · rw [up_n (by omega), am_n (by omega)]; exact h.2.2.2.2.2.1 k hk
  · rw [e9]; exact h.2.2.2.2.2.2.1
  · rw [e9]; exact h.2.2.2.2.2.2.2
theorem mr_vars {N : Mm} {A : Am} (h : mr N A) {j : Nat} (x : Nat) : mr (up N 5 j (nI x)) (am A 8 j x) := by
  have e9 : am A 8 j x 9 = A 9 := am_n (by omega)
  refine ⟨fun k hk => ?_, fun g hg k hk h2 => ?_, fun c hc => ?_, fun v hv => ?_, fun v hv => ?_, fun k hk => ?_, ?_, ?_⟩
  · rw [up_n (by omega), e9]; exact h.1 k hk
  · rw [e9] at hk
    rw [up_n (by omega), am_n (by omega)]; exact h.2.1 g hg k hk h2
  · rw [up_n (by omega), am_n (by omega)]; exact h.2.2.1 c hc
  · rw [up_n (by omega), am_n (by omega)]; exact h.2.2.2.1 v hv
  · rw [up_n (by omega), am_n (by omega)]; exact h.2.2.2.2.1 v hv
  · rw [up_s, am_s]
    by_cases e : k = j
    · subst e; rw [upd_s, fu_s]
    · rw [upd_n e, fu_n e]; exact h.2.2.2.2.2.1 k hk
  · rw [e9]; exact h.2.2.2.2.2.2.1
  · rw [e9]; exact h.2.2.2.2.2.2.2
theorem mr_lev {N : Mm} {A : Am} (h : mr N A) {v : Nat} (hv : v < 13) : j_levelOf N (nI v) = nI (A 7 v) := by
  unfold j_levelOf
  rw [if_neg (nI_pos (by omega)), if_neg (nI_ge (by omega) (by omega)), nI_clamp (by omega)]
  exact h.2.2.2.2.1 v hv
theorem mr_var {N : Mm} {A : Am} (h : mr N A) {v : Nat} (hv : v < 13) : j_variableAt N (nI v) = nI (A 8 v) := by
  unfold j_variableAt
  rw [if_neg (nI_pos (by omega)), if_neg (nI_ge (by omega) (by omega)), nI_clamp (by omega)]
  exact h.2.2.2.2.2.1 v hv
theorem mr_hef {N : Mm} {A : Am} (h : mr N A) {v : Nat} (hv : v < 12) : j_heldFor N (nI v) = nI (A 6 v) := by
  unfold j_heldFor
  rw [if_neg (nI_pos (by omega)), if_neg (nI_ge (by omega) (by omega)), nI_clamp (by omega)]
  exact h.2.2.2.1 v hv
end
section
/-! THE TABLE: what holds of the numbers A between two pieces of work. V: the nodes; T: those that wait (none but within a swap); ch: the chains; fl: the free rows; ext: who refers to a node from outside. -/
def hs (l h : Nat) : Nat := ((((nI l * (-1640531535) + nI h * (-2048144789)).toUInt32 >>> ((20 : Int32).toUInt32 &&& Int32.toUInt32 31)).toInt32) &&& 63).toNatClampNeg
def hc (v l h : Nat) : Nat := v * 64 + hs l h
theorem hs_e (l h : Nat) : hs l h < 64 ∧ ((((nI l * (-1640531535) + nI h * (-2048144789)).toUInt32 >>> ((20 : Int32).toUInt32 &&& Int32.toUInt32 31)).toInt32) &&& 63) = nI (hs l h) := by
  obtain ⟨j, hj, e⟩ := pk_andE ((((nI l * (-1640531535) + nI h * (-2048144789)).toUInt32 >>> ((20 : Int32).toUInt32 &&& Int32.toUInt32 31)).toInt32)) (m := 63) 6 (by decide)
  unfold hs
  rw [e, nI_clamp (by omega)]
  exact ⟨by omega, rfl⟩
theorem j_chain (v l h : Nat) : j_chainFor (nI v) (nI l) (nI h) = nI (hc v l h) := by
  unfold j_chainFor hc
  rw [(hs_e l h).2, show (64 : Int32) = nI 64 from rfl, pk_mul, nI_add]
theorem hc_lt {v l h : Nat} (hv : v < 12) : hc v l h < 768 := by
  have := (hs_e l h).1
  unfold hc; omega
theorem findL_spec {N : Mm} {A : Am} (hm : mr N A) {low high : Nat} (hlo : low < 2 ^ 31) (hhi : high < 2 ^ 31) : ∀ (n : Nat) (l : List Nat) (a : Nat), pl_lst (A 3) a l → l.length ≤ n → (∀ x ∈ l, x < A 9 0 ∧ A 1 x < 2 ^ 31 ∧ A 2 x < 2 ^ 31) →
    (j_findL N (nI low) (nI high) n (nI a) = 0 ∧ ∀ x ∈ l, ¬ (A 1 x = low ∧ A 2 x = high)) ∨ ∃ x, x ∈ l ∧ A 1 x = low ∧ A 2 x = high ∧ j_findL N (nI low) (nI high) n (nI a) = nI x := by
  have hR := hm.2.2.2.2.2.2.2
  intro n
  induction n with
  | zero =>
    intro l a hl hn hb
    cases l with
    | nil => exact Or.inl ⟨rfl, fun x hx => by cases hx⟩
    | cons x l => simp at hn
  | succ n ih =>
    intro l a hl hn hb
    cases l with
    | nil =>
      have ha : a = 0 := hl
      subst ha
      exact Or.inl ⟨by unfold j_findL; rw [nI_0, if_pos rfl], fun x hx => by cases hx⟩
    | cons x l =>
      obtain ⟨e, hx0, hl'⟩ := hl
      subst e
      obtain ⟨b1, b2, b3⟩ := hb a List.mem_cons_self
      have ih' := ih l (A 3 a) hl' (by simp at hn; omega) (fun y hy => hb y (List.mem_cons_of_mem _ hy))
      have g1 : j_get N (nI a) 1 = nI (A 1 a) := mr_get hm (f := 1) b1 (by omega) (by omega)
      have g2 : j_get N (nI a) 2 = nI (A 2 a) := mr_get hm (f := 2) b1 (by omega) (by omega)
      have g3 : j_get N (nI a) 3 = nI (A 3 a) := mr_get hm (f := 3) b1 (by omega) (by omega)
      have hstep : j_findL N (nI low) (nI high) (n + 1) (nI a) = if A 1 a = low ∧ A 2 a = high then nI a else j_findL N (nI low) (nI high) n (nI (A 3 a)) := by
        show (if nI a = 0 then 0 else if j_get N (nI a) 1 = nI low then (if j_get N (nI a) 2 = nI high then nI a else j_findL N (nI low) (nI high) n (j_get N (nI a) 3)) else j_findL N (nI low) (nI high) n (j_get N (nI a) 3)) = _
        rw [if_neg (nI_ne0 (by omega) (by omega)), g1, g2, g3]
        by_cases c1 : A 1 a = low
        · rw [if_pos ((nI_eq b2 hlo).mpr c1)]
          by_cases c2 : A 2 a = high
          · rw [if_pos ((nI_eq b3 hhi).mpr c2), if_pos ⟨c1, c2⟩]
          · rw [if_neg (fun q => c2 ((nI_eq b3 hhi).mp q)), if_neg (fun q => c2 q.2)]
        · rw [if_neg (fun q => c1 ((nI_eq b2 hlo).mp q)), if_neg (fun q => c1 q.1)]
      by_cases c : A 1 a = low ∧ A 2 a = high
      · exact Or.inr ⟨a, List.mem_cons_self, c.1, c.2, by rw [hstep, if_pos c]⟩
      · rcases ih' with ⟨e1, e2⟩ | ⟨y, y1, y2, y3, y4⟩
        · refine Or.inl ⟨by rw [hstep, if_neg c, e1], fun y hy => ?_⟩
          rcases List.mem_cons.mp hy with q | q
          · rw [q]; exact c
          · exact e2 y q
        · exact Or.inr ⟨y, List.mem_cons_of_mem _ y1, y2, y3, by rw [hstep, if_neg c, y4]⟩
def chs (A : Am) (V T : Nat → Bool) (ch : Nat → List Nat) : Prop := ∀ c, c < 768 → pl_lst (A 3) (A 5 c) (ch c) ∧ (ch c).Nodup ∧ ∀ i, i ∈ ch c ↔ (V i = true ∧ T i = false ∧ hc (A 0 i) (A 1 i) (A 2 i) = c)
def frs (A : Am) (V : Nat → Bool) (fl : List Nat) : Prop := pl_lst (A 3) (A 9 2) fl ∧ fl.Nodup ∧ ∀ i, i ∈ fl ↔ (2 ≤ i ∧ i < A 9 1 ∧ V i = false)
def oc (A : Am) (V : Nat → Bool) (i : Nat) : Nat := pc_cnt (fun j => V j && A 1 j == i) 24800 + pc_cnt (fun j => V j && A 2 j == i) 24800
def ti (A : Am) (V T : Nat → Bool) (L : Nat) (dn : Nat → Bf) (ch : Nat → List Nat) (fl : List Nat) (ext : Nat → Nat) : Prop :=
  lp (A 7) (A 8) ∧ gi (A 7) V T L (A 0) (A 1) (A 2) dn ∧ chs A V T ch ∧ frs A V fl ∧
  (∀ i, V i = true → i < A 9 1) ∧ (2 ≤ A 9 1 ∧ A 9 1 ≤ A 9 0 ∧ A 9 0 ≤ 24800) ∧ A 9 3 = pc_cnt V 24800 ∧
  (∀ i, V i = true → A 4 i = oc A V i + ext i) ∧
  (∀ v, v < 12 → A 6 v = pc_cnt (fun j => V j && (!T j && A 0 j == v)) 24800) ∧
  (∀ i, 2 ≤ i → V i = false → ext i = 0)
theorem ti_lt {A : Am} {V T : Nat → Bool} {L : Nat} {dn : Nat → Bf} {ch : Nat → List Nat} {fl : List Nat} {ext : Nat → Nat} (h : ti A V T L dn ch fl ext) {i : Nat} (hv : vl V i) : i < A 9 1 ∧ i < A 9 0 := by
  obtain ⟨-, -, -, -, h5, h6, -⟩ := h
  rcases hv with q | q
  · omega
  · have := h5 i q; omega
/-- if there is room, there is a row -/
theorem ti_row {A : Am} {V T : Nat → Bool} {L : Nat} {dn : Nat → Bf} {ch : Nat → List Nat} {fl : List Nat} {ext : Nat → Nat} (h : ti A V T L dn ch fl ext) (hr : A 9 3 + 2 < A 9 0) (hf : fl = []) : A 9 1 < A 9 0 := by
  obtain ⟨-, -, -, ⟨-, -, hfl⟩, h5, h6, h7, -⟩ := h
  have hall : ∀ x ∈ List.range' 2 (A 9 1 - 2), x < 24800 ∧ V x = true := fun x hx => by
    rw [List.mem_range'_1] at hx
    refine ⟨by omega, ?_⟩
    cases e : V x
    · have := (hfl x).mpr ⟨by omega, by omega, e⟩
      rw [hf] at this
      cases this
    · rfl
  have := pc_list (List.nodup_range' (s := 2) (n := A 9 1 - 2)) hall
  rw [List.length_range'] at this
  omega
end
section
/-! ROWS: a fresh row, references, a node put into its chain, as they change the numbers A. -/
section
variable {N : Mm} {A : Am} {V T : Nat → Bool} {L : Nat} {dn : Nat → Bf} {ch : Nat → List Nat} {fl : List Nat} {ext : Nat → Nat}
theorem fresh_spec (hm : mr N A) (h : ti A V T L dn ch fl ext) (hr : A 9 3 + 2 < A 9 0) : ∃ (k : Nat) (A1 : Am) (fl1 : List Nat), (j_freshRow N).2 = nI k ∧ mr (j_freshRow N).1 A1 ∧ 2 ≤ k ∧ k < A 9 0 ∧ V k = false ∧ (∀ f, f ≠ 9 → f ≠ 4 → A1 f = A f) ∧ A1 4 = fu (A 4) k 0 ∧ A1 9 0 = A 9 0 ∧ A1 9 4 = A 9 4 ∧ A1 9 3 = A 9 3 + 1 ∧ k < A1 9 1 ∧ A 9 1 ≤ A1 9 1 ∧ A1 9 1 ≤ A 9 0 ∧ pl_lst (A 3) (A1 9 2) fl1 ∧ fl1.Nodup ∧ (∀ i, i ∈ fl1 ↔ (2 ≤ i ∧ i < A1 9 1 ∧ fu V k true i = false)) := by
  have hR := hm.2.2.2.2.2.2.2
  obtain ⟨-, hgi, -, ⟨f1, f2, f3⟩, h5, h6, h7, -⟩ := id h
  have n1 : N 0 1 = nI (A 9 1) := hm.1 1 (by omega)
  have n2 : N 0 2 = nI (A 9 2) := hm.1 2 (by omega)
  have n3 : N 0 3 = nI (A 9 3) := hm.1 3 (by omega)
  have n0 : N 0 0 = nI (A 9 0) := hm.1 0 (by omega)
  cases fl with
  | nil =>
    have ef : A 9 2 = 0 := f1
    have hU := ti_row h hr rfl
    have hVU : V (A 9 1) = false := by
      cases e : V (A 9 1)
      · rfl
      · have := h5 _ e; omega
    have ej : j_freshRow N = (up (j_set (up N 0 1 (nI (A 9 1 + 1))) (nI (A 9 1)) (nI 4) (nI 0)) 0 3 (nI (A 9 3 + 1)), nI (A 9 1)) := by
      unfold j_freshRow
      rw [n2, ef, nI_0, if_pos rfl, n0, n1, if_pos (nI_lt hU (by omega)), n3, nI_1, nI_1]
      rfl
    have m1 := mr_fld hm (j := 1) (by omega) (by omega) (A 9 1 + 1)
    have m2 := mr_set m1 (i := A 9 1) (f := 4) (by rw [am_s, fu_n (by omega)]; exact hU) (by omega) 0
    have m3 := mr_fld m2 (j := 3) (by omega) (by omega) (A 9 3 + 1)
    refine ⟨A 9 1, am (am (am A 9 1 (A 9 1 + 1)) 4 (A 9 1) 0) 9 3 (A 9 3 + 1), [], by rw [ej], by rw [ej]; exact m3, h6.1, hU, hVU, fun f q1 q2 => ?_, ?_, ?_, ?_, ?_, ?_, ?_, ?_, ?_, List.nodup_nil, fun i => ⟨fun q => (by cases q), fun q => ?_⟩⟩
    · rw [am_n q1, am_n q2, am_n q1]
    · rw [am_n (by omega), am_s, am_n (by omega)]
    · rw [am_s, fu_n (by omega), am_n (by omega), am_s, fu_n (by omega)]
    · rw [am_s, fu_n (by omega), am_n (by omega), am_s, fu_n (by omega)]
    · rw [am_s, fu_s]
    · rw [am_s, fu_n (by omega), am_n (by omega), am_s, fu_s]; omega
    · rw [am_s, fu_n (by omega), am_n (by omega), am_s, fu_s]; omega
    · rw [am_s, fu_n (by omega), am_n (by omega), am_s, fu_s]; omega
    · rw [am_s, fu_n (by omega), am_n (by omega), am_s, fu_n (by omega)]; exact ef
    · exfalso
      obtain ⟨q1, q2, q3⟩ := q
      rw [am_s, fu_n (by omega), am_n (by omega), am_s, fu_s] at q2
      by_cases e : i = A 9 1
      · rw [e, fu_s] at q3; cases q3
      · rw [fu_n e] at q3
        have := (f3 i).mpr ⟨q1, by omega, q3⟩
        cases this
  | cons F fl' =>
    obtain ⟨ef, hF0, f1'⟩ := f1
    obtain ⟨hF2, hFU, hVF⟩ := (f3 F).mp List.mem_cons_self
    have g3 : j_get N (nI F) 3 = nI (A 3 F) := mr_get hm (f := 3) (by omega) (by omega) (by omega)
    have ej : j_freshRow N = (up (j_set (up N 0 2 (nI (A 3 F))) (nI F) (nI 4) (nI 0)) 0 3 (nI (A 9 3 + 1)), nI F) := by
      unfold j_freshRow
      rw [n2, ef, if_neg (nI_ne0 (by omega) (by omega)), g3, n3, nI_1]
      rfl
    have m1 := mr_fld hm (j := 2) (by omega) (by omega) (A 3 F)
    have m2 := mr_set m1 (i := F) (f := 4) (by rw [am_s, fu_n (by omega)]; omega) (by omega) 0
    have m3 := mr_fld m2 (j := 3) (by omega) (by omega) (A 9 3 + 1)
    rw [List.nodup_cons] at f2
    refine ⟨F, am (am (am A 9 2 (A 3 F)) 4 F 0) 9 3 (A 9 3 + 1), fl', by rw [ej], by rw [ej]; exact m3, hF2, by omega, hVF, fun f q1 q2 => ?_, ?_, ?_, ?_, ?_, ?_, ?_, ?_, ?_, f2.2, fun i => ⟨fun q => ?_, fun q => ?_⟩⟩
    · rw [am_n q1, am_n q2, am_n q1]
    · rw [am_n (by omega), am_s, am_n (by omega)]
    · rw [am_s, fu_n (by omega), am_n (by omega), am_s, fu_n (by omega)]
    · rw [am_s, fu_n (by omega), am_n (by omega), am_s, fu_n (by omega)]
    · rw [am_s, fu_s]
    · rw [am_s, fu_n (by omega), am_n (by omega), am_s, fu_n (by omega)]; omega
    · rw [am_s, fu_n (by omega), am_n (by omega), am_s, fu_n (by omega)]; omega
    · rw [am_s, fu_n (by omega), am_n (by omega), am_s, fu_n (by omega)]; omega
    · rw [am_s, fu_n (by omega), am_n (by omega), am_s, fu_s]; exact f1'
    · obtain ⟨a1, a2, a3⟩ := (f3 i).mp (List.mem_cons_of_mem _ q)
      refine ⟨a1, ?_, ?_⟩
      · rw [am_s, fu_n (by omega), am_n (by omega), am_s, fu_n (by omega)]; exact a2
      · rw [fu_n (fun e => f2.1 (by rw [← e]; exact q))]; exact a3
    · obtain ⟨q1, q2, q3⟩ := q
      rw [am_s, fu_n (by omega), am_n (by omega), am_s, fu_n (by omega)] at q2
      have e : i ≠ F := fun e => by rw [e, fu_s] at q3; cases q3
      rw [fu_n e] at q3
      rcases List.mem_cons.mp ((f3 i).mpr ⟨q1, q2, q3⟩) with z | z
      · exact absurd z e
      · exact z
theorem refer_up (hm : mr N A) {i : Nat} (hi : i < A 9 0) : ∃ A1 : Am, mr (j_refer N (nI i) 1) A1 ∧ (∀ f, f ≠ 4 → A1 f = A f) ∧ (∀ j, 2 ≤ j → A1 4 j = A 4 j + (if j = i then 1 else 0)) := by
  rcases Nat.lt_or_ge i 2 with q | q
  · refine ⟨A, mr_setE hm (by omega) _, fun _ _ => rfl, fun j hj => by rw [if_neg (by omega)]; rfl⟩
  · have g : j_get N (nI i) 4 = nI (A 4 i) := mr_get hm (f := 4) hi (by omega) (fun _ => q)
    refine ⟨am A 4 i (A 4 i + 1), ?_, fun f hf => am_n hf, fun j _ => ?_⟩
    · unfold j_refer
      rw [g, nI_1]
      exact mr_set hm (f := 4) hi (by omega) _
    · rw [am_s]
      by_cases e : j = i
      · subst e; rw [fu_s, if_pos rfl]
      · rw [fu_n e, if_neg e]; rfl
theorem refer_down (hm : mr N A) {i : Nat} (hi : i < A 9 0) (hp : 2 ≤ i → 1 ≤ A 4 i) : ∃ A1 : Am, mr (j_refer N (nI i) (-1)) A1 ∧ (∀ f, f ≠ 4 → A1 f = A f) ∧ (∀ j, 2 ≤ j → A1 4 j + (if j = i then 1 else 0) = A 4 j) := by
  rcases Nat.lt_or_ge i 2 with q | q
  · refine ⟨A, mr_setE hm (by omega) _, fun _ _ => rfl, fun j hj => by rw [if_neg (by omega)]; rfl⟩
  · have g : j_get N (nI i) 4 = nI (A 4 i) := mr_get hm (f := 4) hi (by omega) (fun _ => q)
    have p1 := hp q
    refine ⟨am A 4 i (A 4 i - 1), ?_, fun f hf => am_n hf, fun j _ => ?_⟩
    · unfold j_refer
      rw [g, sb_m1 (by omega)]
      exact mr_set hm (f := 4) hi (by omega) _
    · rw [am_s]
      by_cases e : j = i
      · subst e; rw [fu_s, if_pos rfl]; omega
      · rw [fu_n e, if_neg e]; rfl
theorem link_spec (hm : mr N A) {k v low high : Nat} (hk : k < A 9 0) (hv : v < 12) : ∃ A1 : Am, mr (j_link N (nI k) (nI v) (nI low) (nI high)) A1 ∧ A1 0 = fu (A 0) k v ∧ A1 1 = fu (A 1) k low ∧ A1 2 = fu (A 2) k high ∧ A1 3 = fu (A 3) k (A 5 (hc v low high)) ∧ A1 4 = A 4 ∧ A1 5 = fu (A 5) (hc v low high) k ∧ A1 6 = fu (A 6) v (A 6 v + 1) ∧ A1 7 = A 7 ∧ A1 8 = A 8 ∧ A1 9 = A 9 := by
  have hc1 : hc v low high < 768 := hc_lt hv
  have e1 : N 2 (hc v low high) = nI (A 5 (hc v low high)) := hm.2.2.1 _ hc1
  have e2 : N 3 v = nI (A 6 v) := hm.2.2.2.1 v hv
  have m1 := mr_set hm (i := k) (f := 0) hk (by omega) v
  have m2 := mr_set m1 (i := k) (f := 1) (by rw [am_n (by omega)]; exact hk) (by omega) low
  have m3 := mr_set m2 (i := k) (f := 2) (by rw [am_n (by omega), am_n (by omega)]; exact hk) (by omega) high
  have m4 := mr_set m3 (i := k) (f := 3) (by rw [am_n (by omega), am_n (by omega), am_n (by omega)]; exact hk) (by omega) (A 5 (hc v low high))
  have m5 := mr_head m4 (j := hc v low high) k
  have m6 := mr_held m5 (j := v) (A 6 v + 1)
  refine ⟨am (am (am (am (am (am A 0 k v) 1 k low) 2 k high) 3 k (A 5 (hc v low high))) 5 (hc v low high) k) 6 v (A 6 v + 1), ?_, rfl, rfl, rfl, rfl, rfl, rfl, rfl, rfl, rfl, rfl⟩
  unfold j_link
  rw [if_neg (nI_pos (by omega)), if_neg (nI_ge hv (by omega)), j_chain, if_neg (nI_pos (by omega)), if_neg (nI_ge hc1 (by omega)), nI_clamp (by omega : hc v low high < 2 ^ 31), nI_clamp (by omega : v < 2 ^ 31), e1, e2, nI_1]
  exact m6
end
end
section
/-! A NEW NODE in the table, and what make gives. -/
section
variable {N : Mm} {A A' : Am} {V T : Nat → Bool} {L : Nat} {dn : Nat → Bf} {ch : Nat → List Nat} {fl : List Nat} {ext : Nat → Nat}
theorem oc_new (h : gi (A 7) V T L (A 0) (A 1) (A 2) dn) {k low high : Nat} (hk : V k = false) (hk2 : k < 24800) (e1 : A' 1 = fu (A 1) k low) (e2 : A' 2 = fu (A 2) k high) (i : Nat) : oc A' (fu V k true) i = oc A V i + (if i = low then 1 else 0) + (if i = high then 1 else 0) := by
  unfold oc
  have c1 := pc_one (P := fun j => V j && A 1 j == i) (Q := fun j => fu V k true j && A' 1 j == i) (k := k) hk2 (fun j hj => by show (fu V k true j && A' 1 j == i) = (V j && A 1 j == i); rw [e1, fu_n hj, fu_n hj])
  have c2 := pc_one (P := fun j => V j && A 2 j == i) (Q := fun j => fu V k true j && A' 2 j == i) (k := k) hk2 (fun j hj => by show (fu V k true j && A' 2 j == i) = (V j && A 2 j == i); rw [e2, fu_n hj, fu_n hj])
  simp only [hk, Bool.false_and, Bool.toNat_false, e1, e2, fu_s, Bool.true_and] at c1 c2
  rw [e1, e2]
  have d1 : (low == i).toNat = if i = low then 1 else 0 := by
    by_cases q : i = low
    · subst q; simp
    · rw [if_neg q]; simp; exact fun z => q z.symm
  have d2 : (high == i).toNat = if i = high then 1 else 0 := by
    by_cases q : i = high
    · subst q; simp
    · rw [if_neg q]; simp; exact fun z => q z.symm
  rw [d1] at c1
  rw [d2] at c2
  omega
/-- nobody refers to what is not there -/
theorem oc_none (h : gi (A 7) V T L (A 0) (A 1) (A 2) dn) {k : Nat} (hk : V k = false) (hk2 : 2 ≤ k) : oc A V k = 0 := by
  unfold oc
  have key : ∀ c, vl V c → c ≠ k := fun c hc e => by
    rcases hc with q | q
    · omega
    · rw [e, hk] at q; cases q
  rw [pc_none (fun j _ => ?_), pc_none (fun j _ => ?_)]
  · cases q : V j
    · rfl
    · have := key _ (h.1 j q).2.2.2
      simpa using this
  · cases q : V j
    · rfl
    · have := key _ (h.1 j q).2.2.1
      simpa using this
theorem ti_add (h : ti A V T L dn ch fl ext) {k v low high : Nat} {fl1 : List Nat} (hv : v < 12) (hl : vl V low) (hh : vl V high) (hk : V k = false) (hk2 : 2 ≤ k)
    (hg : gi (A 7) (fu V k true) T L (fu (A 0) k v) (fu (A 1) k low) (fu (A 2) k high) (fu dn k (mk v (dn low) (dn high))))
    (e0 : A' 0 = fu (A 0) k v) (e1 : A' 1 = fu (A 1) k low) (e2 : A' 2 = fu (A 2) k high) (e3 : A' 3 = fu (A 3) k (A 5 (hc v low high))) (e5 : A' 5 = fu (A 5) (hc v low high) k) (e6 : A' 6 = fu (A 6) v (A 6 v + 1)) (e7 : A' 7 = A 7) (e8 : A' 8 = A 8)
    (e4 : ∀ j, 2 ≤ j → A' 4 j = fu (A 4) k 0 j + (if j = low then 1 else 0) + (if j = high then 1 else 0))
    (z0 : A' 9 0 = A 9 0) (z3 : A' 9 3 = A 9 3 + 1) (z1 : k < A' 9 1) (z2 : A 9 1 ≤ A' 9 1) (z4 : A' 9 1 ≤ A 9 0)
    (g1 : pl_lst (A 3) (A' 9 2) fl1) (g2 : fl1.Nodup) (g3 : ∀ i, i ∈ fl1 ↔ (2 ≤ i ∧ i < A' 9 1 ∧ fu V k true i = false)) :
    ti A' (fu V k true) T L (fu dn k (mk v (dn low) (dn high))) (fu ch (hc v low high) (k :: ch (hc v low high))) fl1 ext := by
  obtain ⟨h1, h2, h3, h4, h5, h6, h7, h8, h9, h10⟩ := h
  have hTk : T k = false := by
    cases e : T k
    · rfl
    · have := (h2.2.2.2.2.2 k e).1
      rw [hk] at this; cases this
  have hk3 : k < 24800 := by omega
  have hc1 : hc v low high < 768 := hc_lt hv
  have hkl : ∀ c, vl V c → c ≠ k := fun c hc e => by
    rcases hc with q | q
    · omega
    · rw [e, hk] at q; cases q
  refine ⟨by rw [e7, e8]; exact h1, by rw [e7, e0, e1, e2]; exact hg, fun c hcc => ?_, ⟨?_, g2, g3⟩, fun i q => ?_, ?_, ?_, fun i q => ?_, fun u hu => ?_, fun i q2 q => ?_⟩
  · obtain ⟨a1, a2, a3⟩ := h3 c hcc
    have hni : k ∉ ch c := fun q => by have := ((a3 k).mp q).1; rw [hk] at this; cases this
    have hmem : ∀ i, (fu V k true i = true ∧ T i = false ∧ hc (A' 0 i) (A' 1 i) (A' 2 i) = c) ↔ ((i = k ∧ hc v low high = c) ∨ i ∈ ch c) := fun i => by
      rw [e0, e1, e2]
      by_cases e : i = k
      · subst e
        rw [fu_s, fu_s, fu_s, fu_s]
        exact ⟨fun q => Or.inl ⟨rfl, q.2.2⟩, fun q => by
          rcases q with q | q
          · exact ⟨rfl, hTk, q.2⟩
          · exact absurd q hni⟩
      · rw [fu_n e, fu_n e, fu_n e, fu_n e, a3 i]
        exact ⟨fun q => Or.inr q, fun q => by
          rcases q with q | q
          · exact absurd q.1 e
          · exact q⟩
    by_cases ec : c = hc v low high
    · subst ec
      rw [e5, fu_s, fu_s, e3]
      refine ⟨⟨rfl, by omega, ?_⟩, List.nodup_cons.mpr ⟨hni, a2⟩, fun i => ?_⟩
      · rw [fu_s]; exact pl_upd a1 hni
      · rw [hmem i, List.mem_cons]
        exact ⟨fun q => by
          rcases q with q | q
          · exact Or.inl ⟨q, rfl⟩
          · exact Or.inr q, fun q => by
          rcases q with q | q
          · exact Or.inl q.1
          · exact Or.inr q⟩
    · rw [e5, fu_n ec, fu_n ec, e3]
      refine ⟨pl_upd a1 hni, a2, fun i => ?_⟩
      rw [hmem i]
      exact ⟨fun q => Or.inr q, fun q => by
        rcases q with q | q
        · exact absurd q.2.symm ec
        · exact q⟩
  · rw [e3]
    exact pl_upd g1 (fun q => by have := ((g3 k).mp q).2.2; rw [fu_s] at this; cases this)
  · by_cases e : i = k
    · rw [e]; exact z1
    · rw [fu_n e] at q
      have := h5 i q; omega
  · rw [z0]; exact ⟨by omega, z4, h6.2.2⟩
  · rw [z3, h7, pc_up hk3 (fun j hj => fu_n hj) hk (fu_s _ _ _)]
  · rw [oc_new h2 hk hk3 e1 e2]
    by_cases e : i = k
    · subst e
      rw [e4 i hk2, fu_s, if_neg (hkl _ hl).symm, if_neg (hkl _ hh).symm, oc_none h2 hk hk2, h10 i hk2 hk]
    · rw [fu_n e] at q
      rw [e4 i (h2.1 i q).1, fu_n e, h8 i q]
      omega
  · have c1 := pc_one (P := fun j => V j && (!T j && A 0 j == u)) (Q := fun j => fu V k true j && (!T j && A' 0 j == u)) (k := k) hk3 (fun j hj => by show (fu V k true j && (!T j && A' 0 j == u)) = (V j && (!T j && A 0 j == u)); rw [e0, fu_n hj, fu_n hj])
    simp only [hk, hTk, Bool.false_and, Bool.toNat_false, e0, fu_s, Bool.true_and, Bool.not_false] at c1
    rw [e6, e0]
    by_cases e : u = v
    · subst e
      rw [fu_s, h9 u hu]
      simp at c1
      omega
    · rw [fu_n e, h9 u hu]
      have ev : (v == u) = false := by
        rw [beq_eq_false_iff_ne]
        exact fun z => e z.symm
      rw [ev] at c1
      simp only [Bool.toNat_false, Nat.add_zero] at c1
      exact c1.symm
  · by_cases e : i = k
    · rw [e, fu_s] at q; cases q
    · rw [fu_n e] at q; exact h10 i q2 q
end
end
section
/-! make: the one node for (v, low, high). -/
def grow (A : Am) (V : Nat → Bool) (dn : Nat → Bf) (A' : Am) (V' : Nat → Bool) (dn' : Nat → Bf) : Prop :=
  (∀ i, vl V i → vl V' i ∧ dn' i = dn i ∧ A' 0 i = A 0 i ∧ A' 1 i = A 1 i ∧ A' 2 i = A 2 i) ∧ A' 7 = A 7 ∧ A' 8 = A 8 ∧ A' 9 0 = A 9 0 ∧ A' 9 4 = A 9 4
theorem grow_rf (A : Am) (V : Nat → Bool) (dn : Nat → Bf) : grow A V dn A V dn := ⟨fun _ h => ⟨h, rfl, rfl, rfl, rfl⟩, rfl, rfl, rfl, rfl⟩
theorem grow_tr {A A' A'' : Am} {V V' V'' : Nat → Bool} {dn dn' dn'' : Nat → Bf} (h : grow A V dn A' V' dn') (g : grow A' V' dn' A'' V'' dn'') : grow A V dn A'' V'' dn'' := by
  obtain ⟨h1, h2, h3, h4, h5⟩ := h
  obtain ⟨g1, g2, g3, g4, g5⟩ := g
  refine ⟨fun i hi => ?_, g2.trans h2, g3.trans h3, g4.trans h4, g5.trans h5⟩
  obtain ⟨a1, a2, a3, a4, a5⟩ := h1 i hi
  obtain ⟨b1, b2, b3, b4, b5⟩ := g1 i a1
  exact ⟨b1, b2.trans a2, b3.trans a3, b4.trans a4, b5.trans a5⟩
section
variable {N : Mm} {A : Am} {V T : Nat → Bool} {L : Nat} {dn : Nat → Bf} {ch : Nat → List Nat} {fl : List Nat} {ext : Nat → Nat}
theorem make_spec (hm : mr N A) (h : ti A V T L dn ch fl ext) {v low high : Nat} (hv : v < 12) (hTL : ∀ i, T i = true → L < A 7 v) (hl : vl V low) (hh : vl V high) (tl : T low = false) (th : T high = false) (ll : A 7 v < A 7 (A 0 low)) (lh : A 7 v < A 7 (A 0 high))
    (hroom : ∀ k, V k = false → 2 ≤ k → k ≤ 24800 → gi (A 7) (fu V k true) T L (fu (A 0) k v) (fu (A 1) k low) (fu (A 2) k high) (fu dn k (mk v (dn low) (dn high))) → A 9 3 + 2 < A 9 0) :
    ∃ (N' : Mm) (A' : Am) (V' : Nat → Bool) (dn' : Nat → Bf) (ch' : Nat → List Nat) (fl' : List Nat) (r : Nat), j_make N (nI v) (nI low) (nI high) = (N', nI r) ∧ mr N' A' ∧ ti A' V' T L dn' ch' fl' ext ∧ grow A V dn A' V' dn' ∧ vl V' r ∧ T r = false ∧ dn' r = mk v (dn low) (dn high) ∧
      ((V' = V ∧ A' = A ∧ dn' = dn) ∨ (V r = false ∧ V' = fu V r true ∧ A' 0 = fu (A 0) r v ∧ A' 1 = fu (A 1) r low ∧ A' 2 = fu (A 2) r high ∧ A' 9 3 = A 9 3 + 1)) := by
  have hR := hm.2.2.2.2.2.2.2
  obtain ⟨h1, h2, h3, h4, h5, h6, h7, h8, h9, h10⟩ := id h
  have bl := (ti_lt h hl).2
  have bh := (ti_lt h hh).2
  by_cases e : low = high
  · refine ⟨N, A, V, dn, ch, fl, low, ?_, hm, h, grow_rf _ _ _, hl, tl, ?_, Or.inl ⟨rfl, rfl, rfl⟩⟩
    · unfold j_make; rw [if_pos (by rw [e])]
    · rw [← e, mk_same]
  · have en : ¬ nI low = nI high := fun q => e ((nI_eq (by omega) (by omega)).mp q)
    have hc1 : hc v low high < 768 := hc_lt hv
    have e2 : N 2 (hc v low high) = nI (A 5 (hc v low high)) := hm.2.2.1 _ hc1
    obtain ⟨c1, c2, c3⟩ := h3 _ hc1
    have hin : ∀ x ∈ ch (hc v low high), V x = true ∧ T x = false ∧ hc (A 0 x) (A 1 x) (A 2 x) = hc v low high := fun x hx => (c3 x).mp hx
    have hlen : (ch (hc v low high)).length ≤ 24800 := Nat.le_trans (pc_list (P := V) (n := 24800) c2 (fun x hx => ⟨by have := h5 x (hin x hx).1; omega, (hin x hx).1⟩)) (pc_lt _ _)
    have ej : j_make N (nI v) (nI low) (nI high) = if j_findL N (nI low) (nI high) 24800 (nI (A 5 (hc v low high))) = 0 then j_fresh2 N (nI v) (nI low) (nI high) else (N, j_findL N (nI low) (nI high) 24800 (nI (A 5 (hc v low high)))) := by
      unfold j_make
      rw [if_neg en, j_chain, if_neg (nI_pos (by omega)), if_neg (nI_ge hc1 (by omega)), nI_clamp (by omega : hc v low high < 2 ^ 31), e2]
    rcases findL_spec hm (low := low) (high := high) (by omega) (by omega) 24800 _ _ c1 hlen (fun x hx => by
      obtain ⟨q1, q2, q3⟩ := hin x hx
      obtain ⟨-, -, k1, k2⟩ := h2.1 x q1
      have t1 := (ti_lt h k1).2
      have t2 := (ti_lt h k2).2
      have t3 := h5 x q1
      omega) with ⟨f1, f2⟩ | ⟨x, x1, x2, x3, x4⟩
    · have nf : ∀ j, V j = true → T j = false → A 0 j = v → A 1 j = low → A 2 j = high → False := fun j q1 q2 q3 q4 q5 => f2 j ((c3 j).mpr ⟨q1, q2, by rw [q3, q4, q5]⟩) ⟨q4, q5⟩
      have hU : V (A 9 1) = false := by
        cases q : V (A 9 1)
        · rfl
        · have := h5 _ q; omega
      have hrm := hroom _ hU h6.1 (by omega) (gi_add h2 h1 hv hTL hl hh tl th ll lh e nf hU h6.1)
      obtain ⟨k, A1, fl1, k1, m1, k2, k3, k4, p1, p2, p3, p4, p5, p6, p7, p8, p9, p10, p11⟩ := fresh_spec hm h hrm
      obtain ⟨A2, m2, q1, q2⟩ := refer_up m1 (i := low) (by rw [p3]; exact bl)
      have q19 : A2 9 = A1 9 := q1 9 (by omega)
      obtain ⟨A3, m3, r1, r2⟩ := refer_up m2 (i := high) (by rw [q19, p3]; exact bh)
      have r19 : A3 9 = A1 9 := (r1 9 (by omega)).trans q19
      obtain ⟨A4, m4, s0, s1, s2, s3, s4, s5, s6, s7, s8, s9⟩ := link_spec m3 (k := k) (v := v) (low := low) (high := high) (by rw [r19, p3]; exact k3) hv
      have hf : ∀ f, f ≠ 9 → f ≠ 4 → A3 f = A f := fun f g1 g2 => by rw [r1 f g2, q1 f g2, p1 f g1 g2]
      rw [hf 0 (by omega) (by omega)] at s0
      rw [hf 1 (by omega) (by omega)] at s1
      rw [hf 2 (by omega) (by omega)] at s2
      rw [hf 3 (by omega) (by omega), hf 5 (by omega) (by omega)] at s3
      rw [hf 5 (by omega) (by omega)] at s5
      rw [hf 6 (by omega) (by omega)] at s6
      rw [hf 7 (by omega) (by omega)] at s7
      rw [hf 8 (by omega) (by omega)] at s8
      rw [r19] at s9
      have ej2 : j_make N (nI v) (nI low) (nI high) = (j_link (j_refer (j_refer (j_freshRow N).1 (nI low) 1) (nI high) 1) (nI k) (nI v) (nI low) (nI high), nI k) := by
        rw [ej, if_pos f1]
        unfold j_fresh2
        rw [k1, if_neg (nI_ne0 (by omega) (by omega))]
      have hgi := gi_add h2 h1 hv hTL hl hh tl th ll lh e nf k4 k2
      have hkl : ∀ c, vl V c → c ≠ k := fun c hc e => by
        rcases hc with q | q
        · omega
        · rw [e, k4] at q; cases q
      refine ⟨_, A4, fu V k true, fu dn k (mk v (dn low) (dn high)), fu ch (hc v low high) (k :: ch (hc v low high)), fl1, k, ej2, m4, ?_, ⟨fun i hi => ?_, s7, s8, by rw [s9, p3], by rw [s9, p4]⟩, Or.inr (fu_s _ _ _), ?_, fu_s _ _ _, Or.inr ⟨k4, rfl, s0, s1, s2, by rw [s9, p5]⟩⟩
      · refine ti_add h hv hl hh k4 k2 hgi s0 s1 s2 s3 s5 s6 s7 s8 (fun j hj => ?_) (by rw [s9, p3]) (by rw [s9, p5]) (by rw [s9]; exact p6) (by rw [s9]; exact p7) (by rw [s9]; exact p8) (by rw [s9]; exact p9) p10 (by rw [s9]; exact p11)
        rw [s4, r2 j hj, q2 j hj, p2]
      · have ne := hkl i hi
        rw [s0, s1, s2, fu_n ne, fu_n ne, fu_n ne, fu_n ne]
        refine ⟨?_, rfl, rfl, rfl, rfl⟩
        rcases hi with q | q
        · exact Or.inl q
        · exact Or.inr (by rw [fu_n ne]; exact q)
      · cases q : T k
        · rfl
        · have := (h2.2.2.2.2.2 k q).1
          rw [k4] at this; cases this
    · obtain ⟨q1, q2, q3⟩ := hin x x1
      have ev : A 0 x = v := by
        rw [x2, x3] at q3
        unfold hc at q3
        omega
      have ej2 : j_make N (nI v) (nI low) (nI high) = (N, nI x) := by
        rw [ej, x4, if_neg (nI_ne0 (by have := (h2.1 x q1).1; omega) (by have := h5 x q1; omega))]
      refine ⟨N, A, V, dn, ch, fl, x, ej2, hm, h, grow_rf _ _ _, Or.inr q1, q2, ?_, Or.inl ⟨rfl, rfl, rfl⟩⟩
      rw [h2.2.2.1 x q1, ev, x2, x3]
end
end
section
/-! THE MEMO. E 0: its rows (1024 of five numbers), E 1 0: the age. -/
def j_place (a b c : Int32) : Int32 := ((((a * (-1640531535) + b * (-2048144789) + c * (-1028477387)).toUInt32 >>> ((20 : Int32).toUInt32 &&& Int32.toUInt32 31)).toInt32) &&& 1023) * 5
def j_forget (E : Mm) : Mm := up E 1 0 (E 1 0 + 1)
def j_answerFor (E : Mm) (a b c : Int32) : Int32 :=
  if j_place a b c < 0 then -1 else if nI 5120 < j_place a b c + 5 then -1 else if ¬ E 0 (j_place a b c + 3).toNatClampNeg = E 1 0 then -1 else
  if E 0 (j_place a b c).toNatClampNeg = a ∧ E 0 (j_place a b c + 1).toNatClampNeg = b ∧ E 0 (j_place a b c + 2).toNatClampNeg = c then E 0 (j_place a b c + 4).toNatClampNeg else -1
def j_keep (E : Mm) (a b c r : Int32) : Mm :=
  if j_place a b c < 0 then E else if nI 5120 < j_place a b c + 5 then E else
  up (up (up (up (up E 0 (j_place a b c).toNatClampNeg a) 0 (j_place a b c + 1).toNatClampNeg b) 0 (j_place a b c + 2).toNatClampNeg c) 0 (j_place a b c + 3).toNatClampNeg (E 1 0)) 0 (j_place a b c + 4).toNatClampNeg r
theorem place_e (a b c : Int32) : ∃ q : Nat, q < 1024 ∧ j_place a b c = nI (5 * q) := by
  obtain ⟨j, hj, e⟩ := pk_andE ((((a * (-1640531535) + b * (-2048144789) + c * (-1028477387)).toUInt32 >>> ((20 : Int32).toUInt32 &&& Int32.toUInt32 31)).toInt32)) (m := 1023) 10 (by decide)
  refine ⟨j, by omega, ?_⟩
  unfold j_place
  rw [e, show (5 : Int32) = nI 5 from rfl, pk_mul, Nat.mul_comm]
/-- no entry is younger than g, and what is of age g is P -/
def me (E : Mm) (g : Nat) (P : Int32 → Int32 → Int32 → Int32 → Prop) : Prop :=
  E 1 0 = nI g ∧ g < 2 ^ 30 ∧ ∀ q, q < 1024 → (∃ t, t ≤ g ∧ E 0 (5 * q + 3) = nI t) ∧ (E 0 (5 * q + 3) = nI g → P (E 0 (5 * q)) (E 0 (5 * q + 1)) (E 0 (5 * q + 2)) (E 0 (5 * q + 4)))
theorem me_mono {E : Mm} {g : Nat} {P Q : Int32 → Int32 → Int32 → Int32 → Prop} (h : me E g P) (hq : ∀ a b c r, P a b c r → Q a b c r) : me E g Q := ⟨h.1, h.2.1, fun q hq1 => ⟨(h.2.2 q hq1).1, fun e => hq _ _ _ _ ((h.2.2 q hq1).2 e)⟩⟩
theorem me_forget {E : Mm} {g : Nat} {P Q : Int32 → Int32 → Int32 → Int32 → Prop} (h : me E g P) (hg : g + 1 < 2 ^ 30) : me (j_forget E) (g + 1) Q := by
  obtain ⟨h1, h2, h3⟩ := h
  have e0 : j_forget E 0 = E 0 := up_n (by omega)
  refine ⟨?_, hg, fun q hq => ?_⟩
  · unfold j_forget; rw [up_s, upd_s, h1, nI_1]
  · obtain ⟨⟨t, t1, t2⟩, -⟩ := h3 q hq
    rw [e0]
    refine ⟨⟨t, by omega, t2⟩, fun e => ?_⟩
    rw [t2] at e
    have := (nI_eq (by omega) (by omega)).mp e
    omega
theorem me_ask {E : Mm} {g : Nat} {P : Int32 → Int32 → Int32 → Int32 → Prop} (h : me E g P) (a b c : Int32) : j_answerFor E a b c = -1 ∨ P a b c (j_answerFor E a b c) := by
  obtain ⟨q, q1, e⟩ := place_e a b c
  obtain ⟨h1, h2, h3⟩ := h
  obtain ⟨⟨t, t1, t2⟩, hp⟩ := h3 q q1
  unfold j_answerFor
  rw [e, if_neg (nI_pos (by omega)), show nI (5 * q) + 5 = nI (5 * q + 5) from nI_add _ _, if_neg (nI_nlt (by omega) (by omega)), show nI (5 * q) + 3 = nI (5 * q + 3) from nI_add _ _, show nI (5 * q) + 1 = nI (5 * q + 1) from nI_add _ _, show nI (5 * q) + 2 = nI (5 * q + 2) from nI_add _ _, show nI (5 * q) + 4 = nI (5 * q + 4) from nI_add _ _,
    nI_clamp (by omega : 5 * q < 2 ^ 31), nI_clamp (by omega : 5 * q + 1 < 2 ^ 31), nI_clamp (by omega : 5 * q + 2 < 2 ^ 31), nI_clamp (by omega : 5 * q + 3 < 2 ^ 31), nI_clamp (by omega : 5 * q + 4 < 2 ^ 31)]
  by_cases c1 : E 0 (5 * q + 3) = E 1 0
  · rw [if_neg (fun z => z c1)]
    by_cases c2 : E 0 (5 * q) = a ∧ E 0 (5 * q + 1) = b ∧ E 0 (5 * q + 2) = c
    · rw [if_pos c2]
      have := hp (by rw [c1, h1])
      rw [c2.1, c2.2.1, c2.2.2] at this
      exact Or.inr this
    · rw [if_neg c2]; exact Or.inl rfl
  · rw [if_pos c1]; exact Or.inl rfl
theorem me_keep {E : Mm} {g : Nat} {P : Int32 → Int32 → Int32 → Int32 → Prop} (h : me E g P) {a b c r : Int32} (hp : P a b c r) : me (j_keep E a b c r) g P := by
  obtain ⟨q, q1, e⟩ := place_e a b c
  obtain ⟨h1, h2, h3⟩ := h
  have ek : j_keep E a b c r = up (up (up (up (up E 0 (5 * q) a) 0 (5 * q + 1) b) 0 (5 * q + 2) c) 0 (5 * q + 3) (E 1 0)) 0 (5 * q + 4) r := by
    unfold j_keep
    rw [e, if_neg (nI_pos (by omega)), show nI (5 * q) + 5 = nI (5 * q + 5) from nI_add _ _, if_neg (nI_nlt (by omega) (by omega)), show nI (5 * q) + 3 = nI (5 * q + 3) from nI_add _ _, show nI (5 * q) + 1 = nI (5 * q + 1) from nI_add _ _, show nI (5 * q) + 2 = nI (5 * q + 2) from nI_add _ _, show nI (5 * q) + 4 = nI (5 * q + 4) from nI_add _ _,
      nI_clamp (by omega : 5 * q < 2 ^ 31), nI_clamp (by omega : 5 * q + 1 < 2 ^ 31), nI_clamp (by omega : 5 * q + 2 < 2 ^ 31), nI_clamp (by omega : 5 * q + 3 < 2 ^ 31), nI_clamp (by omega : 5 * q + 4 < 2 ^ 31)]
  have e0 : j_keep E a b c r 0 = upd (upd (upd (upd (upd (E 0) (5 * q) a) (5 * q + 1) b) (5 * q + 2) c) (5 * q + 3) (E 1 0)) (5 * q + 4) r := by
    rw [ek, up_s, up_s, up_s, up_s, up_s]
  have e1 : j_keep E a b c r 1 = E 1 := by
    rw [ek, up_n (by omega), up_n (by omega), up_n (by omega), up_n (by omega), up_n (by omega)]
  refine ⟨by rw [e1]; exact h1, h2, fun z hz => ?_⟩
  rw [e0]
  by_cases ez : z = q
  · subst ez
    rw [upd_n (by omega : 5 * z + 3 ≠ 5 * z + 4), upd_s]
    refine ⟨⟨g, Nat.le_refl g, h1⟩, fun _ => ?_⟩
    rw [upd_s, upd_n (by omega : 5 * z + 2 ≠ 5 * z + 4), upd_n (by omega : 5 * z + 2 ≠ 5 * z + 3), upd_s, upd_n (by omega : 5 * z + 1 ≠ 5 * z + 4), upd_n (by omega : 5 * z + 1 ≠ 5 * z + 3), upd_n (by omega : 5 * z + 1 ≠ 5 * z + 2), upd_s,
      upd_n (by omega : 5 * z ≠ 5 * z + 4), upd_n (by omega : 5 * z ≠ 5 * z + 3), upd_n (by omega : 5 * z ≠ 5 * z + 2), upd_n (by omega : 5 * z ≠ 5 * z + 1), upd_s]
    exact hp
  · have k : ∀ d, d < 5 → upd (upd (upd (upd (upd (E 0) (5 * q) a) (5 * q + 1) b) (5 * q + 2) c) (5 * q + 3) (E 1 0)) (5 * q + 4) r (5 * z + d) = E 0 (5 * z + d) := fun d hd => by
      rw [upd_n (by omega), upd_n (by omega), upd_n (by omega), upd_n (by omega), upd_n (by omega)]
    have k0 : upd (upd (upd (upd (upd (E 0) (5 * q) a) (5 * q + 1) b) (5 * q + 2) c) (5 * q + 3) (E 1 0)) (5 * q + 4) r (5 * z) = E 0 (5 * z) := k 0 (by omega)
    rw [k 3 (by omega), k0, k 1 (by omega), k 2 (by omega), k 4 (by omega)]
    exact h3 z hz
end
section
/-! pick: the choice of two functions by a third. -/
def j_pickB (f g h : Int32) : Int32 := if f = 1 then g else if g = h then g else if f = 0 then h else f
def j_pick : Nat → Mm → Mm → Int32 → Int32 → Int32 → Mm × Mm × Int32
  | 0, N, E, f, g, h => (N, E, j_pickB f g h)
  | d + 1, N, E, f, g, h =>
    if f = 1 ∨ g = h ∨ f = 0 ∨ (g = 1 ∧ h = 0) then (N, E, j_pickB f g h) else
    if ¬ j_answerFor E f g h = -1 then (N, E, j_answerFor E f g h) else
    match j_pick d N E (j_lowFor N f (j_firstAsked N f g h)) (j_lowFor N g (j_firstAsked N f g h)) (j_lowFor N h (j_firstAsked N f g h)) with
    | (N1, E1, low) =>
      match j_pick d N1 E1 (j_highFor N1 f (j_firstAsked N f g h)) (j_highFor N1 g (j_firstAsked N f g h)) (j_highFor N1 h (j_firstAsked N f g h)) with
      | (N2, E2, high) =>
        match j_make N2 (j_firstAsked N f g h) low high with
        | (N3, r) => (N3, j_keep E2 f g h r, r)
def itf (F G H : Bf) : Bf := fun a => bif F a then G a else H a
def tp (A : Am) (V : Nat → Bool) : Nat := pc_cnt (fun i => V i && decide (A 7 (A 0 i) < 9)) 24800
def nT : Nat → Bool := fun _ => false
/-- what there is between two calls: the table without a swap -/
def tn (A : Am) (V : Nat → Bool) (dn : Nat → Bf) (ch : Nat → List Nat) (fl : List Nat) (ext : Nat → Nat) : Prop := ti A V nT 0 dn ch fl ext
def bud : Nat → Nat
  | 0 => 0
  | d + 1 => if d < 3 then 0 else 2 * bud d + 1
section
variable {N E : Mm} {A : Am} {V : Nat → Bool} {dn : Nat → Bf} {ch : Nat → List Nat} {fl : List Nat} {ext : Nat → Nat}
theorem tn_size (h : tn A V dn ch fl ext) : A 9 3 ≤ tp A V + 254 := by
  obtain ⟨h1, h2, -, -, -, h6, h7, -⟩ := h
  have c1 := pc_split V (fun i => decide (A 7 (A 0 i) < 9)) 24800
  have c2 := gi_bot h2 h1 (n := 24800) (by omega)
  have c3 : pc_cnt (fun i => V i && !decide (A 7 (A 0 i) < 9)) 24800 = pc_cnt (fun i => V i && decide (9 ≤ rk (A 7) (A 0) nT 0 i)) 24800 := pc_congr (fun i _ => by
    rw [rk_f rfl]
    cases V i
    · rfl
    · simp only [Bool.true_and]
      rw [Bool.eq_iff_iff]
      simp)
  rw [c3] at c1
  unfold tp
  omega
/-- make between calls: at most one node more on the first nine levels, if it stands there -/
theorem make_tn (hm : mr N A) (h : tn A V dn ch fl ext) {v low high : Nat} (hv : v < 12) (hl : vl V low) (hh : vl V high) (ll : A 7 v < A 7 (A 0 low)) (lh : A 7 v < A 7 (A 0 high)) (hb : tp A V + (if A 7 v < 9 then 1 else 0) + 256 ≤ A 9 0) :
    ∃ (N' : Mm) (A' : Am) (V' : Nat → Bool) (dn' : Nat → Bf) (ch' : Nat → List Nat) (fl' : List Nat) (r : Nat), j_make N (nI v) (nI low) (nI high) = (N', nI r) ∧ mr N' A' ∧ tn A' V' dn' ch' fl' ext ∧ grow A V dn A' V' dn' ∧ vl V' r ∧ dn' r = mk v (dn low) (dn high) ∧ tp A' V' ≤ tp A V + (if A 7 v < 9 then 1 else 0) := by
  obtain ⟨h1, h2, h3, h4, h5, h6, h7, -⟩ := id h
  have hroom : ∀ k, V k = false → 2 ≤ k → k ≤ 24800 → gi (A 7) (fu V k true) nT 0 (fu (A 0) k v) (fu (A 1) k low) (fu (A 2) k high) (fu dn k (mk v (dn low) (dn high))) → A 9 3 + 2 < A 9 0 := fun k k1 k2 k3 hg => by
    have hsz := tn_size h
    by_cases c : A 7 v < 9
    · rw [if_pos c] at hb; omega
    · rw [if_neg c] at hb
      have b2 := gi_bot hg h1 (n := 24801) (by omega)
      have c0 := pc_up (P := fun i => V i && decide (9 ≤ rk (A 7) (A 0) nT 0 i)) (Q := fun i => fu V k true i && decide (9 ≤ rk (A 7) (fu (A 0) k v) nT 0 i)) (n := 24801) (k := k) (by omega) (fun j hj => by
        show (fu V k true j && decide (9 ≤ rk (A 7) (fu (A 0) k v) nT 0 j)) = (V j && decide (9 ≤ rk (A 7) (A 0) nT 0 j))
        rw [fu_n hj]
        unfold rk
        rw [fu_n hj]) (by simp [k1]) (by
        show (fu V k true k && decide (9 ≤ rk (A 7) (fu (A 0) k v) nT 0 k)) = true
        rw [fu_s, rk_f rfl, fu_s]
        simp
        omega)
      have c2 : pc_cnt (fun i => V i && decide (9 ≤ rk (A 7) (A 0) nT 0 i)) 24801 = pc_cnt (fun i => V i && decide (9 ≤ rk (A 7) (A 0) nT 0 i)) 24800 := by
        show pc_cnt (fun i => V i && decide (9 ≤ rk (A 7) (A 0) nT 0 i)) 24800 + (V 24800 && decide (9 ≤ rk (A 7) (A 0) nT 0 24800)).toNat = _
        have : V 24800 = false := by
          cases q : V 24800
          · rfl
          · have := h5 _ q; omega
        rw [this, Bool.false_and, Bool.toNat_false, Nat.add_zero]
      have c1 := pc_split V (fun i => decide (A 7 (A 0 i) < 9)) 24800
      have c3 : pc_cnt (fun i => V i && !decide (A 7 (A 0 i) < 9)) 24800 = pc_cnt (fun i => V i && decide (9 ≤ rk (A 7) (A 0) nT 0 i)) 24800 := pc_congr (fun i _ => by
        rw [rk_f rfl]
        cases V i
        · rfl
        · simp only [Bool.true_and]
          rw [Bool.eq_iff_iff]
          simp)
      rw [c3] at c1
      unfold tp at hb
      omega
  obtain ⟨N', A', V', dn', ch', fl', r, q1, q2, q3, q4, q5, q6, q7, q8⟩ := make_spec hm h hv (fun _ q => by cases q) hl hh rfl rfl ll lh hroom
  refine ⟨N', A', V', dn', ch', fl', r, q1, q2, q3, q4, q5, q7, ?_⟩
  rcases q8 with ⟨rfl, rfl, -⟩ | ⟨z1, rfl, z2, -, -, -⟩
  · omega
  · unfold tp
    have hr : r < 24800 := by
      have := (ti_lt q3 q5).2
      have h6' := q3.2.2.2.2.2.1
      omega
    have c := pc_one (P := fun i => V i && decide (A 7 (A 0 i) < 9)) (Q := fun i => fu V r true i && decide (A' 7 (A' 0 i) < 9)) hr (fun j hj => by
      show (fu V r true j && decide (A' 7 (A' 0 j) < 9)) = (V j && decide (A 7 (A 0 j) < 9))
      rw [q4.2.1, z2, fu_n hj, fu_n hj])
    simp only [z1, Bool.false_and, Bool.toNat_false, q4.2.1, z2, fu_s, Bool.true_and] at c
    rw [q4.2.1, z2]
    by_cases c9 : A 7 v < 9
    · rw [if_pos c9]; simp [c9] at c; omega
    · rw [if_neg c9]; simp [c9] at c; omega
end
end
section
/-! pick gives the choice. -/
def lw (A : Am) (v f : Nat) : Nat := if A 0 f = v then A 1 f else f
def hw (A : Am) (v f : Nat) : Nat := if A 0 f = v then A 2 f else f
def PP (V : Nat → Bool) (dn : Nat → Bf) (a b c r : Int32) : Prop := ∃ f g h k : Nat, a = nI f ∧ b = nI g ∧ c = nI h ∧ r = nI k ∧ vl V f ∧ vl V g ∧ vl V h ∧ vl V k ∧ dn k = itf (dn f) (dn g) (dn h)
theorem itf_mk (v : Nat) (a b c d e f : Bf) : itf (mk v a b) (mk v c d) (mk v e f) = mk v (itf a c e) (itf b d f) := by
  funext x
  unfold itf mk
  cases x v <;> rfl
theorem itf_ind {F G H : Bf} {x : Nat} (h1 : ind F x) (h2 : ind G x) (h3 : ind H x) : ind (itf F G H) x := fun a b => by
  unfold itf
  rw [h1, h2, h3]
theorem j_min_n {a b : Nat} (ha : a < 2 ^ 31) (hb : b < 2 ^ 31) : j_min (nI a) (nI b) = nI (min a b) := by
  unfold j_min
  rcases Nat.le_total a b with q | q
  · rw [if_pos ((nI_leI ha hb).mpr q), Nat.min_eq_left q]
  · by_cases e : a ≤ b
    · rw [if_pos ((nI_leI ha hb).mpr e), Nat.min_eq_left e]
    · rw [if_neg (fun z => e ((nI_leI ha hb).mp z)), Nat.min_eq_right q]
theorem bud_le {d k : Nat} (h : 12 ≤ d + 1 + k) : 2 * bud d + (if k < 9 then 1 else 0) ≤ bud (d + 1) ∧ bud d ≤ bud (d + 1) := by
  show 2 * bud d + (if k < 9 then 1 else 0) ≤ (if d < 3 then 0 else 2 * bud d + 1) ∧ bud d ≤ (if d < 3 then 0 else 2 * bud d + 1)
  by_cases c : d < 3
  · have : bud d = 0 := by
      rcases (show d = 0 ∨ d = 1 ∨ d = 2 by omega) with e | e | e <;> subst e <;> rfl
    rw [if_pos c, if_neg (by omega), this]
    omega
  · rw [if_neg c]
    by_cases q : k < 9
    · rw [if_pos q]; omega
    · rw [if_neg q]; omega
theorem nI_q1 {f : Nat} (h : f < 24800) : nI f = 1 ↔ f = 1 := nI_eq (a := f) (b := 1) (by omega) (by omega)
theorem nI_q0 {f : Nat} (h : f < 24800) : nI f = 0 ↔ f = 0 := nI_eq (a := f) (b := 0) (by omega) (by omega)
theorem nI_qq {f g : Nat} (h : f < 24800) (k : g < 24800) : nI f = nI g ↔ f = g := nI_eq (by omega) (by omega)
theorem pick_0 (N E : Mm) (f g h : Int32) : j_pick 0 N E f g h = (N, E, j_pickB f g h) := rfl
theorem pick_b {d : Nat} {N E : Mm} {f g h : Int32} (c : f = 1 ∨ g = h ∨ f = 0 ∨ (g = 1 ∧ h = 0)) : j_pick (d + 1) N E f g h = (N, E, j_pickB f g h) := by
  rw [j_pick, if_pos c]
theorem pick_m {d : Nat} {N E : Mm} {f g h : Int32} (c : ¬ (f = 1 ∨ g = h ∨ f = 0 ∨ (g = 1 ∧ h = 0))) (c2 : ¬ j_answerFor E f g h = -1) : j_pick (d + 1) N E f g h = (N, E, j_answerFor E f g h) := by
  rw [j_pick, if_neg c, if_pos c2]
theorem pick_r {d : Nat} {N E N1 E1 N2 E2 N3 : Mm} {f g h v low high r : Int32} (c : ¬ (f = 1 ∨ g = h ∨ f = 0 ∨ (g = 1 ∧ h = 0))) (c2 : j_answerFor E f g h = -1) (c3 : j_firstAsked N f g h = v)
    (c4 : j_pick d N E (j_lowFor N f v) (j_lowFor N g v) (j_lowFor N h v) = (N1, E1, low)) (c5 : j_pick d N1 E1 (j_highFor N1 f v) (j_highFor N1 g v) (j_highFor N1 h v) = (N2, E2, high)) (c6 : j_make N2 v low high = (N3, r)) :
    j_pick (d + 1) N E f g h = (N3, j_keep E2 f g h r, r) := by
  rw [j_pick, if_neg c, if_neg (fun z => z c2), c3, c4]
  dsimp only
  rw [c5]
  dsimp only
  rw [c6]
section
variable {N E : Mm} {A : Am} {V : Nat → Bool} {dn : Nat → Bf} {ch : Nat → List Nat} {fl : List Nat} {ext : Nat → Nat}
theorem tn_lt (h : tn A V dn ch fl ext) {i : Nat} (hv : vl V i) : i < 24800 := by
  have := (ti_lt h hv).2
  have := h.2.2.2.2.2.1
  omega
theorem tn_va (h : tn A V dn ch fl ext) {i : Nat} (hv : vl V i) : A 0 i < 13 := gi_va h.2.1 hv
theorem asked_spec (hm : mr N A) (h : tn A V dn ch fl ext) {f : Nat} (hf : vl V f) : j_get N (nI f) 0 = nI (A 0 f) := mr_get hm (f := 0) (ti_lt h hf).2 (by omega) (by omega)
theorem levA_spec (hm : mr N A) (h : tn A V dn ch fl ext) {f : Nat} (hf : vl V f) : j_levelOf N (j_get N (nI f) 0) = nI (A 7 (A 0 f)) := by
  rw [asked_spec hm h hf, mr_lev hm (tn_va h hf)]
theorem low_spec (hm : mr N A) (h : tn A V dn ch fl ext) {f v : Nat} (hf : vl V f) (hv : v < 12) (hl : A 7 v ≤ A 7 (A 0 f)) :
    j_lowFor N (nI f) (nI v) = nI (lw A v f) ∧ j_highFor N (nI f) (nI v) = nI (hw A v f) ∧ vl V (lw A v f) ∧ vl V (hw A v f) ∧ A 7 v < A 7 (A 0 (lw A v f)) ∧ A 7 v < A 7 (A 0 (hw A v f)) ∧ dn f = mk v (dn (lw A v f)) (dn (hw A v f)) := by
  have h2 := h.2.1
  have hp := h.1
  have fva := tn_va h hf
  unfold j_lowFor j_highFor lw hw
  rw [asked_spec hm h hf]
  by_cases e : A 0 f = v
  · have fV : V f = true := by
      rcases hf with q | q
      · have := gi_end h2 q; omega
      · exact q
    obtain ⟨-, -, c1, c2⟩ := h2.1 f fV
    obtain ⟨o1, o2⟩ := h2.2.2.2.2.1 f fV rfl
    rw [rk_f rfl] at o1 o2
    rw [e] at o1 o2
    rw [if_pos e, if_pos e, if_pos (by rw [e]), if_pos (by rw [e])]
    refine ⟨mr_get hm (f := 1) (ti_lt h hf).2 (by omega) (by omega), mr_get hm (f := 2) (ti_lt h hf).2 (by omega) (by omega), c1, c2, o1, o2, ?_⟩
    have := h2.2.2.1 f fV
    rw [e] at this
    exact this
  · have en : ¬ nI (A 0 f) = nI v := fun q => e ((nI_eq (by omega) (by omega)).mp q)
    have ol : A 7 v < A 7 (A 0 f) := by
      rcases Nat.lt_or_ge (A 7 v) (A 7 (A 0 f)) with q | q
      · exact q
      · exact absurd (lp_inj hp fva (by omega) (by omega)) e
    rw [if_neg e, if_neg e, if_neg en, if_neg en]
    exact ⟨rfl, rfl, hf, hf, ol, ol, (mk_same v _).symm⟩
theorem first_spec (hm : mr N A) (h : tn A V dn ch fl ext) {f g k : Nat} (hf : V f = true) (hg : vl V g) (hk : vl V k) : ∃ v : Nat, j_firstAsked N (nI f) (nI g) (nI k) = nI v ∧ v < 12 ∧ A 7 v ≤ A 7 (A 0 f) ∧ A 7 v ≤ A 7 (A 0 g) ∧ A 7 v ≤ A 7 (A 0 k) ∧ (A 7 v = A 7 (A 0 f) ∨ A 7 v = A 7 (A 0 g) ∨ A 7 v = A 7 (A 0 k)) := by
  have hp := h.1
  have b1 := (hp.1 _ (tn_va h (Or.inr hf))).1
  have b2 := (hp.1 _ (tn_va h hg)).1
  have b3 := (hp.1 _ (tn_va h hk)).1
  have lf := lp_lt hp (h.2.1.1 f hf).2.1
  have e : j_firstAsked N (nI f) (nI g) (nI k) = nI (A 8 (min (min (A 7 (A 0 f)) (A 7 (A 0 g))) (A 7 (A 0 k)))) := by
    unfold j_firstAsked
    rw [levA_spec hm h (Or.inr hf), levA_spec hm h hg, levA_spec hm h hk, j_min_n (by omega) (by omega), j_min_n (by omega) (by omega), mr_var hm (by omega)]
  obtain ⟨w1, w2⟩ := hp.2.1 (min (min (A 7 (A 0 f)) (A 7 (A 0 g))) (A 7 (A 0 k))) (by omega)
  refine ⟨_, e, lp_vr hp (by omega), ?_, ?_, ?_, ?_⟩ <;> rw [w2] <;> omega
theorem pickB_spec (h : tn A V dn ch fl ext) {f g k : Nat} (hf : vl V f) (hg : vl V g) (hk : vl V k) (hc : f = 1 ∨ g = k ∨ f = 0 ∨ (g = 1 ∧ k = 0)) : ∃ r : Nat, j_pickB (nI f) (nI g) (nI k) = nI r ∧ vl V r ∧ dn r = itf (dn f) (dn g) (dn k) := by
  have bf := tn_lt h hf
  have bg := tn_lt h hg
  have bk := tn_lt h hk
  have h2 := h.2.1.2.1
  unfold j_pickB
  by_cases c1 : f = 1
  · rw [if_pos (by rw [c1]; rfl)]
    refine ⟨g, rfl, hg, ?_⟩
    rw [c1, h2.2.2.2]; rfl
  · rw [if_neg (fun q => c1 ((nI_q1 bf).mp q))]
    by_cases c2 : g = k
    · rw [if_pos (by rw [c2])]
      refine ⟨g, rfl, hg, ?_⟩
      rw [c2]; funext a; unfold itf; cases dn f a <;> rfl
    · rw [if_neg (fun q => c2 ((nI_qq bg bk).mp q))]
      by_cases c3 : f = 0
      · rw [if_pos (by rw [c3]; rfl)]
        refine ⟨k, rfl, hk, ?_⟩
        rw [c3, h2.2.2.1]; rfl
      · rw [if_neg (fun q => c3 ((nI_q0 bf).mp q))]
        refine ⟨f, rfl, hf, ?_⟩
        rcases hc with q | q | q | ⟨q1, q2⟩
        · exact absurd q c1
        · exact absurd q c2
        · exact absurd q c3
        · rw [q1, q2, h2.2.2.1, h2.2.2.2]; funext a; unfold itf; cases dn f a <;> rfl
theorem PP_grow {A' : Am} {V' : Nat → Bool} {dn' : Nat → Bf} (hg : grow A V dn A' V' dn') {a b c r : Int32} (h : PP V dn a b c r) : PP V' dn' a b c r := by
  obtain ⟨f, g, k, q, e1, e2, e3, e4, v1, v2, v3, v4, e⟩ := h
  obtain ⟨a1, a2, -⟩ := hg.1 f v1
  obtain ⟨b1, b2, -⟩ := hg.1 g v2
  obtain ⟨c1, c2, -⟩ := hg.1 k v3
  obtain ⟨d1, d2, -⟩ := hg.1 q v4
  exact ⟨f, g, k, q, e1, e2, e3, e4, a1, b1, c1, d1, by rw [a2, b2, c2, d2, e]⟩
theorem neg1 {k : Nat} (hk : k < 24800) : ¬ nI k = -1 := fun e => by
  have a := nI_toInt (n := k) (by omega)
  rw [e] at a
  have : (-1 : Int32).toInt = -1 := by decide
  omega
end
set_option maxHeartbeats 1000000 in
theorem pick_spec {ext : Nat → Nat} {ag : Nat} {X : (Nat → Bool) → (Nat → Bf) → Int32 → Int32 → Int32 → Int32 → Prop} (X1 : ∀ V dn a b c r, X V dn a b c r → c = -1) (X2 : ∀ A V dn A' V' dn' a b c r, grow A V dn A' V' dn' → X V dn a b c r → X V' dn' a b c r) :
    ∀ (d : Nat) (N E : Mm) (A : Am) (V : Nat → Bool) (dn : Nat → Bf) (ch : Nat → List Nat) (fl : List Nat) (f g k : Nat), mr N A → tn A V dn ch fl ext → me E ag (fun a b c r => PP V dn a b c r ∨ X V dn a b c r) → vl V f → vl V g → vl V k → 12 ≤ d + A 7 (A 0 f) → 12 ≤ d + A 7 (A 0 g) → 12 ≤ d + A 7 (A 0 k) → tp A V + bud d + 256 ≤ A 9 0 →
    ∃ (N' E' : Mm) (A' : Am) (V' : Nat → Bool) (dn' : Nat → Bf) (ch' : Nat → List Nat) (fl' : List Nat) (r : Nat), j_pick d N E (nI f) (nI g) (nI k) = (N', E', nI r) ∧ mr N' A' ∧ tn A' V' dn' ch' fl' ext ∧ me E' ag (fun a b c r => PP V' dn' a b c r ∨ X V' dn' a b c r) ∧ grow A V dn A' V' dn' ∧ vl V' r ∧ dn' r = itf (dn f) (dn g) (dn k) ∧ tp A' V' ≤ tp A V + bud d := by
  intro d
  induction d with
  | zero =>
    intro N E A V dn ch fl f g k hm h he hf hg hk l1 l2 l3 hb
    have hf1 : f ≤ 1 := by
      rcases hf with q | q
      · exact q
      · have := lp_lt h.1 (h.2.1.1 f q).2.1
        omega
    obtain ⟨r, r1, r2, r3⟩ := pickB_spec h hf hg hk (by omega)
    exact ⟨N, E, A, V, dn, ch, fl, r, by rw [pick_0, r1], hm, h, he, grow_rf _ _ _, r2, r3, Nat.le_add_right _ _⟩
  | succ d ih =>
    intro N E A V dn ch fl f g k hm h he hf hg hk l1 l2 l3 hb
    have bf := tn_lt h hf
    have bg := tn_lt h hg
    have bk := tn_lt h hk
    have hiff : (nI f = 1 ∨ nI g = nI k ∨ nI f = 0 ∨ (nI g = 1 ∧ nI k = 0)) ↔ (f = 1 ∨ g = k ∨ f = 0 ∨ (g = 1 ∧ k = 0)) := by
      rw [nI_q1 bf, nI_qq bg bk, nI_q0 bf, nI_q1 bg, nI_q0 bk]
    by_cases c0 : f = 1 ∨ g = k ∨ f = 0 ∨ (g = 1 ∧ k = 0)
    · obtain ⟨r, r1, r2, r3⟩ := pickB_spec h hf hg hk c0
      exact ⟨N, E, A, V, dn, ch, fl, r, by rw [pick_b (hiff.mpr c0), r1], hm, h, he, grow_rf _ _ _, r2, r3, Nat.le_add_right _ _⟩
    · have fV : V f = true := by
        rcases hf with q | q
        · omega
        · exact q
      rcases me_ask he (nI f) (nI g) (nI k) with ea | ea
      · obtain ⟨v, ev, hv, o1, o2, o3, o4⟩ := first_spec hm h fV hg hk
        obtain ⟨f1, -, f3, f4, f5, f6, f7⟩ := low_spec hm h hf hv o1
        obtain ⟨g1, -, g3, g4, g5, g6, g7⟩ := low_spec hm h hg hv o2
        obtain ⟨k1, -, k3, k4, k5, k6, k7⟩ := low_spec hm h hk hv o3
        have hlev : 12 ≤ d + 1 + A 7 v := by omega
        obtain ⟨bd1, bd2⟩ := bud_le hlev
        obtain ⟨N1, E1, A1, V1, dn1, ch1, fl1, r1, hp1, a2, a3, a4, a5, a6, a7, a8⟩ := ih N E A V dn ch fl _ _ _ hm h he f3 g3 k3 (by omega) (by omega) (by omega) (by omega)
        obtain ⟨s1, s2, s3, s4, s5⟩ := id a5
        obtain ⟨uf1, uf2, uf3, uf4, uf5⟩ := s1 f hf
        obtain ⟨ug1, ug2, ug3, ug4, ug5⟩ := s1 g hg
        obtain ⟨uk1, uk2, uk3, uk4, uk5⟩ := s1 k hk
        have ef : hw A1 v f = hw A v f := by unfold hw; rw [uf3, uf5]
        have eg : hw A1 v g = hw A v g := by unfold hw; rw [ug3, ug5]
        have ek : hw A1 v k = hw A v k := by unfold hw; rw [uk3, uk5]
        obtain ⟨-, f2', -⟩ := low_spec a2 a3 uf1 hv (by rw [s2, uf3]; exact o1)
        obtain ⟨-, g2', -⟩ := low_spec a2 a3 ug1 hv (by rw [s2, ug3]; exact o2)
        obtain ⟨-, k2', -⟩ := low_spec a2 a3 uk1 hv (by rw [s2, uk3]; exact o3)
        rw [ef] at f2'
        rw [eg] at g2'
        rw [ek] at k2'
        obtain ⟨tf1, tf2, tf3, -⟩ := s1 _ f4
        obtain ⟨tg1, tg2, tg3, -⟩ := s1 _ g4
        obtain ⟨tk1, tk2, tk3, -⟩ := s1 _ k4
        obtain ⟨N2, E2, A2, V2, dn2, ch2, fl2, r2, hp2, b2, b3, b4, b5, b6, b7, b8⟩ := ih N1 E1 A1 V1 dn1 ch1 fl1 _ _ _ a2 a3 a4 tf1 tg1 tk1 (by rw [s2, tf3]; omega) (by rw [s2, tg3]; omega) (by rw [s2, tk3]; omega) (by rw [s4]; omega)
        obtain ⟨w1, w2, w3, w4, w5⟩ := id b5
        obtain ⟨x1, x2, -⟩ := w1 r1 a6
        have n1 : ∀ x, x < 12 → A2 7 x < A 7 v + 1 → ind (dn2 r1) x := fun x _ hx => by
          rw [w2, s2] at hx
          rw [x2, a7]
          exact itf_ind (gi_ind h.2.1 h.1 f3 (by rw [rk_f rfl]; omega)) (gi_ind h.2.1 h.1 g3 (by rw [rk_f rfl]; omega)) (gi_ind h.2.1 h.1 k3 (by rw [rk_f rfl]; omega))
        have n2 : ∀ x, x < 12 → A2 7 x < A 7 v + 1 → ind (dn2 r2) x := fun x _ hx => by
          rw [w2, s2] at hx
          rw [b7, tf2, tg2, tk2]
          exact itf_ind (gi_ind h.2.1 h.1 f4 (by rw [rk_f rfl]; omega)) (gi_ind h.2.1 h.1 g4 (by rw [rk_f rfl]; omega)) (gi_ind h.2.1 h.1 k4 (by rw [rk_f rfl]; omega))
        have lv12 := lp_lt h.1 hv
        have m1 := gi_lev b3.2.1 b3.1 x1 n1 (by omega)
        have m2 := gi_lev b3.2.1 b3.1 b6 n2 (by omega)
        have e27 : A2 7 v = A 7 v := by rw [w2, s2]
        obtain ⟨N3, A3, V3, dn3, ch3, fl3, r3, c1, c2, c3, c4, c5, c6, c7⟩ := make_tn b2 b3 hv x1 b6 (by rw [e27]; omega) (by rw [e27]; omega) (by rw [e27, w4, s4]; omega)
        have hg3 : grow A V dn A3 V3 dn3 := grow_tr a5 (grow_tr b5 c4)
        have hres : dn3 r3 = itf (dn f) (dn g) (dn k) := by
          rw [c6, x2, a7, b7, tf2, tg2, tk2, f7, g7, k7, itf_mk]
        have ej := pick_r (d := d) (N := N) (E := E) (N1 := N1) (E1 := E1) (N2 := N2) (E2 := E2) (f := nI f) (g := nI g) (h := nI k) (v := nI v) (low := nI r1) (high := nI r2) (fun z => c0 (hiff.mp z)) ea ev (by rw [f1, g1, k1]; exact hp1) (by rw [f2', g2', k2']; exact hp2) c1
        obtain ⟨yf1, yf2, -⟩ := hg3.1 f hf
        obtain ⟨yg1, yg2, -⟩ := hg3.1 g hg
        obtain ⟨yk1, yk2, -⟩ := hg3.1 k hk
        refine ⟨N3, _, A3, V3, dn3, ch3, fl3, r3, ej, c2, c3, ?_, hg3, c5, hres, ?_⟩
        · refine me_keep (me_mono b4 (fun a b c r hh => ?_)) (Or.inl ⟨f, g, k, r3, rfl, rfl, rfl, rfl, yf1, yg1, yk1, c5, by rw [yf2, yg2, yk2]; exact hres⟩)
          rcases hh with hh | hh
          · exact Or.inl (PP_grow c4 hh)
          · exact Or.inr (X2 _ _ _ _ _ _ _ _ _ _ c4 hh)
        · rw [e27] at c7; omega
      · rcases ea with ⟨f', g', k', r, e1, e2, e3, e4, v1, v2, v3, v4, e⟩ | ea
        · have bf' := tn_lt h v1
          have bg' := tn_lt h v2
          have bk' := tn_lt h v3
          have br := tn_lt h v4
          have q1 := (nI_qq bf bf').mp e1
          have q2 := (nI_qq bg bg').mp e2
          have q3 := (nI_qq bk bk').mp e3
          subst q1; subst q2; subst q3
          exact ⟨N, E, A, V, dn, ch, fl, r, by rw [pick_m (fun z => c0 (hiff.mp z)) (by rw [e4]; exact neg1 br), e4], hm, h, he, grow_rf _ _ _, v4, e, Nat.le_add_right _ _⟩
        · exact absurd (X1 _ _ _ _ _ _ ea) (neg1 bk)
end
