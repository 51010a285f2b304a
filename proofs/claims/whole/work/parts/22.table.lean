/-! THE TABLE: what holds of the numbers A between two pieces of work. V: the nodes; T: those that wait (none but within a swap); ch: the chains; fl: the free rows; ext: who refers to a node from outside. -/
def hs (l h : Nat) : Nat := ((((nI l * (-1640531535) + nI h * (-2048144789)).toUInt32 >>> ((20 : Int32).toUInt32 &&& Int32.toUInt32 31)).toInt32) &&& 63).toNatClampNeg
def hc (v l h : Nat) : Nat := v * 64 + hs l h
theorem hs_e (l h : Nat) : hs l h < 64 ∧ ((((nI l * (-1640531535) + nI h * (-2048144789)).toUInt32 >>> ((20 : Int32).toUInt32 &&& Int32.toUInt32 31)).toInt32) &&& 63) = nI (hs l h) := by
  obtain ⟨j, hj, e⟩ := pk_andE ((((nI l * (-1640531535) + nI h * (-2048144789)).toUInt32 >>> ((20 : Int32).toUInt32 &&& Int32.toUInt32 31)).toInt32)) (m := 63) 6 (by decide)
  unfold hs
  rw [e, nI_clamp (by omega)]
  exact ⟨by omega, rfl⟩
theorem j_chain (v l h : Nat) : j_chainFor (nI v) (nI l) (nI h) = nI (hc v l h) := by
  unfold j_chainFor hc
  rw [(hs_e l h).2, show (64 : Int32) = nI 64 from rfl, pk_mul, nI_add]
theorem hc_lt {v l h : Nat} (hv : v < 12) : hc v l h < 768 := by
  have := (hs_e l h).1
  unfold hc; omega
theorem findL_spec {N : Mm} {A : Am} (hm : mr N A) {low high : Nat} (hlo : low < 2 ^ 31) (hhi : high < 2 ^ 31) : ∀ (n : Nat) (l : List Nat) (a : Nat), pl_lst (A 3) a l → l.length ≤ n → (∀ x ∈ l, x < A 9 0 ∧ A 1 x < 2 ^ 31 ∧ A 2 x < 2 ^ 31) →
    (j_findL N (nI low) (nI high) n (nI a) = 0 ∧ ∀ x ∈ l, ¬ (A 1 x = low ∧ A 2 x = high)) ∨ ∃ x, x ∈ l ∧ A 1 x = low ∧ A 2 x = high ∧ j_findL N (nI low) (nI high) n (nI a) = nI x := by
  have hR := hm.2.2.2.2.2.2.2
  intro n
  induction n with
  | zero =>
    intro l a hl hn hb
    cases l with
    | nil => exact Or.inl ⟨rfl, fun x hx => by cases hx⟩
    | cons x l => simp at hn
  | succ n ih =>
    intro l a hl hn hb
    cases l with
    | nil =>
      have ha : a = 0 := hl
      subst ha
      exact Or.inl ⟨by unfold j_findL; rw [nI_0, if_pos rfl], fun x hx => by cases hx⟩
    | cons x l =>
      obtain ⟨e, hx0, hl'⟩ := hl
      subst e
      obtain ⟨b1, b2, b3⟩ := hb a List.mem_cons_self
      have ih' := ih l (A 3 a) hl' (by simp at hn; omega) (fun y hy => hb y (List.mem_cons_of_mem _ hy))
      have g1 : j_get N (nI a) 1 = nI (A 1 a) := mr_get hm (f := 1) b1 (by omega) (by omega)
      have g2 : j_get N (nI a) 2 = nI (A 2 a) := mr_get hm (f := 2) b1 (by omega) (by omega)
      have g3 : j_get N (nI a) 3 = nI (A 3 a) := mr_get hm (f := 3) b1 (by omega) (by omega)
      have hstep : j_findL N (nI low) (nI high) (n + 1) (nI a) = if A 1 a = low ∧ A 2 a = high then nI a else j_findL N (nI low) (nI high) n (nI (A 3 a)) := by
        show (if nI a = 0 then 0 else if j_get N (nI a) 1 = nI low then (if j_get N (nI a) 2 = nI high then nI a else j_findL N (nI low) (nI high) n (j_get N (nI a) 3)) else j_findL N (nI low) (nI high) n (j_get N (nI a) 3)) = _
        rw [if_neg (nI_ne0 (by omega) (by omega)), g1, g2, g3]
        by_cases c1 : A 1 a = low
        · rw [if_pos ((nI_eq b2 hlo).mpr c1)]
          by_cases c2 : A 2 a = high
          · rw [if_pos ((nI_eq b3 hhi).mpr c2), if_pos ⟨c1, c2⟩]
          · rw [if_neg (fun q => c2 ((nI_eq b3 hhi).mp q)), if_neg (fun q => c2 q.2)]
        · rw [if_neg (fun q => c1 ((nI_eq b2 hlo).mp q)), if_neg (fun q => c1 q.1)]
      by_cases c : A 1 a = low ∧ A 2 a = high
      · exact Or.inr ⟨a, List.mem_cons_self, c.1, c.2, by rw [hstep, if_pos c]⟩
      · rcases ih' with ⟨e1, e2⟩ | ⟨y, y1, y2, y3, y4⟩
        · refine Or.inl ⟨by rw [hstep, if_neg c, e1], fun y hy => ?_⟩
          rcases List.mem_cons.mp hy with q | q
          · rw [q]; exact c
          · exact e2 y q
        · exact Or.inr ⟨y, List.mem_cons_of_mem _ y1, y2, y3, by rw [hstep, if_neg c, y4]⟩
def chs (A : Am) (V T : Nat → Bool) (ch : Nat → List Nat) : Prop := ∀ c, c < 768 → pl_lst (A 3) (A 5 c) (ch c) ∧ (ch c).Nodup ∧ ∀ i, i ∈ ch c ↔ (V i = true ∧ T i = false ∧ hc (A 0 i) (A 1 i) (A 2 i) = c)
def frs (A : Am) (V : Nat → Bool) (fl : List Nat) : Prop := pl_lst (A 3) (A 9 2) fl ∧ fl.Nodup ∧ ∀ i, i ∈ fl ↔ (2 ≤ i ∧ i < A 9 1 ∧ V i = false)
def oc (A : Am) (V : Nat → Bool) (i : Nat) : Nat := pc_cnt (fun j => V j && A 1 j == i) 24800 + pc_cnt (fun j => V j && A 2 j == i) 24800
def ti (A : Am) (V T : Nat → Bool) (L : Nat) (dn : Nat → Bf) (ch : Nat → List Nat) (fl : List Nat) (ext : Nat → Nat) : Prop :=
  lp (A 7) (A 8) ∧ gi (A 7) V T L (A 0) (A 1) (A 2) dn ∧ chs A V T ch ∧ frs A V fl ∧
  (∀ i, V i = true → i < A 9 1) ∧ (2 ≤ A 9 1 ∧ A 9 1 ≤ A 9 0 ∧ A 9 0 ≤ 24800) ∧ A 9 3 = pc_cnt V 24800 ∧
  (∀ i, V i = true → A 4 i = oc A V i + ext i) ∧
  (∀ v, v < 12 → A 6 v = pc_cnt (fun j => V j && (!T j && A 0 j == v)) 24800) ∧
  (∀ i, 2 ≤ i → V i = false → ext i = 0)
theorem ti_lt {A : Am} {V T : Nat → Bool} {L : Nat} {dn : Nat → Bf} {ch : Nat → List Nat} {fl : List Nat} {ext : Nat → Nat} (h : ti A V T L dn ch fl ext) {i : Nat} (hv : vl V i) : i < A 9 1 ∧ i < A 9 0 := by
  obtain ⟨-, -, -, -, h5, h6, -⟩ := h
  rcases hv with q | q
  · omega
  · have := h5 i q; omega
/-- if there is room, there is a row -/
theorem ti_row {A : Am} {V T : Nat → Bool} {L : Nat} {dn : Nat → Bf} {ch : Nat → List Nat} {fl : List Nat} {ext : Nat → Nat} (h : ti A V T L dn ch fl ext) (hr : A 9 3 + 2 < A 9 0) (hf : fl = []) : A 9 1 < A 9 0 := by
  obtain ⟨-, -, -, ⟨-, -, hfl⟩, h5, h6, h7, -⟩ := h
  have hall : ∀ x ∈ List.range' 2 (A 9 1 - 2), x < 24800 ∧ V x = true := fun x hx => by
    rw [List.mem_range'_1] at hx
    refine ⟨by omega, ?_⟩
    cases e : V x
    · have := (hfl x).mpr ⟨by omega, by omega, e⟩
      rw [hf] at this
      cases this
    · rfl
  have := pc_list (List.nodup_range' (s := 2) (n := A 9 1 - 2)) hall
  rw [List.length_range'] at this
  omega
