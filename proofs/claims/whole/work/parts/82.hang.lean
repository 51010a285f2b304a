/-! hanging, and what the reference says of it -/
section
variable {N E : Mm} {A : Am} {V : Nat → Bool} {dn : Nat → Bf} {ch : Nat → List Nat} {fl : List Nat} {ext : Nat → Nat}
theorem tn_tb (h : tn A V dn ch fl ext) {f : Nat} (hf : vl V f) (a : Nat → Bool) : dn f a = dn f (fun v => (tbc a 12).testBit v) :=
  gi_same h.2.1 h.1 hf (fun x hx _ => (tbc_bit 12 a x hx).symm)
/-- two nodes stand for one function just when they agree on the 4096 ways -/
theorem tn_eq (h : tn A V dn ch fl ext) {f g : Nat} (hf : vl V f) (hg : vl V g) (e : ∀ w, w < 4096 → dn f (fun v => w.testBit v) = dn g (fun v => w.testBit v)) : f = g := by
  refine h.2.1.2.2.2.1 f g hf hg (funext fun a => ?_)
  rw [tn_tb h hf a, tn_tb h hg a]
  exact e _ (tbc_lt 12 a)
theorem ind_ends (h : tn A V dn ch fl ext) {f : Nat} (hf : f ≤ 1) (x : Nat) : ind (dn f) x := fun a b => by
  obtain ⟨-, -, e0, e1⟩ := h.2.1.2.1
  rcases (show f = 0 ∨ f = 1 by omega) with rfl | rfl
  · rw [e0]
  · rw [e1]
/-- what a node hangs on: what it asks, and what its children hang on -/
theorem ind_node (h : tn A V dn ch fl ext) {f u : Nat} (hf : V f = true) : ind (dn f) u ↔ (A 0 f ≠ u ∧ ind (dn (A 1 f)) u ∧ ind (dn (A 2 f)) u) := by
  obtain ⟨-, -, -, -, -, e0, i1, i2⟩ := tn_dep h hf
  constructor
  · intro q
    have ne : A 0 f ≠ u := fun e => gi_dep h.2.1 h.1 hf (by rw [e]; exact q)
    rw [e0] at q
    exact ⟨ne, ind_lift ne i1 i2 q⟩
  · rintro ⟨ne, q1, q2⟩
    rw [e0]
    exact ind_mk ne q1 q2
def HX (V : Nat → Bool) (dn : Nat → Bf) (a b c r : Int32) : Prop := ∃ f m : Nat, a = nI f ∧ r = nI m ∧ vl V f ∧ m < 4096 ∧ ∀ v, v < 12 → (m.testBit v = true ↔ ¬ ind (dn f) v)
theorem neg1b {k : Nat} (hk : k < 4096) : ¬ nI k = -1 := neg1 (by omega)
theorem hang_spec (hm : mr N A) (h : tn A V dn ch fl ext) {ag : Nat} : ∀ (d : Nat) (E : Mm) (f : Nat), me E ag (HX V dn) → vl V f → 12 ≤ d + A 7 (A 0 f) → ∃ (E' : Mm) (m : Nat), j_hang d N E (nI f) = (E', nI m) ∧ me E' ag (HX V dn) ∧ m < 4096 ∧ ∀ v, v < 12 → (m.testBit v = true ↔ ¬ ind (dn f) v) := by
  intro d
  induction d with
  | zero =>
    intro E f he hf l1
    have hf1 : f ≤ 1 := by
      rcases hf with q | q
      · exact q
      · have := lp_lt h.1 (h.2.1.1 f q).2.1
        omega
    exact ⟨E, 0, rfl, he, by omega, fun v _ => ⟨fun q => by simp at q, fun q => absurd (ind_ends h hf1 v) q⟩⟩
  | succ d ih =>
    intro E f he hf l1
    have bf := tn_lt h hf
    by_cases c0 : f ≤ 1
    · exact ⟨E, 0, hang_b ((nI_l1 bf).mpr c0), he, by omega, fun v _ => ⟨fun q => by simp at q, fun q => absurd (ind_ends h c0 v) q⟩⟩
    · have fV : V f = true := by
        rcases hf with q | q
        · exact absurd q c0
        · exact q
      have c0' : ¬ nI f ≤ 1 := fun q => c0 ((nI_l1 bf).mp q)
      rcases me_ask he (nI f) 0 (-1) with ea | ea
      · have ev := asked_spec hm h hf
        obtain ⟨hv, w1, w2, o1, o2, e0, i1, i2⟩ := tn_dep h fV
        obtain ⟨f1, f2, -, -, -, -, -⟩ := low_spec hm h hf hv (Nat.le_refl _)
        have elw : lw A (A 0 f) f = A 1 f := if_pos rfl
        have ehw : hw A (A 0 f) f = A 2 f := if_pos rfl
        rw [elw] at f1
        rw [ehw] at f2
        obtain ⟨E1, m1, p1, a1, a2, a3⟩ := ih E _ he w1 (by omega)
        obtain ⟨E2, m2, p2, b1, b2, b3⟩ := ih E1 _ a1 w2 (by omega)
        have eb : ((1 <<< (nI (A 0 f) &&& 31)) ||| nI m1) ||| nI m2 = nI ((2 ^ A 0 f ||| m1) ||| m2) := by
          rw [nx_sh hv, nx_or, nx_or]
        have hlt : (2 ^ A 0 f ||| m1) ||| m2 < 4096 := Nat.or_lt_two_pow (n := 12) (Nat.or_lt_two_pow (n := 12) (Nat.pow_lt_pow_right (by decide) hv) a2) b2
        have hbits : ∀ v, v < 12 → (((2 ^ A 0 f ||| m1) ||| m2).testBit v = true ↔ ¬ ind (dn f) v) := fun v hv2 => by
          rw [Nat.testBit_or, Nat.testBit_or, Bool.or_eq_true, Bool.or_eq_true, a3 v hv2, b3 v hv2, Nat.testBit_two_pow, decide_eq_true_iff, ind_node h fV]
          by_cases c1 : A 0 f = v
          · simp [c1]
          · by_cases c2 : ind (dn (A 1 f)) v
            · by_cases c3 : ind (dn (A 2 f)) v
              · simp [c1, c2, c3]
              · simp [c1, c2, c3]
            · simp [c1, c2]
        refine ⟨j_keep E2 (nI f) 0 (-1) (nI ((2 ^ A 0 f ||| m1) ||| m2)), (2 ^ A 0 f ||| m1) ||| m2, ?_, me_keep b1 ⟨f, (2 ^ A 0 f ||| m1) ||| m2, rfl, rfl, hf, hlt, hbits⟩, hlt, hbits⟩
        have ej := hang_r (d := d) (N := N) (E := E) (E1 := E1) (E2 := E2) (f := nI f) (m1 := nI m1) (m2 := nI m2) c0' ea (by rw [ev, f1]; exact p1) (by rw [ev, f2]; exact p2)
        rw [ev, eb] at ej
        exact ej
      · obtain ⟨f', m, e1, e2, v1, v2, e⟩ := ea
        have q1 := (nI_qq bf (tn_lt h v1)).mp e1
        subst q1
        exact ⟨E, m, by rw [hang_m c0' (by rw [e2]; exact neg1b v2), e2], he, v2, e⟩
end
theorem dfx_t {f g : Nat → Bool} {n : Nat} : dif f g n = true ↔ ∃ w, w < n ∧ f w ≠ g w := by
  induction n with
  | zero => exact ⟨fun q => absurd q Bool.false_ne_true, fun ⟨w, hw, _⟩ => absurd hw (Nat.not_lt_zero w)⟩
  | succ n ih =>
    show (dif f g n || (f n != g n)) = true ↔ _
    rw [Bool.or_eq_true, ih, bne_iff_ne]
    constructor
    · rintro (⟨w, hw, q⟩ | q)
      · exact ⟨w, by omega, q⟩
      · exact ⟨n, by omega, q⟩
    · rintro ⟨w, hw, q⟩
      by_cases c : w = n
      · subst c; exact Or.inr q
      · exact Or.inl ⟨w, by omega, q⟩
theorem dfx_f {f g : Nat → Bool} {n : Nat} : dif f g n = false ↔ ∀ w, w < n → f w = g w := by
  constructor
  · intro q w hw
    by_cases c : f w = g w
    · exact c
    · have := dfx_t.mpr ⟨w, hw, c⟩
      rw [q] at this
      cases this
  · intro q
    cases c : dif f g n
    · rfl
    · obtain ⟨w, hw, e⟩ := dfx_t.mp c
      exact absurd (q w hw) e
theorem hg_bits (f : Nat → Bool) : ∀ n, n ≤ 12 → ∃ k, k < 4096 ∧ hgI f n = nI k ∧ ∀ v, k.testBit v = (decide (v < n) && dif f (fun w => f (w ^^^ 2 ^ v)) 4096)
  | 0, _ => ⟨0, by decide, rfl, fun v => by simp⟩
  | n + 1, h => by
    obtain ⟨k, hk, e, hb⟩ := hg_bits f n (by omega)
    rw [hgI]
    by_cases c : dif f (fun w => f (w ^^^ 2 ^ n)) 4096 = true
    · rw [if_pos c, e, nx_sh (v := n) (by omega), nx_or]
      refine ⟨_, Nat.or_lt_two_pow (n := 12) hk (Nat.pow_lt_pow_right (by decide) (by omega)), rfl, fun v => ?_⟩
      rw [Nat.testBit_or, hb v, Nat.testBit_two_pow]
      by_cases q : n = v
      · subst q; simp [c]
      · rw [decide_eq_false q, Bool.or_false, show decide (v < n) = decide (v < n + 1) from decide_eq_decide.mpr (by omega)]
    · rw [if_neg c]
      refine ⟨k, hk, e, fun v => ?_⟩
      rw [hb v]
      by_cases q : n = v
      · subst q
        rw [Bool.not_eq_true] at c
        rw [c, Bool.and_false, Bool.and_false]
      · rw [show decide (v < n) = decide (v < n + 1) from decide_eq_decide.mpr (by omega)]
theorem xor_bs {w v : Nat} : (fun u => (w ^^^ 2 ^ v).testBit u) = bs (fun u => w.testBit u) v (!w.testBit v) := by
  funext u
  rw [Nat.testBit_xor, Nat.testBit_two_pow]
  by_cases c : u = v
  · subst c
    rw [bs_s, decide_eq_true rfl, Bool.xor_true]
  · rw [bs_n c, decide_eq_false (fun q => c q.symm), Bool.xor_false]
theorem bs_same {a : Nat → Bool} {v : Nat} {b : Bool} (h : a v = b) : bs a v b = a := by
  funext u
  by_cases c : u = v
  · subst c; rw [bs_s, h]
  · rw [bs_n c]
section
variable {A : Am} {V : Nat → Bool} {dn : Nat → Bf} {ch : Nat → List Nat} {fl : List Nat} {ext : Nat → Nat}
theorem ind_dif (h : tn A V dn ch fl ext) {f v : Nat} (hf : vl V f) (hv : v < 12) {F : Nat → Bool} (hF : ∀ w, w < 4096 → dn f (fun v => w.testBit v) = F w) : dif F (fun w => F (w ^^^ 2 ^ v)) 4096 = true ↔ ¬ ind (dn f) v := by
  rw [dfx_t]
  constructor
  · rintro ⟨w, hw, q⟩ hi
    refine q ?_
    show F w = F (w ^^^ 2 ^ v)
    rw [← hF w hw, ← hF _ (xw_lt hw hv), xor_bs, hi]
  · intro q
    rcases Classical.em (∃ w, w < 4096 ∧ F w ≠ F (w ^^^ 2 ^ v)) with c | c
    · exact c
    · exfalso
      refine q (fun a b => ?_)
      by_cases ea : a v = b
      · rw [bs_same ea]
      · have hw := tbc_lt 12 a
        have e1 : F (tbc a 12) = F (tbc a 12 ^^^ 2 ^ v) := by
          rcases Classical.em (F (tbc a 12) = F (tbc a 12 ^^^ 2 ^ v)) with z | z
          · exact z
          · exact absurd ⟨_, hw, z⟩ c
        rw [← hF _ hw, ← hF _ (xw_lt hw hv), xor_bs] at e1
        rw [tn_tb h hf a, e1]
        refine gi_same h.2.1 h.1 hf (fun x hx _ => ?_)
        by_cases cx : x = v
        · subst cx
          rw [bs_s, bs_s, tbc_bit 12 a x hx]
          revert ea
          cases a x <;> cases b <;> simp
        · rw [bs_n cx, bs_n cx, tbc_bit 12 a x hx]
theorem hang_hg (h : tn A V dn ch fl ext) {f m : Nat} (hf : vl V f) {F : Nat → Bool} (hF : ∀ w, w < 4096 → dn f (fun v => w.testBit v) = F w) (hm : m < 4096) (hb : ∀ v, v < 12 → (m.testBit v = true ↔ ¬ ind (dn f) v)) : nI m = hgI F 12 := by
  obtain ⟨k, hk, e, hk2⟩ := hg_bits F 12 (Nat.le_refl _)
  rw [e]
  refine congrArg nI (Nat.eq_of_testBit_eq (fun v => ?_))
  rw [hk2 v]
  by_cases c : v < 12
  · rw [decide_eq_true c, Bool.true_and, Bool.eq_iff_iff, hb v c, ind_dif h hf c hF]
  · rw [tb_lt hm (by omega), decide_eq_false c, Bool.false_and]
end
