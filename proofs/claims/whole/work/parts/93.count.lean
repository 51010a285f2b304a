/-! count, and the slots that are not false -/
theorem cnt_2 (f : Nat → Bool) : ∀ n, cntb f (2 * n) = cntb (fun q => f (2 * q)) n + cntb (fun q => f (2 * q + 1)) n
  | 0 => rfl
  | n + 1 => by
    have ih := cnt_2 f n
    show cntb f (2 * n + 1 + 1) = _
    rw [cntb, cntb, cntb, cntb, ih]
    omega
theorem cnt_4 (f : Nat → Bool) (n : Nat) : cntb f (4 * n) = (cntb (fun q => f (4 * q)) n + cntb (fun q => f (4 * q + 2)) n) + (cntb (fun q => f (4 * q + 1)) n + cntb (fun q => f (4 * q + 3)) n) := by
  rw [show 4 * n = 2 * (2 * n) by omega, cnt_2, cnt_2, cnt_2]
  rw [show (fun q => f (2 * (2 * q))) = (fun q => f (4 * q)) from funext fun q => by rw [show 2 * (2 * q) = 4 * q by omega], show (fun q => f (2 * (2 * q + 1))) = (fun q => f (4 * q + 2)) from funext fun q => by rw [show 2 * (2 * q + 1) = 4 * q + 2 by omega], show (fun q => f (2 * (2 * q) + 1)) = (fun q => f (4 * q + 1)) from funext fun q => by rw [show 2 * (2 * q) + 1 = 4 * q + 1 by omega], show (fun q => f (2 * (2 * q + 1) + 1)) = (fun q => f (4 * q + 3)) from funext fun q => by rw [show 2 * (2 * q + 1) + 1 = 4 * q + 3 by omega]]
theorem and_4 (w m : Nat) : w &&& (4 * m + 1) = 4 * ((w / 4) &&& m) + w % 2 := by
  refine Nat.eq_of_testBit_eq (fun i => ?_)
  have e1 : 4 * m + 1 = 2 ^ 2 * m + 1 := rfl
  have e2 : 4 * ((w / 4) &&& m) + w % 2 = 2 ^ 2 * ((w / 4) &&& m) + w % 2 := rfl
  rw [Nat.testBit_and, e1, e2, Nat.testBit_two_pow_mul_add _ (by decide), Nat.testBit_two_pow_mul_add _ (by omega)]
  by_cases c : i < 2
  · rw [if_pos c, if_pos c]
    rcases (show i = 0 ∨ i = 1 by omega) with e | e
    · subst e
      rw [Nat.testBit_zero, Nat.testBit_zero, Nat.testBit_zero]
      simp
    · subst e
      have q : (w % 2).testBit 1 = false := Nat.testBit_lt_two_pow (by omega)
      rw [q, show Nat.testBit 1 1 = false from rfl, Bool.and_false]
  · rw [if_neg c, if_neg c, Nat.testBit_and]
    congr 1
    rw [show w / 4 = w / 2 ^ 2 from rfl, Nat.testBit_div_two_pow, show i - 2 + 2 = i by omega]
def mq : Nat → Nat
  | 0 => 0
  | n + 1 => 4 * mq n + 1
def sp_w : Nat → Nat → Nat
  | 0, _ => 0
  | n + 1, t => 4 * sp_w n (t / 2) + t % 2
theorem cnt_q : ∀ (n : Nat) (G : Nat → Bool), cntb (fun w => G (w &&& mq n)) (4 ^ n) = 2 ^ n * cntb (fun t => G (sp_w n t)) (2 ^ n)
  | 0, G => by
    show cntb (fun w => G (w &&& 0)) (0 + 1) = 1 * cntb (fun t => G 0) (0 + 1)
    rw [cntb, cntb, cntb, cntb]
    simp
  | n + 1, G => by
    have i0 := cnt_q n (fun x => G (4 * x))
    have i1 := cnt_q n (fun x => G (4 * x + 1))
    rw [show (4 : Nat) ^ (n + 1) = 4 * 4 ^ n by rw [Nat.pow_succ]; omega, show (2 : Nat) ^ (n + 1) = 2 * 2 ^ n by rw [Nat.pow_succ]; omega, cnt_4, cnt_2]
    have a : ∀ r, r < 4 → (fun q => G ((4 * q + r) &&& mq (n + 1))) = (fun q => G (4 * (q &&& mq n) + r % 2)) := fun r hr => funext fun q => by
      show G ((4 * q + r) &&& (4 * mq n + 1)) = _
      rw [and_4, show (4 * q + r) / 4 = q by omega, show (4 * q + r) % 2 = r % 2 by omega]
    have a0 : (fun q => G ((4 * q) &&& mq (n + 1))) = (fun q => G (4 * (q &&& mq n))) := a 0 (by omega)
    have a1 : (fun q => G ((4 * q + 1) &&& mq (n + 1))) = (fun q => G (4 * (q &&& mq n) + 1)) := a 1 (by omega)
    have a2 : (fun q => G ((4 * q + 2) &&& mq (n + 1))) = (fun q => G (4 * (q &&& mq n))) := a 2 (by omega)
    have a3 : (fun q => G ((4 * q + 3) &&& mq (n + 1))) = (fun q => G (4 * (q &&& mq n) + 1)) := a 3 (by omega)
    have s0 : (fun q => G (sp_w (n + 1) (2 * q))) = (fun q => G (4 * sp_w n q)) := funext fun q => by
      show G (4 * sp_w n (2 * q / 2) + 2 * q % 2) = _
      rw [show 2 * q / 2 = q by omega, show 2 * q % 2 = 0 by omega, Nat.add_zero]
    have s1 : (fun q => G (sp_w (n + 1) (2 * q + 1))) = (fun q => G (4 * sp_w n q + 1)) := funext fun q => by
      show G (4 * sp_w n ((2 * q + 1) / 2) + (2 * q + 1) % 2) = _
      rw [show (2 * q + 1) / 2 = q by omega, show (2 * q + 1) % 2 = 1 by omega]
    rw [a0, a1, a2, a3, s0, s1, i0, i1]
    rw [Nat.mul_assoc 2, Nat.mul_add, Nat.mul_add]
    omega
theorem mq_6 : mq 6 = 1365 := rfl
theorem sp_st : ∀ t, t < 64 → (nI (sp_w 6 t) - 1365) &&& 1365 = nI (sp_w 6 (t + 1)) := by decide +kernel
theorem sp_lt : ∀ t, t < 65 → sp_w 6 t < 4096 := by decide +kernel
theorem ind_list {f : Bf} {O : Nat → Bool} (h : ∀ v, O v = true → v < 12 → ind f v) : ∀ n, n ≤ 12 → ∀ a b : Nat → Bool, f (fun u => if u < n ∧ O u = true then b u else a u) = f a
  | 0, _, a, b => congrArg f (funext fun u => if_neg (fun q => absurd q.1 (Nat.not_lt_zero u)))
  | n + 1, hn, a, b => by
    rw [← ind_list h n (by omega) a b]
    by_cases c : O n = true
    · rw [← h n c (by omega) (fun u => if u < n ∧ O u = true then b u else a u) (b n)]
      refine congrArg f (funext fun u => ?_)
      by_cases e : u = n
      · subst e; rw [bs_s, if_pos ⟨by omega, c⟩]
      · rw [bs_n e]
        by_cases q : u < n ∧ O u = true
        · rw [if_pos q, if_pos ⟨by omega, q.2⟩]
        · rw [if_neg q, if_neg (fun z => q ⟨by have := z.1; omega, z.2⟩)]
    · refine congrArg f (funext fun u => ?_)
      by_cases q : u < n ∧ O u = true
      · rw [if_pos q, if_pos ⟨by omega, q.2⟩]
      · rw [if_neg q, if_neg (fun z => q ⟨by
          by_cases e : u = n
          · rw [e] at z; exact absurd z.2 c
          · have := z.1; omega, z.2⟩)]
theorem cnt_cg {f g : Nat → Bool} : ∀ n, (∀ w, w < n → f w = g w) → cntb f n = cntb g n
  | 0, _ => rfl
  | n + 1, h => by rw [cntb, cntb, cnt_cg n (fun w hw => h w (by omega)), h n (by omega)]
theorem any_f {f : Nat → Bool} : ∀ n, anyb f n = false ↔ ∀ w, w < n → f w = false
  | 0 => ⟨fun _ w hw => absurd hw (Nat.not_lt_zero w), fun _ => rfl⟩
  | n + 1 => by
    show (anyb f n || f n) = false ↔ _
    rw [Bool.or_eq_false_iff, any_f n]
    constructor
    · rintro ⟨h1, h2⟩ w hw
      by_cases e : w = n
      · rw [e]; exact h2
      · exact h1 w (by omega)
    · intro h
      exact ⟨fun w hw => h w (by omega), h n (by omega)⟩
section
variable {N : Mm} {A : Am} {V : Nat → Bool} {dn : Nat → Bf} {ch : Nat → List Nat} {fl : List Nat} {ext : Nat → Nat}
theorem bt_0 : ∀ b : Bool, nI b.toNat = 0 ↔ b = false := by
  intro b
  cases b
  · exact ⟨fun _ => rfl, fun _ => rfl⟩
  · exact ⟨fun q => absurd q (by decide), fun q => by cases q⟩
theorem countL_spec (hm : mr N A) (h : tn A V dn ch fl ext) {g : Nat} (hg : vl V g) {F : Nat → Bool} (hF : ∀ w, w < 4096 → dn g (fun v => w.testBit v) = F w) : ∀ (n t : Nat), t + n ≤ 64 → j_countL N (nI g) n (nI (cntb (fun s => F (sp_w 6 s)) t)) (nI (sp_w 6 t)) = nI (cntb (fun s => F (sp_w 6 s)) (t + n))
  | 0, t, _ => rfl
  | n + 1, t, ht => by
    have hlt := sp_lt t (by omega)
    have ih := countL_spec hm h hg hF n (t + 1) (by omega)
    rw [show t + 1 + n = t + (n + 1) by omega] at ih
    rw [← ih, j_countL, sp_st t (by omega), truth_spec hm h (by omega) hg, hF _ hlt]
    congr 1
    show _ = nI (cntb (fun s => F (sp_w 6 s)) t + (if F (sp_w 6 t) then 1 else 0))
    cases F (sp_w 6 t)
    · rw [if_pos (show nI false.toNat = 0 from rfl), if_neg Bool.false_ne_true, Nat.add_zero]
    · rw [if_neg (show ¬ nI true.toNat = 0 by decide), if_pos rfl, nI_1]
theorem count_spec (hm : mr N A) (h : tn A V dn ch fl ext) {g : Nat} (hg : vl V g) {F : Nat → Bool} (hF : ∀ w, w < 4096 → dn g (fun v => w.testBit v) = F w) (hh : hgI F 12 &&& 2730 = 0) : j_countL N (nI g) 64 0 0 = nI (cntb F 4096 / 64) := by
  obtain ⟨k, hk, e, hb⟩ := hg_bits F 12 (Nat.le_refl _)
  have hle : k &&& 2730 ≤ 2730 := Nat.and_le_right
  rw [e, show (2730 : Int32) = nI 2730 from rfl, nx_and, show (0 : Int32) = nI 0 from rfl, nI_eq (by omega) (by omega)] at hh
  have hi : ∀ v, Nat.testBit 2730 v = true → v < 12 → ind (dn g) v := fun v q hv => by
    rcases Classical.em (ind (dn g) v) with z | z
    · exact z
    · exfalso
      have z' := (ind_dif h hg hv hF).mpr z
      have := congrArg (fun x => Nat.testBit x v) hh
      simp only [Nat.testBit_and, Nat.zero_testBit] at this
      rw [hb v, q, z', decide_eq_true hv] at this
      cases this
  have hev : ∀ w, w < 4096 → F w = (fun x => F x) (w &&& mq 6) := fun w hw => by
    show F w = F (w &&& mq 6)
    have hlt : w &&& mq 6 < 4096 := Nat.lt_of_le_of_lt Nat.and_le_left hw
    rw [← hF w hw, ← hF _ hlt, ← ind_list (O := fun v => Nat.testBit 2730 v) hi 12 (Nat.le_refl _) (fun v => w.testBit v) (fun _ => false)]
    refine gi_same h.2.1 h.1 hg (fun x hx _ => ?_)
    have tb : ∀ x, x < 12 → Nat.testBit 2730 x = !Nat.testBit 1365 x := by decide
    show (if x < 12 ∧ Nat.testBit 2730 x = true then false else w.testBit x) = (w &&& mq 6).testBit x
    rw [Nat.testBit_and, mq_6, tb x hx]
    cases Nat.testBit 1365 x
    · rw [if_pos ⟨hx, rfl⟩, Bool.and_false]
    · rw [if_neg (fun q => by cases q.2), Bool.and_true]
  have c1 : cntb F 4096 = 64 * cntb (fun s => F (sp_w 6 s)) 64 := by
    rw [cnt_cg 4096 hev]
    exact cnt_q 6 F
  rw [c1, Nat.mul_div_cancel_left _ (by decide)]
  have := countL_spec hm h hg hF 64 0 (by omega)
  exact this
theorem notFalse_spec (h : tn A V dn ch fl ext) {sl : Nat → Nat} (hsl : ∀ s, s < 32 → vl V (sl s)) {W : Nat → Int32} {F : Nat → Nat → Bool} (hW : ∀ s, s < 32 → W s = nI (sl s)) (hF : ∀ s, s < 32 → ∀ w, w < 4096 → dn (sl s) (fun v => w.testBit v) = F s w) : ∀ (n j : Nat), j + n ≤ 32 → j_notFalse W n j (nI (cntb (fun a => anyb (F a) 4096) j)) = nI (cntb (fun a => anyb (F a) 4096) (j + n))
  | 0, j, _ => rfl
  | n + 1, j, hj => by
    have ih := notFalse_spec h hsl hW hF n (j + 1) (by omega)
    rw [show j + 1 + n = j + (n + 1) by omega] at ih
    rw [← ih, j_notFalse, hW j (by omega)]
    have key : nI (sl j) = 0 ↔ anyb (F j) 4096 = false := by
      rw [nI_q0 (tn_lt h (hsl j (by omega))), any_f]
      have e0 := h.2.1.2.1.2.2.1
      constructor
      · intro q w hw
        rw [← hF j (by omega) w hw, q, e0]
      · intro q
        refine tn_eq h (hsl j (by omega)) (Or.inl (by omega)) (fun w hw => ?_)
        rw [hF j (by omega) w hw, q w hw, e0]
    refine congrArg (j_notFalse W n (j + 1)) ?_
    rw [cntb]
    cases c : anyb (F j) 4096
    · rw [if_pos (key.mpr c), if_neg Bool.false_ne_true, Nat.add_zero]
    · rw [if_neg (fun q => by rw [key.mp q] at c; cases c), if_pos rfl, nI_1]
end
