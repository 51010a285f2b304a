/-! THE INVARIANT of a run of calls -/
def Iv (t : Nat) (N E : Mm) (V : Nat → Int32) (F : Nat → Nat → Bool) : Prop := ∃ (A : Am) (Vn : Nat → Bool) (dn : Nat → Bf) (ch : Nat → List Nat) (fl : List Nat) (sl : Nat → Nat) (ag : Nat), mr N A ∧ tn A Vn dn ch fl (ex sl) ∧ me E ag (fun _ _ _ _ => True) ∧ ag ≤ t + 1 ∧ A 9 4 ≤ 21475 ∧ ∀ s, s < 32 → V s = nI (sl s) ∧ ∀ w, w < 4096 → dn (sl s) (fun v => w.testBit v) = F s w
theorem any_t {f : Nat → Bool} {n : Nat} : anyb f n = true ↔ ∃ w, w < n ∧ f w = true := by
  constructor
  · intro q
    rcases Classical.em (∃ w, w < n ∧ f w = true) with z | z
    · exact z
    · have := (any_f (f := f) n).mpr (fun w hw => by
        cases c : f w
        · rfl
        · exact absurd ⟨w, hw, c⟩ z)
      rw [q] at this; cases this
  · rintro ⟨w, hw, q⟩
    cases c : anyb f n
    · have := (any_f n).mp c w hw
      rw [q] at this; cases this
    · rfl
theorem zb_n (b : Bool) : zb b = nI b.toNat := by cases b <;> rfl
theorem cl_e {i : Nat} (h : i < 32) : cl i = i := nI_clamp (by omega)
theorem rm_of {N : Mm} {A : Am} (h : mr N A) : rmN N = A 9 0 := by
  unfold rmN
  rw [h.1 0 (by omega)]
  exact nI_clamp (by have := h.2.2.2.2.2.2.2; omega)
section
variable {N E : Mm} {A : Am} {V : Nat → Bool} {dn : Nat → Bf} {ch : Nat → List Nat} {fl : List Nat} {sl : Nat → Nat} {W : Nat → Int32} {F : Nat → Nat → Bool} {t ag : Nat}
theorem slot_vl (h : tn A V dn ch fl (ex sl)) {s : Nat} (hs : s < 32) : vl V (sl s) := by
  rcases Nat.lt_or_ge (sl s) 2 with q | q
  · exact Or.inl (by omega)
  · refine Or.inr ?_
    cases c : V (sl s)
    · have a := h.2.2.2.2.2.2.2.2.2 _ q c
      have b := ex_pos (sl := sl) hs
      omega
    · rfl
theorem sok_of (hm : mr N A) (h : tn A V dn ch fl (ex sl)) : sok N :=
  ⟨⟨A 9 0, hm.1 0 (by omega), hm.2.2.2.2.2.2.1, hm.2.2.2.2.2.2.2⟩, fun k hk => ⟨A 8 k, lp_vr h.1 hk, hm.2.2.2.2.2.1 k (by omega)⟩, fun v hv => ⟨A 7 v, lp_lt h.1 hv, hm.2.2.2.2.1 v (by omega)⟩⟩
theorem tp_le (h : tn A V dn ch fl (ex sl)) : tp A V ≤ A 9 3 := by
  rw [h.2.2.2.2.2.2.1]
  exact pc_le (fun j _ q => by rw [Bool.and_eq_true] at q; exact q.1)
theorem I_put (hm : mr N A) (h : tn A V dn ch fl (ex sl)) (he : me E ag (fun _ _ _ _ => True)) (ha : ag ≤ t + 2) (hl : A 9 4 ≤ 21475) (hs : ∀ s, s < 32 → W s = nI (sl s) ∧ ∀ w, w < 4096 → dn (sl s) (fun v => w.testBit v) = F s w) {i r : Nat} (hi : i < 32) (hr : vl V r) {new : Nat → Bool} (hn : ∀ w, w < 4096 → dn r (fun v => w.testBit v) = new w) :
    Iv (t + 1) (j_put N W (nI i) (nI r)) E (upd W (cl i) (nI r)) (fp F i 4096 new) ∧ (nI r = W (cl i) ↔ dif (F i) new 4096 = false) := by
  have ei := cl_e hi
  have hv := slot_vl h hi
  obtain ⟨s1, s2⟩ := hs i hi
  constructor
  · obtain ⟨A', m, t1, e9⟩ := put_spec hm h hi hr hv
    have ej : j_put N W (nI i) (nI r) = j_refer (j_refer N (nI r) 1) (nI (sl i)) (-1) := by
      unfold j_put
      rw [show (nI i).toNatClampNeg = i from ei, s1]
    rw [ej, ei]
    refine ⟨A', V, dn, ch, fl, fu sl i r, ag, m, t1, he, ha, by rw [e9]; exact hl, fun s hs2 => ?_⟩
    by_cases c : s = i
    · subst c
      rw [upd_s, fu_s]
      refine ⟨rfl, fun w hw => ?_⟩
      unfold fp
      rw [if_pos ⟨rfl, hw⟩]
      exact hn w hw
    · rw [upd_n c, fu_n c]
      refine ⟨(hs s hs2).1, fun w hw => ?_⟩
      unfold fp
      rw [if_neg (fun q => c q.1)]
      exact (hs s hs2).2 w hw
  · rw [ei, s1, nI_qq (tn_lt h hr) (tn_lt h hv), dfx_f]
    constructor
    · intro q w hw
      rw [← s2 w hw, ← hn w hw, q]
    · intro q
      exact tn_eq h hr hv (fun w hw => by rw [hn w hw, s2 w hw, q w hw])
/-- what stands when a piece of work begins -/
theorem I_begin (hI : Iv t N E W F) (ht : t < 512) {need : Nat} (hn : need ≤ 3323) : ∃ (A : Am) (V : Nat → Bool) (dn : Nat → Bf) (ch : Nat → List Nat) (fl : List Nat) (sl : Nat → Nat) (ag : Nat), mr (j_makeRoom N (nI need)) A ∧ tn A V dn ch fl (ex sl) ∧ (∀ Q, me (j_forget E) ag Q) ∧ ag ≤ t + 2 ∧ A 9 4 ≤ 21475 ∧ tp A V + need + 2 ≤ A 9 0 ∧ A 9 3 + need + 2 ≤ A 9 0 ∧ rmN N ≤ A 9 0 ∧ (∀ s, s < 32 → W s = nI (sl s) ∧ ∀ w, w < 4096 → dn (sl s) (fun v => w.testBit v) = F s w) := by
  obtain ⟨A, Vn, dn, ch, fl, sl, ag, h1, h2, h3, h4, h5, h6⟩ := hI
  obtain ⟨A', V', ch', fl', a1, a2, a3, a4, a5⟩ := makeRoom_spec h1 h2 h5 hn
  have := tp_le a2
  exact ⟨A', V', dn, ch', fl', sl, ag + 1, a1, a2, fun Q => me_forget h3 (by omega), by omega, a3, by omega, a4, by rw [rm_of h1]; exact a5, h6⟩
theorem slots_grow {A' : Am} {V' : Nat → Bool} {dn' : Nat → Bf} (h : tn A V dn ch fl (ex sl)) (hg : grow A V dn A' V' dn') (hs : ∀ s, s < 32 → W s = nI (sl s) ∧ ∀ w, w < 4096 → dn (sl s) (fun v => w.testBit v) = F s w) : ∀ s, s < 32 → W s = nI (sl s) ∧ ∀ w, w < 4096 → dn' (sl s) (fun v => w.testBit v) = F s w := fun s q => by
  obtain ⟨a, b⟩ := hs s q
  refine ⟨a, fun w hw => ?_⟩
  rw [(hg.1 _ (slot_vl h q)).2.1]
  exact b w hw
theorem room_e {N' : Mm} {A' : Am} (hm : mr N A) (hm' : mr N' A') (e : A' 9 0 = A 9 0) : N' 0 0 = N 0 0 := by
  rw [hm.1 0 (by omega), hm'.1 0 (by omega), e]
end
theorem bud_12 : bud 12 = 511 := by decide
theorem cud_12 : cud 12 ≤ 2558 := by decide
def nX (V : Nat → Bool) (dn : Nat → Bf) (a b c r : Int32) : Prop := False
/-- one pick as a whole, whatever else the memo holds -/
theorem pick_12 {ext : Nat → Nat} {ag : Nat} {N E : Mm} {A : Am} {V : Nat → Bool} {dn : Nat → Bf} {ch : Nat → List Nat} {fl : List Nat} {f g k : Nat} (hm : mr N A) (h : tn A V dn ch fl ext) (he : me E ag (fun a b c r => PP V dn a b c r ∨ nX V dn a b c r)) (hf : vl V f) (hg : vl V g) (hk : vl V k) (hb : tp A V + 767 ≤ A 9 0) :
    ∃ (N' E' : Mm) (A' : Am) (V' : Nat → Bool) (dn' : Nat → Bf) (ch' : Nat → List Nat) (fl' : List Nat) (r : Nat), j_pick 12 N E (nI f) (nI g) (nI k) = (N', E', nI r) ∧ mr N' A' ∧ tn A' V' dn' ch' fl' ext ∧ me E' ag (fun a b c r => PP V' dn' a b c r ∨ nX V' dn' a b c r) ∧ grow A V dn A' V' dn' ∧ vl V' r ∧ dn' r = itf (dn f) (dn g) (dn k) ∧ tp A' V' ≤ tp A V + 511 := by
  have b := bud_12
  obtain ⟨N', E', A', V', dn', ch', fl', r, a1, a2, a3, a4, a5, a6, a7, a8⟩ := pick_spec (ext := ext) (ag := ag) (X := nX) (fun V dn a b c r q => q.elim) (fun _ _ _ _ _ _ _ _ _ _ _ q => q.elim) 12 N E A V dn ch fl f g k hm h he hf hg hk (by omega) (by omega) (by omega) (by rw [b]; omega)
  exact ⟨N', E', A', V', dn', ch', fl', r, a1, a2, a3, a4, a5, a6, a7, by omega⟩
/-- turning a way -/
theorem tq_bit : ∀ (n w u : Nat), u < 2 * n → ((w &&& mq n) * 2 + (w / 2 &&& mq n)).testBit u = w.testBit (u ^^^ 1)
  | 0, _, _, h => by omega
  | n + 1, w, u, h => by
    have e : (w &&& mq (n + 1)) * 2 + (w / 2 &&& mq (n + 1)) = 2 ^ 2 * ((w / 4 &&& mq n) * 2 + (w / 4 / 2 &&& mq n)) + (w % 2 * 2 + w / 2 % 2) := by
      show (w &&& (4 * mq n + 1)) * 2 + (w / 2 &&& (4 * mq n + 1)) = _
      rw [and_4, and_4, show w / 2 / 4 = w / 4 / 2 by omega]
      omega
    rw [e, Nat.testBit_two_pow_mul_add _ (by omega)]
    by_cases c : u < 2
    · rw [if_pos c]
      rcases (show u = 0 ∨ u = 1 by omega) with q | q
      · subst q
        rw [show (0 : Nat) ^^^ 1 = 1 from rfl, Nat.testBit_eq_decide_div_mod_eq, Nat.testBit_eq_decide_div_mod_eq]
        exact decide_eq_decide.mpr (by
          rw [show (2 : Nat) ^ 0 = 1 from rfl, show (2 : Nat) ^ 1 = 2 from rfl]; omega)
      · subst q
        rw [show (1 : Nat) ^^^ 1 = 0 from rfl, Nat.testBit_eq_decide_div_mod_eq, Nat.testBit_eq_decide_div_mod_eq]
        exact decide_eq_decide.mpr (by
          rw [show (2 : Nat) ^ 0 = 1 from rfl, show (2 : Nat) ^ 1 = 2 from rfl]; omega)
    · rw [if_neg c, tq_bit n (w / 4) (u - 2) (by omega)]
      have ex1 : u ^^^ 1 = ((u - 2) ^^^ 1) + 2 := by
        refine Nat.eq_of_testBit_eq (fun i => ?_)
        have hu : u = 2 ^ 1 * (u / 2) + u % 2 := by omega
        have hu2 : u - 2 = 2 ^ 1 * (u / 2 - 1) + u % 2 := by omega
        have xe : ∀ q b : Nat, b < 2 → (2 ^ 1 * q + b) ^^^ 1 = 2 ^ 1 * q + (1 - b) := fun q b hb => by
          refine Nat.eq_of_testBit_eq (fun j => ?_)
          rw [Nat.testBit_xor, Nat.testBit_two_pow_mul_add _ (by omega), Nat.testBit_two_pow_mul_add _ (by omega)]
          by_cases cj : j < 1
          · have : j = 0 := by omega
            subst this
            rw [if_pos cj, if_pos cj]
            rcases (show b = 0 ∨ b = 1 by omega) with z | z
            · subst z; rfl
            · subst z; rfl
          · rw [if_neg cj, if_neg cj, Nat.testBit_lt_two_pow (x := 1) (i := j) (Nat.lt_of_lt_of_le (by decide : 1 < 2 ^ 1) (Nat.pow_le_pow_right (by decide) (by omega))), Bool.xor_false]
        have h2 : u % 2 < 2 := Nat.mod_lt _ (by decide)
        rw [hu2, xe _ _ h2]
        conv => lhs; rw [hu]
        rw [xe _ _ h2]
        congr 1
        omega
      rw [ex1, show w / 4 = w / 2 ^ 2 from rfl, Nat.testBit_div_two_pow]
theorem tw_bit {w u : Nat} (h : u < 12) : (tw w).testBit u = w.testBit (u ^^^ 1) := tq_bit 6 w u h
