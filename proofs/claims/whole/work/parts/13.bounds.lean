/-! PURE, 4: how many nodes there can be. -/
/-- a row of n truths as a number -/
def tbc (f : Nat → Bool) : Nat → Nat
  | 0 => 0
  | n + 1 => (f 0).toNat + 2 * tbc (fun m => f (m + 1)) n
theorem tbc_lt : ∀ (n : Nat) (f : Nat → Bool), tbc f n < 2 ^ n
  | 0, _ => by simp [tbc]
  | n + 1, f => by
    have h := tbc_lt n (fun m => f (m + 1))
    have b := Bool.toNat_le (f 0)
    show (f 0).toNat + 2 * tbc (fun m => f (m + 1)) n < 2 ^ (n + 1)
    rw [Nat.pow_succ]
    omega
theorem tbc_bit : ∀ (n : Nat) (f : Nat → Bool) (j : Nat), j < n → (tbc f n).testBit j = f j
  | 0, _, _, h => by omega
  | n + 1, f, 0, _ => by
    show ((f 0).toNat + 2 * tbc (fun m => f (m + 1)) n).testBit 0 = f 0
    rw [Nat.testBit_zero]
    cases f 0
    · simp
    · simp
  | n + 1, f, j + 1, h => by
    show ((f 0).toNat + 2 * tbc (fun m => f (m + 1)) n).testBit (j + 1) = f (j + 1)
    rw [Nat.testBit_add_one]
    have b := Bool.toNat_le (f 0)
    rw [show ((f 0).toNat + 2 * tbc (fun m => f (m + 1)) n) / 2 = tbc (fun m => f (m + 1)) n by omega]
    exact tbc_bit n (fun m => f (m + 1)) j (by omega)
theorem tbc_inj {n : Nat} {f g : Nat → Bool} (h : tbc f n = tbc g n) (j : Nat) (hj : j < n) : f j = g j := by
  rw [← tbc_bit n f j hj, ← tbc_bit n g j hj, h]
section
variable {lv vr : Nat → Nat} {V T : Nat → Bool} {L : Nat} {va lo hi : Nat → Nat} {dn : Nat → Bf}
/-- the last three levels hold 254 nodes at most: with the ends, all functions of three variables -/
theorem gi_bot (h : gi lv V T L va lo hi dn) (hp : lp lv vr) {n : Nat} (hn : 2 ≤ n) : pc_cnt (fun i => V i && decide (9 ≤ rk lv va T L i)) n ≤ 254 := by
  have V0 := gi_V0 h (i := 0) (by omega)
  have V1 := gi_V0 h (i := 1) (by omega)
  have c1 := pc_up (P := fun i => V i && decide (9 ≤ rk lv va T L i)) (Q := fu (fun i => V i && decide (9 ≤ rk lv va T L i)) 0 true) (k := 0) (n := n) (by omega) (fun j hj => fu_n hj) (by simp [V0]) (fu_s _ _ _)
  have c2 := pc_up (P := fu (fun i => V i && decide (9 ≤ rk lv va T L i)) 0 true) (Q := fu (fu (fun i => V i && decide (9 ≤ rk lv va T L i)) 0 true) 1 true) (k := 1) (n := n) (by omega) (fun j hj => fu_n hj) (by rw [fu_n (by omega)]; simp [V1]) (fu_s _ _ _)
  have hq : ∀ i, fu (fu (fun i => V i && decide (9 ≤ rk lv va T L i)) 0 true) 1 true i = true → vl V i ∧ 9 ≤ rk lv va T L i := fun i q => by
    by_cases e1 : i = 1
    · subst e1
      exact ⟨Or.inl (by omega), by rw [rk_f (gi_T0 h (by omega)), gi_end h (by omega), hp.2.2]; omega⟩
    · rw [fu_n e1] at q
      by_cases e0 : i = 0
      · subst e0
        exact ⟨Or.inl (by omega), by rw [rk_f (gi_T0 h (by omega)), gi_end h (by omega), hp.2.2]; omega⟩
      · rw [fu_n e0] at q
        simp at q
        exact ⟨Or.inr q.1, q.2⟩
  have hc : pc_cnt (fu (fu (fun i => V i && decide (9 ≤ rk lv va T L i)) 0 true) 1 true) n ≤ 256 := by
    refine pc_pigeon (fun i => tbc (fun m => dn i (fun x => m.testBit (lv x - 9))) 8) (fun j _ _ => tbc_lt 8 _) (fun i j _ _ qi qj e => ?_)
    obtain ⟨vi, ri⟩ := hq i qi
    obtain ⟨vj, rj⟩ := hq j qj
    refine h.2.2.2.1 i j vi vj (funext fun a => ?_)
    have hm : tbc (fun t => a (vr (9 + t))) 3 < 8 := tbc_lt 3 _
    have hb : ∀ x, x < 12 → 9 ≤ lv x → a x = (tbc (fun t => a (vr (9 + t))) 3).testBit (lv x - 9) := fun x hx h9 => by
      have hlt := lp_lt hp hx
      rw [tbc_bit 3 _ (lv x - 9) (by omega)]
      rw [show 9 + (lv x - 9) = lv x by omega, (hp.1 x (by omega)).2]
    rw [gi_same h hp vi (b := fun x => (tbc (fun t => a (vr (9 + t))) 3).testBit (lv x - 9)) (fun x hx hr => hb x hx (by omega)), gi_same h hp vj (a := a) (b := fun x => (tbc (fun t => a (vr (9 + t))) 3).testBit (lv x - 9)) (fun x hx hr => hb x hx (by omega))]
    exact tbc_inj e _ hm
  omega
/-- where a way from slot s stands when the levels below k have been asked -/
def gw (lv vr va lo hi sl : Nat → Nat) (a : Nat → Bool) (s : Nat) : Nat → Nat
  | 0 => sl s
  | k + 1 => if lv (va (gw lv vr va lo hi sl a s k)) = k then (if a (vr k) = true then hi (gw lv vr va lo hi sl a s k) else lo (gw lv vr va lo hi sl a s k)) else gw lv vr va lo hi sl a s k
theorem gw_cong {sl : Nat → Nat} {a b : Nat → Bool} {s : Nat} : ∀ {k : Nat}, (∀ j, j < k → a (vr j) = b (vr j)) → gw lv vr va lo hi sl a s k = gw lv vr va lo hi sl b s k
  | 0, _ => rfl
  | k + 1, h => by
    have e := gw_cong (sl := sl) (s := s) (k := k) (fun j hj => h j (by omega))
    show (if lv (va (gw lv vr va lo hi sl a s k)) = k then (if a (vr k) = true then hi (gw lv vr va lo hi sl a s k) else lo (gw lv vr va lo hi sl a s k)) else gw lv vr va lo hi sl a s k) = (if lv (va (gw lv vr va lo hi sl b s k)) = k then (if b (vr k) = true then hi (gw lv vr va lo hi sl b s k) else lo (gw lv vr va lo hi sl b s k)) else gw lv vr va lo hi sl b s k)
    rw [e, h k (by omega)]
theorem gw_stay {sl : Nat → Nat} {a : Nat → Bool} {s i k : Nat} (h : gw lv vr va lo hi sl a s k = i) : ∀ (d : Nat), k + d ≤ lv (va i) → gw lv vr va lo hi sl a s (k + d) = i
  | 0, _ => h
  | d + 1, hd => by
    have e := gw_stay h d (by omega)
    show (if lv (va (gw lv vr va lo hi sl a s (k + d))) = k + d then (if a (vr (k + d)) = true then hi (gw lv vr va lo hi sl a s (k + d)) else lo (gw lv vr va lo hi sl a s (k + d))) else gw lv vr va lo hi sl a s (k + d)) = i
    rw [e, if_neg (by omega)]
/-- every node to which something refers is met on a way from a slot -/
theorem gw_all (h : gi lv V (fun _ => false) L va lo hi dn) (hp : lp lv vr) {sl : Nat → Nat} (hr : ∀ i, V i = true → (∃ s, s < 32 ∧ sl s = i) ∨ (∃ j, V j = true ∧ (lo j = i ∨ hi j = i))) : ∀ (n i : Nat), V i = true → lv (va i) < n → ∃ (s : Nat) (a : Nat → Bool), s < 32 ∧ gw lv vr va lo hi sl a s (lv (va i)) = i := by
  intro n
  induction n with
  | zero => intro i _ q; omega
  | succ n ih =>
    intro i hv hn
    rcases hr i hv with ⟨s, hs, e⟩ | ⟨j, hj, e⟩
    · refine ⟨s, fun _ => false, hs, ?_⟩
      have := gw_stay (lv := lv) (vr := vr) (va := va) (lo := lo) (hi := hi) (sl := sl) (a := fun _ => false) (s := s) (i := i) (k := 0) e (lv (va i)) (by omega)
      rw [Nat.zero_add] at this
      exact this
    · have ho := h.2.2.2.2.1 j hj rfl
      rw [rk_f rfl, rk_f rfl] at ho
      have jlt := lp_lt hp (h.1 j hj).2.1
      have key : ∀ b : Bool, (if b = true then hi j else lo j) = i → ∃ (s : Nat) (a : Nat → Bool), s < 32 ∧ gw lv vr va lo hi sl a s (lv (va i)) = i := by
        intro b hb
        have hlt : lv (va j) < lv (va i) := by
          cases b
          · rw [if_neg (by simp)] at hb; rw [hb] at ho; exact ho.1
          · rw [if_pos rfl] at hb; rw [hb] at ho; exact ho.2
        obtain ⟨s, a, hs, e1⟩ := ih j hj (by omega)
        refine ⟨s, bs a (vr (lv (va j))) b, hs, ?_⟩
        have e2 : gw lv vr va lo hi sl (bs a (vr (lv (va j))) b) s (lv (va j)) = j := by
          refine (gw_cong (b := a) (fun t ht => ?_)).trans e1
          refine bs_n (fun q => ?_)
          have q1 := (hp.2.1 t (by omega)).2
          rw [q, (hp.2.1 (lv (va j)) (by omega)).2] at q1
          omega
        have e3 : gw lv vr va lo hi sl (bs a (vr (lv (va j))) b) s (lv (va j) + 1) = i := by
          show (if lv (va (gw lv vr va lo hi sl (bs a (vr (lv (va j))) b) s (lv (va j)))) = lv (va j) then (if bs a (vr (lv (va j))) b (vr (lv (va j))) = true then hi (gw lv vr va lo hi sl (bs a (vr (lv (va j))) b) s (lv (va j))) else lo (gw lv vr va lo hi sl (bs a (vr (lv (va j))) b) s (lv (va j)))) else gw lv vr va lo hi sl (bs a (vr (lv (va j))) b) s (lv (va j))) = i
          rw [e2, if_pos rfl, bs_s]
          exact hb
        have := gw_stay e3 (lv (va i) - (lv (va j) + 1)) (by omega)
        rw [show lv (va j) + 1 + (lv (va i) - (lv (va j) + 1)) = lv (va i) by omega] at this
        exact this
      rcases e with e | e
      · exact key false (by simpa using e)
      · exact key true (by simpa using e)
theorem gi_level (h : gi lv V (fun _ => false) L va lo hi dn) (hp : lp lv vr) {sl : Nat → Nat} (hr : ∀ i, V i = true → (∃ s, s < 32 ∧ sl s = i) ∨ (∃ j, V j = true ∧ (lo j = i ∨ hi j = i))) (n k : Nat) : pc_cnt (fun i => V i && lv (va i) == k) n ≤ 32 * 2 ^ k := by
  refine pc_hit (fun q => gw lv vr va lo hi sl (fun x => (q / 32).testBit (lv x)) (q % 32) k) (fun i _ q => ?_)
  simp at q
  obtain ⟨qv, qk⟩ := q
  obtain ⟨s, a, hs, e⟩ := gw_all h hp hr (lv (va i) + 1) i qv (by omega)
  have hk : k < 12 := by rw [← qk]; exact lp_lt hp (h.1 i qv).2.1
  rw [qk] at e
  have hm := tbc_lt k (fun j => a (vr j))
  refine ⟨32 * tbc (fun j => a (vr j)) k + s, ?_, ?_⟩
  · have : tbc (fun j => a (vr j)) k + 1 ≤ 2 ^ k := hm
    omega
  · show gw lv vr va lo hi sl (fun x => ((32 * tbc (fun j => a (vr j)) k + s) / 32).testBit (lv x)) ((32 * tbc (fun j => a (vr j)) k + s) % 32) k = i
    rw [show (32 * tbc (fun j => a (vr j)) k + s) / 32 = tbc (fun j => a (vr j)) k by omega, show (32 * tbc (fun j => a (vr j)) k + s) % 32 = s by omega, ← e]
    refine gw_cong (fun j hj => ?_)
    show (tbc (fun j => a (vr j)) k).testBit (lv (vr j)) = a (vr j)
    rw [(hp.2.1 j (by omega)).2, tbc_bit k _ j hj]
/-- all together: 32 * 511 + 254 -/
theorem gi_size (h : gi lv V (fun _ => false) L va lo hi dn) (hp : lp lv vr) {sl : Nat → Nat} (hr : ∀ i, V i = true → (∃ s, s < 32 ∧ sl s = i) ∨ (∃ j, V j = true ∧ (lo j = i ∨ hi j = i))) {n : Nat} (hn : 2 ≤ n) : pc_cnt V n ≤ 16606 := by
  have h1 := pc_split V (fun i => decide (lv (va i) < 9)) n
  have h2 := pc_levels (P := V) (g := fun i => lv (va i)) (n := n) (m := 9) (fun k _ => gi_level h hp hr n k)
  have h3 := gi_bot h hp hn
  have h4 : pc_cnt (fun i => V i && !decide (lv (va i) < 9)) n = pc_cnt (fun i => V i && decide (9 ≤ rk lv va (fun _ => false) L i)) n := pc_congr (fun i _ => by
    rw [rk_f rfl]
    cases V i
    · rfl
    · simp only [Bool.true_and]
      rw [Bool.eq_iff_iff]
      simp)
  rw [h4] at h1
  omega
end
