/-! PURE, 2: the graph of nodes. lv: the level of a variable; V: the nodes that are there; T: those that wait to be written anew while the levels L and L + 1 change places; va, lo, hi: what a node asks, and its children; dn: what function a node stands for. -/
abbrev Bf : Type := (Nat → Bool) → Bool
def bs (a : Nat → Bool) (v : Nat) (b : Bool) : Nat → Bool := fun u => if u = v then b else a u
theorem bs_s (a : Nat → Bool) (v : Nat) (b : Bool) : bs a v b v = b := if_pos rfl
theorem bs_n {a : Nat → Bool} {v : Nat} {b : Bool} {u : Nat} (h : u ≠ v) : bs a v b u = a u := if_neg h
def ind (f : Bf) (x : Nat) : Prop := ∀ (a : Nat → Bool) (b : Bool), f (bs a x b) = f a
def mk (v : Nat) (fl fh : Bf) : Bf := fun a => bif a v then fh a else fl a
theorem mk_t {v : Nat} {fl fh : Bf} {a : Nat → Bool} (h : a v = true) : mk v fl fh a = fh a := by simp [mk, h]
theorem mk_f {v : Nat} {fl fh : Bf} {a : Nat → Bool} (h : a v = false) : mk v fl fh a = fl a := by simp [mk, h]
theorem ind_mk {v x : Nat} {fl fh : Bf} (hx : v ≠ x) (h1 : ind fl x) (h2 : ind fh x) : ind (mk v fl fh) x := fun a b => by
  show (bif bs a x b v then fh (bs a x b) else fl (bs a x b)) = (bif a v then fh a else fl a)
  rw [bs_n hx, h1, h2]
theorem mk_dep {v : Nat} {fl fh : Bf} (h1 : ind fl v) (h2 : ind fh v) (hne : fl ≠ fh) : ¬ ind (mk v fl fh) v := fun h => by
  refine hne (funext fun a => ?_)
  have e1 : mk v fl fh (bs a v false) = fl a := by rw [mk_f (bs_s a v false), h1]
  have e2 : mk v fl fh (bs a v true) = fh a := by rw [mk_t (bs_s a v true), h2]
  rw [← e1, ← e2, h, h]
theorem mk_inj {v : Nat} {f1 f2 g1 g2 : Bf} (a1 : ind f1 v) (a2 : ind f2 v) (b1 : ind g1 v) (b2 : ind g2 v) (h : mk v f1 g1 = mk v f2 g2) : f1 = f2 ∧ g1 = g2 := by
  constructor
  · funext a
    have := congrFun h (bs a v false)
    rw [mk_f (bs_s a v false), mk_f (bs_s a v false), a1, a2] at this
    exact this
  · funext a
    have := congrFun h (bs a v true)
    rw [mk_t (bs_s a v true), mk_t (bs_s a v true), b1, b2] at this
    exact this
theorem mk_same (v : Nat) (f : Bf) : mk v f f = f := by
  funext a
  unfold mk
  cases a v <;> rfl
/-- the order: lv and vr undo each other on 0 .. 12, and 12 (the ends) stands last -/
def lp (lv vr : Nat → Nat) : Prop := (∀ v, v < 13 → lv v < 13 ∧ vr (lv v) = v) ∧ (∀ k, k < 13 → vr k < 13 ∧ lv (vr k) = k) ∧ lv 12 = 12
theorem lp_inj {lv vr : Nat → Nat} (h : lp lv vr) {u v : Nat} (hu : u < 13) (hv : v < 13) (e : lv u = lv v) : u = v := by
  rw [← (h.1 u hu).2, ← (h.1 v hv).2, e]
theorem lp_lt {lv vr : Nat → Nat} (h : lp lv vr) {v : Nat} (hv : v < 12) : lv v < 12 := by
  have h1 := (h.1 v (by omega)).1
  rcases Nat.lt_or_ge (lv v) 12 with q | q
  · exact q
  · have e : lv v = lv 12 := by rw [h.2.2]; omega
    have := lp_inj h (by omega) (by omega) e
    omega
theorem lp_vr {lv vr : Nat → Nat} (h : lp lv vr) {k : Nat} (hk : k < 12) : vr k < 12 := by
  obtain ⟨h1, h2⟩ := h.2.1 k (by omega)
  rcases Nat.lt_or_ge (vr k) 12 with q | q
  · exact q
  · have e : vr k = 12 := by omega
    rw [e, h.2.2] at h2
    omega
def vl (V : Nat → Bool) (i : Nat) : Prop := i ≤ 1 ∨ V i = true
def rk (lv va : Nat → Nat) (T : Nat → Bool) (L i : Nat) : Nat := if T i = true then L else lv (va i)
theorem rk_f {lv va : Nat → Nat} {T : Nat → Bool} {L i : Nat} (h : T i = false) : rk lv va T L i = lv (va i) := by
  unfold rk; rw [h]; rfl
theorem rk_t {lv va : Nat → Nat} {T : Nat → Bool} {L i : Nat} (h : T i = true) : rk lv va T L i = L := if_pos h
def gpk (lv : Nat → Nat) (V T : Nat → Bool) (L : Nat) (va lo hi : Nat → Nat) (c : Nat) : Prop := T c = false ∧ (L + 1 < lv (va c) ∨ (lv (va c) = L ∧ V c = true ∧ L + 1 < lv (va (lo c)) ∧ L + 1 < lv (va (hi c))))
def gi (lv : Nat → Nat) (V T : Nat → Bool) (L : Nat) (va lo hi : Nat → Nat) (dn : Nat → Bf) : Prop :=
  (∀ i, V i = true → 2 ≤ i ∧ va i < 12 ∧ vl V (lo i) ∧ vl V (hi i)) ∧
  (va 0 = 12 ∧ va 1 = 12 ∧ dn 0 = (fun _ => false) ∧ dn 1 = (fun _ => true)) ∧
  (∀ i, V i = true → dn i = mk (va i) (dn (lo i)) (dn (hi i))) ∧
  (∀ i j, vl V i → vl V j → dn i = dn j → i = j) ∧
  (∀ i, V i = true → T i = false → lv (va i) < rk lv va T L (lo i) ∧ lv (va i) < rk lv va T L (hi i)) ∧
  (∀ i, T i = true → V i = true ∧ lv (va i) = L + 1 ∧ gpk lv V T L va lo hi (lo i) ∧ gpk lv V T L va lo hi (hi i) ∧ (lv (va (lo i)) = L ∨ lv (va (hi i)) = L))
section
variable {lv vr : Nat → Nat} {V T : Nat → Bool} {L : Nat} {va lo hi : Nat → Nat} {dn : Nat → Bf}
theorem gi_T0 (h : gi lv V T L va lo hi dn) {i : Nat} (hi1 : i ≤ 1) : T i = false := by
  cases ht : T i
  · rfl
  · have := (h.1 i (h.2.2.2.2.2 i ht).1).1
    omega
theorem gi_V0 (h : gi lv V T L va lo hi dn) {i : Nat} (hi1 : i ≤ 1) : V i = false := by
  cases ht : V i
  · rfl
  · have := (h.1 i ht).1
    omega
theorem gi_va (h : gi lv V T L va lo hi dn) {i : Nat} (hv : vl V i) : va i < 13 := by
  rcases hv with q | q
  · have e : i = 0 ∨ i = 1 := by omega
    rcases e with e | e
    · rw [e, h.2.1.1]; omega
    · rw [e, h.2.1.2.1]; omega
  · have := (h.1 i q).2.1
    omega
theorem gi_end (h : gi lv V T L va lo hi dn) {i : Nat} (hi1 : i ≤ 1) : va i = 12 := by
  have e : i = 0 ∨ i = 1 := by omega
  rcases e with e | e
  · rw [e, h.2.1.1]
  · rw [e, h.2.1.2.1]
/-- a node's function hangs only on the variables from its rank on -/
theorem gi_cong (h : gi lv V T L va lo hi dn) (hp : lp lv vr) : ∀ (n i : Nat), vl V i → 2 * (13 - rk lv va T L i) + (T i).toNat ≤ n → ∀ (a b : Nat → Bool), (∀ x, x < 12 → rk lv va T L i ≤ lv x → a x = b x) → dn i a = dn i b := by
  intro n
  induction n with
  | zero =>
    intro i hv hm a b hab
    rcases hv with q | q
    · have e : i = 0 ∨ i = 1 := by omega
      rcases e with e | e
      · rw [e, h.2.1.2.2.1]
      · rw [e, h.2.1.2.2.2]
    · exfalso
      have hva := (h.1 i q).2.1
      have h1 := lp_lt hp hva
      cases ht : T i
      · rw [rk_f ht] at hm; omega
      · rw [ht] at hm; simp at hm
  | succ n ih =>
    intro i hv hm a b hab
    rcases hv with q | q
    · have e : i = 0 ∨ i = 1 := by omega
      rcases e with e | e
      · rw [e, h.2.1.2.2.1]
      · rw [e, h.2.1.2.2.2]
    · obtain ⟨-, hva, hl, hh⟩ := h.1 i q
      have hlt := lp_lt hp hva
      rw [h.2.2.1 i q]
      have key : ∀ c, vl V c → (2 * (13 - rk lv va T L c) + (T c).toNat ≤ n) → rk lv va T L i ≤ rk lv va T L c → dn c a = dn c b := fun c hc hn hr => ih c hc hn a b (fun x hx hxc => hab x hx (Nat.le_trans hr hxc))
      have hroot : a (va i) = b (va i) := by
        refine hab (va i) hva ?_
        cases ht : T i
        · rw [rk_f ht]; exact Nat.le_refl _
        · rw [rk_t ht, (h.2.2.2.2.2 i ht).2.1]; omega
      have hch : dn (lo i) a = dn (lo i) b ∧ dn (hi i) a = dn (hi i) b := by
        cases ht : T i
        · obtain ⟨r1, r2⟩ := h.2.2.2.2.1 i q ht
          rw [rk_f ht, ht] at hm
          have t1 : (T (lo i)).toNat ≤ 1 := Bool.toNat_le _
          have t2 : (T (hi i)).toNat ≤ 1 := Bool.toNat_le _
          simp only [Bool.toNat_false] at hm
          refine ⟨key _ hl (by omega) (by rw [rk_f ht]; omega), key _ hh (by omega) (by rw [rk_f ht]; omega)⟩
        · obtain ⟨-, r0, ⟨t1, r1⟩, ⟨t2, r2⟩, -⟩ := h.2.2.2.2.2 i ht
          rw [rk_t ht, ht] at hm
          simp only [Bool.toNat_true] at hm
          refine ⟨key _ hl ?_ ?_, key _ hh ?_ ?_⟩
          · rw [rk_f t1, t1]; simp only [Bool.toNat_false]; omega
          · rw [rk_t ht, rk_f t1]; omega
          · rw [rk_f t2, t2]; simp only [Bool.toNat_false]; omega
          · rw [rk_t ht, rk_f t2]; omega
      show (bif a (va i) then dn (hi i) a else dn (lo i) a) = (bif b (va i) then dn (hi i) b else dn (lo i) b)
      rw [hroot, hch.1, hch.2]
theorem gi_same (h : gi lv V T L va lo hi dn) (hp : lp lv vr) {i : Nat} (hv : vl V i) {a b : Nat → Bool} (hab : ∀ x, x < 12 → rk lv va T L i ≤ lv x → a x = b x) : dn i a = dn i b := gi_cong h hp _ i hv (Nat.le_refl _) a b hab
theorem gi_ind (h : gi lv V T L va lo hi dn) (hp : lp lv vr) {i x : Nat} (hv : vl V i) (hx : lv x < rk lv va T L i) : ind (dn i) x := fun a b => gi_same h hp hv (fun y _ hr => bs_n (fun e => by rw [e] at hr; omega))
/-- the children of a node do not hang on what it asks -/
theorem gi_ch (h : gi lv V T L va lo hi dn) (hp : lp lv vr) {i : Nat} (hv : V i = true) : ind (dn (lo i)) (va i) ∧ ind (dn (hi i)) (va i) := by
  obtain ⟨h2, hva, hl, hh⟩ := h.1 i hv
  cases ht : T i
  · obtain ⟨r1, r2⟩ := h.2.2.2.2.1 i hv ht
    exact ⟨gi_ind h hp hl r1, gi_ind h hp hh r2⟩
  · obtain ⟨-, r0, k1, k2, -⟩ := h.2.2.2.2.2 i ht
    have key : ∀ c, vl V c → gpk lv V T L va lo hi c → ind (dn c) (va i) := by
      intro c hc hk
      obtain ⟨t1, q | ⟨q1, q2, q3, q4⟩⟩ := hk
      · exact gi_ind h hp hc (by rw [rk_f t1]; omega)
      · obtain ⟨-, cva, cl, ch⟩ := h.1 c q2
        obtain ⟨s1, s2⟩ := h.2.2.2.2.1 c q2 t1
        have u1 : T (lo c) = false := by
          cases e : T (lo c)
          · rfl
          · rw [rk_t e] at s1; omega
        have u2 : T (hi c) = false := by
          cases e : T (hi c)
          · rfl
          · rw [rk_t e] at s2; omega
        rw [h.2.2.1 c q2]
        refine ind_mk (fun e => by rw [e] at q1; omega) (gi_ind h hp cl (by rw [rk_f u1]; omega)) (gi_ind h hp ch (by rw [rk_f u2]; omega))
    exact ⟨key _ hl k1, key _ hh k2⟩
theorem gi_two (h : gi lv V T L va lo hi dn) {i : Nat} (hv : V i = true) : dn (lo i) ≠ dn (hi i) := fun e => by
  obtain ⟨h2, hva, hl, hh⟩ := h.1 i hv
  have e1 : dn i = dn (lo i) := by rw [h.2.2.1 i hv, ← e, mk_same]
  have e2 := h.2.2.2.1 i (lo i) (Or.inr hv) hl e1
  cases ht : T i
  · have r1 := (h.2.2.2.2.1 i hv ht).1
    rw [← e2, rk_f ht] at r1
    omega
  · have k1 := (h.2.2.2.2.2 i ht).2.2.1.1
    rw [← e2, ht] at k1
    cases k1
theorem gi_ne (h : gi lv V T L va lo hi dn) {i : Nat} (hv : V i = true) : lo i ≠ hi i := fun e => gi_two h hv (by rw [e])
theorem gi_dep (h : gi lv V T L va lo hi dn) (hp : lp lv vr) {i : Nat} (hv : V i = true) : ¬ ind (dn i) (va i) := by
  rw [h.2.2.1 i hv]
  exact mk_dep (gi_ch h hp hv).1 (gi_ch h hp hv).2 (gi_two h hv)
theorem ind_lift {v x : Nat} {fl fh : Bf} (hx : v ≠ x) (h1 : ind fl v) (h2 : ind fh v) (h : ind (mk v fl fh) x) : ind fl x ∧ ind fh x := by
  constructor
  · intro a b
    have e := h (bs a v false) b
    have c : bs (bs a v false) x b v = false := by rw [bs_n hx, bs_s]
    rw [mk_f c, mk_f (bs_s a v false), h1] at e
    have c2 : bs (bs a v false) x b = bs (bs a x b) v false := by
      funext u
      by_cases p : u = x
      · subst p; rw [bs_s, bs_n (fun q => hx q.symm), bs_s]
      · rw [bs_n p]
        by_cases p2 : u = v
        · subst p2; rw [bs_s, bs_s]
        · rw [bs_n p2, bs_n p2, bs_n p]
    rw [c2, h1] at e
    exact e
  · intro a b
    have e := h (bs a v true) b
    have c : bs (bs a v true) x b v = true := by rw [bs_n hx, bs_s]
    rw [mk_t c, mk_t (bs_s a v true), h2] at e
    have c2 : bs (bs a v true) x b = bs (bs a x b) v true := by
      funext u
      by_cases p : u = x
      · subst p; rw [bs_s, bs_n (fun q => hx q.symm), bs_s]
      · rw [bs_n p]
        by_cases p2 : u = v
        · subst p2; rw [bs_s, bs_s]
        · rw [bs_n p2, bs_n p2, bs_n p]
    rw [c2, h2] at e
    exact e
/-- one that waits hangs on the variable of level L -/
theorem gi_depT (h : gi lv V T L va lo hi dn) (hp : lp lv vr) {i w : Nat} (ht : T i = true) (hw : w < 13) (hL : lv w = L) : ¬ ind (dn i) w := fun hc => by
  obtain ⟨hv, r0, ⟨t1, k1⟩, ⟨t2, k2⟩, k3⟩ := h.2.2.2.2.2 i ht
  obtain ⟨h2, hva, hl, hh⟩ := h.1 i hv
  rw [h.2.2.1 i hv] at hc
  have hne : va i ≠ w := fun e => by rw [e] at r0; omega
  obtain ⟨c1, c2⟩ := ind_lift hne (gi_ch h hp hv).1 (gi_ch h hp hv).2 hc
  rcases k3 with e | e
  · have e2 : va (lo i) = w := lp_inj hp (gi_va h hl) hw (by rw [e, hL])
    rcases k1 with q | ⟨-, q, -⟩
    · omega
    · exact gi_dep h hp q (by rw [e2]; exact c1)
  · have e2 : va (hi i) = w := lp_inj hp (gi_va h hh) hw (by rw [e, hL])
    rcases k2 with q | ⟨-, q, -⟩
    · omega
    · exact gi_dep h hp q (by rw [e2]; exact c2)
/-- a function's node stands no higher than the function hangs -/
theorem gi_lev (h : gi lv V T L va lo hi dn) (hp : lp lv vr) {r k : Nat} (hr : vl V r) (hi1 : ∀ x, x < 12 → lv x < k → ind (dn r) x) (hk : k ≤ 12) : k ≤ lv (va r) := by
  rcases Nat.lt_or_ge (lv (va r)) k with q | q
  · exfalso
    rcases hr with e | e
    · rw [gi_end h e, hp.2.2] at q; omega
    · exact gi_dep h hp e (hi1 _ (h.1 r e).2.1 q)
  · exact q
/-- no node stands yet for a node that is not found -/
theorem gi_new (h : gi lv V T L va lo hi dn) (hp : lp lv vr) {v low high : Nat} (hv : v < 12) (hTL : ∀ i, T i = true → L < lv v) (hl : vl V low) (hh : vl V high) (tl : T low = false) (th : T high = false) (ll : lv v < lv (va low)) (lh : lv v < lv (va high)) (hne : low ≠ high)
    (nf : ∀ j, V j = true → T j = false → va j = v → lo j = low → hi j = high → False) {j : Nat} (hj : vl V j) : dn j ≠ mk v (dn low) (dn high) := fun e => by
  have i1 : ind (dn low) v := gi_ind h hp hl (by rw [rk_f tl]; exact ll)
  have i2 : ind (dn high) v := gi_ind h hp hh (by rw [rk_f th]; exact lh)
  have hdep : ¬ ind (mk v (dn low) (dn high)) v := mk_dep i1 i2 (fun q => hne (h.2.2.2.1 _ _ hl hh q))
  have hup : ∀ x, lv x < lv v → ind (mk v (dn low) (dn high)) x := fun x hx => ind_mk (fun q => by rw [q] at hx; omega) (gi_ind h hp hl (by rw [rk_f tl]; omega)) (gi_ind h hp hh (by rw [rk_f th]; omega))
  rcases hj with q | q
  · have q' : j = 0 ∨ j = 1 := by omega
    refine hdep ?_
    rw [← e]
    rcases q' with q' | q'
    · rw [q', h.2.1.2.2.1]; exact fun _ _ => rfl
    · rw [q', h.2.1.2.2.2]; exact fun _ _ => rfl
  · have jva := (h.1 j q).2.1
    cases ht : T j
    · rcases Nat.lt_trichotomy (lv (va j)) (lv v) with c | c | c
      · exact gi_dep h hp q (by rw [e]; exact hup _ c)
      · have ev : va j = v := lp_inj hp (by omega) (by omega) c
        obtain ⟨c1, c2⟩ := gi_ch h hp q
        rw [ev] at c1 c2
        rw [h.2.2.1 j q, ev] at e
        obtain ⟨e1, e2⟩ := mk_inj c1 i1 c2 i2 e
        exact nf j q ht ev (h.2.2.2.1 _ _ (h.1 j q).2.2.1 hl e1) (h.2.2.2.1 _ _ (h.1 j q).2.2.2 hh e2)
      · exact hdep (by rw [← e]; exact gi_ind h hp (Or.inr q) (by rw [rk_f ht]; exact c))
    · have hL := hTL j ht
      obtain ⟨-, r0, -⟩ := h.2.2.2.2.2 j ht
      have hL12 : L < 13 := by
        have := (hp.1 (va j) (by omega)).1
        omega
      obtain ⟨w1, w2⟩ := hp.2.1 L hL12
      exact gi_depT h hp ht w1 w2 (by rw [e]; exact hup _ (by rw [w2]; exact hL))
end
