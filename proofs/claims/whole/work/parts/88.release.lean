/-! unlink, release, and a node that is written anew -/
section
variable {N : Mm} {A A' : Am} {V T : Nat → Bool} {L : Nat} {dn : Nat → Bf} {ch : Nat → List Nat} {fl : List Nat} {ext ext' : Nat → Nat}
theorem unlinkL_spec (hm : mr N A) {x : Nat} (hx : x < A 9 0) : ∀ (n : Nat) (l : List Nat) (a : Nat), pl_lst (A 3) a l → l.length ≤ n → l.Nodup → x ∈ l → a ≠ x → (∀ y, y ∈ l → y < A 9 0) → ∃ y, y ∈ l ∧ y ≠ x ∧ j_unlinkL N (nI x) n (nI a) = j_set N (nI y) 3 (nI (A 3 x)) ∧ pl_lst (fu (A 3) y (A 3 x)) a (l.erase x) := by
  have hR := hm.2.2.2.2.2.2.2
  intro n
  induction n with
  | zero =>
    intro l a hl hn hd hxl
    have : l = [] := List.eq_nil_of_length_eq_zero (by omega)
    subst this
    cases hxl
  | succ n ih =>
    intro l a hl hn hd hxl hax hb
    cases l with
    | nil => cases hxl
    | cons z l =>
      obtain ⟨e, z0, hl'⟩ := hl
      subst e
      rw [List.nodup_cons] at hd
      have ab := hb a List.mem_cons_self
      have hxl' : x ∈ l := by
        rcases List.mem_cons.mp hxl with q | q
        · exact absurd q.symm hax
        · exact q
      have g3 : j_get N (nI a) 3 = nI (A 3 a) := mr_get hm (f := 3) ab (by omega) (by omega)
      have gx : j_get N (nI x) 3 = nI (A 3 x) := mr_get hm (f := 3) hx (by omega) (by omega)
      have ab3 : A 3 a < 24800 := by
        cases l with
        | nil => cases hxl'
        | cons z2 l2 =>
          have := hb z2 (List.mem_cons_of_mem _ List.mem_cons_self)
          rw [hl'.1]; omega
      have hst : j_unlinkL N (nI x) (n + 1) (nI a) = if nI (A 3 a) = nI x then j_set N (nI a) 3 (nI (A 3 x)) else j_unlinkL N (nI x) n (nI (A 3 a)) := by
        rw [j_unlinkL, if_neg (nI_ne0 (by omega) (by omega)), g3, gx]
      by_cases c : A 3 a = x
      · refine ⟨a, List.mem_cons_self, hax, by rw [hst, if_pos (by rw [c])], ?_⟩
        rw [List.erase_cons_tail (by simp [hax])]
        rw [c] at hl'
        obtain ⟨l2, e2, hl2⟩ := pl_s hl' (pl_nz hl' x hxl')
        subst e2
        rw [List.erase_cons_head]
        refine ⟨rfl, z0, ?_⟩
        rw [fu_s]
        exact pl_upd hl2 (fun q => hd.1 (List.mem_cons_of_mem _ q))
      · obtain ⟨y, y1, y2, y3, y4⟩ := ih l (A 3 a) hl' (by simp at hn; omega) hd.2 hxl' c (fun y q => hb y (List.mem_cons_of_mem _ q))
        refine ⟨y, List.mem_cons_of_mem _ y1, y2, by rw [hst, if_neg (fun q => c ((nI_eq (by omega) (by omega)).mp q)), y3], ?_⟩
        rw [List.erase_cons_tail (by simp [hax])]
        exact ⟨rfl, z0, by rw [fu_n (fun q => hd.1 (by rw [q]; exact y1))]; exact y4⟩
theorem unlink_spec (hm : mr N A) {x c : Nat} (hx : x < A 9 0) (hv : A 0 x < 12) (ec : hc (A 0 x) (A 1 x) (A 2 x) = c) (h6 : 1 ≤ A 6 (A 0 x)) {l : List Nat} (hl : pl_lst (A 3) (A 5 c) l) (hd : l.Nodup) (hxl : x ∈ l) (hb : ∀ y, y ∈ l → y < A 9 0) (hlen : l.length ≤ 24800) :
    ∃ A' : Am, mr (j_unlink N (nI x)) A' ∧ (∀ f, f ≠ 3 → f ≠ 5 → f ≠ 6 → A' f = A f) ∧ A' 6 = fu (A 6) (A 0 x) (A 6 (A 0 x) - 1) ∧ (∀ i, i ∉ l → A' 3 i = A 3 i) ∧ (∀ c', c' ≠ c → A' 5 c' = A 5 c') ∧ pl_lst (A' 3) (A' 5 c) (l.erase x) := by
  have hR := hm.2.2.2.2.2.2.2
  have hc1 : c < 768 := by rw [← ec]; exact hc_lt hv
  have g0 : j_get N (nI x) 0 = nI (A 0 x) := mr_get hm (f := 0) hx (by omega) (by omega)
  have g1 : j_get N (nI x) 1 = nI (A 1 x) := mr_get hm (f := 1) hx (by omega) (by omega)
  have g2 : j_get N (nI x) 2 = nI (A 2 x) := mr_get hm (f := 2) hx (by omega) (by omega)
  have m1 := mr_held hm (j := A 0 x) (A 6 (A 0 x) - 1)
  have ej : j_unlink N (nI x) = j_unlink2 (up N 3 (A 0 x) (nI (A 6 (A 0 x) - 1))) (nI x) (nI c) := by
    unfold j_unlink
    rw [g0, g1, g2, j_chain, ec, if_neg (nI_pos (by omega)), if_neg (nI_ge hv (by omega)), if_neg (nI_pos (by omega)), if_neg (nI_ge hc1 (by omega)), nI_clamp (by omega : A 0 x < 2 ^ 31), hm.2.2.2.1 _ hv, nI_sub1 (by omega)]
  obtain ⟨M, hM⟩ : ∃ M, up N 3 (A 0 x) (nI (A 6 (A 0 x) - 1)) = M := ⟨_, rfl⟩
  obtain ⟨B, hB⟩ : ∃ B, am A 6 (A 0 x) (A 6 (A 0 x) - 1) = B := ⟨_, rfl⟩
  rw [hM] at m1 ej
  rw [hB] at m1
  have eB : ∀ f, f ≠ 6 → B f = A f := fun f q => by rw [← hB, am_n q]
  have eB6 : B 6 = fu (A 6) (A 0 x) (A 6 (A 0 x) - 1) := by rw [← hB, am_s]
  have k2 : M 2 c = nI (A 5 c) := by rw [m1.2.2.1 c hc1, eB 5 (by omega)]
  have hx9 : x < B 9 0 := by rw [eB 9 (by omega)]; exact hx
  have k3 : j_get M (nI x) 3 = nI (A 3 x) := by
    have := mr_get m1 (i := x) (f := 3) hx9 (by omega) (by omega)
    rw [eB 3 (by omega)] at this
    exact this
  have h50 : A 5 c ≠ 0 := fun q => by
    rw [q] at hl
    rw [pl_0 hl] at hxl
    cases hxl
  obtain ⟨l', el', hl'⟩ := pl_s hl h50
  have b5 : A 5 c < 24800 := by
    have := hb (A 5 c) (by rw [el']; exact List.mem_cons_self)
    omega
  rw [ej]
  unfold j_unlink2
  rw [nI_clamp (by omega), k2]
  by_cases c0 : A 5 c = x
  · rw [if_pos (by rw [c0]), k3]
    refine ⟨am B 5 c (A 3 x), mr_head m1 _, fun f f3 f5 f6 => by rw [am_n f5, eB f f6], by rw [am_n (by omega), eB6], fun i _ => by rw [am_n (by omega), eB 3 (by omega)], fun c' q => by rw [am_s, fu_n q, eB 5 (by omega)], ?_⟩
    rw [am_n (by omega), am_s, fu_s, eB 3 (by omega), el', c0, List.erase_cons_head, ← c0]
    exact hl'
  · rw [if_neg (fun q => c0 ((nI_eq (by omega) (by omega)).mp q))]
    obtain ⟨y, y1, y2, y3, y4⟩ := unlinkL_spec m1 hx9 24800 l (A 5 c) (by rw [eB 3 (by omega)]; exact hl) hlen hd hxl c0 (fun y q => by rw [eB 9 (by omega)]; exact hb y q)
    rw [y3]
    rw [eB 3 (by omega)] at y4
    have m2 := mr_set m1 (i := y) (f := 3) (by rw [eB 9 (by omega)]; exact hb y y1) (by omega) (B 3 x)
    refine ⟨am B 3 y (B 3 x), m2, fun f f3 f5 f6 => by rw [am_n f3, eB f f6], by rw [am_n (by omega), eB6], fun i q => ?_, fun c' _ => by rw [am_n (by omega), eB 5 (by omega)], ?_⟩
    · rw [am_s, eB 3 (by omega), fu_n (fun z => q (by rw [z]; exact y1))]
    · rw [am_s, am_n (by omega), eB 5 (by omega), eB 3 (by omega)]
      exact y4
theorem release_spec (hm : mr N A) (h : ti A V T L dn ch fl ext) (hn : nd_a A V) (hxb : ∀ i, ext i ≤ 1000) {x : Nat} (hx : vl V x) (hT : T x = false) (hext : ∀ i, ext' i + (if i = x then 1 else 0) = ext i)
    (hk : V x = true → A 4 x = 1 → ∀ c, (c = A 1 x ∨ c = A 2 x) → V c = true → ∃ j, V j = true ∧ j ≠ x ∧ (A 1 j = c ∨ A 2 j = c)) :
    ∃ (A' : Am) (V' : Nat → Bool) (ch' : Nat → List Nat) (fl' : List Nat), mr (j_release N (nI x)) A' ∧ ti A' V' T L dn ch' fl' ext' ∧ nd_a A' V' ∧ (V' = V ∨ (V x = true ∧ A 4 x = 1 ∧ V' = fu V x false)) ∧ (∀ f, (f = 0 ∨ f = 1 ∨ f = 2 ∨ f = 7 ∨ f = 8) → A' f = A f) ∧ (∀ i, T i = true → A' 3 i = A 3 i) ∧ A' 9 0 = A 9 0 ∧ A' 9 4 = A 9 4 ∧ A' 9 3 ≤ A 9 3 := by
  have hR := hm.2.2.2.2.2.2.2
  have xlt := (ti_lt h hx).2
  obtain ⟨h1, h2, h3, h4, h5, h6, h7, h8, h9, h10⟩ := id h
  have hxx := hext x
  rw [if_pos rfl] at hxx
  obtain ⟨A1, m1, q1, q2⟩ := refer_down hm xlt (fun z => by
    rcases hx with w | w
    · omega
    · exact hn x w)
  have oc1 : ∀ i, oc A1 V i = oc A V i := fun i => by unfold oc; rw [q1 1 (by omega), q1 2 (by omega)]
  have t1 : ti A1 V T L dn ch fl ext' := by
    refine ⟨by rw [q1 7 (by omega), q1 8 (by omega)]; exact h1, by rw [q1 7 (by omega), q1 0 (by omega), q1 1 (by omega), q1 2 (by omega)]; exact h2, fun c q => by rw [q1 3 (by omega), q1 5 (by omega), q1 0 (by omega), q1 1 (by omega), q1 2 (by omega)]; exact h3 c q, ⟨by rw [q1 3 (by omega), q1 9 (by omega)]; exact h4.1, h4.2.1, by rw [q1 9 (by omega)]; exact h4.2.2⟩, by rw [q1 9 (by omega)]; exact h5, by rw [q1 9 (by omega)]; exact h6, by rw [q1 9 (by omega)]; exact h7, fun i q => ?_, by rw [q1 6 (by omega), q1 0 (by omega)]; exact h9, fun i q3 q => ?_⟩
    · have a1 := q2 i (h2.1 i q).1
      have a2 := h8 i q
      have a3 := hext i
      rw [oc1]
      omega
    · have a3 := hext i
      have a4 := h10 i q3 q
      omega
  obtain ⟨M, hM⟩ : ∃ M, j_refer N (nI x) (-1) = M := ⟨_, rfl⟩
  rw [hM] at m1
  by_cases c1 : x ≤ 1
  · have ej : j_release N (nI x) = M := by
      unfold j_release
      rw [if_pos ((nI_l1 (by omega)).mpr c1), hM]
    rw [ej]
    refine ⟨A1, V, ch, fl, m1, t1, fun i q => ?_, Or.inl rfl, fun f q => q1 f (by omega), fun i _ => by rw [q1 3 (by omega)], by rw [q1 9 (by omega)], by rw [q1 9 (by omega)], by rw [q1 9 (by omega)]; exact Nat.le_refl _⟩
    have i2 := (h2.1 i q).1
    have a1 := q2 i i2
    rw [if_neg (by omega)] at a1
    have := hn i q
    omega
  · have xV : V x = true := by
      rcases hx with w | w
      · exact absurd w c1
      · exact w
    have x4 := hn x xV
    have e4 := q2 x (by omega)
    rw [if_pos rfl] at e4
    have g4 : j_get M (nI x) 4 = nI (A1 4 x) := mr_get m1 (f := 4) (by rw [q1 9 (by omega)]; exact xlt) (by omega) (fun _ => by omega)
    have b4 : A1 4 x < 2 ^ 31 := by
      have a1 := h8 x xV
      have a2 := oc_le A V x
      have a3 := hxb x
      omega
    by_cases c2 : A 4 x = 1
    · have z4 : A1 4 x = 0 := by omega
      have ej : j_release N (nI x) = j_giveBack (j_dropKids (j_unlink M (nI x)) (nI x)) (nI x) := by
        unfold j_release
        rw [if_neg (fun q => c1 ((nI_l1 (by omega)).mp q)), hM, g4, z4, if_neg (by rw [nI_0]; decide)]
      rw [ej]
      obtain ⟨k1, k2, k3, ⟨kf1, kf2, kf3⟩, k5, k6, k7, k8, k9, k10⟩ := id t1
      have e0 : oc A1 V x = 0 ∧ ext' x = 0 := by have := k8 x xV; omega
      obtain ⟨x2, hv, ci1, ci2⟩ := k2.1 x xV
      obtain ⟨c, ec⟩ : ∃ c, hc (A1 0 x) (A1 1 x) (A1 2 x) = c := ⟨_, rfl⟩
      have hc1 : c < 768 := by rw [← ec]; exact hc_lt hv
      obtain ⟨w1, w2, w3⟩ := k3 c hc1
      have hxl : x ∈ ch c := (w3 x).mpr ⟨xV, hT, ec⟩
      have xlt1 := (ti_lt t1 (Or.inr xV)).2
      have hv6 : 1 ≤ A1 6 (A1 0 x) := by
        rw [k9 _ hv]
        exact pc_pos (k := x) (by omega) (by simp [xV, hT])
      have hlen : (ch c).length ≤ 24800 := by
        have := pc_list (P := V) (n := 24800) w2 (fun y q => ⟨by have := (ti_lt t1 (Or.inr ((w3 y).mp q).1)).2; omega, ((w3 y).mp q).1⟩)
        exact Nat.le_trans this (pc_lt V 24800)
      obtain ⟨A2, m2, a1, a2, a3, a4, a5⟩ := unlink_spec m1 xlt1 hv ec hv6 w1 w2 hxl (fun y q => (ti_lt t1 (Or.inr ((w3 y).mp q).1)).2) hlen
      have rp := refs_pos (tc_of t1) xV
      obtain ⟨A3, m3, b1, b2, b3, b4', b5, b6, b7, b8⟩ := drop_mem m2 (x := x) (by rw [a1 9 (by omega) (by omega) (by omega)]; exact xlt1) (by rw [a1 9 (by omega) (by omega) (by omega), a1 1 (by omega) (by omega) (by omega)]; exact (ti_lt t1 ci1).2) (by rw [a1 9 (by omega) (by omega) (by omega), a1 2 (by omega) (by omega) (by omega)]; exact (ti_lt t1 ci2).2) (by rw [a1 1 (by omega) (by omega) (by omega), a1 2 (by omega) (by omega) (by omega)]; exact gi_ne k2 xV) (by rw [a1 1 (by omega) (by omega) (by omega), a1 4 (by omega) (by omega) (by omega)]; exact rp.1) (by rw [a1 2 (by omega) (by omega) (by omega), a1 4 (by omega) (by omega) (by omega)]; exact rp.2.1) (by rw [a1 9 (by omega) (by omega) (by omega)]; exact rp.2.2)
      rw [a1 9 (by omega) (by omega) (by omega)] at b2 b4' b5 b7 b8
      rw [a1 1 (by omega) (by omega) (by omega), a1 2 (by omega) (by omega) (by omega), a1 4 (by omega) (by omega) (by omega)] at b3
      have ef : ∀ f, (f = 0 ∨ f = 1 ∨ f = 2 ∨ f = 7 ∨ f = 8) → A3 f = A1 f := fun f q => by rw [b1 f (by omega) (by omega) (by omega), a1 f (by omega) (by omega) (by omega)]
      have hnl : ∀ i, V i = false → i ∉ ch c := fun i q z => by
        have := ((w3 i).mp z).1
        rw [q] at this; cases this
      have tc3 : tc_t A3 (fu V x false) T L dn (x :: fl) ext' := by
        refine tc_drop (tc_of t1) xV hT e0.1 ef (by rw [b2, fu_s]) (fun i q => ?_) (fun i y1 y2 => b3 i (k2.1 i y1).1) (fun v hv2 => ?_) b4' b5 b6 b7 (fun _ _ => rfl) e0.2
        · have iV := ((kf3 i).mp q).2.2
          rw [b2, fu_n (fun z => by rw [z, xV] at iV; cases iV), a3 i (hnl i iV)]
        · rw [b1 6 (by omega) (by omega) (by omega), a2]
          by_cases cv : v = A1 0 x
          · rw [if_pos cv, cv, fu_s]; omega
          · rw [if_neg cv, fu_n cv]; omega
      have hxe : x ∉ (ch c).erase x := fun q => by
        rw [List.Nodup.mem_erase_iff w2] at q
        exact q.1 rfl
      have ch3 : chs A3 (fu V x false) T (fu ch c ((ch c).erase x)) := fun c' hc' => by
        obtain ⟨v1, v2, v3⟩ := k3 c' hc'
        rw [b2, b1 5 (by omega) (by omega) (by omega), ef 0 (by omega), ef 1 (by omega), ef 2 (by omega)]
        by_cases cc : c' = c
        · subst cc
          rw [fu_s]
          refine ⟨pl_upd a5 hxe, w2.erase x, fun i => ?_⟩
          rw [List.Nodup.mem_erase_iff w2, w3 i]
          by_cases ci : i = x
          · subst ci
            rw [fu_s]
            exact ⟨fun q => absurd rfl q.1, fun q => by cases q.1⟩
          · rw [fu_n ci]
            exact ⟨fun q => q.2, fun q => ⟨ci, q⟩⟩
        · rw [fu_n cc, a4 c' cc]
          have dis : ∀ i, i ∈ ch c' → i ∉ ch c := fun i y1 y2 => cc (((v3 i).mp y1).2.2.symm.trans ((w3 i).mp y2).2.2)
          refine ⟨pl_upd (pl_congr (fun i q => a3 i (dis i q)) v1) (fun q => dis x q hxl), v2, fun i => ?_⟩
          rw [v3 i]
          by_cases ci : i = x
          · subst ci
            rw [fu_s]
            exact ⟨fun q => absurd (q.2.2.symm.trans ec) cc, fun q => by cases q.1⟩
          · rw [fu_n ci]
      have t3 := ti_of ch3 tc3
      have ef2 : ∀ f, (f = 0 ∨ f = 1 ∨ f = 2 ∨ f = 7 ∨ f = 8) → A3 f = A f := fun f q => by rw [ef f q, q1 f (by omega)]
      refine ⟨A3, fu V x false, _, _, m3, t3, fun i q => ?_, Or.inr ⟨xV, c2, rfl⟩, ef2, fun i q => ?_, by rw [b4', q1 9 (by omega)], by rw [b8, q1 9 (by omega)], by rw [q1 9 (by omega)] at b7; omega⟩
      · have ix : i ≠ x := fun z => by rw [z, fu_s] at q; cases q
        have iV : V i = true := by rw [fu_n ix] at q; exact q
        have i2 := (h2.1 i iV).1
        by_cases ck : i = A1 1 x ∨ i = A1 2 x
        · rw [q1 1 (by omega), q1 2 (by omega)] at ck
          obtain ⟨j, j1, j2, j3⟩ := hk xV c2 i ck iV
          have jlt := (ti_lt h (Or.inr j1)).2
          rw [tc3.2.2.2.2.2.2.1 i q]
          have := oc_pos1 (A := A3) (V := fu V x false) (i := i) (j := j) (by omega) (by rw [fu_n j2]; exact j1) (by rw [ef2 1 (by omega), ef2 2 (by omega)]; exact j3)
          omega
        · have a := b3 i i2
          rw [if_neg (fun z => ck (Or.inl z)), if_neg (fun z => ck (Or.inr z))] at a
          have b := q2 i i2
          rw [if_neg ix] at b
          have := hn i iV
          omega
      · have ix : i ≠ x := fun z => by rw [z, hT] at q; cases q
        rw [b2, fu_n ix, a3 i (fun z => by have := ((w3 i).mp z).2.1; rw [q] at this; cases this), q1 3 (by omega)]
    · have ej : j_release N (nI x) = M := by
        unfold j_release
        rw [if_neg (fun q => c1 ((nI_l1 (by omega)).mp q)), hM, g4, if_pos (show (0 : Int32) < nI (A1 4 x) from nI_lt (a := 0) (by omega) b4)]
      rw [ej]
      refine ⟨A1, V, ch, fl, m1, t1, fun i q => ?_, Or.inl rfl, fun f q => q1 f (by omega), fun i _ => by rw [q1 3 (by omega)], by rw [q1 9 (by omega)], by rw [q1 9 (by omega)], by rw [q1 9 (by omega)]; exact Nat.le_refl _⟩
      have i2 := (h2.1 i q).1
      have a1 := q2 i i2
      have := hn i q
      by_cases ci : i = x
      · subst ci; omega
      · rw [if_neg ci] at a1; omega
/-- the node p, which waited, asks w now -/
theorem ti_write (h : ti A V T L dn ch fl ext) {p w low high : Nat} (tp : T p = true) (hw : w < 12) (lw : A 7 w = L) (hl : vl V low) (hh : vl V high) (tl : T low = false) (th : T high = false) (ll : L < A 7 (A 0 low)) (lh : L < A 7 (A 0 high)) (hd : dn p = mk w (dn low) (dn high))
    (e0 : A' 0 = fu (A 0) p w) (e1 : A' 1 = fu (A 1) p low) (e2 : A' 2 = fu (A 2) p high) (e3 : A' 3 = fu (A 3) p (A 5 (hc w low high))) (e4 : ∀ j, 2 ≤ j → A' 4 j = A 4 j + (if j = low then 1 else 0) + (if j = high then 1 else 0)) (e5 : A' 5 = fu (A 5) (hc w low high) p) (e6 : A' 6 = fu (A 6) w (A 6 w + 1)) (e7 : A' 7 = A 7) (e8 : A' 8 = A 8) (e9 : A' 9 = A 9) :
    ti A' V (fu T p false) L dn (fu ch (hc w low high) (p :: ch (hc w low high))) fl (fun i => ext i + (if i = A 1 p then 1 else 0) + (if i = A 2 p then 1 else 0)) := by
  obtain ⟨h1, h2, h3, ⟨f1, f2, f3⟩, h5, h6, h7, h8, h9, h10⟩ := id h
  obtain ⟨vp, -, -⟩ := h2.2.2.2.2.2 p tp
  obtain ⟨p2, -, pc1, pc2⟩ := h2.1 p vp
  have plt : p < 24800 := by have := h5 p vp; omega
  have hc1 : hc w low high < 768 := hc_lt hw
  have hnp : ∀ c, c < 768 → p ∉ ch c := fun c q z => by
    have := (((h3 c q).2.2 p).mp z).2.1
    rw [tp] at this; cases this
  refine ⟨by rw [e7, e8]; exact h1, by rw [e7, e0, e1, e2]; exact gi_write h2 tp hw lw hl hh tl th ll lh hd, fun c hcc => ?_, ⟨?_, f2, by rw [e9]; exact f3⟩, by rw [e9]; exact h5, by rw [e9]; exact h6, by rw [e9]; exact h7, fun i q => ?_, fun v hv => ?_, fun i q2 q => ?_⟩
  · obtain ⟨a1, a2, a3⟩ := h3 c hcc
    have hmem : ∀ i, (V i = true ∧ fu T p false i = false ∧ hc (A' 0 i) (A' 1 i) (A' 2 i) = c) ↔ ((i = p ∧ hc w low high = c) ∨ i ∈ ch c) := fun i => by
      rw [e0, e1, e2]
      by_cases e : i = p
      · subst e
        rw [fu_s, fu_s, fu_s, fu_s]
        exact ⟨fun q => Or.inl ⟨rfl, q.2.2⟩, fun q => by
          rcases q with q | q
          · exact ⟨vp, rfl, q.2⟩
          · exact absurd q (hnp c hcc)⟩
      · rw [fu_n e, fu_n e, fu_n e, fu_n e, a3 i]
        exact ⟨fun q => Or.inr q, fun q => by
          rcases q with q | q
          · exact absurd q.1 e
          · exact q⟩
    by_cases ec : c = hc w low high
    · subst ec
      rw [e5, fu_s, fu_s, e3]
      refine ⟨⟨rfl, by omega, ?_⟩, List.nodup_cons.mpr ⟨hnp _ hcc, a2⟩, fun i => ?_⟩
      · rw [fu_s]; exact pl_upd a1 (hnp _ hcc)
      · rw [hmem i, List.mem_cons]
        exact ⟨fun q => by
          rcases q with q | q
          · exact Or.inl ⟨q, rfl⟩
          · exact Or.inr q, fun q => by
          rcases q with q | q
          · exact Or.inl q.1
          · exact Or.inr q⟩
    · rw [e5, fu_n ec, fu_n ec, e3]
      refine ⟨pl_upd a1 (hnp c hcc), a2, fun i => ?_⟩
      rw [hmem i]
      exact ⟨fun q => Or.inr q, fun q => by
        rcases q with q | q
        · exact absurd q.2.symm ec
        · exact q⟩
  · rw [e9, e3]
    exact pl_upd f1 (fun q => by have := ((f3 p).mp q).2.2; rw [vp] at this; cases this)
  · have i2 := (h2.1 i q).1
    have c1 := pc_one (P := fun j => V j && A 1 j == i) (Q := fun j => V j && A' 1 j == i) (k := p) plt (fun j hj => by show (V j && A' 1 j == i) = (V j && A 1 j == i); rw [e1, fu_n hj])
    have c2 := pc_one (P := fun j => V j && A 2 j == i) (Q := fun j => V j && A' 2 j == i) (k := p) plt (fun j hj => by show (V j && A' 2 j == i) = (V j && A 2 j == i); rw [e2, fu_n hj])
    simp only [vp, e1, e2, fu_s, Bool.true_and] at c1 c2
    rw [bq_if, bq_if] at c1 c2
    have a1 := e4 i i2
    have a2 := h8 i q
    unfold oc at a2 ⊢
    rw [e1, e2]
    show A' 4 i = _ + (ext i + (if i = A 1 p then 1 else 0) + (if i = A 2 p then 1 else 0))
    omega
  · have c1 := pc_one (P := fun j => V j && (!T j && A 0 j == v)) (Q := fun j => V j && (!(fu T p false) j && A' 0 j == v)) (k := p) plt (fun j hj => by show (V j && (!(fu T p false) j && A' 0 j == v)) = (V j && (!T j && A 0 j == v)); rw [e0, fu_n hj, fu_n hj])
    simp only [vp, tp, e0, fu_s, Bool.true_and, Bool.not_true, Bool.not_false, Bool.false_and, Bool.toNat_false] at c1
    rw [bq_if] at c1
    have a2 := h9 v hv
    rw [e6, e0]
    by_cases e : v = w
    · subst e
      rw [fu_s]
      rw [if_pos rfl] at c1
      omega
    · rw [fu_n e]
      rw [if_neg e] at c1
      omega
  · have a := h10 i q2 q
    have n1 : i ≠ A 1 p := fun z => by
      rcases pc1 with y | y
      · omega
      · rw [← z, q] at y; cases y
    have n2 : i ≠ A 2 p := fun z => by
      rcases pc2 with y | y
      · omega
      · rw [← z, q] at y; cases y
    show ext i + (if i = A 1 p then 1 else 0) + (if i = A 2 p then 1 else 0) = 0
    rw [if_neg n1, if_neg n2, a]
end
