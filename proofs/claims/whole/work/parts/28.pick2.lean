/-! pick gives the choice. -/
def lw (A : Am) (v f : Nat) : Nat := if A 0 f = v then A 1 f else f
def hw (A : Am) (v f : Nat) : Nat := if A 0 f = v then A 2 f else f
def PP (V : Nat → Bool) (dn : Nat → Bf) (a b c r : Int32) : Prop := ∃ f g h k : Nat, a = nI f ∧ b = nI g ∧ c = nI h ∧ r = nI k ∧ vl V f ∧ vl V g ∧ vl V h ∧ vl V k ∧ dn k = itf (dn f) (dn g) (dn h)
theorem itf_mk (v : Nat) (a b c d e f : Bf) : itf (mk v a b) (mk v c d) (mk v e f) = mk v (itf a c e) (itf b d f) := by
  funext x
  unfold itf mk
  cases x v <;> rfl
theorem itf_ind {F G H : Bf} {x : Nat} (h1 : ind F x) (h2 : ind G x) (h3 : ind H x) : ind (itf F G H) x := fun a b => by
  unfold itf
  rw [h1, h2, h3]
theorem j_min_n {a b : Nat} (ha : a < 2 ^ 31) (hb : b < 2 ^ 31) : j_min (nI a) (nI b) = nI (min a b) := by
  unfold j_min
  by_cases q : b < a
  · rw [if_pos ((nI_ltI hb ha).mpr q), Nat.min_eq_right (by omega)]
  · rw [if_neg (fun z => q ((nI_ltI hb ha).mp z)), Nat.min_eq_left (by omega)]
theorem bud_le {d k : Nat} (h : 12 ≤ d + 1 + k) : 2 * bud d + (if k < 9 then 1 else 0) ≤ bud (d + 1) ∧ bud d ≤ bud (d + 1) := by
  show 2 * bud d + (if k < 9 then 1 else 0) ≤ (if d < 3 then 0 else 2 * bud d + 1) ∧ bud d ≤ (if d < 3 then 0 else 2 * bud d + 1)
  by_cases c : d < 3
  · have : bud d = 0 := by
      rcases (show d = 0 ∨ d = 1 ∨ d = 2 by omega) with e | e | e <;> subst e <;> rfl
    rw [if_pos c, if_neg (by omega), this]
    omega
  · rw [if_neg c]
    by_cases q : k < 9
    · rw [if_pos q]; omega
    · rw [if_neg q]; omega
theorem nI_q1 {f : Nat} (h : f < 24800) : nI f = 1 ↔ f = 1 := nI_eq (a := f) (b := 1) (by omega) (by omega)
theorem nI_q0 {f : Nat} (h : f < 24800) : nI f = 0 ↔ f = 0 := nI_eq (a := f) (b := 0) (by omega) (by omega)
theorem nI_qq {f g : Nat} (h : f < 24800) (k : g < 24800) : nI f = nI g ↔ f = g := nI_eq (by omega) (by omega)
theorem pick_0 (N E : Mm) (f g h : Int32) : j_pick 0 N E f g h = (N, E, j_pickB f g h) := rfl
theorem pick_b {d : Nat} {N E : Mm} {f g h : Int32} (c : f = 1 ∨ g = h ∨ f = 0 ∨ (g = 1 ∧ h = 0)) : j_pick (d + 1) N E f g h = (N, E, j_pickB f g h) := by
  rw [j_pick, if_pos c]
theorem pick_m {d : Nat} {N E : Mm} {f g h : Int32} (c : ¬ (f = 1 ∨ g = h ∨ f = 0 ∨ (g = 1 ∧ h = 0))) (c2 : ¬ j_answerFor E f g h = -1) : j_pick (d + 1) N E f g h = (N, E, j_answerFor E f g h) := by
  rw [j_pick, if_neg c, if_pos c2]
theorem pick_r {d : Nat} {N E N1 E1 N2 E2 N3 : Mm} {f g h v low high r : Int32} (c : ¬ (f = 1 ∨ g = h ∨ f = 0 ∨ (g = 1 ∧ h = 0))) (c2 : j_answerFor E f g h = -1) (c3 : j_firstAsked N f g h = v)
    (c4 : j_pick d N E (j_lowFor N f v) (j_lowFor N g v) (j_lowFor N h v) = (N1, E1, low)) (c5 : j_pick d N1 E1 (j_highFor N1 f v) (j_highFor N1 g v) (j_highFor N1 h v) = (N2, E2, high)) (c6 : j_make N2 v low high = (N3, r)) :
    j_pick (d + 1) N E f g h = (N3, j_keep E2 f g h r, r) := by
  rw [j_pick, if_neg c, if_neg (fun z => z c2), c3, c4]
  dsimp only
  rw [c5]
  dsimp only
  rw [c6]
section
variable {N E : Mm} {A : Am} {V : Nat → Bool} {dn : Nat → Bf} {ch : Nat → List Nat} {fl : List Nat} {ext : Nat → Nat}
theorem tn_lt (h : tn A V dn ch fl ext) {i : Nat} (hv : vl V i) : i < 24800 := by
  have := (ti_lt h hv).2
  have := h.2.2.2.2.2.1
  omega
theorem tn_va (h : tn A V dn ch fl ext) {i : Nat} (hv : vl V i) : A 0 i < 13 := gi_va h.2.1 hv
theorem asked_spec (hm : mr N A) (h : tn A V dn ch fl ext) {f : Nat} (hf : vl V f) : j_get N (nI f) 0 = nI (A 0 f) := mr_get hm (f := 0) (ti_lt h hf).2 (by omega) (by omega)
theorem levA_spec (hm : mr N A) (h : tn A V dn ch fl ext) {f : Nat} (hf : vl V f) : j_levelOf N (j_get N (nI f) 0) = nI (A 7 (A 0 f)) := by
  rw [asked_spec hm h hf, mr_lev hm (tn_va h hf)]
theorem low_spec (hm : mr N A) (h : tn A V dn ch fl ext) {f v : Nat} (hf : vl V f) (hv : v < 12) (hl : A 7 v ≤ A 7 (A 0 f)) :
    j_lowFor N (nI f) (nI v) = nI (lw A v f) ∧ j_highFor N (nI f) (nI v) = nI (hw A v f) ∧ vl V (lw A v f) ∧ vl V (hw A v f) ∧ A 7 v < A 7 (A 0 (lw A v f)) ∧ A 7 v < A 7 (A 0 (hw A v f)) ∧ dn f = mk v (dn (lw A v f)) (dn (hw A v f)) := by
  have h2 := h.2.1
  have hp := h.1
  have fva := tn_va h hf
  unfold j_lowFor j_highFor lw hw
  rw [asked_spec hm h hf]
  by_cases e : A 0 f = v
  · have fV : V f = true := by
      rcases hf with q | q
      · have := gi_end h2 q; omega
      · exact q
    obtain ⟨-, -, c1, c2⟩ := h2.1 f fV
    obtain ⟨o1, o2⟩ := h2.2.2.2.2.1 f fV rfl
    rw [rk_f rfl] at o1 o2
    rw [e] at o1 o2
    rw [if_pos e, if_pos e, if_pos (by rw [e]), if_pos (by rw [e])]
    refine ⟨mr_get hm (f := 1) (ti_lt h hf).2 (by omega) (by omega), mr_get hm (f := 2) (ti_lt h hf).2 (by omega) (by omega), c1, c2, o1, o2, ?_⟩
    have := h2.2.2.1 f fV
    rw [e] at this
    exact this
  · have en : ¬ nI (A 0 f) = nI v := fun q => e ((nI_eq (by omega) (by omega)).mp q)
    have ol : A 7 v < A 7 (A 0 f) := by
      rcases Nat.lt_or_ge (A 7 v) (A 7 (A 0 f)) with q | q
      · exact q
      · exact absurd (lp_inj hp fva (by omega) (by omega)) e
    rw [if_neg e, if_neg e, if_neg en, if_neg en]
    exact ⟨rfl, rfl, hf, hf, ol, ol, (mk_same v _).symm⟩
theorem first_spec (hm : mr N A) (h : tn A V dn ch fl ext) {f g k : Nat} (hf : V f = true) (hg : vl V g) (hk : vl V k) : ∃ v : Nat, j_firstAsked N (nI f) (nI g) (nI k) = nI v ∧ v < 12 ∧ A 7 v ≤ A 7 (A 0 f) ∧ A 7 v ≤ A 7 (A 0 g) ∧ A 7 v ≤ A 7 (A 0 k) ∧ (A 7 v = A 7 (A 0 f) ∨ A 7 v = A 7 (A 0 g) ∨ A 7 v = A 7 (A 0 k)) := by
  have hp := h.1
  have b1 := (hp.1 _ (tn_va h (Or.inr hf))).1
  have b2 := (hp.1 _ (tn_va h hg)).1
  have b3 := (hp.1 _ (tn_va h hk)).1
  have lf := lp_lt hp (h.2.1.1 f hf).2.1
  have e : j_firstAsked N (nI f) (nI g) (nI k) = nI (A 8 (min (min (A 7 (A 0 f)) (A 7 (A 0 g))) (A 7 (A 0 k)))) := by
    unfold j_firstAsked
    rw [levA_spec hm h (Or.inr hf), levA_spec hm h hg, levA_spec hm h hk, j_min_n (by omega) (by omega), j_min_n (by omega) (by omega), mr_var hm (by omega)]
  obtain ⟨w1, w2⟩ := hp.2.1 (min (min (A 7 (A 0 f)) (A 7 (A 0 g))) (A 7 (A 0 k))) (by omega)
  refine ⟨_, e, lp_vr hp (by omega), ?_, ?_, ?_, ?_⟩ <;> rw [w2] <;> omega
theorem pickB_spec (h : tn A V dn ch fl ext) {f g k : Nat} (hf : vl V f) (hg : vl V g) (hk : vl V k) (hc : f = 1 ∨ g = k ∨ f = 0 ∨ (g = 1 ∧ k = 0)) : ∃ r : Nat, j_pickB (nI f) (nI g) (nI k) = nI r ∧ vl V r ∧ dn r = itf (dn f) (dn g) (dn k) := by
  have bf := tn_lt h hf
  have bg := tn_lt h hg
  have bk := tn_lt h hk
  have h2 := h.2.1.2.1
  unfold j_pickB
  by_cases c1 : f = 1
  · rw [if_pos (by rw [c1]; rfl)]
    refine ⟨g, rfl, hg, ?_⟩
    rw [c1, h2.2.2.2]; rfl
  · rw [if_neg (fun q => c1 ((nI_q1 bf).mp q))]
    by_cases c2 : g = k
    · rw [if_pos (by rw [c2])]
      refine ⟨g, rfl, hg, ?_⟩
      rw [c2]; funext a; unfold itf; cases dn f a <;> rfl
    · rw [if_neg (fun q => c2 ((nI_qq bg bk).mp q))]
      by_cases c3 : f = 0
      · rw [if_pos (by rw [c3]; rfl)]
        refine ⟨k, rfl, hk, ?_⟩
        rw [c3, h2.2.2.1]; rfl
      · rw [if_neg (fun q => c3 ((nI_q0 bf).mp q))]
        refine ⟨f, rfl, hf, ?_⟩
        rcases hc with q | q | q | ⟨q1, q2⟩
        · exact absurd q c1
        · exact absurd q c2
        · exact absurd q c3
        · rw [q1, q2, h2.2.2.1, h2.2.2.2]; funext a; unfold itf; cases dn f a <;> rfl
theorem PP_grow {A' : Am} {V' : Nat → Bool} {dn' : Nat → Bf} (hg : grow A V dn A' V' dn') {a b c r : Int32} (h : PP V dn a b c r) : PP V' dn' a b c r := by
  obtain ⟨f, g, k, q, e1, e2, e3, e4, v1, v2, v3, v4, e⟩ := h
  obtain ⟨a1, a2, -⟩ := hg.1 f v1
  obtain ⟨b1, b2, -⟩ := hg.1 g v2
  obtain ⟨c1, c2, -⟩ := hg.1 k v3
  obtain ⟨d1, d2, -⟩ := hg.1 q v4
  exact ⟨f, g, k, q, e1, e2, e3, e4, a1, b1, c1, d1, by rw [a2, b2, c2, d2, e]⟩
theorem neg1 {k : Nat} (hk : k < 24800) : ¬ nI k = -1 := fun e => by
  have a := nI_toInt (n := k) (by omega)
  rw [e] at a
  have : (-1 : Int32).toInt = -1 := by decide
  omega
end
set_option maxHeartbeats 1000000 in
theorem pick_spec {ext : Nat → Nat} {ag : Nat} {X : (Nat → Bool) → (Nat → Bf) → Int32 → Int32 → Int32 → Int32 → Prop} (X1 : ∀ V dn a b c r, X V dn a b c r → c = -1) (X2 : ∀ A V dn A' V' dn' a b c r, grow A V dn A' V' dn' → X V dn a b c r → X V' dn' a b c r) :
    ∀ (d : Nat) (N E : Mm) (A : Am) (V : Nat → Bool) (dn : Nat → Bf) (ch : Nat → List Nat) (fl : List Nat) (f g k : Nat), mr N A → tn A V dn ch fl ext → me E ag (fun a b c r => PP V dn a b c r ∨ X V dn a b c r) → vl V f → vl V g → vl V k → 12 ≤ d + A 7 (A 0 f) → 12 ≤ d + A 7 (A 0 g) → 12 ≤ d + A 7 (A 0 k) → tp A V + bud d + 256 ≤ A 9 0 →
    ∃ (N' E' : Mm) (A' : Am) (V' : Nat → Bool) (dn' : Nat → Bf) (ch' : Nat → List Nat) (fl' : List Nat) (r : Nat), j_pick d N E (nI f) (nI g) (nI k) = (N', E', nI r) ∧ mr N' A' ∧ tn A' V' dn' ch' fl' ext ∧ me E' ag (fun a b c r => PP V' dn' a b c r ∨ X V' dn' a b c r) ∧ grow A V dn A' V' dn' ∧ vl V' r ∧ dn' r = itf (dn f) (dn g) (dn k) ∧ tp A' V' ≤ tp A V + bud d := by
  intro d
  induction d with
  | zero =>
    intro N E A V dn ch fl f g k hm h he hf hg hk l1 l2 l3 hb
    have hf1 : f ≤ 1 := by
      rcases hf with q | q
      · exact q
      · have := lp_lt h.1 (h.2.1.1 f q).2.1
        omega
    obtain ⟨r, r1, r2, r3⟩ := pickB_spec h hf hg hk (by omega)
    exact ⟨N, E, A, V, dn, ch, fl, r, by rw [pick_0, r1], hm, h, he, grow_rf _ _ _, r2, r3, Nat.le_add_right _ _⟩
  | succ d ih =>
    intro N E A V dn ch fl f g k hm h he hf hg hk l1 l2 l3 hb
    have bf := tn_lt h hf
    have bg := tn_lt h hg
    have bk := tn_lt h hk
    have hiff : (nI f = 1 ∨ nI g = nI k ∨ nI f = 0 ∨ (nI g = 1 ∧ nI k = 0)) ↔ (f = 1 ∨ g = k ∨ f = 0 ∨ (g = 1 ∧ k = 0)) := by
      rw [nI_q1 bf, nI_qq bg bk, nI_q0 bf, nI_q1 bg, nI_q0 bk]
    by_cases c0 : f = 1 ∨ g = k ∨ f = 0 ∨ (g = 1 ∧ k = 0)
    · obtain ⟨r, r1, r2, r3⟩ := pickB_spec h hf hg hk c0
      exact ⟨N, E, A, V, dn, ch, fl, r, by rw [pick_b (hiff.mpr c0), r1], hm, h, he, grow_rf _ _ _, r2, r3, Nat.le_add_right _ _⟩
    · have fV : V f = true := by
        rcases hf with q | q
        · omega
        · exact q
      rcases me_ask he (nI f) (nI g) (nI k) with ea | ea
      · obtain ⟨v, ev, hv, o1, o2, o3, o4⟩ := first_spec hm h fV hg hk
        obtain ⟨f1, -, f3, f4, f5, f6, f7⟩ := low_spec hm h hf hv o1
        obtain ⟨g1, -, g3, g4, g5, g6, g7⟩ := low_spec hm h hg hv o2
        obtain ⟨k1, -, k3, k4, k5, k6, k7⟩ := low_spec hm h hk hv o3
        have hlev : 12 ≤ d + 1 + A 7 v := by omega
        obtain ⟨bd1, bd2⟩ := bud_le hlev
        obtain ⟨N1, E1, A1, V1, dn1, ch1, fl1, r1, hp1, a2, a3, a4, a5, a6, a7, a8⟩ := ih N E A V dn ch fl _ _ _ hm h he f3 g3 k3 (by omega) (by omega) (by omega) (by omega)
        obtain ⟨s1, s2, s3, s4, s5⟩ := id a5
        obtain ⟨uf1, uf2, uf3, uf4, uf5⟩ := s1 f hf
        obtain ⟨ug1, ug2, ug3, ug4, ug5⟩ := s1 g hg
        obtain ⟨uk1, uk2, uk3, uk4, uk5⟩ := s1 k hk
        have ef : hw A1 v f = hw A v f := by unfold hw; rw [uf3, uf5]
        have eg : hw A1 v g = hw A v g := by unfold hw; rw [ug3, ug5]
        have ek : hw A1 v k = hw A v k := by unfold hw; rw [uk3, uk5]
        obtain ⟨-, f2', -⟩ := low_spec a2 a3 uf1 hv (by rw [s2, uf3]; exact o1)
        obtain ⟨-, g2', -⟩ := low_spec a2 a3 ug1 hv (by rw [s2, ug3]; exact o2)
        obtain ⟨-, k2', -⟩ := low_spec a2 a3 uk1 hv (by rw [s2, uk3]; exact o3)
        rw [ef] at f2'
        rw [eg] at g2'
        rw [ek] at k2'
        obtain ⟨tf1, tf2, tf3, -⟩ := s1 _ f4
        obtain ⟨tg1, tg2, tg3, -⟩ := s1 _ g4
        obtain ⟨tk1, tk2, tk3, -⟩ := s1 _ k4
        obtain ⟨N2, E2, A2, V2, dn2, ch2, fl2, r2, hp2, b2, b3, b4, b5, b6, b7, b8⟩ := ih N1 E1 A1 V1 dn1 ch1 fl1 _ _ _ a2 a3 a4 tf1 tg1 tk1 (by rw [s2, tf3]; omega) (by rw [s2, tg3]; omega) (by rw [s2, tk3]; omega) (by rw [s4]; omega)
        obtain ⟨w1, w2, w3, w4, w5⟩ := id b5
        obtain ⟨x1, x2, -⟩ := w1 r1 a6
        have n1 : ∀ x, x < 12 → A2 7 x < A 7 v + 1 → ind (dn2 r1) x := fun x _ hx => by
          rw [w2, s2] at hx
          rw [x2, a7]
          exact itf_ind (gi_ind h.2.1 h.1 f3 (by rw [rk_f rfl]; omega)) (gi_ind h.2.1 h.1 g3 (by rw [rk_f rfl]; omega)) (gi_ind h.2.1 h.1 k3 (by rw [rk_f rfl]; omega))
        have n2 : ∀ x, x < 12 → A2 7 x < A 7 v + 1 → ind (dn2 r2) x := fun x _ hx => by
          rw [w2, s2] at hx
          rw [b7, tf2, tg2, tk2]
          exact itf_ind (gi_ind h.2.1 h.1 f4 (by rw [rk_f rfl]; omega)) (gi_ind h.2.1 h.1 g4 (by rw [rk_f rfl]; omega)) (gi_ind h.2.1 h.1 k4 (by rw [rk_f rfl]; omega))
        have lv12 := lp_lt h.1 hv
        have m1 := gi_lev b3.2.1 b3.1 x1 n1 (by omega)
        have m2 := gi_lev b3.2.1 b3.1 b6 n2 (by omega)
        have e27 : A2 7 v = A 7 v := by rw [w2, s2]
        obtain ⟨N3, A3, V3, dn3, ch3, fl3, r3, c1, c2, c3, c4, c5, c6, c7⟩ := make_tn b2 b3 hv x1 b6 (by rw [e27]; omega) (by rw [e27]; omega) (by rw [e27, w4, s4]; omega)
        have hg3 : grow A V dn A3 V3 dn3 := grow_tr a5 (grow_tr b5 c4)
        have hres : dn3 r3 = itf (dn f) (dn g) (dn k) := by
          rw [c6, x2, a7, b7, tf2, tg2, tk2, f7, g7, k7, itf_mk]
        have ej := pick_r (d := d) (N := N) (E := E) (N1 := N1) (E1 := E1) (N2 := N2) (E2 := E2) (f := nI f) (g := nI g) (h := nI k) (v := nI v) (low := nI r1) (high := nI r2) (fun z => c0 (hiff.mp z)) ea ev (by rw [f1, g1, k1]; exact hp1) (by rw [f2', g2', k2']; exact hp2) c1
        obtain ⟨yf1, yf2, -⟩ := hg3.1 f hf
        obtain ⟨yg1, yg2, -⟩ := hg3.1 g hg
        obtain ⟨yk1, yk2, -⟩ := hg3.1 k hk
        refine ⟨N3, _, A3, V3, dn3, ch3, fl3, r3, ej, c2, c3, ?_, hg3, c5, hres, ?_⟩
        · refine me_keep (me_mono b4 (fun a b c r hh => ?_)) (Or.inl ⟨f, g, k, r3, rfl, rfl, rfl, rfl, yf1, yg1, yk1, c5, by rw [yf2, yg2, yk2]; exact hres⟩)
          rcases hh with hh | hh
          · exact Or.inl (PP_grow c4 hh)
          · exact Or.inr (X2 _ _ _ _ _ _ _ _ _ _ c4 hh)
        · rw [e27] at c7; omega
      · rcases ea with ⟨f', g', k', r, e1, e2, e3, e4, v1, v2, v3, v4, e⟩ | ea
        · have bf' := tn_lt h v1
          have bg' := tn_lt h v2
          have bk' := tn_lt h v3
          have br := tn_lt h v4
          have q1 := (nI_qq bf bf').mp e1
          have q2 := (nI_qq bg bg').mp e2
          have q3 := (nI_qq bk bk').mp e3
          subst q1; subst q2; subst q3
          exact ⟨N, E, A, V, dn, ch, fl, r, by rw [pick_m (fun z => c0 (hiff.mp z)) (by rw [e4]; exact neg1 br), e4], hm, h, he, grow_rf _ _ _, v4, e, Nat.le_add_right _ _⟩
        · exact absurd (X1 _ _ _ _ _ _ ea) (neg1 bk)
