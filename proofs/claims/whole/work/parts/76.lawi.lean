/-! WHAT THE LAW'S WALK ASKS OF THE INVARIANT I: after t calls the cells hold N, E, V, and the reference F -/
abbrev cl (i : Nat) : Nat := (nI i).toNatClampNeg
def LI (I : Nat → Mm → Mm → (Nat → Int32) → (Nat → Nat → Bool) → Prop) : Prop :=
  I 0 N0 E0 (fun _ => 0) (fun _ _ => false) ∧
  (∀ t N E V F, I t N E V F → sok N ∧ ∀ k, k < 13 → ∃ w, w < 13 ∧ N 5 k = nI w) ∧
  (∀ t N E V F, I t N E V F → I (t + 1) N E V F) ∧
  (∀ t N E V F i b, I t N E V F → t < 512 → i < 32 → I (t + 1) (j_put N V (nI i) (zb b)) E (upd V (cl i) (zb b)) (fp F i 4096 (fun _ => b))) ∧
  (∀ t N E V F i v N' r, I t N E V F → t < 512 → i < 32 → v < 12 → j_make (j_makeRoom N 1) (nI v) 0 1 = (N', r) → I (t + 1) (j_put N' V (nI i) r) (j_forget E) (upd V (cl i) r) (fp F i 4096 (fun w => w.testBit v)) ∧ N' 0 0 = j_makeRoom N 1 0 0 ∧ rmN N ≤ rmN N') ∧
  (∀ t N E V F i f1 f2 f3 N' E' r, I t N E V F → t < 512 → i < 32 → f1 < 32 → f2 < 32 → f3 < 32 → j_pick 12 (j_makeRoom N 765) (j_forget E) (V (cl f1)) (V (cl f2)) (V (cl f3)) = (N', E', r) → I (t + 1) (j_put N' V (nI i) r) E' (upd V (cl i) r) (fp F i 4096 (fun w => if F f1 w then F f2 w else F f3 w)) ∧ N' 0 0 = j_makeRoom N 765 0 0 ∧ rmN N ≤ rmN N' ∧ (r = V (cl i) ↔ dif (F i) (fun w => if F f1 w then F f2 w else F f3 w) 4096 = false)) ∧
  (∀ t N E V F i k f1 f2 N' E' r, I t N E V F → t < 512 → i < 32 → k < 5 → f1 < 32 → f2 < 32 → j_joined k (j_makeRoom N 1530) (j_forget E) (V (cl f1)) (V (cl f2)) = (N', E', r) → I (t + 1) (j_put N' V (nI i) r) E' (upd V (cl i) r) (fp F i 4096 (fun w => jn k (F f1 w) (F f2 w))) ∧ N' 0 0 = j_makeRoom N 1530 0 0 ∧ rmN N ≤ rmN N' ∧ (r = V (cl i) ↔ dif (F i) (fun w => jn k (F f1 w) (F f2 w)) 4096 = false)) ∧
  (∀ t N E V F i f1 f2 k N1 E1 r1 N' E' r, I t N E V F → t < 512 → i < 32 → f1 < 32 → f2 < 32 → k < 4096 → j_pick 12 (j_makeRoom N 3323) (j_forget E) (V (cl f1)) (V (cl f2)) 0 = (N1, E1, r1) → j_freed (nI k) 12 N1 E1 r1 = (N', E', r) → I (t + 1) (j_put N' V (nI i) r) E' (upd V (cl i) r) (fp F i 4096 (fun w => sm (4095 ^^^ k) (fun w => F f1 w && F f2 w) 4096 (w &&& (4095 ^^^ k)))) ∧ N' 0 0 = j_makeRoom N 3323 0 0 ∧ rmN N ≤ rmN N' ∧ (r = V (cl i) ↔ dif (F i) (fun w => sm (4095 ^^^ k) (fun w => F f1 w && F f2 w) 4096 (w &&& (4095 ^^^ k))) 4096 = false)) ∧
  (∀ t N E V F i f1 E9 m1 N' r, I t N E V F → t < 512 → i < 32 → f1 < 32 → j_hang 12 (j_makeRoom N 765) (j_forget E) (V (cl f1)) = (E9, m1) → j_turn m1 12 (j_makeRoom N 765) (V (cl f1)) 0 0 0 = (N', r) → I (t + 1) (j_put N' V (nI i) r) E9 (upd V (cl i) r) (fp F i 4096 (fun w => F f1 (tw w))) ∧ N' 0 0 = j_makeRoom N 765 0 0 ∧ rmN N ≤ rmN N' ∧ (r = V (cl i) ↔ dif (F i) (fun w => F f1 (tw w)) 4096 = false)) ∧
  (∀ t N E V F i w, I t N E V F → i < 32 → w < 4096 → j_truthFor N (V (cl i)) (nI w) = zb (F i w)) ∧
  (∀ t N E V F i f1, I t N E V F → i < 32 → f1 < 32 → (V (cl i) = V (cl f1) ↔ dif (F i) (F f1) 4096 = false)) ∧
  (∀ t N E V F i E' r, I t N E V F → t < 512 → i < 32 → j_hang 12 N (j_forget E) (V (cl i)) = (E', r) → I (t + 1) N E' V F ∧ r = hgI (F i) 12) ∧
  (∀ t N E V F i, I t N E V F → i < 32 → hgI (F i) 12 &&& 2730 = 0 → j_countL N (V (cl i)) 64 0 0 = nI (cntb (F i) 4096 / 64)) ∧
  (∀ t N E V F x, I t N E V F → t < 512 → x < 3 → I (t + 1) (j_tidy N (nI x)) E V F ∧ rmN N ≤ rmN (j_tidy N (nI x)) ∧ sok (j_collect N) ∧ j_notFalse V 32 0 0 = nI (cntb (fun a => anyb (F a) 4096) 32)) ∧
  (∀ t N E V F, I t N E V F → j_faults N = 0)
def CC (t : Nat) (N : Mm) : Nat := 17 + mcW N0 N + t
def SS (t : Nat) (N : Mm) : Nat := 150367 + msW N0 N + 6 * t
theorem rm_0 : rmN N0 = 1024 := by unfold rmN; decide
theorem sok_1024 {N : Mm} (h : sok N) : 1024 ≤ rmN N := by
  obtain ⟨⟨R, e, h1, h2⟩, -, -⟩ := h
  unfold rmN
  rw [e, nI_clamp (by omega)]
  exact h1
theorem CC_b {t : Nat} {N : Mm} (h : sok N) (ht : t ≤ 512) : CC t N ≤ 601024 ∧ SS t N ≤ 7293034 := by
  have h1 := sok_rm h
  have h2 := pot_mono h1 (Nat.le_refl _)
  unfold CC SS mcW msW
  have e : pot 24800 = 372000 := by decide
  rw [e] at h2
  omega
theorem CC_s {t : Nat} {N N2 NR : Mm} (h0 : sok N) (h1 : sok N2) (h2 : rmN N ≤ rmN N2) (e : rmN NR = rmN N2) : CC t N + mcW N NR ≤ CC (t + 1) N2 ∧ SS t N + msW N NR ≤ SS (t + 1) N2 := by
  have a1 := sok_1024 h0
  have a2 := pot_mono a1 (sok_rm h0)
  have a3 := pot_mono h2 (sok_rm h1)
  have a4 := pot_mono (sok_1024 h1) (sok_rm h1)
  unfold CC SS mcW msW
  rw [rm_0, e]
  omega
theorem CC_x {t : Nat} {N : Mm} : CC t N + 1 ≤ CC (t + 1) N ∧ SS t N + 6 ≤ SS (t + 1) N := by
  unfold CC SS; omega
theorem CC_z {t : Nat} {N : Mm} : CC t N + 0 ≤ CC (t + 1) N ∧ SS t N + 0 ≤ SS (t + 1) N := by
  unfold CC SS; omega
theorem put_00 (N : Mm) (V : Nat → Int32) (x y : Int32) : j_put N V x y 0 0 = N 0 0 := by
  unfold j_put j_refer
  rw [js_0, js_0]
theorem rm_e {N N' : Mm} (h : N 0 0 = N' 0 0) : rmN N = rmN N' := by unfold rmN; rw [h]
theorem okb_of {x : Int32} {n : Nat} (h : okb x (nI n)) (hn : n < 2 ^ 31) : ∃ i, i < n ∧ x = nI i := vp_in_of (okb_in h hn) hn
theorem hg_lt (f : Nat → Bool) : ∀ n, n ≤ 12 → ∃ k, k < 4096 ∧ hgI f n = nI k
  | 0, _ => ⟨0, by decide, rfl⟩
  | n + 1, h => by
    obtain ⟨k, hk, e⟩ := hg_lt f n (by omega)
    rw [hgI]
    by_cases c : dif f (fun w => f (w ^^^ 2 ^ n)) 4096 = true
    · rw [if_pos c, e, nx_sh (v := n) (by omega), nx_or]
      exact ⟨_, Nat.or_lt_two_pow (n := 12) hk (Nat.pow_lt_pow_right (by decide) (by omega)), rfl⟩
    · rw [if_neg c]
      exact ⟨k, hk, e⟩
theorem hg_ev (f : Nat → Bool) : hgI f 12 &&& (-1366) = hgI f 12 &&& 2730 := by
  obtain ⟨k, hk, e⟩ := hg_lt f 12 (Nat.le_refl _)
  rw [e, show (-1366 : Int32) = nI 4294965930 from by decide, show (2730 : Int32) = nI 2730 from rfl, nx_and, nx_and]
  refine congrArg nI (Nat.eq_of_testBit_eq (fun i => ?_))
  have hb : ∀ i, i < 12 → Nat.testBit 4294965930 i = Nat.testBit 2730 i := by decide
  rw [Nat.testBit_and, Nat.testBit_and]
  by_cases c : i < 12
  · rw [hb i c]
  · rw [tb_lt hk (by omega), Bool.false_and, Bool.false_and]
theorem lc_eq {x y : Int64} (h : x = y) : lg_cmp x y = 0 := by subst h; simp [lg_cmp]
theorem end_gt {i L : Nat} (hi : i ≤ 2560) (hL : L ≤ 2560) : nI L - 5 < nI i ↔ L < i + 5 := by
  rw [Int32.lt_iff_toInt_lt, show (5 : Int32) = nI 5 from rfl, pk_sub_toInt (by omega) (by decide), nI_toInt (by omega)]
  omega
