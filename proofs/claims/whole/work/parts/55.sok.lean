/-! what a swap keeps of the order's tables, and that the room only grows -/
theorem uk (N : Mm) {k k' j : Nat} {x : Int32} (h : k' ≠ k) : up N k j x k' = N k' := fu_n h
theorem refer_k (N : Mm) (a b : Int32) {k : Nat} (h : 4 ≤ k) : j_refer N a b k = N k := js_k (by omega)
theorem giveBack_k (N : Mm) (a : Int32) {k : Nat} (h : 4 ≤ k) : j_giveBack N a k = N k := by unfold j_giveBack; rw [uk _ (by omega), uk _ (by omega), js_k (by omega)]
theorem dropKids_k (N : Mm) (a : Int32) {k : Nat} (h : 4 ≤ k) : j_dropKids N a k = N k := by unfold j_dropKids; rw [refer_k _ _ _ h, refer_k _ _ _ h]
theorem link_k (N : Mm) (a b c d : Int32) {k : Nat} (h : 4 ≤ k) : j_link N a b c d k = N k := by
  unfold j_link
  by_cases c1 : b < 0
  · rw [if_pos c1]
  · rw [if_neg c1]
    by_cases c2 : nI 12 ≤ b
    · rw [if_pos c2]
    · rw [if_neg c2]
      by_cases c3 : j_chainFor b c d < 0
      · rw [if_pos c3]
      · rw [if_neg c3]
        by_cases c4 : nI 768 ≤ j_chainFor b c d
        · rw [if_pos c4]
        · rw [if_neg c4, uk _ (by omega), uk _ (by omega), js_k (by omega), js_k (by omega), js_k (by omega), js_k (by omega)]
theorem fresh_k (N : Mm) {k : Nat} (h : 4 ≤ k) : (j_freshRow N).1 k = N k := by
  unfold j_freshRow
  by_cases c1 : N 0 2 = 0
  · rw [if_pos c1]
    by_cases c2 : N 0 1 < N 0 0
    · rw [if_pos c2]
      show up (j_set (up N 0 1 (N 0 1 + 1)) (N 0 1) 4 0) 0 3 (N 0 3 + 1) k = N k
      rw [uk _ (by omega), js_k (by omega), uk _ (by omega)]
    · rw [if_neg c2]
  · rw [if_neg c1]
    show up (j_set (up N 0 2 (j_get N (N 0 2) 3)) (N 0 2) 4 0) 0 3 (N 0 3 + 1) k = N k
    rw [uk _ (by omega), js_k (by omega), uk _ (by omega)]
theorem fresh2_k (N : Mm) (a b c : Int32) {k : Nat} (h : 4 ≤ k) : (j_fresh2 N a b c).1 k = N k := by
  unfold j_fresh2
  by_cases c1 : (j_freshRow N).2 = 0
  · rw [if_pos c1]; exact fresh_k N h
  · rw [if_neg c1]
    show j_link _ _ _ _ _ k = N k
    rw [link_k _ _ _ _ _ h, refer_k _ _ _ h, refer_k _ _ _ h, fresh_k _ h]
theorem make_k (N : Mm) (a b c : Int32) {k : Nat} (h : 4 ≤ k) : (j_make N a b c).1 k = N k := by
  unfold j_make
  by_cases c1 : b = c
  · rw [if_pos c1]
  · rw [if_neg c1]
    by_cases c2 : j_chainFor a b c < 0
    · rw [if_pos c2]
    · rw [if_neg c2]
      by_cases c3 : nI 768 ≤ j_chainFor a b c
      · rw [if_pos c3]
      · rw [if_neg c3]
        generalize j_findL N b c 24800 (N 2 (j_chainFor a b c).toNatClampNeg) = z
        by_cases c4 : z = 0
        · rw [if_pos c4]; exact fresh2_k N a b c h
        · rw [if_neg c4]
theorem unlinkL_k : ∀ (n : Nat) (N : Mm) (a b : Int32) {k : Nat}, 4 ≤ k → j_unlinkL N a n b k = N k
  | 0, _, _, _, _, _ => rfl
  | n + 1, N, a, b, k, h => by
    rw [j_unlinkL]
    by_cases c1 : b = 0
    · rw [if_pos c1]
    · rw [if_neg c1]
      by_cases c2 : j_get N b 3 = a
      · rw [if_pos c2, js_k (by omega)]
      · rw [if_neg c2]; exact unlinkL_k n N a _ h
theorem unlink_k (N : Mm) (a : Int32) {k : Nat} (h : 4 ≤ k) : j_unlink N a k = N k := by
  unfold j_unlink
  by_cases c1 : j_get N a 0 < 0
  · rw [if_pos c1]
  · rw [if_neg c1]
    by_cases c2 : nI 12 ≤ j_get N a 0
    · rw [if_pos c2]
    · rw [if_neg c2]
      by_cases c3 : j_chainFor (j_get N a 0) (j_get N a 1) (j_get N a 2) < 0
      · rw [if_pos c3]
      · rw [if_neg c3]
        by_cases c4 : nI 768 ≤ j_chainFor (j_get N a 0) (j_get N a 1) (j_get N a 2)
        · rw [if_pos c4]
        · rw [if_neg c4]
          unfold j_unlink2
          generalize hM : up N 3 (j_get N a 0).toNatClampNeg (N 3 (j_get N a 0).toNatClampNeg - 1) = M1
          have e : M1 k = N k := by rw [← hM]; exact uk _ (by omega)
          by_cases c5 : M1 2 (j_chainFor (j_get N a 0) (j_get N a 1) (j_get N a 2)).toNatClampNeg = a
          · rw [if_pos c5, uk _ (by omega), e]
          · rw [if_neg c5, unlinkL_k _ _ _ _ h, e]
theorem release_k (N : Mm) (a : Int32) {k : Nat} (h : 4 ≤ k) : j_release N a k = N k := by
  unfold j_release
  by_cases c1 : a ≤ 1
  · rw [if_pos c1, refer_k _ _ _ h]
  · rw [if_neg c1]
    by_cases c2 : 0 < j_get (j_refer N a (-1)) a 4
    · rw [if_pos c2, refer_k _ _ _ h]
    · rw [if_neg c2, giveBack_k _ _ h, dropKids_k _ _ h, unlink_k _ _ h, refer_k _ _ _ h]
theorem rewrite_k (N : Mm) (a b c : Int32) {k : Nat} (h : 4 ≤ k) : j_rewrite N a b c k = N k := by
  unfold j_rewrite
  rw [uk _ (by omega)]
  unfold j_rewrite1 j_rewrite2
  rw [release_k _ _ h, release_k _ _ h, link_k _ _ _ _ _ h, refer_k _ _ _ h, refer_k _ _ _ h]
  unfold j_rewriteB
  rw [make_k _ _ _ _ h]
  unfold j_rewriteA
  rw [make_k _ _ _ _ h]
theorem detachC_k (x : Int32) (u : Nat) : ∀ (n : Nat) (N : Mm) (a b c : Int32) {k : Nat}, 4 ≤ k → (j_detachC x u n N a b c).1 k = N k
  | 0, _, _, _, _, _, _ => rfl
  | n + 1, N, a, b, c, k, h => by
    rw [j_detachC]
    by_cases c1 : c = 0
    · rw [if_pos c1]
    · rw [if_neg c1]
      by_cases c2 : j_get N (j_get N c 1) 0 = x ∨ j_get N (j_get N c 2) 0 = x
      · rw [if_pos c2, detachC_k x u n _ _ _ _ h, uk _ (by omega), js_k (by omega)]
      · rw [if_neg c2, detachC_k x u n _ _ _ _ h, js_k (by omega)]
theorem detachH_k (x y : Int32) : ∀ (n : Nat) (N : Mm) (a h9 : Int32) {k : Nat}, 4 ≤ k → (j_detachH x y n N a h9).1 k = N k
  | 0, _, _, _, _, _ => rfl
  | n + 1, N, a, h9, k, h => by
    rw [j_detachH]
    by_cases c1 : h9 < 0
    · rw [if_pos c1]
    · rw [if_neg c1]
      by_cases c2 : nI 768 ≤ h9
      · rw [if_pos c2]
      · rw [if_neg c2]
        by_cases c3 : y < 0
        · rw [if_pos c3]
        · rw [if_neg c3]
          by_cases c4 : nI 12 ≤ y
          · rw [if_pos c4]
          · rw [if_neg c4, detachH_k x y n _ _ _ h, uk _ (by omega), detachC_k _ _ _ _ _ _ _ h]
theorem swapL_k (x y : Int32) : ∀ (n : Nat) (N : Mm) (a : Int32) {k : Nat}, 4 ≤ k → j_swapL x y n N a k = N k
  | 0, _, _, _, _ => rfl
  | n + 1, N, a, k, h => by
    rw [j_swapL]
    by_cases c1 : a = 0
    · rw [if_pos c1]
    · rw [if_neg c1, swapL_k x y n _ _ h, rewrite_k _ _ _ _ h]
theorem swap3_k (N : Mm) (x y : Int32) {k : Nat} (h : 4 ≤ k) : j_swap3 N x y k = N k := by
  unfold j_swap3 j_detach
  rw [swapL_k _ _ _ _ _ h, detachH_k _ _ _ _ _ _ h]
theorem widen_k (N : Mm) (x : Int32) {k : Nat} (h : 2 ≤ k) : j_widen N x k = N k := by
  unfold j_widen
  by_cases c : j_min (x + 2) 24800 ≤ N 0 0
  · rw [if_pos c]
  · rw [if_neg c, fu_n (by omega), uk _ (by omega)]
theorem widen_room {N : Mm} {R0 : Nat} (x : Int32) (hR : N 0 0 = nI R0) (h1 : 1024 ≤ R0) (h2 : R0 ≤ 24800) : ∃ R1, j_widen N x 0 0 = nI R1 ∧ R0 ≤ R1 ∧ R1 ≤ 24800 := by
  by_cases c : j_min (x + 2) 24800 ≤ N 0 0
  · refine ⟨R0, ?_, Nat.le_refl _, h2⟩
    unfold j_widen
    rw [if_pos c]; exact hR
  · obtain ⟨R1, e, g1, g2, -⟩ := wroom_e hR h2 h1 c
    refine ⟨R1, ?_, by omega, g2⟩
    unfold j_widen
    rw [if_neg c, fu_n (by omega), uf_0_0]; exact e
def sok (N : Mm) : Prop := (∃ R, N 0 0 = nI R ∧ 1024 ≤ R ∧ R ≤ 24800) ∧ (∀ k, k < 12 → ∃ w, w < 12 ∧ N 5 k = nI w) ∧ (∀ v, v < 12 → ∃ k, k < 12 ∧ N 4 v = nI k)
def sle (N N' : Mm) : Prop := sok N' ∧ rmN N ≤ rmN N'
theorem sle_rf {N : Mm} (h : sok N) : sle N N := ⟨h, Nat.le_refl _⟩
theorem sle_tr {N N1 N2 : Mm} (h : sle N N1) (g : sle N1 N2) : sle N N2 := ⟨g.1, Nat.le_trans h.2 g.2⟩
theorem sok_swap {N : Mm} (h : sok N) {kk : Nat} (hk : kk < 12) : sle N (j_swap N (nI kk)) := by
  obtain ⟨⟨R, r1, r2, r3⟩, h5, h4⟩ := id h
  unfold j_swap
  rw [if_neg (nI_pos (by omega)), nI_1]
  by_cases c : kk + 1 < 12
  · rw [if_neg (show ¬ (12 : Int32) ≤ nI (kk + 1) from nI_ge (b := 12) (a := kk + 1) c (by omega)), if_neg (nI_ge (b := 13) (a := kk + 1) (by omega) (by omega)), nI_clamp (by omega), nI_clamp (by omega)]
    obtain ⟨u, hu, eu⟩ := h5 kk (by omega)
    obtain ⟨w, hw, ew⟩ := h5 (kk + 1) (by omega)
    rw [eu, ew, if_neg (nI_pos (by omega)), if_neg (nI_ge (b := 13) (by omega) (by omega)), if_neg (nI_pos (by omega)), if_neg (nI_ge (b := 13) (by omega) (by omega))]
    have hM : ∃ M1, j_swap1 N (nI kk) (nI u) (nI w) = M1 ∧ M1 0 = N 0 ∧ M1 5 = upd (upd (N 5) kk (nI w)) (kk + 1) (nI u) ∧ M1 4 = upd (upd (N 4) w (nI kk)) u (nI (kk + 1)) := by
      refine ⟨_, rfl, ?_, ?_, ?_⟩ <;> unfold j_swap1 <;> rw [nI_1, nI_clamp (by omega : kk < 2 ^ 31), nI_clamp (by omega : kk + 1 < 2 ^ 31), nI_clamp (by omega : w < 2 ^ 31), nI_clamp (by omega : u < 2 ^ 31)]
      · rw [uq_4_0, uq_4_0, uq_5_0, uq_5_0]
      · rw [uq_4_5, uq_4_5, up_s, up_s]
      · rw [up_s, up_s, uq_5_4, uq_5_4]
    obtain ⟨M1, eM, m0, m5, m4⟩ := hM
    rw [eM]
    have k5 : ∀ k, k < 12 → ∃ z, z < 12 ∧ M1 5 k = nI z := fun k hk => by
      rw [m5]
      by_cases q1 : k = kk + 1
      · exact ⟨u, hu, by rw [q1, upd_s]⟩
      · rw [upd_n q1]
        by_cases q2 : k = kk
        · exact ⟨w, hw, by rw [q2, upd_s]⟩
        · rw [upd_n q2]; exact h5 k hk
    have k4 : ∀ v, v < 12 → ∃ z, z < 12 ∧ M1 4 v = nI z := fun v hv => by
      rw [m4]
      by_cases q1 : v = u
      · exact ⟨kk + 1, c, by rw [q1, upd_s]⟩
      · rw [upd_n q1]
        by_cases q2 : v = w
        · exact ⟨kk, hk, by rw [q2, upd_s]⟩
        · rw [upd_n q2]; exact h4 v hv
    have base : sle N M1 := ⟨⟨⟨R, by rw [m0]; exact r1, r2, r3⟩, k5, k4⟩, by unfold rmN; rw [m0]; exact Nat.le_refl _⟩
    unfold j_swap2
    by_cases c1 : j_heldFor M1 (nI u) = 0
    · rw [if_pos c1]; exact base
    · rw [if_neg c1]
      by_cases c2 : j_heldFor M1 (nI w) = 0
      · rw [if_pos c2]; exact base
      · rw [if_neg c2]
        obtain ⟨R1, e1, g1, g2⟩ := widen_room (N := M1) (R0 := R) (M1 0 3 + 2 * j_heldFor M1 (nI u)) (by rw [m0]; exact r1) r2 r3
        refine ⟨⟨⟨R1, by rw [swap3_00]; exact e1, by omega, g2⟩, fun k hk => ?_, fun v hv => ?_⟩, ?_⟩
        · rw [swap3_k _ _ _ (by omega), widen_k _ _ (by omega)]; exact k5 k hk
        · rw [swap3_k _ _ _ (by omega), widen_k _ _ (by omega)]; exact k4 v hv
        · unfold rmN
          rw [swap3_00, e1, r1, nI_clamp (by omega), nI_clamp (by omega)]; exact g1
  · rw [if_pos (show (12 : Int32) ≤ nI (kk + 1) from nI_le (a := 12) (b := kk + 1) (by omega) (by omega))]
    exact sle_rf h
theorem pot_mono {a b : Nat} (h : a ≤ b) (hb : b ≤ 24800) : pot a ≤ pot b := by
  unfold pot
  by_cases c : a = 24800
  · rw [if_pos c, if_pos (by omega)]; omega
  · rw [if_neg c]
    by_cases c2 : b = 24800
    · rw [if_pos c2]; omega
    · rw [if_neg c2]; omega
theorem sok_rm {N : Mm} (h : sok N) : rmN N ≤ 24800 := by
  obtain ⟨⟨R, r1, r2, r3⟩, -⟩ := h
  unfold rmN; rw [r1, nI_clamp (by omega)]; exact r3
/-- the books: what was made up to N1, and a step to N2, within what is made up to the end P -/
theorem mcW_step {N N1 N2 P : Mm} (h1 : sle N N1) (h2 : sle N1 N2) (h3 : sle N2 P) : mcW N N1 + mcW N1 N2 = mcW N N2 ∧ msW N N1 + msW N1 N2 = msW N N2 ∧ mcW N N2 ≤ mcW N P ∧ msW N N2 ≤ msW N P := by
  have a1 := h1.2
  have a2 := h2.2
  have a3 := h3.2
  have b1 := pot_mono a1 (sok_rm h1.1)
  have b2 := pot_mono a2 (sok_rm h2.1)
  have b3 := pot_mono a3 (sok_rm h3.1)
  unfold mcW msW
  omega
