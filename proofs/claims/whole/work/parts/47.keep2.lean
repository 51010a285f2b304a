/-! what leaves the room as it is -/
theorem refer_0 (N : Mm) (a b : Int32) : j_refer N a b 0 = N 0 := js_0 _ _ _ _
theorem giveBack_00 (N : Mm) (a : Int32) : j_giveBack N a 0 0 = N 0 0 := by unfold j_giveBack; rw [uf_3_0, uf_2_0, js_0]
theorem dropHeld_0 (N : Mm) (v : Int32) : j_dropHeld N v 0 = N 0 := by
  unfold j_dropHeld
  by_cases c1 : v < 0
  · rw [if_pos c1]
  · rw [if_neg c1]
    by_cases c2 : nI 12 ≤ v
    · rw [if_pos c2]
    · rw [if_neg c2, uq_3_0]
theorem dropKids_0 (N : Mm) (a : Int32) : j_dropKids N a 0 = N 0 := by unfold j_dropKids; rw [refer_0, refer_0]
theorem drop_00 (N : Mm) (a : Int32) : j_drop N a 0 0 = N 0 0 := by
  unfold j_drop
  rw [giveBack_00, dropKids_0, dropHeld_0]
theorem neededL_00 : ∀ (n : Nat) (N : Mm) (a b : Int32), (j_neededL n N a b).1 0 0 = N 0 0
  | 0, _, _, _ => rfl
  | n + 1, N, a, b => by
    rw [j_neededL]
    by_cases c1 : b = 0
    · rw [if_pos c1]
    · rw [if_neg c1]
      by_cases c2 : 0 < j_get N b 4
      · rw [if_pos c2, neededL_00 n, js_0]
      · rw [if_neg c2, neededL_00 n, drop_00]
theorem needed_00 (N : Mm) (a : Int32) : (j_needed N a).1 0 0 = N 0 0 := neededL_00 _ _ _ _
theorem collectH_00 : ∀ (n : Nat) (N : Mm) (h : Int32), j_collectH n N h 0 0 = N 0 0 ∧ j_collectH n N h 5 = N 5
  | 0, _, _ => ⟨rfl, rfl⟩
  | n + 1, N, h => by
    rw [j_collectH]
    by_cases c1 : h < 0
    · rw [if_pos c1]; exact collectH_00 n _ _
    · rw [if_neg c1]
      by_cases c2 : nI 768 ≤ h
      · rw [if_pos c2]; exact collectH_00 n _ _
      · rw [if_neg c2]
        obtain ⟨e1, e2⟩ := collectH_00 n (up (j_needed N (N 2 h.toNatClampNeg)).1 2 h.toNatClampNeg (j_needed N (N 2 h.toNatClampNeg)).2) (h + 1)
        rw [e1, e2, uq_2_0, uq_2_5, needed_00, needed_5]
        exact ⟨rfl, rfl⟩
theorem collectL_00 : ∀ (n : Nat) (N : Mm) (k : Int32), j_collectL n N k 0 0 = N 0 0 ∧ j_collectL n N k 5 = N 5
  | 0, _, _ => ⟨rfl, rfl⟩
  | n + 1, N, k => by
    rw [j_collectL]
    obtain ⟨e1, e2⟩ := collectL_00 n (j_collectH 64 N (j_variableAt N k * 64)) (k + 1)
    obtain ⟨f1, f2⟩ := collectH_00 64 N (j_variableAt N k * 64)
    rw [e1, e2, f1, f2]
    exact ⟨rfl, rfl⟩
theorem collect_00 (N : Mm) : j_collect N 0 0 = N 0 0 := (collectL_00 12 N 0).1
theorem collect_5 (N : Mm) : j_collect N 5 = N 5 := (collectL_00 12 N 0).2
theorem link_0 (N : Mm) (a b c d : Int32) : j_link N a b c d 0 = N 0 := by
  unfold j_link
  by_cases c1 : b < 0
  · rw [if_pos c1]
  · rw [if_neg c1]
    by_cases c2 : nI 12 ≤ b
    · rw [if_pos c2]
    · rw [if_neg c2]
      by_cases c3 : j_chainFor b c d < 0
      · rw [if_pos c3]
      · rw [if_neg c3]
        by_cases c4 : nI 768 ≤ j_chainFor b c d
        · rw [if_pos c4]
        · rw [if_neg c4, uq_3_0, uq_2_0, js_0, js_0, js_0, js_0]
theorem fresh_00 (N : Mm) : (j_freshRow N).1 0 0 = N 0 0 := by
  unfold j_freshRow
  by_cases c1 : N 0 2 = 0
  · rw [if_pos c1]
    by_cases c2 : N 0 1 < N 0 0
    · rw [if_pos c2]
      show up (j_set (up N 0 1 (N 0 1 + 1)) (N 0 1) 4 0) 0 3 (N 0 3 + 1) 0 0 = N 0 0
      rw [uf_3_0, js_0, uf_1_0]
    · rw [if_neg c2]
  · rw [if_neg c1]
    show up (j_set (up N 0 2 (j_get N (N 0 2) 3)) (N 0 2) 4 0) 0 3 (N 0 3 + 1) 0 0 = N 0 0
    rw [uf_3_0, js_0, uf_2_0]
theorem fresh2_00 (N : Mm) (a b c : Int32) : (j_fresh2 N a b c).1 0 0 = N 0 0 := by
  unfold j_fresh2
  by_cases c1 : (j_freshRow N).2 = 0
  · rw [if_pos c1]; exact fresh_00 N
  · rw [if_neg c1]
    show j_link _ _ _ _ _ 0 0 = N 0 0
    rw [link_0, refer_0, refer_0, fresh_00]
theorem make_00 (N : Mm) (a b c : Int32) : (j_make N a b c).1 0 0 = N 0 0 := by
  unfold j_make
  by_cases c1 : b = c
  · rw [if_pos c1]
  · rw [if_neg c1]
    by_cases c2 : j_chainFor a b c < 0
    · rw [if_pos c2]
    · rw [if_neg c2]
      by_cases c3 : nI 768 ≤ j_chainFor a b c
      · rw [if_pos c3]
      · rw [if_neg c3]
        generalize j_findL N b c 24800 (N 2 (j_chainFor a b c).toNatClampNeg) = z
        by_cases c4 : z = 0
        · rw [if_pos c4]; exact fresh2_00 N a b c
        · rw [if_neg c4]
theorem unlinkL_0 : ∀ (n : Nat) (N : Mm) (a b : Int32), j_unlinkL N a n b 0 = N 0
  | 0, _, _, _ => rfl
  | n + 1, N, a, b => by
    rw [j_unlinkL]
    by_cases c1 : b = 0
    · rw [if_pos c1]
    · rw [if_neg c1]
      by_cases c2 : j_get N b 3 = a
      · rw [if_pos c2, js_0]
      · rw [if_neg c2]; exact unlinkL_0 n N a _
theorem unlink2_0 (N : Mm) (a c : Int32) : j_unlink2 N a c 0 = N 0 := by
  unfold j_unlink2
  by_cases c1 : N 2 c.toNatClampNeg = a
  · rw [if_pos c1, uq_2_0]
  · rw [if_neg c1, unlinkL_0]
theorem unlink_0 (N : Mm) (a : Int32) : j_unlink N a 0 = N 0 := by
  unfold j_unlink
  by_cases c1 : j_get N a 0 < 0
  · rw [if_pos c1]
  · rw [if_neg c1]
    by_cases c2 : nI 12 ≤ j_get N a 0
    · rw [if_pos c2]
    · rw [if_neg c2]
      by_cases c3 : j_chainFor (j_get N a 0) (j_get N a 1) (j_get N a 2) < 0
      · rw [if_pos c3]
      · rw [if_neg c3]
        by_cases c4 : nI 768 ≤ j_chainFor (j_get N a 0) (j_get N a 1) (j_get N a 2)
        · rw [if_pos c4]
        · rw [if_neg c4, unlink2_0, uq_3_0]
theorem release_00 (N : Mm) (a : Int32) : j_release N a 0 0 = N 0 0 := by
  unfold j_release
  by_cases c1 : a ≤ 1
  · rw [if_pos c1, refer_0]
  · rw [if_neg c1]
    by_cases c2 : 0 < j_get (j_refer N a (-1)) a 4
    · rw [if_pos c2, refer_0]
    · rw [if_neg c2, giveBack_00, dropKids_0, unlink_0, refer_0]
theorem rewrite_00 (N : Mm) (a b c : Int32) : j_rewrite N a b c 0 0 = N 0 0 := by
  unfold j_rewrite
  rw [uf_5_0]
  unfold j_rewrite1 j_rewrite2
  rw [release_00, release_00, link_0, refer_0, refer_0]
  unfold j_rewriteB
  rw [make_00]
  unfold j_rewriteA
  rw [make_00]
theorem detachC_0 (x : Int32) (u : Nat) : ∀ (n : Nat) (N : Mm) (a b c : Int32), (j_detachC x u n N a b c).1 0 = N 0
  | 0, _, _, _, _ => rfl
  | n + 1, N, a, b, c => by
    rw [j_detachC]
    by_cases c1 : c = 0
    · rw [if_pos c1]
    · rw [if_neg c1]
      by_cases c2 : j_get N (j_get N c 1) 0 = x ∨ j_get N (j_get N c 2) 0 = x
      · rw [if_pos c2, detachC_0 x u n, uq_3_0, js_0]
      · rw [if_neg c2, detachC_0 x u n, js_0]
theorem detachH_0 (x y : Int32) : ∀ (n : Nat) (N : Mm) (a h : Int32), (j_detachH x y n N a h).1 0 = N 0
  | 0, _, _, _ => rfl
  | n + 1, N, a, h => by
    rw [j_detachH]
    by_cases c1 : h < 0
    · rw [if_pos c1]
    · rw [if_neg c1]
      by_cases c2 : nI 768 ≤ h
      · rw [if_pos c2]
      · rw [if_neg c2]
        by_cases c3 : y < 0
        · rw [if_pos c3]
        · rw [if_neg c3]
          by_cases c4 : nI 12 ≤ y
          · rw [if_pos c4]
          · rw [if_neg c4, detachH_0 x y n, uq_2_0, detachC_0]
theorem detach_0 (N : Mm) (a b : Int32) : (j_detach N a b).1 0 = N 0 := detachH_0 _ _ _ _ _ _
theorem swapL_00 (x y : Int32) : ∀ (n : Nat) (N : Mm) (a : Int32), j_swapL x y n N a 0 0 = N 0 0
  | 0, _, _ => rfl
  | n + 1, N, a => by
    rw [j_swapL]
    by_cases c1 : a = 0
    · rw [if_pos c1]
    · rw [if_neg c1, swapL_00 x y n, rewrite_00]
theorem swap3_00 (N : Mm) (x y : Int32) : j_swap3 N x y 0 0 = N 0 0 := by
  unfold j_swap3
  rw [swapL_00, detach_0]
section NCALLW
variable {p : Program} {l : Launch} {e : Env} {R : Room} {s : State} {m : MethodId} {args : Array Value} {below : List Frame} {meth : Method} {c : Code} {H H0 : Heap} {locs : List Loc} {cells slots mc ms : Nat} {Q : State → Prop} {cc bytes : ByteArray} {pc maxL nL n index : Nat} {ls : Array Slot} {st rest As : List Value} {A0 : Nat → Prop} {y : MethodName} {cy : Cond} {rm : Room} {dC : Nat → ClassId} {dI : Nat → Nat → Nat} {cI : ClassId} {a : Nat → Nat} {N N' : Mm}
/-- a method of Nodes calls one that may make the rows anew -/
theorem nCallW (S : CallFix p m c cc nL s args W0 R_N) (hM : Met l y (cy :: W0) rm (va_Pc (.ref (a 0) :: As) (nM dC dI cI a N H.size)) (va_Qv (fun u : Nat → Nat => u 0 = a 0) (fun u t => nE dC dI cI u N' (va_A (nW cI a N) H.size) t) (va_A (nW cI a N) H.size)) mc ms (va_A (nW cI a N) H.size)) (cw : CallW R s args R_N R_N index y bytes maxL none (cy :: W0) rm mc ms n) (hP : va_P (dC, dI) cls0 (nW cI a N) H) (hK : va_K (dC, dI) cls0 [(cI, .int)] s) (hD : va_D A0 (nW cI a N)) (hS : va_S A0 H0 H locs) (hA : ∀ q, H0.size ≤ q → A0 q) (hn : As.length = n) (hsz : ls.size = nL) (hst : st = As.reverse ++ .ref (a 0) :: rest) (hW : (rest.map fun v => v.category).sum ≤ 8) (hdg : decode cc pc = .ok (.invokevirtual index, 3)) (hf : cells + mc ≤ R.cells ∧ slots + ms ≤ R.slots)
    (kk : ∀ (u : Nat → Nat) (H1 : Heap) (locs1 : List Loc), u 0 = a 0 → va_P (dC, dI) cls0 (nW cI u N') H1 → va_D A0 (nW cI u N') → va_S A0 H0 H1 locs1 → W p l e R s m args below meth c H1 locs1 (cells + mc) (slots + ms) Q (F0 m (pc + 3) ls rest)) : W p l e R s m args below meth c H locs cells slots Q (F0 m pc ls st) := by
  subst hst
  have hFc := va_free (wc := nW cI a N) hD hS hA [0, 1, 2, 3, 4, 5] rfl
  refine va_callv (va_runV (As := As) (rest := rest) (g := F0 m pc ls (As.reverse ++ .ref (a 0) :: rest)) S hM cw ⟨nM_call _, va_recv hK hP (ci := 1) (q0 := 0) rfl rfl, fun U hU hWu => ⟨rfl, by rw [hU], by rw [hU]; exact hP, va_K.moved hWu.alike hK, hD.weaken (fun _ _ _ _ => trivial)⟩⟩ rfl hn hsz rfl (lv_room hW) hdg hf) hS (fun q _ h => hFc q h) hFc (fun u t H1 locs1 ht hvm hw hB hz1 hk1 hS1 => ?_)
  obtain ⟨hP1, hK1, hD1⟩ := hB
  rw [ht] at hP1
  obtain ⟨hP2, hD2⟩ := va_join (wr := []) (w1 := nW cI u N') hP hD [0, 1, 2, 3, 4, 5] [] rfl rfl (by decide) (by decide) hk1 hFc hP1 hD1
  exact kk u H1 locs1 hw hP2 hD2 hS1
end NCALLW
