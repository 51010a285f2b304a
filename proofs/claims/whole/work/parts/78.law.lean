/-! THE LAW, case by case. LH: at the head of its loop, after t calls -/
def LH (I : Nat → Mm → Mm → (Nat → Int32) → (Nat → Nat → Bool) → Prop) (p : Program) (l : Launch) (e : Env) (s : State) (m : MethodId) (below : List Frame) (meth : Method) (c : Code) (dC : Nat → ClassId) (dI : Nat → Nat → Nat) (cI cJ cZ : ClassId) (b t : Nat) : Prop := ∀ (z a bb y : Nat → Nat) (N E : Mm) (V : Nat → Int32) (o0 : Nat) (f : Nat → Int64) (fa : Int32) (F : Nat → Nat → Bool) (g h : Nat → Bool) (H : Heap) (locs : List Loc), I t N E V F → va_P (dC, dI) cls0 (kW cI cJ cZ z a bb y N E V o0 f fa F g h) H → va_D (fun q : Nat => s.heap.size ≤ q) (kW cI cJ cZ z a bb y N E V o0 f fa F g h) → va_S (fun q : Nat => s.heap.size ≤ q) s.heap H locs → ∀ (ls : Array Slot), lv_has ls 7 [(4, .int (nI (5 * t))), (0, .ref b), (1, .ref (z 0)), (2, .ref (y 0)), (3, .ref o0)] → W p l e room_1 s m #[Value.ref b] below meth c H locs (CC t N) (SS t N) (lw_Z below #[Value.ref b] s) (F0 m 23 ls [])
theorem zb_if (b : Bool) : (if zb b = 0 then 0 else 1 : Int32) = zb b := by cases b <;> rfl
theorem zb_ch {r v : Int32} {d : Bool} (h : r = v ↔ d = false) : (if r = v then 0 else 1 : Int32) = zb d := by
  by_cases c : r = v
  · rw [if_pos c, h.mp c]; rfl
  · rw [if_neg c]
    cases d
    · exact absurd (h.mpr rfl) c
    · rfl
theorem zb_sm {r v : Int32} {d : Bool} (h : r = v ↔ d = false) : (if r = v then 1 else 0 : Int32) = zb (!d) := by
  by_cases c : r = v
  · rw [if_pos c, h.mp c]; rfl
  · rw [if_neg c]
    cases d
    · exact absurd (h.mpr rfl) c
    · rfl

set_option maxHeartbeats 8000000 in
set_option maxRecDepth 100000 in
theorem law_constant {I : Nat → Mm → Mm → (Nat → Int32) → (Nat → Nat → Bool) → Prop} (hI : LI I) {p : Program} {l : Launch} {e : Env} {s : State} {m : MethodId} {below : List Frame} {meth : Method} {c : Code} {dC : Nat → ClassId} {dI : Nat → Nat → Nat} {cI cJ cZ : ClassId} {b L t : Nat} {xs : Nat → Int32} (hlt : l.stackTraces = false) (hL : L ≤ 2560) (C0 : lw_At p s m meth c b L xs) (hNc : va_Nc xUO xIA s) (hZ : xZ (fun q => s.heap.size ≤ q) s s.heap) (hK : va_K (dC, dI) cls0 [(cI, .int), (cJ, .long), (cZ, .boolean)] s) (ht5 : 5 * t + 5 ≤ L) (ih : LH I p l e s m below meth c dC dI cI cJ cZ b (t + 1)) (z a bb y : Nat → Nat) (N E : Mm) (V : Nat → Int32) (o0 : Nat) (f : Nat → Int64) (fa : Int32) (F : Nat → Nat → Bool) (g h : Nat → Bool) (H : Heap) (locs : List Loc) (hin : I t N E V F) (hP : va_P (dC, dI) cls0 (kW cI cJ cZ z a bb y N E V o0 f fa F g h) H) (hD : va_D (fun q : Nat => s.heap.size ≤ q) (kW cI cJ cZ z a bb y N E V o0 f fa F g h)) (hS : va_S (fun q : Nat => s.heap.size ≤ q) s.heap H locs) (ls : Array Slot) (hl : lv_has ls 7 [(4, .int (nI (5 * t))), (0, .ref b), (1, .ref (z 0)), (2, .ref (y 0)), (3, .ref o0)]) : W p l e room_1 s m #[Value.ref b] below meth c H locs (CC t N) (SS t N) (lw_Z below #[Value.ref b] s) (F0 m 100 ls []) := by
  obtain ⟨q0, q1, q2, q3, q4, q5, q6, q7, q8, q9, q10, q11, q12, q13, q14⟩ := hI
  obtain ⟨hx, hb, hr, hml, hown, hts0, hX, hbl, hlocks, hgv⟩ := C0
  have hown : s.vm.findClass R_L = some m.cls := hown
  have hts : ∀ w ∈ W0, w.before _ s = true := fun w h => hts0 w (W0_tbl w h)
  have hA : ∀ q : Nat, s.heap.size ≤ q → (fun q : Nat => s.heap.size ≤ q) q := fun _ h => h
  have hbA : ¬ (fun q : Nat => s.heap.size ≤ q) b := Nat.not_le.mpr hbl
  obtain ⟨hs0, hv⟩ := q1 t N E V F hin
  obtain ⟨⟨R0, hR, hR1, hR2⟩, -, -⟩ := id hs0
  have hb0 := CC_b (t := t + 1) hs0 (by omega)
  by_cases hno : okb (xs (5 * t + 1)) 32
  · have k1 := hno
    obtain ⟨i1, h1, e1⟩ := okb_of (n := 32) k1 (by decide)
    obtain ⟨bv, hbv⟩ : ∃ bv : Bool, bv = decide (¬ xs (5 * t + 2) = 0) := ⟨_, rfl⟩
    have hin2 := q3 t N E V F i1 bv hin (by omega) h1
    have hs2 := (q1 _ _ _ _ _ hin2).1
    have e00 : rmN N = rmN (j_put N V (nI i1) (zb bv)) := (rm_e (put_00 _ _ _ _)).symm
    have hb1b := CC_b (t := t + 1) hs2 (by omega)
    have hcz : CC t N + 0 ≤ CC (t + 1) (j_put N V (nI i1) (zb bv)) ∧ SS t N + 0 ≤ SS (t + 1) (j_put N V (nI i1) (zb bv)) := by unfold CC SS mcW msW; rw [e00]; omega
    obtain ⟨hc1, hc2⟩ := hcz
    obtain ⟨hb1, hb2⟩ := hb1b
    have hcon := c_S_constant l dC dI cI z a bb N E V H.size (nI i1) (zb bv) (okb_n (n := 32) h1 (by decide))
    rw [zb_if bv] at hcon
    refine lv_aload_n hx hb d_L_law_100 rfl (lv_at hl 2 rfl) ?_
    refine lv_aload_n hx hb d_L_law_101 rfl (lv_at hl 1 rfl) ?_
    refine lv_iload hx hb d_L_law_102 (lv_at hl 0 rfl) ?_
    refine lv_iconst (v := 1) hx hb d_L_law_104 (by decide) ?_
    refine lv_iadd hx hb d_L_law_105 ?_
    rw [show nI (5 * t) + (1 : Int32) = nI (5 * t + 1) from nI_add _ 1]
    refine va_sld hx hb hX hbl hbA hS (vp_in_nI (by omega) (by omega)) d_L_law_106 ?_
    rw [nI_clamp (n := 5 * t + 1) (by omega)]
    rw [e1]
    refine lv_aload_n hx hb d_L_law_107 rfl (lv_at hl 1 rfl) ?_
    refine lv_iload hx hb d_L_law_108 (lv_at hl 0 rfl) ?_
    refine lv_iconst (v := 2) hx hb d_L_law_110 (by decide) ?_
    refine lv_iadd hx hb d_L_law_111 ?_
    rw [show nI (5 * t) + (2 : Int32) = nI (5 * t + 2) from nI_add _ 2]
    refine va_sld hx hb hX hbl hbA hS (vp_in_nI (by omega) (by omega)) d_L_law_112 ?_
    rw [nI_clamp (n := 5 * t + 2) (by omega)]
    refine lv_if_eq (tgt := 120) hx hb d_L_law_113 (by decide) (fun c113 => ?_) (fun c113 => ?_)
    · refine lv_iconst (v := 0) hx hb d_L_law_120 (by decide) ?_
      refine lv_topi (fun xv exv => ?_)
      rw [show xv = zb bv from exv.trans (by rw [hbv, decide_eq_false (fun q => q c113)]; rfl)]
      refine kL (PX := fun _ => True) (As := [.ref (z 0), .int (nI i1), .int (zb bv)]) (rest := []) ⟨hx, hb, hml, hown, hts⟩ (cL_constant l dC dI cI cJ z a bb N E V o0 f _ (nI i1) _ (hcon)) (vx_cwSW 3 hts (gS kml_L_55 kst_L_constant kin_L kcw_L_constant) rfl rfl rfl (by decide +kernel) ⟨by show 47 + 1 ≤ 2048; omega, by show 8 + (4 + 11) + 2700 ≤ 84000; omega⟩) (fun _ _ _ => trivial) (fun _ _ _ _ _ => trivial) hP hK hD hS hA rfl hl.1 rfl (Nat.le_of_ble_eq_true rfl) d_L_law_121 ⟨by show CC t N + _ ≤ 601024; omega, by show SS t N + _ ≤ 7293034; omega⟩ (fun r9 a f H locs hw hP hD hS => ?_)
      refine W.widen (k := CC (t + 1) (j_put N V (nI i1) (zb bv))) (n := SS (t + 1) (j_put N V (nI i1) (zb bv))) hc1 hc2 ?_
      have hw : r9 = 0 := hw
      subst hw
      refine lv_istore (lv' := [(5, .int 0), (4, .int (nI (5 * t))), (0, .ref b), (1, .ref (z 0)), (2, .ref (y 0)), (3, .ref o0)]) hx hb d_L_law_124 hl (by decide) rfl (fun ls hl => ?_)
      refine lv_aload_n hx hb d_L_law_126 rfl (lv_at hl 4 rfl) ?_
      refine lv_aload_n hx hb d_L_law_127 rfl (lv_at hl 2 rfl) ?_
      refine lv_iload hx hb d_L_law_128 (lv_at hl 1 rfl) ?_
      refine lv_iconst (v := 1) hx hb d_L_law_130 (by decide) ?_
      refine lv_iadd hx hb d_L_law_131 ?_
      rw [show nI (5 * t) + (1 : Int32) = nI (5 * t + 1) from nI_add _ 1]
      refine va_sld hx hb hX hbl hbA hS (vp_in_nI (by omega) (by omega)) d_L_law_132 ?_
      rw [nI_clamp (n := 5 * t + 1) (by omega)]
      rw [e1]
      refine lv_aload_n hx hb d_L_law_133 rfl (lv_at hl 2 rfl) ?_
      refine lv_iload hx hb d_L_law_134 (lv_at hl 1 rfl) ?_
      refine lv_iconst (v := 2) hx hb d_L_law_136 (by decide) ?_
      refine lv_iadd hx hb d_L_law_137 ?_
      rw [show nI (5 * t) + (2 : Int32) = nI (5 * t + 2) from nI_add _ 2]
      refine va_sld hx hb hX hbl hbA hS (vp_in_nI (by omega) (by omega)) d_L_law_138 ?_
      rw [nI_clamp (n := 5 * t + 2) (by omega)]
      refine lv_if_eq (tgt := 146) hx hb d_L_law_139 (by decide) (fun c139 => ?_) (fun c139 => ?_)
      · refine lv_iconst (v := 0) hx hb d_L_law_146 (by decide) ?_
        refine lv_topi (fun xv exv => ?_)
        rw [show xv = zb bv from exv.trans (by rw [hbv, decide_eq_false (fun q => q c139)]; rfl)]
        refine kDv (As := [.int (nI i1), .int (zb bv)]) (rest := []) ⟨hx, hb, hml, hown, hts⟩ (c_R_constant l dC dI cZ y fa F g h _ i1 bv h1) (cwV 2 hts (gV kml_L_60 kim_R_constant ksl_R_constant kin_R kcd_R_constant) rfl rfl rfl (by decide +kernel) ⟨by show 1 + 1 ≤ 2048; omega, by show 8 + (4 + 11) + 40 ≤ 84000; omega⟩) hP hK hD hS hA rfl hl.1 rfl (Nat.le_of_ble_eq_true rfl) d_L_law_147 ⟨by show CC (t + 1) _ + 0 ≤ 601024; omega, by show SS (t + 1) _ + 0 ≤ 7293034; omega⟩ (fun g h H locs hP hD hS => ?_)
        refine lv_aload_n hx hb d_L_law_150 rfl (lv_at hl 4 rfl) ?_
        refine kDR (As := []) (rest := []) ⟨hx, hb, hml, hown, hts⟩ (c_R_thrown l dC dI cZ y 0 (fp F i1 4096 (fun _ => bv)) g h) (cwV 0 hts (gV kml_L_61 kim_R_thrown ksl_R_thrown kin_R kcd_R_thrown) rfl rfl rfl (by decide +kernel) ⟨by show 0 + 1 ≤ 2048; omega, by show 8 + (1 + 11) + 0 ≤ 84000; omega⟩) hP hK rfl hl.1 rfl (Nat.le_of_ble_eq_true rfl) d_L_law_151 ⟨by show CC (t + 1) _ ≤ 601024; omega, by show SS (t + 1) _ ≤ 7293034; omega⟩ ?_
        refine lv_iload hx hb d_L_law_154 (lv_at hl 0 rfl) ?_
        refine lv_icmp_eq (tgt := 161) hx hb d_L_law_156 (by decide) (fun c156 => ?_) (fun c156 => ?_)
        · refine lv_goto (tgt := 915) hx hb d_L_law_161 (by decide) ?_
          refine lv_iinc (v := ((nI (5 * t)) + 5)) (lv' := [(4, .int ((nI (5 * t)) + 5)), (5, .int 0), (0, .ref b), (1, .ref (z 0)), (2, .ref (y 0)), (3, .ref o0)]) hx hb d_L_law_915 hl (k := 1) rfl rfl (by decide) rfl (fun ls hl => ?_)
          refine lv_goto (tgt := 23) hx hb d_L_law_918 (by decide) ?_
          rw [show nI (5 * t) + (5 : Int32) = nI (5 * (t + 1)) from by rw [show (5 : Int32) = nI 5 from rfl, nI_add]; rfl] at hl
          exact ih z a bb y (j_put N V (nI i1) (zb bv)) E (upd V (cl i1) (zb bv)) o0 f 0 (fp F i1 4096 (fun _ => bv)) g h H locs hin2 hP hD hS ls (lv_sub hl [0, 2, 3, 4, 5] rfl)
        · exact absurd (by decide) c156
      · refine lv_iconst (v := 1) hx hb d_L_law_142 (by decide) ?_
        refine lv_goto (tgt := 147) hx hb d_L_law_143 (by decide) ?_
        refine lv_topi (fun xv exv => ?_)
        rw [show xv = zb bv from exv.trans (by rw [hbv, decide_eq_true (c139)]; rfl)]
        refine kDv (As := [.int (nI i1), .int (zb bv)]) (rest := []) ⟨hx, hb, hml, hown, hts⟩ (c_R_constant l dC dI cZ y fa F g h _ i1 bv h1) (cwV 2 hts (gV kml_L_60 kim_R_constant ksl_R_constant kin_R kcd_R_constant) rfl rfl rfl (by decide +kernel) ⟨by show 1 + 1 ≤ 2048; omega, by show 8 + (4 + 11) + 40 ≤ 84000; omega⟩) hP hK hD hS hA rfl hl.1 rfl (Nat.le_of_ble_eq_true rfl) d_L_law_147 ⟨by show CC (t + 1) _ + 0 ≤ 601024; omega, by show SS (t + 1) _ + 0 ≤ 7293034; omega⟩ (fun g h H locs hP hD hS => ?_)
        refine lv_aload_n hx hb d_L_law_150 rfl (lv_at hl 4 rfl) ?_
        refine kDR (As := []) (rest := []) ⟨hx, hb, hml, hown, hts⟩ (c_R_thrown l dC dI cZ y 0 (fp F i1 4096 (fun _ => bv)) g h) (cwV 0 hts (gV kml_L_61 kim_R_thrown ksl_R_thrown kin_R kcd_R_thrown) rfl rfl rfl (by decide +kernel) ⟨by show 0 + 1 ≤ 2048; omega, by show 8 + (1 + 11) + 0 ≤ 84000; omega⟩) hP hK rfl hl.1 rfl (Nat.le_of_ble_eq_true rfl) d_L_law_151 ⟨by show CC (t + 1) _ ≤ 601024; omega, by show SS (t + 1) _ ≤ 7293034; omega⟩ ?_
        refine lv_iload hx hb d_L_law_154 (lv_at hl 0 rfl) ?_
        refine lv_icmp_eq (tgt := 161) hx hb d_L_law_156 (by decide) (fun c156 => ?_) (fun c156 => ?_)
        · refine lv_goto (tgt := 915) hx hb d_L_law_161 (by decide) ?_
          refine lv_iinc (v := ((nI (5 * t)) + 5)) (lv' := [(4, .int ((nI (5 * t)) + 5)), (5, .int 0), (0, .ref b), (1, .ref (z 0)), (2, .ref (y 0)), (3, .ref o0)]) hx hb d_L_law_915 hl (k := 1) rfl rfl (by decide) rfl (fun ls hl => ?_)
          refine lv_goto (tgt := 23) hx hb d_L_law_918 (by decide) ?_
          rw [show nI (5 * t) + (5 : Int32) = nI (5 * (t + 1)) from by rw [show (5 : Int32) = nI 5 from rfl, nI_add]; rfl] at hl
          exact ih z a bb y (j_put N V (nI i1) (zb bv)) E (upd V (cl i1) (zb bv)) o0 f 0 (fp F i1 4096 (fun _ => bv)) g h H locs hin2 hP hD hS ls (lv_sub hl [0, 2, 3, 4, 5] rfl)
        · exact absurd (by decide) c156
    · refine lv_iconst (v := 1) hx hb d_L_law_116 (by decide) ?_
      refine lv_goto (tgt := 121) hx hb d_L_law_117 (by decide) ?_
      refine lv_topi (fun xv exv => ?_)
      rw [show xv = zb bv from exv.trans (by rw [hbv, decide_eq_true (c113)]; rfl)]
      refine kL (PX := fun _ => True) (As := [.ref (z 0), .int (nI i1), .int (zb bv)]) (rest := []) ⟨hx, hb, hml, hown, hts⟩ (cL_constant l dC dI cI cJ z a bb N E V o0 f _ (nI i1) _ (hcon)) (vx_cwSW 3 hts (gS kml_L_55 kst_L_constant kin_L kcw_L_constant) rfl rfl rfl (by decide +kernel) ⟨by show 47 + 1 ≤ 2048; omega, by show 8 + (4 + 11) + 2700 ≤ 84000; omega⟩) (fun _ _ _ => trivial) (fun _ _ _ _ _ => trivial) hP hK hD hS hA rfl hl.1 rfl (Nat.le_of_ble_eq_true rfl) d_L_law_121 ⟨by show CC t N + _ ≤ 601024; omega, by show SS t N + _ ≤ 7293034; omega⟩ (fun r9 a f H locs hw hP hD hS => ?_)
      refine W.widen (k := CC (t + 1) (j_put N V (nI i1) (zb bv))) (n := SS (t + 1) (j_put N V (nI i1) (zb bv))) hc1 hc2 ?_
      have hw : r9 = 0 := hw
      subst hw
      refine lv_istore (lv' := [(5, .int 0), (4, .int (nI (5 * t))), (0, .ref b), (1, .ref (z 0)), (2, .ref (y 0)), (3, .ref o0)]) hx hb d_L_law_124 hl (by decide) rfl (fun ls hl => ?_)
      refine lv_aload_n hx hb d_L_law_126 rfl (lv_at hl 4 rfl) ?_
      refine lv_aload_n hx hb d_L_law_127 rfl (lv_at hl 2 rfl) ?_
      refine lv_iload hx hb d_L_law_128 (lv_at hl 1 rfl) ?_
      refine lv_iconst (v := 1) hx hb d_L_law_130 (by decide) ?_
      refine lv_iadd hx hb d_L_law_131 ?_
      rw [show nI (5 * t) + (1 : Int32) = nI (5 * t + 1) from nI_add _ 1]
      refine va_sld hx hb hX hbl hbA hS (vp_in_nI (by omega) (by omega)) d_L_law_132 ?_
      rw [nI_clamp (n := 5 * t + 1) (by omega)]
      rw [e1]
      refine lv_aload_n hx hb d_L_law_133 rfl (lv_at hl 2 rfl) ?_
      refine lv_iload hx hb d_L_law_134 (lv_at hl 1 rfl) ?_
      refine lv_iconst (v := 2) hx hb d_L_law_136 (by decide) ?_
      refine lv_iadd hx hb d_L_law_137 ?_
      rw [show nI (5 * t) + (2 : Int32) = nI (5 * t + 2) from nI_add _ 2]
      refine va_sld hx hb hX hbl hbA hS (vp_in_nI (by omega) (by omega)) d_L_law_138 ?_
      rw [nI_clamp (n := 5 * t + 2) (by omega)]
      refine lv_if_eq (tgt := 146) hx hb d_L_law_139 (by decide) (fun c139 => ?_) (fun c139 => ?_)
      · refine lv_iconst (v := 0) hx hb d_L_law_146 (by decide) ?_
        refine lv_topi (fun xv exv => ?_)
        rw [show xv = zb bv from exv.trans (by rw [hbv, decide_eq_false (fun q => q c139)]; rfl)]
        refine kDv (As := [.int (nI i1), .int (zb bv)]) (rest := []) ⟨hx, hb, hml, hown, hts⟩ (c_R_constant l dC dI cZ y fa F g h _ i1 bv h1) (cwV 2 hts (gV kml_L_60 kim_R_constant ksl_R_constant kin_R kcd_R_constant) rfl rfl rfl (by decide +kernel) ⟨by show 1 + 1 ≤ 2048; omega, by show 8 + (4 + 11) + 40 ≤ 84000; omega⟩) hP hK hD hS hA rfl hl.1 rfl (Nat.le_of_ble_eq_true rfl) d_L_law_147 ⟨by show CC (t + 1) _ + 0 ≤ 601024; omega, by show SS (t + 1) _ + 0 ≤ 7293034; omega⟩ (fun g h H locs hP hD hS => ?_)
        refine lv_aload_n hx hb d_L_law_150 rfl (lv_at hl 4 rfl) ?_
        refine kDR (As := []) (rest := []) ⟨hx, hb, hml, hown, hts⟩ (c_R_thrown l dC dI cZ y 0 (fp F i1 4096 (fun _ => bv)) g h) (cwV 0 hts (gV kml_L_61 kim_R_thrown ksl_R_thrown kin_R kcd_R_thrown) rfl rfl rfl (by decide +kernel) ⟨by show 0 + 1 ≤ 2048; omega, by show 8 + (1 + 11) + 0 ≤ 84000; omega⟩) hP hK rfl hl.1 rfl (Nat.le_of_ble_eq_true rfl) d_L_law_151 ⟨by show CC (t + 1) _ ≤ 601024; omega, by show SS (t + 1) _ ≤ 7293034; omega⟩ ?_
        refine lv_iload hx hb d_L_law_154 (lv_at hl 0 rfl) ?_
        refine lv_icmp_eq (tgt := 161) hx hb d_L_law_156 (by decide) (fun c156 => ?_) (fun c156 => ?_)
        · refine lv_goto (tgt := 915) hx hb d_L_law_161 (by decide) ?_
          refine lv_iinc (v := ((nI (5 * t)) + 5)) (lv' := [(4, .int ((nI (5 * t)) + 5)), (5, .int 0), (0, .ref b), (1, .ref (z 0)), (2, .ref (y 0)), (3, .ref o0)]) hx hb d_L_law_915 hl (k := 1) rfl rfl (by decide) rfl (fun ls hl => ?_)
          refine lv_goto (tgt := 23) hx hb d_L_law_918 (by decide) ?_
          rw [show nI (5 * t) + (5 : Int32) = nI (5 * (t + 1)) from by rw [show (5 : Int32) = nI 5 from rfl, nI_add]; rfl] at hl
          exact ih z a bb y (j_put N V (nI i1) (zb bv)) E (upd V (cl i1) (zb bv)) o0 f 0 (fp F i1 4096 (fun _ => bv)) g h H locs hin2 hP hD hS ls (lv_sub hl [0, 2, 3, 4, 5] rfl)
        · exact absurd (by decide) c156
      · refine lv_iconst (v := 1) hx hb d_L_law_142 (by decide) ?_
        refine lv_goto (tgt := 147) hx hb d_L_law_143 (by decide) ?_
        refine lv_topi (fun xv exv => ?_)
        rw [show xv = zb bv from exv.trans (by rw [hbv, decide_eq_true (c139)]; rfl)]
        refine kDv (As := [.int (nI i1), .int (zb bv)]) (rest := []) ⟨hx, hb, hml, hown, hts⟩ (c_R_constant l dC dI cZ y fa F g h _ i1 bv h1) (cwV 2 hts (gV kml_L_60 kim_R_constant ksl_R_constant kin_R kcd_R_constant) rfl rfl rfl (by decide +kernel) ⟨by show 1 + 1 ≤ 2048; omega, by show 8 + (4 + 11) + 40 ≤ 84000; omega⟩) hP hK hD hS hA rfl hl.1 rfl (Nat.le_of_ble_eq_true rfl) d_L_law_147 ⟨by show CC (t + 1) _ + 0 ≤ 601024; omega, by show SS (t + 1) _ + 0 ≤ 7293034; omega⟩ (fun g h H locs hP hD hS => ?_)
        refine lv_aload_n hx hb d_L_law_150 rfl (lv_at hl 4 rfl) ?_
        refine kDR (As := []) (rest := []) ⟨hx, hb, hml, hown, hts⟩ (c_R_thrown l dC dI cZ y 0 (fp F i1 4096 (fun _ => bv)) g h) (cwV 0 hts (gV kml_L_61 kim_R_thrown ksl_R_thrown kin_R kcd_R_thrown) rfl rfl rfl (by decide +kernel) ⟨by show 0 + 1 ≤ 2048; omega, by show 8 + (1 + 11) + 0 ≤ 84000; omega⟩) hP hK rfl hl.1 rfl (Nat.le_of_ble_eq_true rfl) d_L_law_151 ⟨by show CC (t + 1) _ ≤ 601024; omega, by show SS (t + 1) _ ≤ 7293034; omega⟩ ?_
        refine lv_iload hx hb d_L_law_154 (lv_at hl 0 rfl) ?_
        refine lv_icmp_eq (tgt := 161) hx hb d_L_law_156 (by decide) (fun c156 => ?_) (fun c156 => ?_)
        · refine lv_goto (tgt := 915) hx hb d_L_law_161 (by decide) ?_
          refine lv_iinc (v := ((nI (5 * t)) + 5)) (lv' := [(4, .int ((nI (5 * t)) + 5)), (5, .int 0), (0, .ref b), (1, .ref (z 0)), (2, .ref (y 0)), (3, .ref o0)]) hx hb d_L_law_915 hl (k := 1) rfl rfl (by decide) rfl (fun ls hl => ?_)
          refine lv_goto (tgt := 23) hx hb d_L_law_918 (by decide) ?_
          rw [show nI (5 * t) + (5 : Int32) = nI (5 * (t + 1)) from by rw [show (5 : Int32) = nI 5 from rfl, nI_add]; rfl] at hl
          exact ih z a bb y (j_put N V (nI i1) (zb bv)) E (upd V (cl i1) (zb bv)) o0 f 0 (fp F i1 4096 (fun _ => bv)) g h H locs hin2 hP hD hS ls (lv_sub hl [0, 2, 3, 4, 5] rfl)
        · exact absurd (by decide) c156
  · obtain ⟨hc1, hc2⟩ := CC_x (t := t) (N := N)
    obtain ⟨hb1, hb2⟩ := hb0
    have hin2 := q2 t N E V F hin
    have hZH : xZ (fun q => s.heap.size ≤ q) s H := hZ.kept (fun q h1 h2 => hS.2.1 q h1 h2)
    have hFz := va_free (wc := lW cI cJ z a bb N E V o0 f) hD hS hA [0, 1, 2, 3, 4, 5, 6, 7, 8, 9, 10, 11, 12] rfl
    refine lv_aload_n hx hb d_L_law_100 rfl (lv_at hl 2 rfl) ?_
    refine lv_aload_n hx hb d_L_law_101 rfl (lv_at hl 1 rfl) ?_
    refine lv_iload hx hb d_L_law_102 (lv_at hl 0 rfl) ?_
    refine lv_iconst (v := 1) hx hb d_L_law_104 (by decide) ?_
    refine lv_iadd hx hb d_L_law_105 ?_
    rw [show nI (5 * t) + (1 : Int32) = nI (5 * t + 1) from nI_add _ 1]
    refine va_sld hx hb hX hbl hbA hS (vp_in_nI (by omega) (by omega)) d_L_law_106 ?_
    rw [nI_clamp (n := 5 * t + 1) (by omega)]
    refine lv_aload_n hx hb d_L_law_107 rfl (lv_at hl 1 rfl) ?_
    refine lv_iload hx hb d_L_law_108 (lv_at hl 0 rfl) ?_
    refine lv_iconst (v := 2) hx hb d_L_law_110 (by decide) ?_
    refine lv_iadd hx hb d_L_law_111 ?_
    rw [show nI (5 * t) + (2 : Int32) = nI (5 * t + 2) from nI_add _ 2]
    refine va_sld hx hb hX hbl hbA hS (vp_in_nI (by omega) (by omega)) d_L_law_112 ?_
    rw [nI_clamp (n := 5 * t + 2) (by omega)]
    refine lv_if_eq (tgt := 120) hx hb d_L_law_113 (by decide) (fun c113 => ?_) (fun c113 => ?_)
    · refine lv_iconst (v := 0) hx hb d_L_law_120 (by decide) ?_
      refine kL (PX := fun U => xZ (va_A (lW cI cJ z a bb N E V o0 f) H.size) U U.heap) (As := [.ref (z 0), .int (xs (5 * t + 1)), .int 0]) (rest := []) ⟨hx, hb, hml, hown, hts⟩ (fL_constant l dC dI cI cJ z a bb N E V o0 f _ _ _ hlt hno) (vx_cwSW 3 hts (gS kml_L_55 kst_L_constant kin_L kcw_L_constant) rfl rfl rfl (by decide +kernel) ⟨by show 47 + 1 ≤ 2048; omega, by show 8 + (4 + 11) + 2700 ≤ 84000; omega⟩) (fun U hU hWu => by show xZ _ U U.heap; rw [hU]; exact (hZH.warm hWu).narrow hFz) (fun U g mk q hq => xZ.same (s := U) (U := U.calling g mk q) (H := U.heap) rfl hq) hP hK hD hS hA rfl hl.1 rfl (Nat.le_of_ble_eq_true rfl) d_L_law_121 ⟨by show CC t N + _ ≤ 601024; omega, by show SS t N + _ ≤ 7293034; omega⟩ (fun r9 a f H locs hw hP hD hS => ?_)
      refine W.widen (k := CC (t + 1) N) (n := SS (t + 1) N) hc1 hc2 ?_
      have hw : r9 = 1 := hw
      subst hw
      refine lv_istore (lv' := [(5, .int 1), (4, .int (nI (5 * t))), (0, .ref b), (1, .ref (z 0)), (2, .ref (y 0)), (3, .ref o0)]) hx hb d_L_law_124 hl (by decide) rfl (fun ls hl => ?_)
      refine lv_aload_n hx hb d_L_law_126 rfl (lv_at hl 4 rfl) ?_
      refine lv_aload_n hx hb d_L_law_127 rfl (lv_at hl 2 rfl) ?_
      refine lv_iload hx hb d_L_law_128 (lv_at hl 1 rfl) ?_
      refine lv_iconst (v := 1) hx hb d_L_law_130 (by decide) ?_
      refine lv_iadd hx hb d_L_law_131 ?_
      rw [show nI (5 * t) + (1 : Int32) = nI (5 * t + 1) from nI_add _ 1]
      refine va_sld hx hb hX hbl hbA hS (vp_in_nI (by omega) (by omega)) d_L_law_132 ?_
      rw [nI_clamp (n := 5 * t + 1) (by omega)]
      refine lv_aload_n hx hb d_L_law_133 rfl (lv_at hl 2 rfl) ?_
      refine lv_iload hx hb d_L_law_134 (lv_at hl 1 rfl) ?_
      refine lv_iconst (v := 2) hx hb d_L_law_136 (by decide) ?_
      refine lv_iadd hx hb d_L_law_137 ?_
      rw [show nI (5 * t) + (2 : Int32) = nI (5 * t + 2) from nI_add _ 2]
      refine va_sld hx hb hX hbl hbA hS (vp_in_nI (by omega) (by omega)) d_L_law_138 ?_
      rw [nI_clamp (n := 5 * t + 2) (by omega)]
      refine lv_if_eq (tgt := 146) hx hb d_L_law_139 (by decide) (fun c139 => ?_) (fun c139 => ?_)
      · refine lv_iconst (v := 0) hx hb d_L_law_146 (by decide) ?_
        refine kDv (As := [.int (xs (5 * t + 1)), .int 0]) (rest := []) ⟨hx, hb, hml, hown, hts⟩ (f_R_constant l dC dI cZ y fa F g h _ (xs (5 * t + 1)) 0 hno) (cwV 2 hts (gV kml_L_60 kim_R_constant ksl_R_constant kin_R kcd_R_constant) rfl rfl rfl (by decide +kernel) ⟨by show 2 + 1 ≤ 2048; omega, by show 8 + (4 + 11) + 70 ≤ 84000; omega⟩) hP hK hD hS hA rfl hl.1 rfl (Nat.le_of_ble_eq_true rfl) d_L_law_147 ⟨by show CC (t + 1) _ + 0 ≤ 601024; omega, by show SS (t + 1) _ + 0 ≤ 7293034; omega⟩ (fun g h H locs hP hD hS => ?_)
        refine lv_aload_n hx hb d_L_law_150 rfl (lv_at hl 4 rfl) ?_
        refine kDR (As := []) (rest := []) ⟨hx, hb, hml, hown, hts⟩ (c_R_thrown l dC dI cZ y 1 F g h) (cwV 0 hts (gV kml_L_61 kim_R_thrown ksl_R_thrown kin_R kcd_R_thrown) rfl rfl rfl (by decide +kernel) ⟨by show 0 + 1 ≤ 2048; omega, by show 8 + (1 + 11) + 0 ≤ 84000; omega⟩) hP hK rfl hl.1 rfl (Nat.le_of_ble_eq_true rfl) d_L_law_151 ⟨by show CC (t + 1) _ ≤ 601024; omega, by show SS (t + 1) _ ≤ 7293034; omega⟩ ?_
        refine lv_iload hx hb d_L_law_154 (lv_at hl 0 rfl) ?_
        refine lv_icmp_eq (tgt := 161) hx hb d_L_law_156 (by decide) (fun c156 => ?_) (fun c156 => ?_)
        · refine lv_goto (tgt := 915) hx hb d_L_law_161 (by decide) ?_
          refine lv_iinc (v := ((nI (5 * t)) + 5)) (lv' := [(4, .int ((nI (5 * t)) + 5)), (5, .int 1), (0, .ref b), (1, .ref (z 0)), (2, .ref (y 0)), (3, .ref o0)]) hx hb d_L_law_915 hl (k := 1) rfl rfl (by decide) rfl (fun ls hl => ?_)
          refine lv_goto (tgt := 23) hx hb d_L_law_918 (by decide) ?_
          rw [show nI (5 * t) + (5 : Int32) = nI (5 * (t + 1)) from by rw [show (5 : Int32) = nI 5 from rfl, nI_add]; rfl] at hl
          exact ih z a bb y N E V o0 f 1 F g h H locs hin2 hP hD hS ls (lv_sub hl [0, 2, 3, 4, 5] rfl)
        · exact absurd (by decide) c156
      · refine lv_iconst (v := 1) hx hb d_L_law_142 (by decide) ?_
        refine lv_goto (tgt := 147) hx hb d_L_law_143 (by decide) ?_
        refine kDv (As := [.int (xs (5 * t + 1)), .int 1]) (rest := []) ⟨hx, hb, hml, hown, hts⟩ (f_R_constant l dC dI cZ y fa F g h _ (xs (5 * t + 1)) 1 hno) (cwV 2 hts (gV kml_L_60 kim_R_constant ksl_R_constant kin_R kcd_R_constant) rfl rfl rfl (by decide +kernel) ⟨by show 2 + 1 ≤ 2048; omega, by show 8 + (4 + 11) + 70 ≤ 84000; omega⟩) hP hK hD hS hA rfl hl.1 rfl (Nat.le_of_ble_eq_true rfl) d_L_law_147 ⟨by show CC (t + 1) _ + 0 ≤ 601024; omega, by show SS (t + 1) _ + 0 ≤ 7293034; omega⟩ (fun g h H locs hP hD hS => ?_)
        refine lv_aload_n hx hb d_L_law_150 rfl (lv_at hl 4 rfl) ?_
        refine kDR (As := []) (rest := []) ⟨hx, hb, hml, hown, hts⟩ (c_R_thrown l dC dI cZ y 1 F g h) (cwV 0 hts (gV kml_L_61 kim_R_thrown ksl_R_thrown kin_R kcd_R_thrown) rfl rfl rfl (by decide +kernel) ⟨by show 0 + 1 ≤ 2048; omega, by show 8 + (1 + 11) + 0 ≤ 84000; omega⟩) hP hK rfl hl.1 rfl (Nat.le_of_ble_eq_true rfl) d_L_law_151 ⟨by show CC (t + 1) _ ≤ 601024; omega, by show SS (t + 1) _ ≤ 7293034; omega⟩ ?_
        refine lv_iload hx hb d_L_law_154 (lv_at hl 0 rfl) ?_
        refine lv_icmp_eq (tgt := 161) hx hb d_L_law_156 (by decide) (fun c156 => ?_) (fun c156 => ?_)
        · refine lv_goto (tgt := 915) hx hb d_L_law_161 (by decide) ?_
          refine lv_iinc (v := ((nI (5 * t)) + 5)) (lv' := [(4, .int ((nI (5 * t)) + 5)), (5, .int 1), (0, .ref b), (1, .ref (z 0)), (2, .ref (y 0)), (3, .ref o0)]) hx hb d_L_law_915 hl (k := 1) rfl rfl (by decide) rfl (fun ls hl => ?_)
          refine lv_goto (tgt := 23) hx hb d_L_law_918 (by decide) ?_
          rw [show nI (5 * t) + (5 : Int32) = nI (5 * (t + 1)) from by rw [show (5 : Int32) = nI 5 from rfl, nI_add]; rfl] at hl
          exact ih z a bb y N E V o0 f 1 F g h H locs hin2 hP hD hS ls (lv_sub hl [0, 2, 3, 4, 5] rfl)
        · exact absurd (by decide) c156
    · refine lv_iconst (v := 1) hx hb d_L_law_116 (by decide) ?_
      refine lv_goto (tgt := 121) hx hb d_L_law_117 (by decide) ?_
      refine kL (PX := fun U => xZ (va_A (lW cI cJ z a bb N E V o0 f) H.size) U U.heap) (As := [.ref (z 0), .int (xs (5 * t + 1)), .int 1]) (rest := []) ⟨hx, hb, hml, hown, hts⟩ (fL_constant l dC dI cI cJ z a bb N E V o0 f _ _ _ hlt hno) (vx_cwSW 3 hts (gS kml_L_55 kst_L_constant kin_L kcw_L_constant) rfl rfl rfl (by decide +kernel) ⟨by show 47 + 1 ≤ 2048; omega, by show 8 + (4 + 11) + 2700 ≤ 84000; omega⟩) (fun U hU hWu => by show xZ _ U U.heap; rw [hU]; exact (hZH.warm hWu).narrow hFz) (fun U g mk q hq => xZ.same (s := U) (U := U.calling g mk q) (H := U.heap) rfl hq) hP hK hD hS hA rfl hl.1 rfl (Nat.le_of_ble_eq_true rfl) d_L_law_121 ⟨by show CC t N + _ ≤ 601024; omega, by show SS t N + _ ≤ 7293034; omega⟩ (fun r9 a f H locs hw hP hD hS => ?_)
      refine W.widen (k := CC (t + 1) N) (n := SS (t + 1) N) hc1 hc2 ?_
      have hw : r9 = 1 := hw
      subst hw
      refine lv_istore (lv' := [(5, .int 1), (4, .int (nI (5 * t))), (0, .ref b), (1, .ref (z 0)), (2, .ref (y 0)), (3, .ref o0)]) hx hb d_L_law_124 hl (by decide) rfl (fun ls hl => ?_)
      refine lv_aload_n hx hb d_L_law_126 rfl (lv_at hl 4 rfl) ?_
      refine lv_aload_n hx hb d_L_law_127 rfl (lv_at hl 2 rfl) ?_
      refine lv_iload hx hb d_L_law_128 (lv_at hl 1 rfl) ?_
      refine lv_iconst (v := 1) hx hb d_L_law_130 (by decide) ?_
      refine lv_iadd hx hb d_L_law_131 ?_
      rw [show nI (5 * t) + (1 : Int32) = nI (5 * t + 1) from nI_add _ 1]
      refine va_sld hx hb hX hbl hbA hS (vp_in_nI (by omega) (by omega)) d_L_law_132 ?_
      rw [nI_clamp (n := 5 * t + 1) (by omega)]
      refine lv_aload_n hx hb d_L_law_133 rfl (lv_at hl 2 rfl) ?_
      refine lv_iload hx hb d_L_law_134 (lv_at hl 1 rfl) ?_
      refine lv_iconst (v := 2) hx hb d_L_law_136 (by decide) ?_
      refine lv_iadd hx hb d_L_law_137 ?_
      rw [show nI (5 * t) + (2 : Int32) = nI (5 * t + 2) from nI_add _ 2]
      refine va_sld hx hb hX hbl hbA hS (vp_in_nI (by omega) (by omega)) d_L_law_138 ?_
      rw [nI_clamp (n := 5 * t + 2) (by omega)]
      refine lv_if_eq (tgt := 146) hx hb d_L_law_139 (by decide) (fun c139 => ?_) (fun c139 => ?_)
      · refine lv_iconst (v := 0) hx hb d_L_law_146 (by decide) ?_
        refine kDv (As := [.int (xs (5 * t + 1)), .int 0]) (rest := []) ⟨hx, hb, hml, hown, hts⟩ (f_R_constant l dC dI cZ y fa F g h _ (xs (5 * t + 1)) 0 hno) (cwV 2 hts (gV kml_L_60 kim_R_constant ksl_R_constant kin_R kcd_R_constant) rfl rfl rfl (by decide +kernel) ⟨by show 2 + 1 ≤ 2048; omega, by show 8 + (4 + 11) + 70 ≤ 84000; omega⟩) hP hK hD hS hA rfl hl.1 rfl (Nat.le_of_ble_eq_true rfl) d_L_law_147 ⟨by show CC (t + 1) _ + 0 ≤ 601024; omega, by show SS (t + 1) _ + 0 ≤ 7293034; omega⟩ (fun g h H locs hP hD hS => ?_)
        refine lv_aload_n hx hb d_L_law_150 rfl (lv_at hl 4 rfl) ?_
        refine kDR (As := []) (rest := []) ⟨hx, hb, hml, hown, hts⟩ (c_R_thrown l dC dI cZ y 1 F g h) (cwV 0 hts (gV kml_L_61 kim_R_thrown ksl_R_thrown kin_R kcd_R_thrown) rfl rfl rfl (by decide +kernel) ⟨by show 0 + 1 ≤ 2048; omega, by show 8 + (1 + 11) + 0 ≤ 84000; omega⟩) hP hK rfl hl.1 rfl (Nat.le_of_ble_eq_true rfl) d_L_law_151 ⟨by show CC (t + 1) _ ≤ 601024; omega, by show SS (t + 1) _ ≤ 7293034; omega⟩ ?_
        refine lv_iload hx hb d_L_law_154 (lv_at hl 0 rfl) ?_
        refine lv_icmp_eq (tgt := 161) hx hb d_L_law_156 (by decide) (fun c156 => ?_) (fun c156 => ?_)
        · refine lv_goto (tgt := 915) hx hb d_L_law_161 (by decide) ?_
          refine lv_iinc (v := ((nI (5 * t)) + 5)) (lv' := [(4, .int ((nI (5 * t)) + 5)), (5, .int 1), (0, .ref b), (1, .ref (z 0)), (2, .ref (y 0)), (3, .ref o0)]) hx hb d_L_law_915 hl (k := 1) rfl rfl (by decide) rfl (fun ls hl => ?_)
          refine lv_goto (tgt := 23) hx hb d_L_law_918 (by decide) ?_
          rw [show nI (5 * t) + (5 : Int32) = nI (5 * (t + 1)) from by rw [show (5 : Int32) = nI 5 from rfl, nI_add]; rfl] at hl
          exact ih z a bb y N E V o0 f 1 F g h H locs hin2 hP hD hS ls (lv_sub hl [0, 2, 3, 4, 5] rfl)
        · exact absurd (by decide) c156
      · refine lv_iconst (v := 1) hx hb d_L_law_142 (by decide) ?_
        refine lv_goto (tgt := 147) hx hb d_L_law_143 (by decide) ?_
        refine kDv (As := [.int (xs (5 * t + 1)), .int 1]) (rest := []) ⟨hx, hb, hml, hown, hts⟩ (f_R_constant l dC dI cZ y fa F g h _ (xs (5 * t + 1)) 1 hno) (cwV 2 hts (gV kml_L_60 kim_R_constant ksl_R_constant kin_R kcd_R_constant) rfl rfl rfl (by decide +kernel) ⟨by show 2 + 1 ≤ 2048; omega, by show 8 + (4 + 11) + 70 ≤ 84000; omega⟩) hP hK hD hS hA rfl hl.1 rfl (Nat.le_of_ble_eq_true rfl) d_L_law_147 ⟨by show CC (t + 1) _ + 0 ≤ 601024; omega, by show SS (t + 1) _ + 0 ≤ 7293034; omega⟩ (fun g h H locs hP hD hS => ?_)
        refine lv_aload_n hx hb d_L_law_150 rfl (lv_at hl 4 rfl) ?_
        refine kDR (As := []) (rest := []) ⟨hx, hb, hml, hown, hts⟩ (c_R_thrown l dC dI cZ y 1 F g h) (cwV 0 hts (gV kml_L_61 kim_R_thrown ksl_R_thrown kin_R kcd_R_thrown) rfl rfl rfl (by decide +kernel) ⟨by show 0 + 1 ≤ 2048; omega, by show 8 + (1 + 11) + 0 ≤ 84000; omega⟩) hP hK rfl hl.1 rfl (Nat.le_of_ble_eq_true rfl) d_L_law_151 ⟨by show CC (t + 1) _ ≤ 601024; omega, by show SS (t + 1) _ ≤ 7293034; omega⟩ ?_
        refine lv_iload hx hb d_L_law_154 (lv_at hl 0 rfl) ?_
        refine lv_icmp_eq (tgt := 161) hx hb d_L_law_156 (by decide) (fun c156 => ?_) (fun c156 => ?_)
        · refine lv_goto (tgt := 915) hx hb d_L_law_161 (by decide) ?_
          refine lv_iinc (v := ((nI (5 * t)) + 5)) (lv' := [(4, .int ((nI (5 * t)) + 5)), (5, .int 1), (0, .ref b), (1, .ref (z 0)), (2, .ref (y 0)), (3, .ref o0)]) hx hb d_L_law_915 hl (k := 1) rfl rfl (by decide) rfl (fun ls hl => ?_)
          refine lv_goto (tgt := 23) hx hb d_L_law_918 (by decide) ?_
          rw [show nI (5 * t) + (5 : Int32) = nI (5 * (t + 1)) from by rw [show (5 : Int32) = nI 5 from rfl, nI_add]; rfl] at hl
          exact ih z a bb y N E V o0 f 1 F g h H locs hin2 hP hD hS ls (lv_sub hl [0, 2, 3, 4, 5] rfl)
        · exact absurd (by decide) c156

set_option maxHeartbeats 8000000 in
set_option maxRecDepth 100000 in
theorem law_variable {I : Nat → Mm → Mm → (Nat → Int32) → (Nat → Nat → Bool) → Prop} (hI : LI I) {p : Program} {l : Launch} {e : Env} {s : State} {m : MethodId} {below : List Frame} {meth : Method} {c : Code} {dC : Nat → ClassId} {dI : Nat → Nat → Nat} {cI cJ cZ : ClassId} {b L t : Nat} {xs : Nat → Int32} (hlt : l.stackTraces = false) (hL : L ≤ 2560) (C0 : lw_At p s m meth c b L xs) (hNc : va_Nc xUO xIA s) (hZ : xZ (fun q => s.heap.size ≤ q) s s.heap) (hK : va_K (dC, dI) cls0 [(cI, .int), (cJ, .long), (cZ, .boolean)] s) (ht5 : 5 * t + 5 ≤ L) (ih : LH I p l e s m below meth c dC dI cI cJ cZ b (t + 1)) (z a bb y : Nat → Nat) (N E : Mm) (V : Nat → Int32) (o0 : Nat) (f : Nat → Int64) (fa : Int32) (F : Nat → Nat → Bool) (g h : Nat → Bool) (H : Heap) (locs : List Loc) (hin : I t N E V F) (hP : va_P (dC, dI) cls0 (kW cI cJ cZ z a bb y N E V o0 f fa F g h) H) (hD : va_D (fun q : Nat => s.heap.size ≤ q) (kW cI cJ cZ z a bb y N E V o0 f fa F g h)) (hS : va_S (fun q : Nat => s.heap.size ≤ q) s.heap H locs) (ls : Array Slot) (hl : lv_has ls 7 [(4, .int (nI (5 * t))), (0, .ref b), (1, .ref (z 0)), (2, .ref (y 0)), (3, .ref o0)]) : W p l e room_1 s m #[Value.ref b] below meth c H locs (CC t N) (SS t N) (lw_Z below #[Value.ref b] s) (F0 m 164 ls []) := by
  obtain ⟨q0, q1, q2, q3, q4, q5, q6, q7, q8, q9, q10, q11, q12, q13, q14⟩ := hI
  obtain ⟨hx, hb, hr, hml, hown, hts0, hX, hbl, hlocks, hgv⟩ := C0
  have hown : s.vm.findClass R_L = some m.cls := hown
  have hts : ∀ w ∈ W0, w.before _ s = true := fun w h => hts0 w (W0_tbl w h)
  have hA : ∀ q : Nat, s.heap.size ≤ q → (fun q : Nat => s.heap.size ≤ q) q := fun _ h => h
  have hbA : ¬ (fun q : Nat => s.heap.size ≤ q) b := Nat.not_le.mpr hbl
  obtain ⟨hs0, hv⟩ := q1 t N E V F hin
  obtain ⟨⟨R0, hR, hR1, hR2⟩, -, -⟩ := id hs0
  have hb0 := CC_b (t := t + 1) hs0 (by omega)
  by_cases hno : okb (xs (5 * t + 1)) 32 ∧ okb (xs (5 * t + 2)) 12
  · obtain ⟨k1, k2⟩ := hno
    obtain ⟨i1, h1, e1⟩ := okb_of (n := 32) k1 (by decide)
    obtain ⟨i2, h2, e2⟩ := okb_of (n := 12) k2 (by decide)
    obtain ⟨N', r, hres⟩ := ex2 (j_make (j_makeRoom N 1) (nI i2) 0 1)
    obtain ⟨hin2, h00, hrm⟩ := q4 t N E V F i1 i2 N' r hin (by omega) h1 h2 hres
    have hs2 := (q1 _ _ _ _ _ hin2).1
    have e00 : rmN (j_makeRoom N 1) = rmN (j_put N' V (nI i1) r) := rm_e (by rw [put_00, h00])
    have hle : rmN N ≤ rmN (j_put N' V (nI i1) r) := by rw [rm_e (put_00 _ _ _ _)]; exact hrm
    obtain ⟨hc1, hc2⟩ := CC_s (t := t) hs0 hs2 hle e00
    obtain ⟨hb1, hb2⟩ := CC_b (t := t + 1) hs2 (by omega)
    refine lv_aload_n hx hb d_L_law_164 rfl (lv_at hl 2 rfl) ?_
    refine lv_aload_n hx hb d_L_law_165 rfl (lv_at hl 1 rfl) ?_
    refine lv_iload hx hb d_L_law_166 (lv_at hl 0 rfl) ?_
    refine lv_iconst (v := 1) hx hb d_L_law_168 (by decide) ?_
    refine lv_iadd hx hb d_L_law_169 ?_
    rw [show nI (5 * t) + (1 : Int32) = nI (5 * t + 1) from nI_add _ 1]
    refine va_sld hx hb hX hbl hbA hS (vp_in_nI (by omega) (by omega)) d_L_law_170 ?_
    rw [nI_clamp (n := 5 * t + 1) (by omega)]
    rw [e1]
    refine lv_aload_n hx hb d_L_law_171 rfl (lv_at hl 1 rfl) ?_
    refine lv_iload hx hb d_L_law_172 (lv_at hl 0 rfl) ?_
    refine lv_iconst (v := 2) hx hb d_L_law_174 (by decide) ?_
    refine lv_iadd hx hb d_L_law_175 ?_
    rw [show nI (5 * t) + (2 : Int32) = nI (5 * t + 2) from nI_add _ 2]
    refine va_sld hx hb hX hbl hbA hS (vp_in_nI (by omega) (by omega)) d_L_law_176 ?_
    rw [nI_clamp (n := 5 * t + 2) (by omega)]
    rw [e2]
    refine kL (PX := fun _ => True) (As := [.ref (z 0), .int (nI i1), .int (nI i2)]) (rest := []) ⟨hx, hb, hml, hown, hts⟩ (cL_variable l dC dI cI cJ z a bb N E V o0 f _ (nI i1) (nI i2) (c_S_variable l dC dI cI z a bb N E V _ (nI i1) (nI i2) (okb_n (n := 32) h1 (by decide)) (okb_n (n := 12) h2 (by decide)) R0 hR hR1 hR2 hv hres)) (vx_cwSW 3 hts (gS kml_L_65 kst_L_variable kin_L kcw_L_variable) rfl rfl rfl (by decide +kernel) ⟨by show 47 + 1 ≤ 2048; omega, by show 8 + (4 + 11) + 2700 ≤ 84000; omega⟩) (fun _ _ _ => trivial) (fun _ _ _ _ _ => trivial) hP hK hD hS hA rfl hl.1 rfl (Nat.le_of_ble_eq_true rfl) d_L_law_177 ⟨by show CC t N + _ ≤ 601024; omega, by show SS t N + _ ≤ 7293034; omega⟩ (fun r9 a f H locs hw hP hD hS => ?_)
    refine W.widen (k := CC (t + 1) (j_put N' V (nI i1) r)) (n := SS (t + 1) (j_put N' V (nI i1) r)) hc1 hc2 ?_
    have hw : r9 = 0 := hw
    subst hw
    refine lv_istore (lv' := [(5, .int 0), (4, .int (nI (5 * t))), (0, .ref b), (1, .ref (z 0)), (2, .ref (y 0)), (3, .ref o0)]) hx hb d_L_law_180 hl (by decide) rfl (fun ls hl => ?_)
    refine lv_aload_n hx hb d_L_law_182 rfl (lv_at hl 4 rfl) ?_
    refine lv_aload_n hx hb d_L_law_183 rfl (lv_at hl 2 rfl) ?_
    refine lv_iload hx hb d_L_law_184 (lv_at hl 1 rfl) ?_
    refine lv_iconst (v := 1) hx hb d_L_law_186 (by decide) ?_
    refine lv_iadd hx hb d_L_law_187 ?_
    rw [show nI (5 * t) + (1 : Int32) = nI (5 * t + 1) from nI_add _ 1]
    refine va_sld hx hb hX hbl hbA hS (vp_in_nI (by omega) (by omega)) d_L_law_188 ?_
    rw [nI_clamp (n := 5 * t + 1) (by omega)]
    rw [e1]
    refine lv_aload_n hx hb d_L_law_189 rfl (lv_at hl 2 rfl) ?_
    refine lv_iload hx hb d_L_law_190 (lv_at hl 1 rfl) ?_
    refine lv_iconst (v := 2) hx hb d_L_law_192 (by decide) ?_
    refine lv_iadd hx hb d_L_law_193 ?_
    rw [show nI (5 * t) + (2 : Int32) = nI (5 * t + 2) from nI_add _ 2]
    refine va_sld hx hb hX hbl hbA hS (vp_in_nI (by omega) (by omega)) d_L_law_194 ?_
    rw [nI_clamp (n := 5 * t + 2) (by omega)]
    rw [e2]
    refine kDv (As := [.int (nI i1), .int (nI i2)]) (rest := []) ⟨hx, hb, hml, hown, hts⟩ (c_R_variable l dC dI cZ y fa F g h _ i1 i2 h1 h2) (cwV 2 hts (gV kml_L_68 kim_R_variable ksl_R_variable kin_R kcd_R_variable) rfl rfl rfl (by decide +kernel) ⟨by show 1 + 1 ≤ 2048; omega, by show 8 + (4 + 11) + 40 ≤ 84000; omega⟩) hP hK hD hS hA rfl hl.1 rfl (Nat.le_of_ble_eq_true rfl) d_L_law_195 ⟨by show CC (t + 1) _ + 0 ≤ 601024; omega, by show SS (t + 1) _ + 0 ≤ 7293034; omega⟩ (fun g h H locs hP hD hS => ?_)
    refine lv_aload_n hx hb d_L_law_198 rfl (lv_at hl 4 rfl) ?_
    refine kDR (As := []) (rest := []) ⟨hx, hb, hml, hown, hts⟩ (c_R_thrown l dC dI cZ y 0 (fp F i1 4096 (fun w => w.testBit i2)) g h) (cwV 0 hts (gV kml_L_61 kim_R_thrown ksl_R_thrown kin_R kcd_R_thrown) rfl rfl rfl (by decide +kernel) ⟨by show 0 + 1 ≤ 2048; omega, by show 8 + (1 + 11) + 0 ≤ 84000; omega⟩) hP hK rfl hl.1 rfl (Nat.le_of_ble_eq_true rfl) d_L_law_199 ⟨by show CC (t + 1) _ ≤ 601024; omega, by show SS (t + 1) _ ≤ 7293034; omega⟩ ?_
    refine lv_iload hx hb d_L_law_202 (lv_at hl 0 rfl) ?_
    refine lv_icmp_eq (tgt := 209) hx hb d_L_law_204 (by decide) (fun c204 => ?_) (fun c204 => ?_)
    · refine lv_goto (tgt := 915) hx hb d_L_law_209 (by decide) ?_
      refine lv_iinc (v := ((nI (5 * t)) + 5)) (lv' := [(4, .int ((nI (5 * t)) + 5)), (5, .int 0), (0, .ref b), (1, .ref (z 0)), (2, .ref (y 0)), (3, .ref o0)]) hx hb d_L_law_915 hl (k := 1) rfl rfl (by decide) rfl (fun ls hl => ?_)
      refine lv_goto (tgt := 23) hx hb d_L_law_918 (by decide) ?_
      rw [show nI (5 * t) + (5 : Int32) = nI (5 * (t + 1)) from by rw [show (5 : Int32) = nI 5 from rfl, nI_add]; rfl] at hl
      exact ih z a bb y (j_put N' V (nI i1) r) (j_forget E) (upd V (cl i1) r) o0 f 0 (fp F i1 4096 (fun w => w.testBit i2)) g h H locs hin2 hP hD hS ls (lv_sub hl [0, 2, 3, 4, 5] rfl)
    · exact absurd (by decide) c204
  · obtain ⟨hc1, hc2⟩ := CC_x (t := t) (N := N)
    obtain ⟨hb1, hb2⟩ := hb0
    have hin2 := q2 t N E V F hin
    have hZH : xZ (fun q => s.heap.size ≤ q) s H := hZ.kept (fun q h1 h2 => hS.2.1 q h1 h2)
    have hFz := va_free (wc := lW cI cJ z a bb N E V o0 f) hD hS hA [0, 1, 2, 3, 4, 5, 6, 7, 8, 9, 10, 11, 12] rfl
    refine lv_aload_n hx hb d_L_law_164 rfl (lv_at hl 2 rfl) ?_
    refine lv_aload_n hx hb d_L_law_165 rfl (lv_at hl 1 rfl) ?_
    refine lv_iload hx hb d_L_law_166 (lv_at hl 0 rfl) ?_
    refine lv_iconst (v := 1) hx hb d_L_law_168 (by decide) ?_
    refine lv_iadd hx hb d_L_law_169 ?_
    rw [show nI (5 * t) + (1 : Int32) = nI (5 * t + 1) from nI_add _ 1]
    refine va_sld hx hb hX hbl hbA hS (vp_in_nI (by omega) (by omega)) d_L_law_170 ?_
    rw [nI_clamp (n := 5 * t + 1) (by omega)]
    refine lv_aload_n hx hb d_L_law_171 rfl (lv_at hl 1 rfl) ?_
    refine lv_iload hx hb d_L_law_172 (lv_at hl 0 rfl) ?_
    refine lv_iconst (v := 2) hx hb d_L_law_174 (by decide) ?_
    refine lv_iadd hx hb d_L_law_175 ?_
    rw [show nI (5 * t) + (2 : Int32) = nI (5 * t + 2) from nI_add _ 2]
    refine va_sld hx hb hX hbl hbA hS (vp_in_nI (by omega) (by omega)) d_L_law_176 ?_
    rw [nI_clamp (n := 5 * t + 2) (by omega)]
    refine kL (PX := fun U => xZ (va_A (lW cI cJ z a bb N E V o0 f) H.size) U U.heap) (As := [.ref (z 0), .int (xs (5 * t + 1)), .int (xs (5 * t + 2))]) (rest := []) ⟨hx, hb, hml, hown, hts⟩ (fL_variable l dC dI cI cJ z a bb N E V o0 f _ _ _ hlt hno) (vx_cwSW 3 hts (gS kml_L_65 kst_L_variable kin_L kcw_L_variable) rfl rfl rfl (by decide +kernel) ⟨by show 47 + 1 ≤ 2048; omega, by show 8 + (4 + 11) + 2700 ≤ 84000; omega⟩) (fun U hU hWu => by show xZ _ U U.heap; rw [hU]; exact (hZH.warm hWu).narrow hFz) (fun U g mk q hq => xZ.same (s := U) (U := U.calling g mk q) (H := U.heap) rfl hq) hP hK hD hS hA rfl hl.1 rfl (Nat.le_of_ble_eq_true rfl) d_L_law_177 ⟨by show CC t N + _ ≤ 601024; omega, by show SS t N + _ ≤ 7293034; omega⟩ (fun r9 a f H locs hw hP hD hS => ?_)
    refine W.widen (k := CC (t + 1) N) (n := SS (t + 1) N) hc1 hc2 ?_
    have hw : r9 = 1 := hw
    subst hw
    refine lv_istore (lv' := [(5, .int 1), (4, .int (nI (5 * t))), (0, .ref b), (1, .ref (z 0)), (2, .ref (y 0)), (3, .ref o0)]) hx hb d_L_law_180 hl (by decide) rfl (fun ls hl => ?_)
    refine lv_aload_n hx hb d_L_law_182 rfl (lv_at hl 4 rfl) ?_
    refine lv_aload_n hx hb d_L_law_183 rfl (lv_at hl 2 rfl) ?_
    refine lv_iload hx hb d_L_law_184 (lv_at hl 1 rfl) ?_
    refine lv_iconst (v := 1) hx hb d_L_law_186 (by decide) ?_
    refine lv_iadd hx hb d_L_law_187 ?_
    rw [show nI (5 * t) + (1 : Int32) = nI (5 * t + 1) from nI_add _ 1]
    refine va_sld hx hb hX hbl hbA hS (vp_in_nI (by omega) (by omega)) d_L_law_188 ?_
    rw [nI_clamp (n := 5 * t + 1) (by omega)]
    refine lv_aload_n hx hb d_L_law_189 rfl (lv_at hl 2 rfl) ?_
    refine lv_iload hx hb d_L_law_190 (lv_at hl 1 rfl) ?_
    refine lv_iconst (v := 2) hx hb d_L_law_192 (by decide) ?_
    refine lv_iadd hx hb d_L_law_193 ?_
    rw [show nI (5 * t) + (2 : Int32) = nI (5 * t + 2) from nI_add _ 2]
    refine va_sld hx hb hX hbl hbA hS (vp_in_nI (by omega) (by omega)) d_L_law_194 ?_
    rw [nI_clamp (n := 5 * t + 2) (by omega)]
    refine kDv (As := [.int (xs (5 * t + 1)), .int (xs (5 * t + 2))]) (rest := []) ⟨hx, hb, hml, hown, hts⟩ (f_R_variable l dC dI cZ y fa F g h _ (xs (5 * t + 1)) (xs (5 * t + 2)) hno) (cwV 2 hts (gV kml_L_68 kim_R_variable ksl_R_variable kin_R kcd_R_variable) rfl rfl rfl (by decide +kernel) ⟨by show 2 + 1 ≤ 2048; omega, by show 8 + (4 + 11) + 70 ≤ 84000; omega⟩) hP hK hD hS hA rfl hl.1 rfl (Nat.le_of_ble_eq_true rfl) d_L_law_195 ⟨by show CC (t + 1) _ + 0 ≤ 601024; omega, by show SS (t + 1) _ + 0 ≤ 7293034; omega⟩ (fun g h H locs hP hD hS => ?_)
    refine lv_aload_n hx hb d_L_law_198 rfl (lv_at hl 4 rfl) ?_
    refine kDR (As := []) (rest := []) ⟨hx, hb, hml, hown, hts⟩ (c_R_thrown l dC dI cZ y 1 F g h) (cwV 0 hts (gV kml_L_61 kim_R_thrown ksl_R_thrown kin_R kcd_R_thrown) rfl rfl rfl (by decide +kernel) ⟨by show 0 + 1 ≤ 2048; omega, by show 8 + (1 + 11) + 0 ≤ 84000; omega⟩) hP hK rfl hl.1 rfl (Nat.le_of_ble_eq_true rfl) d_L_law_199 ⟨by show CC (t + 1) _ ≤ 601024; omega, by show SS (t + 1) _ ≤ 7293034; omega⟩ ?_
    refine lv_iload hx hb d_L_law_202 (lv_at hl 0 rfl) ?_
    refine lv_icmp_eq (tgt := 209) hx hb d_L_law_204 (by decide) (fun c204 => ?_) (fun c204 => ?_)
    · refine lv_goto (tgt := 915) hx hb d_L_law_209 (by decide) ?_
      refine lv_iinc (v := ((nI (5 * t)) + 5)) (lv' := [(4, .int ((nI (5 * t)) + 5)), (5, .int 1), (0, .ref b), (1, .ref (z 0)), (2, .ref (y 0)), (3, .ref o0)]) hx hb d_L_law_915 hl (k := 1) rfl rfl (by decide) rfl (fun ls hl => ?_)
      refine lv_goto (tgt := 23) hx hb d_L_law_918 (by decide) ?_
      rw [show nI (5 * t) + (5 : Int32) = nI (5 * (t + 1)) from by rw [show (5 : Int32) = nI 5 from rfl, nI_add]; rfl] at hl
      exact ih z a bb y N E V o0 f 1 F g h H locs hin2 hP hD hS ls (lv_sub hl [0, 2, 3, 4, 5] rfl)
    · exact absurd (by decide) c204

set_option maxHeartbeats 8000000 in
set_option maxRecDepth 100000 in
theorem law_choose {I : Nat → Mm → Mm → (Nat → Int32) → (Nat → Nat → Bool) → Prop} (hI : LI I) {p : Program} {l : Launch} {e : Env} {s : State} {m : MethodId} {below : List Frame} {meth : Method} {c : Code} {dC : Nat → ClassId} {dI : Nat → Nat → Nat} {cI cJ cZ : ClassId} {b L t : Nat} {xs : Nat → Int32} (hlt : l.stackTraces = false) (hL : L ≤ 2560) (C0 : lw_At p s m meth c b L xs) (hNc : va_Nc xUO xIA s) (hZ : xZ (fun q => s.heap.size ≤ q) s s.heap) (hK : va_K (dC, dI) cls0 [(cI, .int), (cJ, .long), (cZ, .boolean)] s) (ht5 : 5 * t + 5 ≤ L) (ih : LH I p l e s m below meth c dC dI cI cJ cZ b (t + 1)) (z a bb y : Nat → Nat) (N E : Mm) (V : Nat → Int32) (o0 : Nat) (f : Nat → Int64) (fa : Int32) (F : Nat → Nat → Bool) (g h : Nat → Bool) (H : Heap) (locs : List Loc) (hin : I t N E V F) (hP : va_P (dC, dI) cls0 (kW cI cJ cZ z a bb y N E V o0 f fa F g h) H) (hD : va_D (fun q : Nat => s.heap.size ≤ q) (kW cI cJ cZ z a bb y N E V o0 f fa F g h)) (hS : va_S (fun q : Nat => s.heap.size ≤ q) s.heap H locs) (ls : Array Slot) (hl : lv_has ls 7 [(4, .int (nI (5 * t))), (0, .ref b), (1, .ref (z 0)), (2, .ref (y 0)), (3, .ref o0)]) : W p l e room_1 s m #[Value.ref b] below meth c H locs (CC t N) (SS t N) (lw_Z below #[Value.ref b] s) (F0 m 212 ls []) := by
  obtain ⟨q0, q1, q2, q3, q4, q5, q6, q7, q8, q9, q10, q11, q12, q13, q14⟩ := hI
  obtain ⟨hx, hb, hr, hml, hown, hts0, hX, hbl, hlocks, hgv⟩ := C0
  have hown : s.vm.findClass R_L = some m.cls := hown
  have hts : ∀ w ∈ W0, w.before _ s = true := fun w h => hts0 w (W0_tbl w h)
  have hA : ∀ q : Nat, s.heap.size ≤ q → (fun q : Nat => s.heap.size ≤ q) q := fun _ h => h
  have hbA : ¬ (fun q : Nat => s.heap.size ≤ q) b := Nat.not_le.mpr hbl
  obtain ⟨hs0, hv⟩ := q1 t N E V F hin
  obtain ⟨⟨R0, hR, hR1, hR2⟩, -, -⟩ := id hs0
  have hb0 := CC_b (t := t + 1) hs0 (by omega)
  by_cases hno : okb (xs (5 * t + 1)) 32 ∧ okb (xs (5 * t + 2)) 32 ∧ okb (xs (5 * t + 3)) 32 ∧ okb (xs (5 * t + 4)) 32
  · obtain ⟨k1, k2, k3, k4⟩ := hno
    obtain ⟨i1, h1, e1⟩ := okb_of (n := 32) k1 (by decide)
    obtain ⟨i2, h2, e2⟩ := okb_of (n := 32) k2 (by decide)
    obtain ⟨i3, h3, e3⟩ := okb_of (n := 32) k3 (by decide)
    obtain ⟨i4, h4, e4⟩ := okb_of (n := 32) k4 (by decide)
    obtain ⟨N', E', r, hres⟩ := ex3 (j_pick 12 (j_makeRoom N 765) (j_forget E) (V (cl i2)) (V (cl i3)) (V (cl i4)))
    obtain ⟨hin2, h00, hrm, hch⟩ := q5 t N E V F i1 i2 i3 i4 N' E' r hin (by omega) h1 h2 h3 h4 hres
    have hs2 := (q1 _ _ _ _ _ hin2).1
    have e00 : rmN (j_makeRoom N 765) = rmN (j_put N' V (nI i1) r) := rm_e (by rw [put_00, h00])
    have hle : rmN N ≤ rmN (j_put N' V (nI i1) r) := by rw [rm_e (put_00 _ _ _ _)]; exact hrm
    obtain ⟨hc1, hc2⟩ := CC_s (t := t) hs0 hs2 hle e00
    obtain ⟨hb1, hb2⟩ := CC_b (t := t + 1) hs2 (by omega)
    have hq : (if r = V (cl i1) then 0 else 1 : Int32) = zb (dif (F i1) (fun w => if F i2 w then F i3 w else F i4 w) 4096) := zb_ch hch
    refine lv_aload_n hx hb d_L_law_212 rfl (lv_at hl 2 rfl) ?_
    refine lv_aload_n hx hb d_L_law_213 rfl (lv_at hl 1 rfl) ?_
    refine lv_iload hx hb d_L_law_214 (lv_at hl 0 rfl) ?_
    refine lv_iconst (v := 1) hx hb d_L_law_216 (by decide) ?_
    refine lv_iadd hx hb d_L_law_217 ?_
    rw [show nI (5 * t) + (1 : Int32) = nI (5 * t + 1) from nI_add _ 1]
    refine va_sld hx hb hX hbl hbA hS (vp_in_nI (by omega) (by omega)) d_L_law_218 ?_
    rw [nI_clamp (n := 5 * t + 1) (by omega)]
    rw [e1]
    refine lv_aload_n hx hb d_L_law_219 rfl (lv_at hl 1 rfl) ?_
    refine lv_iload hx hb d_L_law_220 (lv_at hl 0 rfl) ?_
    refine lv_iconst (v := 2) hx hb d_L_law_222 (by decide) ?_
    refine lv_iadd hx hb d_L_law_223 ?_
    rw [show nI (5 * t) + (2 : Int32) = nI (5 * t + 2) from nI_add _ 2]
    refine va_sld hx hb hX hbl hbA hS (vp_in_nI (by omega) (by omega)) d_L_law_224 ?_
    rw [nI_clamp (n := 5 * t + 2) (by omega)]
    rw [e2]
    refine lv_aload_n hx hb d_L_law_225 rfl (lv_at hl 1 rfl) ?_
    refine lv_iload hx hb d_L_law_226 (lv_at hl 0 rfl) ?_
    refine lv_iconst (v := 3) hx hb d_L_law_228 (by decide) ?_
    refine lv_iadd hx hb d_L_law_229 ?_
    rw [show nI (5 * t) + (3 : Int32) = nI (5 * t + 3) from nI_add _ 3]
    refine va_sld hx hb hX hbl hbA hS (vp_in_nI (by omega) (by omega)) d_L_law_230 ?_
    rw [nI_clamp (n := 5 * t + 3) (by omega)]
    rw [e3]
    refine lv_aload_n hx hb d_L_law_231 rfl (lv_at hl 1 rfl) ?_
    refine lv_iload hx hb d_L_law_232 (lv_at hl 0 rfl) ?_
    refine lv_iconst (v := 4) hx hb d_L_law_234 (by decide) ?_
    refine lv_iadd hx hb d_L_law_235 ?_
    rw [show nI (5 * t) + (4 : Int32) = nI (5 * t + 4) from nI_add _ 4]
    refine va_sld hx hb hX hbl hbA hS (vp_in_nI (by omega) (by omega)) d_L_law_236 ?_
    rw [nI_clamp (n := 5 * t + 4) (by omega)]
    rw [e4]
    refine lv_aload_n hx hb d_L_law_237 rfl (lv_at hl 4 rfl) ?_
    refine kL (PX := fun _ => True) (As := [.ref (z 0), .int (nI i1), .int (nI i2), .int (nI i3), .int (nI i4), .ref o0]) (rest := []) ⟨hx, hb, hml, hown, hts⟩ (cL_choose l dC dI cI cJ z a bb N E V o0 f _ (nI i1) (nI i2) (nI i3) (nI i4) (fun x u h => h.1) (c_S_choose l dC dI cI z a bb N E V _ (nI i1) (nI i2) (nI i3) (nI i4) (okb_n (n := 32) h1 (by decide)) (okb_n (n := 32) h2 (by decide)) (okb_n (n := 32) h3 (by decide)) (okb_n (n := 32) h4 (by decide)) R0 hR hR1 hR2 hv hres)) (vx_cwSW 6 hts (gS kml_L_69 kst_L_choose kin_L kcw_L_choose) rfl rfl rfl (by decide +kernel) ⟨by show 47 + 1 ≤ 2048; omega, by show 8 + (7 + 11) + 2700 ≤ 84000; omega⟩) (fun _ _ _ => trivial) (fun _ _ _ _ _ => trivial) hP hK hD hS hA rfl hl.1 rfl (Nat.le_of_ble_eq_true rfl) d_L_law_238 ⟨by show CC t N + _ ≤ 601024; omega, by show SS t N + _ ≤ 7293034; omega⟩ (fun r9 a f H locs hw hP hD hS => ?_)
    refine W.widen (k := CC (t + 1) (j_put N' V (nI i1) r)) (n := SS (t + 1) (j_put N' V (nI i1) r)) hc1 hc2 ?_
    obtain ⟨hw, hf0⟩ := hw
    have hf0 : f 0 = _ := hf0
    have hw : r9 = 0 := hw
    subst hw
    refine lv_istore (lv' := [(5, .int 0), (4, .int (nI (5 * t))), (0, .ref b), (1, .ref (z 0)), (2, .ref (y 0)), (3, .ref o0)]) hx hb d_L_law_241 hl (by decide) rfl (fun ls hl => ?_)
    refine lv_aload_n hx hb d_L_law_243 rfl (lv_at hl 4 rfl) ?_
    refine lv_aload_n hx hb d_L_law_244 rfl (lv_at hl 2 rfl) ?_
    refine lv_iload hx hb d_L_law_245 (lv_at hl 1 rfl) ?_
    refine lv_iconst (v := 1) hx hb d_L_law_247 (by decide) ?_
    refine lv_iadd hx hb d_L_law_248 ?_
    rw [show nI (5 * t) + (1 : Int32) = nI (5 * t + 1) from nI_add _ 1]
    refine va_sld hx hb hX hbl hbA hS (vp_in_nI (by omega) (by omega)) d_L_law_249 ?_
    rw [nI_clamp (n := 5 * t + 1) (by omega)]
    rw [e1]
    refine lv_aload_n hx hb d_L_law_250 rfl (lv_at hl 2 rfl) ?_
    refine lv_iload hx hb d_L_law_251 (lv_at hl 1 rfl) ?_
    refine lv_iconst (v := 2) hx hb d_L_law_253 (by decide) ?_
    refine lv_iadd hx hb d_L_law_254 ?_
    rw [show nI (5 * t) + (2 : Int32) = nI (5 * t + 2) from nI_add _ 2]
    refine va_sld hx hb hX hbl hbA hS (vp_in_nI (by omega) (by omega)) d_L_law_255 ?_
    rw [nI_clamp (n := 5 * t + 2) (by omega)]
    rw [e2]
    refine lv_aload_n hx hb d_L_law_256 rfl (lv_at hl 2 rfl) ?_
    refine lv_iload hx hb d_L_law_257 (lv_at hl 1 rfl) ?_
    refine lv_iconst (v := 3) hx hb d_L_law_259 (by decide) ?_
    refine lv_iadd hx hb d_L_law_260 ?_
    rw [show nI (5 * t) + (3 : Int32) = nI (5 * t + 3) from nI_add _ 3]
    refine va_sld hx hb hX hbl hbA hS (vp_in_nI (by omega) (by omega)) d_L_law_261 ?_
    rw [nI_clamp (n := 5 * t + 3) (by omega)]
    rw [e3]
    refine lv_aload_n hx hb d_L_law_262 rfl (lv_at hl 2 rfl) ?_
    refine lv_iload hx hb d_L_law_263 (lv_at hl 1 rfl) ?_
    refine lv_iconst (v := 4) hx hb d_L_law_265 (by decide) ?_
    refine lv_iadd hx hb d_L_law_266 ?_
    rw [show nI (5 * t) + (4 : Int32) = nI (5 * t + 4) from nI_add _ 4]
    refine va_sld hx hb hX hbl hbA hS (vp_in_nI (by omega) (by omega)) d_L_law_267 ?_
    rw [nI_clamp (n := 5 * t + 4) (by omega)]
    rw [e4]
    refine kDi (As := [.int (nI i1), .int (nI i2), .int (nI i3), .int (nI i4)]) (rest := []) ⟨hx, hb, hml, hown, hts⟩ (c_R_choose l dC dI cZ y fa F g h _ i1 i2 i3 i4 h1 h2 h3 h4) (cwV 4 hts (gV kml_L_72 kim_R_choose ksl_R_choose kin_R kcd_R_choose) rfl rfl rfl (by decide +kernel) ⟨by show 2 + 1 ≤ 2048; omega, by show 8 + (6 + 11) + 60 ≤ 84000; omega⟩) hP hK hD hS hA rfl hl.1 rfl (Nat.le_of_ble_eq_true rfl) d_L_law_268 ⟨by show CC (t + 1) _ + 0 ≤ 601024; omega, by show SS (t + 1) _ + 0 ≤ 7293034; omega⟩ (fun g h H locs hP hD hS => ?_)
    refine lv_istore (lv' := [(6, .int (zb (dif (F i1) (fun w => if F i2 w then F i3 w else F i4 w) 4096))), (5, .int 0), (4, .int (nI (5 * t))), (0, .ref b), (1, .ref (z 0)), (2, .ref (y 0)), (3, .ref o0)]) hx hb d_L_law_271 hl (by decide) rfl (fun ls hl => ?_)
    refine lv_aload_n hx hb d_L_law_273 rfl (lv_at hl 5 rfl) ?_
    refine kDR (As := []) (rest := []) ⟨hx, hb, hml, hown, hts⟩ (c_R_thrown l dC dI cZ y 0 (fp F i1 4096 (fun w => if F i2 w then F i3 w else F i4 w)) g h) (cwV 0 hts (gV kml_L_61 kim_R_thrown ksl_R_thrown kin_R kcd_R_thrown) rfl rfl rfl (by decide +kernel) ⟨by show 0 + 1 ≤ 2048; omega, by show 8 + (1 + 11) + 0 ≤ 84000; omega⟩) hP hK rfl hl.1 rfl (Nat.le_of_ble_eq_true rfl) d_L_law_274 ⟨by show CC (t + 1) _ ≤ 601024; omega, by show SS (t + 1) _ ≤ 7293034; omega⟩ ?_
    refine lv_iload hx hb d_L_law_277 (lv_at hl 1 rfl) ?_
    refine lv_icmp_eq (tgt := 284) hx hb d_L_law_279 (by decide) (fun c279 => ?_) (fun c279 => ?_)
    · refine lv_iload hx hb d_L_law_284 (lv_at hl 1 rfl) ?_
      refine lv_if_ne (tgt := 308) hx hb d_L_law_286 (by decide) (fun c286 => ?_) (fun c286 => ?_)
      · exact absurd (by decide) c286
      · refine lv_aload_n hx hb d_L_law_289 rfl (lv_at hl 6 rfl) ?_
        refine lv_iconst (v := 0) hx hb d_L_law_290 (by decide) ?_
        refine va_lald hx hb hK hP 12 1 rfl rfl (vp_in_nI (show 0 < 1 by decide) (by decide)) d_L_law_291 ?_
        refine lv_iload hx hb d_L_law_292 (lv_at hl 0 rfl) ?_
        refine lv_if_eq (tgt := 301) hx hb d_L_law_294 (by decide) (fun c294 => ?_) (fun c294 => ?_)
        · refine lv_lconst (v := 0) hx hb d_L_law_301 (by decide) ?_
          refine W.lcmp hx hb d_L_law_302 ?_
          refine lv_if_eq (tgt := 308) hx hb d_L_law_303 (by decide) (fun c303 => ?_) (fun c303 => ?_)
          · refine lv_goto (tgt := 915) hx hb d_L_law_308 (by decide) ?_
            refine lv_iinc (v := ((nI (5 * t)) + 5)) (lv' := [(4, .int ((nI (5 * t)) + 5)), (6, .int (zb (dif (F i1) (fun w => if F i2 w then F i3 w else F i4 w) 4096))), (5, .int 0), (0, .ref b), (1, .ref (z 0)), (2, .ref (y 0)), (3, .ref o0)]) hx hb d_L_law_915 hl (k := 2) rfl rfl (by decide) rfl (fun ls hl => ?_)
            refine lv_goto (tgt := 23) hx hb d_L_law_918 (by decide) ?_
            rw [show nI (5 * t) + (5 : Int32) = nI (5 * (t + 1)) from by rw [show (5 : Int32) = nI 5 from rfl, nI_add]; rfl] at hl
            exact ih z a bb y (j_put N' V (nI i1) r) E' (upd V (cl i1) r) o0 f 0 (fp F i1 4096 (fun w => if F i2 w then F i3 w else F i4 w)) g h H locs hin2 hP hD hS ls (lv_sub hl [0, 3, 4, 5, 6] rfl)
          · exact absurd (lc_eq (show f 0 = (0 : Int64) from by rw [hf0, hq]; exact if_pos c294)) c303
        · refine lv_lconst (v := 1) hx hb d_L_law_297 (by decide) ?_
          refine lv_goto (tgt := 302) hx hb d_L_law_298 (by decide) ?_
          refine W.lcmp hx hb d_L_law_302 ?_
          refine lv_if_eq (tgt := 308) hx hb d_L_law_303 (by decide) (fun c303 => ?_) (fun c303 => ?_)
          · refine lv_goto (tgt := 915) hx hb d_L_law_308 (by decide) ?_
            refine lv_iinc (v := ((nI (5 * t)) + 5)) (lv' := [(4, .int ((nI (5 * t)) + 5)), (6, .int (zb (dif (F i1) (fun w => if F i2 w then F i3 w else F i4 w) 4096))), (5, .int 0), (0, .ref b), (1, .ref (z 0)), (2, .ref (y 0)), (3, .ref o0)]) hx hb d_L_law_915 hl (k := 2) rfl rfl (by decide) rfl (fun ls hl => ?_)
            refine lv_goto (tgt := 23) hx hb d_L_law_918 (by decide) ?_
            rw [show nI (5 * t) + (5 : Int32) = nI (5 * (t + 1)) from by rw [show (5 : Int32) = nI 5 from rfl, nI_add]; rfl] at hl
            exact ih z a bb y (j_put N' V (nI i1) r) E' (upd V (cl i1) r) o0 f 0 (fp F i1 4096 (fun w => if F i2 w then F i3 w else F i4 w)) g h H locs hin2 hP hD hS ls (lv_sub hl [0, 3, 4, 5, 6] rfl)
          · exact absurd (lc_eq (show f 0 = (1 : Int64) from by rw [hf0, hq]; exact if_neg c294)) c303
    · exact absurd (by decide) c279
  · obtain ⟨hc1, hc2⟩ := CC_x (t := t) (N := N)
    obtain ⟨hb1, hb2⟩ := hb0
    have hin2 := q2 t N E V F hin
    have hZH : xZ (fun q => s.heap.size ≤ q) s H := hZ.kept (fun q h1 h2 => hS.2.1 q h1 h2)
    have hFz := va_free (wc := lW cI cJ z a bb N E V o0 f) hD hS hA [0, 1, 2, 3, 4, 5, 6, 7, 8, 9, 10, 11, 12] rfl
    refine lv_aload_n hx hb d_L_law_212 rfl (lv_at hl 2 rfl) ?_
    refine lv_aload_n hx hb d_L_law_213 rfl (lv_at hl 1 rfl) ?_
    refine lv_iload hx hb d_L_law_214 (lv_at hl 0 rfl) ?_
    refine lv_iconst (v := 1) hx hb d_L_law_216 (by decide) ?_
    refine lv_iadd hx hb d_L_law_217 ?_
    rw [show nI (5 * t) + (1 : Int32) = nI (5 * t + 1) from nI_add _ 1]
    refine va_sld hx hb hX hbl hbA hS (vp_in_nI (by omega) (by omega)) d_L_law_218 ?_
    rw [nI_clamp (n := 5 * t + 1) (by omega)]
    refine lv_aload_n hx hb d_L_law_219 rfl (lv_at hl 1 rfl) ?_
    refine lv_iload hx hb d_L_law_220 (lv_at hl 0 rfl) ?_
    refine lv_iconst (v := 2) hx hb d_L_law_222 (by decide) ?_
    refine lv_iadd hx hb d_L_law_223 ?_
    rw [show nI (5 * t) + (2 : Int32) = nI (5 * t + 2) from nI_add _ 2]
    refine va_sld hx hb hX hbl hbA hS (vp_in_nI (by omega) (by omega)) d_L_law_224 ?_
    rw [nI_clamp (n := 5 * t + 2) (by omega)]
    refine lv_aload_n hx hb d_L_law_225 rfl (lv_at hl 1 rfl) ?_
    refine lv_iload hx hb d_L_law_226 (lv_at hl 0 rfl) ?_
    refine lv_iconst (v := 3) hx hb d_L_law_228 (by decide) ?_
    refine lv_iadd hx hb d_L_law_229 ?_
    rw [show nI (5 * t) + (3 : Int32) = nI (5 * t + 3) from nI_add _ 3]
    refine va_sld hx hb hX hbl hbA hS (vp_in_nI (by omega) (by omega)) d_L_law_230 ?_
    rw [nI_clamp (n := 5 * t + 3) (by omega)]
    refine lv_aload_n hx hb d_L_law_231 rfl (lv_at hl 1 rfl) ?_
    refine lv_iload hx hb d_L_law_232 (lv_at hl 0 rfl) ?_
    refine lv_iconst (v := 4) hx hb d_L_law_234 (by decide) ?_
    refine lv_iadd hx hb d_L_law_235 ?_
    rw [show nI (5 * t) + (4 : Int32) = nI (5 * t + 4) from nI_add _ 4]
    refine va_sld hx hb hX hbl hbA hS (vp_in_nI (by omega) (by omega)) d_L_law_236 ?_
    rw [nI_clamp (n := 5 * t + 4) (by omega)]
    refine lv_aload_n hx hb d_L_law_237 rfl (lv_at hl 4 rfl) ?_
    refine kL (PX := fun U => xZ (va_A (lW cI cJ z a bb N E V o0 f) H.size) U U.heap) (As := [.ref (z 0), .int (xs (5 * t + 1)), .int (xs (5 * t + 2)), .int (xs (5 * t + 3)), .int (xs (5 * t + 4)), .ref o0]) (rest := []) ⟨hx, hb, hml, hown, hts⟩ (fL_choose l dC dI cI cJ z a bb N E V o0 f _ _ _ _ _ hlt hno) (vx_cwSW 6 hts (gS kml_L_69 kst_L_choose kin_L kcw_L_choose) rfl rfl rfl (by decide +kernel) ⟨by show 47 + 1 ≤ 2048; omega, by show 8 + (7 + 11) + 2700 ≤ 84000; omega⟩) (fun U hU hWu => by show xZ _ U U.heap; rw [hU]; exact (hZH.warm hWu).narrow hFz) (fun U g mk q hq => xZ.same (s := U) (U := U.calling g mk q) (H := U.heap) rfl hq) hP hK hD hS hA rfl hl.1 rfl (Nat.le_of_ble_eq_true rfl) d_L_law_238 ⟨by show CC t N + _ ≤ 601024; omega, by show SS t N + _ ≤ 7293034; omega⟩ (fun r9 a f H locs hw hP hD hS => ?_)
    refine W.widen (k := CC (t + 1) N) (n := SS (t + 1) N) hc1 hc2 ?_
    have hw : r9 = 1 := hw
    subst hw
    refine lv_istore (lv' := [(5, .int 1), (4, .int (nI (5 * t))), (0, .ref b), (1, .ref (z 0)), (2, .ref (y 0)), (3, .ref o0)]) hx hb d_L_law_241 hl (by decide) rfl (fun ls hl => ?_)
    refine lv_aload_n hx hb d_L_law_243 rfl (lv_at hl 4 rfl) ?_
    refine lv_aload_n hx hb d_L_law_244 rfl (lv_at hl 2 rfl) ?_
    refine lv_iload hx hb d_L_law_245 (lv_at hl 1 rfl) ?_
    refine lv_iconst (v := 1) hx hb d_L_law_247 (by decide) ?_
    refine lv_iadd hx hb d_L_law_248 ?_
    rw [show nI (5 * t) + (1 : Int32) = nI (5 * t + 1) from nI_add _ 1]
    refine va_sld hx hb hX hbl hbA hS (vp_in_nI (by omega) (by omega)) d_L_law_249 ?_
    rw [nI_clamp (n := 5 * t + 1) (by omega)]
    refine lv_aload_n hx hb d_L_law_250 rfl (lv_at hl 2 rfl) ?_
    refine lv_iload hx hb d_L_law_251 (lv_at hl 1 rfl) ?_
    refine lv_iconst (v := 2) hx hb d_L_law_253 (by decide) ?_
    refine lv_iadd hx hb d_L_law_254 ?_
    rw [show nI (5 * t) + (2 : Int32) = nI (5 * t + 2) from nI_add _ 2]
    refine va_sld hx hb hX hbl hbA hS (vp_in_nI (by omega) (by omega)) d_L_law_255 ?_
    rw [nI_clamp (n := 5 * t + 2) (by omega)]
    refine lv_aload_n hx hb d_L_law_256 rfl (lv_at hl 2 rfl) ?_
    refine lv_iload hx hb d_L_law_257 (lv_at hl 1 rfl) ?_
    refine lv_iconst (v := 3) hx hb d_L_law_259 (by decide) ?_
    refine lv_iadd hx hb d_L_law_260 ?_
    rw [show nI (5 * t) + (3 : Int32) = nI (5 * t + 3) from nI_add _ 3]
    refine va_sld hx hb hX hbl hbA hS (vp_in_nI (by omega) (by omega)) d_L_law_261 ?_
    rw [nI_clamp (n := 5 * t + 3) (by omega)]
    refine lv_aload_n hx hb d_L_law_262 rfl (lv_at hl 2 rfl) ?_
    refine lv_iload hx hb d_L_law_263 (lv_at hl 1 rfl) ?_
    refine lv_iconst (v := 4) hx hb d_L_law_265 (by decide) ?_
    refine lv_iadd hx hb d_L_law_266 ?_
    rw [show nI (5 * t) + (4 : Int32) = nI (5 * t + 4) from nI_add _ 4]
    refine va_sld hx hb hX hbl hbA hS (vp_in_nI (by omega) (by omega)) d_L_law_267 ?_
    rw [nI_clamp (n := 5 * t + 4) (by omega)]
    refine kDi (As := [.int (xs (5 * t + 1)), .int (xs (5 * t + 2)), .int (xs (5 * t + 3)), .int (xs (5 * t + 4))]) (rest := []) ⟨hx, hb, hml, hown, hts⟩ (f_R_choose l dC dI cZ y fa F g h _ (xs (5 * t + 1)) (xs (5 * t + 2)) (xs (5 * t + 3)) (xs (5 * t + 4)) hno) (cwV 4 hts (gV kml_L_72 kim_R_choose ksl_R_choose kin_R kcd_R_choose) rfl rfl rfl (by decide +kernel) ⟨by show 2 + 1 ≤ 2048; omega, by show 8 + (6 + 11) + 70 ≤ 84000; omega⟩) hP hK hD hS hA rfl hl.1 rfl (Nat.le_of_ble_eq_true rfl) d_L_law_268 ⟨by show CC (t + 1) _ + 0 ≤ 601024; omega, by show SS (t + 1) _ + 0 ≤ 7293034; omega⟩ (fun g h H locs hP hD hS => ?_)
    refine lv_istore (lv' := [(6, .int 0), (5, .int 1), (4, .int (nI (5 * t))), (0, .ref b), (1, .ref (z 0)), (2, .ref (y 0)), (3, .ref o0)]) hx hb d_L_law_271 hl (by decide) rfl (fun ls hl => ?_)
    refine lv_aload_n hx hb d_L_law_273 rfl (lv_at hl 5 rfl) ?_
    refine kDR (As := []) (rest := []) ⟨hx, hb, hml, hown, hts⟩ (c_R_thrown l dC dI cZ y 1 F g h) (cwV 0 hts (gV kml_L_61 kim_R_thrown ksl_R_thrown kin_R kcd_R_thrown) rfl rfl rfl (by decide +kernel) ⟨by show 0 + 1 ≤ 2048; omega, by show 8 + (1 + 11) + 0 ≤ 84000; omega⟩) hP hK rfl hl.1 rfl (Nat.le_of_ble_eq_true rfl) d_L_law_274 ⟨by show CC (t + 1) _ ≤ 601024; omega, by show SS (t + 1) _ ≤ 7293034; omega⟩ ?_
    refine lv_iload hx hb d_L_law_277 (lv_at hl 1 rfl) ?_
    refine lv_icmp_eq (tgt := 284) hx hb d_L_law_279 (by decide) (fun c279 => ?_) (fun c279 => ?_)
    · refine lv_iload hx hb d_L_law_284 (lv_at hl 1 rfl) ?_
      refine lv_if_ne (tgt := 308) hx hb d_L_law_286 (by decide) (fun c286 => ?_) (fun c286 => ?_)
      · refine lv_goto (tgt := 915) hx hb d_L_law_308 (by decide) ?_
        refine lv_iinc (v := ((nI (5 * t)) + 5)) (lv' := [(4, .int ((nI (5 * t)) + 5)), (6, .int 0), (5, .int 1), (0, .ref b), (1, .ref (z 0)), (2, .ref (y 0)), (3, .ref o0)]) hx hb d_L_law_915 hl (k := 2) rfl rfl (by decide) rfl (fun ls hl => ?_)
        refine lv_goto (tgt := 23) hx hb d_L_law_918 (by decide) ?_
        rw [show nI (5 * t) + (5 : Int32) = nI (5 * (t + 1)) from by rw [show (5 : Int32) = nI 5 from rfl, nI_add]; rfl] at hl
        exact ih z a bb y N E V o0 f 1 F g h H locs hin2 hP hD hS ls (lv_sub hl [0, 3, 4, 5, 6] rfl)
      · exact absurd c286 (by decide)
    · exact absurd (by decide) c279

set_option maxHeartbeats 8000000 in
set_option maxRecDepth 100000 in
theorem law_join {I : Nat → Mm → Mm → (Nat → Int32) → (Nat → Nat → Bool) → Prop} (hI : LI I) {p : Program} {l : Launch} {e : Env} {s : State} {m : MethodId} {below : List Frame} {meth : Method} {c : Code} {dC : Nat → ClassId} {dI : Nat → Nat → Nat} {cI cJ cZ : ClassId} {b L t : Nat} {xs : Nat → Int32} (hlt : l.stackTraces = false) (hL : L ≤ 2560) (C0 : lw_At p s m meth c b L xs) (hNc : va_Nc xUO xIA s) (hZ : xZ (fun q => s.heap.size ≤ q) s s.heap) (hK : va_K (dC, dI) cls0 [(cI, .int), (cJ, .long), (cZ, .boolean)] s) (ht5 : 5 * t + 5 ≤ L) (ih : LH I p l e s m below meth c dC dI cI cJ cZ b (t + 1)) (z a bb y : Nat → Nat) (N E : Mm) (V : Nat → Int32) (o0 : Nat) (f : Nat → Int64) (fa : Int32) (F : Nat → Nat → Bool) (g h : Nat → Bool) (H : Heap) (locs : List Loc) (hin : I t N E V F) (hP : va_P (dC, dI) cls0 (kW cI cJ cZ z a bb y N E V o0 f fa F g h) H) (hD : va_D (fun q : Nat => s.heap.size ≤ q) (kW cI cJ cZ z a bb y N E V o0 f fa F g h)) (hS : va_S (fun q : Nat => s.heap.size ≤ q) s.heap H locs) (ls : Array Slot) (hl : lv_has ls 7 [(4, .int (nI (5 * t))), (0, .ref b), (1, .ref (z 0)), (2, .ref (y 0)), (3, .ref o0)]) : W p l e room_1 s m #[Value.ref b] below meth c H locs (CC t N) (SS t N) (lw_Z below #[Value.ref b] s) (F0 m 311 ls []) := by
  obtain ⟨q0, q1, q2, q3, q4, q5, q6, q7, q8, q9, q10, q11, q12, q13, q14⟩ := hI
  obtain ⟨hx, hb, hr, hml, hown, hts0, hX, hbl, hlocks, hgv⟩ := C0
  have hown : s.vm.findClass R_L = some m.cls := hown
  have hts : ∀ w ∈ W0, w.before _ s = true := fun w h => hts0 w (W0_tbl w h)
  have hA : ∀ q : Nat, s.heap.size ≤ q → (fun q : Nat => s.heap.size ≤ q) q := fun _ h => h
  have hbA : ¬ (fun q : Nat => s.heap.size ≤ q) b := Nat.not_le.mpr hbl
  obtain ⟨hs0, hv⟩ := q1 t N E V F hin
  obtain ⟨⟨R0, hR, hR1, hR2⟩, -, -⟩ := id hs0
  have hb0 := CC_b (t := t + 1) hs0 (by omega)
  by_cases hno : okb (xs (5 * t + 1)) 32 ∧ okb (xs (5 * t + 2)) 5 ∧ okb (xs (5 * t + 3)) 32 ∧ okb (xs (5 * t + 4)) 32
  · obtain ⟨k1, k2, k3, k4⟩ := hno
    obtain ⟨i1, h1, e1⟩ := okb_of (n := 32) k1 (by decide)
    obtain ⟨i2, h2, e2⟩ := okb_of (n := 5) k2 (by decide)
    obtain ⟨i3, h3, e3⟩ := okb_of (n := 32) k3 (by decide)
    obtain ⟨i4, h4, e4⟩ := okb_of (n := 32) k4 (by decide)
    obtain ⟨N', E', r, hres⟩ := ex3 (j_joined i2 (j_makeRoom N 1530) (j_forget E) (V (cl i3)) (V (cl i4)))
    obtain ⟨hin2, h00, hrm, hch⟩ := q6 t N E V F i1 i2 i3 i4 N' E' r hin (by omega) h1 h2 h3 h4 hres
    have hs2 := (q1 _ _ _ _ _ hin2).1
    have e00 : rmN (j_makeRoom N 1530) = rmN (j_put N' V (nI i1) r) := rm_e (by rw [put_00, h00])
    have hle : rmN N ≤ rmN (j_put N' V (nI i1) r) := by rw [rm_e (put_00 _ _ _ _)]; exact hrm
    obtain ⟨hc1, hc2⟩ := CC_s (t := t) hs0 hs2 hle e00
    obtain ⟨hb1, hb2⟩ := CC_b (t := t + 1) hs2 (by omega)
    have hq : (if r = V (cl i1) then 0 else 1 : Int32) = zb (dif (F i1) (fun w => jn i2 (F i3 w) (F i4 w)) 4096) := zb_ch hch
    refine lv_aload_n hx hb d_L_law_311 rfl (lv_at hl 2 rfl) ?_
    refine lv_aload_n hx hb d_L_law_312 rfl (lv_at hl 1 rfl) ?_
    refine lv_iload hx hb d_L_law_313 (lv_at hl 0 rfl) ?_
    refine lv_iconst (v := 1) hx hb d_L_law_315 (by decide) ?_
    refine lv_iadd hx hb d_L_law_316 ?_
    rw [show nI (5 * t) + (1 : Int32) = nI (5 * t + 1) from nI_add _ 1]
    refine va_sld hx hb hX hbl hbA hS (vp_in_nI (by omega) (by omega)) d_L_law_317 ?_
    rw [nI_clamp (n := 5 * t + 1) (by omega)]
    rw [e1]
    refine lv_aload_n hx hb d_L_law_318 rfl (lv_at hl 1 rfl) ?_
    refine lv_iload hx hb d_L_law_319 (lv_at hl 0 rfl) ?_
    refine lv_iconst (v := 2) hx hb d_L_law_321 (by decide) ?_
    refine lv_iadd hx hb d_L_law_322 ?_
    rw [show nI (5 * t) + (2 : Int32) = nI (5 * t + 2) from nI_add _ 2]
    refine va_sld hx hb hX hbl hbA hS (vp_in_nI (by omega) (by omega)) d_L_law_323 ?_
    rw [nI_clamp (n := 5 * t + 2) (by omega)]
    rw [e2]
    refine lv_aload_n hx hb d_L_law_324 rfl (lv_at hl 1 rfl) ?_
    refine lv_iload hx hb d_L_law_325 (lv_at hl 0 rfl) ?_
    refine lv_iconst (v := 3) hx hb d_L_law_327 (by decide) ?_
    refine lv_iadd hx hb d_L_law_328 ?_
    rw [show nI (5 * t) + (3 : Int32) = nI (5 * t + 3) from nI_add _ 3]
    refine va_sld hx hb hX hbl hbA hS (vp_in_nI (by omega) (by omega)) d_L_law_329 ?_
    rw [nI_clamp (n := 5 * t + 3) (by omega)]
    rw [e3]
    refine lv_aload_n hx hb d_L_law_330 rfl (lv_at hl 1 rfl) ?_
    refine lv_iload hx hb d_L_law_331 (lv_at hl 0 rfl) ?_
    refine lv_iconst (v := 4) hx hb d_L_law_333 (by decide) ?_
    refine lv_iadd hx hb d_L_law_334 ?_
    rw [show nI (5 * t) + (4 : Int32) = nI (5 * t + 4) from nI_add _ 4]
    refine va_sld hx hb hX hbl hbA hS (vp_in_nI (by omega) (by omega)) d_L_law_335 ?_
    rw [nI_clamp (n := 5 * t + 4) (by omega)]
    rw [e4]
    refine lv_aload_n hx hb d_L_law_336 rfl (lv_at hl 4 rfl) ?_
    refine kL (PX := fun _ => True) (As := [.ref (z 0), .int (nI i1), .int (nI i2), .int (nI i3), .int (nI i4), .ref o0]) (rest := []) ⟨hx, hb, hml, hown, hts⟩ (cL_join l dC dI cI cJ z a bb N E V o0 f _ (nI i1) (nI i2) (nI i3) (nI i4) (fun x u h => h.1) (c_S_join l dC dI cI z a bb N E V _ (nI i1) (nI i2) (nI i3) (nI i4) (okb_n (n := 32) h1 (by decide)) (okb_n (n := 5) h2 (by decide)) (okb_n (n := 32) h3 (by decide)) (okb_n (n := 32) h4 (by decide)) R0 hR hR1 hR2 hv i2 h2 rfl hres)) (vx_cwSW 6 hts (gS kml_L_73 kst_L_join kin_L kcw_L_join) rfl rfl rfl (by decide +kernel) ⟨by show 47 + 1 ≤ 2048; omega, by show 8 + (7 + 11) + 2700 ≤ 84000; omega⟩) (fun _ _ _ => trivial) (fun _ _ _ _ _ => trivial) hP hK hD hS hA rfl hl.1 rfl (Nat.le_of_ble_eq_true rfl) d_L_law_337 ⟨by show CC t N + _ ≤ 601024; omega, by show SS t N + _ ≤ 7293034; omega⟩ (fun r9 a f H locs hw hP hD hS => ?_)
    refine W.widen (k := CC (t + 1) (j_put N' V (nI i1) r)) (n := SS (t + 1) (j_put N' V (nI i1) r)) hc1 hc2 ?_
    obtain ⟨hw, hf0⟩ := hw
    have hf0 : f 0 = _ := hf0
    have hw : r9 = 0 := hw
    subst hw
    refine lv_istore (lv' := [(5, .int 0), (4, .int (nI (5 * t))), (0, .ref b), (1, .ref (z 0)), (2, .ref (y 0)), (3, .ref o0)]) hx hb d_L_law_340 hl (by decide) rfl (fun ls hl => ?_)
    refine lv_aload_n hx hb d_L_law_342 rfl (lv_at hl 4 rfl) ?_
    refine lv_aload_n hx hb d_L_law_343 rfl (lv_at hl 2 rfl) ?_
    refine lv_iload hx hb d_L_law_344 (lv_at hl 1 rfl) ?_
    refine lv_iconst (v := 1) hx hb d_L_law_346 (by decide) ?_
    refine lv_iadd hx hb d_L_law_347 ?_
    rw [show nI (5 * t) + (1 : Int32) = nI (5 * t + 1) from nI_add _ 1]
    refine va_sld hx hb hX hbl hbA hS (vp_in_nI (by omega) (by omega)) d_L_law_348 ?_
    rw [nI_clamp (n := 5 * t + 1) (by omega)]
    rw [e1]
    refine lv_aload_n hx hb d_L_law_349 rfl (lv_at hl 2 rfl) ?_
    refine lv_iload hx hb d_L_law_350 (lv_at hl 1 rfl) ?_
    refine lv_iconst (v := 2) hx hb d_L_law_352 (by decide) ?_
    refine lv_iadd hx hb d_L_law_353 ?_
    rw [show nI (5 * t) + (2 : Int32) = nI (5 * t + 2) from nI_add _ 2]
    refine va_sld hx hb hX hbl hbA hS (vp_in_nI (by omega) (by omega)) d_L_law_354 ?_
    rw [nI_clamp (n := 5 * t + 2) (by omega)]
    rw [e2]
    refine lv_aload_n hx hb d_L_law_355 rfl (lv_at hl 2 rfl) ?_
    refine lv_iload hx hb d_L_law_356 (lv_at hl 1 rfl) ?_
    refine lv_iconst (v := 3) hx hb d_L_law_358 (by decide) ?_
    refine lv_iadd hx hb d_L_law_359 ?_
    rw [show nI (5 * t) + (3 : Int32) = nI (5 * t + 3) from nI_add _ 3]
    refine va_sld hx hb hX hbl hbA hS (vp_in_nI (by omega) (by omega)) d_L_law_360 ?_
    rw [nI_clamp (n := 5 * t + 3) (by omega)]
    rw [e3]
    refine lv_aload_n hx hb d_L_law_361 rfl (lv_at hl 2 rfl) ?_
    refine lv_iload hx hb d_L_law_362 (lv_at hl 1 rfl) ?_
    refine lv_iconst (v := 4) hx hb d_L_law_364 (by decide) ?_
    refine lv_iadd hx hb d_L_law_365 ?_
    rw [show nI (5 * t) + (4 : Int32) = nI (5 * t + 4) from nI_add _ 4]
    refine va_sld hx hb hX hbl hbA hS (vp_in_nI (by omega) (by omega)) d_L_law_366 ?_
    rw [nI_clamp (n := 5 * t + 4) (by omega)]
    rw [e4]
    refine kDi (As := [.int (nI i1), .int (nI i2), .int (nI i3), .int (nI i4)]) (rest := []) ⟨hx, hb, hml, hown, hts⟩ (c_R_join l dC dI cZ y fa F g h _ i1 i2 i3 i4 h1 h2 h3 h4) (cwV 4 hts (gV kml_L_75 kim_R_join ksl_R_join kin_R kcd_R_join) rfl rfl rfl (by decide +kernel) ⟨by show 2 + 1 ≤ 2048; omega, by show 8 + (8 + 11) + 60 ≤ 84000; omega⟩) hP hK hD hS hA rfl hl.1 rfl (Nat.le_of_ble_eq_true rfl) d_L_law_367 ⟨by show CC (t + 1) _ + 0 ≤ 601024; omega, by show SS (t + 1) _ + 0 ≤ 7293034; omega⟩ (fun g h H locs hP hD hS => ?_)
    refine lv_istore (lv' := [(6, .int (zb (dif (F i1) (fun w => jn i2 (F i3 w) (F i4 w)) 4096))), (5, .int 0), (4, .int (nI (5 * t))), (0, .ref b), (1, .ref (z 0)), (2, .ref (y 0)), (3, .ref o0)]) hx hb d_L_law_370 hl (by decide) rfl (fun ls hl => ?_)
    refine lv_aload_n hx hb d_L_law_372 rfl (lv_at hl 5 rfl) ?_
    refine kDR (As := []) (rest := []) ⟨hx, hb, hml, hown, hts⟩ (c_R_thrown l dC dI cZ y 0 (fp F i1 4096 (fun w => jn i2 (F i3 w) (F i4 w))) g h) (cwV 0 hts (gV kml_L_61 kim_R_thrown ksl_R_thrown kin_R kcd_R_thrown) rfl rfl rfl (by decide +kernel) ⟨by show 0 + 1 ≤ 2048; omega, by show 8 + (1 + 11) + 0 ≤ 84000; omega⟩) hP hK rfl hl.1 rfl (Nat.le_of_ble_eq_true rfl) d_L_law_373 ⟨by show CC (t + 1) _ ≤ 601024; omega, by show SS (t + 1) _ ≤ 7293034; omega⟩ ?_
    refine lv_iload hx hb d_L_law_376 (lv_at hl 1 rfl) ?_
    refine lv_icmp_eq (tgt := 383) hx hb d_L_law_378 (by decide) (fun c378 => ?_) (fun c378 => ?_)
    · refine lv_iload hx hb d_L_law_383 (lv_at hl 1 rfl) ?_
      refine lv_if_ne (tgt := 407) hx hb d_L_law_385 (by decide) (fun c385 => ?_) (fun c385 => ?_)
      · exact absurd (by decide) c385
      · refine lv_aload_n hx hb d_L_law_388 rfl (lv_at hl 6 rfl) ?_
        refine lv_iconst (v := 0) hx hb d_L_law_389 (by decide) ?_
        refine va_lald hx hb hK hP 12 1 rfl rfl (vp_in_nI (show 0 < 1 by decide) (by decide)) d_L_law_390 ?_
        refine lv_iload hx hb d_L_law_391 (lv_at hl 0 rfl) ?_
        refine lv_if_eq (tgt := 400) hx hb d_L_law_393 (by decide) (fun c393 => ?_) (fun c393 => ?_)
        · refine lv_lconst (v := 0) hx hb d_L_law_400 (by decide) ?_
          refine W.lcmp hx hb d_L_law_401 ?_
          refine lv_if_eq (tgt := 407) hx hb d_L_law_402 (by decide) (fun c402 => ?_) (fun c402 => ?_)
          · refine lv_goto (tgt := 915) hx hb d_L_law_407 (by decide) ?_
            refine lv_iinc (v := ((nI (5 * t)) + 5)) (lv' := [(4, .int ((nI (5 * t)) + 5)), (6, .int (zb (dif (F i1) (fun w => jn i2 (F i3 w) (F i4 w)) 4096))), (5, .int 0), (0, .ref b), (1, .ref (z 0)), (2, .ref (y 0)), (3, .ref o0)]) hx hb d_L_law_915 hl (k := 2) rfl rfl (by decide) rfl (fun ls hl => ?_)
            refine lv_goto (tgt := 23) hx hb d_L_law_918 (by decide) ?_
            rw [show nI (5 * t) + (5 : Int32) = nI (5 * (t + 1)) from by rw [show (5 : Int32) = nI 5 from rfl, nI_add]; rfl] at hl
            exact ih z a bb y (j_put N' V (nI i1) r) E' (upd V (cl i1) r) o0 f 0 (fp F i1 4096 (fun w => jn i2 (F i3 w) (F i4 w))) g h H locs hin2 hP hD hS ls (lv_sub hl [0, 3, 4, 5, 6] rfl)
          · exact absurd (lc_eq (show f 0 = (0 : Int64) from by rw [hf0, hq]; exact if_pos c393)) c402
        · refine lv_lconst (v := 1) hx hb d_L_law_396 (by decide) ?_
          refine lv_goto (tgt := 401) hx hb d_L_law_397 (by decide) ?_
          refine W.lcmp hx hb d_L_law_401 ?_
          refine lv_if_eq (tgt := 407) hx hb d_L_law_402 (by decide) (fun c402 => ?_) (fun c402 => ?_)
          · refine lv_goto (tgt := 915) hx hb d_L_law_407 (by decide) ?_
            refine lv_iinc (v := ((nI (5 * t)) + 5)) (lv' := [(4, .int ((nI (5 * t)) + 5)), (6, .int (zb (dif (F i1) (fun w => jn i2 (F i3 w) (F i4 w)) 4096))), (5, .int 0), (0, .ref b), (1, .ref (z 0)), (2, .ref (y 0)), (3, .ref o0)]) hx hb d_L_law_915 hl (k := 2) rfl rfl (by decide) rfl (fun ls hl => ?_)
            refine lv_goto (tgt := 23) hx hb d_L_law_918 (by decide) ?_
            rw [show nI (5 * t) + (5 : Int32) = nI (5 * (t + 1)) from by rw [show (5 : Int32) = nI 5 from rfl, nI_add]; rfl] at hl
            exact ih z a bb y (j_put N' V (nI i1) r) E' (upd V (cl i1) r) o0 f 0 (fp F i1 4096 (fun w => jn i2 (F i3 w) (F i4 w))) g h H locs hin2 hP hD hS ls (lv_sub hl [0, 3, 4, 5, 6] rfl)
          · exact absurd (lc_eq (show f 0 = (1 : Int64) from by rw [hf0, hq]; exact if_neg c393)) c402
    · exact absurd (by decide) c378
  · obtain ⟨hc1, hc2⟩ := CC_x (t := t) (N := N)
    obtain ⟨hb1, hb2⟩ := hb0
    have hin2 := q2 t N E V F hin
    have hZH : xZ (fun q => s.heap.size ≤ q) s H := hZ.kept (fun q h1 h2 => hS.2.1 q h1 h2)
    have hFz := va_free (wc := lW cI cJ z a bb N E V o0 f) hD hS hA [0, 1, 2, 3, 4, 5, 6, 7, 8, 9, 10, 11, 12] rfl
    refine lv_aload_n hx hb d_L_law_311 rfl (lv_at hl 2 rfl) ?_
    refine lv_aload_n hx hb d_L_law_312 rfl (lv_at hl 1 rfl) ?_
    refine lv_iload hx hb d_L_law_313 (lv_at hl 0 rfl) ?_
    refine lv_iconst (v := 1) hx hb d_L_law_315 (by decide) ?_
    refine lv_iadd hx hb d_L_law_316 ?_
    rw [show nI (5 * t) + (1 : Int32) = nI (5 * t + 1) from nI_add _ 1]
    refine va_sld hx hb hX hbl hbA hS (vp_in_nI (by omega) (by omega)) d_L_law_317 ?_
    rw [nI_clamp (n := 5 * t + 1) (by omega)]
    refine lv_aload_n hx hb d_L_law_318 rfl (lv_at hl 1 rfl) ?_
    refine lv_iload hx hb d_L_law_319 (lv_at hl 0 rfl) ?_
    refine lv_iconst (v := 2) hx hb d_L_law_321 (by decide) ?_
    refine lv_iadd hx hb d_L_law_322 ?_
    rw [show nI (5 * t) + (2 : Int32) = nI (5 * t + 2) from nI_add _ 2]
    refine va_sld hx hb hX hbl hbA hS (vp_in_nI (by omega) (by omega)) d_L_law_323 ?_
    rw [nI_clamp (n := 5 * t + 2) (by omega)]
    refine lv_aload_n hx hb d_L_law_324 rfl (lv_at hl 1 rfl) ?_
    refine lv_iload hx hb d_L_law_325 (lv_at hl 0 rfl) ?_
    refine lv_iconst (v := 3) hx hb d_L_law_327 (by decide) ?_
    refine lv_iadd hx hb d_L_law_328 ?_
    rw [show nI (5 * t) + (3 : Int32) = nI (5 * t + 3) from nI_add _ 3]
    refine va_sld hx hb hX hbl hbA hS (vp_in_nI (by omega) (by omega)) d_L_law_329 ?_
    rw [nI_clamp (n := 5 * t + 3) (by omega)]
    refine lv_aload_n hx hb d_L_law_330 rfl (lv_at hl 1 rfl) ?_
    refine lv_iload hx hb d_L_law_331 (lv_at hl 0 rfl) ?_
    refine lv_iconst (v := 4) hx hb d_L_law_333 (by decide) ?_
    refine lv_iadd hx hb d_L_law_334 ?_
    rw [show nI (5 * t) + (4 : Int32) = nI (5 * t + 4) from nI_add _ 4]
    refine va_sld hx hb hX hbl hbA hS (vp_in_nI (by omega) (by omega)) d_L_law_335 ?_
    rw [nI_clamp (n := 5 * t + 4) (by omega)]
    refine lv_aload_n hx hb d_L_law_336 rfl (lv_at hl 4 rfl) ?_
    refine kL (PX := fun U => xZ (va_A (lW cI cJ z a bb N E V o0 f) H.size) U U.heap) (As := [.ref (z 0), .int (xs (5 * t + 1)), .int (xs (5 * t + 2)), .int (xs (5 * t + 3)), .int (xs (5 * t + 4)), .ref o0]) (rest := []) ⟨hx, hb, hml, hown, hts⟩ (fL_join l dC dI cI cJ z a bb N E V o0 f _ _ _ _ _ hlt hno) (vx_cwSW 6 hts (gS kml_L_73 kst_L_join kin_L kcw_L_join) rfl rfl rfl (by decide +kernel) ⟨by show 47 + 1 ≤ 2048; omega, by show 8 + (7 + 11) + 2700 ≤ 84000; omega⟩) (fun U hU hWu => by show xZ _ U U.heap; rw [hU]; exact (hZH.warm hWu).narrow hFz) (fun U g mk q hq => xZ.same (s := U) (U := U.calling g mk q) (H := U.heap) rfl hq) hP hK hD hS hA rfl hl.1 rfl (Nat.le_of_ble_eq_true rfl) d_L_law_337 ⟨by show CC t N + _ ≤ 601024; omega, by show SS t N + _ ≤ 7293034; omega⟩ (fun r9 a f H locs hw hP hD hS => ?_)
    refine W.widen (k := CC (t + 1) N) (n := SS (t + 1) N) hc1 hc2 ?_
    have hw : r9 = 1 := hw
    subst hw
    refine lv_istore (lv' := [(5, .int 1), (4, .int (nI (5 * t))), (0, .ref b), (1, .ref (z 0)), (2, .ref (y 0)), (3, .ref o0)]) hx hb d_L_law_340 hl (by decide) rfl (fun ls hl => ?_)
    refine lv_aload_n hx hb d_L_law_342 rfl (lv_at hl 4 rfl) ?_
    refine lv_aload_n hx hb d_L_law_343 rfl (lv_at hl 2 rfl) ?_
    refine lv_iload hx hb d_L_law_344 (lv_at hl 1 rfl) ?_
    refine lv_iconst (v := 1) hx hb d_L_law_346 (by decide) ?_
    refine lv_iadd hx hb d_L_law_347 ?_
    rw [show nI (5 * t) + (1 : Int32) = nI (5 * t + 1) from nI_add _ 1]
    refine va_sld hx hb hX hbl hbA hS (vp_in_nI (by omega) (by omega)) d_L_law_348 ?_
    rw [nI_clamp (n := 5 * t + 1) (by omega)]
    refine lv_aload_n hx hb d_L_law_349 rfl (lv_at hl 2 rfl) ?_
    refine lv_iload hx hb d_L_law_350 (lv_at hl 1 rfl) ?_
    refine lv_iconst (v := 2) hx hb d_L_law_352 (by decide) ?_
    refine lv_iadd hx hb d_L_law_353 ?_
    rw [show nI (5 * t) + (2 : Int32) = nI (5 * t + 2) from nI_add _ 2]
    refine va_sld hx hb hX hbl hbA hS (vp_in_nI (by omega) (by omega)) d_L_law_354 ?_
    rw [nI_clamp (n := 5 * t + 2) (by omega)]
    refine lv_aload_n hx hb d_L_law_355 rfl (lv_at hl 2 rfl) ?_
    refine lv_iload hx hb d_L_law_356 (lv_at hl 1 rfl) ?_
    refine lv_iconst (v := 3) hx hb d_L_law_358 (by decide) ?_
    refine lv_iadd hx hb d_L_law_359 ?_
    rw [show nI (5 * t) + (3 : Int32) = nI (5 * t + 3) from nI_add _ 3]
    refine va_sld hx hb hX hbl hbA hS (vp_in_nI (by omega) (by omega)) d_L_law_360 ?_
    rw [nI_clamp (n := 5 * t + 3) (by omega)]
    refine lv_aload_n hx hb d_L_law_361 rfl (lv_at hl 2 rfl) ?_
    refine lv_iload hx hb d_L_law_362 (lv_at hl 1 rfl) ?_
    refine lv_iconst (v := 4) hx hb d_L_law_364 (by decide) ?_
    refine lv_iadd hx hb d_L_law_365 ?_
    rw [show nI (5 * t) + (4 : Int32) = nI (5 * t + 4) from nI_add _ 4]
    refine va_sld hx hb hX hbl hbA hS (vp_in_nI (by omega) (by omega)) d_L_law_366 ?_
    rw [nI_clamp (n := 5 * t + 4) (by omega)]
    refine kDi (As := [.int (xs (5 * t + 1)), .int (xs (5 * t + 2)), .int (xs (5 * t + 3)), .int (xs (5 * t + 4))]) (rest := []) ⟨hx, hb, hml, hown, hts⟩ (f_R_join l dC dI cZ y fa F g h _ (xs (5 * t + 1)) (xs (5 * t + 2)) (xs (5 * t + 3)) (xs (5 * t + 4)) hno) (cwV 4 hts (gV kml_L_75 kim_R_join ksl_R_join kin_R kcd_R_join) rfl rfl rfl (by decide +kernel) ⟨by show 2 + 1 ≤ 2048; omega, by show 8 + (8 + 11) + 70 ≤ 84000; omega⟩) hP hK hD hS hA rfl hl.1 rfl (Nat.le_of_ble_eq_true rfl) d_L_law_367 ⟨by show CC (t + 1) _ + 0 ≤ 601024; omega, by show SS (t + 1) _ + 0 ≤ 7293034; omega⟩ (fun g h H locs hP hD hS => ?_)
    refine lv_istore (lv' := [(6, .int 0), (5, .int 1), (4, .int (nI (5 * t))), (0, .ref b), (1, .ref (z 0)), (2, .ref (y 0)), (3, .ref o0)]) hx hb d_L_law_370 hl (by decide) rfl (fun ls hl => ?_)
    refine lv_aload_n hx hb d_L_law_372 rfl (lv_at hl 5 rfl) ?_
    refine kDR (As := []) (rest := []) ⟨hx, hb, hml, hown, hts⟩ (c_R_thrown l dC dI cZ y 1 F g h) (cwV 0 hts (gV kml_L_61 kim_R_thrown ksl_R_thrown kin_R kcd_R_thrown) rfl rfl rfl (by decide +kernel) ⟨by show 0 + 1 ≤ 2048; omega, by show 8 + (1 + 11) + 0 ≤ 84000; omega⟩) hP hK rfl hl.1 rfl (Nat.le_of_ble_eq_true rfl) d_L_law_373 ⟨by show CC (t + 1) _ ≤ 601024; omega, by show SS (t + 1) _ ≤ 7293034; omega⟩ ?_
    refine lv_iload hx hb d_L_law_376 (lv_at hl 1 rfl) ?_
    refine lv_icmp_eq (tgt := 383) hx hb d_L_law_378 (by decide) (fun c378 => ?_) (fun c378 => ?_)
    · refine lv_iload hx hb d_L_law_383 (lv_at hl 1 rfl) ?_
      refine lv_if_ne (tgt := 407) hx hb d_L_law_385 (by decide) (fun c385 => ?_) (fun c385 => ?_)
      · refine lv_goto (tgt := 915) hx hb d_L_law_407 (by decide) ?_
        refine lv_iinc (v := ((nI (5 * t)) + 5)) (lv' := [(4, .int ((nI (5 * t)) + 5)), (6, .int 0), (5, .int 1), (0, .ref b), (1, .ref (z 0)), (2, .ref (y 0)), (3, .ref o0)]) hx hb d_L_law_915 hl (k := 2) rfl rfl (by decide) rfl (fun ls hl => ?_)
        refine lv_goto (tgt := 23) hx hb d_L_law_918 (by decide) ?_
        rw [show nI (5 * t) + (5 : Int32) = nI (5 * (t + 1)) from by rw [show (5 : Int32) = nI 5 from rfl, nI_add]; rfl] at hl
        exact ih z a bb y N E V o0 f 1 F g h H locs hin2 hP hD hS ls (lv_sub hl [0, 3, 4, 5, 6] rfl)
      · exact absurd c385 (by decide)
    · exact absurd (by decide) c378

set_option maxHeartbeats 8000000 in
set_option maxRecDepth 100000 in
theorem law_some {I : Nat → Mm → Mm → (Nat → Int32) → (Nat → Nat → Bool) → Prop} (hI : LI I) {p : Program} {l : Launch} {e : Env} {s : State} {m : MethodId} {below : List Frame} {meth : Method} {c : Code} {dC : Nat → ClassId} {dI : Nat → Nat → Nat} {cI cJ cZ : ClassId} {b L t : Nat} {xs : Nat → Int32} (hlt : l.stackTraces = false) (hL : L ≤ 2560) (C0 : lw_At p s m meth c b L xs) (hNc : va_Nc xUO xIA s) (hZ : xZ (fun q => s.heap.size ≤ q) s s.heap) (hK : va_K (dC, dI) cls0 [(cI, .int), (cJ, .long), (cZ, .boolean)] s) (ht5 : 5 * t + 5 ≤ L) (ih : LH I p l e s m below meth c dC dI cI cJ cZ b (t + 1)) (z a bb y : Nat → Nat) (N E : Mm) (V : Nat → Int32) (o0 : Nat) (f : Nat → Int64) (fa : Int32) (F : Nat → Nat → Bool) (g h : Nat → Bool) (H : Heap) (locs : List Loc) (hin : I t N E V F) (hP : va_P (dC, dI) cls0 (kW cI cJ cZ z a bb y N E V o0 f fa F g h) H) (hD : va_D (fun q : Nat => s.heap.size ≤ q) (kW cI cJ cZ z a bb y N E V o0 f fa F g h)) (hS : va_S (fun q : Nat => s.heap.size ≤ q) s.heap H locs) (ls : Array Slot) (hl : lv_has ls 7 [(4, .int (nI (5 * t))), (0, .ref b), (1, .ref (z 0)), (2, .ref (y 0)), (3, .ref o0)]) : W p l e room_1 s m #[Value.ref b] below meth c H locs (CC t N) (SS t N) (lw_Z below #[Value.ref b] s) (F0 m 410 ls []) := by
  obtain ⟨q0, q1, q2, q3, q4, q5, q6, q7, q8, q9, q10, q11, q12, q13, q14⟩ := hI
  obtain ⟨hx, hb, hr, hml, hown, hts0, hX, hbl, hlocks, hgv⟩ := C0
  have hown : s.vm.findClass R_L = some m.cls := hown
  have hts : ∀ w ∈ W0, w.before _ s = true := fun w h => hts0 w (W0_tbl w h)
  have hA : ∀ q : Nat, s.heap.size ≤ q → (fun q : Nat => s.heap.size ≤ q) q := fun _ h => h
  have hbA : ¬ (fun q : Nat => s.heap.size ≤ q) b := Nat.not_le.mpr hbl
  obtain ⟨hs0, hv⟩ := q1 t N E V F hin
  obtain ⟨⟨R0, hR, hR1, hR2⟩, -, -⟩ := id hs0
  have hb0 := CC_b (t := t + 1) hs0 (by omega)
  by_cases hno : okb (xs (5 * t + 1)) 32 ∧ okb (xs (5 * t + 2)) 32 ∧ okb (xs (5 * t + 3)) 32 ∧ okb (xs (5 * t + 4)) 4096
  · obtain ⟨k1, k2, k3, k4⟩ := hno
    obtain ⟨i1, h1, e1⟩ := okb_of (n := 32) k1 (by decide)
    obtain ⟨i2, h2, e2⟩ := okb_of (n := 32) k2 (by decide)
    obtain ⟨i3, h3, e3⟩ := okb_of (n := 32) k3 (by decide)
    obtain ⟨i4, h4, e4⟩ := okb_of (n := 4096) k4 (by decide)
    obtain ⟨N1, E1, r1, hres1⟩ := ex3 (j_pick 12 (j_makeRoom N 3323) (j_forget E) (V (cl i2)) (V (cl i3)) 0)
    obtain ⟨N', E', r, hres⟩ := ex3 (j_freed (nI i4) 12 N1 E1 r1)
    obtain ⟨hin2, h00, hrm, hch⟩ := q7 t N E V F i1 i2 i3 i4 N1 E1 r1 N' E' r hin (by omega) h1 h2 h3 h4 hres1 hres
    have hs2 := (q1 _ _ _ _ _ hin2).1
    have e00 : rmN (j_makeRoom N 3323) = rmN (j_put N' V (nI i1) r) := rm_e (by rw [put_00, h00])
    have hle : rmN N ≤ rmN (j_put N' V (nI i1) r) := by rw [rm_e (put_00 _ _ _ _)]; exact hrm
    obtain ⟨hc1, hc2⟩ := CC_s (t := t) hs0 hs2 hle e00
    obtain ⟨hb1, hb2⟩ := CC_b (t := t + 1) hs2 (by omega)
    have hq : (if r = V (cl i1) then 0 else 1 : Int32) = zb (dif (F i1) (fun w => sm (4095 ^^^ i4) (fun w => F i2 w && F i3 w) 4096 (w &&& (4095 ^^^ i4))) 4096) := zb_ch hch
    refine lv_aload_n hx hb d_L_law_410 rfl (lv_at hl 2 rfl) ?_
    refine lv_aload_n hx hb d_L_law_411 rfl (lv_at hl 1 rfl) ?_
    refine lv_iload hx hb d_L_law_412 (lv_at hl 0 rfl) ?_
    refine lv_iconst (v := 1) hx hb d_L_law_414 (by decide) ?_
    refine lv_iadd hx hb d_L_law_415 ?_
    rw [show nI (5 * t) + (1 : Int32) = nI (5 * t + 1) from nI_add _ 1]
    refine va_sld hx hb hX hbl hbA hS (vp_in_nI (by omega) (by omega)) d_L_law_416 ?_
    rw [nI_clamp (n := 5 * t + 1) (by omega)]
    rw [e1]
    refine lv_aload_n hx hb d_L_law_417 rfl (lv_at hl 1 rfl) ?_
    refine lv_iload hx hb d_L_law_418 (lv_at hl 0 rfl) ?_
    refine lv_iconst (v := 2) hx hb d_L_law_420 (by decide) ?_
    refine lv_iadd hx hb d_L_law_421 ?_
    rw [show nI (5 * t) + (2 : Int32) = nI (5 * t + 2) from nI_add _ 2]
    refine va_sld hx hb hX hbl hbA hS (vp_in_nI (by omega) (by omega)) d_L_law_422 ?_
    rw [nI_clamp (n := 5 * t + 2) (by omega)]
    rw [e2]
    refine lv_aload_n hx hb d_L_law_423 rfl (lv_at hl 1 rfl) ?_
    refine lv_iload hx hb d_L_law_424 (lv_at hl 0 rfl) ?_
    refine lv_iconst (v := 3) hx hb d_L_law_426 (by decide) ?_
    refine lv_iadd hx hb d_L_law_427 ?_
    rw [show nI (5 * t) + (3 : Int32) = nI (5 * t + 3) from nI_add _ 3]
    refine va_sld hx hb hX hbl hbA hS (vp_in_nI (by omega) (by omega)) d_L_law_428 ?_
    rw [nI_clamp (n := 5 * t + 3) (by omega)]
    rw [e3]
    refine lv_aload_n hx hb d_L_law_429 rfl (lv_at hl 1 rfl) ?_
    refine lv_iload hx hb d_L_law_430 (lv_at hl 0 rfl) ?_
    refine lv_iconst (v := 4) hx hb d_L_law_432 (by decide) ?_
    refine lv_iadd hx hb d_L_law_433 ?_
    rw [show nI (5 * t) + (4 : Int32) = nI (5 * t + 4) from nI_add _ 4]
    refine va_sld hx hb hX hbl hbA hS (vp_in_nI (by omega) (by omega)) d_L_law_434 ?_
    rw [nI_clamp (n := 5 * t + 4) (by omega)]
    rw [e4]
    refine lv_aload_n hx hb d_L_law_435 rfl (lv_at hl 4 rfl) ?_
    refine kL (PX := fun _ => True) (As := [.ref (z 0), .int (nI i1), .int (nI i2), .int (nI i3), .int (nI i4), .ref o0]) (rest := []) ⟨hx, hb, hml, hown, hts⟩ (cL_some l dC dI cI cJ z a bb N E V o0 f _ (nI i1) (nI i2) (nI i3) (nI i4) (fun x u h => h.1) (c_S_some l dC dI cI z a bb N E V _ (nI i1) (nI i2) (nI i3) (nI i4) (okb_n (n := 32) h1 (by decide)) (okb_n (n := 32) h2 (by decide)) (okb_n (n := 32) h3 (by decide)) (okb_n (n := 4096) h4 (by decide)) R0 hR hR1 hR2 hv hres1 hres)) (vx_cwSW 6 hts (gS kml_L_76 kst_L_some kin_L kcw_L_some) rfl rfl rfl (by decide +kernel) ⟨by show 47 + 1 ≤ 2048; omega, by show 8 + (7 + 11) + 2700 ≤ 84000; omega⟩) (fun _ _ _ => trivial) (fun _ _ _ _ _ => trivial) hP hK hD hS hA rfl hl.1 rfl (Nat.le_of_ble_eq_true rfl) d_L_law_436 ⟨by show CC t N + _ ≤ 601024; omega, by show SS t N + _ ≤ 7293034; omega⟩ (fun r9 a f H locs hw hP hD hS => ?_)
    refine W.widen (k := CC (t + 1) (j_put N' V (nI i1) r)) (n := SS (t + 1) (j_put N' V (nI i1) r)) hc1 hc2 ?_
    obtain ⟨hw, hf0⟩ := hw
    have hf0 : f 0 = _ := hf0
    have hw : r9 = 0 := hw
    subst hw
    refine lv_istore (lv' := [(5, .int 0), (4, .int (nI (5 * t))), (0, .ref b), (1, .ref (z 0)), (2, .ref (y 0)), (3, .ref o0)]) hx hb d_L_law_439 hl (by decide) rfl (fun ls hl => ?_)
    refine lv_aload_n hx hb d_L_law_441 rfl (lv_at hl 4 rfl) ?_
    refine lv_aload_n hx hb d_L_law_442 rfl (lv_at hl 2 rfl) ?_
    refine lv_iload hx hb d_L_law_443 (lv_at hl 1 rfl) ?_
    refine lv_iconst (v := 1) hx hb d_L_law_445 (by decide) ?_
    refine lv_iadd hx hb d_L_law_446 ?_
    rw [show nI (5 * t) + (1 : Int32) = nI (5 * t + 1) from nI_add _ 1]
    refine va_sld hx hb hX hbl hbA hS (vp_in_nI (by omega) (by omega)) d_L_law_447 ?_
    rw [nI_clamp (n := 5 * t + 1) (by omega)]
    rw [e1]
    refine lv_aload_n hx hb d_L_law_448 rfl (lv_at hl 2 rfl) ?_
    refine lv_iload hx hb d_L_law_449 (lv_at hl 1 rfl) ?_
    refine lv_iconst (v := 2) hx hb d_L_law_451 (by decide) ?_
    refine lv_iadd hx hb d_L_law_452 ?_
    rw [show nI (5 * t) + (2 : Int32) = nI (5 * t + 2) from nI_add _ 2]
    refine va_sld hx hb hX hbl hbA hS (vp_in_nI (by omega) (by omega)) d_L_law_453 ?_
    rw [nI_clamp (n := 5 * t + 2) (by omega)]
    rw [e2]
    refine lv_aload_n hx hb d_L_law_454 rfl (lv_at hl 2 rfl) ?_
    refine lv_iload hx hb d_L_law_455 (lv_at hl 1 rfl) ?_
    refine lv_iconst (v := 3) hx hb d_L_law_457 (by decide) ?_
    refine lv_iadd hx hb d_L_law_458 ?_
    rw [show nI (5 * t) + (3 : Int32) = nI (5 * t + 3) from nI_add _ 3]
    refine va_sld hx hb hX hbl hbA hS (vp_in_nI (by omega) (by omega)) d_L_law_459 ?_
    rw [nI_clamp (n := 5 * t + 3) (by omega)]
    rw [e3]
    refine lv_aload_n hx hb d_L_law_460 rfl (lv_at hl 2 rfl) ?_
    refine lv_iload hx hb d_L_law_461 (lv_at hl 1 rfl) ?_
    refine lv_iconst (v := 4) hx hb d_L_law_463 (by decide) ?_
    refine lv_iadd hx hb d_L_law_464 ?_
    rw [show nI (5 * t) + (4 : Int32) = nI (5 * t + 4) from nI_add _ 4]
    refine va_sld hx hb hX hbl hbA hS (vp_in_nI (by omega) (by omega)) d_L_law_465 ?_
    rw [nI_clamp (n := 5 * t + 4) (by omega)]
    rw [e4]
    refine kDi (As := [.int (nI i1), .int (nI i2), .int (nI i3), .int (nI i4)]) (rest := []) ⟨hx, hb, hml, hown, hts⟩ (c_R_some l dC dI cZ y fa F g h _ i1 i2 i3 i4 h1 h2 h3 h4) (cwV 4 hts (gV kml_L_78 kim_R_some ksl_R_some kin_R kcd_R_some) rfl rfl rfl (by decide +kernel) ⟨by show 2 + 1 ≤ 2048; omega, by show 8 + (6 + 11) + 60 ≤ 84000; omega⟩) hP hK hD hS hA rfl hl.1 rfl (Nat.le_of_ble_eq_true rfl) d_L_law_466 ⟨by show CC (t + 1) _ + 0 ≤ 601024; omega, by show SS (t + 1) _ + 0 ≤ 7293034; omega⟩ (fun g h H locs hP hD hS => ?_)
    refine lv_istore (lv' := [(6, .int (zb (dif (F i1) (fun w => sm (4095 ^^^ i4) (fun w => F i2 w && F i3 w) 4096 (w &&& (4095 ^^^ i4))) 4096))), (5, .int 0), (4, .int (nI (5 * t))), (0, .ref b), (1, .ref (z 0)), (2, .ref (y 0)), (3, .ref o0)]) hx hb d_L_law_469 hl (by decide) rfl (fun ls hl => ?_)
    refine lv_aload_n hx hb d_L_law_471 rfl (lv_at hl 5 rfl) ?_
    refine kDR (As := []) (rest := []) ⟨hx, hb, hml, hown, hts⟩ (c_R_thrown l dC dI cZ y 0 (fp F i1 4096 (fun w => sm (4095 ^^^ i4) (fun w => F i2 w && F i3 w) 4096 (w &&& (4095 ^^^ i4)))) g h) (cwV 0 hts (gV kml_L_61 kim_R_thrown ksl_R_thrown kin_R kcd_R_thrown) rfl rfl rfl (by decide +kernel) ⟨by show 0 + 1 ≤ 2048; omega, by show 8 + (1 + 11) + 0 ≤ 84000; omega⟩) hP hK rfl hl.1 rfl (Nat.le_of_ble_eq_true rfl) d_L_law_472 ⟨by show CC (t + 1) _ ≤ 601024; omega, by show SS (t + 1) _ ≤ 7293034; omega⟩ ?_
    refine lv_iload hx hb d_L_law_475 (lv_at hl 1 rfl) ?_
    refine lv_icmp_eq (tgt := 482) hx hb d_L_law_477 (by decide) (fun c477 => ?_) (fun c477 => ?_)
    · refine lv_iload hx hb d_L_law_482 (lv_at hl 1 rfl) ?_
      refine lv_if_ne (tgt := 506) hx hb d_L_law_484 (by decide) (fun c484 => ?_) (fun c484 => ?_)
      · exact absurd (by decide) c484
      · refine lv_aload_n hx hb d_L_law_487 rfl (lv_at hl 6 rfl) ?_
        refine lv_iconst (v := 0) hx hb d_L_law_488 (by decide) ?_
        refine va_lald hx hb hK hP 12 1 rfl rfl (vp_in_nI (show 0 < 1 by decide) (by decide)) d_L_law_489 ?_
        refine lv_iload hx hb d_L_law_490 (lv_at hl 0 rfl) ?_
        refine lv_if_eq (tgt := 499) hx hb d_L_law_492 (by decide) (fun c492 => ?_) (fun c492 => ?_)
        · refine lv_lconst (v := 0) hx hb d_L_law_499 (by decide) ?_
          refine W.lcmp hx hb d_L_law_500 ?_
          refine lv_if_eq (tgt := 506) hx hb d_L_law_501 (by decide) (fun c501 => ?_) (fun c501 => ?_)
          · refine lv_goto (tgt := 915) hx hb d_L_law_506 (by decide) ?_
            refine lv_iinc (v := ((nI (5 * t)) + 5)) (lv' := [(4, .int ((nI (5 * t)) + 5)), (6, .int (zb (dif (F i1) (fun w => sm (4095 ^^^ i4) (fun w => F i2 w && F i3 w) 4096 (w &&& (4095 ^^^ i4))) 4096))), (5, .int 0), (0, .ref b), (1, .ref (z 0)), (2, .ref (y 0)), (3, .ref o0)]) hx hb d_L_law_915 hl (k := 2) rfl rfl (by decide) rfl (fun ls hl => ?_)
            refine lv_goto (tgt := 23) hx hb d_L_law_918 (by decide) ?_
            rw [show nI (5 * t) + (5 : Int32) = nI (5 * (t + 1)) from by rw [show (5 : Int32) = nI 5 from rfl, nI_add]; rfl] at hl
            exact ih z a bb y (j_put N' V (nI i1) r) E' (upd V (cl i1) r) o0 f 0 (fp F i1 4096 (fun w => sm (4095 ^^^ i4) (fun w => F i2 w && F i3 w) 4096 (w &&& (4095 ^^^ i4)))) g h H locs hin2 hP hD hS ls (lv_sub hl [0, 3, 4, 5, 6] rfl)
          · exact absurd (lc_eq (show f 0 = (0 : Int64) from by rw [hf0, hq]; exact if_pos c492)) c501
        · refine lv_lconst (v := 1) hx hb d_L_law_495 (by decide) ?_
          refine lv_goto (tgt := 500) hx hb d_L_law_496 (by decide) ?_
          refine W.lcmp hx hb d_L_law_500 ?_
          refine lv_if_eq (tgt := 506) hx hb d_L_law_501 (by decide) (fun c501 => ?_) (fun c501 => ?_)
          · refine lv_goto (tgt := 915) hx hb d_L_law_506 (by decide) ?_
            refine lv_iinc (v := ((nI (5 * t)) + 5)) (lv' := [(4, .int ((nI (5 * t)) + 5)), (6, .int (zb (dif (F i1) (fun w => sm (4095 ^^^ i4) (fun w => F i2 w && F i3 w) 4096 (w &&& (4095 ^^^ i4))) 4096))), (5, .int 0), (0, .ref b), (1, .ref (z 0)), (2, .ref (y 0)), (3, .ref o0)]) hx hb d_L_law_915 hl (k := 2) rfl rfl (by decide) rfl (fun ls hl => ?_)
            refine lv_goto (tgt := 23) hx hb d_L_law_918 (by decide) ?_
            rw [show nI (5 * t) + (5 : Int32) = nI (5 * (t + 1)) from by rw [show (5 : Int32) = nI 5 from rfl, nI_add]; rfl] at hl
            exact ih z a bb y (j_put N' V (nI i1) r) E' (upd V (cl i1) r) o0 f 0 (fp F i1 4096 (fun w => sm (4095 ^^^ i4) (fun w => F i2 w && F i3 w) 4096 (w &&& (4095 ^^^ i4)))) g h H locs hin2 hP hD hS ls (lv_sub hl [0, 3, 4, 5, 6] rfl)
          · exact absurd (lc_eq (show f 0 = (1 : Int64) from by rw [hf0, hq]; exact if_neg c492)) c501
    · exact absurd (by decide) c477
  · obtain ⟨hc1, hc2⟩ := CC_x (t := t) (N := N)
    obtain ⟨hb1, hb2⟩ := hb0
    have hin2 := q2 t N E V F hin
    have hZH : xZ (fun q => s.heap.size ≤ q) s H := hZ.kept (fun q h1 h2 => hS.2.1 q h1 h2)
    have hFz := va_free (wc := lW cI cJ z a bb N E V o0 f) hD hS hA [0, 1, 2, 3, 4, 5, 6, 7, 8, 9, 10, 11, 12] rfl
    refine lv_aload_n hx hb d_L_law_410 rfl (lv_at hl 2 rfl) ?_
    refine lv_aload_n hx hb d_L_law_411 rfl (lv_at hl 1 rfl) ?_
    refine lv_iload hx hb d_L_law_412 (lv_at hl 0 rfl) ?_
    refine lv_iconst (v := 1) hx hb d_L_law_414 (by decide) ?_
    refine lv_iadd hx hb d_L_law_415 ?_
    rw [show nI (5 * t) + (1 : Int32) = nI (5 * t + 1) from nI_add _ 1]
    refine va_sld hx hb hX hbl hbA hS (vp_in_nI (by omega) (by omega)) d_L_law_416 ?_
    rw [nI_clamp (n := 5 * t + 1) (by omega)]
    refine lv_aload_n hx hb d_L_law_417 rfl (lv_at hl 1 rfl) ?_
    refine lv_iload hx hb d_L_law_418 (lv_at hl 0 rfl) ?_
    refine lv_iconst (v := 2) hx hb d_L_law_420 (by decide) ?_
    refine lv_iadd hx hb d_L_law_421 ?_
    rw [show nI (5 * t) + (2 : Int32) = nI (5 * t + 2) from nI_add _ 2]
    refine va_sld hx hb hX hbl hbA hS (vp_in_nI (by omega) (by omega)) d_L_law_422 ?_
    rw [nI_clamp (n := 5 * t + 2) (by omega)]
    refine lv_aload_n hx hb d_L_law_423 rfl (lv_at hl 1 rfl) ?_
    refine lv_iload hx hb d_L_law_424 (lv_at hl 0 rfl) ?_
    refine lv_iconst (v := 3) hx hb d_L_law_426 (by decide) ?_
    refine lv_iadd hx hb d_L_law_427 ?_
    rw [show nI (5 * t) + (3 : Int32) = nI (5 * t + 3) from nI_add _ 3]
    refine va_sld hx hb hX hbl hbA hS (vp_in_nI (by omega) (by omega)) d_L_law_428 ?_
    rw [nI_clamp (n := 5 * t + 3) (by omega)]
    refine lv_aload_n hx hb d_L_law_429 rfl (lv_at hl 1 rfl) ?_
    refine lv_iload hx hb d_L_law_430 (lv_at hl 0 rfl) ?_
    refine lv_iconst (v := 4) hx hb d_L_law_432 (by decide) ?_
    refine lv_iadd hx hb d_L_law_433 ?_
    rw [show nI (5 * t) + (4 : Int32) = nI (5 * t + 4) from nI_add _ 4]
    refine va_sld hx hb hX hbl hbA hS (vp_in_nI (by omega) (by omega)) d_L_law_434 ?_
    rw [nI_clamp (n := 5 * t + 4) (by omega)]
    refine lv_aload_n hx hb d_L_law_435 rfl (lv_at hl 4 rfl) ?_
    refine kL (PX := fun U => xZ (va_A (lW cI cJ z a bb N E V o0 f) H.size) U U.heap) (As := [.ref (z 0), .int (xs (5 * t + 1)), .int (xs (5 * t + 2)), .int (xs (5 * t + 3)), .int (xs (5 * t + 4)), .ref o0]) (rest := []) ⟨hx, hb, hml, hown, hts⟩ (fL_some l dC dI cI cJ z a bb N E V o0 f _ _ _ _ _ hlt hno) (vx_cwSW 6 hts (gS kml_L_76 kst_L_some kin_L kcw_L_some) rfl rfl rfl (by decide +kernel) ⟨by show 47 + 1 ≤ 2048; omega, by show 8 + (7 + 11) + 2700 ≤ 84000; omega⟩) (fun U hU hWu => by show xZ _ U U.heap; rw [hU]; exact (hZH.warm hWu).narrow hFz) (fun U g mk q hq => xZ.same (s := U) (U := U.calling g mk q) (H := U.heap) rfl hq) hP hK hD hS hA rfl hl.1 rfl (Nat.le_of_ble_eq_true rfl) d_L_law_436 ⟨by show CC t N + _ ≤ 601024; omega, by show SS t N + _ ≤ 7293034; omega⟩ (fun r9 a f H locs hw hP hD hS => ?_)
    refine W.widen (k := CC (t + 1) N) (n := SS (t + 1) N) hc1 hc2 ?_
    have hw : r9 = 1 := hw
    subst hw
    refine lv_istore (lv' := [(5, .int 1), (4, .int (nI (5 * t))), (0, .ref b), (1, .ref (z 0)), (2, .ref (y 0)), (3, .ref o0)]) hx hb d_L_law_439 hl (by decide) rfl (fun ls hl => ?_)
    refine lv_aload_n hx hb d_L_law_441 rfl (lv_at hl 4 rfl) ?_
    refine lv_aload_n hx hb d_L_law_442 rfl (lv_at hl 2 rfl) ?_
    refine lv_iload hx hb d_L_law_443 (lv_at hl 1 rfl) ?_
    refine lv_iconst (v := 1) hx hb d_L_law_445 (by decide) ?_
    refine lv_iadd hx hb d_L_law_446 ?_
    rw [show nI (5 * t) + (1 : Int32) = nI (5 * t + 1) from nI_add _ 1]
    refine va_sld hx hb hX hbl hbA hS (vp_in_nI (by omega) (by omega)) d_L_law_447 ?_
    rw [nI_clamp (n := 5 * t + 1) (by omega)]
    refine lv_aload_n hx hb d_L_law_448 rfl (lv_at hl 2 rfl) ?_
    refine lv_iload hx hb d_L_law_449 (lv_at hl 1 rfl) ?_
    refine lv_iconst (v := 2) hx hb d_L_law_451 (by decide) ?_
    refine lv_iadd hx hb d_L_law_452 ?_
    rw [show nI (5 * t) + (2 : Int32) = nI (5 * t + 2) from nI_add _ 2]
    refine va_sld hx hb hX hbl hbA hS (vp_in_nI (by omega) (by omega)) d_L_law_453 ?_
    rw [nI_clamp (n := 5 * t + 2) (by omega)]
    refine lv_aload_n hx hb d_L_law_454 rfl (lv_at hl 2 rfl) ?_
    refine lv_iload hx hb d_L_law_455 (lv_at hl 1 rfl) ?_
    refine lv_iconst (v := 3) hx hb d_L_law_457 (by decide) ?_
    refine lv_iadd hx hb d_L_law_458 ?_
    rw [show nI (5 * t) + (3 : Int32) = nI (5 * t + 3) from nI_add _ 3]
    refine va_sld hx hb hX hbl hbA hS (vp_in_nI (by omega) (by omega)) d_L_law_459 ?_
    rw [nI_clamp (n := 5 * t + 3) (by omega)]
    refine lv_aload_n hx hb d_L_law_460 rfl (lv_at hl 2 rfl) ?_
    refine lv_iload hx hb d_L_law_461 (lv_at hl 1 rfl) ?_
    refine lv_iconst (v := 4) hx hb d_L_law_463 (by decide) ?_
    refine lv_iadd hx hb d_L_law_464 ?_
    rw [show nI (5 * t) + (4 : Int32) = nI (5 * t + 4) from nI_add _ 4]
    refine va_sld hx hb hX hbl hbA hS (vp_in_nI (by omega) (by omega)) d_L_law_465 ?_
    rw [nI_clamp (n := 5 * t + 4) (by omega)]
    refine kDi (As := [.int (xs (5 * t + 1)), .int (xs (5 * t + 2)), .int (xs (5 * t + 3)), .int (xs (5 * t + 4))]) (rest := []) ⟨hx, hb, hml, hown, hts⟩ (f_R_some l dC dI cZ y fa F g h _ (xs (5 * t + 1)) (xs (5 * t + 2)) (xs (5 * t + 3)) (xs (5 * t + 4)) hno) (cwV 4 hts (gV kml_L_78 kim_R_some ksl_R_some kin_R kcd_R_some) rfl rfl rfl (by decide +kernel) ⟨by show 2 + 1 ≤ 2048; omega, by show 8 + (6 + 11) + 70 ≤ 84000; omega⟩) hP hK hD hS hA rfl hl.1 rfl (Nat.le_of_ble_eq_true rfl) d_L_law_466 ⟨by show CC (t + 1) _ + 0 ≤ 601024; omega, by show SS (t + 1) _ + 0 ≤ 7293034; omega⟩ (fun g h H locs hP hD hS => ?_)
    refine lv_istore (lv' := [(6, .int 0), (5, .int 1), (4, .int (nI (5 * t))), (0, .ref b), (1, .ref (z 0)), (2, .ref (y 0)), (3, .ref o0)]) hx hb d_L_law_469 hl (by decide) rfl (fun ls hl => ?_)
    refine lv_aload_n hx hb d_L_law_471 rfl (lv_at hl 5 rfl) ?_
    refine kDR (As := []) (rest := []) ⟨hx, hb, hml, hown, hts⟩ (c_R_thrown l dC dI cZ y 1 F g h) (cwV 0 hts (gV kml_L_61 kim_R_thrown ksl_R_thrown kin_R kcd_R_thrown) rfl rfl rfl (by decide +kernel) ⟨by show 0 + 1 ≤ 2048; omega, by show 8 + (1 + 11) + 0 ≤ 84000; omega⟩) hP hK rfl hl.1 rfl (Nat.le_of_ble_eq_true rfl) d_L_law_472 ⟨by show CC (t + 1) _ ≤ 601024; omega, by show SS (t + 1) _ ≤ 7293034; omega⟩ ?_
    refine lv_iload hx hb d_L_law_475 (lv_at hl 1 rfl) ?_
    refine lv_icmp_eq (tgt := 482) hx hb d_L_law_477 (by decide) (fun c477 => ?_) (fun c477 => ?_)
    · refine lv_iload hx hb d_L_law_482 (lv_at hl 1 rfl) ?_
      refine lv_if_ne (tgt := 506) hx hb d_L_law_484 (by decide) (fun c484 => ?_) (fun c484 => ?_)
      · refine lv_goto (tgt := 915) hx hb d_L_law_506 (by decide) ?_
        refine lv_iinc (v := ((nI (5 * t)) + 5)) (lv' := [(4, .int ((nI (5 * t)) + 5)), (6, .int 0), (5, .int 1), (0, .ref b), (1, .ref (z 0)), (2, .ref (y 0)), (3, .ref o0)]) hx hb d_L_law_915 hl (k := 2) rfl rfl (by decide) rfl (fun ls hl => ?_)
        refine lv_goto (tgt := 23) hx hb d_L_law_918 (by decide) ?_
        rw [show nI (5 * t) + (5 : Int32) = nI (5 * (t + 1)) from by rw [show (5 : Int32) = nI 5 from rfl, nI_add]; rfl] at hl
        exact ih z a bb y N E V o0 f 1 F g h H locs hin2 hP hD hS ls (lv_sub hl [0, 3, 4, 5, 6] rfl)
      · exact absurd c484 (by decide)
    · exact absurd (by decide) c477

set_option maxHeartbeats 8000000 in
set_option maxRecDepth 100000 in
theorem law_turn {I : Nat → Mm → Mm → (Nat → Int32) → (Nat → Nat → Bool) → Prop} (hI : LI I) {p : Program} {l : Launch} {e : Env} {s : State} {m : MethodId} {below : List Frame} {meth : Method} {c : Code} {dC : Nat → ClassId} {dI : Nat → Nat → Nat} {cI cJ cZ : ClassId} {b L t : Nat} {xs : Nat → Int32} (hlt : l.stackTraces = false) (hL : L ≤ 2560) (C0 : lw_At p s m meth c b L xs) (hNc : va_Nc xUO xIA s) (hZ : xZ (fun q => s.heap.size ≤ q) s s.heap) (hK : va_K (dC, dI) cls0 [(cI, .int), (cJ, .long), (cZ, .boolean)] s) (ht5 : 5 * t + 5 ≤ L) (ih : LH I p l e s m below meth c dC dI cI cJ cZ b (t + 1)) (z a bb y : Nat → Nat) (N E : Mm) (V : Nat → Int32) (o0 : Nat) (f : Nat → Int64) (fa : Int32) (F : Nat → Nat → Bool) (g h : Nat → Bool) (H : Heap) (locs : List Loc) (hin : I t N E V F) (hP : va_P (dC, dI) cls0 (kW cI cJ cZ z a bb y N E V o0 f fa F g h) H) (hD : va_D (fun q : Nat => s.heap.size ≤ q) (kW cI cJ cZ z a bb y N E V o0 f fa F g h)) (hS : va_S (fun q : Nat => s.heap.size ≤ q) s.heap H locs) (ls : Array Slot) (hl : lv_has ls 7 [(4, .int (nI (5 * t))), (0, .ref b), (1, .ref (z 0)), (2, .ref (y 0)), (3, .ref o0)]) : W p l e room_1 s m #[Value.ref b] below meth c H locs (CC t N) (SS t N) (lw_Z below #[Value.ref b] s) (F0 m 509 ls []) := by
  obtain ⟨q0, q1, q2, q3, q4, q5, q6, q7, q8, q9, q10, q11, q12, q13, q14⟩ := hI
  obtain ⟨hx, hb, hr, hml, hown, hts0, hX, hbl, hlocks, hgv⟩ := C0
  have hown : s.vm.findClass R_L = some m.cls := hown
  have hts : ∀ w ∈ W0, w.before _ s = true := fun w h => hts0 w (W0_tbl w h)
  have hA : ∀ q : Nat, s.heap.size ≤ q → (fun q : Nat => s.heap.size ≤ q) q := fun _ h => h
  have hbA : ¬ (fun q : Nat => s.heap.size ≤ q) b := Nat.not_le.mpr hbl
  obtain ⟨hs0, hv⟩ := q1 t N E V F hin
  obtain ⟨⟨R0, hR, hR1, hR2⟩, -, -⟩ := id hs0
  have hb0 := CC_b (t := t + 1) hs0 (by omega)
  by_cases hno : okb (xs (5 * t + 1)) 32 ∧ okb (xs (5 * t + 2)) 32
  · obtain ⟨k1, k2⟩ := hno
    obtain ⟨i1, h1, e1⟩ := okb_of (n := 32) k1 (by decide)
    obtain ⟨i2, h2, e2⟩ := okb_of (n := 32) k2 (by decide)
    obtain ⟨E9, m1, hres1⟩ := ex2 (j_hang 12 (j_makeRoom N 765) (j_forget E) (V (cl i2)))
    obtain ⟨N', r, hres⟩ := ex2 (j_turn m1 12 (j_makeRoom N 765) (V (cl i2)) 0 0 0)
    obtain ⟨hin2, h00, hrm, hch⟩ := q8 t N E V F i1 i2 E9 m1 N' r hin (by omega) h1 h2 hres1 hres
    have hs2 := (q1 _ _ _ _ _ hin2).1
    have e00 : rmN (j_makeRoom N 765) = rmN (j_put N' V (nI i1) r) := rm_e (by rw [put_00, h00])
    have hle : rmN N ≤ rmN (j_put N' V (nI i1) r) := by rw [rm_e (put_00 _ _ _ _)]; exact hrm
    obtain ⟨hc1, hc2⟩ := CC_s (t := t) hs0 hs2 hle e00
    obtain ⟨hb1, hb2⟩ := CC_b (t := t + 1) hs2 (by omega)
    have hq : (if r = V (cl i1) then 0 else 1 : Int32) = zb (dif (F i1) (fun w => F i2 (tw w)) 4096) := zb_ch hch
    refine lv_aload_n hx hb d_L_law_509 rfl (lv_at hl 2 rfl) ?_
    refine lv_aload_n hx hb d_L_law_510 rfl (lv_at hl 1 rfl) ?_
    refine lv_iload hx hb d_L_law_511 (lv_at hl 0 rfl) ?_
    refine lv_iconst (v := 1) hx hb d_L_law_513 (by decide) ?_
    refine lv_iadd hx hb d_L_law_514 ?_
    rw [show nI (5 * t) + (1 : Int32) = nI (5 * t + 1) from nI_add _ 1]
    refine va_sld hx hb hX hbl hbA hS (vp_in_nI (by omega) (by omega)) d_L_law_515 ?_
    rw [nI_clamp (n := 5 * t + 1) (by omega)]
    rw [e1]
    refine lv_aload_n hx hb d_L_law_516 rfl (lv_at hl 1 rfl) ?_
    refine lv_iload hx hb d_L_law_517 (lv_at hl 0 rfl) ?_
    refine lv_iconst (v := 2) hx hb d_L_law_519 (by decide) ?_
    refine lv_iadd hx hb d_L_law_520 ?_
    rw [show nI (5 * t) + (2 : Int32) = nI (5 * t + 2) from nI_add _ 2]
    refine va_sld hx hb hX hbl hbA hS (vp_in_nI (by omega) (by omega)) d_L_law_521 ?_
    rw [nI_clamp (n := 5 * t + 2) (by omega)]
    rw [e2]
    refine lv_aload_n hx hb d_L_law_522 rfl (lv_at hl 4 rfl) ?_
    refine kL (PX := fun _ => True) (As := [.ref (z 0), .int (nI i1), .int (nI i2), .ref o0]) (rest := []) ⟨hx, hb, hml, hown, hts⟩ (cL_turn l dC dI cI cJ z a bb N E V o0 f _ (nI i1) (nI i2) (fun x u h => h.1) (c_S_turn l dC dI cI z a bb N E V _ (nI i1) (nI i2) (okb_n (n := 32) h1 (by decide)) (okb_n (n := 32) h2 (by decide)) R0 hR hR1 hR2 hv hres1 hres)) (vx_cwSW 4 hts (gS kml_L_79 kst_L_turn kin_L kcw_L_turn) rfl rfl rfl (by decide +kernel) ⟨by show 47 + 1 ≤ 2048; omega, by show 8 + (5 + 11) + 2700 ≤ 84000; omega⟩) (fun _ _ _ => trivial) (fun _ _ _ _ _ => trivial) hP hK hD hS hA rfl hl.1 rfl (Nat.le_of_ble_eq_true rfl) d_L_law_523 ⟨by show CC t N + _ ≤ 601024; omega, by show SS t N + _ ≤ 7293034; omega⟩ (fun r9 a f H locs hw hP hD hS => ?_)
    refine W.widen (k := CC (t + 1) (j_put N' V (nI i1) r)) (n := SS (t + 1) (j_put N' V (nI i1) r)) hc1 hc2 ?_
    obtain ⟨hw, hf0⟩ := hw
    have hf0 : f 0 = _ := hf0
    have hw : r9 = 0 := hw
    subst hw
    refine lv_istore (lv' := [(5, .int 0), (4, .int (nI (5 * t))), (0, .ref b), (1, .ref (z 0)), (2, .ref (y 0)), (3, .ref o0)]) hx hb d_L_law_526 hl (by decide) rfl (fun ls hl => ?_)
    refine lv_aload_n hx hb d_L_law_528 rfl (lv_at hl 4 rfl) ?_
    refine lv_aload_n hx hb d_L_law_529 rfl (lv_at hl 2 rfl) ?_
    refine lv_iload hx hb d_L_law_530 (lv_at hl 1 rfl) ?_
    refine lv_iconst (v := 1) hx hb d_L_law_532 (by decide) ?_
    refine lv_iadd hx hb d_L_law_533 ?_
    rw [show nI (5 * t) + (1 : Int32) = nI (5 * t + 1) from nI_add _ 1]
    refine va_sld hx hb hX hbl hbA hS (vp_in_nI (by omega) (by omega)) d_L_law_534 ?_
    rw [nI_clamp (n := 5 * t + 1) (by omega)]
    rw [e1]
    refine lv_aload_n hx hb d_L_law_535 rfl (lv_at hl 2 rfl) ?_
    refine lv_iload hx hb d_L_law_536 (lv_at hl 1 rfl) ?_
    refine lv_iconst (v := 2) hx hb d_L_law_538 (by decide) ?_
    refine lv_iadd hx hb d_L_law_539 ?_
    rw [show nI (5 * t) + (2 : Int32) = nI (5 * t + 2) from nI_add _ 2]
    refine va_sld hx hb hX hbl hbA hS (vp_in_nI (by omega) (by omega)) d_L_law_540 ?_
    rw [nI_clamp (n := 5 * t + 2) (by omega)]
    rw [e2]
    refine kDi (As := [.int (nI i1), .int (nI i2)]) (rest := []) ⟨hx, hb, hml, hown, hts⟩ (c_R_turn l dC dI cZ y fa F g h _ i1 i2 h1 h2) (cwV 2 hts (gV kml_L_82 kim_R_turn ksl_R_turn kin_R kcd_R_turn) rfl rfl rfl (by decide +kernel) ⟨by show 2 + 1 ≤ 2048; omega, by show 8 + (4 + 11) + 60 ≤ 84000; omega⟩) hP hK hD hS hA rfl hl.1 rfl (Nat.le_of_ble_eq_true rfl) d_L_law_541 ⟨by show CC (t + 1) _ + 0 ≤ 601024; omega, by show SS (t + 1) _ + 0 ≤ 7293034; omega⟩ (fun g h H locs hP hD hS => ?_)
    refine lv_istore (lv' := [(6, .int (zb (dif (F i1) (fun w => F i2 (tw w)) 4096))), (5, .int 0), (4, .int (nI (5 * t))), (0, .ref b), (1, .ref (z 0)), (2, .ref (y 0)), (3, .ref o0)]) hx hb d_L_law_544 hl (by decide) rfl (fun ls hl => ?_)
    refine lv_aload_n hx hb d_L_law_546 rfl (lv_at hl 5 rfl) ?_
    refine kDR (As := []) (rest := []) ⟨hx, hb, hml, hown, hts⟩ (c_R_thrown l dC dI cZ y 0 (fp F i1 4096 (fun w => F i2 (tw w))) g h) (cwV 0 hts (gV kml_L_61 kim_R_thrown ksl_R_thrown kin_R kcd_R_thrown) rfl rfl rfl (by decide +kernel) ⟨by show 0 + 1 ≤ 2048; omega, by show 8 + (1 + 11) + 0 ≤ 84000; omega⟩) hP hK rfl hl.1 rfl (Nat.le_of_ble_eq_true rfl) d_L_law_547 ⟨by show CC (t + 1) _ ≤ 601024; omega, by show SS (t + 1) _ ≤ 7293034; omega⟩ ?_
    refine lv_iload hx hb d_L_law_550 (lv_at hl 1 rfl) ?_
    refine lv_icmp_eq (tgt := 557) hx hb d_L_law_552 (by decide) (fun c552 => ?_) (fun c552 => ?_)
    · refine lv_iload hx hb d_L_law_557 (lv_at hl 1 rfl) ?_
      refine lv_if_ne (tgt := 581) hx hb d_L_law_559 (by decide) (fun c559 => ?_) (fun c559 => ?_)
      · exact absurd (by decide) c559
      · refine lv_aload_n hx hb d_L_law_562 rfl (lv_at hl 6 rfl) ?_
        refine lv_iconst (v := 0) hx hb d_L_law_563 (by decide) ?_
        refine va_lald hx hb hK hP 12 1 rfl rfl (vp_in_nI (show 0 < 1 by decide) (by decide)) d_L_law_564 ?_
        refine lv_iload hx hb d_L_law_565 (lv_at hl 0 rfl) ?_
        refine lv_if_eq (tgt := 574) hx hb d_L_law_567 (by decide) (fun c567 => ?_) (fun c567 => ?_)
        · refine lv_lconst (v := 0) hx hb d_L_law_574 (by decide) ?_
          refine W.lcmp hx hb d_L_law_575 ?_
          refine lv_if_eq (tgt := 581) hx hb d_L_law_576 (by decide) (fun c576 => ?_) (fun c576 => ?_)
          · refine lv_goto (tgt := 915) hx hb d_L_law_581 (by decide) ?_
            refine lv_iinc (v := ((nI (5 * t)) + 5)) (lv' := [(4, .int ((nI (5 * t)) + 5)), (6, .int (zb (dif (F i1) (fun w => F i2 (tw w)) 4096))), (5, .int 0), (0, .ref b), (1, .ref (z 0)), (2, .ref (y 0)), (3, .ref o0)]) hx hb d_L_law_915 hl (k := 2) rfl rfl (by decide) rfl (fun ls hl => ?_)
            refine lv_goto (tgt := 23) hx hb d_L_law_918 (by decide) ?_
            rw [show nI (5 * t) + (5 : Int32) = nI (5 * (t + 1)) from by rw [show (5 : Int32) = nI 5 from rfl, nI_add]; rfl] at hl
            exact ih z a bb y (j_put N' V (nI i1) r) E9 (upd V (cl i1) r) o0 f 0 (fp F i1 4096 (fun w => F i2 (tw w))) g h H locs hin2 hP hD hS ls (lv_sub hl [0, 3, 4, 5, 6] rfl)
          · exact absurd (lc_eq (show f 0 = (0 : Int64) from by rw [hf0, hq]; exact if_pos c567)) c576
        · refine lv_lconst (v := 1) hx hb d_L_law_570 (by decide) ?_
          refine lv_goto (tgt := 575) hx hb d_L_law_571 (by decide) ?_
          refine W.lcmp hx hb d_L_law_575 ?_
          refine lv_if_eq (tgt := 581) hx hb d_L_law_576 (by decide) (fun c576 => ?_) (fun c576 => ?_)
          · refine lv_goto (tgt := 915) hx hb d_L_law_581 (by decide) ?_
            refine lv_iinc (v := ((nI (5 * t)) + 5)) (lv' := [(4, .int ((nI (5 * t)) + 5)), (6, .int (zb (dif (F i1) (fun w => F i2 (tw w)) 4096))), (5, .int 0), (0, .ref b), (1, .ref (z 0)), (2, .ref (y 0)), (3, .ref o0)]) hx hb d_L_law_915 hl (k := 2) rfl rfl (by decide) rfl (fun ls hl => ?_)
            refine lv_goto (tgt := 23) hx hb d_L_law_918 (by decide) ?_
            rw [show nI (5 * t) + (5 : Int32) = nI (5 * (t + 1)) from by rw [show (5 : Int32) = nI 5 from rfl, nI_add]; rfl] at hl
            exact ih z a bb y (j_put N' V (nI i1) r) E9 (upd V (cl i1) r) o0 f 0 (fp F i1 4096 (fun w => F i2 (tw w))) g h H locs hin2 hP hD hS ls (lv_sub hl [0, 3, 4, 5, 6] rfl)
          · exact absurd (lc_eq (show f 0 = (1 : Int64) from by rw [hf0, hq]; exact if_neg c567)) c576
    · exact absurd (by decide) c552
  · obtain ⟨hc1, hc2⟩ := CC_x (t := t) (N := N)
    obtain ⟨hb1, hb2⟩ := hb0
    have hin2 := q2 t N E V F hin
    have hZH : xZ (fun q => s.heap.size ≤ q) s H := hZ.kept (fun q h1 h2 => hS.2.1 q h1 h2)
    have hFz := va_free (wc := lW cI cJ z a bb N E V o0 f) hD hS hA [0, 1, 2, 3, 4, 5, 6, 7, 8, 9, 10, 11, 12] rfl
    refine lv_aload_n hx hb d_L_law_509 rfl (lv_at hl 2 rfl) ?_
    refine lv_aload_n hx hb d_L_law_510 rfl (lv_at hl 1 rfl) ?_
    refine lv_iload hx hb d_L_law_511 (lv_at hl 0 rfl) ?_
    refine lv_iconst (v := 1) hx hb d_L_law_513 (by decide) ?_
    refine lv_iadd hx hb d_L_law_514 ?_
    rw [show nI (5 * t) + (1 : Int32) = nI (5 * t + 1) from nI_add _ 1]
    refine va_sld hx hb hX hbl hbA hS (vp_in_nI (by omega) (by omega)) d_L_law_515 ?_
    rw [nI_clamp (n := 5 * t + 1) (by omega)]
    refine lv_aload_n hx hb d_L_law_516 rfl (lv_at hl 1 rfl) ?_
    refine lv_iload hx hb d_L_law_517 (lv_at hl 0 rfl) ?_
    refine lv_iconst (v := 2) hx hb d_L_law_519 (by decide) ?_
    refine lv_iadd hx hb d_L_law_520 ?_
    rw [show nI (5 * t) + (2 : Int32) = nI (5 * t + 2) from nI_add _ 2]
    refine va_sld hx hb hX hbl hbA hS (vp_in_nI (by omega) (by omega)) d_L_law_521 ?_
    rw [nI_clamp (n := 5 * t + 2) (by omega)]
    refine lv_aload_n hx hb d_L_law_522 rfl (lv_at hl 4 rfl) ?_
    refine kL (PX := fun U => xZ (va_A (lW cI cJ z a bb N E V o0 f) H.size) U U.heap) (As := [.ref (z 0), .int (xs (5 * t + 1)), .int (xs (5 * t + 2)), .ref o0]) (rest := []) ⟨hx, hb, hml, hown, hts⟩ (fL_turn l dC dI cI cJ z a bb N E V o0 f _ _ _ hlt hno) (vx_cwSW 4 hts (gS kml_L_79 kst_L_turn kin_L kcw_L_turn) rfl rfl rfl (by decide +kernel) ⟨by show 47 + 1 ≤ 2048; omega, by show 8 + (5 + 11) + 2700 ≤ 84000; omega⟩) (fun U hU hWu => by show xZ _ U U.heap; rw [hU]; exact (hZH.warm hWu).narrow hFz) (fun U g mk q hq => xZ.same (s := U) (U := U.calling g mk q) (H := U.heap) rfl hq) hP hK hD hS hA rfl hl.1 rfl (Nat.le_of_ble_eq_true rfl) d_L_law_523 ⟨by show CC t N + _ ≤ 601024; omega, by show SS t N + _ ≤ 7293034; omega⟩ (fun r9 a f H locs hw hP hD hS => ?_)
    refine W.widen (k := CC (t + 1) N) (n := SS (t + 1) N) hc1 hc2 ?_
    have hw : r9 = 1 := hw
    subst hw
    refine lv_istore (lv' := [(5, .int 1), (4, .int (nI (5 * t))), (0, .ref b), (1, .ref (z 0)), (2, .ref (y 0)), (3, .ref o0)]) hx hb d_L_law_526 hl (by decide) rfl (fun ls hl => ?_)
    refine lv_aload_n hx hb d_L_law_528 rfl (lv_at hl 4 rfl) ?_
    refine lv_aload_n hx hb d_L_law_529 rfl (lv_at hl 2 rfl) ?_
    refine lv_iload hx hb d_L_law_530 (lv_at hl 1 rfl) ?_
    refine lv_iconst (v := 1) hx hb d_L_law_532 (by decide) ?_
    refine lv_iadd hx hb d_L_law_533 ?_
    rw [show nI (5 * t) + (1 : Int32) = nI (5 * t + 1) from nI_add _ 1]
    refine va_sld hx hb hX hbl hbA hS (vp_in_nI (by omega) (by omega)) d_L_law_534 ?_
    rw [nI_clamp (n := 5 * t + 1) (by omega)]
    refine lv_aload_n hx hb d_L_law_535 rfl (lv_at hl 2 rfl) ?_
    refine lv_iload hx hb d_L_law_536 (lv_at hl 1 rfl) ?_
    refine lv_iconst (v := 2) hx hb d_L_law_538 (by decide) ?_
    refine lv_iadd hx hb d_L_law_539 ?_
    rw [show nI (5 * t) + (2 : Int32) = nI (5 * t + 2) from nI_add _ 2]
    refine va_sld hx hb hX hbl hbA hS (vp_in_nI (by omega) (by omega)) d_L_law_540 ?_
    rw [nI_clamp (n := 5 * t + 2) (by omega)]
    refine kDi (As := [.int (xs (5 * t + 1)), .int (xs (5 * t + 2))]) (rest := []) ⟨hx, hb, hml, hown, hts⟩ (f_R_turn l dC dI cZ y fa F g h _ (xs (5 * t + 1)) (xs (5 * t + 2)) hno) (cwV 2 hts (gV kml_L_82 kim_R_turn ksl_R_turn kin_R kcd_R_turn) rfl rfl rfl (by decide +kernel) ⟨by show 2 + 1 ≤ 2048; omega, by show 8 + (4 + 11) + 70 ≤ 84000; omega⟩) hP hK hD hS hA rfl hl.1 rfl (Nat.le_of_ble_eq_true rfl) d_L_law_541 ⟨by show CC (t + 1) _ + 0 ≤ 601024; omega, by show SS (t + 1) _ + 0 ≤ 7293034; omega⟩ (fun g h H locs hP hD hS => ?_)
    refine lv_istore (lv' := [(6, .int 0), (5, .int 1), (4, .int (nI (5 * t))), (0, .ref b), (1, .ref (z 0)), (2, .ref (y 0)), (3, .ref o0)]) hx hb d_L_law_544 hl (by decide) rfl (fun ls hl => ?_)
    refine lv_aload_n hx hb d_L_law_546 rfl (lv_at hl 5 rfl) ?_
    refine kDR (As := []) (rest := []) ⟨hx, hb, hml, hown, hts⟩ (c_R_thrown l dC dI cZ y 1 F g h) (cwV 0 hts (gV kml_L_61 kim_R_thrown ksl_R_thrown kin_R kcd_R_thrown) rfl rfl rfl (by decide +kernel) ⟨by show 0 + 1 ≤ 2048; omega, by show 8 + (1 + 11) + 0 ≤ 84000; omega⟩) hP hK rfl hl.1 rfl (Nat.le_of_ble_eq_true rfl) d_L_law_547 ⟨by show CC (t + 1) _ ≤ 601024; omega, by show SS (t + 1) _ ≤ 7293034; omega⟩ ?_
    refine lv_iload hx hb d_L_law_550 (lv_at hl 1 rfl) ?_
    refine lv_icmp_eq (tgt := 557) hx hb d_L_law_552 (by decide) (fun c552 => ?_) (fun c552 => ?_)
    · refine lv_iload hx hb d_L_law_557 (lv_at hl 1 rfl) ?_
      refine lv_if_ne (tgt := 581) hx hb d_L_law_559 (by decide) (fun c559 => ?_) (fun c559 => ?_)
      · refine lv_goto (tgt := 915) hx hb d_L_law_581 (by decide) ?_
        refine lv_iinc (v := ((nI (5 * t)) + 5)) (lv' := [(4, .int ((nI (5 * t)) + 5)), (6, .int 0), (5, .int 1), (0, .ref b), (1, .ref (z 0)), (2, .ref (y 0)), (3, .ref o0)]) hx hb d_L_law_915 hl (k := 2) rfl rfl (by decide) rfl (fun ls hl => ?_)
        refine lv_goto (tgt := 23) hx hb d_L_law_918 (by decide) ?_
        rw [show nI (5 * t) + (5 : Int32) = nI (5 * (t + 1)) from by rw [show (5 : Int32) = nI 5 from rfl, nI_add]; rfl] at hl
        exact ih z a bb y N E V o0 f 1 F g h H locs hin2 hP hD hS ls (lv_sub hl [0, 3, 4, 5, 6] rfl)
      · exact absurd c559 (by decide)
    · exact absurd (by decide) c552

set_option maxHeartbeats 8000000 in
set_option maxRecDepth 100000 in
theorem law_value {I : Nat → Mm → Mm → (Nat → Int32) → (Nat → Nat → Bool) → Prop} (hI : LI I) {p : Program} {l : Launch} {e : Env} {s : State} {m : MethodId} {below : List Frame} {meth : Method} {c : Code} {dC : Nat → ClassId} {dI : Nat → Nat → Nat} {cI cJ cZ : ClassId} {b L t : Nat} {xs : Nat → Int32} (hlt : l.stackTraces = false) (hL : L ≤ 2560) (C0 : lw_At p s m meth c b L xs) (hNc : va_Nc xUO xIA s) (hZ : xZ (fun q => s.heap.size ≤ q) s s.heap) (hK : va_K (dC, dI) cls0 [(cI, .int), (cJ, .long), (cZ, .boolean)] s) (ht5 : 5 * t + 5 ≤ L) (ih : LH I p l e s m below meth c dC dI cI cJ cZ b (t + 1)) (z a bb y : Nat → Nat) (N E : Mm) (V : Nat → Int32) (o0 : Nat) (f : Nat → Int64) (fa : Int32) (F : Nat → Nat → Bool) (g h : Nat → Bool) (H : Heap) (locs : List Loc) (hin : I t N E V F) (hP : va_P (dC, dI) cls0 (kW cI cJ cZ z a bb y N E V o0 f fa F g h) H) (hD : va_D (fun q : Nat => s.heap.size ≤ q) (kW cI cJ cZ z a bb y N E V o0 f fa F g h)) (hS : va_S (fun q : Nat => s.heap.size ≤ q) s.heap H locs) (ls : Array Slot) (hl : lv_has ls 7 [(4, .int (nI (5 * t))), (0, .ref b), (1, .ref (z 0)), (2, .ref (y 0)), (3, .ref o0)]) : W p l e room_1 s m #[Value.ref b] below meth c H locs (CC t N) (SS t N) (lw_Z below #[Value.ref b] s) (F0 m 584 ls []) := by
  obtain ⟨q0, q1, q2, q3, q4, q5, q6, q7, q8, q9, q10, q11, q12, q13, q14⟩ := hI
  obtain ⟨hx, hb, hr, hml, hown, hts0, hX, hbl, hlocks, hgv⟩ := C0
  have hown : s.vm.findClass R_L = some m.cls := hown
  have hts : ∀ w ∈ W0, w.before _ s = true := fun w h => hts0 w (W0_tbl w h)
  have hA : ∀ q : Nat, s.heap.size ≤ q → (fun q : Nat => s.heap.size ≤ q) q := fun _ h => h
  have hbA : ¬ (fun q : Nat => s.heap.size ≤ q) b := Nat.not_le.mpr hbl
  obtain ⟨hs0, hv⟩ := q1 t N E V F hin
  obtain ⟨⟨R0, hR, hR1, hR2⟩, -, -⟩ := id hs0
  have hb0 := CC_b (t := t + 1) hs0 (by omega)
  by_cases hno : okb (xs (5 * t + 1)) 32 ∧ okb (xs (5 * t + 2)) 4096
  · obtain ⟨k1, k2⟩ := hno
    obtain ⟨i1, h1, e1⟩ := okb_of (n := 32) k1 (by decide)
    obtain ⟨i2, h2, e2⟩ := okb_of (n := 4096) k2 (by decide)
    have hin2 := q2 t N E V F hin
    obtain ⟨hc1, hc2⟩ := CC_z (t := t) (N := N)
    obtain ⟨hb1, hb2⟩ := hb0
    have hq : j_truthFor N (V (cl i1)) (nI i2) = zb (F i1 i2) := q9 t N E V F i1 i2 hin h1 h2
    refine lv_aload_n hx hb d_L_law_584 rfl (lv_at hl 2 rfl) ?_
    refine lv_aload_n hx hb d_L_law_585 rfl (lv_at hl 1 rfl) ?_
    refine lv_iload hx hb d_L_law_586 (lv_at hl 0 rfl) ?_
    refine lv_iconst (v := 1) hx hb d_L_law_588 (by decide) ?_
    refine lv_iadd hx hb d_L_law_589 ?_
    rw [show nI (5 * t) + (1 : Int32) = nI (5 * t + 1) from nI_add _ 1]
    refine va_sld hx hb hX hbl hbA hS (vp_in_nI (by omega) (by omega)) d_L_law_590 ?_
    rw [nI_clamp (n := 5 * t + 1) (by omega)]
    rw [e1]
    refine lv_aload_n hx hb d_L_law_591 rfl (lv_at hl 1 rfl) ?_
    refine lv_iload hx hb d_L_law_592 (lv_at hl 0 rfl) ?_
    refine lv_iconst (v := 2) hx hb d_L_law_594 (by decide) ?_
    refine lv_iadd hx hb d_L_law_595 ?_
    rw [show nI (5 * t) + (2 : Int32) = nI (5 * t + 2) from nI_add _ 2]
    refine va_sld hx hb hX hbl hbA hS (vp_in_nI (by omega) (by omega)) d_L_law_596 ?_
    rw [nI_clamp (n := 5 * t + 2) (by omega)]
    rw [e2]
    refine lv_aload_n hx hb d_L_law_597 rfl (lv_at hl 4 rfl) ?_
    refine kL (PX := fun _ => True) (As := [.ref (z 0), .int (nI i1), .int (nI i2), .ref o0]) (rest := []) ⟨hx, hb, hml, hown, hts⟩ (cL_value l dC dI cI cJ z a bb N E V o0 f _ (nI i1) (nI i2) (c_S_value l dC dI cI z a bb N E V (nI i1) (nI i2) (okb_n (n := 32) h1 (by decide)) (okb_n (n := 4096) h2 (by decide)))) (vx_cwSW 4 hts (gS kml_L_83 kst_L_value kin_L kcw_L_value) rfl rfl rfl (by decide +kernel) ⟨by show 47 + 1 ≤ 2048; omega, by show 8 + (5 + 11) + 2700 ≤ 84000; omega⟩) (fun _ _ _ => trivial) (fun _ _ _ _ _ => trivial) hP hK hD hS hA rfl hl.1 rfl (Nat.le_of_ble_eq_true rfl) d_L_law_598 ⟨by show CC t N + _ ≤ 601024; omega, by show SS t N + _ ≤ 7293034; omega⟩ (fun r9 a f H locs hw hP hD hS => ?_)
    refine W.widen (k := CC (t + 1) N) (n := SS (t + 1) N) hc1 hc2 ?_
    obtain ⟨hw, hf0⟩ := hw
    have hf0 : f 0 = _ := hf0
    have hw : r9 = 0 := hw
    subst hw
    refine lv_istore (lv' := [(5, .int 0), (4, .int (nI (5 * t))), (0, .ref b), (1, .ref (z 0)), (2, .ref (y 0)), (3, .ref o0)]) hx hb d_L_law_601 hl (by decide) rfl (fun ls hl => ?_)
    refine lv_aload_n hx hb d_L_law_603 rfl (lv_at hl 4 rfl) ?_
    refine lv_aload_n hx hb d_L_law_604 rfl (lv_at hl 2 rfl) ?_
    refine lv_iload hx hb d_L_law_605 (lv_at hl 1 rfl) ?_
    refine lv_iconst (v := 1) hx hb d_L_law_607 (by decide) ?_
    refine lv_iadd hx hb d_L_law_608 ?_
    rw [show nI (5 * t) + (1 : Int32) = nI (5 * t + 1) from nI_add _ 1]
    refine va_sld hx hb hX hbl hbA hS (vp_in_nI (by omega) (by omega)) d_L_law_609 ?_
    rw [nI_clamp (n := 5 * t + 1) (by omega)]
    rw [e1]
    refine lv_aload_n hx hb d_L_law_610 rfl (lv_at hl 2 rfl) ?_
    refine lv_iload hx hb d_L_law_611 (lv_at hl 1 rfl) ?_
    refine lv_iconst (v := 2) hx hb d_L_law_613 (by decide) ?_
    refine lv_iadd hx hb d_L_law_614 ?_
    rw [show nI (5 * t) + (2 : Int32) = nI (5 * t + 2) from nI_add _ 2]
    refine va_sld hx hb hX hbl hbA hS (vp_in_nI (by omega) (by omega)) d_L_law_615 ?_
    rw [nI_clamp (n := 5 * t + 2) (by omega)]
    rw [e2]
    refine kDi (As := [.int (nI i1), .int (nI i2)]) (rest := []) ⟨hx, hb, hml, hown, hts⟩ (c_R_value l dC dI cZ y fa F g h _ i1 i2 h1 h2) (cwV 2 hts (gV kml_L_85 kim_R_value ksl_R_value kin_R kcd_R_value) rfl rfl rfl (by decide +kernel) ⟨by show 1 + 1 ≤ 2048; omega, by show 8 + (3 + 11) + 40 ≤ 84000; omega⟩) hP hK hD hS hA rfl hl.1 rfl (Nat.le_of_ble_eq_true rfl) d_L_law_616 ⟨by show CC (t + 1) _ + 0 ≤ 601024; omega, by show SS (t + 1) _ + 0 ≤ 7293034; omega⟩ (fun g h H locs hP hD hS => ?_)
    refine lv_istore (lv' := [(6, .int (zb (F i1 i2))), (5, .int 0), (4, .int (nI (5 * t))), (0, .ref b), (1, .ref (z 0)), (2, .ref (y 0)), (3, .ref o0)]) hx hb d_L_law_619 hl (by decide) rfl (fun ls hl => ?_)
    refine lv_aload_n hx hb d_L_law_621 rfl (lv_at hl 5 rfl) ?_
    refine kDR (As := []) (rest := []) ⟨hx, hb, hml, hown, hts⟩ (c_R_thrown l dC dI cZ y 0 F g h) (cwV 0 hts (gV kml_L_61 kim_R_thrown ksl_R_thrown kin_R kcd_R_thrown) rfl rfl rfl (by decide +kernel) ⟨by show 0 + 1 ≤ 2048; omega, by show 8 + (1 + 11) + 0 ≤ 84000; omega⟩) hP hK rfl hl.1 rfl (Nat.le_of_ble_eq_true rfl) d_L_law_622 ⟨by show CC (t + 1) _ ≤ 601024; omega, by show SS (t + 1) _ ≤ 7293034; omega⟩ ?_
    refine lv_iload hx hb d_L_law_625 (lv_at hl 1 rfl) ?_
    refine lv_icmp_eq (tgt := 632) hx hb d_L_law_627 (by decide) (fun c627 => ?_) (fun c627 => ?_)
    · refine lv_iload hx hb d_L_law_632 (lv_at hl 1 rfl) ?_
      refine lv_if_ne (tgt := 656) hx hb d_L_law_634 (by decide) (fun c634 => ?_) (fun c634 => ?_)
      · exact absurd (by decide) c634
      · refine lv_aload_n hx hb d_L_law_637 rfl (lv_at hl 6 rfl) ?_
        refine lv_iconst (v := 0) hx hb d_L_law_638 (by decide) ?_
        refine va_lald hx hb hK hP 12 1 rfl rfl (vp_in_nI (show 0 < 1 by decide) (by decide)) d_L_law_639 ?_
        refine lv_iload hx hb d_L_law_640 (lv_at hl 0 rfl) ?_
        refine lv_if_eq (tgt := 649) hx hb d_L_law_642 (by decide) (fun c642 => ?_) (fun c642 => ?_)
        · refine lv_lconst (v := 0) hx hb d_L_law_649 (by decide) ?_
          refine W.lcmp hx hb d_L_law_650 ?_
          refine lv_if_eq (tgt := 656) hx hb d_L_law_651 (by decide) (fun c651 => ?_) (fun c651 => ?_)
          · refine lv_goto (tgt := 915) hx hb d_L_law_656 (by decide) ?_
            refine lv_iinc (v := ((nI (5 * t)) + 5)) (lv' := [(4, .int ((nI (5 * t)) + 5)), (6, .int (zb (F i1 i2))), (5, .int 0), (0, .ref b), (1, .ref (z 0)), (2, .ref (y 0)), (3, .ref o0)]) hx hb d_L_law_915 hl (k := 2) rfl rfl (by decide) rfl (fun ls hl => ?_)
            refine lv_goto (tgt := 23) hx hb d_L_law_918 (by decide) ?_
            rw [show nI (5 * t) + (5 : Int32) = nI (5 * (t + 1)) from by rw [show (5 : Int32) = nI 5 from rfl, nI_add]; rfl] at hl
            exact ih z a bb y N E V o0 f 0 F g h H locs hin2 hP hD hS ls (lv_sub hl [0, 3, 4, 5, 6] rfl)
          · exact absurd (lc_eq (show f 0 = (0 : Int64) from by rw [hf0, hq]; exact if_pos c642)) c651
        · refine lv_lconst (v := 1) hx hb d_L_law_645 (by decide) ?_
          refine lv_goto (tgt := 650) hx hb d_L_law_646 (by decide) ?_
          refine W.lcmp hx hb d_L_law_650 ?_
          refine lv_if_eq (tgt := 656) hx hb d_L_law_651 (by decide) (fun c651 => ?_) (fun c651 => ?_)
          · refine lv_goto (tgt := 915) hx hb d_L_law_656 (by decide) ?_
            refine lv_iinc (v := ((nI (5 * t)) + 5)) (lv' := [(4, .int ((nI (5 * t)) + 5)), (6, .int (zb (F i1 i2))), (5, .int 0), (0, .ref b), (1, .ref (z 0)), (2, .ref (y 0)), (3, .ref o0)]) hx hb d_L_law_915 hl (k := 2) rfl rfl (by decide) rfl (fun ls hl => ?_)
            refine lv_goto (tgt := 23) hx hb d_L_law_918 (by decide) ?_
            rw [show nI (5 * t) + (5 : Int32) = nI (5 * (t + 1)) from by rw [show (5 : Int32) = nI 5 from rfl, nI_add]; rfl] at hl
            exact ih z a bb y N E V o0 f 0 F g h H locs hin2 hP hD hS ls (lv_sub hl [0, 3, 4, 5, 6] rfl)
          · exact absurd (lc_eq (show f 0 = (1 : Int64) from by rw [hf0, hq]; exact if_neg c642)) c651
    · exact absurd (by decide) c627
  · obtain ⟨hc1, hc2⟩ := CC_x (t := t) (N := N)
    obtain ⟨hb1, hb2⟩ := hb0
    have hin2 := q2 t N E V F hin
    have hZH : xZ (fun q => s.heap.size ≤ q) s H := hZ.kept (fun q h1 h2 => hS.2.1 q h1 h2)
    have hFz := va_free (wc := lW cI cJ z a bb N E V o0 f) hD hS hA [0, 1, 2, 3, 4, 5, 6, 7, 8, 9, 10, 11, 12] rfl
    refine lv_aload_n hx hb d_L_law_584 rfl (lv_at hl 2 rfl) ?_
    refine lv_aload_n hx hb d_L_law_585 rfl (lv_at hl 1 rfl) ?_
    refine lv_iload hx hb d_L_law_586 (lv_at hl 0 rfl) ?_
    refine lv_iconst (v := 1) hx hb d_L_law_588 (by decide) ?_
    refine lv_iadd hx hb d_L_law_589 ?_
    rw [show nI (5 * t) + (1 : Int32) = nI (5 * t + 1) from nI_add _ 1]
    refine va_sld hx hb hX hbl hbA hS (vp_in_nI (by omega) (by omega)) d_L_law_590 ?_
    rw [nI_clamp (n := 5 * t + 1) (by omega)]
    refine lv_aload_n hx hb d_L_law_591 rfl (lv_at hl 1 rfl) ?_
    refine lv_iload hx hb d_L_law_592 (lv_at hl 0 rfl) ?_
    refine lv_iconst (v := 2) hx hb d_L_law_594 (by decide) ?_
    refine lv_iadd hx hb d_L_law_595 ?_
    rw [show nI (5 * t) + (2 : Int32) = nI (5 * t + 2) from nI_add _ 2]
    refine va_sld hx hb hX hbl hbA hS (vp_in_nI (by omega) (by omega)) d_L_law_596 ?_
    rw [nI_clamp (n := 5 * t + 2) (by omega)]
    refine lv_aload_n hx hb d_L_law_597 rfl (lv_at hl 4 rfl) ?_
    refine kL (PX := fun U => xZ (va_A (lW cI cJ z a bb N E V o0 f) H.size) U U.heap) (As := [.ref (z 0), .int (xs (5 * t + 1)), .int (xs (5 * t + 2)), .ref o0]) (rest := []) ⟨hx, hb, hml, hown, hts⟩ (fL_value l dC dI cI cJ z a bb N E V o0 f _ _ _ hlt hno) (vx_cwSW 4 hts (gS kml_L_83 kst_L_value kin_L kcw_L_value) rfl rfl rfl (by decide +kernel) ⟨by show 47 + 1 ≤ 2048; omega, by show 8 + (5 + 11) + 2700 ≤ 84000; omega⟩) (fun U hU hWu => by show xZ _ U U.heap; rw [hU]; exact (hZH.warm hWu).narrow hFz) (fun U g mk q hq => xZ.same (s := U) (U := U.calling g mk q) (H := U.heap) rfl hq) hP hK hD hS hA rfl hl.1 rfl (Nat.le_of_ble_eq_true rfl) d_L_law_598 ⟨by show CC t N + _ ≤ 601024; omega, by show SS t N + _ ≤ 7293034; omega⟩ (fun r9 a f H locs hw hP hD hS => ?_)
    refine W.widen (k := CC (t + 1) N) (n := SS (t + 1) N) hc1 hc2 ?_
    have hw : r9 = 1 := hw
    subst hw
    refine lv_istore (lv' := [(5, .int 1), (4, .int (nI (5 * t))), (0, .ref b), (1, .ref (z 0)), (2, .ref (y 0)), (3, .ref o0)]) hx hb d_L_law_601 hl (by decide) rfl (fun ls hl => ?_)
    refine lv_aload_n hx hb d_L_law_603 rfl (lv_at hl 4 rfl) ?_
    refine lv_aload_n hx hb d_L_law_604 rfl (lv_at hl 2 rfl) ?_
    refine lv_iload hx hb d_L_law_605 (lv_at hl 1 rfl) ?_
    refine lv_iconst (v := 1) hx hb d_L_law_607 (by decide) ?_
    refine lv_iadd hx hb d_L_law_608 ?_
    rw [show nI (5 * t) + (1 : Int32) = nI (5 * t + 1) from nI_add _ 1]
    refine va_sld hx hb hX hbl hbA hS (vp_in_nI (by omega) (by omega)) d_L_law_609 ?_
    rw [nI_clamp (n := 5 * t + 1) (by omega)]
    refine lv_aload_n hx hb d_L_law_610 rfl (lv_at hl 2 rfl) ?_
    refine lv_iload hx hb d_L_law_611 (lv_at hl 1 rfl) ?_
    refine lv_iconst (v := 2) hx hb d_L_law_613 (by decide) ?_
    refine lv_iadd hx hb d_L_law_614 ?_
    rw [show nI (5 * t) + (2 : Int32) = nI (5 * t + 2) from nI_add _ 2]
    refine va_sld hx hb hX hbl hbA hS (vp_in_nI (by omega) (by omega)) d_L_law_615 ?_
    rw [nI_clamp (n := 5 * t + 2) (by omega)]
    refine kDi (As := [.int (xs (5 * t + 1)), .int (xs (5 * t + 2))]) (rest := []) ⟨hx, hb, hml, hown, hts⟩ (f_R_value l dC dI cZ y fa F g h _ (xs (5 * t + 1)) (xs (5 * t + 2)) hno) (cwV 2 hts (gV kml_L_85 kim_R_value ksl_R_value kin_R kcd_R_value) rfl rfl rfl (by decide +kernel) ⟨by show 2 + 1 ≤ 2048; omega, by show 8 + (3 + 11) + 70 ≤ 84000; omega⟩) hP hK hD hS hA rfl hl.1 rfl (Nat.le_of_ble_eq_true rfl) d_L_law_616 ⟨by show CC (t + 1) _ + 0 ≤ 601024; omega, by show SS (t + 1) _ + 0 ≤ 7293034; omega⟩ (fun g h H locs hP hD hS => ?_)
    refine lv_istore (lv' := [(6, .int 0), (5, .int 1), (4, .int (nI (5 * t))), (0, .ref b), (1, .ref (z 0)), (2, .ref (y 0)), (3, .ref o0)]) hx hb d_L_law_619 hl (by decide) rfl (fun ls hl => ?_)
    refine lv_aload_n hx hb d_L_law_621 rfl (lv_at hl 5 rfl) ?_
    refine kDR (As := []) (rest := []) ⟨hx, hb, hml, hown, hts⟩ (c_R_thrown l dC dI cZ y 1 F g h) (cwV 0 hts (gV kml_L_61 kim_R_thrown ksl_R_thrown kin_R kcd_R_thrown) rfl rfl rfl (by decide +kernel) ⟨by show 0 + 1 ≤ 2048; omega, by show 8 + (1 + 11) + 0 ≤ 84000; omega⟩) hP hK rfl hl.1 rfl (Nat.le_of_ble_eq_true rfl) d_L_law_622 ⟨by show CC (t + 1) _ ≤ 601024; omega, by show SS (t + 1) _ ≤ 7293034; omega⟩ ?_
    refine lv_iload hx hb d_L_law_625 (lv_at hl 1 rfl) ?_
    refine lv_icmp_eq (tgt := 632) hx hb d_L_law_627 (by decide) (fun c627 => ?_) (fun c627 => ?_)
    · refine lv_iload hx hb d_L_law_632 (lv_at hl 1 rfl) ?_
      refine lv_if_ne (tgt := 656) hx hb d_L_law_634 (by decide) (fun c634 => ?_) (fun c634 => ?_)
      · refine lv_goto (tgt := 915) hx hb d_L_law_656 (by decide) ?_
        refine lv_iinc (v := ((nI (5 * t)) + 5)) (lv' := [(4, .int ((nI (5 * t)) + 5)), (6, .int 0), (5, .int 1), (0, .ref b), (1, .ref (z 0)), (2, .ref (y 0)), (3, .ref o0)]) hx hb d_L_law_915 hl (k := 2) rfl rfl (by decide) rfl (fun ls hl => ?_)
        refine lv_goto (tgt := 23) hx hb d_L_law_918 (by decide) ?_
        rw [show nI (5 * t) + (5 : Int32) = nI (5 * (t + 1)) from by rw [show (5 : Int32) = nI 5 from rfl, nI_add]; rfl] at hl
        exact ih z a bb y N E V o0 f 1 F g h H locs hin2 hP hD hS ls (lv_sub hl [0, 3, 4, 5, 6] rfl)
      · exact absurd c634 (by decide)
    · exact absurd (by decide) c627

set_option maxHeartbeats 8000000 in
set_option maxRecDepth 100000 in
theorem law_same {I : Nat → Mm → Mm → (Nat → Int32) → (Nat → Nat → Bool) → Prop} (hI : LI I) {p : Program} {l : Launch} {e : Env} {s : State} {m : MethodId} {below : List Frame} {meth : Method} {c : Code} {dC : Nat → ClassId} {dI : Nat → Nat → Nat} {cI cJ cZ : ClassId} {b L t : Nat} {xs : Nat → Int32} (hlt : l.stackTraces = false) (hL : L ≤ 2560) (C0 : lw_At p s m meth c b L xs) (hNc : va_Nc xUO xIA s) (hZ : xZ (fun q => s.heap.size ≤ q) s s.heap) (hK : va_K (dC, dI) cls0 [(cI, .int), (cJ, .long), (cZ, .boolean)] s) (ht5 : 5 * t + 5 ≤ L) (ih : LH I p l e s m below meth c dC dI cI cJ cZ b (t + 1)) (z a bb y : Nat → Nat) (N E : Mm) (V : Nat → Int32) (o0 : Nat) (f : Nat → Int64) (fa : Int32) (F : Nat → Nat → Bool) (g h : Nat → Bool) (H : Heap) (locs : List Loc) (hin : I t N E V F) (hP : va_P (dC, dI) cls0 (kW cI cJ cZ z a bb y N E V o0 f fa F g h) H) (hD : va_D (fun q : Nat => s.heap.size ≤ q) (kW cI cJ cZ z a bb y N E V o0 f fa F g h)) (hS : va_S (fun q : Nat => s.heap.size ≤ q) s.heap H locs) (ls : Array Slot) (hl : lv_has ls 7 [(4, .int (nI (5 * t))), (0, .ref b), (1, .ref (z 0)), (2, .ref (y 0)), (3, .ref o0)]) : W p l e room_1 s m #[Value.ref b] below meth c H locs (CC t N) (SS t N) (lw_Z below #[Value.ref b] s) (F0 m 659 ls []) := by
  obtain ⟨q0, q1, q2, q3, q4, q5, q6, q7, q8, q9, q10, q11, q12, q13, q14⟩ := hI
  obtain ⟨hx, hb, hr, hml, hown, hts0, hX, hbl, hlocks, hgv⟩ := C0
  have hown : s.vm.findClass R_L = some m.cls := hown
  have hts : ∀ w ∈ W0, w.before _ s = true := fun w h => hts0 w (W0_tbl w h)
  have hA : ∀ q : Nat, s.heap.size ≤ q → (fun q : Nat => s.heap.size ≤ q) q := fun _ h => h
  have hbA : ¬ (fun q : Nat => s.heap.size ≤ q) b := Nat.not_le.mpr hbl
  obtain ⟨hs0, hv⟩ := q1 t N E V F hin
  obtain ⟨⟨R0, hR, hR1, hR2⟩, -, -⟩ := id hs0
  have hb0 := CC_b (t := t + 1) hs0 (by omega)
  by_cases hno : okb (xs (5 * t + 1)) 32 ∧ okb (xs (5 * t + 2)) 32
  · obtain ⟨k1, k2⟩ := hno
    obtain ⟨i1, h1, e1⟩ := okb_of (n := 32) k1 (by decide)
    obtain ⟨i2, h2, e2⟩ := okb_of (n := 32) k2 (by decide)
    have hin2 := q2 t N E V F hin
    obtain ⟨hc1, hc2⟩ := CC_z (t := t) (N := N)
    obtain ⟨hb1, hb2⟩ := hb0
    have hq : (if V (cl i1) = V (cl i2) then 1 else 0 : Int32) = zb (!dif (F i1) (F i2) 4096) := zb_sm (q10 t N E V F i1 i2 hin h1 h2)
    refine lv_aload_n hx hb d_L_law_659 rfl (lv_at hl 2 rfl) ?_
    refine lv_aload_n hx hb d_L_law_660 rfl (lv_at hl 1 rfl) ?_
    refine lv_iload hx hb d_L_law_661 (lv_at hl 0 rfl) ?_
    refine lv_iconst (v := 1) hx hb d_L_law_663 (by decide) ?_
    refine lv_iadd hx hb d_L_law_664 ?_
    rw [show nI (5 * t) + (1 : Int32) = nI (5 * t + 1) from nI_add _ 1]
    refine va_sld hx hb hX hbl hbA hS (vp_in_nI (by omega) (by omega)) d_L_law_665 ?_
    rw [nI_clamp (n := 5 * t + 1) (by omega)]
    rw [e1]
    refine lv_aload_n hx hb d_L_law_666 rfl (lv_at hl 1 rfl) ?_
    refine lv_iload hx hb d_L_law_667 (lv_at hl 0 rfl) ?_
    refine lv_iconst (v := 2) hx hb d_L_law_669 (by decide) ?_
    refine lv_iadd hx hb d_L_law_670 ?_
    rw [show nI (5 * t) + (2 : Int32) = nI (5 * t + 2) from nI_add _ 2]
    refine va_sld hx hb hX hbl hbA hS (vp_in_nI (by omega) (by omega)) d_L_law_671 ?_
    rw [nI_clamp (n := 5 * t + 2) (by omega)]
    rw [e2]
    refine lv_aload_n hx hb d_L_law_672 rfl (lv_at hl 4 rfl) ?_
    refine kL (PX := fun _ => True) (As := [.ref (z 0), .int (nI i1), .int (nI i2), .ref o0]) (rest := []) ⟨hx, hb, hml, hown, hts⟩ (cL_same l dC dI cI cJ z a bb N E V o0 f _ (nI i1) (nI i2) (c_S_same l dC dI cI z a bb N E V (nI i1) (nI i2) (okb_n (n := 32) h1 (by decide)) (okb_n (n := 32) h2 (by decide)))) (vx_cwSW 4 hts (gS kml_L_86 kst_L_same kin_L kcw_L_same) rfl rfl rfl (by decide +kernel) ⟨by show 47 + 1 ≤ 2048; omega, by show 8 + (5 + 11) + 2700 ≤ 84000; omega⟩) (fun _ _ _ => trivial) (fun _ _ _ _ _ => trivial) hP hK hD hS hA rfl hl.1 rfl (Nat.le_of_ble_eq_true rfl) d_L_law_673 ⟨by show CC t N + _ ≤ 601024; omega, by show SS t N + _ ≤ 7293034; omega⟩ (fun r9 a f H locs hw hP hD hS => ?_)
    refine W.widen (k := CC (t + 1) N) (n := SS (t + 1) N) hc1 hc2 ?_
    obtain ⟨hw, hf0⟩ := hw
    have hf0 : f 0 = _ := hf0
    have hw : r9 = 0 := hw
    subst hw
    refine lv_istore (lv' := [(5, .int 0), (4, .int (nI (5 * t))), (0, .ref b), (1, .ref (z 0)), (2, .ref (y 0)), (3, .ref o0)]) hx hb d_L_law_676 hl (by decide) rfl (fun ls hl => ?_)
    refine lv_aload_n hx hb d_L_law_678 rfl (lv_at hl 4 rfl) ?_
    refine lv_aload_n hx hb d_L_law_679 rfl (lv_at hl 2 rfl) ?_
    refine lv_iload hx hb d_L_law_680 (lv_at hl 1 rfl) ?_
    refine lv_iconst (v := 1) hx hb d_L_law_682 (by decide) ?_
    refine lv_iadd hx hb d_L_law_683 ?_
    rw [show nI (5 * t) + (1 : Int32) = nI (5 * t + 1) from nI_add _ 1]
    refine va_sld hx hb hX hbl hbA hS (vp_in_nI (by omega) (by omega)) d_L_law_684 ?_
    rw [nI_clamp (n := 5 * t + 1) (by omega)]
    rw [e1]
    refine lv_aload_n hx hb d_L_law_685 rfl (lv_at hl 2 rfl) ?_
    refine lv_iload hx hb d_L_law_686 (lv_at hl 1 rfl) ?_
    refine lv_iconst (v := 2) hx hb d_L_law_688 (by decide) ?_
    refine lv_iadd hx hb d_L_law_689 ?_
    rw [show nI (5 * t) + (2 : Int32) = nI (5 * t + 2) from nI_add _ 2]
    refine va_sld hx hb hX hbl hbA hS (vp_in_nI (by omega) (by omega)) d_L_law_690 ?_
    rw [nI_clamp (n := 5 * t + 2) (by omega)]
    rw [e2]
    refine kDi (As := [.int (nI i1), .int (nI i2)]) (rest := []) ⟨hx, hb, hml, hown, hts⟩ (c_R_same l dC dI cZ y fa F g h _ i1 i2 h1 h2) (cwV 2 hts (gV kml_L_88 kim_R_same ksl_R_same kin_R kcd_R_same) rfl rfl rfl (by decide +kernel) ⟨by show 1 + 1 ≤ 2048; omega, by show 8 + (4 + 11) + 40 ≤ 84000; omega⟩) hP hK hD hS hA rfl hl.1 rfl (Nat.le_of_ble_eq_true rfl) d_L_law_691 ⟨by show CC (t + 1) _ + 0 ≤ 601024; omega, by show SS (t + 1) _ + 0 ≤ 7293034; omega⟩ (fun g h H locs hP hD hS => ?_)
    refine lv_istore (lv' := [(6, .int (zb (!dif (F i1) (F i2) 4096))), (5, .int 0), (4, .int (nI (5 * t))), (0, .ref b), (1, .ref (z 0)), (2, .ref (y 0)), (3, .ref o0)]) hx hb d_L_law_694 hl (by decide) rfl (fun ls hl => ?_)
    refine lv_aload_n hx hb d_L_law_696 rfl (lv_at hl 5 rfl) ?_
    refine kDR (As := []) (rest := []) ⟨hx, hb, hml, hown, hts⟩ (c_R_thrown l dC dI cZ y 0 F g h) (cwV 0 hts (gV kml_L_61 kim_R_thrown ksl_R_thrown kin_R kcd_R_thrown) rfl rfl rfl (by decide +kernel) ⟨by show 0 + 1 ≤ 2048; omega, by show 8 + (1 + 11) + 0 ≤ 84000; omega⟩) hP hK rfl hl.1 rfl (Nat.le_of_ble_eq_true rfl) d_L_law_697 ⟨by show CC (t + 1) _ ≤ 601024; omega, by show SS (t + 1) _ ≤ 7293034; omega⟩ ?_
    refine lv_iload hx hb d_L_law_700 (lv_at hl 1 rfl) ?_
    refine lv_icmp_eq (tgt := 707) hx hb d_L_law_702 (by decide) (fun c702 => ?_) (fun c702 => ?_)
    · refine lv_iload hx hb d_L_law_707 (lv_at hl 1 rfl) ?_
      refine lv_if_ne (tgt := 731) hx hb d_L_law_709 (by decide) (fun c709 => ?_) (fun c709 => ?_)
      · exact absurd (by decide) c709
      · refine lv_aload_n hx hb d_L_law_712 rfl (lv_at hl 6 rfl) ?_
        refine lv_iconst (v := 0) hx hb d_L_law_713 (by decide) ?_
        refine va_lald hx hb hK hP 12 1 rfl rfl (vp_in_nI (show 0 < 1 by decide) (by decide)) d_L_law_714 ?_
        refine lv_iload hx hb d_L_law_715 (lv_at hl 0 rfl) ?_
        refine lv_if_eq (tgt := 724) hx hb d_L_law_717 (by decide) (fun c717 => ?_) (fun c717 => ?_)
        · refine lv_lconst (v := 0) hx hb d_L_law_724 (by decide) ?_
          refine W.lcmp hx hb d_L_law_725 ?_
          refine lv_if_eq (tgt := 731) hx hb d_L_law_726 (by decide) (fun c726 => ?_) (fun c726 => ?_)
          · refine lv_goto (tgt := 915) hx hb d_L_law_731 (by decide) ?_
            refine lv_iinc (v := ((nI (5 * t)) + 5)) (lv' := [(4, .int ((nI (5 * t)) + 5)), (6, .int (zb (!dif (F i1) (F i2) 4096))), (5, .int 0), (0, .ref b), (1, .ref (z 0)), (2, .ref (y 0)), (3, .ref o0)]) hx hb d_L_law_915 hl (k := 2) rfl rfl (by decide) rfl (fun ls hl => ?_)
            refine lv_goto (tgt := 23) hx hb d_L_law_918 (by decide) ?_
            rw [show nI (5 * t) + (5 : Int32) = nI (5 * (t + 1)) from by rw [show (5 : Int32) = nI 5 from rfl, nI_add]; rfl] at hl
            exact ih z a bb y N E V o0 f 0 F g h H locs hin2 hP hD hS ls (lv_sub hl [0, 3, 4, 5, 6] rfl)
          · exact absurd (lc_eq (show f 0 = (0 : Int64) from by rw [hf0, hq]; exact if_pos c717)) c726
        · refine lv_lconst (v := 1) hx hb d_L_law_720 (by decide) ?_
          refine lv_goto (tgt := 725) hx hb d_L_law_721 (by decide) ?_
          refine W.lcmp hx hb d_L_law_725 ?_
          refine lv_if_eq (tgt := 731) hx hb d_L_law_726 (by decide) (fun c726 => ?_) (fun c726 => ?_)
          · refine lv_goto (tgt := 915) hx hb d_L_law_731 (by decide) ?_
            refine lv_iinc (v := ((nI (5 * t)) + 5)) (lv' := [(4, .int ((nI (5 * t)) + 5)), (6, .int (zb (!dif (F i1) (F i2) 4096))), (5, .int 0), (0, .ref b), (1, .ref (z 0)), (2, .ref (y 0)), (3, .ref o0)]) hx hb d_L_law_915 hl (k := 2) rfl rfl (by decide) rfl (fun ls hl => ?_)
            refine lv_goto (tgt := 23) hx hb d_L_law_918 (by decide) ?_
            rw [show nI (5 * t) + (5 : Int32) = nI (5 * (t + 1)) from by rw [show (5 : Int32) = nI 5 from rfl, nI_add]; rfl] at hl
            exact ih z a bb y N E V o0 f 0 F g h H locs hin2 hP hD hS ls (lv_sub hl [0, 3, 4, 5, 6] rfl)
          · exact absurd (lc_eq (show f 0 = (1 : Int64) from by rw [hf0, hq]; exact if_neg c717)) c726
    · exact absurd (by decide) c702
  · obtain ⟨hc1, hc2⟩ := CC_x (t := t) (N := N)
    obtain ⟨hb1, hb2⟩ := hb0
    have hin2 := q2 t N E V F hin
    have hZH : xZ (fun q => s.heap.size ≤ q) s H := hZ.kept (fun q h1 h2 => hS.2.1 q h1 h2)
    have hFz := va_free (wc := lW cI cJ z a bb N E V o0 f) hD hS hA [0, 1, 2, 3, 4, 5, 6, 7, 8, 9, 10, 11, 12] rfl
    refine lv_aload_n hx hb d_L_law_659 rfl (lv_at hl 2 rfl) ?_
    refine lv_aload_n hx hb d_L_law_660 rfl (lv_at hl 1 rfl) ?_
    refine lv_iload hx hb d_L_law_661 (lv_at hl 0 rfl) ?_
    refine lv_iconst (v := 1) hx hb d_L_law_663 (by decide) ?_
    refine lv_iadd hx hb d_L_law_664 ?_
    rw [show nI (5 * t) + (1 : Int32) = nI (5 * t + 1) from nI_add _ 1]
    refine va_sld hx hb hX hbl hbA hS (vp_in_nI (by omega) (by omega)) d_L_law_665 ?_
    rw [nI_clamp (n := 5 * t + 1) (by omega)]
    refine lv_aload_n hx hb d_L_law_666 rfl (lv_at hl 1 rfl) ?_
    refine lv_iload hx hb d_L_law_667 (lv_at hl 0 rfl) ?_
    refine lv_iconst (v := 2) hx hb d_L_law_669 (by decide) ?_
    refine lv_iadd hx hb d_L_law_670 ?_
    rw [show nI (5 * t) + (2 : Int32) = nI (5 * t + 2) from nI_add _ 2]
    refine va_sld hx hb hX hbl hbA hS (vp_in_nI (by omega) (by omega)) d_L_law_671 ?_
    rw [nI_clamp (n := 5 * t + 2) (by omega)]
    refine lv_aload_n hx hb d_L_law_672 rfl (lv_at hl 4 rfl) ?_
    refine kL (PX := fun U => xZ (va_A (lW cI cJ z a bb N E V o0 f) H.size) U U.heap) (As := [.ref (z 0), .int (xs (5 * t + 1)), .int (xs (5 * t + 2)), .ref o0]) (rest := []) ⟨hx, hb, hml, hown, hts⟩ (fL_same l dC dI cI cJ z a bb N E V o0 f _ _ _ hlt hno) (vx_cwSW 4 hts (gS kml_L_86 kst_L_same kin_L kcw_L_same) rfl rfl rfl (by decide +kernel) ⟨by show 47 + 1 ≤ 2048; omega, by show 8 + (5 + 11) + 2700 ≤ 84000; omega⟩) (fun U hU hWu => by show xZ _ U U.heap; rw [hU]; exact (hZH.warm hWu).narrow hFz) (fun U g mk q hq => xZ.same (s := U) (U := U.calling g mk q) (H := U.heap) rfl hq) hP hK hD hS hA rfl hl.1 rfl (Nat.le_of_ble_eq_true rfl) d_L_law_673 ⟨by show CC t N + _ ≤ 601024; omega, by show SS t N + _ ≤ 7293034; omega⟩ (fun r9 a f H locs hw hP hD hS => ?_)
    refine W.widen (k := CC (t + 1) N) (n := SS (t + 1) N) hc1 hc2 ?_
    have hw : r9 = 1 := hw
    subst hw
    refine lv_istore (lv' := [(5, .int 1), (4, .int (nI (5 * t))), (0, .ref b), (1, .ref (z 0)), (2, .ref (y 0)), (3, .ref o0)]) hx hb d_L_law_676 hl (by decide) rfl (fun ls hl => ?_)
    refine lv_aload_n hx hb d_L_law_678 rfl (lv_at hl 4 rfl) ?_
    refine lv_aload_n hx hb d_L_law_679 rfl (lv_at hl 2 rfl) ?_
    refine lv_iload hx hb d_L_law_680 (lv_at hl 1 rfl) ?_
    refine lv_iconst (v := 1) hx hb d_L_law_682 (by decide) ?_
    refine lv_iadd hx hb d_L_law_683 ?_
    rw [show nI (5 * t) + (1 : Int32) = nI (5 * t + 1) from nI_add _ 1]
    refine va_sld hx hb hX hbl hbA hS (vp_in_nI (by omega) (by omega)) d_L_law_684 ?_
    rw [nI_clamp (n := 5 * t + 1) (by omega)]
    refine lv_aload_n hx hb d_L_law_685 rfl (lv_at hl 2 rfl) ?_
    refine lv_iload hx hb d_L_law_686 (lv_at hl 1 rfl) ?_
    refine lv_iconst (v := 2) hx hb d_L_law_688 (by decide) ?_
    refine lv_iadd hx hb d_L_law_689 ?_
    rw [show nI (5 * t) + (2 : Int32) = nI (5 * t + 2) from nI_add _ 2]
    refine va_sld hx hb hX hbl hbA hS (vp_in_nI (by omega) (by omega)) d_L_law_690 ?_
    rw [nI_clamp (n := 5 * t + 2) (by omega)]
    refine kDi (As := [.int (xs (5 * t + 1)), .int (xs (5 * t + 2))]) (rest := []) ⟨hx, hb, hml, hown, hts⟩ (f_R_same l dC dI cZ y fa F g h _ (xs (5 * t + 1)) (xs (5 * t + 2)) hno) (cwV 2 hts (gV kml_L_88 kim_R_same ksl_R_same kin_R kcd_R_same) rfl rfl rfl (by decide +kernel) ⟨by show 2 + 1 ≤ 2048; omega, by show 8 + (4 + 11) + 70 ≤ 84000; omega⟩) hP hK hD hS hA rfl hl.1 rfl (Nat.le_of_ble_eq_true rfl) d_L_law_691 ⟨by show CC (t + 1) _ + 0 ≤ 601024; omega, by show SS (t + 1) _ + 0 ≤ 7293034; omega⟩ (fun g h H locs hP hD hS => ?_)
    refine lv_istore (lv' := [(6, .int 0), (5, .int 1), (4, .int (nI (5 * t))), (0, .ref b), (1, .ref (z 0)), (2, .ref (y 0)), (3, .ref o0)]) hx hb d_L_law_694 hl (by decide) rfl (fun ls hl => ?_)
    refine lv_aload_n hx hb d_L_law_696 rfl (lv_at hl 5 rfl) ?_
    refine kDR (As := []) (rest := []) ⟨hx, hb, hml, hown, hts⟩ (c_R_thrown l dC dI cZ y 1 F g h) (cwV 0 hts (gV kml_L_61 kim_R_thrown ksl_R_thrown kin_R kcd_R_thrown) rfl rfl rfl (by decide +kernel) ⟨by show 0 + 1 ≤ 2048; omega, by show 8 + (1 + 11) + 0 ≤ 84000; omega⟩) hP hK rfl hl.1 rfl (Nat.le_of_ble_eq_true rfl) d_L_law_697 ⟨by show CC (t + 1) _ ≤ 601024; omega, by show SS (t + 1) _ ≤ 7293034; omega⟩ ?_
    refine lv_iload hx hb d_L_law_700 (lv_at hl 1 rfl) ?_
    refine lv_icmp_eq (tgt := 707) hx hb d_L_law_702 (by decide) (fun c702 => ?_) (fun c702 => ?_)
    · refine lv_iload hx hb d_L_law_707 (lv_at hl 1 rfl) ?_
      refine lv_if_ne (tgt := 731) hx hb d_L_law_709 (by decide) (fun c709 => ?_) (fun c709 => ?_)
      · refine lv_goto (tgt := 915) hx hb d_L_law_731 (by decide) ?_
        refine lv_iinc (v := ((nI (5 * t)) + 5)) (lv' := [(4, .int ((nI (5 * t)) + 5)), (6, .int 0), (5, .int 1), (0, .ref b), (1, .ref (z 0)), (2, .ref (y 0)), (3, .ref o0)]) hx hb d_L_law_915 hl (k := 2) rfl rfl (by decide) rfl (fun ls hl => ?_)
        refine lv_goto (tgt := 23) hx hb d_L_law_918 (by decide) ?_
        rw [show nI (5 * t) + (5 : Int32) = nI (5 * (t + 1)) from by rw [show (5 : Int32) = nI 5 from rfl, nI_add]; rfl] at hl
        exact ih z a bb y N E V o0 f 1 F g h H locs hin2 hP hD hS ls (lv_sub hl [0, 3, 4, 5, 6] rfl)
      · exact absurd c709 (by decide)
    · exact absurd (by decide) c702

set_option maxHeartbeats 8000000 in
set_option maxRecDepth 100000 in
theorem law_count {I : Nat → Mm → Mm → (Nat → Int32) → (Nat → Nat → Bool) → Prop} (hI : LI I) {p : Program} {l : Launch} {e : Env} {s : State} {m : MethodId} {below : List Frame} {meth : Method} {c : Code} {dC : Nat → ClassId} {dI : Nat → Nat → Nat} {cI cJ cZ : ClassId} {b L t : Nat} {xs : Nat → Int32} (hlt : l.stackTraces = false) (hL : L ≤ 2560) (C0 : lw_At p s m meth c b L xs) (hNc : va_Nc xUO xIA s) (hZ : xZ (fun q => s.heap.size ≤ q) s s.heap) (hK : va_K (dC, dI) cls0 [(cI, .int), (cJ, .long), (cZ, .boolean)] s) (ht5 : 5 * t + 5 ≤ L) (ih : LH I p l e s m below meth c dC dI cI cJ cZ b (t + 1)) (z a bb y : Nat → Nat) (N E : Mm) (V : Nat → Int32) (o0 : Nat) (f : Nat → Int64) (fa : Int32) (F : Nat → Nat → Bool) (g h : Nat → Bool) (H : Heap) (locs : List Loc) (hin : I t N E V F) (hP : va_P (dC, dI) cls0 (kW cI cJ cZ z a bb y N E V o0 f fa F g h) H) (hD : va_D (fun q : Nat => s.heap.size ≤ q) (kW cI cJ cZ z a bb y N E V o0 f fa F g h)) (hS : va_S (fun q : Nat => s.heap.size ≤ q) s.heap H locs) (ls : Array Slot) (hl : lv_has ls 7 [(4, .int (nI (5 * t))), (0, .ref b), (1, .ref (z 0)), (2, .ref (y 0)), (3, .ref o0)]) : W p l e room_1 s m #[Value.ref b] below meth c H locs (CC t N) (SS t N) (lw_Z below #[Value.ref b] s) (F0 m 734 ls []) := by
  obtain ⟨q0, q1, q2, q3, q4, q5, q6, q7, q8, q9, q10, q11, q12, q13, q14⟩ := hI
  obtain ⟨hx, hb, hr, hml, hown, hts0, hX, hbl, hlocks, hgv⟩ := C0
  have hown : s.vm.findClass R_L = some m.cls := hown
  have hts : ∀ w ∈ W0, w.before _ s = true := fun w h => hts0 w (W0_tbl w h)
  have hA : ∀ q : Nat, s.heap.size ≤ q → (fun q : Nat => s.heap.size ≤ q) q := fun _ h => h
  have hbA : ¬ (fun q : Nat => s.heap.size ≤ q) b := Nat.not_le.mpr hbl
  obtain ⟨hs0, hv⟩ := q1 t N E V F hin
  obtain ⟨⟨R0, hR, hR1, hR2⟩, -, -⟩ := id hs0
  have hb0 := CC_b (t := t + 1) hs0 (by omega)
  by_cases hno : okb (xs (5 * t + 1)) 32
  · have k1 := hno
    obtain ⟨i1, h1, e1⟩ := okb_of (n := 32) k1 (by decide)
    obtain ⟨E', r, hres⟩ := ex2 (j_hang 12 N (j_forget E) (V (cl i1)))
    obtain ⟨hin2, hrg⟩ := q11 t N E V F i1 E' r hin (by omega) h1 hres
    obtain ⟨hb1, hb2⟩ := hb0
    by_cases hev2 : hgI (F i1) 12 &&& 2730 = 0
    · have hev1 : r &&& (-1366) = 0 := by rw [hrg, hg_ev]; exact hev2
      obtain ⟨hc1, hc2⟩ := CC_z (t := t) (N := N)
      have hq := q12 t N E V F i1 hin h1 hev2
      refine lv_aload_n hx hb d_L_law_734 rfl (lv_at hl 2 rfl) ?_
      refine lv_aload_n hx hb d_L_law_735 rfl (lv_at hl 1 rfl) ?_
      refine lv_iload hx hb d_L_law_736 (lv_at hl 0 rfl) ?_
      refine lv_iconst (v := 1) hx hb d_L_law_738 (by decide) ?_
      refine lv_iadd hx hb d_L_law_739 ?_
      rw [show nI (5 * t) + (1 : Int32) = nI (5 * t + 1) from nI_add _ 1]
      refine va_sld hx hb hX hbl hbA hS (vp_in_nI (by omega) (by omega)) d_L_law_740 ?_
      rw [nI_clamp (n := 5 * t + 1) (by omega)]
      rw [e1]
      refine lv_aload_n hx hb d_L_law_741 rfl (lv_at hl 4 rfl) ?_
      refine kL (PX := fun _ => True) (As := [.ref (z 0), .int (nI i1), .ref o0]) (rest := []) ⟨hx, hb, hml, hown, hts⟩ (cL_count l dC dI cI cJ z a bb N E V o0 f _ (nI i1) (fun x u h => h) (c_S_count l dC dI cI z a bb N E V _ (nI i1) (okb_n (n := 32) h1 (by decide)) hres hev1)) (vx_cwSW 3 hts (gS kml_L_89 kst_L_count kin_L kcw_L_count) rfl rfl rfl (by decide +kernel) ⟨by show 47 + 1 ≤ 2048; omega, by show 8 + (4 + 11) + 2700 ≤ 84000; omega⟩) (fun _ _ _ => trivial) (fun _ _ _ _ _ => trivial) hP hK hD hS hA rfl hl.1 rfl (Nat.le_of_ble_eq_true rfl) d_L_law_742 ⟨by show CC t N + _ ≤ 601024; omega, by show SS t N + _ ≤ 7293034; omega⟩ (fun r9 a f H locs hw hP hD hS => ?_)
      refine W.widen (k := CC (t + 1) N) (n := SS (t + 1) N) hc1 hc2 ?_
      obtain ⟨hw, hf0⟩ := hw
      have hf0 : f 0 = _ := hf0
      have hw : r9 = 0 := hw
      subst hw
      refine lv_istore (lv' := [(5, .int 0), (4, .int (nI (5 * t))), (0, .ref b), (1, .ref (z 0)), (2, .ref (y 0)), (3, .ref o0)]) hx hb d_L_law_745 hl (by decide) rfl (fun ls hl => ?_)
      refine lv_aload_n hx hb d_L_law_747 rfl (lv_at hl 4 rfl) ?_
      refine lv_aload_n hx hb d_L_law_748 rfl (lv_at hl 2 rfl) ?_
      refine lv_iload hx hb d_L_law_749 (lv_at hl 1 rfl) ?_
      refine lv_iconst (v := 1) hx hb d_L_law_751 (by decide) ?_
      refine lv_iadd hx hb d_L_law_752 ?_
      rw [show nI (5 * t) + (1 : Int32) = nI (5 * t + 1) from nI_add _ 1]
      refine va_sld hx hb hX hbl hbA hS (vp_in_nI (by omega) (by omega)) d_L_law_753 ?_
      rw [nI_clamp (n := 5 * t + 1) (by omega)]
      rw [e1]
      refine kDi (As := [.int (nI i1)]) (rest := []) ⟨hx, hb, hml, hown, hts⟩ (c_R_count l dC dI cZ y fa F g h _ i1 h1 hev2) (cwV 1 hts (gV kml_L_92 kim_R_count ksl_R_count kin_R kcd_R_count) rfl rfl rfl (by decide +kernel) ⟨by show 2 + 1 ≤ 2048; omega, by show 8 + (4 + 11) + 70 ≤ 84000; omega⟩) hP hK hD hS hA rfl hl.1 rfl (Nat.le_of_ble_eq_true rfl) d_L_law_754 ⟨by show CC (t + 1) _ + 0 ≤ 601024; omega, by show SS (t + 1) _ + 0 ≤ 7293034; omega⟩ (fun g h H locs hP hD hS => ?_)
      refine lv_istore (lv' := [(6, .int (nI (cntb (F i1) 4096 / 64))), (5, .int 0), (4, .int (nI (5 * t))), (0, .ref b), (1, .ref (z 0)), (2, .ref (y 0)), (3, .ref o0)]) hx hb d_L_law_757 hl (by decide) rfl (fun ls hl => ?_)
      refine lv_aload_n hx hb d_L_law_759 rfl (lv_at hl 5 rfl) ?_
      refine kDR (As := []) (rest := []) ⟨hx, hb, hml, hown, hts⟩ (c_R_thrown l dC dI cZ y 0 F g h) (cwV 0 hts (gV kml_L_61 kim_R_thrown ksl_R_thrown kin_R kcd_R_thrown) rfl rfl rfl (by decide +kernel) ⟨by show 0 + 1 ≤ 2048; omega, by show 8 + (1 + 11) + 0 ≤ 84000; omega⟩) hP hK rfl hl.1 rfl (Nat.le_of_ble_eq_true rfl) d_L_law_760 ⟨by show CC (t + 1) _ ≤ 601024; omega, by show SS (t + 1) _ ≤ 7293034; omega⟩ ?_
      refine lv_iload hx hb d_L_law_763 (lv_at hl 1 rfl) ?_
      refine lv_icmp_eq (tgt := 770) hx hb d_L_law_765 (by decide) (fun c765 => ?_) (fun c765 => ?_)
      · refine lv_iload hx hb d_L_law_770 (lv_at hl 1 rfl) ?_
        refine lv_if_ne (tgt := 787) hx hb d_L_law_772 (by decide) (fun c772 => ?_) (fun c772 => ?_)
        · exact absurd (by decide) c772
        · refine lv_aload_n hx hb d_L_law_775 rfl (lv_at hl 6 rfl) ?_
          refine lv_iconst (v := 0) hx hb d_L_law_776 (by decide) ?_
          refine va_lald hx hb hK hP 12 1 rfl rfl (vp_in_nI (show 0 < 1 by decide) (by decide)) d_L_law_777 ?_
          refine lv_iload hx hb d_L_law_778 (lv_at hl 0 rfl) ?_
          refine lv_i2l (v := (nI (cntb (F i1) 4096 / 64)).toInt64) hx hb d_L_law_780 rfl ?_
          refine W.lcmp hx hb d_L_law_781 ?_
          refine lv_if_eq (tgt := 787) hx hb d_L_law_782 (by decide) (fun c782 => ?_) (fun c782 => ?_)
          · refine lv_goto (tgt := 915) hx hb d_L_law_787 (by decide) ?_
            refine lv_iinc (v := ((nI (5 * t)) + 5)) (lv' := [(4, .int ((nI (5 * t)) + 5)), (6, .int (nI (cntb (F i1) 4096 / 64))), (5, .int 0), (0, .ref b), (1, .ref (z 0)), (2, .ref (y 0)), (3, .ref o0)]) hx hb d_L_law_915 hl (k := 2) rfl rfl (by decide) rfl (fun ls hl => ?_)
            refine lv_goto (tgt := 23) hx hb d_L_law_918 (by decide) ?_
            rw [show nI (5 * t) + (5 : Int32) = nI (5 * (t + 1)) from by rw [show (5 : Int32) = nI 5 from rfl, nI_add]; rfl] at hl
            exact ih z a bb y N E' V o0 f 0 F g h H locs hin2 hP hD hS ls (lv_sub hl [0, 3, 4, 5, 6] rfl)
          · exact absurd (lc_eq (show f 0 = _ from by rw [hf0, hq])) c782
      · exact absurd (by decide) c765
    · have hev1 : ¬ r &&& (-1366) = 0 := by rw [hrg, hg_ev]; exact hev2
      obtain ⟨hc1, hc2⟩ := CC_x (t := t) (N := N)
      have hZH : xZ (fun q => s.heap.size ≤ q) s H := hZ.kept (fun q h1 h2 => hS.2.1 q h1 h2)
      have hFz := va_free (wc := lW cI cJ z a bb N E V o0 f) hD hS hA [0, 1, 2, 3, 4, 5, 6, 7, 8, 9, 10, 11, 12] rfl
      refine lv_aload_n hx hb d_L_law_734 rfl (lv_at hl 2 rfl) ?_
      refine lv_aload_n hx hb d_L_law_735 rfl (lv_at hl 1 rfl) ?_
      refine lv_iload hx hb d_L_law_736 (lv_at hl 0 rfl) ?_
      refine lv_iconst (v := 1) hx hb d_L_law_738 (by decide) ?_
      refine lv_iadd hx hb d_L_law_739 ?_
      rw [show nI (5 * t) + (1 : Int32) = nI (5 * t + 1) from nI_add _ 1]
      refine va_sld hx hb hX hbl hbA hS (vp_in_nI (by omega) (by omega)) d_L_law_740 ?_
      rw [nI_clamp (n := 5 * t + 1) (by omega)]
      rw [e1]
      refine lv_aload_n hx hb d_L_law_741 rfl (lv_at hl 4 rfl) ?_
      refine kL (PX := fun U => xZ (va_A (lW cI cJ z a bb N E V o0 f) H.size) U U.heap ∧ va_Nc xUO xIA U) (As := [.ref (z 0), .int (nI i1), .ref o0]) (rest := []) ⟨hx, hb, hml, hown, hts⟩ (gL_count l dC dI cI cJ z a bb N E V o0 f _ (nI i1) hlt (okb_n (n := 32) h1 (by decide)) hres hev1) (vx_cwSW 3 hts (gS kml_L_89 kst_L_count kin_L kcw_L_count) rfl rfl rfl (by decide +kernel) ⟨by show 47 + 1 ≤ 2048; omega, by show 8 + (4 + 11) + 2700 ≤ 84000; omega⟩) (fun U hU hWu => ⟨by show xZ _ U U.heap; rw [hU]; exact (hZH.warm hWu).narrow hFz, hNc.moved hWu.alike⟩) (fun U g mk q hq => ⟨xZ.same (s := U) (U := U.calling g mk q) (H := U.heap) rfl hq.1, hq.2.moved (u := U) (U := U.calling g mk q) (Vm.Alike.refl U.vm)⟩) hP hK hD hS hA rfl hl.1 rfl (Nat.le_of_ble_eq_true rfl) d_L_law_742 ⟨by show CC t N + _ ≤ 601024; omega, by show SS t N + _ ≤ 7293034; omega⟩ (fun r9 a f H locs hw hP hD hS => ?_)
      refine W.widen (k := CC (t + 1) N) (n := SS (t + 1) N) hc1 hc2 ?_
      have hw : r9 = 2 := hw
      subst hw
      refine lv_istore (lv' := [(5, .int 2), (4, .int (nI (5 * t))), (0, .ref b), (1, .ref (z 0)), (2, .ref (y 0)), (3, .ref o0)]) hx hb d_L_law_745 hl (by decide) rfl (fun ls hl => ?_)
      refine lv_aload_n hx hb d_L_law_747 rfl (lv_at hl 4 rfl) ?_
      refine lv_aload_n hx hb d_L_law_748 rfl (lv_at hl 2 rfl) ?_
      refine lv_iload hx hb d_L_law_749 (lv_at hl 1 rfl) ?_
      refine lv_iconst (v := 1) hx hb d_L_law_751 (by decide) ?_
      refine lv_iadd hx hb d_L_law_752 ?_
      rw [show nI (5 * t) + (1 : Int32) = nI (5 * t + 1) from nI_add _ 1]
      refine va_sld hx hb hX hbl hbA hS (vp_in_nI (by omega) (by omega)) d_L_law_753 ?_
      rw [nI_clamp (n := 5 * t + 1) (by omega)]
      rw [e1]
      refine kDi (As := [.int (nI i1)]) (rest := []) ⟨hx, hb, hml, hown, hts⟩ (d_R_count l dC dI cZ y fa F g h _ i1 h1 hev2) (cwV 1 hts (gV kml_L_92 kim_R_count ksl_R_count kin_R kcd_R_count) rfl rfl rfl (by decide +kernel) ⟨by show 2 + 1 ≤ 2048; omega, by show 8 + (4 + 11) + 70 ≤ 84000; omega⟩) hP hK hD hS hA rfl hl.1 rfl (Nat.le_of_ble_eq_true rfl) d_L_law_754 ⟨by show CC (t + 1) _ + 0 ≤ 601024; omega, by show SS (t + 1) _ + 0 ≤ 7293034; omega⟩ (fun g h H locs hP hD hS => ?_)
      refine lv_istore (lv' := [(6, .int 0), (5, .int 2), (4, .int (nI (5 * t))), (0, .ref b), (1, .ref (z 0)), (2, .ref (y 0)), (3, .ref o0)]) hx hb d_L_law_757 hl (by decide) rfl (fun ls hl => ?_)
      refine lv_aload_n hx hb d_L_law_759 rfl (lv_at hl 5 rfl) ?_
      refine kDR (As := []) (rest := []) ⟨hx, hb, hml, hown, hts⟩ (c_R_thrown l dC dI cZ y 2 F g h) (cwV 0 hts (gV kml_L_61 kim_R_thrown ksl_R_thrown kin_R kcd_R_thrown) rfl rfl rfl (by decide +kernel) ⟨by show 0 + 1 ≤ 2048; omega, by show 8 + (1 + 11) + 0 ≤ 84000; omega⟩) hP hK rfl hl.1 rfl (Nat.le_of_ble_eq_true rfl) d_L_law_760 ⟨by show CC (t + 1) _ ≤ 601024; omega, by show SS (t + 1) _ ≤ 7293034; omega⟩ ?_
      refine lv_iload hx hb d_L_law_763 (lv_at hl 1 rfl) ?_
      refine lv_icmp_eq (tgt := 770) hx hb d_L_law_765 (by decide) (fun c765 => ?_) (fun c765 => ?_)
      · refine lv_iload hx hb d_L_law_770 (lv_at hl 1 rfl) ?_
        refine lv_if_ne (tgt := 787) hx hb d_L_law_772 (by decide) (fun c772 => ?_) (fun c772 => ?_)
        · refine lv_goto (tgt := 915) hx hb d_L_law_787 (by decide) ?_
          refine lv_iinc (v := ((nI (5 * t)) + 5)) (lv' := [(4, .int ((nI (5 * t)) + 5)), (6, .int 0), (5, .int 2), (0, .ref b), (1, .ref (z 0)), (2, .ref (y 0)), (3, .ref o0)]) hx hb d_L_law_915 hl (k := 2) rfl rfl (by decide) rfl (fun ls hl => ?_)
          refine lv_goto (tgt := 23) hx hb d_L_law_918 (by decide) ?_
          rw [show nI (5 * t) + (5 : Int32) = nI (5 * (t + 1)) from by rw [show (5 : Int32) = nI 5 from rfl, nI_add]; rfl] at hl
          exact ih z a bb y N E' V o0 f 2 F g h H locs hin2 hP hD hS ls (lv_sub hl [0, 3, 4, 5, 6] rfl)
        · exact absurd c772 (by decide)
      · exact absurd (by decide) c765
  · obtain ⟨hc1, hc2⟩ := CC_x (t := t) (N := N)
    obtain ⟨hb1, hb2⟩ := hb0
    have hin2 := q2 t N E V F hin
    have hZH : xZ (fun q => s.heap.size ≤ q) s H := hZ.kept (fun q h1 h2 => hS.2.1 q h1 h2)
    have hFz := va_free (wc := lW cI cJ z a bb N E V o0 f) hD hS hA [0, 1, 2, 3, 4, 5, 6, 7, 8, 9, 10, 11, 12] rfl
    refine lv_aload_n hx hb d_L_law_734 rfl (lv_at hl 2 rfl) ?_
    refine lv_aload_n hx hb d_L_law_735 rfl (lv_at hl 1 rfl) ?_
    refine lv_iload hx hb d_L_law_736 (lv_at hl 0 rfl) ?_
    refine lv_iconst (v := 1) hx hb d_L_law_738 (by decide) ?_
    refine lv_iadd hx hb d_L_law_739 ?_
    rw [show nI (5 * t) + (1 : Int32) = nI (5 * t + 1) from nI_add _ 1]
    refine va_sld hx hb hX hbl hbA hS (vp_in_nI (by omega) (by omega)) d_L_law_740 ?_
    rw [nI_clamp (n := 5 * t + 1) (by omega)]
    refine lv_aload_n hx hb d_L_law_741 rfl (lv_at hl 4 rfl) ?_
    refine kL (PX := fun U => xZ (va_A (lW cI cJ z a bb N E V o0 f) H.size) U U.heap) (As := [.ref (z 0), .int (xs (5 * t + 1)), .ref o0]) (rest := []) ⟨hx, hb, hml, hown, hts⟩ (fL_count l dC dI cI cJ z a bb N E V o0 f _ _ hlt hno) (vx_cwSW 3 hts (gS kml_L_89 kst_L_count kin_L kcw_L_count) rfl rfl rfl (by decide +kernel) ⟨by show 47 + 1 ≤ 2048; omega, by show 8 + (4 + 11) + 2700 ≤ 84000; omega⟩) (fun U hU hWu => by show xZ _ U U.heap; rw [hU]; exact (hZH.warm hWu).narrow hFz) (fun U g mk q hq => xZ.same (s := U) (U := U.calling g mk q) (H := U.heap) rfl hq) hP hK hD hS hA rfl hl.1 rfl (Nat.le_of_ble_eq_true rfl) d_L_law_742 ⟨by show CC t N + _ ≤ 601024; omega, by show SS t N + _ ≤ 7293034; omega⟩ (fun r9 a f H locs hw hP hD hS => ?_)
    refine W.widen (k := CC (t + 1) N) (n := SS (t + 1) N) hc1 hc2 ?_
    have hw : r9 = 1 := hw
    subst hw
    refine lv_istore (lv' := [(5, .int 1), (4, .int (nI (5 * t))), (0, .ref b), (1, .ref (z 0)), (2, .ref (y 0)), (3, .ref o0)]) hx hb d_L_law_745 hl (by decide) rfl (fun ls hl => ?_)
    refine lv_aload_n hx hb d_L_law_747 rfl (lv_at hl 4 rfl) ?_
    refine lv_aload_n hx hb d_L_law_748 rfl (lv_at hl 2 rfl) ?_
    refine lv_iload hx hb d_L_law_749 (lv_at hl 1 rfl) ?_
    refine lv_iconst (v := 1) hx hb d_L_law_751 (by decide) ?_
    refine lv_iadd hx hb d_L_law_752 ?_
    rw [show nI (5 * t) + (1 : Int32) = nI (5 * t + 1) from nI_add _ 1]
    refine va_sld hx hb hX hbl hbA hS (vp_in_nI (by omega) (by omega)) d_L_law_753 ?_
    rw [nI_clamp (n := 5 * t + 1) (by omega)]
    refine kDi (As := [.int (xs (5 * t + 1))]) (rest := []) ⟨hx, hb, hml, hown, hts⟩ (f_R_count l dC dI cZ y fa F g h _ (xs (5 * t + 1)) hno) (cwV 1 hts (gV kml_L_92 kim_R_count ksl_R_count kin_R kcd_R_count) rfl rfl rfl (by decide +kernel) ⟨by show 2 + 1 ≤ 2048; omega, by show 8 + (4 + 11) + 70 ≤ 84000; omega⟩) hP hK hD hS hA rfl hl.1 rfl (Nat.le_of_ble_eq_true rfl) d_L_law_754 ⟨by show CC (t + 1) _ + 0 ≤ 601024; omega, by show SS (t + 1) _ + 0 ≤ 7293034; omega⟩ (fun g h H locs hP hD hS => ?_)
    refine lv_istore (lv' := [(6, .int 0), (5, .int 1), (4, .int (nI (5 * t))), (0, .ref b), (1, .ref (z 0)), (2, .ref (y 0)), (3, .ref o0)]) hx hb d_L_law_757 hl (by decide) rfl (fun ls hl => ?_)
    refine lv_aload_n hx hb d_L_law_759 rfl (lv_at hl 5 rfl) ?_
    refine kDR (As := []) (rest := []) ⟨hx, hb, hml, hown, hts⟩ (c_R_thrown l dC dI cZ y 1 F g h) (cwV 0 hts (gV kml_L_61 kim_R_thrown ksl_R_thrown kin_R kcd_R_thrown) rfl rfl rfl (by decide +kernel) ⟨by show 0 + 1 ≤ 2048; omega, by show 8 + (1 + 11) + 0 ≤ 84000; omega⟩) hP hK rfl hl.1 rfl (Nat.le_of_ble_eq_true rfl) d_L_law_760 ⟨by show CC (t + 1) _ ≤ 601024; omega, by show SS (t + 1) _ ≤ 7293034; omega⟩ ?_
    refine lv_iload hx hb d_L_law_763 (lv_at hl 1 rfl) ?_
    refine lv_icmp_eq (tgt := 770) hx hb d_L_law_765 (by decide) (fun c765 => ?_) (fun c765 => ?_)
    · refine lv_iload hx hb d_L_law_770 (lv_at hl 1 rfl) ?_
      refine lv_if_ne (tgt := 787) hx hb d_L_law_772 (by decide) (fun c772 => ?_) (fun c772 => ?_)
      · refine lv_goto (tgt := 915) hx hb d_L_law_787 (by decide) ?_
        refine lv_iinc (v := ((nI (5 * t)) + 5)) (lv' := [(4, .int ((nI (5 * t)) + 5)), (6, .int 0), (5, .int 1), (0, .ref b), (1, .ref (z 0)), (2, .ref (y 0)), (3, .ref o0)]) hx hb d_L_law_915 hl (k := 2) rfl rfl (by decide) rfl (fun ls hl => ?_)
        refine lv_goto (tgt := 23) hx hb d_L_law_918 (by decide) ?_
        rw [show nI (5 * t) + (5 : Int32) = nI (5 * (t + 1)) from by rw [show (5 : Int32) = nI 5 from rfl, nI_add]; rfl] at hl
        exact ih z a bb y N E V o0 f 1 F g h H locs hin2 hP hD hS ls (lv_sub hl [0, 3, 4, 5, 6] rfl)
      · exact absurd c772 (by decide)
    · exact absurd (by decide) c765

set_option maxHeartbeats 8000000 in
set_option maxRecDepth 100000 in
theorem law_support {I : Nat → Mm → Mm → (Nat → Int32) → (Nat → Nat → Bool) → Prop} (hI : LI I) {p : Program} {l : Launch} {e : Env} {s : State} {m : MethodId} {below : List Frame} {meth : Method} {c : Code} {dC : Nat → ClassId} {dI : Nat → Nat → Nat} {cI cJ cZ : ClassId} {b L t : Nat} {xs : Nat → Int32} (hlt : l.stackTraces = false) (hL : L ≤ 2560) (C0 : lw_At p s m meth c b L xs) (hNc : va_Nc xUO xIA s) (hZ : xZ (fun q => s.heap.size ≤ q) s s.heap) (hK : va_K (dC, dI) cls0 [(cI, .int), (cJ, .long), (cZ, .boolean)] s) (ht5 : 5 * t + 5 ≤ L) (ih : LH I p l e s m below meth c dC dI cI cJ cZ b (t + 1)) (z a bb y : Nat → Nat) (N E : Mm) (V : Nat → Int32) (o0 : Nat) (f : Nat → Int64) (fa : Int32) (F : Nat → Nat → Bool) (g h : Nat → Bool) (H : Heap) (locs : List Loc) (hin : I t N E V F) (hP : va_P (dC, dI) cls0 (kW cI cJ cZ z a bb y N E V o0 f fa F g h) H) (hD : va_D (fun q : Nat => s.heap.size ≤ q) (kW cI cJ cZ z a bb y N E V o0 f fa F g h)) (hS : va_S (fun q : Nat => s.heap.size ≤ q) s.heap H locs) (ls : Array Slot) (hl : lv_has ls 7 [(4, .int (nI (5 * t))), (0, .ref b), (1, .ref (z 0)), (2, .ref (y 0)), (3, .ref o0)]) : W p l e room_1 s m #[Value.ref b] below meth c H locs (CC t N) (SS t N) (lw_Z below #[Value.ref b] s) (F0 m 790 ls []) := by
  obtain ⟨q0, q1, q2, q3, q4, q5, q6, q7, q8, q9, q10, q11, q12, q13, q14⟩ := hI
  obtain ⟨hx, hb, hr, hml, hown, hts0, hX, hbl, hlocks, hgv⟩ := C0
  have hown : s.vm.findClass R_L = some m.cls := hown
  have hts : ∀ w ∈ W0, w.before _ s = true := fun w h => hts0 w (W0_tbl w h)
  have hA : ∀ q : Nat, s.heap.size ≤ q → (fun q : Nat => s.heap.size ≤ q) q := fun _ h => h
  have hbA : ¬ (fun q : Nat => s.heap.size ≤ q) b := Nat.not_le.mpr hbl
  obtain ⟨hs0, hv⟩ := q1 t N E V F hin
  obtain ⟨⟨R0, hR, hR1, hR2⟩, -, -⟩ := id hs0
  have hb0 := CC_b (t := t + 1) hs0 (by omega)
  by_cases hno : okb (xs (5 * t + 1)) 32
  · have k1 := hno
    obtain ⟨i1, h1, e1⟩ := okb_of (n := 32) k1 (by decide)
    obtain ⟨E', r, hres⟩ := ex2 (j_hang 12 N (j_forget E) (V (cl i1)))
    obtain ⟨hin2, hrg⟩ := q11 t N E V F i1 E' r hin (by omega) h1 hres
    obtain ⟨hc1, hc2⟩ := CC_z (t := t) (N := N)
    obtain ⟨hb1, hb2⟩ := hb0
    have hq : r = hgI (F i1) 12 := hrg
    refine lv_aload_n hx hb d_L_law_790 rfl (lv_at hl 2 rfl) ?_
    refine lv_aload_n hx hb d_L_law_791 rfl (lv_at hl 1 rfl) ?_
    refine lv_iload hx hb d_L_law_792 (lv_at hl 0 rfl) ?_
    refine lv_iconst (v := 1) hx hb d_L_law_794 (by decide) ?_
    refine lv_iadd hx hb d_L_law_795 ?_
    rw [show nI (5 * t) + (1 : Int32) = nI (5 * t + 1) from nI_add _ 1]
    refine va_sld hx hb hX hbl hbA hS (vp_in_nI (by omega) (by omega)) d_L_law_796 ?_
    rw [nI_clamp (n := 5 * t + 1) (by omega)]
    rw [e1]
    refine lv_aload_n hx hb d_L_law_797 rfl (lv_at hl 4 rfl) ?_
    refine kL (PX := fun _ => True) (As := [.ref (z 0), .int (nI i1), .ref o0]) (rest := []) ⟨hx, hb, hml, hown, hts⟩ (cL_support l dC dI cI cJ z a bb N E V o0 f _ (nI i1) (fun x u h => h) (c_S_support l dC dI cI z a bb N E V _ (nI i1) (okb_n (n := 32) h1 (by decide)) hres)) (vx_cwSW 3 hts (gS kml_L_93 kst_L_support kin_L kcw_L_support) rfl rfl rfl (by decide +kernel) ⟨by show 47 + 1 ≤ 2048; omega, by show 8 + (4 + 11) + 2700 ≤ 84000; omega⟩) (fun _ _ _ => trivial) (fun _ _ _ _ _ => trivial) hP hK hD hS hA rfl hl.1 rfl (Nat.le_of_ble_eq_true rfl) d_L_law_798 ⟨by show CC t N + _ ≤ 601024; omega, by show SS t N + _ ≤ 7293034; omega⟩ (fun r9 a f H locs hw hP hD hS => ?_)
    refine W.widen (k := CC (t + 1) N) (n := SS (t + 1) N) hc1 hc2 ?_
    obtain ⟨hw, hf0⟩ := hw
    have hf0 : f 0 = _ := hf0
    have hw : r9 = 0 := hw
    subst hw
    refine lv_istore (lv' := [(5, .int 0), (4, .int (nI (5 * t))), (0, .ref b), (1, .ref (z 0)), (2, .ref (y 0)), (3, .ref o0)]) hx hb d_L_law_801 hl (by decide) rfl (fun ls hl => ?_)
    refine lv_aload_n hx hb d_L_law_803 rfl (lv_at hl 4 rfl) ?_
    refine lv_aload_n hx hb d_L_law_804 rfl (lv_at hl 2 rfl) ?_
    refine lv_iload hx hb d_L_law_805 (lv_at hl 1 rfl) ?_
    refine lv_iconst (v := 1) hx hb d_L_law_807 (by decide) ?_
    refine lv_iadd hx hb d_L_law_808 ?_
    rw [show nI (5 * t) + (1 : Int32) = nI (5 * t + 1) from nI_add _ 1]
    refine va_sld hx hb hX hbl hbA hS (vp_in_nI (by omega) (by omega)) d_L_law_809 ?_
    rw [nI_clamp (n := 5 * t + 1) (by omega)]
    rw [e1]
    refine kDi (As := [.int (nI i1)]) (rest := []) ⟨hx, hb, hml, hown, hts⟩ (c_R_support l dC dI cZ y fa F g h _ i1 h1) (cwV 1 hts (gV kml_L_95 kim_R_support ksl_R_support kin_R kcd_R_support) rfl rfl rfl (by decide +kernel) ⟨by show 2 + 1 ≤ 2048; omega, by show 8 + (2 + 11) + 70 ≤ 84000; omega⟩) hP hK hD hS hA rfl hl.1 rfl (Nat.le_of_ble_eq_true rfl) d_L_law_810 ⟨by show CC (t + 1) _ + 0 ≤ 601024; omega, by show SS (t + 1) _ + 0 ≤ 7293034; omega⟩ (fun g h H locs hP hD hS => ?_)
    refine lv_istore (lv' := [(6, .int (hgI (F i1) 12)), (5, .int 0), (4, .int (nI (5 * t))), (0, .ref b), (1, .ref (z 0)), (2, .ref (y 0)), (3, .ref o0)]) hx hb d_L_law_813 hl (by decide) rfl (fun ls hl => ?_)
    refine lv_aload_n hx hb d_L_law_815 rfl (lv_at hl 5 rfl) ?_
    refine kDR (As := []) (rest := []) ⟨hx, hb, hml, hown, hts⟩ (c_R_thrown l dC dI cZ y 0 F g h) (cwV 0 hts (gV kml_L_61 kim_R_thrown ksl_R_thrown kin_R kcd_R_thrown) rfl rfl rfl (by decide +kernel) ⟨by show 0 + 1 ≤ 2048; omega, by show 8 + (1 + 11) + 0 ≤ 84000; omega⟩) hP hK rfl hl.1 rfl (Nat.le_of_ble_eq_true rfl) d_L_law_816 ⟨by show CC (t + 1) _ ≤ 601024; omega, by show SS (t + 1) _ ≤ 7293034; omega⟩ ?_
    refine lv_iload hx hb d_L_law_819 (lv_at hl 1 rfl) ?_
    refine lv_icmp_eq (tgt := 826) hx hb d_L_law_821 (by decide) (fun c821 => ?_) (fun c821 => ?_)
    · refine lv_iload hx hb d_L_law_826 (lv_at hl 1 rfl) ?_
      refine lv_if_ne (tgt := 843) hx hb d_L_law_828 (by decide) (fun c828 => ?_) (fun c828 => ?_)
      · exact absurd (by decide) c828
      · refine lv_aload_n hx hb d_L_law_831 rfl (lv_at hl 6 rfl) ?_
        refine lv_iconst (v := 0) hx hb d_L_law_832 (by decide) ?_
        refine va_lald hx hb hK hP 12 1 rfl rfl (vp_in_nI (show 0 < 1 by decide) (by decide)) d_L_law_833 ?_
        refine lv_iload hx hb d_L_law_834 (lv_at hl 0 rfl) ?_
        refine lv_i2l (v := (hgI (F i1) 12).toInt64) hx hb d_L_law_836 rfl ?_
        refine W.lcmp hx hb d_L_law_837 ?_
        refine lv_if_eq (tgt := 843) hx hb d_L_law_838 (by decide) (fun c838 => ?_) (fun c838 => ?_)
        · refine lv_goto (tgt := 915) hx hb d_L_law_843 (by decide) ?_
          refine lv_iinc (v := ((nI (5 * t)) + 5)) (lv' := [(4, .int ((nI (5 * t)) + 5)), (6, .int (hgI (F i1) 12)), (5, .int 0), (0, .ref b), (1, .ref (z 0)), (2, .ref (y 0)), (3, .ref o0)]) hx hb d_L_law_915 hl (k := 2) rfl rfl (by decide) rfl (fun ls hl => ?_)
          refine lv_goto (tgt := 23) hx hb d_L_law_918 (by decide) ?_
          rw [show nI (5 * t) + (5 : Int32) = nI (5 * (t + 1)) from by rw [show (5 : Int32) = nI 5 from rfl, nI_add]; rfl] at hl
          exact ih z a bb y N E' V o0 f 0 F g h H locs hin2 hP hD hS ls (lv_sub hl [0, 3, 4, 5, 6] rfl)
        · exact absurd (lc_eq (show f 0 = _ from by rw [hf0, hq])) c838
    · exact absurd (by decide) c821
  · obtain ⟨hc1, hc2⟩ := CC_x (t := t) (N := N)
    obtain ⟨hb1, hb2⟩ := hb0
    have hin2 := q2 t N E V F hin
    have hZH : xZ (fun q => s.heap.size ≤ q) s H := hZ.kept (fun q h1 h2 => hS.2.1 q h1 h2)
    have hFz := va_free (wc := lW cI cJ z a bb N E V o0 f) hD hS hA [0, 1, 2, 3, 4, 5, 6, 7, 8, 9, 10, 11, 12] rfl
    refine lv_aload_n hx hb d_L_law_790 rfl (lv_at hl 2 rfl) ?_
    refine lv_aload_n hx hb d_L_law_791 rfl (lv_at hl 1 rfl) ?_
    refine lv_iload hx hb d_L_law_792 (lv_at hl 0 rfl) ?_
    refine lv_iconst (v := 1) hx hb d_L_law_794 (by decide) ?_
    refine lv_iadd hx hb d_L_law_795 ?_
    rw [show nI (5 * t) + (1 : Int32) = nI (5 * t + 1) from nI_add _ 1]
    refine va_sld hx hb hX hbl hbA hS (vp_in_nI (by omega) (by omega)) d_L_law_796 ?_
    rw [nI_clamp (n := 5 * t + 1) (by omega)]
    refine lv_aload_n hx hb d_L_law_797 rfl (lv_at hl 4 rfl) ?_
    refine kL (PX := fun U => xZ (va_A (lW cI cJ z a bb N E V o0 f) H.size) U U.heap) (As := [.ref (z 0), .int (xs (5 * t + 1)), .ref o0]) (rest := []) ⟨hx, hb, hml, hown, hts⟩ (fL_support l dC dI cI cJ z a bb N E V o0 f _ _ hlt hno) (vx_cwSW 3 hts (gS kml_L_93 kst_L_support kin_L kcw_L_support) rfl rfl rfl (by decide +kernel) ⟨by show 47 + 1 ≤ 2048; omega, by show 8 + (4 + 11) + 2700 ≤ 84000; omega⟩) (fun U hU hWu => by show xZ _ U U.heap; rw [hU]; exact (hZH.warm hWu).narrow hFz) (fun U g mk q hq => xZ.same (s := U) (U := U.calling g mk q) (H := U.heap) rfl hq) hP hK hD hS hA rfl hl.1 rfl (Nat.le_of_ble_eq_true rfl) d_L_law_798 ⟨by show CC t N + _ ≤ 601024; omega, by show SS t N + _ ≤ 7293034; omega⟩ (fun r9 a f H locs hw hP hD hS => ?_)
    refine W.widen (k := CC (t + 1) N) (n := SS (t + 1) N) hc1 hc2 ?_
    have hw : r9 = 1 := hw
    subst hw
    refine lv_istore (lv' := [(5, .int 1), (4, .int (nI (5 * t))), (0, .ref b), (1, .ref (z 0)), (2, .ref (y 0)), (3, .ref o0)]) hx hb d_L_law_801 hl (by decide) rfl (fun ls hl => ?_)
    refine lv_aload_n hx hb d_L_law_803 rfl (lv_at hl 4 rfl) ?_
    refine lv_aload_n hx hb d_L_law_804 rfl (lv_at hl 2 rfl) ?_
    refine lv_iload hx hb d_L_law_805 (lv_at hl 1 rfl) ?_
    refine lv_iconst (v := 1) hx hb d_L_law_807 (by decide) ?_
    refine lv_iadd hx hb d_L_law_808 ?_
    rw [show nI (5 * t) + (1 : Int32) = nI (5 * t + 1) from nI_add _ 1]
    refine va_sld hx hb hX hbl hbA hS (vp_in_nI (by omega) (by omega)) d_L_law_809 ?_
    rw [nI_clamp (n := 5 * t + 1) (by omega)]
    refine kDi (As := [.int (xs (5 * t + 1))]) (rest := []) ⟨hx, hb, hml, hown, hts⟩ (f_R_support l dC dI cZ y fa F g h _ (xs (5 * t + 1)) hno) (cwV 1 hts (gV kml_L_95 kim_R_support ksl_R_support kin_R kcd_R_support) rfl rfl rfl (by decide +kernel) ⟨by show 2 + 1 ≤ 2048; omega, by show 8 + (2 + 11) + 70 ≤ 84000; omega⟩) hP hK hD hS hA rfl hl.1 rfl (Nat.le_of_ble_eq_true rfl) d_L_law_810 ⟨by show CC (t + 1) _ + 0 ≤ 601024; omega, by show SS (t + 1) _ + 0 ≤ 7293034; omega⟩ (fun g h H locs hP hD hS => ?_)
    refine lv_istore (lv' := [(6, .int 0), (5, .int 1), (4, .int (nI (5 * t))), (0, .ref b), (1, .ref (z 0)), (2, .ref (y 0)), (3, .ref o0)]) hx hb d_L_law_813 hl (by decide) rfl (fun ls hl => ?_)
    refine lv_aload_n hx hb d_L_law_815 rfl (lv_at hl 5 rfl) ?_
    refine kDR (As := []) (rest := []) ⟨hx, hb, hml, hown, hts⟩ (c_R_thrown l dC dI cZ y 1 F g h) (cwV 0 hts (gV kml_L_61 kim_R_thrown ksl_R_thrown kin_R kcd_R_thrown) rfl rfl rfl (by decide +kernel) ⟨by show 0 + 1 ≤ 2048; omega, by show 8 + (1 + 11) + 0 ≤ 84000; omega⟩) hP hK rfl hl.1 rfl (Nat.le_of_ble_eq_true rfl) d_L_law_816 ⟨by show CC (t + 1) _ ≤ 601024; omega, by show SS (t + 1) _ ≤ 7293034; omega⟩ ?_
    refine lv_iload hx hb d_L_law_819 (lv_at hl 1 rfl) ?_
    refine lv_icmp_eq (tgt := 826) hx hb d_L_law_821 (by decide) (fun c821 => ?_) (fun c821 => ?_)
    · refine lv_iload hx hb d_L_law_826 (lv_at hl 1 rfl) ?_
      refine lv_if_ne (tgt := 843) hx hb d_L_law_828 (by decide) (fun c828 => ?_) (fun c828 => ?_)
      · refine lv_goto (tgt := 915) hx hb d_L_law_843 (by decide) ?_
        refine lv_iinc (v := ((nI (5 * t)) + 5)) (lv' := [(4, .int ((nI (5 * t)) + 5)), (6, .int 0), (5, .int 1), (0, .ref b), (1, .ref (z 0)), (2, .ref (y 0)), (3, .ref o0)]) hx hb d_L_law_915 hl (k := 2) rfl rfl (by decide) rfl (fun ls hl => ?_)
        refine lv_goto (tgt := 23) hx hb d_L_law_918 (by decide) ?_
        rw [show nI (5 * t) + (5 : Int32) = nI (5 * (t + 1)) from by rw [show (5 : Int32) = nI 5 from rfl, nI_add]; rfl] at hl
        exact ih z a bb y N E V o0 f 1 F g h H locs hin2 hP hD hS ls (lv_sub hl [0, 3, 4, 5, 6] rfl)
      · exact absurd c828 (by decide)
    · exact absurd (by decide) c821

set_option maxHeartbeats 8000000 in
set_option maxRecDepth 100000 in
theorem law_tidy {I : Nat → Mm → Mm → (Nat → Int32) → (Nat → Nat → Bool) → Prop} (hI : LI I) {p : Program} {l : Launch} {e : Env} {s : State} {m : MethodId} {below : List Frame} {meth : Method} {c : Code} {dC : Nat → ClassId} {dI : Nat → Nat → Nat} {cI cJ cZ : ClassId} {b L t : Nat} {xs : Nat → Int32} (hlt : l.stackTraces = false) (hL : L ≤ 2560) (C0 : lw_At p s m meth c b L xs) (hNc : va_Nc xUO xIA s) (hZ : xZ (fun q => s.heap.size ≤ q) s s.heap) (hK : va_K (dC, dI) cls0 [(cI, .int), (cJ, .long), (cZ, .boolean)] s) (ht5 : 5 * t + 5 ≤ L) (ih : LH I p l e s m below meth c dC dI cI cJ cZ b (t + 1)) (z a bb y : Nat → Nat) (N E : Mm) (V : Nat → Int32) (o0 : Nat) (f : Nat → Int64) (fa : Int32) (F : Nat → Nat → Bool) (g h : Nat → Bool) (H : Heap) (locs : List Loc) (hin : I t N E V F) (hP : va_P (dC, dI) cls0 (kW cI cJ cZ z a bb y N E V o0 f fa F g h) H) (hD : va_D (fun q : Nat => s.heap.size ≤ q) (kW cI cJ cZ z a bb y N E V o0 f fa F g h)) (hS : va_S (fun q : Nat => s.heap.size ≤ q) s.heap H locs) (ls : Array Slot) (hl : lv_has ls 7 [(4, .int (nI (5 * t))), (0, .ref b), (1, .ref (z 0)), (2, .ref (y 0)), (3, .ref o0)]) : W p l e room_1 s m #[Value.ref b] below meth c H locs (CC t N) (SS t N) (lw_Z below #[Value.ref b] s) (F0 m 846 ls []) := by
  obtain ⟨q0, q1, q2, q3, q4, q5, q6, q7, q8, q9, q10, q11, q12, q13, q14⟩ := hI
  obtain ⟨hx, hb, hr, hml, hown, hts0, hX, hbl, hlocks, hgv⟩ := C0
  have hown : s.vm.findClass R_L = some m.cls := hown
  have hts : ∀ w ∈ W0, w.before _ s = true := fun w h => hts0 w (W0_tbl w h)
  have hA : ∀ q : Nat, s.heap.size ≤ q → (fun q : Nat => s.heap.size ≤ q) q := fun _ h => h
  have hbA : ¬ (fun q : Nat => s.heap.size ≤ q) b := Nat.not_le.mpr hbl
  obtain ⟨hs0, hv⟩ := q1 t N E V F hin
  obtain ⟨⟨R0, hR, hR1, hR2⟩, -, -⟩ := id hs0
  have hb0 := CC_b (t := t + 1) hs0 (by omega)
  by_cases hno : okb (xs (5 * t + 1)) 3
  · have k1 := hno
    obtain ⟨i1, h1, e1⟩ := okb_of (n := 3) k1 (by decide)
    obtain ⟨hin2, hle, hC, hq⟩ := q13 t N E V F i1 hin (by omega) h1
    have hs2 := (q1 _ _ _ _ _ hin2).1
    obtain ⟨hc1, hc2⟩ := CC_s (t := t) hs0 hs2 hle rfl
    obtain ⟨hb1, hb2⟩ := CC_b (t := t + 1) hs2 (by omega)
    refine lv_aload_n hx hb d_L_law_846 rfl (lv_at hl 2 rfl) ?_
    refine lv_aload_n hx hb d_L_law_847 rfl (lv_at hl 1 rfl) ?_
    refine lv_iload hx hb d_L_law_848 (lv_at hl 0 rfl) ?_
    refine lv_iconst (v := 1) hx hb d_L_law_850 (by decide) ?_
    refine lv_iadd hx hb d_L_law_851 ?_
    rw [show nI (5 * t) + (1 : Int32) = nI (5 * t + 1) from nI_add _ 1]
    refine va_sld hx hb hX hbl hbA hS (vp_in_nI (by omega) (by omega)) d_L_law_852 ?_
    rw [nI_clamp (n := 5 * t + 1) (by omega)]
    rw [e1]
    refine lv_aload_n hx hb d_L_law_853 rfl (lv_at hl 4 rfl) ?_
    refine kL (PX := fun _ => True) (As := [.ref (z 0), .int (nI i1), .ref o0]) (rest := []) ⟨hx, hb, hml, hown, hts⟩ (cL_tidy l dC dI cI cJ z a bb N E V o0 f _ (nI i1) (fun x u h => h.1) (c_S_tidy l dC dI cI z a bb N E V _ (nI i1) (okb_n (n := 3) h1 (by decide)) hv hC)) (vx_cwSW 3 hts (gS kml_L_96 kst_L_tidy kin_L kcw_L_tidy) rfl rfl rfl (by decide +kernel) ⟨by show 47 + 1 ≤ 2048; omega, by show 8 + (4 + 11) + 2700 ≤ 84000; omega⟩) (fun _ _ _ => trivial) (fun _ _ _ _ _ => trivial) hP hK hD hS hA rfl hl.1 rfl (Nat.le_of_ble_eq_true rfl) d_L_law_854 ⟨by show CC t N + _ ≤ 601024; omega, by show SS t N + _ ≤ 7293034; omega⟩ (fun r9 a f H locs hw hP hD hS => ?_)
    refine W.widen (k := CC (t + 1) (j_tidy N (nI i1))) (n := SS (t + 1) (j_tidy N (nI i1))) hc1 hc2 ?_
    obtain ⟨hw, hf0⟩ := hw
    have hf0 : f 0 = _ := hf0
    have hw : r9 = 0 := hw
    subst hw
    refine lv_istore (lv' := [(5, .int 0), (4, .int (nI (5 * t))), (0, .ref b), (1, .ref (z 0)), (2, .ref (y 0)), (3, .ref o0)]) hx hb d_L_law_857 hl (by decide) rfl (fun ls hl => ?_)
    refine lv_aload_n hx hb d_L_law_859 rfl (lv_at hl 4 rfl) ?_
    refine lv_aload_n hx hb d_L_law_860 rfl (lv_at hl 2 rfl) ?_
    refine lv_iload hx hb d_L_law_861 (lv_at hl 1 rfl) ?_
    refine lv_iconst (v := 1) hx hb d_L_law_863 (by decide) ?_
    refine lv_iadd hx hb d_L_law_864 ?_
    rw [show nI (5 * t) + (1 : Int32) = nI (5 * t + 1) from nI_add _ 1]
    refine va_sld hx hb hX hbl hbA hS (vp_in_nI (by omega) (by omega)) d_L_law_865 ?_
    rw [nI_clamp (n := 5 * t + 1) (by omega)]
    rw [e1]
    refine kDi (As := [.int (nI i1)]) (rest := []) ⟨hx, hb, hml, hown, hts⟩ (c_R_tidy l dC dI cZ y fa F g h _ i1 h1) (cwV 1 hts (gV kml_L_98 kim_R_tidy ksl_R_tidy kin_R kcd_R_tidy) rfl rfl rfl (by decide +kernel) ⟨by show 1 + 1 ≤ 2048; omega, by show 8 + (6 + 11) + 40 ≤ 84000; omega⟩) hP hK hD hS hA rfl hl.1 rfl (Nat.le_of_ble_eq_true rfl) d_L_law_866 ⟨by show CC (t + 1) _ + 0 ≤ 601024; omega, by show SS (t + 1) _ + 0 ≤ 7293034; omega⟩ (fun g h H locs hP hD hS => ?_)
    refine lv_istore (lv' := [(6, .int (nI (cntb (fun a => anyb (F a) 4096) 32))), (5, .int 0), (4, .int (nI (5 * t))), (0, .ref b), (1, .ref (z 0)), (2, .ref (y 0)), (3, .ref o0)]) hx hb d_L_law_869 hl (by decide) rfl (fun ls hl => ?_)
    refine lv_aload_n hx hb d_L_law_871 rfl (lv_at hl 5 rfl) ?_
    refine kDR (As := []) (rest := []) ⟨hx, hb, hml, hown, hts⟩ (c_R_thrown l dC dI cZ y 0 F g h) (cwV 0 hts (gV kml_L_61 kim_R_thrown ksl_R_thrown kin_R kcd_R_thrown) rfl rfl rfl (by decide +kernel) ⟨by show 0 + 1 ≤ 2048; omega, by show 8 + (1 + 11) + 0 ≤ 84000; omega⟩) hP hK rfl hl.1 rfl (Nat.le_of_ble_eq_true rfl) d_L_law_872 ⟨by show CC (t + 1) _ ≤ 601024; omega, by show SS (t + 1) _ ≤ 7293034; omega⟩ ?_
    refine lv_iload hx hb d_L_law_875 (lv_at hl 1 rfl) ?_
    refine lv_icmp_eq (tgt := 882) hx hb d_L_law_877 (by decide) (fun c877 => ?_) (fun c877 => ?_)
    · refine lv_iload hx hb d_L_law_882 (lv_at hl 1 rfl) ?_
      refine lv_if_ne (tgt := 899) hx hb d_L_law_884 (by decide) (fun c884 => ?_) (fun c884 => ?_)
      · exact absurd (by decide) c884
      · refine lv_aload_n hx hb d_L_law_887 rfl (lv_at hl 6 rfl) ?_
        refine lv_iconst (v := 0) hx hb d_L_law_888 (by decide) ?_
        refine va_lald hx hb hK hP 12 1 rfl rfl (vp_in_nI (show 0 < 1 by decide) (by decide)) d_L_law_889 ?_
        refine lv_iload hx hb d_L_law_890 (lv_at hl 0 rfl) ?_
        refine lv_i2l (v := (nI (cntb (fun a => anyb (F a) 4096) 32)).toInt64) hx hb d_L_law_892 rfl ?_
        refine W.lcmp hx hb d_L_law_893 ?_
        refine lv_if_eq (tgt := 899) hx hb d_L_law_894 (by decide) (fun c894 => ?_) (fun c894 => ?_)
        · refine lv_goto (tgt := 915) hx hb d_L_law_899 (by decide) ?_
          refine lv_iinc (v := ((nI (5 * t)) + 5)) (lv' := [(4, .int ((nI (5 * t)) + 5)), (6, .int (nI (cntb (fun a => anyb (F a) 4096) 32))), (5, .int 0), (0, .ref b), (1, .ref (z 0)), (2, .ref (y 0)), (3, .ref o0)]) hx hb d_L_law_915 hl (k := 2) rfl rfl (by decide) rfl (fun ls hl => ?_)
          refine lv_goto (tgt := 23) hx hb d_L_law_918 (by decide) ?_
          rw [show nI (5 * t) + (5 : Int32) = nI (5 * (t + 1)) from by rw [show (5 : Int32) = nI 5 from rfl, nI_add]; rfl] at hl
          exact ih z a bb y (j_tidy N (nI i1)) E V o0 f 0 F g h H locs hin2 hP hD hS ls (lv_sub hl [0, 3, 4, 5, 6] rfl)
        · exact absurd (lc_eq (show f 0 = _ from by rw [hf0, hq])) c894
    · exact absurd (by decide) c877
  · obtain ⟨hc1, hc2⟩ := CC_x (t := t) (N := N)
    obtain ⟨hb1, hb2⟩ := hb0
    have hin2 := q2 t N E V F hin
    have hZH : xZ (fun q => s.heap.size ≤ q) s H := hZ.kept (fun q h1 h2 => hS.2.1 q h1 h2)
    have hFz := va_free (wc := lW cI cJ z a bb N E V o0 f) hD hS hA [0, 1, 2, 3, 4, 5, 6, 7, 8, 9, 10, 11, 12] rfl
    refine lv_aload_n hx hb d_L_law_846 rfl (lv_at hl 2 rfl) ?_
    refine lv_aload_n hx hb d_L_law_847 rfl (lv_at hl 1 rfl) ?_
    refine lv_iload hx hb d_L_law_848 (lv_at hl 0 rfl) ?_
    refine lv_iconst (v := 1) hx hb d_L_law_850 (by decide) ?_
    refine lv_iadd hx hb d_L_law_851 ?_
    rw [show nI (5 * t) + (1 : Int32) = nI (5 * t + 1) from nI_add _ 1]
    refine va_sld hx hb hX hbl hbA hS (vp_in_nI (by omega) (by omega)) d_L_law_852 ?_
    rw [nI_clamp (n := 5 * t + 1) (by omega)]
    refine lv_aload_n hx hb d_L_law_853 rfl (lv_at hl 4 rfl) ?_
    refine kL (PX := fun U => xZ (va_A (lW cI cJ z a bb N E V o0 f) H.size) U U.heap) (As := [.ref (z 0), .int (xs (5 * t + 1)), .ref o0]) (rest := []) ⟨hx, hb, hml, hown, hts⟩ (fL_tidy l dC dI cI cJ z a bb N E V o0 f _ _ hlt hno) (vx_cwSW 3 hts (gS kml_L_96 kst_L_tidy kin_L kcw_L_tidy) rfl rfl rfl (by decide +kernel) ⟨by show 47 + 1 ≤ 2048; omega, by show 8 + (4 + 11) + 2700 ≤ 84000; omega⟩) (fun U hU hWu => by show xZ _ U U.heap; rw [hU]; exact (hZH.warm hWu).narrow hFz) (fun U g mk q hq => xZ.same (s := U) (U := U.calling g mk q) (H := U.heap) rfl hq) hP hK hD hS hA rfl hl.1 rfl (Nat.le_of_ble_eq_true rfl) d_L_law_854 ⟨by show CC t N + _ ≤ 601024; omega, by show SS t N + _ ≤ 7293034; omega⟩ (fun r9 a f H locs hw hP hD hS => ?_)
    refine W.widen (k := CC (t + 1) N) (n := SS (t + 1) N) hc1 hc2 ?_
    have hw : r9 = 1 := hw
    subst hw
    refine lv_istore (lv' := [(5, .int 1), (4, .int (nI (5 * t))), (0, .ref b), (1, .ref (z 0)), (2, .ref (y 0)), (3, .ref o0)]) hx hb d_L_law_857 hl (by decide) rfl (fun ls hl => ?_)
    refine lv_aload_n hx hb d_L_law_859 rfl (lv_at hl 4 rfl) ?_
    refine lv_aload_n hx hb d_L_law_860 rfl (lv_at hl 2 rfl) ?_
    refine lv_iload hx hb d_L_law_861 (lv_at hl 1 rfl) ?_
    refine lv_iconst (v := 1) hx hb d_L_law_863 (by decide) ?_
    refine lv_iadd hx hb d_L_law_864 ?_
    rw [show nI (5 * t) + (1 : Int32) = nI (5 * t + 1) from nI_add _ 1]
    refine va_sld hx hb hX hbl hbA hS (vp_in_nI (by omega) (by omega)) d_L_law_865 ?_
    rw [nI_clamp (n := 5 * t + 1) (by omega)]
    refine kDi (As := [.int (xs (5 * t + 1))]) (rest := []) ⟨hx, hb, hml, hown, hts⟩ (f_R_tidy l dC dI cZ y fa F g h _ (xs (5 * t + 1)) hno) (cwV 1 hts (gV kml_L_98 kim_R_tidy ksl_R_tidy kin_R kcd_R_tidy) rfl rfl rfl (by decide +kernel) ⟨by show 2 + 1 ≤ 2048; omega, by show 8 + (6 + 11) + 70 ≤ 84000; omega⟩) hP hK hD hS hA rfl hl.1 rfl (Nat.le_of_ble_eq_true rfl) d_L_law_866 ⟨by show CC (t + 1) _ + 0 ≤ 601024; omega, by show SS (t + 1) _ + 0 ≤ 7293034; omega⟩ (fun g h H locs hP hD hS => ?_)
    refine lv_istore (lv' := [(6, .int 0), (5, .int 1), (4, .int (nI (5 * t))), (0, .ref b), (1, .ref (z 0)), (2, .ref (y 0)), (3, .ref o0)]) hx hb d_L_law_869 hl (by decide) rfl (fun ls hl => ?_)
    refine lv_aload_n hx hb d_L_law_871 rfl (lv_at hl 5 rfl) ?_
    refine kDR (As := []) (rest := []) ⟨hx, hb, hml, hown, hts⟩ (c_R_thrown l dC dI cZ y 1 F g h) (cwV 0 hts (gV kml_L_61 kim_R_thrown ksl_R_thrown kin_R kcd_R_thrown) rfl rfl rfl (by decide +kernel) ⟨by show 0 + 1 ≤ 2048; omega, by show 8 + (1 + 11) + 0 ≤ 84000; omega⟩) hP hK rfl hl.1 rfl (Nat.le_of_ble_eq_true rfl) d_L_law_872 ⟨by show CC (t + 1) _ ≤ 601024; omega, by show SS (t + 1) _ ≤ 7293034; omega⟩ ?_
    refine lv_iload hx hb d_L_law_875 (lv_at hl 1 rfl) ?_
    refine lv_icmp_eq (tgt := 882) hx hb d_L_law_877 (by decide) (fun c877 => ?_) (fun c877 => ?_)
    · refine lv_iload hx hb d_L_law_882 (lv_at hl 1 rfl) ?_
      refine lv_if_ne (tgt := 899) hx hb d_L_law_884 (by decide) (fun c884 => ?_) (fun c884 => ?_)
      · refine lv_goto (tgt := 915) hx hb d_L_law_899 (by decide) ?_
        refine lv_iinc (v := ((nI (5 * t)) + 5)) (lv' := [(4, .int ((nI (5 * t)) + 5)), (6, .int 0), (5, .int 1), (0, .ref b), (1, .ref (z 0)), (2, .ref (y 0)), (3, .ref o0)]) hx hb d_L_law_915 hl (k := 2) rfl rfl (by decide) rfl (fun ls hl => ?_)
        refine lv_goto (tgt := 23) hx hb d_L_law_918 (by decide) ?_
        rw [show nI (5 * t) + (5 : Int32) = nI (5 * (t + 1)) from by rw [show (5 : Int32) = nI 5 from rfl, nI_add]; rfl] at hl
        exact ih z a bb y N E V o0 f 1 F g h H locs hin2 hP hD hS ls (lv_sub hl [0, 3, 4, 5, 6] rfl)
      · exact absurd c884 (by decide)
    · exact absurd (by decide) c877

set_option maxHeartbeats 8000000 in
set_option maxRecDepth 100000 in
theorem law_wrong {I : Nat → Mm → Mm → (Nat → Int32) → (Nat → Nat → Bool) → Prop} (hI : LI I) {p : Program} {l : Launch} {e : Env} {s : State} {m : MethodId} {below : List Frame} {meth : Method} {c : Code} {dC : Nat → ClassId} {dI : Nat → Nat → Nat} {cI cJ cZ : ClassId} {b L t : Nat} {xs : Nat → Int32} (hlt : l.stackTraces = false) (hL : L ≤ 2560) (C0 : lw_At p s m meth c b L xs) (hNc : va_Nc xUO xIA s) (hZ : xZ (fun q => s.heap.size ≤ q) s s.heap) (hK : va_K (dC, dI) cls0 [(cI, .int), (cJ, .long), (cZ, .boolean)] s) (ht5 : 5 * t + 5 ≤ L) (ih : LH I p l e s m below meth c dC dI cI cJ cZ b (t + 1)) (z a bb y : Nat → Nat) (N E : Mm) (V : Nat → Int32) (o0 : Nat) (f : Nat → Int64) (fa : Int32) (F : Nat → Nat → Bool) (g h : Nat → Bool) (H : Heap) (locs : List Loc) (hin : I t N E V F) (hP : va_P (dC, dI) cls0 (kW cI cJ cZ z a bb y N E V o0 f fa F g h) H) (hD : va_D (fun q : Nat => s.heap.size ≤ q) (kW cI cJ cZ z a bb y N E V o0 f fa F g h)) (hS : va_S (fun q : Nat => s.heap.size ≤ q) s.heap H locs) (ls : Array Slot) (hl : lv_has ls 7 [(4, .int (nI (5 * t))), (0, .ref b), (1, .ref (z 0)), (2, .ref (y 0)), (3, .ref o0)]) : W p l e room_1 s m #[Value.ref b] below meth c H locs (CC t N) (SS t N) (lw_Z below #[Value.ref b] s) (F0 m 902 ls []) := by
  obtain ⟨q0, q1, q2, q3, q4, q5, q6, q7, q8, q9, q10, q11, q12, q13, q14⟩ := hI
  obtain ⟨hx, hb, hr, hml, hown, hts0, hX, hbl, hlocks, hgv⟩ := C0
  have hown : s.vm.findClass R_L = some m.cls := hown
  have hts : ∀ w ∈ W0, w.before _ s = true := fun w h => hts0 w (W0_tbl w h)
  have hA : ∀ q : Nat, s.heap.size ≤ q → (fun q : Nat => s.heap.size ≤ q) q := fun _ h => h
  have hbA : ¬ (fun q : Nat => s.heap.size ≤ q) b := Nat.not_le.mpr hbl
  obtain ⟨hs0, hv⟩ := q1 t N E V F hin
  obtain ⟨⟨R0, hR, hR1, hR2⟩, -, -⟩ := id hs0
  have hb0 := CC_b (t := t + 1) hs0 (by omega)
  obtain ⟨hc1, hc2⟩ := CC_z (t := t) (N := N)
  obtain ⟨hb1, hb2⟩ := hb0
  have hin2 := q2 t N E V F hin
  refine W.widen (k := CC (t + 1) N) (n := SS (t + 1) N) hc1 hc2 ?_
  refine lv_aload_n hx hb d_L_law_902 rfl (lv_at hl 2 rfl) ?_
  refine kTR (As := []) (rest := []) ⟨hx, hb, hml, hown, hts⟩ (c_S_wrong l dC dI cI z a bb N E V) (cwV 0 hts (gV kml_L_99 kim_S_wrong ksl_S_wrong kin_S kcd_S_wrong) rfl rfl rfl (by decide +kernel) ⟨by show 45 + 1 ≤ 2048; omega, by show 8 + (1 + 11) + 2600 ≤ 84000; omega⟩) hP hK rfl hl.1 rfl (Nat.le_of_ble_eq_true rfl) d_L_law_903 ⟨by show CC (t + 1) _ ≤ 601024; omega, by show SS (t + 1) _ ≤ 7293034; omega⟩ ?_
  rw [q14 t N E V F hin]
  refine lv_aload_n hx hb d_L_law_906 rfl (lv_at hl 3 rfl) ?_
  refine kDi (As := []) (rest := [.int 0]) ⟨hx, hb, hml, hown, hts⟩ (c_R_wrong l dC dI cZ y fa F g h _) (cwV 0 hts (gV kml_L_102 kim_R_wrong ksl_R_wrong kin_R kcd_R_wrong) rfl rfl rfl (by decide +kernel) ⟨by show 0 + 1 ≤ 2048; omega, by show 8 + (1 + 11) + 0 ≤ 84000; omega⟩) hP hK hD hS hA rfl hl.1 rfl (Nat.le_of_ble_eq_true rfl) d_L_law_907 ⟨by show CC (t + 1) _ + 0 ≤ 601024; omega, by show SS (t + 1) _ + 0 ≤ 7293034; omega⟩ (fun g h H locs hP hD hS => ?_)
  refine lv_icmp_eq (tgt := 915) hx hb d_L_law_910 (by decide) (fun c910 => ?_) (fun c910 => ?_)
  · refine lv_iinc (v := ((nI (5 * t)) + 5)) (lv' := [(4, .int ((nI (5 * t)) + 5)), (0, .ref b), (1, .ref (z 0)), (2, .ref (y 0)), (3, .ref o0)]) hx hb d_L_law_915 hl (k := 0) rfl rfl (by decide) rfl (fun ls hl => ?_)
    refine lv_goto (tgt := 23) hx hb d_L_law_918 (by decide) ?_
    rw [show nI (5 * t) + (5 : Int32) = nI (5 * (t + 1)) from by rw [show (5 : Int32) = nI 5 from rfl, nI_add]; rfl] at hl
    exact ih z a bb y N E V o0 f 0 F g h H locs hin2 hP hD hS ls (lv_sub hl [0, 1, 2, 3, 4] rfl)
  · exact absurd (by decide) c910
