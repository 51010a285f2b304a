/-! BITS of ways -/
theorem nx_and (a b : Nat) : nI a &&& nI b = nI (a &&& b) := by
  apply Int32.toBitVec_inj.mp
  show BitVec.ofNat 32 a &&& BitVec.ofNat 32 b = BitVec.ofNat 32 (a &&& b)
  apply BitVec.eq_of_toNat_eq
  rw [BitVec.toNat_and, BitVec.toNat_ofNat, BitVec.toNat_ofNat, BitVec.toNat_ofNat, Nat.and_mod_two_pow]
theorem nx_xor (a b : Nat) : nI a ^^^ nI b = nI (a ^^^ b) := by
  apply Int32.toBitVec_inj.mp
  show BitVec.ofNat 32 a ^^^ BitVec.ofNat 32 b = BitVec.ofNat 32 (a ^^^ b)
  apply BitVec.eq_of_toNat_eq
  rw [BitVec.toNat_xor, BitVec.toNat_ofNat, BitVec.toNat_ofNat, BitVec.toNat_ofNat, Nat.xor_mod_two_pow]
theorem nx_or (a b : Nat) : nI a ||| nI b = nI (a ||| b) := by
  apply Int32.toBitVec_inj.mp
  show BitVec.ofNat 32 a ||| BitVec.ofNat 32 b = BitVec.ofNat 32 (a ||| b)
  apply BitVec.eq_of_toNat_eq
  rw [BitVec.toNat_or, BitVec.toNat_ofNat, BitVec.toNat_ofNat, BitVec.toNat_ofNat, Nat.or_mod_two_pow]
theorem sh_n : ∀ n, n < 32 → ((nI n &&& 31).toBitVec.smod 32).toNat = n := by decide +kernel
theorem nx_sh {v : Nat} (h : v < 12) : (1 : Int32) <<< (nI v &&& 31) = nI (2 ^ v) := by
  have e := pk_shlN (n := 1) (nI v &&& 31) v (sh_n v (by omega)) (by rw [Nat.one_mul]; exact Nat.pow_lt_pow_right (by decide) (by omega))
  rw [Nat.one_mul] at e
  exact e
theorem tb_lt {w i : Nat} (h : w < 4096) (hi : 12 ≤ i) : w.testBit i = false := Nat.testBit_lt_two_pow (Nat.lt_of_lt_of_le (show w < 2 ^ 12 from h) (Nat.pow_le_pow_right (by decide) hi))
theorem am_e {w k : Nat} (hw : w < 4096) (hk : k < 4096) : nI w &&& (nI k ^^^ (-1)) = nI (w &&& (4095 ^^^ k)) := by
  rw [show (-1 : Int32) = nI 4294967295 from by decide, nx_xor, nx_and]
  congr 1
  apply Nat.eq_of_testBit_eq
  intro i
  rw [Nat.testBit_and, Nat.testBit_and, Nat.testBit_xor, Nat.testBit_xor, show 4294967295 = 2 ^ 32 - 1 from rfl, show 4095 = 2 ^ 12 - 1 from rfl, Nat.testBit_two_pow_sub_one, Nat.testBit_two_pow_sub_one]
  by_cases c : i < 12
  · rw [decide_eq_true (show i < 32 by omega), decide_eq_true c, Bool.xor_comm]
  · rw [tb_lt hw (by omega), Bool.false_and, Bool.false_and]
theorem am_lt {w m : Nat} (hw : w < 4096) : w &&& m < 4096 := Nat.lt_of_le_of_lt Nat.and_le_left hw
def tw (w : Nat) : Nat := (w &&& 1365) * 2 + (w / 2 &&& 1365)
theorem tw_lt (w : Nat) : tw w < 4096 := by
  unfold tw
  have h1 : w &&& 1365 ≤ 1365 := Nat.and_le_right
  have h2 : w / 2 &&& 1365 ≤ 1365 := Nat.and_le_right
  omega
theorem tw_e {w : Nat} (hw : w < 4096) : (nI w &&& (1365 : Int32)) * (2 : Int32) + ((nI w >>> ((1 : Int32) &&& 31)) &&& (1365 : Int32)) = nI (tw w) := by
  rw [pk_shrN (n := w) (by omega) ((1 : Int32) &&& 31) 1 (by decide +kernel), show (1365 : Int32) = nI 1365 from rfl, show (2 : Int32) = nI 2 from rfl, nx_and, nx_and, pk_mul, nI_add]
  rfl
theorem xw_lt {w v : Nat} (hw : w < 4096) (hv : v < 12) : w ^^^ 2 ^ v < 4096 := by
  have h2 : 2 ^ v < 2 ^ 12 := Nat.pow_lt_pow_right (by decide) hv
  exact Nat.xor_lt_two_pow (n := 12) hw h2
theorem dif_gp {f g p : Nat → Bool} {m : Nat} : ∀ n, n ≤ m → dif f (gp g m p) n = dif f p n
  | 0, _ => rfl
  | n + 1, h => by
    show (dif f (gp g m p) n || (f n != gp g m p n)) = (dif f p n || (f n != p n))
    rw [dif_gp n (by omega), gp_lt (by omega)]
theorem fp_gp {F : Nat → Nat → Bool} {i n : Nat} {g p : Nat → Bool} : fp F i n (gp g n p) = fp F i n p := by
  funext a w
  unfold fp
  by_cases c : a = i ∧ w < n
  · rw [if_pos c, if_pos c, gp_lt c.2]
  · rw [if_neg c, if_neg c]
def jn (k : Nat) (a b : Bool) : Bool := match k with
  | 0 => a && b
  | 1 => a || b
  | 2 => a != b
  | 3 => a && !b
  | _ => !a
/-- the ways up to n that agree with w outside of the mask, and give true -/
def sm (nm : Nat) (b : Nat → Bool) (n w : Nat) : Bool := anyb (fun x => (x &&& nm == w) && b x) n
theorem sm_up {g b : Nat → Bool} {nm j : Nat} (hj : j < 4096) (hb : b j = true) : upd (mI (gp g 4096 (sm nm b j))) (nI (j &&& nm)).toNatClampNeg (vp_nar .boolean 1) = mI (gp g 4096 (sm nm b (j + 1))) := by
  rw [nI_clamp (Nat.lt_trans (am_lt hj) (by decide))]
  funext k
  unfold upd mI gp
  by_cases h : k = j &&& nm
  · have h4 : k < 4096 := by rw [h]; exact am_lt hj
    rw [if_pos h, if_pos h4, h]
    show (1 : Int32) = zb (sm nm b j _ || ((j &&& nm == j &&& nm) && b j))
    rw [hb, beq_self_eq_true, Bool.and_self, Bool.or_true]
    rfl
  · rw [if_neg h]
    by_cases c : k < 4096
    · rw [if_pos c, if_pos c]
      show zb _ = zb (sm nm b j k || ((j &&& nm == k) && b j))
      rw [beq_false_of_ne (fun q => h q.symm), Bool.false_and, Bool.or_false]
    · rw [if_neg c, if_neg c]
theorem sm_no {b : Nat → Bool} {nm j : Nat} (hb : b j = false) : sm nm b (j + 1) = sm nm b j := by
  funext k
  show (sm nm b j k || ((j &&& nm == k) && b j)) = _
  rw [hb, Bool.and_false, Bool.or_false]
theorem sm_0 {b : Nat → Bool} {nm : Nat} : sm nm b 0 = fun _ => false := rfl
theorem sm_rd {g : Nat → Bool} {b : Nat → Bool} {nm j : Nat} (hj : j < 4096) : gp (gp g 4096 (sm nm b 4096)) j (fun w => sm nm b 4096 (w &&& nm)) (j &&& nm) = sm nm b 4096 (j &&& nm) := by
  unfold gp
  by_cases c : j &&& nm < j
  · rw [if_pos c]
    show sm nm b 4096 (j &&& nm &&& nm) = _
    rw [Nat.and_assoc, Nat.and_self]
  · rw [if_neg c, if_pos (am_lt hj)]
