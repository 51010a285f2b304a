/-! JAVA, 1: the class's own methods as functions of what its cells hold. N 0: room, used, free, size, limit, rewritten; N 1: rows; N 2: heads; N 3: held; N 4: levels; N 5: variables. The array rows has 5 * room places (room is never above 24800). -/
abbrev Mm : Type := Nat → Nat → Int32
def up (N : Mm) (k j : Nat) (x : Int32) : Mm := fu N k (upd (N k) j x)
def jlen (N : Mm) : Nat := 5 * min (N 0 0).toNatClampNeg 24800
theorem jlen_lt (N : Mm) : jlen N < 2 ^ 31 := by unfold jlen; omega
def j_get (N : Mm) (node field : Int32) : Int32 := if node * 5 + field < 0 then 0 else if nI (jlen N) ≤ node * 5 + field then 0 else N 1 (node * 5 + field).toNatClampNeg
def j_set (N : Mm) (node field x : Int32) : Mm := if node * 5 + field < 0 then N else if nI (jlen N) ≤ node * 5 + field then N else up N 1 (node * 5 + field).toNatClampNeg x
def j_lowFor (N : Mm) (node v : Int32) : Int32 := if j_get N node 0 = v then j_get N node 1 else node
def j_highFor (N : Mm) (node v : Int32) : Int32 := if j_get N node 0 = v then j_get N node 2 else node
def j_levelOf (N : Mm) (v : Int32) : Int32 := if v < 0 then 12 else if nI 13 ≤ v then 12 else N 4 v.toNatClampNeg
def j_variableAt (N : Mm) (k : Int32) : Int32 := if k < 0 then 12 else if nI 13 ≤ k then 12 else N 5 k.toNatClampNeg
def j_heldFor (N : Mm) (v : Int32) : Int32 := if v < 0 then 0 else if nI 12 ≤ v then 0 else N 3 v.toNatClampNeg
def j_min (a b : Int32) : Int32 := if b < a then b else a
def j_max (a b : Int32) : Int32 := if a < b then b else a
def j_firstAsked (N : Mm) (f g h : Int32) : Int32 := j_variableAt N (j_min (j_min (j_levelOf N (j_get N f 0)) (j_levelOf N (j_get N g 0))) (j_levelOf N (j_get N h 0)))
/-- the loop of truthFor, n steps at most -/
def j_truthL (N : Mm) (way : Int32) : Nat → Int32 → Int32
  | 0, node => node
  | n + 1, node => if node ≤ 1 then node else j_truthL N way n (j_get N node (if (way >>> (j_get N node 0 &&& 31)) &&& 1 = 0 then 1 else 2))
def j_truthFor (N : Mm) (node way : Int32) : Int32 := if j_truthL N way 12 node = 1 then 1 else 0
def j_followL (N : Mm) (known way : Int32) : Nat → Int32 → Int32
  | 0, node => node
  | n + 1, node => if (known >>> (j_get N node 0 &&& 31)) &&& 1 = 0 then node else j_followL N known way n (j_get N node (if (way >>> (j_get N node 0 &&& 31)) &&& 1 = 0 then 1 else 2))
def j_followed (N : Mm) (node known way : Int32) : Int32 := j_followL N known way 12 node
def j_refer (N : Mm) (node d : Int32) : Mm := j_set N node 4 (j_get N node 4 + d)
def j_chainFor (v low high : Int32) : Int32 := v * 64 + ((((low * (-1640531535) + high * (-2048144789)).toUInt32 >>> ((20 : Int32).toUInt32 &&& Int32.toUInt32 31)).toInt32) &&& 63)
def j_findL (N : Mm) (low high : Int32) : Nat → Int32 → Int32
  | 0, _ => 0
  | n + 1, node => if node = 0 then 0 else if j_get N node 1 = low then (if j_get N node 2 = high then node else j_findL N low high n (j_get N node 3)) else j_findL N low high n (j_get N node 3)
def j_freshRow (N : Mm) : Mm × Int32 :=
  if N 0 2 = 0 then (if N 0 1 < N 0 0 then (up (j_set (up N 0 1 (N 0 1 + 1)) (N 0 1) 4 0) 0 3 (N 0 3 + 1), N 0 1) else (N, 0))
  else (up (j_set (up N 0 2 (j_get N (N 0 2) 3)) (N 0 2) 4 0) 0 3 (N 0 3 + 1), N 0 2)
def j_giveBack (N : Mm) (row : Int32) : Mm := up (up (j_set N row 3 (N 0 2)) 0 2 row) 0 3 (N 0 3 - 1)
def j_link (N : Mm) (node v low high : Int32) : Mm :=
  if v < 0 then N else if nI 12 ≤ v then N else if j_chainFor v low high < 0 then N else if nI 768 ≤ j_chainFor v low high then N else
  up (up (j_set (j_set (j_set (j_set N node 0 v) node 1 low) node 2 high) node 3 (N 2 (j_chainFor v low high).toNatClampNeg)) 2 (j_chainFor v low high).toNatClampNeg node) 3 v.toNatClampNeg (N 3 v.toNatClampNeg + 1)
def j_fresh2 (N : Mm) (v low high : Int32) : Mm × Int32 :=
  if (j_freshRow N).2 = 0 then ((j_freshRow N).1, 0) else (j_link (j_refer (j_refer (j_freshRow N).1 low 1) high 1) (j_freshRow N).2 v low high, (j_freshRow N).2)
def j_make (N : Mm) (v low high : Int32) : Mm × Int32 :=
  if low = high then (N, low) else if j_chainFor v low high < 0 then (N, 0) else if nI 768 ≤ j_chainFor v low high then (N, 0) else
  if j_findL N low high 24800 (N 2 (j_chainFor v low high).toNatClampNeg) = 0 then j_fresh2 N v low high else (N, j_findL N low high 24800 (N 2 (j_chainFor v low high).toNatClampNeg))
def j_unlinkL (N : Mm) (node : Int32) : Nat → Int32 → Mm
  | 0, _ => N
  | n + 1, at1 => if at1 = 0 then N else if j_get N at1 3 = node then j_set N at1 3 (j_get N node 3) else j_unlinkL N node n (j_get N at1 3)
def j_unlink2 (N : Mm) (node c : Int32) : Mm := if N 2 c.toNatClampNeg = node then up N 2 c.toNatClampNeg (j_get N node 3) else j_unlinkL N node 24800 (N 2 c.toNatClampNeg)
def j_unlink (N : Mm) (node : Int32) : Mm :=
  if j_get N node 0 < 0 then N else if nI 12 ≤ j_get N node 0 then N else if j_chainFor (j_get N node 0) (j_get N node 1) (j_get N node 2) < 0 then N else if nI 768 ≤ j_chainFor (j_get N node 0) (j_get N node 1) (j_get N node 2) then N else
  j_unlink2 (up N 3 (j_get N node 0).toNatClampNeg (N 3 (j_get N node 0).toNatClampNeg - 1)) node (j_chainFor (j_get N node 0) (j_get N node 1) (j_get N node 2))
def j_dropHeld (N : Mm) (v : Int32) : Mm := if v < 0 then N else if nI 12 ≤ v then N else up N 3 v.toNatClampNeg (N 3 v.toNatClampNeg - 1)
def j_dropKids (N : Mm) (node : Int32) : Mm := j_refer (j_refer N (j_get N node 1) (-1)) (j_get (j_refer N (j_get N node 1) (-1)) node 2) (-1)
def j_drop (N : Mm) (node : Int32) : Mm := j_giveBack (j_dropKids (j_dropHeld N (j_get N node 0)) node) node
def j_neededL : Nat → Mm → Int32 → Int32 → Mm × Int32
  | 0, N, kept, _ => (N, kept)
  | n + 1, N, kept, node => if node = 0 then (N, kept) else if 0 < j_get N node 4 then j_neededL n (j_set N node 3 kept) node (j_get N node 3) else j_neededL n (j_drop N node) kept (j_get N node 3)
def j_needed (N : Mm) (chain : Int32) : Mm × Int32 := j_neededL 24800 N 0 chain
/-- the chains from head on, n of them -/
def j_collectH : Nat → Mm → Int32 → Mm
  | 0, N, _ => N
  | n + 1, N, head => j_collectH n (if head < 0 then N else if nI 768 ≤ head then N else up (j_needed N (N 2 head.toNatClampNeg)).1 2 head.toNatClampNeg (j_needed N (N 2 head.toNatClampNeg)).2) (head + 1)
/-- the levels from k on, n of them -/
def j_collectL : Nat → Mm → Int32 → Mm
  | 0, N, _ => N
  | n + 1, N, k => j_collectL n (j_collectH 64 N (j_variableAt N k * 64)) (k + 1)
def j_collect (N : Mm) : Mm := j_collectL 12 N 0
def j_wroom (N : Mm) (wanted : Int32) : Int32 := j_min (j_max (j_min (wanted + 2) 24800) (2 * N 0 0)) 24800
def j_widen (N : Mm) (wanted : Int32) : Mm :=
  if j_min (wanted + 2) 24800 ≤ N 0 0 then N else fu (up N 0 0 (j_wroom N wanted)) 1 (va_cpy (N 1) (fun _ => 0) 0 0 (jlen N))
def j_makeRoom (N : Mm) (need : Int32) : Mm :=
  if N 0 3 ≤ N 0 4 then j_widen N (N 0 3 + need) else
  j_widen (up (j_collect N) 0 4 (j_min (j_max (2 * j_collect N 0 3) 1024) 21475)) (j_collect N 0 3 + need)
def j_detachC (lower : Int32) (upper : Nat) : Nat → Mm → Int32 → Int32 → Int32 → Mm × Int32 × Int32
  | 0, N, taken, kept, _ => (N, taken, kept)
  | n + 1, N, taken, kept, node => if node = 0 then (N, taken, kept) else
    if j_get N (j_get N node 1) 0 = lower ∨ j_get N (j_get N node 2) 0 = lower then j_detachC lower upper n (up (j_set N node 3 taken) 3 upper (N 3 upper - 1)) node kept (j_get N node 3)
    else j_detachC lower upper n (j_set N node 3 kept) taken node (j_get N node 3)
def j_detachH (lower upper : Int32) : Nat → Mm → Int32 → Int32 → Mm × Int32
  | 0, N, taken, _ => (N, taken)
  | n + 1, N, taken, head => if head < 0 then (N, taken) else if nI 768 ≤ head then (N, taken) else if upper < 0 then (N, taken) else if nI 12 ≤ upper then (N, taken) else
    j_detachH lower upper n (up (j_detachC lower upper.toNatClampNeg 24800 N taken 0 (N 2 head.toNatClampNeg)).1 2 head.toNatClampNeg (j_detachC lower upper.toNatClampNeg 24800 N taken 0 (N 2 head.toNatClampNeg)).2.2) (j_detachC lower upper.toNatClampNeg 24800 N taken 0 (N 2 head.toNatClampNeg)).2.1 (head + 1)
def j_detach (N : Mm) (upper lower : Int32) : Mm × Int32 := j_detachH lower upper 64 N 0 (upper * 64)
def j_release (N : Mm) (node : Int32) : Mm :=
  if node ≤ 1 then j_refer N node (-1) else if 0 < j_get (j_refer N node (-1)) node 4 then j_refer N node (-1) else
  j_giveBack (j_dropKids (j_unlink (j_refer N node (-1)) node) node) node
def j_rewrite2 (N : Mm) (node lower low high oldLow oldHigh : Int32) : Mm :=
  j_release (j_release (j_link (j_refer (j_refer N low 1) high 1) node lower low high) oldLow) oldHigh
def j_rewrite1 (M1 M2 : Mm × Int32) (node lower oldLow oldHigh : Int32) : Mm := j_rewrite2 M2.1 node lower M1.2 M2.2 oldLow oldHigh
def j_rewriteA (N : Mm) (node upper lower : Int32) : Mm × Int32 := j_make N upper (j_lowFor N (j_get N node 1) lower) (j_lowFor N (j_get N node 2) lower)
def j_rewriteB (N M : Mm) (node upper lower : Int32) : Mm × Int32 := j_make M upper (j_highFor M (j_get N node 1) lower) (j_highFor M (j_get N node 2) lower)
def j_rewrite (N : Mm) (node upper lower : Int32) : Mm :=
  up (j_rewrite1 (j_rewriteA N node upper lower) (j_rewriteB N (j_rewriteA N node upper lower).1 node upper lower) node lower (j_get N node 1) (j_get N node 2)) 0 5
    (j_rewrite1 (j_rewriteA N node upper lower) (j_rewriteB N (j_rewriteA N node upper lower).1 node upper lower) node lower (j_get N node 1) (j_get N node 2) 0 5 + 1)
def j_swapL (upper lower : Int32) : Nat → Mm → Int32 → Mm
  | 0, N, _ => N
  | n + 1, N, node => if node = 0 then N else j_swapL upper lower n (j_rewrite N node upper lower) (j_get N node 3)
def j_swap3 (N : Mm) (upper lower : Int32) : Mm := j_swapL upper lower 24800 (j_detach N upper lower).1 (j_detach N upper lower).2
def j_swap2 (N : Mm) (upper lower : Int32) : Mm := if j_heldFor N upper = 0 then N else if j_heldFor N lower = 0 then N else j_swap3 (j_widen N (N 0 3 + 2 * j_heldFor N upper)) upper lower
def j_swap1 (N : Mm) (k upper lower : Int32) : Mm := up (up (up (up N 5 k.toNatClampNeg lower) 5 (k + 1).toNatClampNeg upper) 4 lower.toNatClampNeg k) 4 upper.toNatClampNeg (k + 1)
def j_swap (N : Mm) (k : Int32) : Mm :=
  if k < 0 then N else if 12 ≤ k + 1 then N else if nI 13 ≤ k + 1 then N else
  if N 5 k.toNatClampNeg < 0 then N else if nI 13 ≤ N 5 k.toNatClampNeg then N else if N 5 (k + 1).toNatClampNeg < 0 then N else if nI 13 ≤ N 5 (k + 1).toNatClampNeg then N else
  j_swap2 (j_swap1 N k (N 5 k.toNatClampNeg) (N 5 (k + 1).toNatClampNeg)) (N 5 k.toNatClampNeg) (N 5 (k + 1).toNatClampNeg)
def j_isMisplaced (N : Mm) (node head : Int32) : Int32 :=
  if j_get N node 1 = j_get N node 2 then 1 else
  if j_min (j_levelOf N (j_get N (j_get N node 1) 0)) (j_levelOf N (j_get N (j_get N node 2) 0)) ≤ j_levelOf N (j_get N node 0) then 1 else
  if j_chainFor (j_get N node 0) (j_get N node 1) (j_get N node 2) = head then 0 else 1
def j_twiceL (N : Mm) (node : Int32) : Nat → Int32 → Int32
  | 0, _ => 0
  | n + 1, at1 => if at1 = 0 then 0 else if j_get N at1 1 = j_get N node 1 then (if j_get N at1 2 = j_get N node 2 then 1 else j_twiceL N node n (j_get N at1 3)) else j_twiceL N node n (j_get N at1 3)
def j_isThereTwice (N : Mm) (node : Int32) : Int32 := j_twiceL N node 24800 (j_get N node 3)
def j_faultsC (N : Mm) (head : Int32) : Nat → Int32 → Int32 → Int32
  | 0, found, _ => found
  | n + 1, found, node => if node = 0 then found else j_faultsC N head n (if j_isMisplaced N node head = 0 then (if j_isThereTwice N node = 0 then found else found + 1) else found + 1) (j_get N node 3)
def j_faultsH (N : Mm) : Nat → Int32 → Int32 → Int32
  | 0, _, found => found
  | n + 1, head, found => j_faultsH N n (head + 1) (j_faultsC N head 24800 found (N 2 head.toNatClampNeg))
def j_faults (N : Mm) : Int32 := j_faultsH N 768 0 0
