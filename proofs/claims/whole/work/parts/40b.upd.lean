/-! what an update leaves, by literal places -/
theorem uq_0_1 (N : Mm) (j : Nat) (x : Int32) : up N 0 j x 1 = N 1 := rfl
theorem uq_0_2 (N : Mm) (j : Nat) (x : Int32) : up N 0 j x 2 = N 2 := rfl
theorem uq_0_3 (N : Mm) (j : Nat) (x : Int32) : up N 0 j x 3 = N 3 := rfl
theorem uq_0_4 (N : Mm) (j : Nat) (x : Int32) : up N 0 j x 4 = N 4 := rfl
theorem uq_0_5 (N : Mm) (j : Nat) (x : Int32) : up N 0 j x 5 = N 5 := rfl
theorem uq_1_0 (N : Mm) (j : Nat) (x : Int32) : up N 1 j x 0 = N 0 := rfl
theorem uq_1_2 (N : Mm) (j : Nat) (x : Int32) : up N 1 j x 2 = N 2 := rfl
theorem uq_1_3 (N : Mm) (j : Nat) (x : Int32) : up N 1 j x 3 = N 3 := rfl
theorem uq_1_4 (N : Mm) (j : Nat) (x : Int32) : up N 1 j x 4 = N 4 := rfl
theorem uq_1_5 (N : Mm) (j : Nat) (x : Int32) : up N 1 j x 5 = N 5 := rfl
theorem uq_2_0 (N : Mm) (j : Nat) (x : Int32) : up N 2 j x 0 = N 0 := rfl
theorem uq_2_1 (N : Mm) (j : Nat) (x : Int32) : up N 2 j x 1 = N 1 := rfl
theorem uq_2_3 (N : Mm) (j : Nat) (x : Int32) : up N 2 j x 3 = N 3 := rfl
theorem uq_2_4 (N : Mm) (j : Nat) (x : Int32) : up N 2 j x 4 = N 4 := rfl
theorem uq_2_5 (N : Mm) (j : Nat) (x : Int32) : up N 2 j x 5 = N 5 := rfl
theorem uq_3_0 (N : Mm) (j : Nat) (x : Int32) : up N 3 j x 0 = N 0 := rfl
theorem uq_3_1 (N : Mm) (j : Nat) (x : Int32) : up N 3 j x 1 = N 1 := rfl
theorem uq_3_2 (N : Mm) (j : Nat) (x : Int32) : up N 3 j x 2 = N 2 := rfl
theorem uq_3_4 (N : Mm) (j : Nat) (x : Int32) : up N 3 j x 4 = N 4 := rfl
theorem uq_3_5 (N : Mm) (j : Nat) (x : Int32) : up N 3 j x 5 = N 5 := rfl
theorem uq_4_0 (N : Mm) (j : Nat) (x : Int32) : up N 4 j x 0 = N 0 := rfl
theorem uq_4_1 (N : Mm) (j : Nat) (x : Int32) : up N 4 j x 1 = N 1 := rfl
theorem uq_4_2 (N : Mm) (j : Nat) (x : Int32) : up N 4 j x 2 = N 2 := rfl
theorem uq_4_3 (N : Mm) (j : Nat) (x : Int32) : up N 4 j x 3 = N 3 := rfl
theorem uq_4_5 (N : Mm) (j : Nat) (x : Int32) : up N 4 j x 5 = N 5 := rfl
theorem uq_5_0 (N : Mm) (j : Nat) (x : Int32) : up N 5 j x 0 = N 0 := rfl
theorem uq_5_1 (N : Mm) (j : Nat) (x : Int32) : up N 5 j x 1 = N 1 := rfl
theorem uq_5_2 (N : Mm) (j : Nat) (x : Int32) : up N 5 j x 2 = N 2 := rfl
theorem uq_5_3 (N : Mm) (j : Nat) (x : Int32) : up N 5 j x 3 = N 3 := rfl
theorem uq_5_4 (N : Mm) (j : Nat) (x : Int32) : up N 5 j x 4 = N 4 := rfl
theorem uf_0_1 (N : Mm) (x : Int32) : up N 0 0 x 0 1 = N 0 1 := rfl
theorem uf_0_2 (N : Mm) (x : Int32) : up N 0 0 x 0 2 = N 0 2 := rfl
theorem uf_0_3 (N : Mm) (x : Int32) : up N 0 0 x 0 3 = N 0 3 := rfl
theorem uf_0_4 (N : Mm) (x : Int32) : up N 0 0 x 0 4 = N 0 4 := rfl
theorem uf_0_5 (N : Mm) (x : Int32) : up N 0 0 x 0 5 = N 0 5 := rfl
theorem uf_0_0 (N : Mm) (x : Int32) : up N 0 0 x 0 0 = x := rfl
theorem uf_1_0 (N : Mm) (x : Int32) : up N 0 1 x 0 0 = N 0 0 := rfl
theorem uf_1_2 (N : Mm) (x : Int32) : up N 0 1 x 0 2 = N 0 2 := rfl
theorem uf_1_3 (N : Mm) (x : Int32) : up N 0 1 x 0 3 = N 0 3 := rfl
theorem uf_1_4 (N : Mm) (x : Int32) : up N 0 1 x 0 4 = N 0 4 := rfl
theorem uf_1_5 (N : Mm) (x : Int32) : up N 0 1 x 0 5 = N 0 5 := rfl
theorem uf_1_1 (N : Mm) (x : Int32) : up N 0 1 x 0 1 = x := rfl
theorem uf_2_0 (N : Mm) (x : Int32) : up N 0 2 x 0 0 = N 0 0 := rfl
theorem uf_2_1 (N : Mm) (x : Int32) : up N 0 2 x 0 1 = N 0 1 := rfl
theorem uf_2_3 (N : Mm) (x : Int32) : up N 0 2 x 0 3 = N 0 3 := rfl
theorem uf_2_4 (N : Mm) (x : Int32) : up N 0 2 x 0 4 = N 0 4 := rfl
theorem uf_2_5 (N : Mm) (x : Int32) : up N 0 2 x 0 5 = N 0 5 := rfl
theorem uf_2_2 (N : Mm) (x : Int32) : up N 0 2 x 0 2 = x := rfl
theorem uf_3_0 (N : Mm) (x : Int32) : up N 0 3 x 0 0 = N 0 0 := rfl
theorem uf_3_1 (N : Mm) (x : Int32) : up N 0 3 x 0 1 = N 0 1 := rfl
theorem uf_3_2 (N : Mm) (x : Int32) : up N 0 3 x 0 2 = N 0 2 := rfl
theorem uf_3_4 (N : Mm) (x : Int32) : up N 0 3 x 0 4 = N 0 4 := rfl
theorem uf_3_5 (N : Mm) (x : Int32) : up N 0 3 x 0 5 = N 0 5 := rfl
theorem uf_3_3 (N : Mm) (x : Int32) : up N 0 3 x 0 3 = x := rfl
theorem uf_4_0 (N : Mm) (x : Int32) : up N 0 4 x 0 0 = N 0 0 := rfl
theorem uf_4_1 (N : Mm) (x : Int32) : up N 0 4 x 0 1 = N 0 1 := rfl
theorem uf_4_2 (N : Mm) (x : Int32) : up N 0 4 x 0 2 = N 0 2 := rfl
theorem uf_4_3 (N : Mm) (x : Int32) : up N 0 4 x 0 3 = N 0 3 := rfl
theorem uf_4_5 (N : Mm) (x : Int32) : up N 0 4 x 0 5 = N 0 5 := rfl
theorem uf_4_4 (N : Mm) (x : Int32) : up N 0 4 x 0 4 = x := rfl
theorem uf_5_0 (N : Mm) (x : Int32) : up N 0 5 x 0 0 = N 0 0 := rfl
theorem uf_5_1 (N : Mm) (x : Int32) : up N 0 5 x 0 1 = N 0 1 := rfl
theorem uf_5_2 (N : Mm) (x : Int32) : up N 0 5 x 0 2 = N 0 2 := rfl
theorem uf_5_3 (N : Mm) (x : Int32) : up N 0 5 x 0 3 = N 0 3 := rfl
theorem uf_5_4 (N : Mm) (x : Int32) : up N 0 5 x 0 4 = N 0 4 := rfl
theorem uf_5_5 (N : Mm) (x : Int32) : up N 0 5 x 0 5 = x := rfl
theorem js_4 (N : Mm) (a b x : Int32) : j_set N a b x 4 = N 4 := js_k (by decide)
theorem js_5 (N : Mm) (a b x : Int32) : j_set N a b x 5 = N 5 := js_k (by decide)
