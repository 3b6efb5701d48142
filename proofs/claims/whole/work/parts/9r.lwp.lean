/-! the law: its loop is what the machine asks for -/
set_option maxRecDepth 200000 in
set_option maxHeartbeats 4000000 in
theorem w_lawH (ln : Int) (xs : Int → Int) (K : AV → SS → Prop) (v : Int) (σ : SS) (n : Nat) (h : VL_lawH ln xs K v σ n) : wp (some (ln, xs)) 2 cal_law C_law (Jl ln n) K 1000 2 [vR 61 0, vR 11 0, vR 12 0, vI v] [] σ := h
set_option maxRecDepth 200000 in
set_option maxHeartbeats 4000000 in
theorem w_law0 (ln : Int) (xs : Int → Int) (K : AV → SS → Prop) (v : Int) (σ : SS) (n : Nat) (h : VL_law0 ln xs K v σ n) : wp (some (ln, xs)) 2 cal_law C_law (Jl ln n) K 1000 14 [vR 61 0, vR 11 0, vR 12 0, vI v] [] σ := h
set_option maxRecDepth 200000 in
set_option maxHeartbeats 4000000 in
theorem w_law1 (ln : Int) (xs : Int → Int) (K : AV → SS → Prop) (v : Int) (σ : SS) (n : Nat) (h : VL_law1 ln xs K v σ n) : wp (some (ln, xs)) 2 cal_law C_law (Jl ln n) K 1000 71 [vR 61 0, vR 11 0, vR 12 0, vI v] [] σ := h
set_option maxRecDepth 200000 in
set_option maxHeartbeats 4000000 in
theorem w_law2 (ln : Int) (xs : Int → Int) (K : AV → SS → Prop) (v : Int) (σ : SS) (n : Nat) (h : VL_law2 ln xs K v σ n) : wp (some (ln, xs)) 2 cal_law C_law (Jl ln n) K 1000 88 [vR 61 0, vR 11 0, vR 12 0, vI v] [] σ := h
set_option maxRecDepth 200000 in
set_option maxHeartbeats 4000000 in
theorem w_law3 (ln : Int) (xs : Int → Int) (K : AV → SS → Prop) (v : Int) (σ : SS) (n : Nat) (h : VL_law3 ln xs K v σ n) : wp (some (ln, xs)) 2 cal_law C_law (Jl ln n) K 1000 95 [vR 61 0, vR 11 0, vR 12 0, vI v] [] σ := h
set_option maxRecDepth 200000 in
set_option maxHeartbeats 4000000 in
theorem w_law4 (ln : Int) (xs : Int → Int) (K : AV → SS → Prop) (v : Int) (σ : SS) (n : Nat) (h : VL_law4 ln xs K v σ n) : wp (some (ln, xs)) 2 cal_law C_law (Jl ln n) K 1000 122 [vR 61 0, vR 11 0, vR 12 0, vI v] [] σ := h
set_option maxRecDepth 200000 in
set_option maxHeartbeats 4000000 in
theorem w_law5 (ln : Int) (xs : Int → Int) (K : AV → SS → Prop) (v : Int) (σ : SS) (n : Nat) (h : VL_law5 ln xs K v σ n) : wp (some (ln, xs)) 2 cal_law C_law (Jl ln n) K 1000 149 [vR 61 0, vR 11 0, vR 12 0, vI v] [] σ := h
set_option maxRecDepth 200000 in
set_option maxHeartbeats 4000000 in
theorem w_law6 (ln : Int) (xs : Int → Int) (K : AV → SS → Prop) (v : Int) (σ : SS) (n : Nat) (h : VL_law6 ln xs K v σ n) : wp (some (ln, xs)) 2 cal_law C_law (Jl ln n) K 1000 166 [vR 61 0, vR 11 0, vR 12 0, vI v] [] σ := h
set_option maxRecDepth 200000 in
set_option maxHeartbeats 4000000 in
theorem w_law7 (ln : Int) (xs : Int → Int) (K : AV → SS → Prop) (v : Int) (σ : SS) (n : Nat) (h : VL_law7 ln xs K v σ n) : wp (some (ln, xs)) 2 cal_law C_law (Jl ln n) K 1000 193 [vR 61 0, vR 11 0, vR 12 0, vI v] [] σ := h
set_option maxRecDepth 200000 in
set_option maxHeartbeats 4000000 in
theorem w_law8 (ln : Int) (xs : Int → Int) (K : AV → SS → Prop) (v : Int) (σ : SS) (n : Nat) (h : VL_law8 ln xs K v σ n) : wp (some (ln, xs)) 2 cal_law C_law (Jl ln n) K 1000 220 [vR 61 0, vR 11 0, vR 12 0, vI v] [] σ := h
set_option maxRecDepth 200000 in
set_option maxHeartbeats 4000000 in
theorem w_law9 (ln : Int) (xs : Int → Int) (K : AV → SS → Prop) (v : Int) (σ : SS) (n : Nat) (h : VL_law9 ln xs K v σ n) : wp (some (ln, xs)) 2 cal_law C_law (Jl ln n) K 1000 237 [vR 61 0, vR 11 0, vR 12 0, vI v] [] σ := h
set_option maxRecDepth 200000 in
set_option maxHeartbeats 4000000 in
theorem w_law10 (ln : Int) (xs : Int → Int) (K : AV → SS → Prop) (v : Int) (σ : SS) (n : Nat) (h : VL_law10 ln xs K v σ n) : wp (some (ln, xs)) 2 cal_law C_law (Jl ln n) K 1000 264 [vR 61 0, vR 11 0, vR 12 0, vI v] [] σ := h
set_option maxRecDepth 200000 in
set_option maxHeartbeats 4000000 in
theorem w_law11 (ln : Int) (xs : Int → Int) (K : AV → SS → Prop) (v : Int) (σ : SS) (n : Nat) (h : VL_law11 ln xs K v σ n) : wp (some (ln, xs)) 2 cal_law C_law (Jl ln n) K 1000 271 [vR 61 0, vR 11 0, vR 12 0, vI v] [] σ := h
set_option maxRecDepth 200000 in
set_option maxHeartbeats 4000000 in
theorem w_law12 (ln : Int) (xs : Int → Int) (K : AV → SS → Prop) (v : Int) (σ : SS) (n : Nat) (h : VL_law12 ln xs K v σ n) : wp (some (ln, xs)) 2 cal_law C_law (Jl ln n) K 1000 288 [vR 61 0, vR 11 0, vR 12 0, vI v] [] σ := h
set_option maxRecDepth 200000 in
set_option maxHeartbeats 4000000 in
theorem w_law13 (ln : Int) (xs : Int → Int) (K : AV → SS → Prop) (v : Int) (σ : SS) (n : Nat) (h : VL_law13 ln xs K v σ n) : wp (some (ln, xs)) 2 cal_law C_law (Jl ln n) K 1000 305 [vR 61 0, vR 11 0, vR 12 0, vI v] [] σ := h
set_option maxRecDepth 200000 in
set_option maxHeartbeats 4000000 in
theorem w_law14 (ln : Int) (xs : Int → Int) (K : AV → SS → Prop) (v : Int) (σ : SS) (n : Nat) (h : VL_law14 ln xs K v σ n) : wp (some (ln, xs)) 2 cal_law C_law (Jl ln n) K 1000 322 [vR 61 0, vR 11 0, vR 12 0, vI v] [] σ := h
set_option maxRecDepth 200000 in
set_option maxHeartbeats 4000000 in
theorem w_law15 (ln : Int) (xs : Int → Int) (K : AV → SS → Prop) (v : Int) (σ : SS) (n : Nat) (h : VL_law15 ln xs K v σ n) : wp (some (ln, xs)) 2 cal_law C_law (Jl ln n) K 1000 359 [vR 61 0, vR 11 0, vR 12 0, vI v] [] σ := h
set_option maxRecDepth 200000 in
set_option maxHeartbeats 4000000 in
theorem w_law16 (ln : Int) (xs : Int → Int) (K : AV → SS → Prop) (v : Int) (σ : SS) (n : Nat) (h : VL_law16 ln xs K v σ n) : wp (some (ln, xs)) 2 cal_law C_law (Jl ln n) K 1000 396 [vR 61 0, vR 11 0, vR 12 0, vI v] [] σ := h
set_option maxRecDepth 200000 in
set_option maxHeartbeats 4000000 in
theorem w_law17 (ln : Int) (xs : Int → Int) (K : AV → SS → Prop) (v : Int) (σ : SS) (n : Nat) (h : VL_law17 ln xs K v σ n) : wp (some (ln, xs)) 2 cal_law C_law (Jl ln n) K 1000 433 [vR 61 0, vR 11 0, vR 12 0, vI v] [] σ := h
set_option maxRecDepth 200000 in
set_option maxHeartbeats 4000000 in
theorem w_law18 (ln : Int) (xs : Int → Int) (K : AV → SS → Prop) (v : Int) (σ : SS) (n : Nat) (h : VL_law18 ln xs K v σ n) : wp (some (ln, xs)) 2 cal_law C_law (Jl ln n) K 1000 468 [vR 61 0, vR 11 0, vR 12 0, vI v] [] σ := h
set_option maxRecDepth 200000 in
set_option maxHeartbeats 4000000 in
theorem w_law19 (ln : Int) (xs : Int → Int) (K : AV → SS → Prop) (v : Int) (σ : SS) (n : Nat) (h : VL_law19 ln xs K v σ n) : wp (some (ln, xs)) 2 cal_law C_law (Jl ln n) K 1000 503 [vR 61 0, vR 11 0, vR 12 0, vI v] [] σ := h
set_option maxRecDepth 200000 in
set_option maxHeartbeats 4000000 in
theorem w_law20 (ln : Int) (xs : Int → Int) (K : AV → SS → Prop) (v : Int) (σ : SS) (n : Nat) (h : VL_law20 ln xs K v σ n) : wp (some (ln, xs)) 2 cal_law C_law (Jl ln n) K 1000 530 [vR 61 0, vR 11 0, vR 12 0, vI v] [] σ := h
set_option maxRecDepth 200000 in
set_option maxHeartbeats 4000000 in
theorem w_law21 (ln : Int) (xs : Int → Int) (K : AV → SS → Prop) (v : Int) (σ : SS) (n : Nat) (h : VL_law21 ln xs K v σ n) : wp (some (ln, xs)) 2 cal_law C_law (Jl ln n) K 1000 547 [vR 61 0, vR 11 0, vR 12 0, vI v] [] σ := h
set_option maxRecDepth 200000 in
set_option maxHeartbeats 4000000 in
theorem w_law22 (ln : Int) (xs : Int → Int) (K : AV → SS → Prop) (v : Int) (σ : SS) (n : Nat) (h : VL_law22 ln xs K v σ n) : wp (some (ln, xs)) 2 cal_law C_law (Jl ln n) K 1000 564 [vR 61 0, vR 11 0, vR 12 0, vI v] [] σ := h
set_option maxRecDepth 200000 in
set_option maxHeartbeats 4000000 in
theorem w_law23 (ln : Int) (xs : Int → Int) (K : AV → SS → Prop) (v : Int) (σ : SS) (n : Nat) (h : VL_law23 ln xs K v σ n) : wp (some (ln, xs)) 2 cal_law C_law (Jl ln n) K 1000 581 [vR 61 0, vR 11 0, vR 12 0, vI v] [] σ := h
set_option maxRecDepth 200000 in
set_option maxHeartbeats 4000000 in
theorem w_law24 (ln : Int) (xs : Int → Int) (K : AV → SS → Prop) (v : Int) (σ : SS) (n : Nat) (h : VL_law24 ln xs K v σ n) : wp (some (ln, xs)) 2 cal_law C_law (Jl ln n) K 1000 618 [vR 61 0, vR 11 0, vR 12 0, vI v] [] σ := h
set_option maxRecDepth 200000 in
set_option maxHeartbeats 4000000 in
theorem w_law25 (ln : Int) (xs : Int → Int) (K : AV → SS → Prop) (v : Int) (σ : SS) (n : Nat) (h : VL_law25 ln xs K v σ n) : wp (some (ln, xs)) 2 cal_law C_law (Jl ln n) K 1000 645 [vR 61 0, vR 11 0, vR 12 0, vI v] [] σ := h
set_option maxRecDepth 200000 in
set_option maxHeartbeats 4000000 in
theorem w_law26 (ln : Int) (xs : Int → Int) (K : AV → SS → Prop) (v : Int) (σ : SS) (n : Nat) (h : VL_law26 ln xs K v σ n) : wp (some (ln, xs)) 2 cal_law C_law (Jl ln n) K 1000 672 [vR 61 0, vR 11 0, vR 12 0, vI v] [] σ := h
set_option maxRecDepth 200000 in
set_option maxHeartbeats 4000000 in
theorem w_law27 (ln : Int) (xs : Int → Int) (K : AV → SS → Prop) (v : Int) (σ : SS) (n : Nat) (h : VL_law27 ln xs K v σ n) : wp (some (ln, xs)) 2 cal_law C_law (Jl ln n) K 1000 707 [vR 61 0, vR 11 0, vR 12 0, vI v] [] σ := h
set_option maxRecDepth 200000 in
set_option maxHeartbeats 4000000 in
theorem w_law28 (ln : Int) (xs : Int → Int) (K : AV → SS → Prop) (v : Int) (σ : SS) (n : Nat) (h : VL_law28 ln xs K v σ n) : wp (some (ln, xs)) 2 cal_law C_law (Jl ln n) K 1000 724 [vR 61 0, vR 11 0, vR 12 0, vI v] [] σ := h
set_option maxRecDepth 200000 in
set_option maxHeartbeats 4000000 in
theorem w_law29 (ln : Int) (xs : Int → Int) (K : AV → SS → Prop) (v : Int) (σ : SS) (n : Nat) (h : VL_law29 ln xs K v σ n) : wp (some (ln, xs)) 2 cal_law C_law (Jl ln n) K 1000 741 [vR 61 0, vR 11 0, vR 12 0, vI v] [] σ := h
set_option maxRecDepth 200000 in
set_option maxHeartbeats 4000000 in
theorem w_law30 (ln : Int) (xs : Int → Int) (K : AV → SS → Prop) (v : Int) (σ : SS) (n : Nat) (h : VL_law30 ln xs K v σ n) : wp (some (ln, xs)) 2 cal_law C_law (Jl ln n) K 1000 758 [vR 61 0, vR 11 0, vR 12 0, vI v] [] σ := h
set_option maxRecDepth 200000 in
set_option maxHeartbeats 4000000 in
theorem w_law31 (ln : Int) (xs : Int → Int) (K : AV → SS → Prop) (v : Int) (σ : SS) (n : Nat) (h : VL_law31 ln xs K v σ n) : wp (some (ln, xs)) 2 cal_law C_law (Jl ln n) K 1000 793 [vR 61 0, vR 11 0, vR 12 0, vI v] [] σ := h
set_option maxRecDepth 200000 in
set_option maxHeartbeats 4000000 in
theorem w_law32 (ln : Int) (xs : Int → Int) (K : AV → SS → Prop) (v : Int) (σ : SS) (n : Nat) (h : VL_law32 ln xs K v σ n) : wp (some (ln, xs)) 2 cal_law C_law (Jl ln n) K 1000 820 [vR 61 0, vR 11 0, vR 12 0, vI v] [] σ := h
set_option maxRecDepth 200000 in
set_option maxHeartbeats 4000000 in
theorem w_law33 (ln : Int) (xs : Int → Int) (K : AV → SS → Prop) (v : Int) (σ : SS) (n : Nat) (h : VL_law33 ln xs K v σ n) : wp (some (ln, xs)) 2 cal_law C_law (Jl ln n) K 1000 847 [vR 61 0, vR 11 0, vR 12 0, vI v] [] σ := h
set_option maxRecDepth 200000 in
set_option maxHeartbeats 4000000 in
theorem w_law34 (ln : Int) (xs : Int → Int) (K : AV → SS → Prop) (v : Int) (σ : SS) (n : Nat) (h : VL_law34 ln xs K v σ n) : wp (some (ln, xs)) 2 cal_law C_law (Jl ln n) K 1000 864 [vR 61 0, vR 11 0, vR 12 0, vI v] [] σ := h
set_option maxRecDepth 200000 in
set_option maxHeartbeats 4000000 in
theorem w_law35 (ln : Int) (xs : Int → Int) (K : AV → SS → Prop) (v : Int) (σ : SS) (n : Nat) (h : VL_law35 ln xs K v σ n) : wp (some (ln, xs)) 2 cal_law C_law (Jl ln n) K 1000 881 [vR 61 0, vR 11 0, vR 12 0, vI v] [] σ := h
set_option maxRecDepth 200000 in
set_option maxHeartbeats 4000000 in
theorem w_law36 (ln : Int) (xs : Int → Int) (K : AV → SS → Prop) (v : Int) (σ : SS) (n : Nat) (h : VL_law36 ln xs K v σ n) : wp (some (ln, xs)) 2 cal_law C_law (Jl ln n) K 1000 918 [vR 61 0, vR 11 0, vR 12 0, vI v] [] σ := h
set_option maxRecDepth 200000 in
set_option maxHeartbeats 4000000 in
theorem w_law37 (ln : Int) (xs : Int → Int) (K : AV → SS → Prop) (v : Int) (σ : SS) (n : Nat) (h : VL_law37 ln xs K v σ n) : wp (some (ln, xs)) 2 cal_law C_law (Jl ln n) K 1000 965 [vR 61 0, vR 11 0, vR 12 0, vI v] [] σ := h
set_option maxRecDepth 200000 in
set_option maxHeartbeats 4000000 in
theorem w_law38 (ln : Int) (xs : Int → Int) (K : AV → SS → Prop) (v : Int) (σ : SS) (n : Nat) (h : VL_law38 ln xs K v σ n) : wp (some (ln, xs)) 2 cal_law C_law (Jl ln n) K 1000 1002 [vR 61 0, vR 11 0, vR 12 0, vI v] [] σ := h
set_option maxRecDepth 200000 in
set_option maxHeartbeats 4000000 in
theorem w_law39 (ln : Int) (xs : Int → Int) (K : AV → SS → Prop) (v : Int) (σ : SS) (n : Nat) (h : VL_law39 ln xs K v σ n) : wp (some (ln, xs)) 2 cal_law C_law (Jl ln n) K 1000 1019 [vR 61 0, vR 11 0, vR 12 0, vI v] [] σ := h
set_option maxRecDepth 200000 in
set_option maxHeartbeats 4000000 in
theorem w_law40 (ln : Int) (xs : Int → Int) (K : AV → SS → Prop) (v : Int) (σ : SS) (n : Nat) (h : VL_law40 ln xs K v σ n) : wp (some (ln, xs)) 2 cal_law C_law (Jl ln n) K 1000 1036 [vR 61 0, vR 11 0, vR 12 0, vI v] [] σ := h
set_option maxRecDepth 200000 in
set_option maxHeartbeats 4000000 in
theorem w_law41 (ln : Int) (xs : Int → Int) (K : AV → SS → Prop) (v : Int) (σ : SS) (n : Nat) (h : VL_law41 ln xs K v σ n) : wp (some (ln, xs)) 2 cal_law C_law (Jl ln n) K 1000 1053 [vR 61 0, vR 11 0, vR 12 0, vI v] [] σ := h
set_option maxRecDepth 200000 in
set_option maxHeartbeats 4000000 in
theorem w_law42 (ln : Int) (xs : Int → Int) (K : AV → SS → Prop) (v : Int) (σ : SS) (n : Nat) (h : VL_law42 ln xs K v σ n) : wp (some (ln, xs)) 2 cal_law C_law (Jl ln n) K 1000 1080 [vR 61 0, vR 11 0, vR 12 0, vI v] [] σ := h
set_option maxRecDepth 200000 in
set_option maxHeartbeats 4000000 in
theorem w_law43 (ln : Int) (xs : Int → Int) (K : AV → SS → Prop) (v : Int) (σ : SS) (n : Nat) (h : VL_law43 ln xs K v σ n) : wp (some (ln, xs)) 2 cal_law C_law (Jl ln n) K 1000 1107 [vR 61 0, vR 11 0, vR 12 0, vI v] [] σ := h
set_option maxRecDepth 200000 in
set_option maxHeartbeats 4000000 in
theorem w_law44 (ln : Int) (xs : Int → Int) (K : AV → SS → Prop) (v : Int) (σ : SS) (n : Nat) (h : VL_law44 ln xs K v σ n) : wp (some (ln, xs)) 2 cal_law C_law (Jl ln n) K 1000 1134 [vR 61 0, vR 11 0, vR 12 0, vI v] [] σ := h
