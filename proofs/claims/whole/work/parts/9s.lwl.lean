/-! the law: its code, its loop, its calls -/
set_option maxRecDepth 200000 in
set_option maxHeartbeats 4000000 in
theorem o_law : okC "WordRunsLaw" (cal_law.map (fun z => z.1)) code 2 4 C_law = true := by
  unfold okC
  rw [List.all_eq_true]
  intro k hk
  have hk : k < 1155 := List.mem_range.mp hk
  have at_ : ∀ {a n : Nat}, okCh a n = true → a ≤ k → k < a + n → okEl k = true := by
    intro a n h h1 h2
    have := List.all_eq_true.mp h (k - a) (List.mem_range.mpr (by omega))
    rwa [show a + (k - a) = k by omega] at this
  show okEl k = true
  rcases Nat.lt_or_ge k 55 with h0 | h0
  · exact at_ o_law0 (by omega) (by omega)
  rcases Nat.lt_or_ge k 110 with h1 | h1
  · exact at_ o_law1 (by omega) (by omega)
  rcases Nat.lt_or_ge k 165 with h2 | h2
  · exact at_ o_law2 (by omega) (by omega)
  rcases Nat.lt_or_ge k 220 with h3 | h3
  · exact at_ o_law3 (by omega) (by omega)
  rcases Nat.lt_or_ge k 275 with h4 | h4
  · exact at_ o_law4 (by omega) (by omega)
  rcases Nat.lt_or_ge k 330 with h5 | h5
  · exact at_ o_law5 (by omega) (by omega)
  rcases Nat.lt_or_ge k 385 with h6 | h6
  · exact at_ o_law6 (by omega) (by omega)
  rcases Nat.lt_or_ge k 440 with h7 | h7
  · exact at_ o_law7 (by omega) (by omega)
  rcases Nat.lt_or_ge k 495 with h8 | h8
  · exact at_ o_law8 (by omega) (by omega)
  rcases Nat.lt_or_ge k 550 with h9 | h9
  · exact at_ o_law9 (by omega) (by omega)
  rcases Nat.lt_or_ge k 605 with h10 | h10
  · exact at_ o_law10 (by omega) (by omega)
  rcases Nat.lt_or_ge k 660 with h11 | h11
  · exact at_ o_law11 (by omega) (by omega)
  rcases Nat.lt_or_ge k 715 with h12 | h12
  · exact at_ o_law12 (by omega) (by omega)
  rcases Nat.lt_or_ge k 770 with h13 | h13
  · exact at_ o_law13 (by omega) (by omega)
  rcases Nat.lt_or_ge k 825 with h14 | h14
  · exact at_ o_law14 (by omega) (by omega)
  rcases Nat.lt_or_ge k 880 with h15 | h15
  · exact at_ o_law15 (by omega) (by omega)
  rcases Nat.lt_or_ge k 935 with h16 | h16
  · exact at_ o_law16 (by omega) (by omega)
  rcases Nat.lt_or_ge k 990 with h17 | h17
  · exact at_ o_law17 (by omega) (by omega)
  rcases Nat.lt_or_ge k 1045 with h18 | h18
  · exact at_ o_law18 (by omega) (by omega)
  rcases Nat.lt_or_ge k 1100 with h19 | h19
  · exact at_ o_law19 (by omega) (by omega)
  exact at_ o_law20 (by omega) (by omega)
set_option maxRecDepth 200000 in
set_option maxHeartbeats 4000000 in
theorem law_wp {ln : Int} {xs : Int → Int} {K : AV → SS → Prop} (hK : ∀ σ, K (vI 1) σ) (hl : 0 ≤ ln ∧ ln ≤ 3072) : ∀ (k n : Nat) (z : List Nat × (Nat → List AV → SS → Prop)) (L : List AV) (σ : SS), Iv_law ln k = some z → okVs L → okS σ → z.2 n L σ → ∃ f, wp (some (ln, xs)) 2 cal_law C_law (Jl ln n) K f k L [] σ := by
  intro k n z L σ hk _ _ hP
  unfold Iv_law at hk
  split at hk
  · next hb =>
    have e := Nat.eq_of_beq_eq_true hb
    subst e
    cases hk
    obtain ⟨v, rfl, hn, hv, hS⟩ := hP
    exact ⟨1000, w_lawH ln xs K v σ n (l_lawH ln xs K v σ n hK hl hn hv hS)⟩
  · split at hk
    · next hc =>
      cases hk
      obtain ⟨x, hx, hkx⟩ := List.any_eq_true.mp hc
      have e := Nat.eq_of_beq_eq_true hkx
      subst e
      obtain ⟨v, rfl, hn, hv, hS⟩ := hP
      simp only [cutL, List.mem_cons, List.not_mem_nil, or_false] at hx
      rcases hx with rfl | rfl | rfl | rfl | rfl | rfl | rfl | rfl | rfl | rfl | rfl | rfl | rfl | rfl | rfl | rfl | rfl | rfl | rfl | rfl | rfl | rfl | rfl | rfl | rfl | rfl | rfl | rfl | rfl | rfl | rfl | rfl | rfl | rfl | rfl | rfl | rfl | rfl | rfl | rfl | rfl | rfl | rfl | rfl | rfl
      · exact ⟨1000, w_law0 ln xs K v σ n (l_law0 ln xs K v σ n hl hn hv hS)⟩
      · exact ⟨1000, w_law1 ln xs K v σ n (l_law1 ln xs K v σ n hl hn hv hS)⟩
      · exact ⟨1000, w_law2 ln xs K v σ n (l_law2 ln xs K v σ n hl hn hv hS)⟩
      · exact ⟨1000, w_law3 ln xs K v σ n (l_law3 ln xs K v σ n hl hn hv hS)⟩
      · exact ⟨1000, w_law4 ln xs K v σ n (l_law4 ln xs K v σ n hl hn hv hS)⟩
      · exact ⟨1000, w_law5 ln xs K v σ n (l_law5 ln xs K v σ n hl hn hv hS)⟩
      · exact ⟨1000, w_law6 ln xs K v σ n (l_law6 ln xs K v σ n hl hn hv hS)⟩
      · exact ⟨1000, w_law7 ln xs K v σ n (l_law7 ln xs K v σ n hl hn hv hS)⟩
      · exact ⟨1000, w_law8 ln xs K v σ n (l_law8 ln xs K v σ n hl hn hv hS)⟩
      · exact ⟨1000, w_law9 ln xs K v σ n (l_law9 ln xs K v σ n hl hn hv hS)⟩
      · exact ⟨1000, w_law10 ln xs K v σ n (l_law10 ln xs K v σ n hl hn hv hS)⟩
      · exact ⟨1000, w_law11 ln xs K v σ n (l_law11 ln xs K v σ n hl hn hv hS)⟩
      · exact ⟨1000, w_law12 ln xs K v σ n (l_law12 ln xs K v σ n hl hn hv hS)⟩
      · exact ⟨1000, w_law13 ln xs K v σ n (l_law13 ln xs K v σ n hl hn hv hS)⟩
      · exact ⟨1000, w_law14 ln xs K v σ n (l_law14 ln xs K v σ n hl hn hv hS)⟩
      · exact ⟨1000, w_law15 ln xs K v σ n (l_law15 ln xs K v σ n hl hn hv hS)⟩
      · exact ⟨1000, w_law16 ln xs K v σ n (l_law16 ln xs K v σ n hl hn hv hS)⟩
      · exact ⟨1000, w_law17 ln xs K v σ n (l_law17 ln xs K v σ n hl hn hv hS)⟩
      · exact ⟨1000, w_law18 ln xs K v σ n (l_law18 ln xs K v σ n hl hn hv hS)⟩
      · exact ⟨1000, w_law19 ln xs K v σ n (l_law19 ln xs K v σ n hl hn hv hS)⟩
      · exact ⟨1000, w_law20 ln xs K v σ n (l_law20 ln xs K v σ n hl hn hv hS)⟩
      · exact ⟨1000, w_law21 ln xs K v σ n (l_law21 ln xs K v σ n hl hn hv hS)⟩
      · exact ⟨1000, w_law22 ln xs K v σ n (l_law22 ln xs K v σ n hl hn hv hS)⟩
      · exact ⟨1000, w_law23 ln xs K v σ n (l_law23 ln xs K v σ n hl hn hv hS)⟩
      · exact ⟨1000, w_law24 ln xs K v σ n (l_law24 ln xs K v σ n hl hn hv hS)⟩
      · exact ⟨1000, w_law25 ln xs K v σ n (l_law25 ln xs K v σ n hl hn hv hS)⟩
      · exact ⟨1000, w_law26 ln xs K v σ n (l_law26 ln xs K v σ n hl hn hv hS)⟩
      · exact ⟨1000, w_law27 ln xs K v σ n (l_law27 ln xs K v σ n hl hn hv hS)⟩
      · exact ⟨1000, w_law28 ln xs K v σ n (l_law28 ln xs K v σ n hl hn hv hS)⟩
      · exact ⟨1000, w_law29 ln xs K v σ n (l_law29 ln xs K v σ n hl hn hv hS)⟩
      · exact ⟨1000, w_law30 ln xs K v σ n (l_law30 ln xs K v σ n hl hn hv hS)⟩
      · exact ⟨1000, w_law31 ln xs K v σ n (l_law31 ln xs K v σ n hl hn hv hS)⟩
      · exact ⟨1000, w_law32 ln xs K v σ n (l_law32 ln xs K v σ n hl hn hv hS)⟩
      · exact ⟨1000, w_law33 ln xs K v σ n (l_law33 ln xs K v σ n hl hn hv hS)⟩
      · exact ⟨1000, w_law34 ln xs K v σ n (l_law34 ln xs K v σ n hl hn hv hS)⟩
      · exact ⟨1000, w_law35 ln xs K v σ n (l_law35 ln xs K v σ n hl hn hv hS)⟩
      · exact ⟨1000, w_law36 ln xs K v σ n (l_law36 ln xs K v σ n hl hn hv hS)⟩
      · exact ⟨1000, w_law37 ln xs K v σ n (l_law37 ln xs K v σ n hl hn hv hS)⟩
      · exact ⟨1000, w_law38 ln xs K v σ n (l_law38 ln xs K v σ n hl hn hv hS)⟩
      · exact ⟨1000, w_law39 ln xs K v σ n (l_law39 ln xs K v σ n hl hn hv hS)⟩
      · exact ⟨1000, w_law40 ln xs K v σ n (l_law40 ln xs K v σ n hl hn hv hS)⟩
      · exact ⟨1000, w_law41 ln xs K v σ n (l_law41 ln xs K v σ n hl hn hv hS)⟩
      · exact ⟨1000, w_law42 ln xs K v σ n (l_law42 ln xs K v σ n hl hn hv hS)⟩
      · exact ⟨1000, w_law43 ln xs K v σ n (l_law43 ln xs K v σ n hl hn hv hS)⟩
      · exact ⟨1000, w_law44 ln xs K v σ n (l_law44 ln xs K v σ n hl hn hv hS)⟩
    · cases hk
theorem law_cal : ∀ x ∈ cal_law, Holds 400 x.1 x.2 := by
  intro x hx
  simp only [cal_law, List.mem_cons, List.not_mem_nil, or_false] at hx
  rcases hx with rfl | rfl | rfl | rfl | rfl | rfl | rfl | rfl | rfl | rfl | rfl | rfl | rfl | rfl | rfl | rfl | rfl | rfl | rfl | rfl | rfl | rfl | rfl | rfl | rfl | rfl | rfl | rfl | rfl | rfl | rfl | rfl | rfl | rfl | rfl | rfl | rfl | rfl | rfl | rfl | rfl | rfl | rfl | rfl | rfl | rfl | rfl | rfl | rfl | rfl | rfl | rfl | rfl | rfl | rfl | rfl | rfl | rfl | rfl | rfl | rfl | rfl | rfl | rfl | rfl | rfl | rfl | rfl | rfl | rfl | rfl | rfl | rfl | rfl | rfl | rfl | rfl | rfl | rfl | rfl | rfl | rfl | rfl | rfl | rfl | rfl | rfl | rfl | rfl | rfl
  · exact H_Wr_feed (by omega)
  · exact H_Mo_feed (by omega)
  · exact H_Wr_end (by omega)
  · exact H_Mo_end (by omega)
  · exact H_Wr_tell (by omega)
  · exact H_Mo_tell (by omega)
  · exact H_Wr_put (by omega)
  · exact H_Mo_put (by omega)
  · exact H_Wr_insert (by omega)
  · exact H_Mo_insert (by omega)
  · exact H_Wr_drop (by omega)
  · exact H_Mo_drop (by omega)
  · exact H_Wr_turn (by omega)
  · exact H_Mo_turn (by omega)
  · exact H_Wr_again (by omega)
  · exact H_Mo_again (by omega)
  · exact H_Wr_rotate (by omega)
  · exact H_Mo_rotate (by omega)
  · exact H_Wr_only (by omega)
  · exact H_Mo_only (by omega)
  · exact H_Wr_undo (by omega)
  · exact H_Mo_undo (by omega)
  · exact H_Wr_keep (by omega)
  · exact H_Mo_keep (by omega)
  · exact H_Wr_back (by omega)
  · exact H_Mo_back (by omega)
  · exact H_Wr_letter (by omega)
  · exact H_Mo_letter (by omega)
  · exact H_Wr_border (by omega)
  · exact H_Mo_border (by omega)
  · exact H_Wr_period (by omega)
  · exact H_Mo_period (by omega)
  · exact H_Wr_root (by omega)
  · exact H_Mo_root (by omega)
  · exact H_Wr_lyndon (by omega)
  · exact H_Mo_lyndon (by omega)
  · exact H_Wr_longest (by omega)
  · exact H_Mo_longest (by omega)
  · exact H_Wr_run (by omega)
  · exact H_Mo_run (by omega)
  · exact H_Wr_runs (by omega)
  · exact H_Mo_runs (by omega)
  · exact H_Wr_squares (by omega)
  · exact H_Mo_squares (by omega)
  · exact H_Wr_power (by omega)
  · exact H_Mo_power (by omega)
  · exact H_Wr_cover (by omega)
  · exact H_Mo_cover (by omega)
  · exact H_Wr_seed (by omega)
  · exact H_Mo_seed (by omega)
  · exact H_Wr_cloak (by omega)
  · exact H_Mo_cloak (by omega)
  · exact H_Wr_mirror (by omega)
  · exact H_Mo_mirror (by omega)
  · exact H_Wr_mirrors (by omega)
  · exact H_Mo_mirrors (by omega)
  · exact H_Wr_factors (by omega)
  · exact H_Mo_factors (by omega)
  · exact H_Wr_bare (by omega)
  · exact H_Mo_bare (by omega)
  · exact H_Wr_twice (by omega)
  · exact H_Mo_twice (by omega)
  · exact H_Wr_phrase (by omega)
  · exact H_Mo_phrase (by omega)
  · exact H_Wr_ends (by omega)
  · exact H_Mo_ends (by omega)
  · exact H_Wr_abel (by omega)
  · exact H_Mo_abel (by omega)
  · exact H_Wr_often (by omega)
  · exact H_Mo_often (by omega)
  · exact H_Wr_lies (by omega)
  · exact H_Mo_lies (by omega)
  · exact H_Wr_compare (by omega)
  · exact H_Mo_compare (by omega)
  · exact H_Wr_sub (by omega)
  · exact H_Mo_sub (by omega)
  · exact H_Wr_closed (by omega)
  · exact H_Mo_closed (by omega)
  · exact H_Wr_absent (by omega)
  · exact H_Mo_absent (by omega)
  · exact H_Wr_special (by omega)
  · exact H_Mo_special (by omega)
  · exact H_Wr_gapped (by omega)
  · exact H_Mo_gapped (by omega)
  · exact H_Wr_change (by omega)
  · exact H_Mo_change (by omega)
  · exact H_Wr_alike (by omega)
  · exact H_Mo_alike (by omega)
  · exact H_Wr_count (by omega)
  · exact H_Mo_count (by omega)
