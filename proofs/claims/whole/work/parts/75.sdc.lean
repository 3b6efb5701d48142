/-! the class: seeds -/
def S_Un_coversAhead : GS := fun as σ K => match as with
  | [some (.inr (.inr (9, 0))), some (.inl a1), some (.inl a2)] => (TwC σ ∧ 0 ≤ a1 ∧ 1 ≤ a2 ∧ a1 + a2 ≤ (σ 501 0 0)) ∧ ∀ σ', TQ σ σ' → bS (ahP (cW σ) (σ 501 0 0) a1 a2) K σ'
  | _ => False
abbrev Lp_Un_coversAhead_6 (a1 : Int) (a2 : Int) (σ0 : SS) (n : Nat) (L : List AV) (σ : SS) : Prop := ∃ (v3 : Int), L = [vR 9 0, vI a1, vI a2, vI v3] ∧ n = (1000 - v3).toNat ∧ ((TQ σ0 σ) ∧ (1 ≤ v3) ∧ (v3 ≤ max 1 (a2 - a1 + 1) ∧ 1 ≤ a1) ∧ (∀ u, 1 ≤ u → u < v3 → lceR (cW σ0) (σ0 501 0 0) 0 (a1 + u) < a2 - u))
def Iv_Un_coversAhead (a1 : Int) (a2 : Int) (σ0 : SS) (k : Nat) : Option (List Nat × (Nat → List AV → SS → Prop)) := match k with
  | 6 => some ([], Lp_Un_coversAhead_6 a1 a2 σ0)
  | _ => none
def VE_Un_coversAhead (a1 : Int) (a2 : Int) (σ : SS) (K : AV → SS → Prop) : Prop :=
  ((a1 ≠ 0 →
    (∃ n', Lp_Un_coversAhead_6 a1 a2 σ n' [vR 9 0, vI a1, vI a2, vI 1] σ)) ∧
  (a1 = 0 →
    ((0 ≤ (1 : Int) ∧ (1 : Int) ≤ 1) ∧ K (vI 1) σ)))
def VL_Un_coversAhead_6 (a1 : Int) (a2 : Int) (σ0 : SS) (K : AV → SS → Prop) (v3 : Int) (σ : SS) (n : Nat) : Prop :=
  (InR (a2 - a1) ∧
  (((a2 - a1) < v3 →
    ((0 ≤ (0 : Int) ∧ (0 : Int) ≤ 1) ∧ K (vI 0) σ)) ∧
  (v3 ≤ (a2 - a1) →
    (InR (a1 + v3) ∧
    (S_Tw_common [vR 8 0, vI 0, vI (a1 + v3)] σ (kI fun r1 σ1 =>
      (InR (a2 - v3) ∧
      ((r1 < (a2 - v3) →
        (InR (v3 + 1) ∧
        (∃ n', n' < n ∧ Lp_Un_coversAhead_6 a1 a2 σ0 n' [vR 9 0, vI a1, vI a2, vI (v3 + 1)] σ1))) ∧
      ((a2 - v3) ≤ r1 →
        ((0 ≤ (1 : Int) ∧ (1 : Int) ≤ 1) ∧ K (vI 1) σ1))))))))))
theorem l_Un_coversAhead_6 (a1 : Int) (a2 : Int) (σ0 : SS) (K : AV → SS → Prop) (ha1 : InR a1) (ha2 : InR a2) (hs0 : okS σ0) (hG : S_Un_coversAhead [vR 9 0, vI a1, vI a2] σ0 K) (v3 : Int) (σ : SS) (hv3 : InR v3) (hs : okS σ) (n : Nat) (hn : n = (1000 - v3).toNat) (hQ : (TQ σ0 σ) ∧ (1 ≤ v3) ∧ (v3 ≤ max 1 (a2 - a1 + 1) ∧ 1 ≤ a1) ∧ (∀ u, 1 ≤ u → u < v3 → lceR (cW σ0) (σ0 501 0 0) 0 (a1 + u) < a2 - u)) : VL_Un_coversAhead_6 a1 a2 σ0 K v3 σ n := by
  unfold VL_Un_coversAhead_6
  obtain ⟨⟨hT, h1, h2, h3⟩, hG⟩ := hG
  have hb := hT.n
  obtain ⟨q0, q1, q2, q3⟩ := hQ
  have hT1 := q0.2
  obtain ⟨w1, w2⟩ := q0.w
  refine ⟨(by omega), ?_⟩
  refine ⟨fun c1 => ?_, fun c1 => ?_⟩
  · skip
    refine bS_n (hG _ q0) (fun z => ?_)
    rcases z with z | ⟨u, u0, u1, u2⟩
    · omega
    · have := q3 u u0 (by omega)
      omega
  · skip
    refine ⟨(by omega), ?_⟩
    refine ⟨(by first | assumption | omega | exact ⟨by first | assumption | omega, by omega⟩ | exact ⟨by assumption, by omega, by omega⟩ | exact ⟨by assumption, by omega, by omega, by omega⟩ | exact ⟨by assumption, by omega, by omega, by omega, by omega⟩ | exact ⟨by assumption, by omega, by omega, by omega, by omega, by omega⟩), (fun σ2 h2a h2b => ?_)⟩
    intro _ _
    rw [w1, w2]
    have tq := q0.tr ⟨h2a, h2b⟩
    refine ⟨(by omega), ?_⟩
    refine ⟨fun c3 => ?_, fun c3 => ?_⟩
    · skip
      refine ⟨(by omega), ?_⟩
      refine ⟨_, ?_, _, rfl, rfl, ?_⟩
      · omega
      · refine ⟨?_, ?_, ?_, ?_⟩
        · exact tq
        · first | rfl | assumption | omega
        · first | rfl | assumption | omega
        · intro u u0 u1
          rcases (by omega : u < v3 ∨ u = v3) with z | rfl
          · exact q3 u u0 z
          · assumption
    · skip
      exact bS_y (hG _ tq) (Or.inr ⟨v3, q1, by omega, by assumption⟩)
theorem e_Un_coversAhead (a1 : Int) (a2 : Int) (σ : SS) (K : AV → SS → Prop) (ha1 : InR a1) (ha2 : InR a2) (hs : okS σ) (hG : S_Un_coversAhead [vR 9 0, vI a1, vI a2] σ K) : VE_Un_coversAhead a1 a2 σ K := by
  unfold VE_Un_coversAhead
  obtain ⟨⟨hT, h1, h2, h3⟩, hG⟩ := hG
  refine ⟨fun c1 => ?_, fun c1 => ?_⟩
  · skip
    refine ⟨_, _, rfl, rfl, ?_⟩
    refine ⟨?_, ?_, ?_, ?_⟩
    · exact TQ.rf hT
    · first | rfl | assumption | omega
    · first | rfl | assumption | omega
    · exact fun u u0 u1 => by omega
  · skip
    exact bS_y (hG _ (TQ.rf hT)) (Or.inl (by omega))
theorem H_Un_coversAhead {d : Nat} (hd : 3 ≤ d) : Holds d I_Un_coversAhead S_Un_coversAhead := by
  refine holds_of (d' := d - 1) (rt := 2) (cal := [(I_Tw_common, S_Tw_common)]) (C := C_Un_coversAhead) m_Un_coversAhead o_Un_coversAhead rfl rfl (by omega) ?_ ?_
  · intro x hx
    simp only [List.mem_cons, List.not_mem_nil, or_false] at hx
    subst hx
    exact H_Tw_common (by omega)
  · intro as σ K has hσ hG
    have hG2 := hG
    unfold S_Un_coversAhead at hG2
    split at hG2
    · next a1 a2 =>
      refine ⟨Nat.le_of_ble_eq_true rfl, (Iv_Un_coversAhead a1 a2 σ), ?_, 1000, ?_⟩
      · intro k n z L σ' hk hL hs hP
        unfold Iv_Un_coversAhead at hk
        split at hk
        · cases hk
          obtain ⟨v3, rfl, hn, hQ⟩ := hP
          exact ⟨1000, l_Un_coversAhead_6 a1 a2 σ K (has _ (List.mem_of_getElem? (i := 1) rfl)) (has _ (List.mem_of_getElem? (i := 2) rfl)) hσ hG v3 σ' (hL _ (List.mem_of_getElem? (i := 3) rfl)) hs n hn hQ⟩
        · cases hk
      · exact e_Un_coversAhead a1 a2 σ K (has _ (List.mem_of_getElem? (i := 1) rfl)) (has _ (List.mem_of_getElem? (i := 2) rfl)) hσ hG
    · exact hG2.elim
def S_Un_coversBehind : GS := fun as σ K => match as with
  | [some (.inr (.inr (9, 0))), some (.inl a1), some (.inl a2)] => (TwC σ ∧ 0 ≤ a1 ∧ 1 ≤ a2 ∧ a1 + a2 ≤ (σ 501 0 0)) ∧ ∀ σ', TQ σ σ' → bS (bhP (cW σ) (σ 501 0 0) a1 a2) K σ'
  | _ => False
abbrev Lp_Un_coversBehind_4 (a1 : Int) (a2 : Int) (σ0 : SS) (n : Nat) (L : List AV) (σ : SS) : Prop := ∃ (v3 : Int) (v4 : Int), L = [vR 9 0, vI a1, vI a2, vI v3, vI v4, none] ∧ n = (1000 * (1000 - v4)).toNat ∧ ((TQ σ0 σ) ∧ (a1 ≤ v3 ∧ v3 < (σ0 501 0 0)) ∧ (0 ≤ v4 ∧ v4 ≤ v3 - a1) ∧ (∀ x, a1 ≤ x → x < min (σ0 501 0 0) (v3 + a2) → ∃ o, a1 ≤ o ∧ o ≤ x ∧ x < o + a2 ∧ liesP (cW σ0) (σ0 501 0 0) a1 a2 o))
abbrev Lp_Un_coversBehind_20 (a1 : Int) (a2 : Int) (σ0 : SS) (n : Nat) (L : List AV) (σ : SS) : Prop := ∃ (v3 : Int) (v4 : Int) (v5 : Int), L = [vR 9 0, vI a1, vI a2, vI v3, vI v4, vI v5] ∧ n = (1000 * (1000 - v4) - 500 + v5).toNat ∧ ((TQ σ0 σ) ∧ (a1 ≤ v3 ∧ v3 + a2 < (σ0 501 0 0)) ∧ (0 ≤ v4 ∧ v4 ≤ v3 - a1) ∧ (∀ x, a1 ≤ x → x < min (σ0 501 0 0) (v3 + a2) → ∃ o, a1 ≤ o ∧ o ≤ x ∧ x < o + a2 ∧ liesP (cW σ0) (σ0 501 0 0) a1 a2 o) ∧ (v3 ≤ v5 ∧ v5 ≤ v3 + a2) ∧ (∀ o, v5 < o → o ≤ v3 + a2 → ¬ liesP (cW σ0) (σ0 501 0 0) a1 a2 o))
def Iv_Un_coversBehind (a1 : Int) (a2 : Int) (σ0 : SS) (k : Nat) : Option (List Nat × (Nat → List AV → SS → Prop)) := match k with
  | 4 => some ([5], Lp_Un_coversBehind_4 a1 a2 σ0)
  | 20 => some ([], Lp_Un_coversBehind_20 a1 a2 σ0)
  | _ => none
def VE_Un_coversBehind (a1 : Int) (a2 : Int) (σ : SS) (K : AV → SS → Prop) : Prop :=
  (∃ n', Lp_Un_coversBehind_4 a1 a2 σ n' [vR 9 0, vI a1, vI a2, vI a1, vI 0, none] σ)
def VL_Un_coversBehind_4 (a1 : Int) (a2 : Int) (σ0 : SS) (K : AV → SS → Prop) (v3 : Int) (v4 : Int) (σ : SS) (n : Nat) : Prop :=
  (S_Wo_size [vR 10 0] σ (kI fun r1 σ1 =>
    ((r1 < v4 →
      ((0 ≤ (1 : Int) ∧ (1 : Int) ≤ 1) ∧ K (vI 1) σ1)) ∧
    (v4 ≤ r1 →
      (InR (v3 + a2) ∧
      (S_Wo_size [vR 10 0] σ1 (kI fun r2 σ2 =>
        ((r2 ≤ (v3 + a2) →
          ((0 ≤ (1 : Int) ∧ (1 : Int) ≤ 1) ∧ K (vI 1) σ2)) ∧
        ((v3 + a2) < r2 →
          (InR (v3 + a2) ∧
          (∃ n', n' < n ∧ Lp_Un_coversBehind_20 a1 a2 σ0 n' [vR 9 0, vI a1, vI a2, vI v3, vI v4, vI (v3 + a2)] σ2)))))))))))
def VL_Un_coversBehind_20 (a1 : Int) (a2 : Int) (σ0 : SS) (K : AV → SS → Prop) (v3 : Int) (v4 : Int) (v5 : Int) (σ : SS) (n : Nat) : Prop :=
  ((v5 ≤ v3 →
    ((v5 ≠ v3 →
      (InR (v4 + 1) ∧
      (∃ n', n' < n ∧ Lp_Un_coversBehind_4 a1 a2 σ0 n' [vR 9 0, vI a1, vI a2, vI v5, vI (v4 + 1), none] σ))) ∧
    (v5 = v3 →
      ((0 ≤ (0 : Int) ∧ (0 : Int) ≤ 1) ∧ K (vI 0) σ)))) ∧
  (v3 < v5 →
    (S_Tw_common [vR 8 0, vI a1, vI v5] σ (kI fun r1 σ1 =>
      (S_Wo_size [vR 10 0] σ1 (kI fun r2 σ2 =>
        (InR (r2 - v5) ∧
        (((min a2 (r2 - v5)) ≤ r1 →
          ((v5 ≠ v3 →
            (InR (v4 + 1) ∧
            (∃ n', n' < n ∧ Lp_Un_coversBehind_4 a1 a2 σ0 n' [vR 9 0, vI a1, vI a2, vI v5, vI (v4 + 1), none] σ2))) ∧
          (v5 = v3 →
            ((0 ≤ (0 : Int) ∧ (0 : Int) ≤ 1) ∧ K (vI 0) σ2)))) ∧
        (r1 < (min a2 (r2 - v5)) →
          (InR (v5 + (-1)) ∧
          (∃ n', n' < n ∧ Lp_Un_coversBehind_20 a1 a2 σ0 n' [vR 9 0, vI a1, vI a2, vI v3, vI v4, vI (v5 + (-1))] σ2)))))))))))
theorem l_Un_coversBehind_4 (a1 : Int) (a2 : Int) (σ0 : SS) (K : AV → SS → Prop) (ha1 : InR a1) (ha2 : InR a2) (hs0 : okS σ0) (hG : S_Un_coversBehind [vR 9 0, vI a1, vI a2] σ0 K) (v3 : Int) (v4 : Int) (σ : SS) (hv3 : InR v3) (hv4 : InR v4) (hs : okS σ) (n : Nat) (hn : n = (1000 * (1000 - v4)).toNat) (hQ : (TQ σ0 σ) ∧ (a1 ≤ v3 ∧ v3 < (σ0 501 0 0)) ∧ (0 ≤ v4 ∧ v4 ≤ v3 - a1) ∧ (∀ x, a1 ≤ x → x < min (σ0 501 0 0) (v3 + a2) → ∃ o, a1 ≤ o ∧ o ≤ x ∧ x < o + a2 ∧ liesP (cW σ0) (σ0 501 0 0) a1 a2 o)) : VL_Un_coversBehind_4 a1 a2 σ0 K v3 v4 σ n := by
  unfold VL_Un_coversBehind_4
  obtain ⟨⟨hT, h1, h2, h3⟩, hG⟩ := hG
  have hb := hT.n
  obtain ⟨q0, q1, q2, q3⟩ := hQ
  obtain ⟨w1, w2⟩ := q0.w
  intro _ _
  refine ⟨fun c1 => ?_, fun c1 => ?_⟩
  · skip
    exact absurd c1 (by omega)
  · skip
    refine ⟨(by omega), ?_⟩
    intro _ _
    refine ⟨fun c2 => ?_, fun c2 => ?_⟩
    · skip
      exact bS_y (hG _ q0) (fun x x0 x1 => q3 x x0 (by omega))
    · skip
      refine ⟨(by omega), ?_⟩
      refine ⟨_, ?_, _, _, _, rfl, rfl, ?_⟩
      · omega
      · refine ⟨?_, ?_, ?_, ?_, ?_, ?_⟩
        · first | rfl | assumption | omega
        · first | rfl | assumption | omega
        · first | rfl | assumption | omega
        · first | rfl | assumption | omega
        · first | rfl | assumption | omega
        · exact fun o o0 o1 => by omega
theorem l_Un_coversBehind_20 (a1 : Int) (a2 : Int) (σ0 : SS) (K : AV → SS → Prop) (ha1 : InR a1) (ha2 : InR a2) (hs0 : okS σ0) (hG : S_Un_coversBehind [vR 9 0, vI a1, vI a2] σ0 K) (v3 : Int) (v4 : Int) (v5 : Int) (σ : SS) (hv3 : InR v3) (hv4 : InR v4) (hv5 : InR v5) (hs : okS σ) (n : Nat) (hn : n = (1000 * (1000 - v4) - 500 + v5).toNat) (hQ : (TQ σ0 σ) ∧ (a1 ≤ v3 ∧ v3 + a2 < (σ0 501 0 0)) ∧ (0 ≤ v4 ∧ v4 ≤ v3 - a1) ∧ (∀ x, a1 ≤ x → x < min (σ0 501 0 0) (v3 + a2) → ∃ o, a1 ≤ o ∧ o ≤ x ∧ x < o + a2 ∧ liesP (cW σ0) (σ0 501 0 0) a1 a2 o) ∧ (v3 ≤ v5 ∧ v5 ≤ v3 + a2) ∧ (∀ o, v5 < o → o ≤ v3 + a2 → ¬ liesP (cW σ0) (σ0 501 0 0) a1 a2 o)) : VL_Un_coversBehind_20 a1 a2 σ0 K v3 v4 v5 σ n := by
  unfold VL_Un_coversBehind_20
  obtain ⟨⟨hT, h1, h2, h3⟩, hG⟩ := hG
  have hb := hT.n
  obtain ⟨q0, q1, q2, q3, q4, q5⟩ := hQ
  have hT1 := q0.2
  obtain ⟨w1, w2⟩ := q0.w
  have ll := fun z : v3 < v5 => lies_lce (w := cW σ0) (n := (σ0 501 0 0)) (i := a1) (L := a2) (o := v5) h1 h3 (by omega) (by omega) h2
  have none : v5 = v3 → ¬ bhP (cW σ0) (σ0 501 0 0) a1 a2 := fun z y => by
    obtain ⟨o, o0, o1, o2, o3⟩ := y (v3 + a2) (by omega) q1.2
    exact q5 o (by omega) o1 o3
  have more : v3 < v5 → liesP (cW σ0) (σ0 501 0 0) a1 a2 v5 → ∀ x, a1 ≤ x → x < min (σ0 501 0 0) (v5 + a2) → ∃ o, a1 ≤ o ∧ o ≤ x ∧ x < o + a2 ∧ liesP (cW σ0) (σ0 501 0 0) a1 a2 o := fun z y x x0 x1 => by
    rcases (by omega : x < min (σ0 501 0 0) (v3 + a2) ∨ v3 + a2 ≤ x) with k | k
    · exact q3 x x0 k
    · exact ⟨v5, by omega, by omega, by omega, y⟩
  refine ⟨fun c1 => ?_, fun c1 => ?_⟩
  · skip
    refine ⟨fun c2 => ?_, fun c2 => ?_⟩
    · skip
      refine ⟨(by omega), ?_⟩
      exact absurd c2 (by omega)
    · skip
      exact bS_n (hG _ q0) (none (by omega))
  · skip
    refine ⟨(by first | assumption | omega | exact ⟨by first | assumption | omega, by omega⟩ | exact ⟨by assumption, by omega, by omega⟩ | exact ⟨by assumption, by omega, by omega, by omega⟩ | exact ⟨by assumption, by omega, by omega, by omega, by omega⟩ | exact ⟨by assumption, by omega, by omega, by omega, by omega, by omega⟩), (fun σ2 h2a h2b => ?_)⟩
    intro _ _
    rw [w1, w2]
    have tq := q0.tr ⟨h2a, h2b⟩
    have e2 := tq.w.2
    intro _ _
    refine ⟨(by omega), ?_⟩
    refine ⟨fun c3 => ?_, fun c3 => ?_⟩
    · skip
      rw [e2] at c3
      have hl := (ll (by omega)).mpr c3
      refine ⟨fun c4 => ?_, fun c4 => ?_⟩
      · skip
        refine ⟨(by omega), ?_⟩
        refine ⟨_, ?_, _, _, rfl, rfl, ?_⟩
        · omega
        · refine ⟨?_, ?_, ?_, ?_⟩
          · exact tq
          · first | rfl | assumption | omega
          · first | rfl | assumption | omega
          · exact more (by omega) hl
      · skip
        exact absurd c4 (by omega)
    · skip
      rw [e2] at c3
      have hl : ¬ liesP (cW σ0) (σ0 501 0 0) a1 a2 v5 := fun z => by have := (ll (by omega)).mp z; omega
      refine ⟨(by omega), ?_⟩
      refine ⟨_, ?_, _, _, _, rfl, rfl, ?_⟩
      · omega
      · refine ⟨?_, ?_, ?_, ?_, ?_, ?_⟩
        · exact tq
        · first | rfl | assumption | omega
        · first | rfl | assumption | omega
        · first | rfl | assumption | omega
        · first | rfl | assumption | omega
        · intro o o0 o1
          rcases (by omega : v5 < o ∨ o = v5) with z | rfl
          · exact q5 o z o1
          · exact hl
theorem e_Un_coversBehind (a1 : Int) (a2 : Int) (σ : SS) (K : AV → SS → Prop) (ha1 : InR a1) (ha2 : InR a2) (hs : okS σ) (hG : S_Un_coversBehind [vR 9 0, vI a1, vI a2] σ K) : VE_Un_coversBehind a1 a2 σ K := by
  unfold VE_Un_coversBehind
  obtain ⟨⟨hT, h1, h2, h3⟩, hG⟩ := hG
  refine ⟨_, _, _, rfl, rfl, ?_⟩
  refine ⟨?_, ?_, ?_, ?_⟩
  · exact TQ.rf hT
  · first | rfl | assumption | omega
  · first | rfl | assumption | omega
  · exact fun x x0 x1 => ⟨a1, Int.le_refl _, x0, by omega, lies_self⟩
theorem H_Un_coversBehind {d : Nat} (hd : 3 ≤ d) : Holds d I_Un_coversBehind S_Un_coversBehind := by
  refine holds_of (d' := d - 1) (rt := 2) (cal := [(I_Wo_size, S_Wo_size), (I_Tw_common, S_Tw_common)]) (C := C_Un_coversBehind) m_Un_coversBehind o_Un_coversBehind rfl rfl (by omega) ?_ ?_
  · intro x hx
    simp only [List.mem_cons, List.not_mem_nil, or_false] at hx
    rcases hx with rfl | rfl
    · exact H_Wo_size (by omega)
    · exact H_Tw_common (by omega)
  · intro as σ K has hσ hG
    have hG2 := hG
    unfold S_Un_coversBehind at hG2
    split at hG2
    · next a1 a2 =>
      refine ⟨Nat.le_of_ble_eq_true rfl, (Iv_Un_coversBehind a1 a2 σ), ?_, 1000, ?_⟩
      · intro k n z L σ' hk hL hs hP
        unfold Iv_Un_coversBehind at hk
        split at hk
        · cases hk
          obtain ⟨v3, v4, rfl, hn, hQ⟩ := hP
          exact ⟨1000, l_Un_coversBehind_4 a1 a2 σ K (has _ (List.mem_of_getElem? (i := 1) rfl)) (has _ (List.mem_of_getElem? (i := 2) rfl)) hσ hG v3 v4 σ' (hL _ (List.mem_of_getElem? (i := 3) rfl)) (hL _ (List.mem_of_getElem? (i := 4) rfl)) hs n hn hQ⟩
        · cases hk
          obtain ⟨v3, v4, v5, rfl, hn, hQ⟩ := hP
          exact ⟨1000, l_Un_coversBehind_20 a1 a2 σ K (has _ (List.mem_of_getElem? (i := 1) rfl)) (has _ (List.mem_of_getElem? (i := 2) rfl)) hσ hG v3 v4 v5 σ' (hL _ (List.mem_of_getElem? (i := 3) rfl)) (hL _ (List.mem_of_getElem? (i := 4) rfl)) (hL _ (List.mem_of_getElem? (i := 5) rfl)) hs n hn hQ⟩
        · cases hk
      · exact e_Un_coversBehind a1 a2 σ K (has _ (List.mem_of_getElem? (i := 1) rfl)) (has _ (List.mem_of_getElem? (i := 2) rfl)) hσ hG
    · exact hG2.elim
def S_Un_isSeed : GS := fun as σ K => match as with
  | [some (.inr (.inr (9, 0))), some (.inl a1), some (.inl a2)] => (TwC σ ∧ 0 ≤ a1 ∧ 1 ≤ a2 ∧ a1 + a2 ≤ (σ 501 0 0)) ∧ ∀ σ', TQ σ σ' → bS (sdP (cW σ) (σ 501 0 0) a1 a2) K σ'
  | _ => False
def VE_Un_isSeed (a1 : Int) (a2 : Int) (σ : SS) (K : AV → SS → Prop) : Prop :=
  (S_Un_isFirst [vR 9 0, vI a1, vI a2] σ (kI fun r1 σ1 =>
    ((r1 = 0 →
      ((0 ≤ (0 : Int) ∧ (0 : Int) ≤ 1) ∧ K (vI 0) σ1)) ∧
    (r1 ≠ 0 →
      (S_Un_coversAhead [vR 9 0, vI a1, vI a2] σ1 (kI fun r2 σ2 =>
        ((r2 = 0 →
          ((0 ≤ (0 : Int) ∧ (0 : Int) ≤ 1) ∧ K (vI 0) σ2)) ∧
        (r2 ≠ 0 →
          (S_Un_coversBehind [vR 9 0, vI a1, vI a2] σ2 (kI fun r3 σ3 =>
            ((r3 = 0 →
              ((0 ≤ (0 : Int) ∧ (0 : Int) ≤ 1) ∧ K (vI 0) σ3)) ∧
            (r3 ≠ 0 →
              ((0 ≤ (1 : Int) ∧ (1 : Int) ≤ 1) ∧ K (vI 1) σ3)))))))))))))
theorem e_Un_isSeed (a1 : Int) (a2 : Int) (σ : SS) (K : AV → SS → Prop) (ha1 : InR a1) (ha2 : InR a2) (hs : okS σ) (hG : S_Un_isSeed [vR 9 0, vI a1, vI a2] σ K) : VE_Un_isSeed a1 a2 σ K := by
  unfold VE_Un_isSeed
  obtain ⟨⟨hT, h1, h2, h3⟩, hG⟩ := hG
  have hb := hT.n
  have sp := sd_split (w := cW σ) (n := (σ 501 0 0)) h1 h2 h3
  refine ⟨(by first | assumption | omega | exact ⟨by first | assumption | omega, by omega⟩ | exact ⟨by assumption, by omega, by omega⟩ | exact ⟨by assumption, by omega, by omega, by omega⟩ | exact ⟨by assumption, by omega, by omega, by omega, by omega⟩ | exact ⟨by assumption, by omega, by omega, by omega, by omega, by omega⟩), (fun σ1 h1a => ?_)⟩
  have t1 : TQ σ σ1 := h1a
  have hT1 := t1.2
  obtain ⟨w1, w2⟩ := t1.w
  refine bS_b0 (fun p2 _ => ?_) (fun p2 _ => ?_)
  · skip
    refine ⟨(by rw [w2]; exact ⟨hT1, h1, h2, h3⟩), (fun σ3 h3a => ?_)⟩
    have t2 : TQ σ σ3 := t1.tr h3a
    have hT2 := t2.2
    obtain ⟨y1, y2⟩ := t2.w
    rw [w1, w2]
    refine bS_b0 (fun p4 _ => ?_) (fun p4 _ => ?_)
    · skip
      refine ⟨(by rw [y2]; exact ⟨hT2, h1, h2, h3⟩), (fun σ5 h5a => ?_)⟩
      have t3 : TQ σ σ5 := t2.tr h5a
      rw [y1, y2]
      refine bS_b0 (fun p6 _ => ?_) (fun p6 _ => ?_)
      · skip
        exact bS_y (hG _ t3) ⟨h1, h2, h3, by assumption, (sp (by assumption)).mpr ⟨by assumption, by assumption⟩⟩
      · skip
        exact bS_n (hG _ t3) (fun z => absurd ((sp z.2.2.2.1).mp z.2.2.2.2).2 (by assumption))
    · skip
      exact bS_n (hG _ t2) (fun z => absurd ((sp z.2.2.2.1).mp z.2.2.2.2).1 (by assumption))
  · skip
    exact bS_n (hG _ t1) (fun z => absurd z.2.2.2.1 (by assumption))
theorem H_Un_isSeed {d : Nat} (hd : 4 ≤ d) : Holds d I_Un_isSeed S_Un_isSeed := by
  refine holds_of (d' := d - 1) (rt := 2) (cal := [(I_Un_isFirst, S_Un_isFirst), (I_Un_coversAhead, S_Un_coversAhead), (I_Un_coversBehind, S_Un_coversBehind)]) (C := C_Un_isSeed) m_Un_isSeed o_Un_isSeed rfl rfl (by omega) ?_ ?_
  · intro x hx
    simp only [List.mem_cons, List.not_mem_nil, or_false] at hx
    rcases hx with rfl | rfl | rfl
    · exact H_Un_isFirst (by omega)
    · exact H_Un_coversAhead (by omega)
    · exact H_Un_coversBehind (by omega)
  · intro as σ K has hσ hG
    have hG2 := hG
    unfold S_Un_isSeed at hG2
    split at hG2
    · next a1 a2 =>
      refine ⟨Nat.le_of_ble_eq_true rfl, (fun _ => none), ?_, 1000, ?_⟩
      · intro k n z L σ' hk hL hs hP
        cases hk
      · exact e_Un_isSeed a1 a2 σ K (has _ (List.mem_of_getElem? (i := 1) rfl)) (has _ (List.mem_of_getElem? (i := 2) rfl)) hσ hG
    · exact hG2.elim
