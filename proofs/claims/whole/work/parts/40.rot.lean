/-! rotations: the least one, the first such; root() -/
def rlet (w : Int → Int) (i m o x : Int) : Int := w (i + (if o + x < m then o + x else o + x - m))
/-- rotation o is less than rotation q -/
def rotLt (w : Int → Int) (i m o q : Int) : Prop := ∃ x, 0 ≤ x ∧ x < m ∧ (∀ y, 0 ≤ y → y < x → rlet w i m o y = rlet w i m q y) ∧ rlet w i m o x < rlet w i m q x
noncomputable def lrN (w : Int → Int) (i m : Int) : Nat → Int
  | 0 => 0
  | k + 1 => @ite Int (rotLt w i m ((k : Int) + 1) (lrN w i m k)) (Classical.propDecidable _) ((k : Int) + 1) (lrN w i m k)
noncomputable def lrF (w : Int → Int) (i m : Int) : Int := lrN w i m (m - 1).toNat
theorem lrN_in {w : Int → Int} {i m : Int} : ∀ k : Nat, 0 ≤ lrN w i m k ∧ lrN w i m k ≤ k := by
  intro k
  induction k with
  | zero => exact ⟨Int.le_refl _, Int.le_refl _⟩
  | succ k ih =>
    unfold lrN
    split <;> omega
theorem lrN_s {w : Int → Int} {i m : Int} {k : Nat} : lrN w i m (k + 1) = @ite Int (rotLt w i m ((k : Int) + 1) (lrN w i m k)) (Classical.propDecidable _) ((k : Int) + 1) (lrN w i m k) := rfl
theorem lrN_step {w : Int → Int} {i m o : Int} (ho : 1 ≤ o) : (rotLt w i m o (lrN w i m (o - 1).toNat) → lrN w i m o.toNat = o) ∧ (¬ rotLt w i m o (lrN w i m (o - 1).toNat) → lrN w i m o.toNat = lrN w i m (o - 1).toNat) := by
  have e : o.toNat = (o - 1).toNat + 1 := by omega
  have e2 : (((o - 1).toNat : Nat) : Int) + 1 = o := by omega
  constructor
  · intro h
    rw [e, lrN_s, e2, if_pos h]
  · intro h
    rw [e, lrN_s, e2, if_neg h]
theorem TwC.let {σ : SS} (h : TwC σ) {x : Int} (h0 : 0 ≤ x) (h1 : x < (σ 501 0 0)) : 0 ≤ cW σ x ∧ cW σ x < 26 := by
  rw [cW_in h0 h1]
  exact ((h.1).2.2 x h0 h1).2
def S_Or_isRotationLess : GS := fun as σ K => match as with
  | [some (.inr (.inr (1, 0))), some (.inl a1), some (.inl a2), some (.inl a3), some (.inl a4)] => (TwC σ ∧ 0 ≤ a1 ∧ a1 < a2 ∧ a2 ≤ (σ 501 0 0) ∧ 0 ≤ a3 ∧ a3 < a2 - a1 ∧ 0 ≤ a4 ∧ a4 < a2 - a1) ∧ bS (rotLt (cW σ) a1 (a2 - a1) a3 a4) K σ
  | _ => False
abbrev Lp_Or_isRotationLess_6 (a1 : Int) (a2 : Int) (a3 : Int) (a4 : Int) (σ0 : SS) (n : Nat) (L : List AV) (σ : SS) : Prop := ∃ (v5 : Int) (v6 : Int), L = [vR 1 0, vI a1, vI a2, vI a3, vI a4, vI v5, vI v6, none, none, none] ∧ n = (a2 - a1 - v6).toNat ∧ ((σ = σ0) ∧ (v5 = a2 - a1) ∧ (0 ≤ v6) ∧ (v6 ≤ a2 - a1) ∧ (∀ y, 0 ≤ y → y < v6 → rlet (cW σ0) a1 (a2 - a1) a3 y = rlet (cW σ0) a1 (a2 - a1) a4 y))
def Iv_Or_isRotationLess (a1 : Int) (a2 : Int) (a3 : Int) (a4 : Int) (σ0 : SS) (k : Nat) : Option (List Nat × (Nat → List AV → SS → Prop)) := match k with
  | 6 => some ([7, 8, 9], Lp_Or_isRotationLess_6 a1 a2 a3 a4 σ0)
  | _ => none
def VE_Or_isRotationLess (a1 : Int) (a2 : Int) (a3 : Int) (a4 : Int) (σ : SS) (K : AV → SS → Prop) : Prop :=
  (InR (a2 - a1) ∧
  (∃ n', Lp_Or_isRotationLess_6 a1 a2 a3 a4 σ n' [vR 1 0, vI a1, vI a2, vI a3, vI a4, vI (a2 - a1), vI 0, none, none, none] σ))
def VL_Or_isRotationLess_6 (a1 : Int) (a2 : Int) (a3 : Int) (a4 : Int) (σ0 : SS) (K : AV → SS → Prop) (v5 : Int) (v6 : Int) (σ : SS) (n : Nat) : Prop :=
  ((v5 ≤ v6 →
    ((0 ≤ (0 : Int) ∧ (0 : Int) ≤ 1) ∧ K (vI 0) σ)) ∧
  (v6 < v5 →
    (InR (a1 + a3) ∧
    (InR ((a1 + a3) + v6) ∧
    (InR (a1 + a4) ∧
    (InR ((a1 + a4) + v6) ∧
    ((a2 ≤ ((a1 + a3) + v6) →
      (InR (((a1 + a3) + v6) - v5) ∧
      (S_Wo_at [vR 10 0, vI (((a1 + a3) + v6) - v5)] σ (kI fun r1 σ1 =>
        ((a2 ≤ ((a1 + a4) + v6) →
          (InR (((a1 + a4) + v6) - v5) ∧
          (S_Wo_at [vR 10 0, vI (((a1 + a4) + v6) - v5)] σ1 (kI fun r2 σ2 =>
            (InR (r1 - r2) ∧
            (((r1 - r2) = 0 →
              (InR (v6 + 1) ∧
              (∃ n', n' < n ∧ Lp_Or_isRotationLess_6 a1 a2 a3 a4 σ0 n' [vR 1 0, vI a1, vI a2, vI a3, vI a4, vI v5, vI (v6 + 1), none, none, none] σ2))) ∧
            ((r1 - r2) ≠ 0 →
              (((0 : Int) ≤ (r1 - r2) →
                ((0 ≤ (0 : Int) ∧ (0 : Int) ≤ 1) ∧ K (vI 0) σ2)) ∧
              ((r1 - r2) < 0 →
                ((0 ≤ (1 : Int) ∧ (1 : Int) ≤ 1) ∧ K (vI 1) σ2)))))))))) ∧
        (((a1 + a4) + v6) < a2 →
          (S_Wo_at [vR 10 0, vI ((a1 + a4) + v6)] σ1 (kI fun r3 σ3 =>
            (InR (r1 - r3) ∧
            (((r1 - r3) = 0 →
              (InR (v6 + 1) ∧
              (∃ n', n' < n ∧ Lp_Or_isRotationLess_6 a1 a2 a3 a4 σ0 n' [vR 1 0, vI a1, vI a2, vI a3, vI a4, vI v5, vI (v6 + 1), none, none, none] σ3))) ∧
            ((r1 - r3) ≠ 0 →
              (((0 : Int) ≤ (r1 - r3) →
                ((0 ≤ (0 : Int) ∧ (0 : Int) ≤ 1) ∧ K (vI 0) σ3)) ∧
              ((r1 - r3) < 0 →
                ((0 ≤ (1 : Int) ∧ (1 : Int) ≤ 1) ∧ K (vI 1) σ3)))))))))))))) ∧
    (((a1 + a3) + v6) < a2 →
      (S_Wo_at [vR 10 0, vI ((a1 + a3) + v6)] σ (kI fun r4 σ4 =>
        ((a2 ≤ ((a1 + a4) + v6) →
          (InR (((a1 + a4) + v6) - v5) ∧
          (S_Wo_at [vR 10 0, vI (((a1 + a4) + v6) - v5)] σ4 (kI fun r5 σ5 =>
            (InR (r4 - r5) ∧
            (((r4 - r5) = 0 →
              (InR (v6 + 1) ∧
              (∃ n', n' < n ∧ Lp_Or_isRotationLess_6 a1 a2 a3 a4 σ0 n' [vR 1 0, vI a1, vI a2, vI a3, vI a4, vI v5, vI (v6 + 1), none, none, none] σ5))) ∧
            ((r4 - r5) ≠ 0 →
              (((0 : Int) ≤ (r4 - r5) →
                ((0 ≤ (0 : Int) ∧ (0 : Int) ≤ 1) ∧ K (vI 0) σ5)) ∧
              ((r4 - r5) < 0 →
                ((0 ≤ (1 : Int) ∧ (1 : Int) ≤ 1) ∧ K (vI 1) σ5)))))))))) ∧
        (((a1 + a4) + v6) < a2 →
          (S_Wo_at [vR 10 0, vI ((a1 + a4) + v6)] σ4 (kI fun r6 σ6 =>
            (InR (r4 - r6) ∧
            (((r4 - r6) = 0 →
              (InR (v6 + 1) ∧
              (∃ n', n' < n ∧ Lp_Or_isRotationLess_6 a1 a2 a3 a4 σ0 n' [vR 1 0, vI a1, vI a2, vI a3, vI a4, vI v5, vI (v6 + 1), none, none, none] σ6))) ∧
            ((r4 - r6) ≠ 0 →
              (((0 : Int) ≤ (r4 - r6) →
                ((0 ≤ (0 : Int) ∧ (0 : Int) ≤ 1) ∧ K (vI 0) σ6)) ∧
              ((r4 - r6) < 0 →
                ((0 ≤ (1 : Int) ∧ (1 : Int) ≤ 1) ∧ K (vI 1) σ6))))))))))))))))))))
theorem l_Or_isRotationLess_6 (a1 : Int) (a2 : Int) (a3 : Int) (a4 : Int) (σ0 : SS) (K : AV → SS → Prop) (ha1 : InR a1) (ha2 : InR a2) (ha3 : InR a3) (ha4 : InR a4) (hs0 : okS σ0) (hG : S_Or_isRotationLess [vR 1 0, vI a1, vI a2, vI a3, vI a4] σ0 K) (v5 : Int) (v6 : Int) (σ : SS) (hv5 : InR v5) (hv6 : InR v6) (hs : okS σ) (n : Nat) (hn : n = (a2 - a1 - v6).toNat) (hQ : (σ = σ0) ∧ (v5 = a2 - a1) ∧ (0 ≤ v6) ∧ (v6 ≤ a2 - a1) ∧ (∀ y, 0 ≤ y → y < v6 → rlet (cW σ0) a1 (a2 - a1) a3 y = rlet (cW σ0) a1 (a2 - a1) a4 y)) : VL_Or_isRotationLess_6 a1 a2 a3 a4 σ0 K v5 v6 σ n := by
  unfold VL_Or_isRotationLess_6
  obtain ⟨⟨hT, h1⟩, hG⟩ := hG
  obtain ⟨rfl, rfl, q1, q2, q3⟩ := hQ
  have hb := hT.n
  have tail : v6 < a2 - a1 → ∀ x1 x2 : Int, x1 = a1 + (if a3 + v6 < a2 - a1 then a3 + v6 else a3 + v6 - (a2 - a1)) → x2 = a1 + (if a4 + v6 < a2 - a1 then a4 + v6 else a4 + v6 - (a2 - a1)) →
      InR (cW σ x1 - cW σ x2) ∧ (cW σ x1 - cW σ x2 = 0 → InR (v6 + 1) ∧ ∃ n', n' < n ∧ Lp_Or_isRotationLess_6 a1 a2 a3 a4 σ n' [vR 1 0, vI a1, vI a2, vI a3, vI a4, vI (a2 - a1), vI (v6 + 1), none, none, none] σ) ∧ (cW σ x1 - cW σ x2 ≠ 0 → ((0 : Int) ≤ cW σ x1 - cW σ x2 → (0 ≤ (0 : Int) ∧ (0 : Int) ≤ 1) ∧ K (vI 0) σ) ∧ (cW σ x1 - cW σ x2 < 0 → (0 ≤ (1 : Int) ∧ (1 : Int) ≤ 1) ∧ K (vI 1) σ)) := by
    intro hv x1 x2 e1 e2
    have l1 := hT.let (x := x1) (by omega) (by omega)
    have l2 := hT.let (x := x2) (by omega) (by omega)
    have r1 : rlet (cW σ) a1 (a2 - a1) a3 v6 = cW σ x1 := by rw [e1]; rfl
    have r2 : rlet (cW σ) a1 (a2 - a1) a4 v6 = cW σ x2 := by rw [e2]; rfl
    refine ⟨by omega, fun h => ⟨by omega, _, ?_, _, _, rfl, rfl, rfl, rfl, by omega, by omega, fun y g1 g2 => ?_⟩, fun h => ⟨fun h2 => bS_n hG ?_, fun h2 => bS_y hG ⟨v6, q1, hv, q3, by omega⟩⟩⟩
    · omega
    · rcases (by omega : y < v6 ∨ y = v6) with z | z
      · exact q3 y g1 z
      · rw [z, r1, r2]; omega
    · rintro ⟨x, g1, g2, g3, g4⟩
      rcases (by omega : x < v6 ∨ x = v6 ∨ v6 < x) with z | z | z
      · have := q3 x g1 z; omega
      · rw [z, r1, r2] at g4; omega
      · have := g3 v6 q1 z; omega
  refine ⟨fun h => bS_n hG ?_, fun h => ⟨by omega, by omega, by omega, by omega, fun h2 => ⟨by omega, hb.2, ?_⟩, fun h2 => ⟨hb.2, ?_⟩⟩⟩
  · rintro ⟨x, g1, g2, g3, g4⟩
    have := q3 x g1 (by omega)
    omega
  · intro _ _
    refine ⟨fun h3 => ⟨by omega, hb.2, ?_⟩, fun h3 => ⟨hb.2, ?_⟩⟩
    · intro _ _
      exact tail h _ _ (by rw [if_neg (by omega)]; omega) (by rw [if_neg (by omega)]; omega)
    · intro _ _
      exact tail h _ _ (by rw [if_neg (by omega)]; omega) (by rw [if_pos (by omega)]; omega)
  · intro _ _
    refine ⟨fun h3 => ⟨by omega, hb.2, ?_⟩, fun h3 => ⟨hb.2, ?_⟩⟩
    · intro _ _
      exact tail h _ _ (by rw [if_pos (by omega)]; omega) (by rw [if_neg (by omega)]; omega)
    · intro _ _
      exact tail h _ _ (by rw [if_pos (by omega)]; omega) (by rw [if_pos (by omega)]; omega)
theorem e_Or_isRotationLess (a1 : Int) (a2 : Int) (a3 : Int) (a4 : Int) (σ : SS) (K : AV → SS → Prop) (ha1 : InR a1) (ha2 : InR a2) (ha3 : InR a3) (ha4 : InR a4) (hs : okS σ) (hG : S_Or_isRotationLess [vR 1 0, vI a1, vI a2, vI a3, vI a4] σ K) : VE_Or_isRotationLess a1 a2 a3 a4 σ K := by
  unfold VE_Or_isRotationLess
  obtain ⟨⟨hT, h1⟩, hG⟩ := hG
  have hb := hT.n
  exact ⟨by omega, _, _, _, rfl, rfl, rfl, rfl, by omega, by omega, fun y g1 g2 => absurd g1 (by omega)⟩
theorem H_Or_isRotationLess {d : Nat} (hd : 2 ≤ d) : Holds d I_Or_isRotationLess S_Or_isRotationLess := by
  refine holds_of (d' := d - 1) (rt := 2) (cal := [(I_Wo_at, S_Wo_at)]) (C := C_Or_isRotationLess) m_Or_isRotationLess o_Or_isRotationLess rfl rfl (by omega) ?_ ?_
  · intro x hx
    simp only [List.mem_cons, List.not_mem_nil, or_false] at hx
    subst hx
    exact H_Wo_at (by omega)
  · intro as σ K has hσ hG
    have hG2 := hG
    unfold S_Or_isRotationLess at hG2
    split at hG2
    · next a1 a2 a3 a4 =>
      refine ⟨Nat.le_of_ble_eq_true rfl, (Iv_Or_isRotationLess a1 a2 a3 a4 σ), ?_, 1000, ?_⟩
      · intro k n z L σ' hk hL hs hP
        unfold Iv_Or_isRotationLess at hk
        split at hk
        · cases hk
          obtain ⟨v5, v6, rfl, hn, hQ⟩ := hP
          exact ⟨1000, l_Or_isRotationLess_6 a1 a2 a3 a4 σ K (has _ (List.mem_of_getElem? (i := 1) rfl)) (has _ (List.mem_of_getElem? (i := 2) rfl)) (has _ (List.mem_of_getElem? (i := 3) rfl)) (has _ (List.mem_of_getElem? (i := 4) rfl)) hσ hG v5 v6 σ' (hL _ (List.mem_of_getElem? (i := 5) rfl)) (hL _ (List.mem_of_getElem? (i := 6) rfl)) hs n hn hQ⟩
        · cases hk
      · exact e_Or_isRotationLess a1 a2 a3 a4 σ K (has _ (List.mem_of_getElem? (i := 1) rfl)) (has _ (List.mem_of_getElem? (i := 2) rfl)) (has _ (List.mem_of_getElem? (i := 3) rfl)) (has _ (List.mem_of_getElem? (i := 4) rfl)) hσ hG
    · exact hG2.elim
def S_Or_leastRotation : GS := fun as σ K => match as with
  | [some (.inr (.inr (1, 0))), some (.inl a1), some (.inl a2)] => (TwC σ ∧ 0 ≤ a1 ∧ a1 < a2 ∧ a2 ≤ (σ 501 0 0)) ∧ K (vI (lrF (cW σ) a1 (a2 - a1))) σ
  | _ => False
abbrev Lp_Or_leastRotation_4 (a1 : Int) (a2 : Int) (σ0 : SS) (n : Nat) (L : List AV) (σ : SS) : Prop := ∃ (v3 : Int) (v4 : Int), L = [vR 1 0, vI a1, vI a2, vI v3, vI v4] ∧ n = (a2 - a1 - v4).toNat ∧ ((σ = σ0) ∧ (1 ≤ v4) ∧ (v4 ≤ a2 - a1) ∧ (v3 = lrN (cW σ0) a1 (a2 - a1) (v4 - 1).toNat))
def Iv_Or_leastRotation (a1 : Int) (a2 : Int) (σ0 : SS) (k : Nat) : Option (List Nat × (Nat → List AV → SS → Prop)) := match k with
  | 4 => some ([], Lp_Or_leastRotation_4 a1 a2 σ0)
  | _ => none
def VE_Or_leastRotation (a1 : Int) (a2 : Int) (σ : SS) (K : AV → SS → Prop) : Prop :=
  (∃ n', Lp_Or_leastRotation_4 a1 a2 σ n' [vR 1 0, vI a1, vI a2, vI 0, vI 1] σ)
def VL_Or_leastRotation_4 (a1 : Int) (a2 : Int) (σ0 : SS) (K : AV → SS → Prop) (v3 : Int) (v4 : Int) (σ : SS) (n : Nat) : Prop :=
  (InR (a2 - a1) ∧
  (((a2 - a1) ≤ v4 →
    (K (vI v3) σ)) ∧
  (v4 < (a2 - a1) →
    (S_Or_isRotationLess [vR 1 0, vI a1, vI a2, vI v4, vI v3] σ (kI fun r1 σ1 =>
      ((r1 = 0 →
        (InR (v4 + 1) ∧
        (∃ n', n' < n ∧ Lp_Or_leastRotation_4 a1 a2 σ0 n' [vR 1 0, vI a1, vI a2, vI v3, vI (v4 + 1)] σ1))) ∧
      (r1 ≠ 0 →
        (InR (v4 + 1) ∧
        (∃ n', n' < n ∧ Lp_Or_leastRotation_4 a1 a2 σ0 n' [vR 1 0, vI a1, vI a2, vI v4, vI (v4 + 1)] σ1)))))))))
theorem l_Or_leastRotation_4 (a1 : Int) (a2 : Int) (σ0 : SS) (K : AV → SS → Prop) (ha1 : InR a1) (ha2 : InR a2) (hs0 : okS σ0) (hG : S_Or_leastRotation [vR 1 0, vI a1, vI a2] σ0 K) (v3 : Int) (v4 : Int) (σ : SS) (hv3 : InR v3) (hv4 : InR v4) (hs : okS σ) (n : Nat) (hn : n = (a2 - a1 - v4).toNat) (hQ : (σ = σ0) ∧ (1 ≤ v4) ∧ (v4 ≤ a2 - a1) ∧ (v3 = lrN (cW σ0) a1 (a2 - a1) (v4 - 1).toNat)) : VL_Or_leastRotation_4 a1 a2 σ0 K v3 v4 σ n := by
  unfold VL_Or_leastRotation_4
  obtain ⟨⟨hT, h1⟩, hG⟩ := hG
  obtain ⟨rfl, q1, q2, q3⟩ := hQ
  have hb := hT.n
  have hl := lrN_in (w := cW σ) (i := a1) (m := a2 - a1) (v4 - 1).toNat
  have hst := lrN_step (w := cW σ) (i := a1) (m := a2 - a1) q1
  refine ⟨by omega, fun h => ?_, fun h => ⟨⟨hT, by omega, by omega, by omega, by omega, by omega, by omega, by omega⟩, bS_b0 (fun hp _ => ⟨by omega, _, ?_, _, _, rfl, rfl, rfl, by omega, by omega, ?_⟩) (fun hp _ => ⟨by omega, _, ?_, _, _, rfl, rfl, rfl, by omega, by omega, ?_⟩)⟩⟩
  · rw [q3, show v4 = a2 - a1 by omega]
    exact hG
  · omega
  · rw [q3] at hp
    rw [show (v4 + 1 - 1).toNat = v4.toNat by omega, hst.1 hp]
  · omega
  · rw [q3] at hp
    rw [show (v4 + 1 - 1).toNat = v4.toNat by omega, hst.2 hp, q3]
def RRoot (w : Int → Int) (n i j k r : Int) : Prop := gd (0 ≤ i ∧ i < j ∧ j ≤ n) (-1) r ((k = 0 ∧ leastIs (isRt w i j) 1 r) ∨ (k = 1 ∧ ∃ p, leastIs (isRt w i j) 1 p ∧ r = Int.tdiv (j - i) p) ∨ (k = 2 ∧ r = lrF w i (j - i)) ∨ ((k < 0 ∨ 2 < k) ∧ r = -1))
theorem RRoot_u {w : Int → Int} {n i j k r r' : Int} (h : RRoot w n i j k r) (h' : RRoot w n i j k r') : r = r' := by
  refine gd_uniq h h' (fun _ a b => ?_)
  rcases a with ⟨a1, a2⟩ | ⟨a1, p, a2, a3⟩ | ⟨a1, a2⟩ | ⟨a1, a2⟩ <;> rcases b with ⟨b1, b2⟩ | ⟨b1, q, b2, b3⟩ | ⟨b1, b2⟩ | ⟨b1, b2⟩ <;> try omega
  · exact leastIs_uniq a2 b2
  · rw [a3, b3, leastIs_uniq a2 b2]
theorem tdiv_in {a b : Int} (ha : 0 ≤ a) (ha2 : a ≤ 2147483647) (hb : 1 ≤ b) : InR (Int.tdiv a b) := by
  have h1 := Int.tdiv_nonneg ha (show (0 : Int) ≤ b by omega)
  have h2 := Int.tdiv_le_self b ha
  omega
theorem e_Or_leastRotation (a1 : Int) (a2 : Int) (σ : SS) (K : AV → SS → Prop) (ha1 : InR a1) (ha2 : InR a2) (hs : okS σ) (hG : S_Or_leastRotation [vR 1 0, vI a1, vI a2] σ K) : VE_Or_leastRotation a1 a2 σ K := by
  unfold VE_Or_leastRotation
  obtain ⟨⟨hT, h1⟩, hG⟩ := hG
  have hb := hT.n
  exact ⟨_, _, _, rfl, rfl, rfl, by omega, by omega, rfl⟩
theorem H_Or_leastRotation {d : Nat} (hd : 3 ≤ d) : Holds d I_Or_leastRotation S_Or_leastRotation := by
  refine holds_of (d' := d - 1) (rt := 1) (cal := [(I_Or_isRotationLess, S_Or_isRotationLess)]) (C := C_Or_leastRotation) m_Or_leastRotation o_Or_leastRotation rfl rfl (by omega) ?_ ?_
  · intro x hx
    simp only [List.mem_cons, List.not_mem_nil, or_false] at hx
    subst hx
    exact H_Or_isRotationLess (by omega)
  · intro as σ K has hσ hG
    have hG2 := hG
    unfold S_Or_leastRotation at hG2
    split at hG2
    · next a1 a2 =>
      refine ⟨Nat.le_of_ble_eq_true rfl, (Iv_Or_leastRotation a1 a2 σ), ?_, 1000, ?_⟩
      · intro k n z L σ' hk hL hs hP
        unfold Iv_Or_leastRotation at hk
        split at hk
        · cases hk
          obtain ⟨v3, v4, rfl, hn, hQ⟩ := hP
          exact ⟨1000, l_Or_leastRotation_4 a1 a2 σ K (has _ (List.mem_of_getElem? (i := 1) rfl)) (has _ (List.mem_of_getElem? (i := 2) rfl)) hσ hG v3 v4 σ' (hL _ (List.mem_of_getElem? (i := 3) rfl)) (hL _ (List.mem_of_getElem? (i := 4) rfl)) hs n hn hQ⟩
        · cases hk
      · exact e_Or_leastRotation a1 a2 σ K (has _ (List.mem_of_getElem? (i := 1) rfl)) (has _ (List.mem_of_getElem? (i := 2) rfl)) hσ hG
    · exact hG2.elim
def S_Wr_root : GS := fun as σ K => match as with
  | [some (.inr (.inr (11, 0))), some (.inl a1), some (.inl a2), some (.inl a3)] => TwC σ ∧ ∀ σ' r, TQ σ σ' → RRoot (cW σ) (σ 501 0 0) a1 a2 a3 r → K (vI r) σ'
  | _ => False
def VE_Wr_root (a1 : Int) (a2 : Int) (a3 : Int) (σ : SS) (K : AV → SS → Prop) : Prop :=
  (S_Wr_isFullPart [vR 11 0, vI a1, vI a2] σ (kI fun r1 σ1 =>
    ((r1 ≠ 0 →
      (((a3 = 0 →
        (S_Sh_rootSize [vR 6 0, vI a1, vI a2] σ1 (kI fun r2 σ2 =>
          (K (vI r2) σ2)))) ∧
      ((a3 = 1 →
        (InR (a2 - a1) ∧
        (S_Sh_rootSize [vR 6 0, vI a1, vI a2] σ1 (kI fun r3 σ3 =>
          ((max 1 r3 ≠ 0 ∧ InR (Int.tdiv (a2 - a1) (max 1 r3))) ∧
          (K (vI (Int.tdiv (a2 - a1) (max 1 r3))) σ3)))))) ∧
      ((a3 = 2 →
        (S_Or_leastRotation [vR 1 0, vI a1, vI a2] σ1 (kI fun r4 σ4 =>
          (K (vI r4) σ4)))) ∧
      True))) ∧
      (a3 < 0 ∨ 2 < a3 →
        (K (vI (-1)) σ1)))) ∧
    (r1 = 0 →
      (K (vI (-1)) σ1)))))
theorem e_Wr_root (a1 : Int) (a2 : Int) (a3 : Int) (σ : SS) (K : AV → SS → Prop) (ha1 : InR a1) (ha2 : InR a2) (ha3 : InR a3) (hs : okS σ) (hG : S_Wr_root [vR 11 0, vI a1, vI a2, vI a3] σ K) : VE_Wr_root a1 a2 a3 σ K := by
  unfold VE_Wr_root
  obtain ⟨hT, hG⟩ := hG
  have hb := hT.n
  refine bS_b1 (fun hp _ => ⟨⟨fun h => ⟨⟨hT, hp⟩, fun σ' r hT' hr hr2 => ?_⟩, fun h => ⟨by omega, ⟨hT, hp⟩, fun σ' r hT' hr hr2 => ?_⟩, fun h => ⟨⟨hT, hp⟩, ?_⟩, trivial⟩, fun h => hG σ _ (TQ.rf hT) (gd_y hp (Or.inr (Or.inr (Or.inr ⟨h, rfl⟩))))⟩) (fun hp _ => hG σ _ (TQ.rf hT) (gd_n hp))
  · intro _ _
    exact hG σ' _ hT' (gd_y hp (Or.inl ⟨h, hr⟩))
  · intro _ _
    have := hr.1
    rw [show max 1 r = r by omega]
    exact ⟨⟨by omega, tdiv_in (by omega) (by omega) (by omega)⟩, hG σ' _ hT' (gd_y hp (Or.inr (Or.inl ⟨h, r, hr, rfl⟩)))⟩
  · intro _ _
    exact hG σ _ (TQ.rf hT) (gd_y hp (Or.inr (Or.inr (Or.inl ⟨h, rfl⟩))))
/-- by order: rotation r, rotation q: the first unlike letters decide -/
def isRotC (w : Int → Int) (i m r q up res : Int) : Prop := (res = 0 ∧ ∀ y, 0 ≤ y → y < m → rlet w i m r y = rlet w i m q y) ∨ ∃ x, 0 ≤ x ∧ x < m ∧ (∀ y, 0 ≤ y → y < x → rlet w i m r y = rlet w i m q y) ∧ rlet w i m r x ≠ rlet w i m q x ∧ res = ordI (rlet w i m r x) (rlet w i m q x) up
theorem ordI_0 {a b up : Int} : ordI a b up = 0 ↔ a = b := by unfold ordI; split <;> split <;> (try split) <;> omega
theorem ordI_in {a b up : Int} : -1 ≤ ordI a b up ∧ ordI a b up ≤ 1 := by unfold ordI; split <;> split <;> (try split) <;> omega
theorem rotC_lt {w : Int → Int} {i m r q res : Int} (h : isRotC w i m r q 1 res) : res < 0 ↔ rotLt w i m r q := by
  rcases h with ⟨h1, h2⟩ | ⟨x, h1, h2, h3, h4, h5⟩
  · constructor
    · intro h; omega
    · rintro ⟨x, g1, g2, g3, g4⟩; have := h2 x g1 g2; omega
  · constructor
    · intro h
      refine ⟨x, h1, h2, h3, ?_⟩
      unfold ordI at h5
      rw [if_neg (by decide)] at h5
      split at h5
      · assumption
      · split at h5 <;> omega
    · rintro ⟨y, g1, g2, g3, g4⟩
      rcases (by omega : y < x ∨ y = x ∨ x < y) with z | z | z
      · have := h3 y g1 z; omega
      · subst z
        rw [h5]; unfold ordI; rw [if_neg (by decide), if_pos g4]; omega
      · have := g3 x h1 z; omega
theorem tmod_rot {r k m : Int} (h1 : 0 ≤ r) (h2 : 0 ≤ k) (h3 : r < m) (h4 : k < m) : Int.tmod (r + k) m = (if r + k < m then r + k else r + k - m) := by
  rw [Int.tmod_eq_emod_of_nonneg (by omega)]
  split
  · exact Int.emod_eq_of_lt (by omega) (by omega)
  · rw [← Int.sub_emod_right, Int.emod_eq_of_lt (by omega) (by omega)]
theorem MoW.let {σ : SS} (h : MoW σ) {x : Int} (h0 : 0 ≤ x) (h1 : x < (σ 40 0 0)) : 0 ≤ mW σ x ∧ mW σ x < 26 := h.2 x h0 h1
theorem H_Wr_root {d : Nat} (hd : 5 ≤ d) : Holds d I_Wr_root S_Wr_root := by
  refine holds_of (d' := d - 1) (rt := 1) (cal := [(I_Wr_isFullPart, S_Wr_isFullPart), (I_Sh_rootSize, S_Sh_rootSize), (I_Or_leastRotation, S_Or_leastRotation)]) (C := C_Wr_root) m_Wr_root o_Wr_root rfl rfl (by omega) ?_ ?_
  · intro x hx
    simp only [List.mem_cons, List.not_mem_nil, or_false] at hx
    rcases hx with rfl | rfl | rfl
    · exact H_Wr_isFullPart (by omega)
    · exact H_Sh_rootSize (by omega)
    · exact H_Or_leastRotation (by omega)
  · intro as σ K has hσ hG
    have hG2 := hG
    unfold S_Wr_root at hG2
    split at hG2
    · next a1 a2 a3 =>
      refine ⟨Nat.le_of_ble_eq_true rfl, (fun _ => none), ?_, 1000, ?_⟩
      · intro k n z L σ' hk hL hs hP
        cases hk
      · exact e_Wr_root a1 a2 a3 σ K (has _ (List.mem_of_getElem? (i := 1) rfl)) (has _ (List.mem_of_getElem? (i := 2) rfl)) (has _ (List.mem_of_getElem? (i := 3) rfl)) hσ hG
    · exact hG2.elim
def S_Mo_rotated : GS := fun as σ K => match as with
  | [some (.inr (.inr (12, 0))), some (.inl a1), some (.inl a2), some (.inl a3), some (.inl a4), some (.inl a5)] => (MoW σ ∧ 0 ≤ a1 ∧ a1 < a2 ∧ a2 ≤ (σ 40 0 0) ∧ 0 ≤ a3 ∧ a3 < a2 - a1 ∧ 0 ≤ a4 ∧ a4 < a2 - a1) ∧ ∀ r, isRotC (mW σ) a1 (a2 - a1) a3 a4 a5 r → K (vI r) σ
  | _ => False
abbrev Lp_Mo_rotated_6 (a1 : Int) (a2 : Int) (a3 : Int) (a4 : Int) (a5 : Int) (σ0 : SS) (n : Nat) (L : List AV) (σ : SS) : Prop := ∃ (v6 : Int) (v7 : Int), L = [vR 12 0, vI a1, vI a2, vI a3, vI a4, vI a5, vI v6, vI v7, none] ∧ n = (a2 - a1 - v7).toNat ∧ ((σ = σ0) ∧ (v6 = a2 - a1) ∧ (0 ≤ v7) ∧ (v7 ≤ a2 - a1) ∧ (∀ y, 0 ≤ y → y < v7 → rlet (mW σ0) a1 (a2 - a1) a3 y = rlet (mW σ0) a1 (a2 - a1) a4 y))
def Iv_Mo_rotated (a1 : Int) (a2 : Int) (a3 : Int) (a4 : Int) (a5 : Int) (σ0 : SS) (k : Nat) : Option (List Nat × (Nat → List AV → SS → Prop)) := match k with
  | 6 => some ([8], Lp_Mo_rotated_6 a1 a2 a3 a4 a5 σ0)
  | _ => none
def VE_Mo_rotated (a1 : Int) (a2 : Int) (a3 : Int) (a4 : Int) (a5 : Int) (σ : SS) (K : AV → SS → Prop) : Prop :=
  (InR (a2 - a1) ∧
  (∃ n', Lp_Mo_rotated_6 a1 a2 a3 a4 a5 σ n' [vR 12 0, vI a1, vI a2, vI a3, vI a4, vI a5, vI (a2 - a1), vI 0, none] σ))
def VL_Mo_rotated_6 (a1 : Int) (a2 : Int) (a3 : Int) (a4 : Int) (a5 : Int) (σ0 : SS) (K : AV → SS → Prop) (v6 : Int) (v7 : Int) (σ : SS) (n : Nat) : Prop :=
  ((v6 ≤ v7 →
    (K (vI 0) σ)) ∧
  (v7 < v6 →
    (InR (a3 + v7) ∧
    ((v6 ≠ 0 ∧ InR (Int.tmod (a3 + v7) v6)) ∧
    (InR (a1 + (Int.tmod (a3 + v7) v6)) ∧
    (S_Mo_at [vR 12 0, vI (a1 + (Int.tmod (a3 + v7) v6))] σ (kI fun r1 σ1 =>
      (InR (a4 + v7) ∧
      ((v6 ≠ 0 ∧ InR (Int.tmod (a4 + v7) v6)) ∧
      (InR (a1 + (Int.tmod (a4 + v7) v6)) ∧
      (S_Mo_at [vR 12 0, vI (a1 + (Int.tmod (a4 + v7) v6))] σ1 (kI fun r2 σ2 =>
        (S_Mo_order [vI r1, vI r2, vI a5] σ2 (kI fun r3 σ3 =>
          ((r3 = 0 →
            (InR (v7 + 1) ∧
            (∃ n', n' < n ∧ Lp_Mo_rotated_6 a1 a2 a3 a4 a5 σ0 n' [vR 12 0, vI a1, vI a2, vI a3, vI a4, vI a5, vI v6, vI (v7 + 1), none] σ3))) ∧
          (r3 ≠ 0 →
            (K (vI r3) σ3)))))))))))))))))
theorem l_Mo_rotated_6 (a1 : Int) (a2 : Int) (a3 : Int) (a4 : Int) (a5 : Int) (σ0 : SS) (K : AV → SS → Prop) (ha1 : InR a1) (ha2 : InR a2) (ha3 : InR a3) (ha4 : InR a4) (ha5 : InR a5) (hs0 : okS σ0) (hG : S_Mo_rotated [vR 12 0, vI a1, vI a2, vI a3, vI a4, vI a5] σ0 K) (v6 : Int) (v7 : Int) (σ : SS) (hv6 : InR v6) (hv7 : InR v7) (hs : okS σ) (n : Nat) (hn : n = (a2 - a1 - v7).toNat) (hQ : (σ = σ0) ∧ (v6 = a2 - a1) ∧ (0 ≤ v7) ∧ (v7 ≤ a2 - a1) ∧ (∀ y, 0 ≤ y → y < v7 → rlet (mW σ0) a1 (a2 - a1) a3 y = rlet (mW σ0) a1 (a2 - a1) a4 y)) : VL_Mo_rotated_6 a1 a2 a3 a4 a5 σ0 K v6 v7 σ n := by
  unfold VL_Mo_rotated_6
  obtain ⟨⟨hM, h1⟩, hG⟩ := hG
  obtain ⟨rfl, rfl, q1, q2, q3⟩ := hQ
  have hb := hM.n
  refine ⟨fun h => hG _ (Or.inl ⟨rfl, fun y g1 g2 => q3 y g1 (by omega)⟩), fun h => ?_⟩
  rw [tmod_rot (by omega) q1 (by omega) h, tmod_rot (by omega) q1 (by omega) h]
  refine ⟨by omega, ⟨by omega, by split <;> omega⟩, by split <;> omega, by split <;> omega, ?_⟩
  intro _ _
  refine ⟨by omega, ⟨by omega, by split <;> omega⟩, by split <;> omega, by split <;> omega, ?_⟩
  intro _ _ _ _
  refine ⟨fun h2 => ⟨by omega, _, ?_, _, _, rfl, rfl, rfl, rfl, by omega, by omega, fun y g1 g2 => ?_⟩, fun h2 => hG _ (Or.inr ⟨v7, q1, h, q3, fun z => h2 (ordI_0.mpr z), rfl⟩)⟩
  · omega
  · rcases (by omega : y < v7 ∨ y = v7) with z | z
    · exact q3 y g1 z
    · rw [z]; exact ordI_0.mp h2
theorem e_Mo_rotated (a1 : Int) (a2 : Int) (a3 : Int) (a4 : Int) (a5 : Int) (σ : SS) (K : AV → SS → Prop) (ha1 : InR a1) (ha2 : InR a2) (ha3 : InR a3) (ha4 : InR a4) (ha5 : InR a5) (hs : okS σ) (hG : S_Mo_rotated [vR 12 0, vI a1, vI a2, vI a3, vI a4, vI a5] σ K) : VE_Mo_rotated a1 a2 a3 a4 a5 σ K := by
  unfold VE_Mo_rotated
  obtain ⟨⟨hM, h1⟩, hG⟩ := hG
  have hb := hM.n
  exact ⟨by omega, _, _, _, rfl, rfl, rfl, rfl, by omega, by omega, fun y g1 g2 => absurd g1 (by omega)⟩
theorem H_Mo_rotated {d : Nat} (hd : 2 ≤ d) : Holds d I_Mo_rotated S_Mo_rotated := by
  refine holds_of (d' := d - 1) (rt := 1) (cal := [(I_Mo_at, S_Mo_at), (I_Mo_order, S_Mo_order)]) (C := C_Mo_rotated) m_Mo_rotated o_Mo_rotated rfl rfl (by omega) ?_ ?_
  · intro x hx
    simp only [List.mem_cons, List.not_mem_nil, or_false] at hx
    rcases hx with rfl | rfl
    · exact H_Mo_at (by omega)
    · exact H_Mo_order (by omega)
  · intro as σ K has hσ hG
    have hG2 := hG
    unfold S_Mo_rotated at hG2
    split at hG2
    · next a1 a2 a3 a4 a5 =>
      refine ⟨Nat.le_of_ble_eq_true rfl, (Iv_Mo_rotated a1 a2 a3 a4 a5 σ), ?_, 1000, ?_⟩
      · intro k n z L σ' hk hL hs hP
        unfold Iv_Mo_rotated at hk
        split at hk
        · cases hk
          obtain ⟨v6, v7, rfl, hn, hQ⟩ := hP
          exact ⟨1000, l_Mo_rotated_6 a1 a2 a3 a4 a5 σ K (has _ (List.mem_of_getElem? (i := 1) rfl)) (has _ (List.mem_of_getElem? (i := 2) rfl)) (has _ (List.mem_of_getElem? (i := 3) rfl)) (has _ (List.mem_of_getElem? (i := 4) rfl)) (has _ (List.mem_of_getElem? (i := 5) rfl)) hσ hG v6 v7 σ' (hL _ (List.mem_of_getElem? (i := 6) rfl)) (hL _ (List.mem_of_getElem? (i := 7) rfl)) hs n hn hQ⟩
        · cases hk
      · exact e_Mo_rotated a1 a2 a3 a4 a5 σ K (has _ (List.mem_of_getElem? (i := 1) rfl)) (has _ (List.mem_of_getElem? (i := 2) rfl)) (has _ (List.mem_of_getElem? (i := 3) rfl)) (has _ (List.mem_of_getElem? (i := 4) rfl)) (has _ (List.mem_of_getElem? (i := 5) rfl)) hσ hG
    · exact hG2.elim
def S_Mo_leastRotation : GS := fun as σ K => match as with
  | [some (.inr (.inr (12, 0))), some (.inl a1), some (.inl a2)] => (MoW σ ∧ 0 ≤ a1 ∧ a1 < a2 ∧ a2 ≤ (σ 40 0 0)) ∧ K (vI (lrF (mW σ) a1 (a2 - a1))) σ
  | _ => False
abbrev Lp_Mo_leastRotation_4 (a1 : Int) (a2 : Int) (σ0 : SS) (n : Nat) (L : List AV) (σ : SS) : Prop := ∃ (v3 : Int) (v4 : Int), L = [vR 12 0, vI a1, vI a2, vI v3, vI v4] ∧ n = (a2 - a1 - v4).toNat ∧ ((σ = σ0) ∧ (1 ≤ v4) ∧ (v4 ≤ a2 - a1) ∧ (v3 = lrN (mW σ0) a1 (a2 - a1) (v4 - 1).toNat))
def Iv_Mo_leastRotation (a1 : Int) (a2 : Int) (σ0 : SS) (k : Nat) : Option (List Nat × (Nat → List AV → SS → Prop)) := match k with
  | 4 => some ([], Lp_Mo_leastRotation_4 a1 a2 σ0)
  | _ => none
def VE_Mo_leastRotation (a1 : Int) (a2 : Int) (σ : SS) (K : AV → SS → Prop) : Prop :=
  (∃ n', Lp_Mo_leastRotation_4 a1 a2 σ n' [vR 12 0, vI a1, vI a2, vI 0, vI 1] σ)
def VL_Mo_leastRotation_4 (a1 : Int) (a2 : Int) (σ0 : SS) (K : AV → SS → Prop) (v3 : Int) (v4 : Int) (σ : SS) (n : Nat) : Prop :=
  (InR (a2 - a1) ∧
  (((a2 - a1) ≤ v4 →
    (K (vI v3) σ)) ∧
  (v4 < (a2 - a1) →
    (S_Mo_rotated [vR 12 0, vI a1, vI a2, vI v4, vI v3, vI 1] σ (kI fun r1 σ1 =>
      (((0 : Int) ≤ r1 →
        (InR (v4 + 1) ∧
        (∃ n', n' < n ∧ Lp_Mo_leastRotation_4 a1 a2 σ0 n' [vR 12 0, vI a1, vI a2, vI v3, vI (v4 + 1)] σ1))) ∧
      (r1 < 0 →
        (InR (v4 + 1) ∧
        (∃ n', n' < n ∧ Lp_Mo_leastRotation_4 a1 a2 σ0 n' [vR 12 0, vI a1, vI a2, vI v4, vI (v4 + 1)] σ1)))))))))
theorem l_Mo_leastRotation_4 (a1 : Int) (a2 : Int) (σ0 : SS) (K : AV → SS → Prop) (ha1 : InR a1) (ha2 : InR a2) (hs0 : okS σ0) (hG : S_Mo_leastRotation [vR 12 0, vI a1, vI a2] σ0 K) (v3 : Int) (v4 : Int) (σ : SS) (hv3 : InR v3) (hv4 : InR v4) (hs : okS σ) (n : Nat) (hn : n = (a2 - a1 - v4).toNat) (hQ : (σ = σ0) ∧ (1 ≤ v4) ∧ (v4 ≤ a2 - a1) ∧ (v3 = lrN (mW σ0) a1 (a2 - a1) (v4 - 1).toNat)) : VL_Mo_leastRotation_4 a1 a2 σ0 K v3 v4 σ n := by
  unfold VL_Mo_leastRotation_4
  obtain ⟨⟨hT, h1⟩, hG⟩ := hG
  obtain ⟨rfl, q1, q2, q3⟩ := hQ
  have hb := hT.n
  have hl := lrN_in (w := mW σ) (i := a1) (m := a2 - a1) (v4 - 1).toNat
  have hst := lrN_step (w := mW σ) (i := a1) (m := a2 - a1) q1
  refine ⟨by omega, fun h => ?_, fun h => ⟨⟨hT, by omega, by omega, by omega, by omega, by omega, by omega, by omega⟩, fun r hr => ?_⟩⟩
  · rw [q3, show v4 = a2 - a1 by omega]
    exact hG
  · intro _ _
    have hlt := rotC_lt hr
    rw [q3] at hlt
    refine ⟨fun h2 => ⟨by omega, _, ?_, _, _, rfl, rfl, rfl, by omega, by omega, ?_⟩, fun h2 => ⟨by omega, _, ?_, _, _, rfl, rfl, rfl, by omega, by omega, ?_⟩⟩
    · omega
    · rw [show (v4 + 1 - 1).toNat = v4.toNat by omega, hst.2 (fun z => by have := hlt.mpr z; omega), q3]
    · omega
    · rw [show (v4 + 1 - 1).toNat = v4.toNat by omega, hst.1 (hlt.mp h2)]
theorem e_Mo_leastRotation (a1 : Int) (a2 : Int) (σ : SS) (K : AV → SS → Prop) (ha1 : InR a1) (ha2 : InR a2) (hs : okS σ) (hG : S_Mo_leastRotation [vR 12 0, vI a1, vI a2] σ K) : VE_Mo_leastRotation a1 a2 σ K := by
  unfold VE_Mo_leastRotation
  obtain ⟨⟨hT, h1⟩, hG⟩ := hG
  have hb := hT.n
  exact ⟨_, _, _, rfl, rfl, rfl, by omega, by omega, rfl⟩
theorem H_Mo_leastRotation {d : Nat} (hd : 3 ≤ d) : Holds d I_Mo_leastRotation S_Mo_leastRotation := by
  refine holds_of (d' := d - 1) (rt := 1) (cal := [(I_Mo_rotated, S_Mo_rotated)]) (C := C_Mo_leastRotation) m_Mo_leastRotation o_Mo_leastRotation rfl rfl (by omega) ?_ ?_
  · intro x hx
    simp only [List.mem_cons, List.not_mem_nil, or_false] at hx
    subst hx
    exact H_Mo_rotated (by omega)
  · intro as σ K has hσ hG
    have hG2 := hG
    unfold S_Mo_leastRotation at hG2
    split at hG2
    · next a1 a2 =>
      refine ⟨Nat.le_of_ble_eq_true rfl, (Iv_Mo_leastRotation a1 a2 σ), ?_, 1000, ?_⟩
      · intro k n z L σ' hk hL hs hP
        unfold Iv_Mo_leastRotation at hk
        split at hk
        · cases hk
          obtain ⟨v3, v4, rfl, hn, hQ⟩ := hP
          exact ⟨1000, l_Mo_leastRotation_4 a1 a2 σ K (has _ (List.mem_of_getElem? (i := 1) rfl)) (has _ (List.mem_of_getElem? (i := 2) rfl)) hσ hG v3 v4 σ' (hL _ (List.mem_of_getElem? (i := 3) rfl)) (hL _ (List.mem_of_getElem? (i := 4) rfl)) hs n hn hQ⟩
        · cases hk
      · exact e_Mo_leastRotation a1 a2 σ K (has _ (List.mem_of_getElem? (i := 1) rfl)) (has _ (List.mem_of_getElem? (i := 2) rfl)) hσ hG
    · exact hG2.elim
def S_Mo_root : GS := fun as σ K => match as with
  | [some (.inr (.inr (12, 0))), some (.inl a1), some (.inl a2), some (.inl a3)] => MoW σ ∧ ∀ r, RRoot (mW σ) (σ 40 0 0) a1 a2 a3 r → K (vI r) σ
  | _ => False
def VE_Mo_root (a1 : Int) (a2 : Int) (a3 : Int) (σ : SS) (K : AV → SS → Prop) : Prop :=
  (S_Mo_isSome [vR 12 0, vI a1, vI a2] σ (kI fun r1 σ1 =>
    ((r1 ≠ 0 →
      (((a3 = 0 →
        (S_Mo_rootOf [vR 12 0, vI a1, vI a2] σ1 (kI fun r2 σ2 =>
          (K (vI r2) σ2)))) ∧
      ((a3 = 1 →
        (InR (a2 - a1) ∧
        (S_Mo_rootOf [vR 12 0, vI a1, vI a2] σ1 (kI fun r3 σ3 =>
          ((r3 ≠ 0 ∧ InR (Int.tdiv (a2 - a1) r3)) ∧
          (K (vI (Int.tdiv (a2 - a1) r3)) σ3)))))) ∧
      ((a3 = 2 →
        (S_Mo_leastRotation [vR 12 0, vI a1, vI a2] σ1 (kI fun r4 σ4 =>
          (K (vI r4) σ4)))) ∧
      True))) ∧
      (a3 < 0 ∨ 2 < a3 →
        (K (vI (-1)) σ1)))) ∧
    (r1 = 0 →
      (K (vI (-1)) σ1)))))
theorem e_Mo_root (a1 : Int) (a2 : Int) (a3 : Int) (σ : SS) (K : AV → SS → Prop) (ha1 : InR a1) (ha2 : InR a2) (ha3 : InR a3) (hs : okS σ) (hG : S_Mo_root [vR 12 0, vI a1, vI a2, vI a3] σ K) : VE_Mo_root a1 a2 a3 σ K := by
  unfold VE_Mo_root
  obtain ⟨hT, hG⟩ := hG
  have hb := hT.n
  refine ⟨hT, bS_b1 (fun hp _ => ⟨⟨fun h => ⟨⟨hT, hp⟩, fun r hr2 hr => ?_⟩, fun h => ⟨by omega, ⟨hT, hp⟩, fun r hr2 hr => ?_⟩, fun h => ⟨⟨hT, hp⟩, ?_⟩, trivial⟩, fun h => hG _ (gd_y hp (Or.inr (Or.inr (Or.inr ⟨h, rfl⟩))))⟩) (fun hp _ => hG _ (gd_n hp))⟩
  · intro _ _
    exact hG _ (gd_y hp (Or.inl ⟨h, hr⟩))
  · intro _ _
    have := hr.1
    exact ⟨⟨by omega, tdiv_in (by omega) (by omega) (by omega)⟩, hG _ (gd_y hp (Or.inr (Or.inl ⟨h, r, hr, rfl⟩)))⟩
  · intro _ _
    exact hG _ (gd_y hp (Or.inr (Or.inr (Or.inl ⟨h, rfl⟩))))
theorem H_Mo_root {d : Nat} (hd : 6 ≤ d) : Holds d I_Mo_root S_Mo_root := by
  refine holds_of (d' := d - 1) (rt := 1) (cal := [(I_Mo_isSome, S_Mo_isSome), (I_Mo_rootOf, S_Mo_rootOf), (I_Mo_leastRotation, S_Mo_leastRotation)]) (C := C_Mo_root) m_Mo_root o_Mo_root rfl rfl (by omega) ?_ ?_
  · intro x hx
    simp only [List.mem_cons, List.not_mem_nil, or_false] at hx
    rcases hx with rfl | rfl | rfl
    · exact H_Mo_isSome (by omega)
    · exact H_Mo_rootOf (by omega)
    · exact H_Mo_leastRotation (by omega)
  · intro as σ K has hσ hG
    have hG2 := hG
    unfold S_Mo_root at hG2
    split at hG2
    · next a1 a2 a3 =>
      refine ⟨Nat.le_of_ble_eq_true rfl, (fun _ => none), ?_, 1000, ?_⟩
      · intro k n z L σ' hk hL hs hP
        cases hk
      · exact e_Mo_root a1 a2 a3 σ K (has _ (List.mem_of_getElem? (i := 1) rfl)) (has _ (List.mem_of_getElem? (i := 2) rfl)) (has _ (List.mem_of_getElem? (i := 3) rfl)) hσ hG
    · exact hG2.elim
