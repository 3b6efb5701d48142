def fcP (w : Int → Int) (n i L : Int) : Prop := 0 ≤ i ∧ 1 ≤ L ∧ i + L ≤ n ∧ ¬ isE w i L
theorem cnt_gt {e m : Int} (h0 : 0 ≤ e) (h1 : e ≤ m) : cntZ (fun L => e < L) 1 (m + 1) = m - e := by
  have key : ∀ k : Nat, cntZ (fun L => e < L) 1 ((k : Int) + 1) = max 0 ((k : Int) - e) := by
    intro k
    induction k with
    | zero => rw [cntZ_nil (by omega)]; omega
    | succ k ih =>
      rw [show ((k + 1 : Nat) : Int) + 1 = (k : Int) + 1 + 1 by omega]
      by_cases z : e < (k : Int) + 1
      · rw [cntZ_yes (by omega) z, ih]; omega
      · rw [cntZ_no (by omega) z, ih]; omega
  have := key m.toNat
  rw [show ((m.toNat : Nat) : Int) = m by omega] at this
  omega
theorem fc_row {w : Int → Int} {n i : Int} (h0 : 0 ≤ i) (h1 : i < n) : rowS (fcP w n) n i = n - i - earl w n i := by
  have hs := earl_spec w (n := n) (p := i) (by omega)
  rw [← cnt_gt hs.1 (show earl w n i ≤ n - i by omega)]
  have e1 : sumZ (fun L => bi (fcP w n i L)) 1 (n - i + 1) = rowS (fcP w n) n i := sumZ_widen (Int.le_refl _) (by omega) (fun x g1 g2 g3 => bi_0 (fun z => by have := z.2.2.1; omega))
  rw [← e1]
  refine sumZ_congr (fun L g1 g2 => bi_congr ?_)
  have hE := le_earl w (n := n) (p := i) (L := L) (by omega) (by omega)
  constructor
  · intro z
    rcases (by omega : earl w n i < L ∨ L ≤ earl w n i) with y | y
    · exact y
    · exact absurd (hE.mp y).2 z.2.2.2
  · intro z
    refine ⟨h0, g1, by omega, fun y => ?_⟩
    have := hE.mpr ⟨by omega, y⟩
    omega
def RFac (w : Int → Int) (n a r : Int) : Prop := gd (a = -1 ∨ 1 ≤ a) (-1) r ((a = -1 ∧ r = dsum (fcP w n) n) ∨ (1 ≤ a ∧ r = colS (fcP w n) n a))
theorem RFac_u {w : Int → Int} {n a r r' : Int} (h : RFac w n a r) (h' : RFac w n a r') : r = r' := gd_uniq h h' (fun _ a b => by omega)
theorem fc_in {w : Int → Int} {n x y : Int} (h : y ≤ 120) : 0 ≤ sumZ (fun i => bi (fcP w n i x)) 0 y ∧ sumZ (fun i => bi (fcP w n i x)) 0 y ≤ 120 := by
  have := sumZ_le (f := fun i => bi (fcP w n i x)) (c := 1) (a := 0) (b := y) (by omega) (fun z _ _ => bi_in _)
  omega
def S_Un_isFirst : GS := fun as σ K => match as with
  | [some (.inr (.inr (9, 0))), some (.inl a1), some (.inl a2)] => (TwC σ ∧ 0 ≤ a1 ∧ 0 ≤ a2 ∧ a1 + a2 ≤ (σ 501 0 0)) ∧ ∀ σ', TQ σ σ' → bS (¬ isE (cW σ) a1 a2) K σ'
  | _ => False
def VE_Un_isFirst (a1 : Int) (a2 : Int) (σ : SS) (K : AV → SS → Prop) : Prop :=
  ((a2 ≠ 0 →
    (S_Tw_earlier [vR 8 0, vI a1] σ (kI fun r1 σ1 =>
      ((a2 ≤ r1 →
        ((0 ≤ (0 : Int) ∧ (0 : Int) ≤ 1) ∧ K (vI 0) σ1)) ∧
      (r1 < a2 →
        ((0 ≤ (1 : Int) ∧ (1 : Int) ≤ 1) ∧ K (vI 1) σ1)))))) ∧
  (a2 = 0 →
    ((a1 ≠ 0 →
      ((0 ≤ (0 : Int) ∧ (0 : Int) ≤ 1) ∧ K (vI 0) σ)) ∧
    (a1 = 0 →
      ((0 ≤ (1 : Int) ∧ (1 : Int) ≤ 1) ∧ K (vI 1) σ)))))
theorem e_Un_isFirst (a1 : Int) (a2 : Int) (σ : SS) (K : AV → SS → Prop) (ha1 : InR a1) (ha2 : InR a2) (hs : okS σ) (hG : S_Un_isFirst [vR 9 0, vI a1, vI a2] σ K) : VE_Un_isFirst a1 a2 σ K := by
  unfold VE_Un_isFirst
  obtain ⟨⟨hT, h1, h2, h3⟩, hG⟩ := hG
  have hb := hT.n
  refine ⟨fun h => ⟨hT, fun σ' hF hT' => ?_⟩, fun h => ⟨fun g => bS_n (hG _ (TQ.rf hT)) (fun z => z ⟨0, by omega, by omega, eqs_0 (by omega)⟩), fun g => bS_y (hG _ (TQ.rf hT)) (fun ⟨o, o1, o2, o3⟩ => by omega)⟩⟩
  have he : earlR (cW σ) (σ 501 0 0) a1 = earl (cW σ) (σ 501 0 0) a1 := if_pos (by omega)
  rw [he]
  have hE := le_earl (cW σ) (n := (σ 501 0 0)) (p := a1) (L := a2) (by omega) (by omega)
  intro _ _
  refine ⟨fun g => bS_n (hG _ ⟨hF, hT'⟩) (fun z => z (hE.mp g).2), fun g => bS_y (hG _ ⟨hF, hT'⟩) (fun z => by have := hE.mpr ⟨h3, z⟩; omega)⟩
theorem H_Un_isFirst {d : Nat} (hd : 3 ≤ d) : Holds d I_Un_isFirst S_Un_isFirst := by
  refine holds_of (d' := d - 1) (rt := 2) (cal := [(I_Tw_earlier, S_Tw_earlier)]) (C := C_Un_isFirst) m_Un_isFirst o_Un_isFirst rfl rfl (by omega) ?_ ?_
  · intro x hx
    simp only [List.mem_cons, List.not_mem_nil, or_false] at hx
    subst hx
    exact H_Tw_earlier (by omega)
  · intro as σ K has hσ hG
    have hG2 := hG
    unfold S_Un_isFirst at hG2
    split at hG2
    · next a1 a2 =>
      refine ⟨Nat.le_of_ble_eq_true rfl, (fun _ => none), ?_, 1000, ?_⟩
      · intro k n z L σ' hk hL hs hP
        cases hk
      · exact e_Un_isFirst a1 a2 σ K (has _ (List.mem_of_getElem? (i := 1) rfl)) (has _ (List.mem_of_getElem? (i := 2) rfl)) hσ hG
    · exact hG2.elim
def S_Un_factorsOf : GS := fun as σ K => match as with
  | [some (.inr (.inr (9, 0))), some (.inl a1)] => (TwC σ ∧ 1 ≤ a1) ∧ ∀ σ', TQ σ σ' → K (vI (colS (fcP (cW σ) (σ 501 0 0)) (σ 501 0 0) a1)) σ'
  | _ => False
abbrev Lp_Un_factorsOf_4 (a1 : Int) (σ0 : SS) (n : Nat) (L : List AV) (σ : SS) : Prop := ∃ (v2 : Int) (v3 : Int), L = [vR 9 0, vI a1, vI v2, vI v3] ∧ n = (1000 - v3).toNat ∧ ((TQ σ0 σ) ∧ (0 ≤ v3) ∧ (v3 = 0 ∨ v3 + a1 ≤ (σ0 501 0 0) + 1) ∧ (v2 = sumZ (fun i => bi (fcP (cW σ0) (σ0 501 0 0) i a1)) 0 v3))
def Iv_Un_factorsOf (a1 : Int) (σ0 : SS) (k : Nat) : Option (List Nat × (Nat → List AV → SS → Prop)) := match k with
  | 4 => some ([], Lp_Un_factorsOf_4 a1 σ0)
  | _ => none
def VE_Un_factorsOf (a1 : Int) (σ : SS) (K : AV → SS → Prop) : Prop :=
  (∃ n', Lp_Un_factorsOf_4 a1 σ n' [vR 9 0, vI a1, vI 0, vI 0] σ)
def VL_Un_factorsOf_4 (a1 : Int) (σ0 : SS) (K : AV → SS → Prop) (v2 : Int) (v3 : Int) (σ : SS) (n : Nat) : Prop :=
  (S_Wo_size [vR 10 0] σ (kI fun r1 σ1 =>
    (InR (r1 - a1) ∧
    (((r1 - a1) < v3 →
      (K (vI v2) σ1)) ∧
    (v3 ≤ (r1 - a1) →
      (S_Un_isFirst [vR 9 0, vI v3, vI a1] σ1 (kI fun r2 σ2 =>
        ((r2 = 0 →
          (InR (v2 + 0) ∧
          (InR (v3 + 1) ∧
          (∃ n', n' < n ∧ Lp_Un_factorsOf_4 a1 σ0 n' [vR 9 0, vI a1, vI (v2 + 0), vI (v3 + 1)] σ2)))) ∧
        (r2 ≠ 0 →
          (InR (v2 + 1) ∧
          (InR (v3 + 1) ∧
          (∃ n', n' < n ∧ Lp_Un_factorsOf_4 a1 σ0 n' [vR 9 0, vI a1, vI (v2 + 1), vI (v3 + 1)] σ2))))))))))))
theorem l_Un_factorsOf_4 (a1 : Int) (σ0 : SS) (K : AV → SS → Prop) (ha1 : InR a1) (hs0 : okS σ0) (hG : S_Un_factorsOf [vR 9 0, vI a1] σ0 K) (v2 : Int) (v3 : Int) (σ : SS) (hv2 : InR v2) (hv3 : InR v3) (hs : okS σ) (n : Nat) (hn : n = (1000 - v3).toNat) (hQ : (TQ σ0 σ) ∧ (0 ≤ v3) ∧ (v3 = 0 ∨ v3 + a1 ≤ (σ0 501 0 0) + 1) ∧ (v2 = sumZ (fun i => bi (fcP (cW σ0) (σ0 501 0 0) i a1)) 0 v3)) : VL_Un_factorsOf_4 a1 σ0 K v2 v3 σ n := by
  unfold VL_Un_factorsOf_4
  obtain ⟨⟨hT, h1⟩, hG⟩ := hG
  have hb := hT.n
  obtain ⟨q0, q1, q2, q3⟩ := hQ
  obtain ⟨w1, w2⟩ := q0.w
  have hin := fc_in (w := cW σ0) (n := (σ0 501 0 0)) (x := a1) (y := v3) (by omega)
  intro _ _
  refine ⟨by omega, fun h => ?_, fun h => ⟨⟨q0.2, by omega, by omega, by omega⟩, fun σ' tq => ?_⟩⟩
  · have e : v2 = colS (fcP (cW σ0) (σ0 501 0 0)) (σ0 501 0 0) a1 := by
      rw [q3]
      exact sumZ_widen (Int.le_refl _) (by omega) (fun x g1 g2 g3 => bi_0 (fun z => by have := z.2.2.1; omega))
    rw [e]
    exact hG _ q0
  · have q0' := q0.tr tq
    rw [w1]
    have hs := sumZ_succ (f := fun i => bi (fcP (cW σ0) (σ0 501 0 0) i a1)) q1
    refine bS_b0 (fun hp _ => ⟨by omega, by omega, _, ?_, _, _, rfl, rfl, q0', by omega, by omega, ?_⟩) (fun hp _ => ⟨by omega, by omega, _, ?_, _, _, rfl, rfl, q0', by omega, by omega, ?_⟩)
    · omega
    · rw [hs, ← q3, bi_1 ⟨q1, h1, by omega, hp⟩]
    · omega
    · rw [hs, ← q3, bi_0 (fun z => hp z.2.2.2)]
theorem e_Un_factorsOf (a1 : Int) (σ : SS) (K : AV → SS → Prop) (ha1 : InR a1) (hs : okS σ) (hG : S_Un_factorsOf [vR 9 0, vI a1] σ K) : VE_Un_factorsOf a1 σ K := by
  unfold VE_Un_factorsOf
  obtain ⟨⟨hT, h1⟩, hG⟩ := hG
  exact ⟨_, _, _, rfl, rfl, TQ.rf hT, by omega, by omega, (sumZ_nil (by omega)).symm⟩
theorem H_Un_factorsOf {d : Nat} (hd : 4 ≤ d) : Holds d I_Un_factorsOf S_Un_factorsOf := by
  refine holds_of (d' := d - 1) (rt := 1) (cal := [(I_Wo_size, S_Wo_size), (I_Un_isFirst, S_Un_isFirst)]) (C := C_Un_factorsOf) m_Un_factorsOf o_Un_factorsOf rfl rfl (by omega) ?_ ?_
  · intro x hx
    simp only [List.mem_cons, List.not_mem_nil, or_false] at hx
    rcases hx with rfl | rfl
    · exact H_Wo_size (by omega)
    · exact H_Un_isFirst (by omega)
  · intro as σ K has hσ hG
    have hG2 := hG
    unfold S_Un_factorsOf at hG2
    split at hG2
    · next a1 =>
      refine ⟨Nat.le_of_ble_eq_true rfl, (Iv_Un_factorsOf a1 σ), ?_, 1000, ?_⟩
      · intro k n z L σ' hk hL hs hP
        unfold Iv_Un_factorsOf at hk
        split at hk
        · cases hk
          obtain ⟨v2, v3, rfl, hn, hQ⟩ := hP
          exact ⟨1000, l_Un_factorsOf_4 a1 σ K (has _ (List.mem_of_getElem? (i := 1) rfl)) hσ hG v2 v3 σ' (hL _ (List.mem_of_getElem? (i := 2) rfl)) (hL _ (List.mem_of_getElem? (i := 3) rfl)) hs n hn hQ⟩
        · cases hk
      · exact e_Un_factorsOf a1 σ K (has _ (List.mem_of_getElem? (i := 1) rfl)) hσ hG
    · exact hG2.elim
def S_Un_allFactors : GS := fun as σ K => match as with
  | [some (.inr (.inr (9, 0)))] => TwC σ ∧ ∀ σ', TQ σ σ' → K (vI (dsum (fcP (cW σ) (σ 501 0 0)) (σ 501 0 0))) σ'
  | _ => False
abbrev Lp_Un_allFactors_4 (σ0 : SS) (n : Nat) (L : List AV) (σ : SS) : Prop := ∃ (v1 : Int) (v2 : Int), L = [vR 9 0, vI v1, vI v2] ∧ n = (1000 - v2).toNat ∧ ((TQ σ0 σ) ∧ (0 ≤ v2) ∧ (v2 ≤ (σ0 501 0 0)) ∧ (v1 = sumZ (rowS (fcP (cW σ0) (σ0 501 0 0)) (σ0 501 0 0)) 0 v2))
def Iv_Un_allFactors (σ0 : SS) (k : Nat) : Option (List Nat × (Nat → List AV → SS → Prop)) := match k with
  | 4 => some ([], Lp_Un_allFactors_4 σ0)
  | _ => none
def VE_Un_allFactors (σ : SS) (K : AV → SS → Prop) : Prop :=
  (∃ n', Lp_Un_allFactors_4 σ n' [vR 9 0, vI 0, vI 0] σ)
def VL_Un_allFactors_4 (σ0 : SS) (K : AV → SS → Prop) (v1 : Int) (v2 : Int) (σ : SS) (n : Nat) : Prop :=
  (S_Wo_size [vR 10 0] σ (kI fun r1 σ1 =>
    ((r1 ≤ v2 →
      (K (vI v1) σ1)) ∧
    (v2 < r1 →
      (S_Wo_size [vR 10 0] σ1 (kI fun r2 σ2 =>
        (InR (r2 - v2) ∧
        (S_Tw_earlier [vR 8 0, vI v2] σ2 (kI fun r3 σ3 =>
          (InR ((r2 - v2) - r3) ∧
          (InR (v1 + ((r2 - v2) - r3)) ∧
          (InR (v2 + 1) ∧
          (∃ n', n' < n ∧ Lp_Un_allFactors_4 σ0 n' [vR 9 0, vI (v1 + ((r2 - v2) - r3)), vI (v2 + 1)] σ3)))))))))))))
theorem l_Un_allFactors_4 (σ0 : SS) (K : AV → SS → Prop) (hs0 : okS σ0) (hG : S_Un_allFactors [vR 9 0] σ0 K) (v1 : Int) (v2 : Int) (σ : SS) (hv1 : InR v1) (hv2 : InR v2) (hs : okS σ) (n : Nat) (hn : n = (1000 - v2).toNat) (hQ : (TQ σ0 σ) ∧ (0 ≤ v2) ∧ (v2 ≤ (σ0 501 0 0)) ∧ (v1 = sumZ (rowS (fcP (cW σ0) (σ0 501 0 0)) (σ0 501 0 0)) 0 v2)) : VL_Un_allFactors_4 σ0 K v1 v2 σ n := by
  unfold VL_Un_allFactors_4
  obtain ⟨hT, hG⟩ := hG
  have hb := hT.n
  obtain ⟨q0, q1, q2, q3⟩ := hQ
  obtain ⟨w1, w2⟩ := q0.w
  have hin := dsum_in (P := fcP (cW σ0) (σ0 501 0 0)) (n := (σ0 501 0 0)) (k := v2) hb.1 hb.2 q2
  intro _ _
  refine ⟨fun h => ?_, fun h => ?_⟩
  · rw [q3, show v2 = (σ0 501 0 0) by omega]
    exact hG _ q0
  intro _ _
  refine ⟨by omega, q0.2, fun σ' hF hT' => ?_⟩
  rw [w1, w2]
  have he : earlR (cW σ0) (σ0 501 0 0) v2 = earl (cW σ0) (σ0 501 0 0) v2 := if_pos (by omega)
  rw [he]
  have hs := earl_spec (cW σ0) (n := (σ0 501 0 0)) (p := v2) (by omega)
  have hr := fc_row (w := cW σ0) (n := (σ0 501 0 0)) (i := v2) q1 (by omega)
  intro _ _
  refine ⟨by omega, by omega, by omega, _, ?_, _, _, rfl, rfl, q0.tr ⟨hF, hT'⟩, by omega, by omega, ?_⟩
  · omega
  · rw [sumZ_succ q1, hr, ← q3]
theorem e_Un_allFactors (σ : SS) (K : AV → SS → Prop) (hs : okS σ) (hG : S_Un_allFactors [vR 9 0] σ K) : VE_Un_allFactors σ K := by
  unfold VE_Un_allFactors
  obtain ⟨hT, hG⟩ := hG
  have hb := hT.n
  exact ⟨_, _, _, rfl, rfl, TQ.rf hT, by omega, by omega, (sumZ_nil (by omega)).symm⟩
theorem H_Un_allFactors {d : Nat} (hd : 3 ≤ d) : Holds d I_Un_allFactors S_Un_allFactors := by
  refine holds_of (d' := d - 1) (rt := 1) (cal := [(I_Wo_size, S_Wo_size), (I_Tw_earlier, S_Tw_earlier)]) (C := C_Un_allFactors) m_Un_allFactors o_Un_allFactors rfl rfl (by omega) ?_ ?_
  · intro x hx
    simp only [List.mem_cons, List.not_mem_nil, or_false] at hx
    rcases hx with rfl | rfl
    · exact H_Wo_size (by omega)
    · exact H_Tw_earlier (by omega)
  · intro as σ K has hσ hG
    have hG2 := hG
    unfold S_Un_allFactors at hG2
    split at hG2
    · skip
      refine ⟨Nat.le_of_ble_eq_true rfl, (Iv_Un_allFactors σ), ?_, 1000, ?_⟩
      · intro k n z L σ' hk hL hs hP
        unfold Iv_Un_allFactors at hk
        split at hk
        · cases hk
          obtain ⟨v1, v2, rfl, hn, hQ⟩ := hP
          exact ⟨1000, l_Un_allFactors_4 σ K  hσ hG v1 v2 σ' (hL _ (List.mem_of_getElem? (i := 1) rfl)) (hL _ (List.mem_of_getElem? (i := 2) rfl)) hs n hn hQ⟩
        · cases hk
      · exact e_Un_allFactors σ K  hσ hG
    · exact hG2.elim
def S_Wr_factors : GS := fun as σ K => match as with
  | [some (.inr (.inr (11, 0))), some (.inl a1)] => TwC σ ∧ ∀ σ' r, TQ σ σ' → RFac (cW σ) (σ 501 0 0) a1 r → K (vI r) σ'
  | _ => False
def VE_Wr_factors (a1 : Int) (σ : SS) (K : AV → SS → Prop) : Prop :=
  ((a1 ≠ (-1) →
    ((a1 < 1 →
      (K (vI (-1)) σ)) ∧
    ((1 : Int) ≤ a1 →
      (S_Un_factorsOf [vR 9 0, vI a1] σ (kI fun r1 σ1 =>
        (K (vI r1) σ1)))))) ∧
  (a1 = (-1) →
    (S_Un_allFactors [vR 9 0] σ (kI fun r2 σ2 =>
      (K (vI r2) σ2)))))
theorem e_Wr_factors (a1 : Int) (σ : SS) (K : AV → SS → Prop) (ha1 : InR a1) (hs : okS σ) (hG : S_Wr_factors [vR 11 0, vI a1] σ K) : VE_Wr_factors a1 σ K := by
  unfold VE_Wr_factors
  obtain ⟨hT, hG⟩ := hG
  refine ⟨fun h => ⟨fun g => hG _ _ (TQ.rf hT) (gd_n (by omega)), fun g => ⟨⟨hT, g⟩, fun σ' tq => ?_⟩⟩, fun h => ⟨hT, fun σ' tq => ?_⟩⟩
  · intro _ _
    exact hG _ _ tq (gd_y (Or.inr g) (Or.inr ⟨g, rfl⟩))
  · intro _ _
    exact hG _ _ tq (gd_y (Or.inl h) (Or.inl ⟨h, rfl⟩))
theorem H_Wr_factors {d : Nat} (hd : 5 ≤ d) : Holds d I_Wr_factors S_Wr_factors := by
  refine holds_of (d' := d - 1) (rt := 1) (cal := [(I_Un_allFactors, S_Un_allFactors), (I_Un_factorsOf, S_Un_factorsOf)]) (C := C_Wr_factors) m_Wr_factors o_Wr_factors rfl rfl (by omega) ?_ ?_
  · intro x hx
    simp only [List.mem_cons, List.not_mem_nil, or_false] at hx
    rcases hx with rfl | rfl
    · exact H_Un_allFactors (by omega)
    · exact H_Un_factorsOf (by omega)
  · intro as σ K has hσ hG
    have hG2 := hG
    unfold S_Wr_factors at hG2
    split at hG2
    · next a1 =>
      refine ⟨Nat.le_of_ble_eq_true rfl, (fun _ => none), ?_, 1000, ?_⟩
      · intro k n z L σ' hk hL hs hP
        cases hk
      · exact e_Wr_factors a1 σ K (has _ (List.mem_of_getElem? (i := 1) rfl)) hσ hG
    · exact hG2.elim
def S_Mo_unlikeOf : GS := fun as σ K => match as with
  | [some (.inr (.inr (12, 0))), some (.inl a1)] => (MoW σ ∧ 1 ≤ a1 ∧ a1 ≤ (σ 40 0 0)) ∧ K (vI (colS (fcP (mW σ) (σ 40 0 0)) (σ 40 0 0) a1)) σ
  | _ => False
abbrev Lp_Mo_unlikeOf_4 (a1 : Int) (σ0 : SS) (n : Nat) (L : List AV) (σ : SS) : Prop := ∃ (v2 : Int) (v3 : Int), L = [vR 12 0, vI a1, vI v2, vI v3] ∧ n = (1000 - v3).toNat ∧ ((σ = σ0) ∧ (0 ≤ v3) ∧ (v3 + a1 ≤ (σ0 40 0 0) + 1) ∧ (v2 = sumZ (fun i => bi (fcP (mW σ0) (σ0 40 0 0) i a1)) 0 v3))
def Iv_Mo_unlikeOf (a1 : Int) (σ0 : SS) (k : Nat) : Option (List Nat × (Nat → List AV → SS → Prop)) := match k with
  | 4 => some ([], Lp_Mo_unlikeOf_4 a1 σ0)
  | _ => none
def VE_Mo_unlikeOf (a1 : Int) (σ : SS) (K : AV → SS → Prop) : Prop :=
  (∃ n', Lp_Mo_unlikeOf_4 a1 σ n' [vR 12 0, vI a1, vI 0, vI 0] σ)
def VL_Mo_unlikeOf_4 (a1 : Int) (σ0 : SS) (K : AV → SS → Prop) (v2 : Int) (v3 : Int) (σ : SS) (n : Nat) : Prop :=
  (InR (v3 + a1) ∧
  (S_Mo_size [vR 12 0] σ (kI fun r1 σ1 =>
    ((r1 < (v3 + a1) →
      (K (vI v2) σ1)) ∧
    ((v3 + a1) ≤ r1 →
      (S_Mo_isEarlier [vR 12 0, vI v3, vI a1] σ1 (kI fun r2 σ2 =>
        ((r2 = 0 →
          (InR (v2 + 1) ∧
          (InR (v3 + 1) ∧
          (∃ n', n' < n ∧ Lp_Mo_unlikeOf_4 a1 σ0 n' [vR 12 0, vI a1, vI (v2 + 1), vI (v3 + 1)] σ2)))) ∧
        (r2 ≠ 0 →
          (InR (v2 + 0) ∧
          (InR (v3 + 1) ∧
          (∃ n', n' < n ∧ Lp_Mo_unlikeOf_4 a1 σ0 n' [vR 12 0, vI a1, vI (v2 + 0), vI (v3 + 1)] σ2))))))))))))
theorem l_Mo_unlikeOf_4 (a1 : Int) (σ0 : SS) (K : AV → SS → Prop) (ha1 : InR a1) (hs0 : okS σ0) (hG : S_Mo_unlikeOf [vR 12 0, vI a1] σ0 K) (v2 : Int) (v3 : Int) (σ : SS) (hv2 : InR v2) (hv3 : InR v3) (hs : okS σ) (n : Nat) (hn : n = (1000 - v3).toNat) (hQ : (σ = σ0) ∧ (0 ≤ v3) ∧ (v3 + a1 ≤ (σ0 40 0 0) + 1) ∧ (v2 = sumZ (fun i => bi (fcP (mW σ0) (σ0 40 0 0) i a1)) 0 v3)) : VL_Mo_unlikeOf_4 a1 σ0 K v2 v3 σ n := by
  unfold VL_Mo_unlikeOf_4
  obtain ⟨⟨hM, h1⟩, hG⟩ := hG
  have hb := hM.n
  obtain ⟨rfl, q1, q2, q3⟩ := hQ
  have hin := fc_in (w := mW σ) (n := (σ 40 0 0)) (x := a1) (y := v3) (by omega)
  have hs := sumZ_succ (f := fun i => bi (fcP (mW σ) (σ 40 0 0) i a1)) q1
  refine ⟨by omega, ?_⟩
  intro _ _
  refine ⟨fun h => ?_, fun h => ⟨⟨hM, by omega, by omega, by omega⟩, ?_⟩⟩
  · have e : v2 = colS (fcP (mW σ) (σ 40 0 0)) (σ 40 0 0) a1 := by
      rw [q3]
      exact sumZ_widen (Int.le_refl _) (by omega) (fun x g1 g2 g3 => bi_0 (fun z => by have := z.2.2.1; omega))
    rw [e]
    exact hG
  · refine bS_b0 (fun hp _ => ⟨by omega, by omega, _, ?_, _, _, rfl, rfl, rfl, by omega, by omega, ?_⟩) (fun hp _ => ⟨by omega, by omega, _, ?_, _, _, rfl, rfl, rfl, by omega, by omega, ?_⟩)
    · omega
    · rw [hs, ← q3, bi_0 (fun z => z.2.2.2 hp)]
    · omega
    · rw [hs, ← q3, bi_1 ⟨q1, h1.1, by omega, hp⟩]
theorem e_Mo_unlikeOf (a1 : Int) (σ : SS) (K : AV → SS → Prop) (ha1 : InR a1) (hs : okS σ) (hG : S_Mo_unlikeOf [vR 12 0, vI a1] σ K) : VE_Mo_unlikeOf a1 σ K := by
  unfold VE_Mo_unlikeOf
  obtain ⟨⟨hM, h1⟩, hG⟩ := hG
  exact ⟨_, _, _, rfl, rfl, rfl, by omega, by omega, (sumZ_nil (by omega)).symm⟩
theorem H_Mo_unlikeOf {d : Nat} (hd : 5 ≤ d) : Holds d I_Mo_unlikeOf S_Mo_unlikeOf := by
  refine holds_of (d' := d - 1) (rt := 1) (cal := [(I_Mo_size, S_Mo_size), (I_Mo_isEarlier, S_Mo_isEarlier)]) (C := C_Mo_unlikeOf) m_Mo_unlikeOf o_Mo_unlikeOf rfl rfl (by omega) ?_ ?_
  · intro x hx
    simp only [List.mem_cons, List.not_mem_nil, or_false] at hx
    rcases hx with rfl | rfl
    · exact H_Mo_size (by omega)
    · exact H_Mo_isEarlier (by omega)
  · intro as σ K has hσ hG
    have hG2 := hG
    unfold S_Mo_unlikeOf at hG2
    split at hG2
    · next a1 =>
      refine ⟨Nat.le_of_ble_eq_true rfl, (Iv_Mo_unlikeOf a1 σ), ?_, 1000, ?_⟩
      · intro k n z L σ' hk hL hs hP
        unfold Iv_Mo_unlikeOf at hk
        split at hk
        · cases hk
          obtain ⟨v2, v3, rfl, hn, hQ⟩ := hP
          exact ⟨1000, l_Mo_unlikeOf_4 a1 σ K (has _ (List.mem_of_getElem? (i := 1) rfl)) hσ hG v2 v3 σ' (hL _ (List.mem_of_getElem? (i := 2) rfl)) (hL _ (List.mem_of_getElem? (i := 3) rfl)) hs n hn hQ⟩
        · cases hk
      · exact e_Mo_unlikeOf a1 σ K (has _ (List.mem_of_getElem? (i := 1) rfl)) hσ hG
    · exact hG2.elim
def S_Mo_factors : GS := fun as σ K => match as with
  | [some (.inr (.inr (12, 0))), some (.inl a1)] => MoW σ ∧ ∀ r, RFac (mW σ) (σ 40 0 0) a1 r → K (vI r) σ
  | _ => False
abbrev Lp_Mo_factors_24 (a1 : Int) (σ0 : SS) (n : Nat) (L : List AV) (σ : SS) : Prop := ∃ (v2 : Int) (v3 : Int), L = [vR 12 0, vI a1, vI v2, vI v3] ∧ n = (1000 - v3).toNat ∧ ((σ = σ0) ∧ (a1 = -1) ∧ (1 ≤ v3) ∧ (v3 ≤ (σ0 40 0 0) + 1) ∧ (v2 = sumZ (colS (fcP (mW σ0) (σ0 40 0 0)) (σ0 40 0 0)) 1 v3))
def Iv_Mo_factors (a1 : Int) (σ0 : SS) (k : Nat) : Option (List Nat × (Nat → List AV → SS → Prop)) := match k with
  | 24 => some ([], Lp_Mo_factors_24 a1 σ0)
  | _ => none
def VE_Mo_factors (a1 : Int) (σ : SS) (K : AV → SS → Prop) : Prop :=
  ((a1 = 0 →
    (K (vI (-1)) σ)) ∧
  (a1 ≠ 0 →
    (((-1 : Int) ≤ a1 →
      ((a1 = (-1) →
        (∃ n', Lp_Mo_factors_24 a1 σ n' [vR 12 0, vI a1, vI 0, vI 1] σ)) ∧
      (a1 ≠ (-1) →
        (S_Mo_size [vR 12 0] σ (kI fun r1 σ1 =>
          ((a1 ≤ r1 →
            (S_Mo_unlikeOf [vR 12 0, vI a1] σ1 (kI fun r2 σ2 =>
              (K (vI r2) σ2)))) ∧
          (r1 < a1 →
            (K (vI 0) σ1)))))))) ∧
    (a1 < (-1) →
      (K (vI (-1)) σ)))))
def VL_Mo_factors_24 (a1 : Int) (σ0 : SS) (K : AV → SS → Prop) (v2 : Int) (v3 : Int) (σ : SS) (n : Nat) : Prop :=
  (S_Mo_size [vR 12 0] σ (kI fun r1 σ1 =>
    ((r1 < v3 →
      (K (vI v2) σ1)) ∧
    (v3 ≤ r1 →
      (S_Mo_unlikeOf [vR 12 0, vI v3] σ1 (kI fun r2 σ2 =>
        (InR (v2 + r2) ∧
        (InR (v3 + 1) ∧
        (∃ n', n' < n ∧ Lp_Mo_factors_24 a1 σ0 n' [vR 12 0, vI a1, vI (v2 + r2), vI (v3 + 1)] σ2)))))))))
theorem l_Mo_factors_24 (a1 : Int) (σ0 : SS) (K : AV → SS → Prop) (ha1 : InR a1) (hs0 : okS σ0) (hG : S_Mo_factors [vR 12 0, vI a1] σ0 K) (v2 : Int) (v3 : Int) (σ : SS) (hv2 : InR v2) (hv3 : InR v3) (hs : okS σ) (n : Nat) (hn : n = (1000 - v3).toNat) (hQ : (σ = σ0) ∧ (a1 = -1) ∧ (1 ≤ v3) ∧ (v3 ≤ (σ0 40 0 0) + 1) ∧ (v2 = sumZ (colS (fcP (mW σ0) (σ0 40 0 0)) (σ0 40 0 0)) 1 v3)) : VL_Mo_factors_24 a1 σ0 K v2 v3 σ n := by
  unfold VL_Mo_factors_24
  obtain ⟨hM, hG⟩ := hG
  have hb := hM.n
  obtain ⟨rfl, q1, q2, q3, q4⟩ := hQ
  have hcol : ∀ x, 0 ≤ colS (fcP (mW σ) (σ 40 0 0)) (σ 40 0 0) x ∧ colS (fcP (mW σ) (σ 40 0 0)) (σ 40 0 0) x ≤ 120 := fun x => fc_in (by omega)
  have hin := sumZ_le (f := colS (fcP (mW σ) (σ 40 0 0)) (σ 40 0 0)) (c := 120) (a := 1) (b := v3) (by omega) (fun x _ _ => hcol x)
  have hc := hcol v3
  intro _ _
  refine ⟨fun h => ?_, fun h => ⟨⟨hM, q2, h⟩, ?_⟩⟩
  · have e : v2 = dsum (fcP (mW σ) (σ 40 0 0)) (σ 40 0 0) := by
      rw [q4, show v3 = (σ 40 0 0) + 1 by omega]
      exact (sumZ_swap (f := fun i h => bi (fcP (mW σ) (σ 40 0 0) i h))).symm
    rw [e]
    exact hG _ (gd_y (Or.inl q1) (Or.inl ⟨q1, rfl⟩))
  · intro _ _
    refine ⟨by omega, by omega, _, ?_, _, _, rfl, rfl, rfl, q1, by omega, by omega, ?_⟩
    · omega
    · rw [sumZ_succ q2, ← q4]
theorem e_Mo_factors (a1 : Int) (σ : SS) (K : AV → SS → Prop) (ha1 : InR a1) (hs : okS σ) (hG : S_Mo_factors [vR 12 0, vI a1] σ K) : VE_Mo_factors a1 σ K := by
  unfold VE_Mo_factors
  obtain ⟨hM, hG⟩ := hG
  have hb := hM.n
  refine ⟨fun h => hG _ (gd_n (by omega)), fun h => ⟨fun g => ⟨fun z => ⟨_, _, _, rfl, rfl, rfl, z, by omega, by omega, (sumZ_nil (by omega)).symm⟩, fun z => ?_⟩, fun g => hG _ (gd_n (by omega))⟩⟩
  intro _ _
  refine ⟨fun y => ⟨⟨hM, by omega, y⟩, ?_⟩, fun y => hG _ (gd_y (by omega) (Or.inr ⟨by omega, ?_⟩))⟩
  · intro _ _
    exact hG _ (gd_y (by omega) (Or.inr ⟨by omega, rfl⟩))
  · exact (sumZ_zero (fun x _ _ => bi_0 (fun z => by have := z.1; have := z.2.2.1; omega))).symm
theorem H_Mo_factors {d : Nat} (hd : 6 ≤ d) : Holds d I_Mo_factors S_Mo_factors := by
  refine holds_of (d' := d - 1) (rt := 1) (cal := [(I_Mo_size, S_Mo_size), (I_Mo_unlikeOf, S_Mo_unlikeOf)]) (C := C_Mo_factors) m_Mo_factors o_Mo_factors rfl rfl (by omega) ?_ ?_
  · intro x hx
    simp only [List.mem_cons, List.not_mem_nil, or_false] at hx
    rcases hx with rfl | rfl
    · exact H_Mo_size (by omega)
    · exact H_Mo_unlikeOf (by omega)
  · intro as σ K has hσ hG
    have hG2 := hG
    unfold S_Mo_factors at hG2
    split at hG2
    · next a1 =>
      refine ⟨Nat.le_of_ble_eq_true rfl, (Iv_Mo_factors a1 σ), ?_, 1000, ?_⟩
      · intro k n z L σ' hk hL hs hP
        unfold Iv_Mo_factors at hk
        split at hk
        · cases hk
          obtain ⟨v2, v3, rfl, hn, hQ⟩ := hP
          exact ⟨1000, l_Mo_factors_24 a1 σ K (has _ (List.mem_of_getElem? (i := 1) rfl)) hσ hG v2 v3 σ' (hL _ (List.mem_of_getElem? (i := 2) rfl)) (hL _ (List.mem_of_getElem? (i := 3) rfl)) hs n hn hQ⟩
        · cases hk
      · exact e_Mo_factors a1 σ K (has _ (List.mem_of_getElem? (i := 1) rfl)) hσ hG
    · exact hG2.elim
