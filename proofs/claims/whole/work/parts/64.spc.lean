def spP (w : Int → Int) (n L i : Int) : Prop := 0 ≤ i ∧ i + L < n ∧ ¬ isE w i L ∧ 2 ≤ cntZ (behP w n i L) 0 26
def S_Un_specialOf : GS := fun as σ K => match as with
  | [some (.inr (.inr (9, 0))), some (.inl a1)] => (TwC σ ∧ 0 ≤ a1) ∧ ∀ σ', TQ σ σ' → K (vI (cntZ (spP (cW σ) (σ 501 0 0) a1) 0 (σ 501 0 0))) σ'
  | _ => False
abbrev Lp_Un_specialOf_4 (a1 : Int) (σ0 : SS) (n : Nat) (L : List AV) (σ : SS) : Prop := ∃ (v2 : Int) (v3 : Int), L = [vR 9 0, vI a1, vI v2, vI v3] ∧ n = (1000 - v3).toNat ∧ ((TQ σ0 σ) ∧ (0 ≤ v3) ∧ (v3 = 0 ∨ v3 + a1 ≤ (σ0 501 0 0)) ∧ (v2 = cntZ (spP (cW σ0) (σ0 501 0 0) a1) 0 v3))
def Iv_Un_specialOf (a1 : Int) (σ0 : SS) (k : Nat) : Option (List Nat × (Nat → List AV → SS → Prop)) := match k with
  | 4 => some ([], Lp_Un_specialOf_4 a1 σ0)
  | _ => none
def VE_Un_specialOf (a1 : Int) (σ : SS) (K : AV → SS → Prop) : Prop :=
  (∃ n', Lp_Un_specialOf_4 a1 σ n' [vR 9 0, vI a1, vI 0, vI 0] σ)
def VL_Un_specialOf_4 (a1 : Int) (σ0 : SS) (K : AV → SS → Prop) (v2 : Int) (v3 : Int) (σ : SS) (n : Nat) : Prop :=
  (S_Wo_size [vR 10 0] σ (kI fun r1 σ1 =>
    (InR (r1 - a1) ∧
    (((r1 - a1) ≤ v3 →
      (K (vI v2) σ1)) ∧
    (v3 < (r1 - a1) →
      (S_Un_isFirst [vR 9 0, vI v3, vI a1] σ1 (kI fun r2 σ2 =>
        ((r2 = 0 →
          (InR (v2 + 0) ∧
          (InR (v3 + 1) ∧
          (∃ n', n' < n ∧ Lp_Un_specialOf_4 a1 σ0 n' [vR 9 0, vI a1, vI (v2 + 0), vI (v3 + 1)] σ2)))) ∧
        (r2 ≠ 0 →
          (S_Un_lettersBehind [vR 9 0, vI v3, vI a1] σ2 (kI fun r3 σ3 =>
            (S_In_bitCount [vI r3] σ3 (kI fun r4 σ4 =>
              ((r4 < 2 →
                (InR (v2 + 0) ∧
                (InR (v3 + 1) ∧
                (∃ n', n' < n ∧ Lp_Un_specialOf_4 a1 σ0 n' [vR 9 0, vI a1, vI (v2 + 0), vI (v3 + 1)] σ4)))) ∧
              ((2 : Int) ≤ r4 →
                (InR (v2 + 1) ∧
                (InR (v3 + 1) ∧
                (∃ n', n' < n ∧ Lp_Un_specialOf_4 a1 σ0 n' [vR 9 0, vI a1, vI (v2 + 1), vI (v3 + 1)] σ4))))))))))))))))))
theorem l_Un_specialOf_4 (a1 : Int) (σ0 : SS) (K : AV → SS → Prop) (ha1 : InR a1) (hs0 : okS σ0) (hG : S_Un_specialOf [vR 9 0, vI a1] σ0 K) (v2 : Int) (v3 : Int) (σ : SS) (hv2 : InR v2) (hv3 : InR v3) (hs : okS σ) (n : Nat) (hn : n = (1000 - v3).toNat) (hQ : (TQ σ0 σ) ∧ (0 ≤ v3) ∧ (v3 = 0 ∨ v3 + a1 ≤ (σ0 501 0 0)) ∧ (v2 = cntZ (spP (cW σ0) (σ0 501 0 0) a1) 0 v3)) : VL_Un_specialOf_4 a1 σ0 K v2 v3 σ n := by
  unfold VL_Un_specialOf_4
  obtain ⟨⟨hT, h1⟩, hG⟩ := hG
  have hb := hT.n
  obtain ⟨q0, q1, q2, q3⟩ := hQ
  obtain ⟨w1, w2⟩ := q0.w
  have hin := cntZ_in (P := spP (cW σ0) (σ0 501 0 0) a1) (a := 0) (b := v3)
  intro _ _
  refine ⟨by omega, fun h => ?_, fun h => ⟨⟨q0.2, q1, h1, by omega⟩, fun σ' tq => ?_⟩⟩
  · have e : v2 = cntZ (spP (cW σ0) (σ0 501 0 0) a1) 0 (σ0 501 0 0) := by
      rw [q3]
      exact sumZ_widen (Int.le_refl _) (by omega) (fun x g1 g2 g3 => bi_0 (fun z => by have := z.2.1; omega))
    rw [e]
    exact hG _ q0
  · have q0' := q0.tr tq
    rw [w1]
    refine bS_b0 (fun hp _ => ⟨⟨q0'.2, q1, h1, by rw [q0'.w.2]; omega⟩, fun σ2 r tq2 r0 r1 r2 => ?_⟩) (fun hp _ => ⟨by omega, by omega, _, ?_, _, _, rfl, rfl, q0', by omega, by omega, ?_⟩)
    · rw [q0'.w.1, q0'.w.2] at r2
      have ec : cntZ (bitI r) 0 26 = cntZ (behP (cW σ0) (σ0 501 0 0) v3 a1) 0 26 := cntZ_congr (fun x x1 _ => r2 x x1)
      have ep := pop_cnt r0 r1
      intro _ _
      refine ⟨⟨r0, r1⟩, ?_⟩
      intro _ _
      refine ⟨fun g => ⟨by omega, by omega, _, ?_, _, _, rfl, rfl, q0'.tr tq2, by omega, by omega, ?_⟩, fun g => ⟨by omega, by omega, _, ?_, _, _, rfl, rfl, q0'.tr tq2, by omega, by omega, ?_⟩⟩
      · omega
      · rw [cntZ_no q1 (fun z => by have := z.2.2.2; omega)]; omega
      · omega
      · rw [cntZ_yes q1 ⟨q1, by omega, hp, by omega⟩]; omega
    · omega
    · rw [cntZ_no q1 (fun z => hp z.2.2.1)]; omega
def RSpec (w : Int → Int) (n L r : Int) : Prop := gd (0 ≤ L) (-1) r (r = cntZ (spP w n L) 0 n)
theorem RSpec_u {w : Int → Int} {n L r r' : Int} (h : RSpec w n L r) (h' : RSpec w n L r') : r = r' := gd_uniq h h' (fun _ a b => a.trans b.symm)
theorem e_Un_specialOf (a1 : Int) (σ : SS) (K : AV → SS → Prop) (ha1 : InR a1) (hs : okS σ) (hG : S_Un_specialOf [vR 9 0, vI a1] σ K) : VE_Un_specialOf a1 σ K := by
  unfold VE_Un_specialOf
  obtain ⟨⟨hT, h1⟩, hG⟩ := hG
  exact ⟨_, _, _, rfl, rfl, TQ.rf hT, by omega, by omega, (cntZ_nil (by omega)).symm⟩
theorem H_Un_specialOf {d : Nat} (hd : 4 ≤ d) : Holds d I_Un_specialOf S_Un_specialOf := by
  refine holds_of (d' := d - 1) (rt := 1) (cal := [(I_Wo_size, S_Wo_size), (I_Un_isFirst, S_Un_isFirst), (I_Un_lettersBehind, S_Un_lettersBehind), (I_In_bitCount, S_In_bitCount)]) (C := C_Un_specialOf) m_Un_specialOf o_Un_specialOf rfl rfl (by omega) ?_ ?_
  · intro x hx
    simp only [List.mem_cons, List.not_mem_nil, or_false] at hx
    rcases hx with rfl | rfl | rfl | rfl
    · exact H_Wo_size (by omega)
    · exact H_Un_isFirst (by omega)
    · exact H_Un_lettersBehind (by omega)
    · exact H_In_bitCount (by omega)
  · intro as σ K has hσ hG
    have hG2 := hG
    unfold S_Un_specialOf at hG2
    split at hG2
    · next a1 =>
      refine ⟨Nat.le_of_ble_eq_true rfl, (Iv_Un_specialOf a1 σ), ?_, 1000, ?_⟩
      · intro k n z L σ' hk hL hs hP
        unfold Iv_Un_specialOf at hk
        split at hk
        · cases hk
          obtain ⟨v2, v3, rfl, hn, hQ⟩ := hP
          exact ⟨1000, l_Un_specialOf_4 a1 σ K (has _ (List.mem_of_getElem? (i := 1) rfl)) hσ hG v2 v3 σ' (hL _ (List.mem_of_getElem? (i := 2) rfl)) (hL _ (List.mem_of_getElem? (i := 3) rfl)) hs n hn hQ⟩
        · cases hk
      · exact e_Un_specialOf a1 σ K (has _ (List.mem_of_getElem? (i := 1) rfl)) hσ hG
    · exact hG2.elim
def S_Wr_special : GS := fun as σ K => match as with
  | [some (.inr (.inr (11, 0))), some (.inl a1)] => TwC σ ∧ ∀ σ' r, TQ σ σ' → RSpec (cW σ) (σ 501 0 0) a1 r → K (vI r) σ'
  | _ => False
def VE_Wr_special (a1 : Int) (σ : SS) (K : AV → SS → Prop) : Prop :=
  ((a1 < 0 →
    (K (vI (-1)) σ)) ∧
  ((0 : Int) ≤ a1 →
    (S_Un_specialOf [vR 9 0, vI a1] σ (kI fun r1 σ1 =>
      (K (vI r1) σ1)))))
theorem e_Wr_special (a1 : Int) (σ : SS) (K : AV → SS → Prop) (ha1 : InR a1) (hs : okS σ) (hG : S_Wr_special [vR 11 0, vI a1] σ K) : VE_Wr_special a1 σ K := by
  unfold VE_Wr_special
  obtain ⟨hT, hG⟩ := hG
  refine ⟨fun h => hG _ _ (TQ.rf hT) (gd_n (by omega)), fun h => ⟨⟨hT, h⟩, fun σ' tq => ?_⟩⟩
  intro _ _
  exact hG _ _ tq (gd_y h rfl)
theorem H_Wr_special {d : Nat} (hd : 5 ≤ d) : Holds d I_Wr_special S_Wr_special := by
  refine holds_of (d' := d - 1) (rt := 1) (cal := [(I_Un_specialOf, S_Un_specialOf)]) (C := C_Wr_special) m_Wr_special o_Wr_special rfl rfl (by omega) ?_ ?_
  · intro x hx
    simp only [List.mem_cons, List.not_mem_nil, or_false] at hx
    subst hx
    exact H_Un_specialOf (by omega)
  · intro as σ K has hσ hG
    have hG2 := hG
    unfold S_Wr_special at hG2
    split at hG2
    · next a1 =>
      refine ⟨Nat.le_of_ble_eq_true rfl, (fun _ => none), ?_, 1000, ?_⟩
      · intro k n z L σ' hk hL hs hP
        cases hk
      · exact e_Wr_special a1 σ K (has _ (List.mem_of_getElem? (i := 1) rfl)) hσ hG
    · exact hG2.elim
