def MoF : List (Nat × Nat) := [(48, 0)]
theorem moF {σ σ' : SS} (h : Fr MoF σ σ') : mW σ' = mW σ ∧ (σ' 40 0 0) = (σ 40 0 0) := by
  have e : σ' 40 0 = σ 40 0 := h _ _ (by simp [MoF])
  unfold mW
  rw [e]
  exact ⟨rfl, rfl⟩
theorem moM {σ σ' : SS} (hM : MoW σ) (h : Fr MoF σ σ') : MoW σ' := by
  obtain ⟨e1, e2⟩ := moF h
  unfold MoW at *
  rw [e1, e2]
  exact hM
def S_Mo_isAbel : GS := fun as σ K => match as with
  | [some (.inr (.inr (12, 0))), some (.inl a1), some (.inl a2)] => (MoW σ ∧ 0 ≤ a1 ∧ 1 ≤ a2 ∧ a1 + 2 * a2 ≤ (σ 40 0 0)) ∧ ∀ σ', Fr MoF σ σ' → bS (abelP (mW σ) (σ 40 0 0) a1 a2) K σ'
  | _ => False
abbrev Lp_Mo_isAbel_2 (a1 : Int) (a2 : Int) (σ0 : SS) (n : Nat) (L : List AV) (σ : SS) : Prop := ∃ (v3 : Int), L = [vR 12 0, vI a1, vI a2, vI v3] ∧ n = (3000 - v3).toNat ∧ ((Fr MoF σ0 σ) ∧ (0 ≤ v3) ∧ (v3 ≤ 26) ∧ (∀ c, 0 ≤ c → c < v3 → σ 48 0 c = 0))
abbrev Lp_Mo_isAbel_14 (a1 : Int) (a2 : Int) (σ0 : SS) (n : Nat) (L : List AV) (σ : SS) : Prop := ∃ (v3 : Int), L = [vR 12 0, vI a1, vI a2, vI v3] ∧ n = (1000 - v3).toNat ∧ ((Fr MoF σ0 σ) ∧ (0 ≤ v3) ∧ (v3 ≤ a2) ∧ (∀ c, 0 ≤ c → c < 26 → σ 48 0 c = cntW (mW σ0) c a1 (a1 + v3) - cntW (mW σ0) c (a1 + a2) (a1 + a2 + v3)))
abbrev Lp_Mo_isAbel_47 (a1 : Int) (a2 : Int) (σ0 : SS) (n : Nat) (L : List AV) (σ : SS) : Prop := ∃ (v3 : Int), L = [vR 12 0, vI a1, vI a2, vI v3] ∧ n = (100 - v3).toNat ∧ ((Fr MoF σ0 σ) ∧ (0 ≤ v3) ∧ (v3 ≤ 26) ∧ (∀ c, 0 ≤ c → c < v3 → σ 48 0 c = 0) ∧ (∀ c, 0 ≤ c → c < 26 → σ 48 0 c = cntW (mW σ0) c a1 (a1 + a2) - cntW (mW σ0) c (a1 + a2) (a1 + 2 * a2)))
def Iv_Mo_isAbel (a1 : Int) (a2 : Int) (σ0 : SS) (k : Nat) : Option (List Nat × (Nat → List AV → SS → Prop)) := match k with
  | 2 => some ([], Lp_Mo_isAbel_2 a1 a2 σ0)
  | 14 => some ([], Lp_Mo_isAbel_14 a1 a2 σ0)
  | 47 => some ([], Lp_Mo_isAbel_47 a1 a2 σ0)
  | _ => none
def VE_Mo_isAbel (a1 : Int) (a2 : Int) (σ : SS) (K : AV → SS → Prop) : Prop :=
  (∃ n', Lp_Mo_isAbel_2 a1 a2 σ n' [vR 12 0, vI a1, vI a2, vI 0] σ)
def VL_Mo_isAbel_2 (a1 : Int) (a2 : Int) (σ0 : SS) (K : AV → SS → Prop) (v3 : Int) (σ : SS) (n : Nat) : Prop :=
  (((26 : Int) ≤ v3 →
    (∃ n', n' < n ∧ Lp_Mo_isAbel_14 a1 a2 σ0 n' [vR 12 0, vI a1, vI a2, vI 0] σ)) ∧
  (v3 < 26 →
    ((0 ≤ (v3 : Int) ∧ (v3 : Int) < 26) ∧ ∀ σ1 : SS, σ1 = u3 σ 48 0 v3 0 →
    (InR (v3 + 1) ∧
    (∃ n', n' < n ∧ Lp_Mo_isAbel_2 a1 a2 σ0 n' [vR 12 0, vI a1, vI a2, vI (v3 + 1)] σ1)))))
def VL_Mo_isAbel_14 (a1 : Int) (a2 : Int) (σ0 : SS) (K : AV → SS → Prop) (v3 : Int) (σ : SS) (n : Nat) : Prop :=
  ((a2 ≤ v3 →
    (∃ n', n' < n ∧ Lp_Mo_isAbel_47 a1 a2 σ0 n' [vR 12 0, vI a1, vI a2, vI 0] σ)) ∧
  (v3 < a2 →
    (InR (a1 + v3) ∧
    (S_Mo_at [vR 12 0, vI (a1 + v3)] σ (kI fun r1 σ1 =>
      ((0 ≤ (r1 : Int) ∧ (r1 : Int) < 26) ∧
      (InR ((σ1 48 0 r1) + 1) ∧
      ((0 ≤ (r1 : Int) ∧ (r1 : Int) < 26) ∧ ∀ σ2 : SS, σ2 = u3 σ1 48 0 r1 ((σ1 48 0 r1) + 1) →
      (InR (a1 + a2) ∧
      (InR ((a1 + a2) + v3) ∧
      (S_Mo_at [vR 12 0, vI ((a1 + a2) + v3)] σ2 (kI fun r3 σ3 =>
        ((0 ≤ (r3 : Int) ∧ (r3 : Int) < 26) ∧
        (InR ((σ3 48 0 r3) - 1) ∧
        ((0 ≤ (r3 : Int) ∧ (r3 : Int) < 26) ∧ ∀ σ4 : SS, σ4 = u3 σ3 48 0 r3 ((σ3 48 0 r3) - 1) →
        (InR (v3 + 1) ∧
        (∃ n', n' < n ∧ Lp_Mo_isAbel_14 a1 a2 σ0 n' [vR 12 0, vI a1, vI a2, vI (v3 + 1)] σ4)))))))))))))))))
def VL_Mo_isAbel_47 (a1 : Int) (a2 : Int) (σ0 : SS) (K : AV → SS → Prop) (v3 : Int) (σ : SS) (n : Nat) : Prop :=
  (((26 : Int) ≤ v3 →
    ((0 ≤ (1 : Int) ∧ (1 : Int) ≤ 1) ∧ K (vI 1) σ)) ∧
  (v3 < 26 →
    ((0 ≤ (v3 : Int) ∧ (v3 : Int) < 26) ∧
    (((σ 48 0 v3) = 0 →
      (InR (v3 + 1) ∧
      (∃ n', n' < n ∧ Lp_Mo_isAbel_47 a1 a2 σ0 n' [vR 12 0, vI a1, vI a2, vI (v3 + 1)] σ))) ∧
    ((σ 48 0 v3) ≠ 0 →
      ((0 ≤ (0 : Int) ∧ (0 : Int) ≤ 1) ∧ K (vI 0) σ))))))
theorem l_Mo_isAbel_2 (a1 : Int) (a2 : Int) (σ0 : SS) (K : AV → SS → Prop) (ha1 : InR a1) (ha2 : InR a2) (hs0 : okS σ0) (hG : S_Mo_isAbel [vR 12 0, vI a1, vI a2] σ0 K) (v3 : Int) (σ : SS) (hv3 : InR v3) (hs : okS σ) (n : Nat) (hn : n = (3000 - v3).toNat) (hQ : (Fr MoF σ0 σ) ∧ (0 ≤ v3) ∧ (v3 ≤ 26) ∧ (∀ c, 0 ≤ c → c < v3 → σ 48 0 c = 0)) : VL_Mo_isAbel_2 a1 a2 σ0 K v3 σ n := by
  unfold VL_Mo_isAbel_2
  obtain ⟨⟨hM, h1⟩, hG⟩ := hG
  have hb := hM.n
  obtain ⟨q0, q1, q2, q3⟩ := hQ
  refine ⟨fun h => ⟨_, ?_, _, rfl, rfl, q0, by omega, by omega, fun c c1 c2 => ?_⟩, fun h => ⟨⟨by omega, by omega⟩, fun σ2 e2 => ⟨by omega, _, ?_, _, rfl, rfl, ?_, by omega, by omega, fun c c1 c2 => ?_⟩⟩⟩
  · omega
  · rw [q3 c c1 (by omega), cntW_nil (by omega), cntW_nil (by omega)]; rfl
  · omega
  · subst e2; exact Fr_trans q0 (Fr_u3 (by simp [MoF]))
  · subst e2
    rw [u3_e]
    split
    · rfl
    · exact q3 c c1 (by omega)
theorem l_Mo_isAbel_14 (a1 : Int) (a2 : Int) (σ0 : SS) (K : AV → SS → Prop) (ha1 : InR a1) (ha2 : InR a2) (hs0 : okS σ0) (hG : S_Mo_isAbel [vR 12 0, vI a1, vI a2] σ0 K) (v3 : Int) (σ : SS) (hv3 : InR v3) (hs : okS σ) (n : Nat) (hn : n = (1000 - v3).toNat) (hQ : (Fr MoF σ0 σ) ∧ (0 ≤ v3) ∧ (v3 ≤ a2) ∧ (∀ c, 0 ≤ c → c < 26 → σ 48 0 c = cntW (mW σ0) c a1 (a1 + v3) - cntW (mW σ0) c (a1 + a2) (a1 + a2 + v3))) : VL_Mo_isAbel_14 a1 a2 σ0 K v3 σ n := by
  unfold VL_Mo_isAbel_14
  obtain ⟨⟨hM, h1⟩, hG⟩ := hG
  have hb := hM.n
  obtain ⟨q0, q1, q2, q3⟩ := hQ
  obtain ⟨w1, w2⟩ := moF q0
  refine ⟨fun h => ⟨_, ?_, _, rfl, rfl, q0, by omega, by omega, fun c c1 c2 => by omega, fun c c1 c2 => ?_⟩, fun h => ⟨by omega, ⟨by omega, by omega, by omega⟩, ?_⟩⟩
  · omega
  · have := q3 c c1 c2
    rwa [show v3 = a2 by omega, show a1 + a2 + a2 = a1 + 2 * a2 by omega] at this
  rw [w1]
  have l1 := hM.let (x := a1 + v3) (by omega) (by omega)
  have l2 := hM.let (x := a1 + a2 + v3) (by omega) (by omega)
  have sb : ∀ c, 0 ≤ c → c < 26 → -120 ≤ σ 48 0 c ∧ σ 48 0 c ≤ 120 := fun c c1 c2 => by
    have := q3 c c1 c2
    have := cntW_in (w := mW σ0) (c := c) (a := a1) (b := a1 + v3) (by omega)
    have := cntW_in (w := mW σ0) (c := c) (a := a1 + a2) (b := a1 + a2 + v3) (by omega)
    omega
  intro _ _
  have sb1 := sb _ l1.1 l1.2
  refine ⟨l1, by omega, l1, fun σ2 e2 => ⟨by omega, by omega, ?_⟩⟩
  have f2 : Fr MoF σ0 σ2 := by subst e2; exact Fr_trans q0 (Fr_u3 (by simp [MoF]))
  have g2 : ∀ c, σ2 48 0 c = if c = mW σ0 (a1 + v3) then σ 48 0 c + 1 else σ 48 0 c := fun c => by
    subst e2
    rw [u3_e]
    split
    · rename_i z; rw [z]
    · rfl
  obtain ⟨x1, x2⟩ := moF f2
  refine ⟨⟨by omega, by omega, by omega⟩, ?_⟩
  rw [x1]
  intro _ _
  have sb2 : -120 ≤ σ2 48 0 (mW σ0 (a1 + a2 + v3)) ∧ σ2 48 0 (mW σ0 (a1 + a2 + v3)) ≤ 121 := by
    have := sb _ l2.1 l2.2
    rw [g2]
    split <;> omega
  refine ⟨l2, by omega, l2, fun σ4 e4 => ⟨by omega, _, ?_, _, rfl, rfl, ?_, by omega, by omega, fun c c1 c2 => ?_⟩⟩
  · omega
  · subst e4; exact Fr_trans f2 (Fr_u3 (by simp [MoF]))
  · have g4 : σ4 48 0 c = if c = mW σ0 (a1 + a2 + v3) then σ2 48 0 c - 1 else σ2 48 0 c := by
      subst e4
      rw [u3_e]
      split
      · rename_i z; rw [z]
      · rfl
    have k1 := q3 c c1 c2
    have k2 := cntW_last (w := mW σ0) (c := c) (a := a1) (b := a1 + v3) (by omega)
    have k3 := cntW_last (w := mW σ0) (c := c) (a := a1 + a2) (b := a1 + a2 + v3) (by omega)
    rw [g4, g2, show a1 + (v3 + 1) = a1 + v3 + 1 by omega, show a1 + a2 + (v3 + 1) = a1 + a2 + v3 + 1 by omega]
    by_cases z1 : c = mW σ0 (a1 + v3) <;> by_cases z2 : c = mW σ0 (a1 + a2 + v3)
    · rw [bi_1 z1.symm] at k2; rw [bi_1 z2.symm] at k3
      rw [if_pos z2, if_pos z1]; omega
    · rw [bi_1 z1.symm] at k2; rw [bi_0 (fun y => z2 y.symm)] at k3
      rw [if_neg z2, if_pos z1]; omega
    · rw [bi_0 (fun y => z1 y.symm)] at k2; rw [bi_1 z2.symm] at k3
      rw [if_pos z2, if_neg z1]; omega
    · rw [bi_0 (fun y => z1 y.symm)] at k2; rw [bi_0 (fun y => z2 y.symm)] at k3
      rw [if_neg z2, if_neg z1]; omega
theorem l_Mo_isAbel_47 (a1 : Int) (a2 : Int) (σ0 : SS) (K : AV → SS → Prop) (ha1 : InR a1) (ha2 : InR a2) (hs0 : okS σ0) (hG : S_Mo_isAbel [vR 12 0, vI a1, vI a2] σ0 K) (v3 : Int) (σ : SS) (hv3 : InR v3) (hs : okS σ) (n : Nat) (hn : n = (100 - v3).toNat) (hQ : (Fr MoF σ0 σ) ∧ (0 ≤ v3) ∧ (v3 ≤ 26) ∧ (∀ c, 0 ≤ c → c < v3 → σ 48 0 c = 0) ∧ (∀ c, 0 ≤ c → c < 26 → σ 48 0 c = cntW (mW σ0) c a1 (a1 + a2) - cntW (mW σ0) c (a1 + a2) (a1 + 2 * a2))) : VL_Mo_isAbel_47 a1 a2 σ0 K v3 σ n := by
  unfold VL_Mo_isAbel_47
  obtain ⟨⟨hM, h1⟩, hG⟩ := hG
  have hb := hM.n
  obtain ⟨q0, q1, q2, q3, q4⟩ := hQ
  refine ⟨fun h => bS_y (hG σ q0) ⟨h1.1, h1.2.1, h1.2.2, fun c c1 c2 => ?_⟩, fun h => ⟨⟨by omega, by omega⟩, fun g => ⟨by omega, _, ?_, _, rfl, rfl, q0, by omega, by omega, fun c c1 c2 => ?_, q4⟩, fun g => bS_n (hG σ q0) (fun z => ?_)⟩⟩
  · have := q3 c c1 (by omega)
    have := q4 c c1 c2
    omega
  · omega
  · rcases (by omega : c < v3 ∨ c = v3) with y | rfl
    · exact q3 c c1 y
    · exact g
  · have := q4 v3 (by omega) (by omega)
    have := z.2.2.2 v3 (by omega) (by omega)
    omega
theorem e_Mo_isAbel (a1 : Int) (a2 : Int) (σ : SS) (K : AV → SS → Prop) (ha1 : InR a1) (ha2 : InR a2) (hs : okS σ) (hG : S_Mo_isAbel [vR 12 0, vI a1, vI a2] σ K) : VE_Mo_isAbel a1 a2 σ K := by
  unfold VE_Mo_isAbel
  obtain ⟨⟨hM, h1⟩, hG⟩ := hG
  have hb := hM.n
  exact ⟨_, _, rfl, rfl, Fr_refl, by omega, by omega, fun c c1 c2 => by omega⟩
theorem H_Mo_isAbel {d : Nat} (hd : 2 ≤ d) : Holds d I_Mo_isAbel S_Mo_isAbel := by
  refine holds_of (d' := d - 1) (rt := 2) (cal := [(I_Mo_at, S_Mo_at)]) (C := C_Mo_isAbel) m_Mo_isAbel o_Mo_isAbel rfl rfl (by omega) ?_ ?_
  · intro x hx
    simp only [List.mem_cons, List.not_mem_nil, or_false] at hx
    subst hx
    exact H_Mo_at (by omega)
  · intro as σ K has hσ hG
    have hG2 := hG
    unfold S_Mo_isAbel at hG2
    split at hG2
    · next a1 a2 =>
      refine ⟨Nat.le_of_ble_eq_true rfl, (Iv_Mo_isAbel a1 a2 σ), ?_, 1000, ?_⟩
      · intro k n z L σ' hk hL hs hP
        unfold Iv_Mo_isAbel at hk
        split at hk
        · cases hk
          obtain ⟨v3, rfl, hn, hQ⟩ := hP
          exact ⟨1000, l_Mo_isAbel_2 a1 a2 σ K (has _ (List.mem_of_getElem? (i := 1) rfl)) (has _ (List.mem_of_getElem? (i := 2) rfl)) hσ hG v3 σ' (hL _ (List.mem_of_getElem? (i := 3) rfl)) hs n hn hQ⟩
        · cases hk
          obtain ⟨v3, rfl, hn, hQ⟩ := hP
          exact ⟨1000, l_Mo_isAbel_14 a1 a2 σ K (has _ (List.mem_of_getElem? (i := 1) rfl)) (has _ (List.mem_of_getElem? (i := 2) rfl)) hσ hG v3 σ' (hL _ (List.mem_of_getElem? (i := 3) rfl)) hs n hn hQ⟩
        · cases hk
          obtain ⟨v3, rfl, hn, hQ⟩ := hP
          exact ⟨1000, l_Mo_isAbel_47 a1 a2 σ K (has _ (List.mem_of_getElem? (i := 1) rfl)) (has _ (List.mem_of_getElem? (i := 2) rfl)) hσ hG v3 σ' (hL _ (List.mem_of_getElem? (i := 3) rfl)) hs n hn hQ⟩
        · cases hk
      · exact e_Mo_isAbel a1 a2 σ K (has _ (List.mem_of_getElem? (i := 1) rfl)) (has _ (List.mem_of_getElem? (i := 2) rfl)) hσ hG
    · exact hG2.elim
def S_Mo_abel : GS := fun as σ K => match as with
  | [some (.inr (.inr (12, 0))), some (.inl a1)] => MoW σ ∧ ∀ σ' r, Fr MoF σ σ' → RTal 2 (abelP (mW σ) (σ 40 0 0)) (σ 40 0 0) a1 r → K (vI r) σ'
  | _ => False
abbrev Lp_Mo_abel_16 (a1 : Int) (σ0 : SS) (n : Nat) (L : List AV) (σ : SS) : Prop := ∃ (v2 : Int) (v3 : Int) (v4 : Int) (v5 : Int), L = [vR 12 0, vI a1, vI v2, vI v3, vI v4, vI v5, none] ∧ n = (((σ0 40 0 0) + 1 - v5) * 1000).toNat ∧ ((Fr MoF σ0 σ) ∧ (0 ≤ a1 ∧ a1 ≤ 2) ∧ (1 ≤ v5) ∧ (v5 ≤ (σ0 40 0 0) + 1) ∧ (TB 2 (abelP (mW σ0) (σ0 40 0 0)) (σ0 40 0 0) v5 0 v2 v3 v4))
abbrev Lp_Mo_abel_24 (a1 : Int) (σ0 : SS) (n : Nat) (L : List AV) (σ : SS) : Prop := ∃ (v2 : Int) (v3 : Int) (v4 : Int) (v5 : Int) (v6 : Int), L = [vR 12 0, vI a1, vI v2, vI v3, vI v4, vI v5, vI v6] ∧ n = (((σ0 40 0 0) + 1 - v5) * 1000 - v6 - 1).toNat ∧ ((Fr MoF σ0 σ) ∧ (0 ≤ a1 ∧ a1 ≤ 2) ∧ (1 ≤ v5) ∧ (2 * v5 ≤ (σ0 40 0 0)) ∧ (0 ≤ v6) ∧ (v6 + 2 * v5 ≤ (σ0 40 0 0) + 1) ∧ (TB 2 (abelP (mW σ0) (σ0 40 0 0)) (σ0 40 0 0) v5 v6 v2 v3 v4))
def Iv_Mo_abel (a1 : Int) (σ0 : SS) (k : Nat) : Option (List Nat × (Nat → List AV → SS → Prop)) := match k with
  | 16 => some ([6], Lp_Mo_abel_16 a1 σ0)
  | 24 => some ([], Lp_Mo_abel_24 a1 σ0)
  | _ => none
def VE_Mo_abel (a1 : Int) (σ : SS) (K : AV → SS → Prop) : Prop :=
  (S_Mo_in [vL a1, vL 0, vL 2] σ (kI fun r1 σ1 =>
    ((r1 ≠ 0 →
      (∃ n', Lp_Mo_abel_16 a1 σ n' [vR 12 0, vI a1, vI 0, vI 0, vI (-2), vI 1, none] σ1)) ∧
    (r1 = 0 →
      (K (vI (-1)) σ1)))))
def VL_Mo_abel_16 (a1 : Int) (σ0 : SS) (K : AV → SS → Prop) (v2 : Int) (v3 : Int) (v4 : Int) (v5 : Int) (σ : SS) (n : Nat) : Prop :=
  (InR (2 * v5) ∧
  (S_Mo_size [vR 12 0] σ (kI fun r1 σ1 =>
    ((r1 < (2 * v5) →
      ((a1 ≠ 0 →
        ((a1 ≠ 1 →
          (K (vI v4) σ1)) ∧
        (a1 = 1 →
          (K (vI v3) σ1)))) ∧
      (a1 = 0 →
        (K (vI v2) σ1)))) ∧
    ((2 * v5) ≤ r1 →
      (∃ n', n' < n ∧ Lp_Mo_abel_24 a1 σ0 n' [vR 12 0, vI a1, vI v2, vI v3, vI v4, vI v5, vI 0] σ1))))))
def VL_Mo_abel_24 (a1 : Int) (σ0 : SS) (K : AV → SS → Prop) (v2 : Int) (v3 : Int) (v4 : Int) (v5 : Int) (v6 : Int) (σ : SS) (n : Nat) : Prop :=
  (InR (2 * v5) ∧
  (InR (v6 + (2 * v5)) ∧
  (S_Mo_size [vR 12 0] σ (kI fun r1 σ1 =>
    ((r1 < (v6 + (2 * v5)) →
      (InR (v5 + 1) ∧
      (∃ n', n' < n ∧ Lp_Mo_abel_16 a1 σ0 n' [vR 12 0, vI a1, vI v2, vI v3, vI v4, vI (v5 + 1), none] σ1))) ∧
    ((v6 + (2 * v5)) ≤ r1 →
      (S_Mo_isAbel [vR 12 0, vI v6, vI v5] σ1 (kI fun r2 σ2 =>
        ((r2 ≠ 0 →
          (InR (v2 + 1) ∧
          (InR (2 * v5) ∧
          (((2 * v5) ≠ v3 →
            (InR (2 * v5) ∧
            (InR (v6 + 1) ∧
            (∃ n', n' < n ∧ Lp_Mo_abel_24 a1 σ0 n' [vR 12 0, vI a1, vI (v2 + 1), vI (2 * v5), vI v6, vI v5, vI (v6 + 1)] σ2)))) ∧
          ((2 * v5) = v3 →
            (InR (v6 + 1) ∧
            (∃ n', n' < n ∧ Lp_Mo_abel_24 a1 σ0 n' [vR 12 0, vI a1, vI (v2 + 1), vI v3, vI v4, vI v5, vI (v6 + 1)] σ2))))))) ∧
        (r2 = 0 →
          (InR (v6 + 1) ∧
          (∃ n', n' < n ∧ Lp_Mo_abel_24 a1 σ0 n' [vR 12 0, vI a1, vI v2, vI v3, vI v4, vI v5, vI (v6 + 1)] σ2))))))))))))
theorem l_Mo_abel_16 (a1 : Int) (σ0 : SS) (K : AV → SS → Prop) (ha1 : InR a1) (hs0 : okS σ0) (hG : S_Mo_abel [vR 12 0, vI a1] σ0 K) (v2 : Int) (v3 : Int) (v4 : Int) (v5 : Int) (σ : SS) (hv2 : InR v2) (hv3 : InR v3) (hv4 : InR v4) (hv5 : InR v5) (hs : okS σ) (n : Nat) (hn : n = (((σ0 40 0 0) + 1 - v5) * 1000).toNat) (hQ : (Fr MoF σ0 σ) ∧ (0 ≤ a1 ∧ a1 ≤ 2) ∧ (1 ≤ v5) ∧ (v5 ≤ (σ0 40 0 0) + 1) ∧ (TB 2 (abelP (mW σ0) (σ0 40 0 0)) (σ0 40 0 0) v5 0 v2 v3 v4)) : VL_Mo_abel_16 a1 σ0 K v2 v3 v4 v5 σ n := by
  unfold VL_Mo_abel_16
  obtain ⟨hM, hG⟩ := hG
  have hb := hM.n
  obtain ⟨q1, q2, q3, q4, q5⟩ := hQ
  obtain ⟨w1, w2⟩ := moF q1
  refine ⟨by omega, ?_⟩
  intro _ _
  refine ⟨fun h => ?_, fun h => ⟨_, ?_, _, _, _, _, _, rfl, rfl, q1, q2, q3, by omega, by omega, by omega, q5⟩⟩
  · obtain ⟨e1, e2⟩ := TB_end q5 q3 q4 (fun i h z => by have := z.1; have := z.2.2.1; omega)
    exact ⟨fun h1 => ⟨fun h2 => hG _ _ q1 (gd_y q2 ⟨_, _, _, e1, e2, toldW_2 (by omega)⟩), fun h2 => hG _ _ q1 (gd_y q2 ⟨_, _, _, e1, e2, toldW_1 h2⟩)⟩, fun h1 => hG _ _ q1 (gd_y q2 ⟨_, _, _, e1, e2, toldW_0 h1⟩)⟩
  · omega
theorem l_Mo_abel_24 (a1 : Int) (σ0 : SS) (K : AV → SS → Prop) (ha1 : InR a1) (hs0 : okS σ0) (hG : S_Mo_abel [vR 12 0, vI a1] σ0 K) (v2 : Int) (v3 : Int) (v4 : Int) (v5 : Int) (v6 : Int) (σ : SS) (hv2 : InR v2) (hv3 : InR v3) (hv4 : InR v4) (hv5 : InR v5) (hv6 : InR v6) (hs : okS σ) (n : Nat) (hn : n = (((σ0 40 0 0) + 1 - v5) * 1000 - v6 - 1).toNat) (hQ : (Fr MoF σ0 σ) ∧ (0 ≤ a1 ∧ a1 ≤ 2) ∧ (1 ≤ v5) ∧ (2 * v5 ≤ (σ0 40 0 0)) ∧ (0 ≤ v6) ∧ (v6 + 2 * v5 ≤ (σ0 40 0 0) + 1) ∧ (TB 2 (abelP (mW σ0) (σ0 40 0 0)) (σ0 40 0 0) v5 v6 v2 v3 v4)) : VL_Mo_abel_24 a1 σ0 K v2 v3 v4 v5 v6 σ n := by
  unfold VL_Mo_abel_24
  obtain ⟨hM, hG⟩ := hG
  have hb := hM.n
  obtain ⟨q1, q2, q3, q4, q5, q6, q7⟩ := hQ
  obtain ⟨w1, w2⟩ := moF q1
  have hin := TB_in q7 hb.1 hb.2 (by omega) (by omega)
  refine ⟨by omega, by omega, ?_⟩
  intro _ _
  refine ⟨fun h => ⟨by omega, _, ?_, _, _, _, _, rfl, rfl, q1, q2, by omega, by omega, TB_row q7 q3 q5 (by omega) (fun x g1 z => by have := z.2.2.1; omega) (fun i h z => z.1)⟩, fun h => ⟨⟨moM hM q1, by omega, by omega, by omega⟩, fun σ2 hF2 => ?_⟩⟩
  · omega
  · rw [w1, w2]
    have q1' := Fr_trans q1 hF2
    refine bS_b1 (fun hp _ => ?_) (fun hp _ => ⟨by omega, _, ?_, _, _, _, _, _, rfl, rfl, q1', q2, q3, q4, by omega, by omega, TB_no q7 q5 hp⟩)
    · have hn2 := TB_new (Or.inr rfl) q7 q5 q3 hp
      refine ⟨by omega, by omega, fun h2 => ⟨by omega, by omega, _, ?_, _, _, _, _, _, rfl, rfl, q1', q2, q3, q4, by omega, by omega, ?_⟩, fun h2 => ⟨by omega, _, ?_, _, _, _, _, _, rfl, rfl, q1', q2, q3, q4, by omega, by omega, ?_⟩⟩
      · omega
      · rwa [if_neg h2] at hn2
      · omega
      · rw [if_pos h2] at hn2
        rw [← h2]; exact hn2
    · omega
theorem e_Mo_abel (a1 : Int) (σ : SS) (K : AV → SS → Prop) (ha1 : InR a1) (hs : okS σ) (hG : S_Mo_abel [vR 12 0, vI a1] σ K) : VE_Mo_abel a1 σ K := by
  unfold VE_Mo_abel
  obtain ⟨hM, hG⟩ := hG
  have hb := hM.n
  exact bS_b1 (fun hp _ => ⟨_, _, _, _, _, rfl, rfl, Fr_refl, hp, by omega, by omega, TB_0 (fun i h z => ⟨z.1, z.2.1⟩)⟩) (fun hp _ => hG _ _ Fr_refl (gd_n hp))
theorem H_Mo_abel {d : Nat} (hd : 3 ≤ d) : Holds d I_Mo_abel S_Mo_abel := by
  refine holds_of (d' := d - 1) (rt := 1) (cal := [(I_Mo_in, S_Mo_in), (I_Mo_size, S_Mo_size), (I_Mo_isAbel, S_Mo_isAbel)]) (C := C_Mo_abel) m_Mo_abel o_Mo_abel rfl rfl (by omega) ?_ ?_
  · intro x hx
    simp only [List.mem_cons, List.not_mem_nil, or_false] at hx
    rcases hx with rfl | rfl | rfl
    · exact H_Mo_in (by omega)
    · exact H_Mo_size (by omega)
    · exact H_Mo_isAbel (by omega)
  · intro as σ K has hσ hG
    have hG2 := hG
    unfold S_Mo_abel at hG2
    split at hG2
    · next a1 =>
      refine ⟨Nat.le_of_ble_eq_true rfl, (Iv_Mo_abel a1 σ), ?_, 1000, ?_⟩
      · intro k n z L σ' hk hL hs hP
        unfold Iv_Mo_abel at hk
        split at hk
        · cases hk
          obtain ⟨v2, v3, v4, v5, rfl, hn, hQ⟩ := hP
          exact ⟨1000, l_Mo_abel_16 a1 σ K (has _ (List.mem_of_getElem? (i := 1) rfl)) hσ hG v2 v3 v4 v5 σ' (hL _ (List.mem_of_getElem? (i := 2) rfl)) (hL _ (List.mem_of_getElem? (i := 3) rfl)) (hL _ (List.mem_of_getElem? (i := 4) rfl)) (hL _ (List.mem_of_getElem? (i := 5) rfl)) hs n hn hQ⟩
        · cases hk
          obtain ⟨v2, v3, v4, v5, v6, rfl, hn, hQ⟩ := hP
          exact ⟨1000, l_Mo_abel_24 a1 σ K (has _ (List.mem_of_getElem? (i := 1) rfl)) hσ hG v2 v3 v4 v5 v6 σ' (hL _ (List.mem_of_getElem? (i := 2) rfl)) (hL _ (List.mem_of_getElem? (i := 3) rfl)) (hL _ (List.mem_of_getElem? (i := 4) rfl)) (hL _ (List.mem_of_getElem? (i := 5) rfl)) (hL _ (List.mem_of_getElem? (i := 6) rfl)) hs n hn hQ⟩
        · cases hk
      · exact e_Mo_abel a1 σ K (has _ (List.mem_of_getElem? (i := 1) rfl)) hσ hG
    · exact hG2.elim
