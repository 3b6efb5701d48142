theorem least_ex {P : Int → Prop} (h0 : ∀ x, P x → 0 ≤ x) (h : ∃ x, P x) : ∃ x, P x ∧ ∀ y, y < x → ¬ P y := by
  obtain ⟨x, hx⟩ := h
  have key : ∀ k : Nat, ∀ x, P x → x ≤ k → ∃ x, P x ∧ ∀ y, y < x → ¬ P y := by
    intro k
    induction k with
    | zero => exact fun x hx hk => ⟨x, hx, fun y hy hp => by have := h0 y hp; omega⟩
    | succ k ih =>
      intro x hx hk
      by_cases g : ∃ y, y < x ∧ P y
      · obtain ⟨y, g1, g2⟩ := g
        exact ih y g2 (by omega)
      · exact ⟨x, hx, fun y hy hp => g ⟨y, hy, hp⟩⟩
  exact key x.toNat x hx (by omega)
theorem TL_ex {c n : Int} {P : Int → Int → Prop} (hc : c = 1 ∨ c = 2) (hP : ∀ i h, P i h → 0 ≤ i ∧ 1 ≤ h ∧ h ≤ n) : ∃ l f, TL c P l f := by
  have key : ∀ k : Nat, ∀ Q : Int → Int → Prop, (∀ i h, Q i h → 0 ≤ i ∧ 1 ≤ h ∧ h ≤ k) → ∃ l f, TL c Q l f := by
    intro k
    induction k with
    | zero => exact fun Q hQ => ⟨0, -2, TL_none (fun i h z => by have := hQ i h z; omega)⟩
    | succ k ih =>
      intro Q hQ
      by_cases g : ∃ i, Q i (k + 1)
      · obtain ⟨i, g1, g2⟩ := least_ex (fun i z => (hQ i _ z).1) g
        exact ⟨_, i, TL_top hc (fun j h z => by
          have h1 := hQ j h z
          rcases (by omega : h < (k : Int) + 1 ∨ h = (k : Int) + 1) with y | y
          · exact Or.inl y
          · subst y
            refine Or.inr ⟨rfl, ?_⟩
            rcases (by omega : i ≤ j ∨ j < i) with y | y
            · exact y
            · exact absurd z (g2 j y)) (by omega) g1⟩
      · exact ih Q (fun i h z => by
          have h1 := hQ i h z
          rcases (by omega : h ≤ (k : Int) ∨ h = (k : Int) + 1) with y | y
          · exact ⟨h1.1, h1.2.1, y⟩
          · subst y; exact absurd ⟨i, z⟩ g)
  exact key n.toNat P (fun i h z => by have := hP i h z; omega)
def S_Mo_isSquare : GS := fun as σ K => match as with
  | [some (.inr (.inr (12, 0))), some (.inl a1), some (.inl a2)] => (MoW σ ∧ 0 ≤ a1 ∧ 1 ≤ a2 ∧ a1 ≤ 120 ∧ a2 ≤ 120) ∧ bS (sqP (mW σ) (σ 40 0 0) a1 a2) K σ
  | _ => False
def VE_Mo_isSquare (a1 : Int) (a2 : Int) (σ : SS) (K : AV → SS → Prop) : Prop :=
  (InR (2 * a2) ∧
  (InR (a1 + (2 * a2)) ∧
  (S_Mo_size [vR 12 0] σ (kI fun r1 σ1 =>
    ((r1 < (a1 + (2 * a2)) →
      ((0 ≤ (0 : Int) ∧ (0 : Int) ≤ 1) ∧ K (vI 0) σ1)) ∧
    ((a1 + (2 * a2)) ≤ r1 →
      (InR (a1 + a2) ∧
      (S_Mo_areAlike [vR 12 0, vI a1, vI (a1 + a2), vI a2] σ1 (kI fun r2 σ2 =>
        ((r2 = 0 →
          ((0 ≤ (0 : Int) ∧ (0 : Int) ≤ 1) ∧ K (vI 0) σ2)) ∧
        (r2 ≠ 0 →
          ((0 ≤ (1 : Int) ∧ (1 : Int) ≤ 1) ∧ K (vI 1) σ2))))))))))))
theorem e_Mo_isSquare (a1 : Int) (a2 : Int) (σ : SS) (K : AV → SS → Prop) (ha1 : InR a1) (ha2 : InR a2) (hs : okS σ) (hG : S_Mo_isSquare [vR 12 0, vI a1, vI a2] σ K) : VE_Mo_isSquare a1 a2 σ K := by
  unfold VE_Mo_isSquare
  obtain ⟨⟨hM, h1⟩, hG⟩ := hG
  have hb := hM.n
  refine ⟨by omega, by omega, ?_⟩
  intro _ _
  refine ⟨fun h => bS_n hG (fun z => by have := z.2.2.1; omega), fun h => ⟨by omega, ⟨by omega, by omega, by omega, by omega, by omega, by omega⟩, bS_b0 (fun hp _ => bS_y hG ⟨by omega, by omega, by omega, hp⟩) (fun hp _ => bS_n hG (fun z => hp z.2.2.2))⟩⟩
theorem H_Mo_isSquare {d : Nat} (hd : 4 ≤ d) : Holds d I_Mo_isSquare S_Mo_isSquare := by
  refine holds_of (d' := d - 1) (rt := 2) (cal := [(I_Mo_size, S_Mo_size), (I_Mo_areAlike, S_Mo_areAlike)]) (C := C_Mo_isSquare) m_Mo_isSquare o_Mo_isSquare rfl rfl (by omega) ?_ ?_
  · intro x hx
    simp only [List.mem_cons, List.not_mem_nil, or_false] at hx
    rcases hx with rfl | rfl
    · exact H_Mo_size (by omega)
    · exact H_Mo_areAlike (by omega)
  · intro as σ K has hσ hG
    have hG2 := hG
    unfold S_Mo_isSquare at hG2
    split at hG2
    · next a1 a2 =>
      refine ⟨Nat.le_of_ble_eq_true rfl, (fun _ => none), ?_, 1000, ?_⟩
      · intro k n z L σ' hk hL hs hP
        cases hk
      · exact e_Mo_isSquare a1 a2 σ K (has _ (List.mem_of_getElem? (i := 1) rfl)) (has _ (List.mem_of_getElem? (i := 2) rfl)) hσ hG
    · exact hG2.elim
def S_Mo_isCube : GS := fun as σ K => match as with
  | [some (.inr (.inr (12, 0))), some (.inl a1), some (.inl a2)] => (MoW σ ∧ 0 ≤ a1 ∧ 1 ≤ a2 ∧ a1 ≤ 120 ∧ a2 ≤ 120) ∧ bS (cuP (mW σ) (σ 40 0 0) a1 a2) K σ
  | _ => False
def VE_Mo_isCube (a1 : Int) (a2 : Int) (σ : SS) (K : AV → SS → Prop) : Prop :=
  (InR (3 * a2) ∧
  (InR (a1 + (3 * a2)) ∧
  (S_Mo_size [vR 12 0] σ (kI fun r1 σ1 =>
    ((r1 < (a1 + (3 * a2)) →
      ((0 ≤ (0 : Int) ∧ (0 : Int) ≤ 1) ∧ K (vI 0) σ1)) ∧
    ((a1 + (3 * a2)) ≤ r1 →
      (InR (a1 + a2) ∧
      (InR (2 * a2) ∧
      (S_Mo_areAlike [vR 12 0, vI a1, vI (a1 + a2), vI (2 * a2)] σ1 (kI fun r2 σ2 =>
        ((r2 = 0 →
          ((0 ≤ (0 : Int) ∧ (0 : Int) ≤ 1) ∧ K (vI 0) σ2)) ∧
        (r2 ≠ 0 →
          ((0 ≤ (1 : Int) ∧ (1 : Int) ≤ 1) ∧ K (vI 1) σ2)))))))))))))
theorem e_Mo_isCube (a1 : Int) (a2 : Int) (σ : SS) (K : AV → SS → Prop) (ha1 : InR a1) (ha2 : InR a2) (hs : okS σ) (hG : S_Mo_isCube [vR 12 0, vI a1, vI a2] σ K) : VE_Mo_isCube a1 a2 σ K := by
  unfold VE_Mo_isCube
  obtain ⟨⟨hM, h1⟩, hG⟩ := hG
  have hb := hM.n
  refine ⟨by omega, by omega, ?_⟩
  intro _ _
  refine ⟨fun h => bS_n hG (fun z => by have := z.2.2.1; omega), fun h => ⟨by omega, by omega, ⟨by omega, by omega, by omega, by omega, by omega, by omega⟩, bS_b0 (fun hp _ => bS_y hG ⟨by omega, by omega, by omega, hp⟩) (fun hp _ => bS_n hG (fun z => hp z.2.2.2))⟩⟩
theorem H_Mo_isCube {d : Nat} (hd : 4 ≤ d) : Holds d I_Mo_isCube S_Mo_isCube := by
  refine holds_of (d' := d - 1) (rt := 2) (cal := [(I_Mo_size, S_Mo_size), (I_Mo_areAlike, S_Mo_areAlike)]) (C := C_Mo_isCube) m_Mo_isCube o_Mo_isCube rfl rfl (by omega) ?_ ?_
  · intro x hx
    simp only [List.mem_cons, List.not_mem_nil, or_false] at hx
    rcases hx with rfl | rfl
    · exact H_Mo_size (by omega)
    · exact H_Mo_areAlike (by omega)
  · intro as σ K has hσ hG
    have hG2 := hG
    unfold S_Mo_isCube at hG2
    split at hG2
    · next a1 a2 =>
      refine ⟨Nat.le_of_ble_eq_true rfl, (fun _ => none), ?_, 1000, ?_⟩
      · intro k n z L σ' hk hL hs hP
        cases hk
      · exact e_Mo_isCube a1 a2 σ K (has _ (List.mem_of_getElem? (i := 1) rfl)) (has _ (List.mem_of_getElem? (i := 2) rfl)) hσ hG
    · exact hG2.elim
noncomputable def csP (w : Int → Int) (n a i h : Int) : Prop := sqP w n i h ∧ (0 < a → ¬ isE w i (2 * h)) ∧ (2 ≤ a → leastIs (isRt w i (i + h)) 1 h)
theorem cs0 {w : Int → Int} {n : Int} : dsum (csP w n 0) n = dsum (sqP w n) n := by
  have : csP w n 0 = sqP w n := by
    funext i h
    exact propext ⟨fun z => z.1, fun z => ⟨z, fun h => absurd h (by omega), fun h => absurd h (by omega)⟩⟩
  rw [this]
theorem cs1 {w : Int → Int} {n : Int} : dsum (csP w n 1) n = dsum (nuP w n) n := by
  have : csP w n 1 = nuP w n := by
    funext i h
    exact propext ⟨fun z => ⟨z.1, z.2.1 (by omega)⟩, fun z => ⟨z.1, fun _ => z.2, fun h => absurd h (by omega)⟩⟩
  rw [this]
theorem cs2 {w : Int → Int} {n : Int} : dsum (csP w n 2) n = dsum (rtP w n) n := by
  have : csP w n 2 = rtP w n := by
    funext i h
    exact propext ⟨fun z => ⟨⟨z.1, z.2.1 (by omega)⟩, z.2.2 (by omega)⟩, fun z => ⟨z.1.1, fun _ => z.1.2, fun _ => z.2⟩⟩
  rw [this]
def S_Mo_countedSquares : GS := fun as σ K => match as with
  | [some (.inr (.inr (12, 0))), some (.inl a1)] => (MoW σ ∧ 0 ≤ a1 ∧ a1 ≤ 2) ∧ K (vI (dsum (csP (mW σ) (σ 40 0 0) a1) (σ 40 0 0))) σ
  | _ => False
abbrev Lp_Mo_countedSquares_4 (a1 : Int) (σ0 : SS) (n : Nat) (L : List AV) (σ : SS) : Prop := ∃ (v2 : Int) (v3 : Int), L = [vR 12 0, vI a1, vI v2, vI v3, none] ∧ n = (((σ0 40 0 0) + 1 - v3) * 1000).toNat ∧ ((σ = σ0) ∧ (1 ≤ v3) ∧ (v3 ≤ (σ0 40 0 0) + 1) ∧ (v2 = cbS (csP (mW σ0) (σ0 40 0 0) a1) (σ0 40 0 0) v3 0))
abbrev Lp_Mo_countedSquares_12 (a1 : Int) (σ0 : SS) (n : Nat) (L : List AV) (σ : SS) : Prop := ∃ (v2 : Int) (v3 : Int) (v4 : Int), L = [vR 12 0, vI a1, vI v2, vI v3, vI v4] ∧ n = (((σ0 40 0 0) + 1 - v3) * 1000 - v4 - 1).toNat ∧ ((σ = σ0) ∧ (1 ≤ v3) ∧ (2 * v3 ≤ (σ0 40 0 0)) ∧ (0 ≤ v4) ∧ (v4 + 2 * v3 ≤ (σ0 40 0 0) + 1) ∧ (v2 = cbS (csP (mW σ0) (σ0 40 0 0) a1) (σ0 40 0 0) v3 v4))
def Iv_Mo_countedSquares (a1 : Int) (σ0 : SS) (k : Nat) : Option (List Nat × (Nat → List AV → SS → Prop)) := match k with
  | 4 => some ([4], Lp_Mo_countedSquares_4 a1 σ0)
  | 12 => some ([], Lp_Mo_countedSquares_12 a1 σ0)
  | _ => none
def VE_Mo_countedSquares (a1 : Int) (σ : SS) (K : AV → SS → Prop) : Prop :=
  (∃ n', Lp_Mo_countedSquares_4 a1 σ n' [vR 12 0, vI a1, vI 0, vI 1, none] σ)
def VL_Mo_countedSquares_4 (a1 : Int) (σ0 : SS) (K : AV → SS → Prop) (v2 : Int) (v3 : Int) (σ : SS) (n : Nat) : Prop :=
  (InR (2 * v3) ∧
  (S_Mo_size [vR 12 0] σ (kI fun r1 σ1 =>
    ((r1 < (2 * v3) →
      (K (vI v2) σ1)) ∧
    ((2 * v3) ≤ r1 →
      (∃ n', n' < n ∧ Lp_Mo_countedSquares_12 a1 σ0 n' [vR 12 0, vI a1, vI v2, vI v3, vI 0] σ1))))))
def VL_Mo_countedSquares_12 (a1 : Int) (σ0 : SS) (K : AV → SS → Prop) (v2 : Int) (v3 : Int) (v4 : Int) (σ : SS) (n : Nat) : Prop :=
  (InR (2 * v3) ∧
  (InR (v4 + (2 * v3)) ∧
  (S_Mo_size [vR 12 0] σ (kI fun r1 σ1 =>
    ((r1 < (v4 + (2 * v3)) →
      (InR (v3 + 1) ∧
      (∃ n', n' < n ∧ Lp_Mo_countedSquares_4 a1 σ0 n' [vR 12 0, vI a1, vI v2, vI (v3 + 1), none] σ1))) ∧
    ((v4 + (2 * v3)) ≤ r1 →
      (S_Mo_isSquare [vR 12 0, vI v4, vI v3] σ1 (kI fun r2 σ2 =>
        ((r2 = 0 →
          (InR (v4 + 1) ∧
          (∃ n', n' < n ∧ Lp_Mo_countedSquares_12 a1 σ0 n' [vR 12 0, vI a1, vI v2, vI v3, vI (v4 + 1)] σ2))) ∧
        (r2 ≠ 0 →
          ((a1 ≤ 0 →
            ((a1 < 2 →
              (InR (v2 + 1) ∧
              (InR (v4 + 1) ∧
              (∃ n', n' < n ∧ Lp_Mo_countedSquares_12 a1 σ0 n' [vR 12 0, vI a1, vI (v2 + 1), vI v3, vI (v4 + 1)] σ2)))) ∧
            ((2 : Int) ≤ a1 →
              (InR (v4 + v3) ∧
              (S_Mo_rootOf [vR 12 0, vI v4, vI (v4 + v3)] σ2 (kI fun r3 σ3 =>
                ((r3 ≠ v3 →
                  (InR (v2 + 0) ∧
                  (InR (v4 + 1) ∧
                  (∃ n', n' < n ∧ Lp_Mo_countedSquares_12 a1 σ0 n' [vR 12 0, vI a1, vI (v2 + 0), vI v3, vI (v4 + 1)] σ3)))) ∧
                (r3 = v3 →
                  (InR (v2 + 1) ∧
                  (InR (v4 + 1) ∧
                  (∃ n', n' < n ∧ Lp_Mo_countedSquares_12 a1 σ0 n' [vR 12 0, vI a1, vI (v2 + 1), vI v3, vI (v4 + 1)] σ3))))))))))) ∧
          ((0 : Int) < a1 →
            (InR (2 * v3) ∧
            (S_Mo_isEarlier [vR 12 0, vI v4, vI (2 * v3)] σ2 (kI fun r4 σ4 =>
              ((r4 = 0 →
                ((a1 < 2 →
                  (InR (v2 + 1) ∧
                  (InR (v4 + 1) ∧
                  (∃ n', n' < n ∧ Lp_Mo_countedSquares_12 a1 σ0 n' [vR 12 0, vI a1, vI (v2 + 1), vI v3, vI (v4 + 1)] σ4)))) ∧
                ((2 : Int) ≤ a1 →
                  (InR (v4 + v3) ∧
                  (S_Mo_rootOf [vR 12 0, vI v4, vI (v4 + v3)] σ4 (kI fun r5 σ5 =>
                    ((r5 ≠ v3 →
                      (InR (v2 + 0) ∧
                      (InR (v4 + 1) ∧
                      (∃ n', n' < n ∧ Lp_Mo_countedSquares_12 a1 σ0 n' [vR 12 0, vI a1, vI (v2 + 0), vI v3, vI (v4 + 1)] σ5)))) ∧
                    (r5 = v3 →
                      (InR (v2 + 1) ∧
                      (InR (v4 + 1) ∧
                      (∃ n', n' < n ∧ Lp_Mo_countedSquares_12 a1 σ0 n' [vR 12 0, vI a1, vI (v2 + 1), vI v3, vI (v4 + 1)] σ5))))))))))) ∧
              (r4 ≠ 0 →
                (InR (v4 + 1) ∧
                (∃ n', n' < n ∧ Lp_Mo_countedSquares_12 a1 σ0 n' [vR 12 0, vI a1, vI v2, vI v3, vI (v4 + 1)] σ4)))))))))))))))))))
theorem l_Mo_countedSquares_4 (a1 : Int) (σ0 : SS) (K : AV → SS → Prop) (ha1 : InR a1) (hs0 : okS σ0) (hG : S_Mo_countedSquares [vR 12 0, vI a1] σ0 K) (v2 : Int) (v3 : Int) (σ : SS) (hv2 : InR v2) (hv3 : InR v3) (hs : okS σ) (n : Nat) (hn : n = (((σ0 40 0 0) + 1 - v3) * 1000).toNat) (hQ : (σ = σ0) ∧ (1 ≤ v3) ∧ (v3 ≤ (σ0 40 0 0) + 1) ∧ (v2 = cbS (csP (mW σ0) (σ0 40 0 0) a1) (σ0 40 0 0) v3 0)) : VL_Mo_countedSquares_4 a1 σ0 K v2 v3 σ n := by
  unfold VL_Mo_countedSquares_4
  obtain ⟨⟨hM, h1⟩, hG⟩ := hG
  have hb := hM.n
  obtain ⟨rfl, q1, q2, q3⟩ := hQ
  refine ⟨by omega, ?_⟩
  intro _ _
  refine ⟨fun h => ?_, fun h => ⟨_, ?_, _, _, _, rfl, rfl, rfl, q1, by omega, by omega, by omega, q3⟩⟩
  · rw [CB_end q3 q1 q2 (fun i h z => by have := z.1.2.2.1; have := z.1.1; omega)]
    exact hG
  · omega
theorem l_Mo_countedSquares_12 (a1 : Int) (σ0 : SS) (K : AV → SS → Prop) (ha1 : InR a1) (hs0 : okS σ0) (hG : S_Mo_countedSquares [vR 12 0, vI a1] σ0 K) (v2 : Int) (v3 : Int) (v4 : Int) (σ : SS) (hv2 : InR v2) (hv3 : InR v3) (hv4 : InR v4) (hs : okS σ) (n : Nat) (hn : n = (((σ0 40 0 0) + 1 - v3) * 1000 - v4 - 1).toNat) (hQ : (σ = σ0) ∧ (1 ≤ v3) ∧ (2 * v3 ≤ (σ0 40 0 0)) ∧ (0 ≤ v4) ∧ (v4 + 2 * v3 ≤ (σ0 40 0 0) + 1) ∧ (v2 = cbS (csP (mW σ0) (σ0 40 0 0) a1) (σ0 40 0 0) v3 v4)) : VL_Mo_countedSquares_12 a1 σ0 K v2 v3 v4 σ n := by
  unfold VL_Mo_countedSquares_12
  obtain ⟨⟨hM, h1⟩, hG⟩ := hG
  have hb := hM.n
  obtain ⟨rfl, q1, q2, q3, q4, q5⟩ := hQ
  have hin := CB_in q5 hb.1 hb.2 (by omega) (by omega)
  have no : ¬ csP (mW σ) (σ 40 0 0) a1 v4 v3 → v2 = cbS (csP (mW σ) (σ 40 0 0) a1) (σ 40 0 0) v3 (v4 + 1) := CB_no q5 q3
  have yes : csP (mW σ) (σ 40 0 0) a1 v4 v3 → v2 + 1 = cbS (csP (mW σ) (σ 40 0 0) a1) (σ 40 0 0) v3 (v4 + 1) := CB_yes q5 q3
  refine ⟨by omega, by omega, ?_⟩
  intro _ _
  refine ⟨fun h => ⟨by omega, _, ?_, _, _, rfl, rfl, rfl, by omega, by omega, CB_row q5 q1 q3 (by omega) (fun x g1 z => by have := z.1.2.2.1; omega)⟩, fun h => ⟨⟨hM, by omega, by omega, by omega, by omega⟩, bS_b0 (fun hp _ => ⟨fun g1 => ⟨fun g2 => ⟨by omega, by omega, _, ?_, _, _, _, rfl, rfl, rfl, q1, q2, by omega, by omega, yes ⟨hp, by omega, by omega⟩⟩, fun g2 => by omega⟩, fun g1 => ⟨by omega, ⟨hM, by omega, by omega, by omega⟩, bS_b0 (fun hp2 _ => ⟨by omega, _, ?_, _, _, _, rfl, rfl, rfl, q1, q2, by omega, by omega, no (fun z => z.2.1 g1 hp2)⟩) (fun hp2 _ => ⟨fun g2 => ⟨by omega, by omega, _, ?_, _, _, _, rfl, rfl, rfl, q1, q2, by omega, by omega, yes ⟨hp, fun _ => hp2, by omega⟩⟩, fun g2 => ⟨by omega, ⟨hM, by omega, by omega, by omega⟩, fun r hr1 hr2 => ?_⟩⟩)⟩⟩) (fun hp _ => ⟨by omega, _, ?_, _, _, _, rfl, rfl, rfl, q1, q2, by omega, by omega, no (fun z => hp z.1)⟩)⟩⟩
  · omega
  · omega
  · omega
  · omega
  · intro _ _
    refine ⟨fun h3 => ⟨by omega, by omega, _, ?_, _, _, _, rfl, rfl, rfl, q1, q2, by omega, by omega, ?_⟩, fun h3 => ⟨by omega, by omega, _, ?_, _, _, _, rfl, rfl, rfl, q1, q2, by omega, by omega, yes ⟨hp, fun _ => hp2, fun _ => h3 ▸ hr2⟩⟩⟩
    · omega
    · rw [Int.add_zero]; exact no (fun z => h3 (leastIs_uniq hr2 (z.2.2 g2)))
    · omega
  · omega
theorem e_Mo_countedSquares (a1 : Int) (σ : SS) (K : AV → SS → Prop) (ha1 : InR a1) (hs : okS σ) (hG : S_Mo_countedSquares [vR 12 0, vI a1] σ K) : VE_Mo_countedSquares a1 σ K := by
  unfold VE_Mo_countedSquares
  obtain ⟨⟨hM, h1⟩, hG⟩ := hG
  have hb := hM.n
  exact ⟨_, _, _, rfl, rfl, rfl, by omega, by omega, CB_0.symm⟩
theorem H_Mo_countedSquares {d : Nat} (hd : 6 ≤ d) : Holds d I_Mo_countedSquares S_Mo_countedSquares := by
  refine holds_of (d' := d - 1) (rt := 1) (cal := [(I_Mo_size, S_Mo_size), (I_Mo_isSquare, S_Mo_isSquare), (I_Mo_isEarlier, S_Mo_isEarlier), (I_Mo_rootOf, S_Mo_rootOf)]) (C := C_Mo_countedSquares) m_Mo_countedSquares o_Mo_countedSquares rfl rfl (by omega) ?_ ?_
  · intro x hx
    simp only [List.mem_cons, List.not_mem_nil, or_false] at hx
    rcases hx with rfl | rfl | rfl | rfl
    · exact H_Mo_size (by omega)
    · exact H_Mo_isSquare (by omega)
    · exact H_Mo_isEarlier (by omega)
    · exact H_Mo_rootOf (by omega)
  · intro as σ K has hσ hG
    have hG2 := hG
    unfold S_Mo_countedSquares at hG2
    split at hG2
    · next a1 =>
      refine ⟨Nat.le_of_ble_eq_true rfl, (Iv_Mo_countedSquares a1 σ), ?_, 1000, ?_⟩
      · intro k n z L σ' hk hL hs hP
        unfold Iv_Mo_countedSquares at hk
        split at hk
        · cases hk
          obtain ⟨v2, v3, rfl, hn, hQ⟩ := hP
          exact ⟨1000, l_Mo_countedSquares_4 a1 σ K (has _ (List.mem_of_getElem? (i := 1) rfl)) hσ hG v2 v3 σ' (hL _ (List.mem_of_getElem? (i := 2) rfl)) (hL _ (List.mem_of_getElem? (i := 3) rfl)) hs n hn hQ⟩
        · cases hk
          obtain ⟨v2, v3, v4, rfl, hn, hQ⟩ := hP
          exact ⟨1000, l_Mo_countedSquares_12 a1 σ K (has _ (List.mem_of_getElem? (i := 1) rfl)) hσ hG v2 v3 v4 σ' (hL _ (List.mem_of_getElem? (i := 2) rfl)) (hL _ (List.mem_of_getElem? (i := 3) rfl)) (hL _ (List.mem_of_getElem? (i := 4) rfl)) hs n hn hQ⟩
        · cases hk
      · exact e_Mo_countedSquares a1 σ K (has _ (List.mem_of_getElem? (i := 1) rfl)) hσ hG
    · exact hG2.elim
def S_Mo_cubes : GS := fun as σ K => match as with
  | [some (.inr (.inr (12, 0)))] => MoW σ ∧ K (vI (dsum (cuP (mW σ) (σ 40 0 0)) (σ 40 0 0))) σ
  | _ => False
abbrev Lp_Mo_cubes_4 (σ0 : SS) (n : Nat) (L : List AV) (σ : SS) : Prop := ∃ (v1 : Int) (v2 : Int), L = [vR 12 0, vI v1, vI v2, none] ∧ n = (((σ0 40 0 0) + 1 - v2) * 1000).toNat ∧ ((σ = σ0) ∧ (1 ≤ v2) ∧ (v2 ≤ (σ0 40 0 0) + 1) ∧ (v1 = cbS (cuP (mW σ0) (σ0 40 0 0)) (σ0 40 0 0) v2 0))
abbrev Lp_Mo_cubes_12 (σ0 : SS) (n : Nat) (L : List AV) (σ : SS) : Prop := ∃ (v1 : Int) (v2 : Int) (v3 : Int), L = [vR 12 0, vI v1, vI v2, vI v3] ∧ n = (((σ0 40 0 0) + 1 - v2) * 1000 - v3 - 1).toNat ∧ ((σ = σ0) ∧ (1 ≤ v2) ∧ (v2 ≤ (σ0 40 0 0)) ∧ (0 ≤ v3) ∧ (v3 ≤ (σ0 40 0 0)) ∧ (v1 = cbS (cuP (mW σ0) (σ0 40 0 0)) (σ0 40 0 0) v2 v3))
def Iv_Mo_cubes (σ0 : SS) (k : Nat) : Option (List Nat × (Nat → List AV → SS → Prop)) := match k with
  | 4 => some ([3], Lp_Mo_cubes_4 σ0)
  | 12 => some ([], Lp_Mo_cubes_12 σ0)
  | _ => none
def VE_Mo_cubes (σ : SS) (K : AV → SS → Prop) : Prop :=
  (∃ n', Lp_Mo_cubes_4 σ n' [vR 12 0, vI 0, vI 1, none] σ)
def VL_Mo_cubes_4 (σ0 : SS) (K : AV → SS → Prop) (v1 : Int) (v2 : Int) (σ : SS) (n : Nat) : Prop :=
  (InR (3 * v2) ∧
  (S_Mo_size [vR 12 0] σ (kI fun r1 σ1 =>
    ((r1 < (3 * v2) →
      (K (vI v1) σ1)) ∧
    ((3 * v2) ≤ r1 →
      (∃ n', n' < n ∧ Lp_Mo_cubes_12 σ0 n' [vR 12 0, vI v1, vI v2, vI 0] σ1))))))
def VL_Mo_cubes_12 (σ0 : SS) (K : AV → SS → Prop) (v1 : Int) (v2 : Int) (v3 : Int) (σ : SS) (n : Nat) : Prop :=
  (S_Mo_size [vR 12 0] σ (kI fun r1 σ1 =>
    ((r1 ≤ v3 →
      (InR (v2 + 1) ∧
      (∃ n', n' < n ∧ Lp_Mo_cubes_4 σ0 n' [vR 12 0, vI v1, vI (v2 + 1), none] σ1))) ∧
    (v3 < r1 →
      (S_Mo_isCube [vR 12 0, vI v3, vI v2] σ1 (kI fun r2 σ2 =>
        ((r2 = 0 →
          (InR (v1 + 0) ∧
          (InR (v3 + 1) ∧
          (∃ n', n' < n ∧ Lp_Mo_cubes_12 σ0 n' [vR 12 0, vI (v1 + 0), vI v2, vI (v3 + 1)] σ2)))) ∧
        (r2 ≠ 0 →
          (InR (v1 + 1) ∧
          (InR (v3 + 1) ∧
          (∃ n', n' < n ∧ Lp_Mo_cubes_12 σ0 n' [vR 12 0, vI (v1 + 1), vI v2, vI (v3 + 1)] σ2)))))))))))
theorem l_Mo_cubes_4 (σ0 : SS) (K : AV → SS → Prop) (hs0 : okS σ0) (hG : S_Mo_cubes [vR 12 0] σ0 K) (v1 : Int) (v2 : Int) (σ : SS) (hv1 : InR v1) (hv2 : InR v2) (hs : okS σ) (n : Nat) (hn : n = (((σ0 40 0 0) + 1 - v2) * 1000).toNat) (hQ : (σ = σ0) ∧ (1 ≤ v2) ∧ (v2 ≤ (σ0 40 0 0) + 1) ∧ (v1 = cbS (cuP (mW σ0) (σ0 40 0 0)) (σ0 40 0 0) v2 0)) : VL_Mo_cubes_4 σ0 K v1 v2 σ n := by
  unfold VL_Mo_cubes_4
  obtain ⟨hM, hG⟩ := hG
  have hb := hM.n
  obtain ⟨rfl, q1, q2, q3⟩ := hQ
  refine ⟨by omega, ?_⟩
  intro _ _
  refine ⟨fun h => ?_, fun h => ⟨_, ?_, _, _, _, rfl, rfl, rfl, q1, by omega, by omega, by omega, q3⟩⟩
  · rw [CB_end q3 q1 q2 (fun i h z => by have := z.2.2.1; have := z.1; omega)]
    exact hG
  · omega
theorem l_Mo_cubes_12 (σ0 : SS) (K : AV → SS → Prop) (hs0 : okS σ0) (hG : S_Mo_cubes [vR 12 0] σ0 K) (v1 : Int) (v2 : Int) (v3 : Int) (σ : SS) (hv1 : InR v1) (hv2 : InR v2) (hv3 : InR v3) (hs : okS σ) (n : Nat) (hn : n = (((σ0 40 0 0) + 1 - v2) * 1000 - v3 - 1).toNat) (hQ : (σ = σ0) ∧ (1 ≤ v2) ∧ (v2 ≤ (σ0 40 0 0)) ∧ (0 ≤ v3) ∧ (v3 ≤ (σ0 40 0 0)) ∧ (v1 = cbS (cuP (mW σ0) (σ0 40 0 0)) (σ0 40 0 0) v2 v3)) : VL_Mo_cubes_12 σ0 K v1 v2 v3 σ n := by
  unfold VL_Mo_cubes_12
  obtain ⟨hM, hG⟩ := hG
  have hb := hM.n
  obtain ⟨rfl, q1, q2, q3, q4, q5⟩ := hQ
  have hin := CB_in q5 hb.1 hb.2 (by omega) (by omega)
  intro _ _
  refine ⟨fun h => ⟨by omega, _, ?_, _, _, rfl, rfl, rfl, by omega, by omega, CB_row q5 q1 q3 (by omega) (fun x g1 z => by have := z.2.2.1; omega)⟩, fun h => ⟨⟨hM, by omega, by omega, by omega, by omega⟩, bS_b0 (fun hp _ => ⟨by omega, by omega, _, ?_, _, _, _, rfl, rfl, rfl, q1, q2, by omega, by omega, CB_yes q5 q3 hp⟩) (fun hp _ => ⟨by omega, by omega, _, ?_, _, _, _, rfl, rfl, rfl, q1, q2, by omega, by omega, ?_⟩)⟩⟩
  · omega
  · omega
  · omega
  · rw [Int.add_zero]; exact CB_no q5 q3 hp
theorem e_Mo_cubes (σ : SS) (K : AV → SS → Prop) (hs : okS σ) (hG : S_Mo_cubes [vR 12 0] σ K) : VE_Mo_cubes σ K := by
  unfold VE_Mo_cubes
  obtain ⟨hM, hG⟩ := hG
  have hb := hM.n
  exact ⟨_, _, _, rfl, rfl, rfl, by omega, by omega, CB_0.symm⟩
theorem H_Mo_cubes {d : Nat} (hd : 5 ≤ d) : Holds d I_Mo_cubes S_Mo_cubes := by
  refine holds_of (d' := d - 1) (rt := 1) (cal := [(I_Mo_size, S_Mo_size), (I_Mo_isCube, S_Mo_isCube)]) (C := C_Mo_cubes) m_Mo_cubes o_Mo_cubes rfl rfl (by omega) ?_ ?_
  · intro x hx
    simp only [List.mem_cons, List.not_mem_nil, or_false] at hx
    rcases hx with rfl | rfl
    · exact H_Mo_size (by omega)
    · exact H_Mo_isCube (by omega)
  · intro as σ K has hσ hG
    have hG2 := hG
    unfold S_Mo_cubes at hG2
    split at hG2
    · skip
      refine ⟨Nat.le_of_ble_eq_true rfl, (Iv_Mo_cubes σ), ?_, 1000, ?_⟩
      · intro k n z L σ' hk hL hs hP
        unfold Iv_Mo_cubes at hk
        split at hk
        · cases hk
          obtain ⟨v1, v2, rfl, hn, hQ⟩ := hP
          exact ⟨1000, l_Mo_cubes_4 σ K  hσ hG v1 v2 σ' (hL _ (List.mem_of_getElem? (i := 1) rfl)) (hL _ (List.mem_of_getElem? (i := 2) rfl)) hs n hn hQ⟩
        · cases hk
          obtain ⟨v1, v2, v3, rfl, hn, hQ⟩ := hP
          exact ⟨1000, l_Mo_cubes_12 σ K  hσ hG v1 v2 v3 σ' (hL _ (List.mem_of_getElem? (i := 1) rfl)) (hL _ (List.mem_of_getElem? (i := 2) rfl)) (hL _ (List.mem_of_getElem? (i := 3) rfl)) hs n hn hQ⟩
        · cases hk
      · exact e_Mo_cubes σ K  hσ hG
    · exact hG2.elim
def S_Mo_squares : GS := fun as σ K => match as with
  | [some (.inr (.inr (12, 0))), some (.inl a1)] => MoW σ ∧ ∀ r, RSq (mW σ) (σ 40 0 0) a1 r → K (vI r) σ
  | _ => False
abbrev Lp_Mo_squares_26 (a1 : Int) (σ0 : SS) (n : Nat) (L : List AV) (σ : SS) : Prop := ∃ (v2 : Int), L = [vR 12 0, vI a1, vI v2, none] ∧ n = (v2 * 1000).toNat ∧ ((σ = σ0) ∧ (4 ≤ a1 ∧ a1 ≤ 5) ∧ (0 ≤ v2) ∧ (2 * v2 ≤ (σ0 40 0 0)) ∧ (∀ i h, sqP (mW σ0) (σ0 40 0 0) i h → h ≤ v2))
abbrev Lp_Mo_squares_30 (a1 : Int) (σ0 : SS) (n : Nat) (L : List AV) (σ : SS) : Prop := ∃ (v2 : Int) (v3 : Int), L = [vR 12 0, vI a1, vI v2, vI v3] ∧ n = (v2 * 1000 - v3 - 1).toNat ∧ ((σ = σ0) ∧ (4 ≤ a1 ∧ a1 ≤ 5) ∧ (1 ≤ v2) ∧ (2 * v2 ≤ (σ0 40 0 0)) ∧ (0 ≤ v3) ∧ (v3 + 2 * v2 ≤ (σ0 40 0 0) + 1) ∧ (∀ i h, sqP (mW σ0) (σ0 40 0 0) i h → h ≤ v2 ∧ (h = v2 → v3 ≤ i)))
def Iv_Mo_squares (a1 : Int) (σ0 : SS) (k : Nat) : Option (List Nat × (Nat → List AV → SS → Prop)) := match k with
  | 26 => some ([3], Lp_Mo_squares_26 a1 σ0)
  | 30 => some ([], Lp_Mo_squares_30 a1 σ0)
  | _ => none
def VE_Mo_squares (a1 : Int) (σ : SS) (K : AV → SS → Prop) : Prop :=
  (S_Mo_in [vL a1, vL 0, vL 5] σ (kI fun r1 σ1 =>
    ((r1 ≠ 0 →
      (((3 : Int) ≤ a1 →
        ((a1 ≠ 3 →
          (S_Mo_size [vR 12 0] σ1 (kI fun r2 σ2 =>
            (((2 : Int) ≠ 0 ∧ InR (Int.tdiv r2 2)) ∧
            (∃ n', Lp_Mo_squares_26 a1 σ n' [vR 12 0, vI a1, vI (Int.tdiv r2 2), none] σ2))))) ∧
        (a1 = 3 →
          (S_Mo_cubes [vR 12 0] σ1 (kI fun r3 σ3 =>
            (K (vI r3) σ3)))))) ∧
      (a1 < 3 →
        (S_Mo_countedSquares [vR 12 0, vI a1] σ1 (kI fun r4 σ4 =>
          (K (vI r4) σ4)))))) ∧
    (r1 = 0 →
      (K (vI (-1)) σ1)))))
def VL_Mo_squares_26 (a1 : Int) (σ0 : SS) (K : AV → SS → Prop) (v2 : Int) (σ : SS) (n : Nat) : Prop :=
  ((v2 ≤ 0 →
    ((a1 ≠ 4 →
      (K (vI (-2)) σ)) ∧
    (a1 = 4 →
      (K (vI 0) σ)))) ∧
  ((0 : Int) < v2 →
    (∃ n', n' < n ∧ Lp_Mo_squares_30 a1 σ0 n' [vR 12 0, vI a1, vI v2, vI 0] σ)))
def VL_Mo_squares_30 (a1 : Int) (σ0 : SS) (K : AV → SS → Prop) (v2 : Int) (v3 : Int) (σ : SS) (n : Nat) : Prop :=
  (InR (2 * v2) ∧
  (InR (v3 + (2 * v2)) ∧
  (S_Mo_size [vR 12 0] σ (kI fun r1 σ1 =>
    ((r1 < (v3 + (2 * v2)) →
      (InR (v2 + (-1)) ∧
      (∃ n', n' < n ∧ Lp_Mo_squares_26 a1 σ0 n' [vR 12 0, vI a1, vI (v2 + (-1)), none] σ1))) ∧
    ((v3 + (2 * v2)) ≤ r1 →
      (S_Mo_isSquare [vR 12 0, vI v3, vI v2] σ1 (kI fun r2 σ2 =>
        ((r2 = 0 →
          (InR (v3 + 1) ∧
          (∃ n', n' < n ∧ Lp_Mo_squares_30 a1 σ0 n' [vR 12 0, vI a1, vI v2, vI (v3 + 1)] σ2))) ∧
        (r2 ≠ 0 →
          ((a1 ≠ 4 →
            (K (vI v3) σ2)) ∧
          (a1 = 4 →
            (InR (2 * v2) ∧
            (K (vI (2 * v2)) σ2))))))))))))))
theorem l_Mo_squares_26 (a1 : Int) (σ0 : SS) (K : AV → SS → Prop) (ha1 : InR a1) (hs0 : okS σ0) (hG : S_Mo_squares [vR 12 0, vI a1] σ0 K) (v2 : Int) (σ : SS) (hv2 : InR v2) (hs : okS σ) (n : Nat) (hn : n = (v2 * 1000).toNat) (hQ : (σ = σ0) ∧ (4 ≤ a1 ∧ a1 ≤ 5) ∧ (0 ≤ v2) ∧ (2 * v2 ≤ (σ0 40 0 0)) ∧ (∀ i h, sqP (mW σ0) (σ0 40 0 0) i h → h ≤ v2)) : VL_Mo_squares_26 a1 σ0 K v2 σ n := by
  unfold VL_Mo_squares_26
  obtain ⟨hM, hG⟩ := hG
  have hb := hM.n
  obtain ⟨rfl, q1, q2, q3, q4⟩ := hQ
  refine ⟨fun h => ?_, fun h => ⟨_, ?_, _, _, rfl, rfl, rfl, q1, by omega, q3, by omega, by omega, fun i x z => ⟨q4 i x z, fun _ => z.1⟩⟩⟩
  · have hl : TL 2 (sqP (mW σ) (σ 40 0 0)) 0 (-2) := TL_none (fun i x z => by have := q4 i x z; have := z.2.1; omega)
    refine ⟨fun g => hG _ (gd_y (by omega) ⟨_, _, hl, ?_⟩), fun g => hG _ (gd_y (by omega) ⟨_, _, hl, ?_⟩)⟩
    · rw [if_neg (by omega), if_neg (by omega), if_neg (by omega), if_neg (by omega), if_neg (by omega)]
    · rw [if_neg (by omega), if_neg (by omega), if_neg (by omega), if_neg (by omega), if_pos g]
  · omega
theorem l_Mo_squares_30 (a1 : Int) (σ0 : SS) (K : AV → SS → Prop) (ha1 : InR a1) (hs0 : okS σ0) (hG : S_Mo_squares [vR 12 0, vI a1] σ0 K) (v2 : Int) (v3 : Int) (σ : SS) (hv2 : InR v2) (hv3 : InR v3) (hs : okS σ) (n : Nat) (hn : n = (v2 * 1000 - v3 - 1).toNat) (hQ : (σ = σ0) ∧ (4 ≤ a1 ∧ a1 ≤ 5) ∧ (1 ≤ v2) ∧ (2 * v2 ≤ (σ0 40 0 0)) ∧ (0 ≤ v3) ∧ (v3 + 2 * v2 ≤ (σ0 40 0 0) + 1) ∧ (∀ i h, sqP (mW σ0) (σ0 40 0 0) i h → h ≤ v2 ∧ (h = v2 → v3 ≤ i))) : VL_Mo_squares_30 a1 σ0 K v2 v3 σ n := by
  unfold VL_Mo_squares_30
  obtain ⟨hM, hG⟩ := hG
  have hb := hM.n
  obtain ⟨rfl, q1, q2, q3, q4, q5, q6⟩ := hQ
  refine ⟨by omega, by omega, ?_⟩
  intro _ _
  refine ⟨fun h => ⟨by omega, _, ?_, _, rfl, rfl, rfl, q1, by omega, by omega, fun i x z => ?_⟩, fun h => ⟨⟨hM, by omega, by omega, by omega, by omega⟩, bS_b0 (fun hp _ => ?_) (fun hp _ => ⟨by omega, _, ?_, _, _, rfl, rfl, rfl, q1, q2, q3, by omega, by omega, fun i x z => ?_⟩)⟩⟩
  · omega
  · have h1 := q6 i x z
    have h2 := z.2.2.1
    omega
  · have hl := TL_top (Or.inr rfl) (fun i x z => by have := q6 i x z; omega) q2 hp
    refine ⟨fun g => hG _ (gd_y (by omega) ⟨_, _, hl, ?_⟩), fun g => ⟨by omega, hG _ (gd_y (by omega) ⟨_, _, hl, ?_⟩)⟩⟩
    · rw [if_neg (by omega), if_neg (by omega), if_neg (by omega), if_neg (by omega), if_neg (by omega)]
    · rw [if_neg (by omega), if_neg (by omega), if_neg (by omega), if_neg (by omega), if_pos g]
  · omega
  · have h1 := q6 i x z
    refine ⟨h1.1, fun g => ?_⟩
    have h2 := h1.2 g
    by_cases e : i = v3
    · subst e; subst g; exact absurd z hp
    · omega
theorem e_Mo_squares (a1 : Int) (σ : SS) (K : AV → SS → Prop) (ha1 : InR a1) (hs : okS σ) (hG : S_Mo_squares [vR 12 0, vI a1] σ K) : VE_Mo_squares a1 σ K := by
  unfold VE_Mo_squares
  obtain ⟨hM, hG⟩ := hG
  have hb := hM.n
  have hc : ∃ l f, TL 2 (sqP (mW σ) (σ 40 0 0)) l f := TL_ex (n := (σ 40 0 0)) (Or.inr rfl) (fun i h z => by have h1 := z.1; have h2 := z.2.1; have h3 := z.2.2.1; omega)
  refine bS_b1 (fun hp _ => ⟨fun g1 => ⟨fun g2 => ?_, fun g2 => ⟨hM, ?_⟩⟩, fun g1 => ⟨⟨hM, by omega, by omega⟩, ?_⟩⟩) (fun hp _ => hG _ (gd_n hp))
  · intro _ _
    have e2 : Int.tdiv (σ 40 0 0) 2 = (σ 40 0 0) / 2 := Int.tdiv_eq_ediv_of_nonneg hb.1
    rw [e2]
    exact ⟨⟨by omega, by omega⟩, _, _, rfl, rfl, rfl, by omega, by omega, by omega, fun i h z => by have := z.1; have := z.2.2.1; omega⟩
  · intro _ _
    obtain ⟨l, f, hl⟩ := hc
    exact hG _ (gd_y hp ⟨l, f, hl, by rw [if_neg (by omega), if_neg (by omega), if_neg (by omega), if_pos g2]⟩)
  · intro _ _
    obtain ⟨l, f, hl⟩ := hc
    refine hG _ (gd_y hp ⟨l, f, hl, ?_⟩)
    rcases (by omega : a1 = 0 ∨ a1 = 1 ∨ a1 = 2) with e | e | e
    · subst e; exact cs0
    · subst e; exact cs1
    · subst e; exact cs2
theorem H_Mo_squares {d : Nat} (hd : 7 ≤ d) : Holds d I_Mo_squares S_Mo_squares := by
  refine holds_of (d' := d - 1) (rt := 1) (cal := [(I_Mo_in, S_Mo_in), (I_Mo_countedSquares, S_Mo_countedSquares), (I_Mo_cubes, S_Mo_cubes), (I_Mo_size, S_Mo_size), (I_Mo_isSquare, S_Mo_isSquare)]) (C := C_Mo_squares) m_Mo_squares o_Mo_squares rfl rfl (by omega) ?_ ?_
  · intro x hx
    simp only [List.mem_cons, List.not_mem_nil, or_false] at hx
    rcases hx with rfl | rfl | rfl | rfl | rfl
    · exact H_Mo_in (by omega)
    · exact H_Mo_countedSquares (by omega)
    · exact H_Mo_cubes (by omega)
    · exact H_Mo_size (by omega)
    · exact H_Mo_isSquare (by omega)
  · intro as σ K has hσ hG
    have hG2 := hG
    unfold S_Mo_squares at hG2
    split at hG2
    · next a1 =>
      refine ⟨Nat.le_of_ble_eq_true rfl, (Iv_Mo_squares a1 σ), ?_, 1000, ?_⟩
      · intro k n z L σ' hk hL hs hP
        unfold Iv_Mo_squares at hk
        split at hk
        · cases hk
          obtain ⟨v2, rfl, hn, hQ⟩ := hP
          exact ⟨1000, l_Mo_squares_26 a1 σ K (has _ (List.mem_of_getElem? (i := 1) rfl)) hσ hG v2 σ' (hL _ (List.mem_of_getElem? (i := 2) rfl)) hs n hn hQ⟩
        · cases hk
          obtain ⟨v2, v3, rfl, hn, hQ⟩ := hP
          exact ⟨1000, l_Mo_squares_30 a1 σ K (has _ (List.mem_of_getElem? (i := 1) rfl)) hσ hG v2 v3 σ' (hL _ (List.mem_of_getElem? (i := 2) rfl)) (hL _ (List.mem_of_getElem? (i := 3) rfl)) hs n hn hQ⟩
        · cases hk
      · exact e_Mo_squares a1 σ K (has _ (List.mem_of_getElem? (i := 1) rfl)) hσ hG
    · exact hG2.elim
