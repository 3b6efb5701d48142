/-! RUNS: the reference -/
def MrL : List (Nat × Nat) := [(44, 0), (586, 0), (587, 0)]
def MrR : List (Nat × Nat) := [(44, 0), (586, 0)]
theorem mrF {σ σ' : SS} (h : Fr MrL σ σ') : mW σ' = mW σ ∧ (σ' 40 0 0) = (σ 40 0 0) := by
  have e : σ' 40 0 = σ 40 0 := h _ _ (by simp [MrL])
  unfold mW
  rw [e]
  exact ⟨rfl, rfl⟩
theorem mrM {σ σ' : SS} (hM : MoW σ) (h : Fr MrL σ σ') : MoW σ' := by
  obtain ⟨e1, e2⟩ := mrF h
  unfold MoW
  rw [e1, e2]
  exact hM
def mrf (σ : SS) : Int → Int := fun k => σ 44 0 (3 * k)
def mrt (σ : SS) : Int → Int := fun k => σ 44 0 (3 * k + 1)
def mrg (σ : SS) : Int → Int := fun k => σ 44 0 (3 * k + 2)
def MrV (σ : SS) : Prop := RL (mW σ) (σ 40 0 0) (σ 586 0 0) (mrf σ) (mrt σ) (mrg σ) ∧ RLs (σ 586 0 0) (mrf σ) (mrg σ)
def MrC (σ : SS) : Prop := σ 587 0 0 ≠ 0 → MrV σ
theorem MrV_few {σ : SS} (h : MrV σ) (hM : MoW σ) : 0 ≤ σ 586 0 0 ∧ σ 586 0 0 ≤ 119 := by
  have a := RL_few h.1 (RLs_d h.1 h.2)
  have b := hM.n
  have c := h.1.1
  omega
/-- one comes into a row in order: the place kept free for it has come down to k -/
def mcI (R : Int → Int) (m k a c : Int) (S : Int → Int → Int → Prop) : Prop := (∀ a' b' c', (∃ y, 0 ≤ y ∧ y ≤ m ∧ y ≠ k ∧ R (3 * y) = a' ∧ R (3 * y + 1) = b' ∧ R (3 * y + 2) = c') ↔ S a' b' c') ∧ (∀ y z, 0 ≤ y → y < z → z ≤ m → y ≠ k → z ≠ k → R (3 * y) < R (3 * z) ∨ (R (3 * y) = R (3 * z) ∧ R (3 * y + 2) < R (3 * z + 2))) ∧ (∀ y, k < y → y ≤ m → a < R (3 * y) ∨ (a = R (3 * y) ∧ c < R (3 * y + 2)))
theorem mc_in {R : Int → Int} {m a c : Int} (hs : RLs m (fun k => R (3 * k)) (fun k => R (3 * k + 2))) : mcI R m m a c (inS m (fun k => R (3 * k)) (fun k => R (3 * k + 1)) (fun k => R (3 * k + 2))) := by
  refine ⟨fun a' b' c' => ⟨fun ⟨y, y0, y1, y2, y3⟩ => ⟨y, y0, by omega, y3⟩, fun ⟨y, y0, y1, y3⟩ => ⟨y, y0, by omega, by omega, y3⟩⟩, fun y z y0 y1 y2 y3 y4 => hs y z y0 y1 (by omega), fun y y0 y1 => by omega⟩
theorem mc_hole {R R' : Int → Int} {m k a c : Int} {S : Int → Int → Int → Prop} (h : mcI R m k a c S) (e : ∀ x, ¬ (3 * k ≤ x ∧ x < 3 * k + 3) → R' x = R x) : mcI R' m k a c S := by
  obtain ⟨h1, h2, h3⟩ := h
  have o : ∀ y, y ≠ k → R' (3 * y) = R (3 * y) ∧ R' (3 * y + 1) = R (3 * y + 1) ∧ R' (3 * y + 2) = R (3 * y + 2) := fun y hy => ⟨e _ (by omega), e _ (by omega), e _ (by omega)⟩
  refine ⟨fun a' b' c' => Iff.trans ⟨fun zz => ?_, fun zz => ?_⟩ (h1 a' b' c'), fun y z y0 y1 y2 y3 y4 => ?_, fun y y0 y1 => ?_⟩
  · obtain ⟨y, y0, y1, y2, y3, y4, y5⟩ := zz
    obtain ⟨o1, o2, o3⟩ := o y y2
    exact ⟨y, y0, y1, y2, by rw [← o1, y3], by rw [← o2, y4], by rw [← o3, y5]⟩
  · obtain ⟨y, y0, y1, y2, y3, y4, y5⟩ := zz
    obtain ⟨o1, o2, o3⟩ := o y y2
    exact ⟨y, y0, y1, y2, by rw [o1, y3], by rw [o2, y4], by rw [o3, y5]⟩
  · obtain ⟨o1, o2, o3⟩ := o y y3
    obtain ⟨q1, q2, q3⟩ := o z y4
    rw [o1, o3, q1, q3]
    exact h2 y z y0 y1 y2 y3 y4
  · obtain ⟨o1, o2, o3⟩ := o y (by omega)
    rw [o1, o3]
    exact h3 y y0 y1
theorem mc_step {R : Int → Int} {m k a c : Int} {S : Int → Int → Int → Prop} (h : mcI R m k a c S) (hk : 0 < k) (hm : k ≤ m) (e : ∀ j, 0 ≤ j → j < 3 → R (3 * k + j) = R (3 * k - 3 + j)) (hg : a < R (3 * k - 3) ∨ (a = R (3 * k - 3) ∧ c < R (3 * k - 1))) : mcI R m (k - 1) a c S := by
  obtain ⟨h1, h2, h3⟩ := h
  have e0 := e 0 (by omega) (by omega)
  have e1 := e 1 (by omega) (by omega)
  have e2 := e 2 (by omega) (by omega)
  rw [show 3 * k + 0 = 3 * k by omega, show 3 * k - 3 + 0 = 3 * (k - 1) by omega] at e0
  rw [show 3 * k - 3 + 1 = 3 * (k - 1) + 1 by omega] at e1
  rw [show 3 * k - 3 + 2 = 3 * (k - 1) + 2 by omega] at e2
  rw [show 3 * k - 3 = 3 * (k - 1) by omega, show 3 * k - 1 = 3 * (k - 1) + 2 by omega] at hg
  refine ⟨fun a' b' c' => Iff.trans ⟨fun zz => ?_, fun zz => ?_⟩ (h1 a' b' c'), fun y z y0 y1 y2 y3 y4 => ?_, fun y y0 y1 => ?_⟩
  · obtain ⟨y, y0, y1, y2, y3, y4, y5⟩ := zz
    by_cases d : y = k
    · subst d
      exact ⟨y - 1, by omega, by omega, by omega, by rw [← e0, y3], by rw [← e1, y4], by rw [← e2, y5]⟩
    · exact ⟨y, y0, y1, d, y3, y4, y5⟩
  · obtain ⟨y, y0, y1, y2, y3, y4, y5⟩ := zz
    by_cases d : y = k - 1
    · subst d
      exact ⟨k, by omega, hm, by omega, by rw [e0, y3], by rw [e1, y4], by rw [e2, y5]⟩
    · exact ⟨y, y0, y1, d, y3, y4, y5⟩
  · by_cases d : z = k
    · rw [d, e0, e2]
      exact h2 y (k - 1) y0 (by omega) (by omega) (by omega) (by omega)
    · by_cases q : y = k
      · rw [q, e0, e2]
        exact h2 (k - 1) z (by omega) (by omega) y2 (by omega) d
      · exact h2 y z y0 y1 y2 q d
  · by_cases d : y = k
    · rw [d, e0, e2]; exact hg
    · exact h3 y (by omega) y1
theorem mc_out {R R' : Int → Int} {m k a b c : Int} {S : Int → Int → Int → Prop} (h : mcI R m k a c S) (hk : 0 ≤ k) (hm : k ≤ m) (hg : k = 0 ∨ R (3 * k - 3) < a ∨ (R (3 * k - 3) = a ∧ R (3 * k - 1) ≤ c)) (hf : ∀ b', ¬ S a b' c) (e0 : R' (3 * k) = a) (e1 : R' (3 * k + 1) = b) (e2 : R' (3 * k + 2) = c) (e : ∀ x, ¬ (3 * k ≤ x ∧ x < 3 * k + 3) → R' x = R x) :
    RLs (m + 1) (fun k => R' (3 * k)) (fun k => R' (3 * k + 2)) ∧ ∀ a' b' c', inS (m + 1) (fun k => R' (3 * k)) (fun k => R' (3 * k + 1)) (fun k => R' (3 * k + 2)) a' b' c' ↔ S a' b' c' ∨ (a = a' ∧ b = b' ∧ c = c') := by
  obtain ⟨h1, h2, h3⟩ := mc_hole h e
  have hg' : k = 0 ∨ R' (3 * (k - 1)) < a ∨ (R' (3 * (k - 1)) = a ∧ R' (3 * (k - 1) + 2) ≤ c) := by
    rw [e (3 * (k - 1)) (by omega), e (3 * (k - 1) + 2) (by omega), show 3 * (k - 1) = 3 * k - 3 by omega, show 3 * k - 3 + 2 = 3 * k - 1 by omega]
    exact hg
  refine ⟨fun y z y0 y1 y2 => ?_, fun a' b' c' => ⟨fun ⟨y, y0, y1, y3, y4, y5⟩ => ?_, fun z => ?_⟩⟩
  · dsimp only
    by_cases d : z = k
    · subst d
      rw [e0, e2]
      have le : R' (3 * y) < a ∨ (R' (3 * y) = a ∧ R' (3 * y + 2) ≤ c) := by
        rcases hg' with g | g
        · omega
        · rcases (by omega : y = z - 1 ∨ y < z - 1) with q | q
          · rw [q]; exact g
          · have := h2 y (z - 1) y0 q (by omega) (by omega) (by omega)
            omega
      rcases le with g | ⟨g1, g2⟩
      · exact Or.inl g
      · refine Or.inr ⟨g1, ?_⟩
        rcases (by omega : R' (3 * y + 2) < c ∨ R' (3 * y + 2) = c) with q | q
        · exact q
        · exact absurd ((h1 a (R' (3 * y + 1)) c).mp ⟨y, y0, by omega, by omega, g1, rfl, q⟩) (hf _)
    · by_cases q : y = k
      · subst q
        rw [e0, e2]
        exact h3 z y1 (by omega)
      · exact h2 y z y0 y1 (by omega) q d
  · dsimp only at y3 y4 y5
    by_cases d : y = k
    · subst d
      exact Or.inr ⟨by rw [← e0, y3], by rw [← e1, y4], by rw [← e2, y5]⟩
    · exact Or.inl ((h1 a' b' c').mp ⟨y, y0, by omega, d, y3, y4, y5⟩)
  · rcases z with z | ⟨z1, z2, z3⟩
    · obtain ⟨y, y0, y1, y2, y3, y4, y5⟩ := (h1 a' b' c').mpr z
      exact ⟨y, y0, by omega, y3, y4, y5⟩
    · exact ⟨k, hk, by omega, by dsimp only; rw [e0, z1], by dsimp only; rw [e1, z2], by dsimp only; rw [e2, z3]⟩
def S_Mo_comesRun : GS := fun as σ K => match as with
  | [some (.inr (.inr (12, 0))), some (.inl a1), some (.inl a2), some (.inl a3)] => ((0 ≤ σ 586 0 0 ∧ σ 586 0 0 < 200) ∧ RLs (σ 586 0 0) (mrf σ) (mrg σ) ∧ ∀ k, 0 ≤ k → k < σ 586 0 0 → ¬ (mrf σ k = a1 ∧ mrg σ k = a3)) ∧ ∀ σ', Fr MrR σ σ' → σ' 586 0 0 = σ 586 0 0 + 1 → RLs (σ 586 0 0 + 1) (mrf σ') (mrg σ') → (∀ a b c, inS (σ 586 0 0 + 1) (mrf σ') (mrt σ') (mrg σ') a b c ↔ inS (σ 586 0 0) (mrf σ) (mrt σ) (mrg σ) a b c ∨ (a1 = a ∧ a2 = b ∧ a3 = c)) → K none σ'
  | _ => False
abbrev Lp_Mo_comesRun_3 (a1 : Int) (a2 : Int) (a3 : Int) (σ0 : SS) (n : Nat) (L : List AV) (σ : SS) : Prop := ∃ (v4 : Int), L = [vR 12 0, vI a1, vI a2, vI a3, vI v4, none] ∧ n = (1000 * v4).toNat ∧ ((Fr [(44, 0)] σ0 σ) ∧ (0 ≤ v4 ∧ v4 ≤ σ0 586 0 0) ∧ (mcI (σ 44 0) (σ0 586 0 0) v4 a1 a3 (inS (σ0 586 0 0) (mrf σ0) (mrt σ0) (mrg σ0))))
abbrev Lp_Mo_comesRun_37 (a1 : Int) (a2 : Int) (a3 : Int) (σ0 : SS) (n : Nat) (L : List AV) (σ : SS) : Prop := ∃ (v4 : Int) (v5 : Int), L = [vR 12 0, vI a1, vI a2, vI a3, vI v4, vI v5] ∧ n = (1000 * v4 - v5 - 1).toNat ∧ ((Fr [(44, 0)] σ0 σ) ∧ (0 < v4 ∧ v4 ≤ σ0 586 0 0) ∧ (mcI (σ 44 0) (σ0 586 0 0) v4 a1 a3 (inS (σ0 586 0 0) (mrf σ0) (mrt σ0) (mrg σ0))) ∧ (a1 < σ 44 0 (3 * v4 - 3) ∨ (a1 = σ 44 0 (3 * v4 - 3) ∧ a3 < σ 44 0 (3 * v4 - 1))) ∧ (0 ≤ v5 ∧ v5 ≤ 3) ∧ (∀ y, 0 ≤ y → y < v5 → σ 44 0 (3 * v4 + y) = σ 44 0 (3 * v4 - 3 + y)))
def Iv_Mo_comesRun (a1 : Int) (a2 : Int) (a3 : Int) (σ0 : SS) (k : Nat) : Option (List Nat × (Nat → List AV → SS → Prop)) := match k with
  | 3 => some ([5], Lp_Mo_comesRun_3 a1 a2 a3 σ0)
  | 37 => some ([], Lp_Mo_comesRun_37 a1 a2 a3 σ0)
  | _ => none
def VE_Mo_comesRun (a1 : Int) (a2 : Int) (a3 : Int) (σ : SS) (K : AV → SS → Prop) : Prop :=
  (∃ n', Lp_Mo_comesRun_3 a1 a2 a3 σ n' [vR 12 0, vI a1, vI a2, vI a3, vI (σ 586 0 0), none] σ)
def VL_Mo_comesRun_3 (a1 : Int) (a2 : Int) (a3 : Int) (σ0 : SS) (K : AV → SS → Prop) (v4 : Int) (σ : SS) (n : Nat) : Prop :=
  ((v4 ≤ 0 →
    (InR (3 * v4) ∧
    ((0 ≤ (3 * v4 : Int) ∧ (3 * v4 : Int) < 720) ∧ ∀ σ1 : SS, σ1 = u3 σ 44 0 (3 * v4) a1 →
    (InR (3 * v4) ∧
    (InR ((3 * v4) + 1) ∧
    ((0 ≤ ((3 * v4) + 1 : Int) ∧ ((3 * v4) + 1 : Int) < 720) ∧ ∀ σ2 : SS, σ2 = u3 σ1 44 0 ((3 * v4) + 1) a2 →
    (InR (3 * v4) ∧
    (InR ((3 * v4) + 2) ∧
    ((0 ≤ ((3 * v4) + 2 : Int) ∧ ((3 * v4) + 2 : Int) < 720) ∧ ∀ σ3 : SS, σ3 = u3 σ2 44 0 ((3 * v4) + 2) a3 →
    (InR ((σ3 586 0 0) + 1) ∧
    (∀ σ4 : SS, σ4 = u3 σ3 586 0 0 ((σ3 586 0 0) + 1) →
    (K none σ4)))))))))))) ∧
  ((0 : Int) < v4 →
    (InR (3 * v4) ∧
    (InR ((3 * v4) - 3) ∧
    ((0 ≤ ((3 * v4) - 3 : Int) ∧ ((3 * v4) - 3 : Int) < 720) ∧
    ((a1 < (σ 44 0 ((3 * v4) - 3)) →
      (∃ n', n' < n ∧ Lp_Mo_comesRun_37 a1 a2 a3 σ0 n' [vR 12 0, vI a1, vI a2, vI a3, vI v4, vI 0] σ)) ∧
    ((σ 44 0 ((3 * v4) - 3)) ≤ a1 →
      (InR (3 * v4) ∧
      (InR ((3 * v4) - 3) ∧
      ((0 ≤ ((3 * v4) - 3 : Int) ∧ ((3 * v4) - 3 : Int) < 720) ∧
      (((σ 44 0 ((3 * v4) - 3)) ≠ a1 →
        (InR (3 * v4) ∧
        ((0 ≤ (3 * v4 : Int) ∧ (3 * v4 : Int) < 720) ∧ ∀ σ5 : SS, σ5 = u3 σ 44 0 (3 * v4) a1 →
        (InR (3 * v4) ∧
        (InR ((3 * v4) + 1) ∧
        ((0 ≤ ((3 * v4) + 1 : Int) ∧ ((3 * v4) + 1 : Int) < 720) ∧ ∀ σ6 : SS, σ6 = u3 σ5 44 0 ((3 * v4) + 1) a2 →
        (InR (3 * v4) ∧
        (InR ((3 * v4) + 2) ∧
        ((0 ≤ ((3 * v4) + 2 : Int) ∧ ((3 * v4) + 2 : Int) < 720) ∧ ∀ σ7 : SS, σ7 = u3 σ6 44 0 ((3 * v4) + 2) a3 →
        (InR ((σ7 586 0 0) + 1) ∧
        (∀ σ8 : SS, σ8 = u3 σ7 586 0 0 ((σ7 586 0 0) + 1) →
        (K none σ8)))))))))))) ∧
      ((σ 44 0 ((3 * v4) - 3)) = a1 →
        (InR (3 * v4) ∧
        (InR ((3 * v4) - 1) ∧
        ((0 ≤ ((3 * v4) - 1 : Int) ∧ ((3 * v4) - 1 : Int) < 720) ∧
        (((σ 44 0 ((3 * v4) - 1)) ≤ a3 →
          (InR (3 * v4) ∧
          ((0 ≤ (3 * v4 : Int) ∧ (3 * v4 : Int) < 720) ∧ ∀ σ9 : SS, σ9 = u3 σ 44 0 (3 * v4) a1 →
          (InR (3 * v4) ∧
          (InR ((3 * v4) + 1) ∧
          ((0 ≤ ((3 * v4) + 1 : Int) ∧ ((3 * v4) + 1 : Int) < 720) ∧ ∀ σ10 : SS, σ10 = u3 σ9 44 0 ((3 * v4) + 1) a2 →
          (InR (3 * v4) ∧
          (InR ((3 * v4) + 2) ∧
          ((0 ≤ ((3 * v4) + 2 : Int) ∧ ((3 * v4) + 2 : Int) < 720) ∧ ∀ σ11 : SS, σ11 = u3 σ10 44 0 ((3 * v4) + 2) a3 →
          (InR ((σ11 586 0 0) + 1) ∧
          (∀ σ12 : SS, σ12 = u3 σ11 586 0 0 ((σ11 586 0 0) + 1) →
          (K none σ12)))))))))))) ∧
        (a3 < (σ 44 0 ((3 * v4) - 1)) →
          (∃ n', n' < n ∧ Lp_Mo_comesRun_37 a1 a2 a3 σ0 n' [vR 12 0, vI a1, vI a2, vI a3, vI v4, vI 0] σ))))))))))))))))))
def VL_Mo_comesRun_37 (a1 : Int) (a2 : Int) (a3 : Int) (σ0 : SS) (K : AV → SS → Prop) (v4 : Int) (v5 : Int) (σ : SS) (n : Nat) : Prop :=
  (((3 : Int) ≤ v5 →
    (InR (v4 + (-1)) ∧
    (∃ n', n' < n ∧ Lp_Mo_comesRun_3 a1 a2 a3 σ0 n' [vR 12 0, vI a1, vI a2, vI a3, vI (v4 + (-1)), none] σ))) ∧
  (v5 < 3 →
    (InR (3 * v4) ∧
    (InR ((3 * v4) + v5) ∧
    (InR (3 * v4) ∧
    (InR ((3 * v4) - 3) ∧
    (InR (((3 * v4) - 3) + v5) ∧
    ((0 ≤ (((3 * v4) - 3) + v5 : Int) ∧ (((3 * v4) - 3) + v5 : Int) < 720) ∧
    ((0 ≤ ((3 * v4) + v5 : Int) ∧ ((3 * v4) + v5 : Int) < 720) ∧ ∀ σ1 : SS, σ1 = u3 σ 44 0 ((3 * v4) + v5) (σ 44 0 (((3 * v4) - 3) + v5)) →
    (InR (v5 + 1) ∧
    (∃ n', n' < n ∧ Lp_Mo_comesRun_37 a1 a2 a3 σ0 n' [vR 12 0, vI a1, vI a2, vI a3, vI v4, vI (v5 + 1)] σ1)))))))))))
theorem l_Mo_comesRun_3 (a1 : Int) (a2 : Int) (a3 : Int) (σ0 : SS) (K : AV → SS → Prop) (ha1 : InR a1) (ha2 : InR a2) (ha3 : InR a3) (hs0 : okS σ0) (hG : S_Mo_comesRun [vR 12 0, vI a1, vI a2, vI a3] σ0 K) (v4 : Int) (σ : SS) (hv4 : InR v4) (hs : okS σ) (n : Nat) (hn : n = (1000 * v4).toNat) (hQ : (Fr [(44, 0)] σ0 σ) ∧ (0 ≤ v4 ∧ v4 ≤ σ0 586 0 0) ∧ (mcI (σ 44 0) (σ0 586 0 0) v4 a1 a3 (inS (σ0 586 0 0) (mrf σ0) (mrt σ0) (mrg σ0)))) : VL_Mo_comesRun_3 a1 a2 a3 σ0 K v4 σ n := by
  unfold VL_Mo_comesRun_3
  obtain ⟨⟨h1, h2, h3⟩, hG⟩ := hG
  obtain ⟨q0, q1, q2⟩ := hQ
  have em : σ 586 0 0 = σ0 586 0 0 := by rw [q0 _ _ (by simp)]
  have fin : ∀ σ1 σ2 σ3 σ4 : SS, (v4 = 0 ∨ σ 44 0 (3 * v4 - 3) < a1 ∨ (σ 44 0 (3 * v4 - 3) = a1 ∧ σ 44 0 (3 * v4 - 1) ≤ a3)) → σ1 = u3 σ 44 0 (3 * v4) a1 → σ2 = u3 σ1 44 0 (3 * v4 + 1) a2 → σ3 = u3 σ2 44 0 (3 * v4 + 2) a3 → σ4 = u3 σ3 586 0 0 (σ3 586 0 0 + 1) → K none σ4 := fun σ1 σ2 σ3 σ4 hc e1 e2 e3 e4 => by
    have r : σ4 44 0 = σ3 44 0 := by rw [e4]; exact congrFun (u3_F (by decide)) 0
    obtain ⟨g1, g2⟩ := mc_out (R' := σ4 44 0) (b := a2) q2 q1.1 q1.2 hc (fun b' ⟨k, k0, k1, k2, k3, k4⟩ => h3 k k0 k1 ⟨k2, k4⟩) (by rw [r, e3, u3_k (by omega), e2, u3_k (by omega), e1, u3_s]) (by rw [r, e3, u3_k (by omega), e2, u3_s]) (by rw [r, e3, u3_s]) (fun x hx => by rw [r, e3, u3_k (by omega), e2, u3_k (by omega), e1, u3_k (by omega)])
    have fr : Fr [(44, 0)] σ0 σ3 := Fr_trans q0 (by rw [e3, e2, e1]; exact Fr_trans (Fr_u3 (by simp)) (Fr_trans (Fr_u3 (by simp)) (Fr_u3 (by simp))))
    refine hG σ4 (Fr_trans (Fr_mono fr (by simp [MrR])) (by rw [e4]; exact Fr_u3 (by simp [MrR]))) ?_ g1 g2
    rw [e4, u3_s, fr _ _ (by simp)]
  refine ⟨fun c1 => ?_, fun c1 => ?_⟩
  · skip
    refine ⟨(by omega), ?_⟩
    refine ⟨(by omega), fun σ2 e2 => ?_⟩
    have m1 : σ2 586 0 0 = σ0 586 0 0 := by rw [e2, u3_f (by decide), em]
    refine ⟨(by omega), ?_⟩
    refine ⟨(by omega), ?_⟩
    refine ⟨(by omega), fun σ3 e3 => ?_⟩
    have m2 : σ3 586 0 0 = σ0 586 0 0 := by rw [e3, u3_f (by decide), m1]
    refine ⟨(by omega), ?_⟩
    refine ⟨(by omega), ?_⟩
    refine ⟨(by omega), fun σ4 e4 => ?_⟩
    have m3 : σ4 586 0 0 = σ0 586 0 0 := by rw [e4, u3_f (by decide), m2]
    refine ⟨(by omega), ?_⟩
    refine fun σ5 e5 => ?_
    exact fin _ _ _ _ (Or.inl (by omega)) (by assumption) (by assumption) (by assumption) (by assumption)
  · skip
    refine ⟨(by omega), ?_⟩
    refine ⟨(by omega), ?_⟩
    refine ⟨(by omega), ?_⟩
    refine ⟨fun c2 => ?_, fun c2 => ?_⟩
    · skip
      refine ⟨_, ?_, _, _, rfl, rfl, ?_⟩
      · omega
      · refine ⟨?_, ?_, ?_, ?_, ?_, ?_⟩
        · first | rfl | assumption | omega
        · first | rfl | assumption | omega
        · first | rfl | assumption | omega
        · omega
        · first | rfl | assumption | omega
        · exact fun y y0 y1 => by omega
    · skip
      refine ⟨(by omega), ?_⟩
      refine ⟨(by omega), ?_⟩
      refine ⟨(by omega), ?_⟩
      refine ⟨fun c3 => ?_, fun c3 => ?_⟩
      · skip
        refine ⟨(by omega), ?_⟩
        refine ⟨(by omega), fun σ4 e4 => ?_⟩
        have m1 : σ4 586 0 0 = σ0 586 0 0 := by rw [e4, u3_f (by decide), em]
        refine ⟨(by omega), ?_⟩
        refine ⟨(by omega), ?_⟩
        refine ⟨(by omega), fun σ5 e5 => ?_⟩
        have m2 : σ5 586 0 0 = σ0 586 0 0 := by rw [e5, u3_f (by decide), m1]
        refine ⟨(by omega), ?_⟩
        refine ⟨(by omega), ?_⟩
        refine ⟨(by omega), fun σ6 e6 => ?_⟩
        have m3 : σ6 586 0 0 = σ0 586 0 0 := by rw [e6, u3_f (by decide), m2]
        refine ⟨(by omega), ?_⟩
        refine fun σ7 e7 => ?_
        exact fin _ _ _ _ (by omega) (by assumption) (by assumption) (by assumption) (by assumption)
      · skip
        refine ⟨(by omega), ?_⟩
        refine ⟨(by omega), ?_⟩
        refine ⟨(by omega), ?_⟩
        refine ⟨fun c4 => ?_, fun c4 => ?_⟩
        · skip
          refine ⟨(by omega), ?_⟩
          refine ⟨(by omega), fun σ5 e5 => ?_⟩
          have m1 : σ5 586 0 0 = σ0 586 0 0 := by rw [e5, u3_f (by decide), em]
          refine ⟨(by omega), ?_⟩
          refine ⟨(by omega), ?_⟩
          refine ⟨(by omega), fun σ6 e6 => ?_⟩
          have m2 : σ6 586 0 0 = σ0 586 0 0 := by rw [e6, u3_f (by decide), m1]
          refine ⟨(by omega), ?_⟩
          refine ⟨(by omega), ?_⟩
          refine ⟨(by omega), fun σ7 e7 => ?_⟩
          have m3 : σ7 586 0 0 = σ0 586 0 0 := by rw [e7, u3_f (by decide), m2]
          refine ⟨(by omega), ?_⟩
          refine fun σ8 e8 => ?_
          exact fin _ _ _ _ (by omega) (by assumption) (by assumption) (by assumption) (by assumption)
        · skip
          refine ⟨_, ?_, _, _, rfl, rfl, ?_⟩
          · omega
          · refine ⟨?_, ?_, ?_, ?_, ?_, ?_⟩
            · first | rfl | assumption | omega
            · first | rfl | assumption | omega
            · first | rfl | assumption | omega
            · omega
            · first | rfl | assumption | omega
            · exact fun y y0 y1 => by omega
theorem l_Mo_comesRun_37 (a1 : Int) (a2 : Int) (a3 : Int) (σ0 : SS) (K : AV → SS → Prop) (ha1 : InR a1) (ha2 : InR a2) (ha3 : InR a3) (hs0 : okS σ0) (hG : S_Mo_comesRun [vR 12 0, vI a1, vI a2, vI a3] σ0 K) (v4 : Int) (v5 : Int) (σ : SS) (hv4 : InR v4) (hv5 : InR v5) (hs : okS σ) (n : Nat) (hn : n = (1000 * v4 - v5 - 1).toNat) (hQ : (Fr [(44, 0)] σ0 σ) ∧ (0 < v4 ∧ v4 ≤ σ0 586 0 0) ∧ (mcI (σ 44 0) (σ0 586 0 0) v4 a1 a3 (inS (σ0 586 0 0) (mrf σ0) (mrt σ0) (mrg σ0))) ∧ (a1 < σ 44 0 (3 * v4 - 3) ∨ (a1 = σ 44 0 (3 * v4 - 3) ∧ a3 < σ 44 0 (3 * v4 - 1))) ∧ (0 ≤ v5 ∧ v5 ≤ 3) ∧ (∀ y, 0 ≤ y → y < v5 → σ 44 0 (3 * v4 + y) = σ 44 0 (3 * v4 - 3 + y))) : VL_Mo_comesRun_37 a1 a2 a3 σ0 K v4 v5 σ n := by
  unfold VL_Mo_comesRun_37
  obtain ⟨⟨h1, h2, h3⟩, hG⟩ := hG
  obtain ⟨q0, q1, q2, q3, q4, q5⟩ := hQ
  refine ⟨fun c1 => ?_, fun c1 => ?_⟩
  · skip
    refine ⟨(by omega), ?_⟩
    refine ⟨_, ?_, _, rfl, rfl, ?_⟩
    · omega
    · refine ⟨?_, ?_, ?_⟩
      · first | rfl | assumption | omega
      · first | rfl | assumption | omega
      · exact mc_step q2 q1.1 q1.2 (fun j j0 j1 => q5 j j0 (by omega)) q3
  · skip
    refine ⟨(by omega), ?_⟩
    refine ⟨(by omega), ?_⟩
    refine ⟨(by omega), ?_⟩
    refine ⟨(by omega), ?_⟩
    refine ⟨(by omega), ?_⟩
    refine ⟨(by omega), ?_⟩
    refine ⟨(by omega), fun σ2 e2 => ?_⟩
    refine ⟨(by omega), ?_⟩
    refine ⟨_, ?_, _, _, rfl, rfl, ?_⟩
    · omega
    · refine ⟨?_, ?_, ?_, ?_, ?_, ?_⟩
      · exact Fr_trans q0 (by rw [e2]; exact Fr_u3 (by simp))
      · first | rfl | assumption | omega
      · exact mc_hole q2 (fun x hx => by rw [e2, u3_k (by omega)])
      · rw [e2, u3_k (by omega), u3_k (by omega)]; exact q3
      · first | rfl | assumption | omega
      · intro y y0 y1
        rw [e2, u3_k (k' := 3 * v4 - 3 + y) (by omega)]
        rcases (by omega : y < v5 ∨ y = v5) with c | c
        · rw [u3_k (by omega)]; exact q5 y y0 c
        · rw [c, u3_s]
theorem e_Mo_comesRun (a1 : Int) (a2 : Int) (a3 : Int) (σ : SS) (K : AV → SS → Prop) (ha1 : InR a1) (ha2 : InR a2) (ha3 : InR a3) (hs : okS σ) (hG : S_Mo_comesRun [vR 12 0, vI a1, vI a2, vI a3] σ K) : VE_Mo_comesRun a1 a2 a3 σ K := by
  unfold VE_Mo_comesRun
  obtain ⟨⟨h1, h2, h3⟩, hG⟩ := hG
  refine ⟨_, _, rfl, rfl, ?_⟩
  refine ⟨?_, ?_, ?_⟩
  · exact Fr_refl
  · first | rfl | assumption | omega
  · exact mc_in h2
theorem H_Mo_comesRun {d : Nat} (hd : 1 ≤ d) : Holds d I_Mo_comesRun S_Mo_comesRun := by
  refine holds_of (d' := d - 1) (rt := 0) (cal := []) (C := C_Mo_comesRun) m_Mo_comesRun o_Mo_comesRun rfl rfl (by omega) ?_ ?_
  · intro x hx
    cases hx
  · intro as σ K has hσ hG
    have hG2 := hG
    unfold S_Mo_comesRun at hG2
    split at hG2
    · next a1 a2 a3 =>
      refine ⟨Nat.le_of_ble_eq_true rfl, (Iv_Mo_comesRun a1 a2 a3 σ), ?_, 1000, ?_⟩
      · intro k n z L σ' hk hL hs hP
        unfold Iv_Mo_comesRun at hk
        split at hk
        · cases hk
          obtain ⟨v4, rfl, hn, hQ⟩ := hP
          exact ⟨1000, l_Mo_comesRun_3 a1 a2 a3 σ K (has _ (List.mem_of_getElem? (i := 1) rfl)) (has _ (List.mem_of_getElem? (i := 2) rfl)) (has _ (List.mem_of_getElem? (i := 3) rfl)) hσ hG v4 σ' (hL _ (List.mem_of_getElem? (i := 4) rfl)) hs n hn hQ⟩
        · cases hk
          obtain ⟨v4, v5, rfl, hn, hQ⟩ := hP
          exact ⟨1000, l_Mo_comesRun_37 a1 a2 a3 σ K (has _ (List.mem_of_getElem? (i := 1) rfl)) (has _ (List.mem_of_getElem? (i := 2) rfl)) (has _ (List.mem_of_getElem? (i := 3) rfl)) hσ hG v4 v5 σ' (hL _ (List.mem_of_getElem? (i := 4) rfl)) (hL _ (List.mem_of_getElem? (i := 5) rfl)) hs n hn hQ⟩
        · cases hk
      · exact e_Mo_comesRun a1 a2 a3 σ K (has _ (List.mem_of_getElem? (i := 1) rfl)) (has _ (List.mem_of_getElem? (i := 2) rfl)) (has _ (List.mem_of_getElem? (i := 3) rfl)) hσ hG
    · exact hG2.elim
/-- what the walk by rising gaps has found: all of smaller gap, and of this gap all that begin ahead of a place -/
def MqQ (G a : Int) : Int → Int → Prop := fun q y => q < G ∨ (q = G ∧ y < a)
def MRq (u : Int → Int) (n m : Int) (f t g : Int → Int) (Q : Int → Int → Prop) : Prop := 0 ≤ m ∧ (∀ k, 0 ≤ k → k < m → isRun u n (f k) (t k) (g k) ∧ Q (g k) (f k)) ∧ (∀ x j q, isRun u n x j q → Q q x → inS m f t g x j q) ∧ RLs m f g
theorem MRq_few {u : Int → Int} {n m : Int} {f t g : Int → Int} {Q : Int → Int → Prop} (h : MRq u n m f t g Q) (hn : n ≤ 120) : 0 ≤ m ∧ m < 120 := by
  have h1 := h.1
  have := runs_few (fun k k0 k1 => (h.2.1 k k0 k1).1) (RLt_d (fun k k0 k1 => (h.2.1 k k0 k1).1) (fun k l k0 k1 k2 z => by have := h.2.2.2 k l k0 k1 k2; omega))
  omega
theorem MRq_Q {u : Int → Int} {n m : Int} {f t g : Int → Int} {Q Q' : Int → Int → Prop} (h : MRq u n m f t g Q) (h1 : ∀ x j q, isRun u n x j q → (Q q x ↔ Q' q x)) : MRq u n m f t g Q' :=
  ⟨h.1, fun k k0 k1 => ⟨(h.2.1 k k0 k1).1, (h1 _ _ _ (h.2.1 k k0 k1).1).mp (h.2.1 k k0 k1).2⟩, fun x j q r hq => h.2.2.1 x j q r ((h1 x j q r).mpr hq), h.2.2.2⟩
theorem MRq_end {u : Int → Int} {n m G : Int} {f t g : Int → Int} (h : MRq u n m f t g (MqQ G 0)) (hG : n < 2 * G) : RL u n m f t g ∧ RLs m f g := by
  refine ⟨⟨h.1, fun k k0 k1 => (h.2.1 k k0 k1).1, fun x j q r => h.2.2.1 x j q r (Or.inl ?_)⟩, h.2.2.2⟩
  have := r.1
  omega
theorem MRq_gap {u : Int → Int} {n m G a : Int} {f t g : Int → Int} (h : MRq u n m f t g (MqQ G a)) (ha : n ≤ a + G) : MRq u n m f t g (MqQ (G + 1) 0) := MRq_Q h (fun x j q r => by
  have := r.1
  unfold MqQ
  constructor <;> intro z <;> omega)
theorem per_isP {w : Int → Int} {i j p : Int} : per w i j p ↔ isP w i j p :=
  ⟨fun h t t0 t1 => by
    have := h (i + t) (by omega) (by omega)
    rwa [show i + t + p = i + p + t by omega] at this, fun h y y0 y1 => by
    have := h (y - i) (by omega) (by omega)
    rwa [show i + (y - i) = y by omega, show i + p + (y - i) = y + p by omega] at this⟩
theorem mr_at {u : Int → Int} {n p i c : Int} (hu : ∀ x, 0 ≤ x → x < n → 0 ≤ u x) (ho : ∀ x, n ≤ x → u x = -1) (hp : 1 ≤ p) (hi : 0 ≤ i) (hin : i + p < n) (hs : i = 0 ∨ u (i - 1) ≠ u (i - 1 + p)) (hc : c = lceF u (n - i - p).toNat i (i + p)) : (0 ≤ c ∧ c ≤ n - i - p) ∧ fwI u n p i (i + c) ∧ u (i + c) ≠ u (i + c + p) := by
  obtain ⟨g1, g2, g3, g4⟩ := lceF_spec u (n - i - p).toNat i (i + p)
  rw [← hc] at g1 g2 g3 g4
  refine ⟨by omega, ⟨by omega, fun y y0 y1 => ⟨by omega, ?_⟩, hs⟩, ?_⟩
  · have := g3 (y - i) (by omega) (by omega)
    rwa [show i + (y - i) = y by omega, show i + p + (y - i) = y + p by omega] at this
  · rcases (by omega : c < n - i - p ∨ c = n - i - p) with z | z
    · have := g4 (by omega)
      rwa [show i + p + c = i + c + p by omega] at this
    · rw [ho (i + c + p) (by omega)]
      have := hu (i + c) (by omega) (by omega)
      omega
theorem mr_skip {u : Int → Int} {n m G a x : Int} {f t g : Int → Int} (h : MRq u n m f t g (MqQ G a)) (hI : fwI u n G a x) (hm : u x ≠ u (x + G)) (hN : x - a < G ∨ ¬ isRun u n a (x + G) G) : MRq u n m f t g (MqQ G (x + 1)) := MRq_Q h (fun y j q r => by
  have h0 := hI.1
  unfold MqQ
  constructor
  · intro z; omega
  · intro z
    rcases z with z | ⟨z, hy⟩
    · exact Or.inl z
    · subst z
      rcases (by omega : y < a ∨ a ≤ y) with c | c
      · exact Or.inr ⟨rfl, c⟩
      · obtain ⟨e1, e2, e3⟩ := fw_not hI hm r c (by omega)
        rcases hN with z | z
        · omega
        · rw [e1, e3] at r
          exact absurd r z)
theorem mr_new {u : Int → Int} {n m G a x : Int} {f t g f' t' g' : Int → Int} (h : MRq u n m f t g (MqQ G a)) (hI : fwI u n G a x) (hm : u x ≠ u (x + G)) (hr : isRun u n a (x + G) G) (hs : RLs (m + 1) f' g') (hS : ∀ a' b' c', inS (m + 1) f' t' g' a' b' c' ↔ inS m f t g a' b' c' ∨ (a = a' ∧ x + G = b' ∧ G = c')) : MRq u n (m + 1) f' t' g' (MqQ G (x + 1)) := by
  obtain ⟨h1, h2, h3, h4⟩ := h
  have h0 := hI.1
  refine ⟨by omega, fun k k0 k1 => ?_, fun y j q r hq => ?_, hs⟩
  · rcases (hS _ _ _).mp ⟨k, k0, k1, rfl, rfl, rfl⟩ with ⟨l, l0, l1, l2, l3, l4⟩ | ⟨l2, l3, l4⟩
    · have := h2 l l0 l1
      rw [l2, l3, l4] at this
      refine ⟨this.1, ?_⟩
      rcases this.2 with z | z
      · exact Or.inl z
      · exact Or.inr ⟨z.1, by omega⟩
    · rw [← l2, ← l3, ← l4]
      exact ⟨hr, Or.inr ⟨rfl, by omega⟩⟩
  · refine (hS _ _ _).mpr ?_
    rcases hq with hq | ⟨hq, hy⟩
    · exact Or.inl (h3 y j q r (Or.inl hq))
    · subst hq
      rcases (by omega : y < a ∨ a ≤ y) with c | c
      · exact Or.inl (h3 y j q r (Or.inr ⟨rfl, c⟩))
      · obtain ⟨e1, e2, e3⟩ := fw_not hI hm r c (by omega)
        exact Or.inr ⟨e1.symm, e3.symm, rfl⟩
theorem mr_is {u : Int → Int} {n G a x r : Int} (hG : 1 ≤ G) (hI : fwI u n G a x) (hx : x ≤ n - G) (hm : u x ≠ u (x + G)) (hs : G ≤ x - a) (hl : leastIs (isP u a (x + G)) 1 r) : r = G ↔ isRun u n a (x + G) G := by
  obtain ⟨l1, l2, l3⟩ := hl
  constructor
  · intro e
    obtain ⟨p, p0, p1⟩ := fw_run hG hI hx hm hs
    rcases (by omega : p < r ∨ p = r) with c | c
    · exact absurd (per_isP.mp p1.2.1) (l3 p p1.1.2.2.1 c)
    · rw [c, e] at p1; exact p1
  · intro z
    have a1 : ¬ r < G := fun y => z.2.2.2.2 r l1 y (per_isP.mpr l2)
    have a2 : ¬ G < r := fun y => l3 G hG y (per_isP.mp z.2.1)
    omega
def mrq (σ : SS) (u : Int → Int) (n G a : Int) : Prop := MRq u n (σ 586 0 0) (mrf σ) (mrt σ) (mrg σ) (MqQ G a)
theorem mrq_not {σ : SS} {u : Int → Int} {n G a : Int} (h : mrq σ u n G a) : ∀ k, 0 ≤ k → k < σ 586 0 0 → ¬ (mrf σ k = a ∧ mrg σ k = G) := fun k k0 k1 z => by
  rcases (h.2.1 k k0 k1).2 with y | y <;> omega
def S_Mo_laysRuns : GS := fun as σ K => match as with
  | [some (.inr (.inr (12, 0)))] => (MoW σ ∧ MrC σ) ∧ ∀ σ', Fr MrL σ σ' → MrV σ' → K none σ'
  | _ => False
abbrev Lp_Mo_laysRuns_12 (σ0 : SS) (n : Nat) (L : List AV) (σ : SS) : Prop := ∃ (v1 : Int), L = [vR 12 0, vI v1, none, none] ∧ n = (1000 * (1000 - v1)).toNat ∧ ((Fr MrL σ0 σ) ∧ (1 ≤ v1 ∧ v1 ≤ 200) ∧ (mrq σ (mW σ0) (σ0 40 0 0) v1 0))
abbrev Lp_Mo_laysRuns_20 (σ0 : SS) (n : Nat) (L : List AV) (σ : SS) : Prop := ∃ (v1 : Int) (v2 : Int), L = [vR 12 0, vI v1, vI v2, none] ∧ n = (1000 * (1000 - v1) - v2 - 1).toNat ∧ ((Fr MrL σ0 σ) ∧ ((1 ≤ v1 ∧ 2 * v1 ≤ (σ0 40 0 0)) ∧ 0 ≤ v2 ∧ v2 ≤ (σ0 40 0 0) + 1) ∧ (mrq σ (mW σ0) (σ0 40 0 0) v1 v2) ∧ (v2 = 0 ∨ mW σ0 (v2 - 1) ≠ mW σ0 (v2 - 1 + v1)))
def Iv_Mo_laysRuns (σ0 : SS) (k : Nat) : Option (List Nat × (Nat → List AV → SS → Prop)) := match k with
  | 12 => some ([2, 3], Lp_Mo_laysRuns_12 σ0)
  | 20 => some ([3], Lp_Mo_laysRuns_20 σ0)
  | _ => none
def VE_Mo_laysRuns (σ : SS) (K : AV → SS → Prop) : Prop :=
  (((σ 587 0 0) = 0 →
    ((0 ≤ (1 : Int) ∧ (1 : Int) ≤ 1) ∧ (∀ σ1 : SS, σ1 = u3 σ 587 0 0 1 →
    (∀ σ2 : SS, σ2 = u3 σ1 586 0 0 0 →
    (∃ n', Lp_Mo_laysRuns_12 σ n' [vR 12 0, vI 1, none, none] σ2))))) ∧
  ((σ 587 0 0) ≠ 0 →
    (K none σ)))
def VL_Mo_laysRuns_12 (σ0 : SS) (K : AV → SS → Prop) (v1 : Int) (σ : SS) (n : Nat) : Prop :=
  (InR (2 * v1) ∧
  (S_Mo_size [vR 12 0] σ (kI fun r1 σ1 =>
    ((r1 < (2 * v1) →
      (K none σ1)) ∧
    ((2 * v1) ≤ r1 →
      (∃ n', n' < n ∧ Lp_Mo_laysRuns_20 σ0 n' [vR 12 0, vI v1, vI 0, none] σ1))))))
def VL_Mo_laysRuns_20 (σ0 : SS) (K : AV → SS → Prop) (v1 : Int) (v2 : Int) (σ : SS) (n : Nat) : Prop :=
  (InR (v2 + v1) ∧
  (S_Mo_size [vR 12 0] σ (kI fun r1 σ1 =>
    ((r1 ≤ (v2 + v1) →
      (InR (v1 + 1) ∧
      (∃ n', n' < n ∧ Lp_Mo_laysRuns_12 σ0 n' [vR 12 0, vI (v1 + 1), none, none] σ1))) ∧
    ((v2 + v1) < r1 →
      (InR (v2 + v1) ∧
      (S_Mo_size [vR 12 0] σ1 (kI fun r2 σ2 =>
        (InR (r2 - v2) ∧
        (InR ((r2 - v2) - v1) ∧
        (S_Mo_common [vR 12 0, vI v2, vI (v2 + v1), vI ((r2 - v2) - v1)] σ2 (kI fun r3 σ3 =>
          ((r3 < v1 →
            (InR (r3 + 1) ∧
            (InR (v2 + (r3 + 1)) ∧
            (∃ n', n' < n ∧ Lp_Mo_laysRuns_20 σ0 n' [vR 12 0, vI v1, vI (v2 + (r3 + 1)), none] σ3)))) ∧
          (v1 ≤ r3 →
            (InR (v2 + r3) ∧
            (InR ((v2 + r3) + v1) ∧
            (S_Mo_leastPeriod [vR 12 0, vI v2, vI ((v2 + r3) + v1)] σ3 (kI fun r4 σ4 =>
              ((r4 ≠ v1 →
                (InR (r3 + 1) ∧
                (InR (v2 + (r3 + 1)) ∧
                (∃ n', n' < n ∧ Lp_Mo_laysRuns_20 σ0 n' [vR 12 0, vI v1, vI (v2 + (r3 + 1)), none] σ4)))) ∧
              (r4 = v1 →
                (InR (v2 + r3) ∧
                (InR ((v2 + r3) + v1) ∧
                (S_Mo_comesRun [vR 12 0, vI v2, vI ((v2 + r3) + v1), vI v1] σ4 (kV fun σ5 =>
                  (InR (r3 + 1) ∧
                  (InR (v2 + (r3 + 1)) ∧
                  (∃ n', n' < n ∧ Lp_Mo_laysRuns_20 σ0 n' [vR 12 0, vI v1, vI (v2 + (r3 + 1)), none] σ5)))))))))))))))))))))))))))
theorem l_Mo_laysRuns_12 (σ0 : SS) (K : AV → SS → Prop) (hs0 : okS σ0) (hG : S_Mo_laysRuns [vR 12 0] σ0 K) (v1 : Int) (σ : SS) (hv1 : InR v1) (hs : okS σ) (n : Nat) (hn : n = (1000 * (1000 - v1)).toNat) (hQ : (Fr MrL σ0 σ) ∧ (1 ≤ v1 ∧ v1 ≤ 200) ∧ (mrq σ (mW σ0) (σ0 40 0 0) v1 0)) : VL_Mo_laysRuns_12 σ0 K v1 σ n := by
  unfold VL_Mo_laysRuns_12
  obtain ⟨⟨hM, hC⟩, hG⟩ := hG
  obtain ⟨q0, q1, q2⟩ := hQ
  obtain ⟨w1, w2⟩ := mrF q0
  have hb := hM.n
  refine ⟨(by omega), ?_⟩
  intro _ _
  have z := w2
  refine ⟨fun c1 => ?_, fun c1 => ?_⟩
  · skip
    refine hG _ q0 ?_
    unfold MrV
    rw [w1, w2]
    exact MRq_end q2 (by omega)
  · skip
    refine ⟨_, ?_, _, _, rfl, rfl, ?_⟩
    · omega
    · refine ⟨?_, ?_, ?_, ?_⟩
      · first | rfl | assumption | omega
      · first | rfl | assumption | omega
      · first | rfl | assumption | omega
      · first | rfl | assumption | omega
theorem l_Mo_laysRuns_20 (σ0 : SS) (K : AV → SS → Prop) (hs0 : okS σ0) (hG : S_Mo_laysRuns [vR 12 0] σ0 K) (v1 : Int) (v2 : Int) (σ : SS) (hv1 : InR v1) (hv2 : InR v2) (hs : okS σ) (n : Nat) (hn : n = (1000 * (1000 - v1) - v2 - 1).toNat) (hQ : (Fr MrL σ0 σ) ∧ ((1 ≤ v1 ∧ 2 * v1 ≤ (σ0 40 0 0)) ∧ 0 ≤ v2 ∧ v2 ≤ (σ0 40 0 0) + 1) ∧ (mrq σ (mW σ0) (σ0 40 0 0) v1 v2) ∧ (v2 = 0 ∨ mW σ0 (v2 - 1) ≠ mW σ0 (v2 - 1 + v1))) : VL_Mo_laysRuns_20 σ0 K v1 v2 σ n := by
  unfold VL_Mo_laysRuns_20
  obtain ⟨⟨hM, hC⟩, hG⟩ := hG
  obtain ⟨q0, ⟨q1, q1b⟩, q2, q3⟩ := hQ
  obtain ⟨w1, w2⟩ := mrF q0
  have hb := hM.n
  have few := MRq_few q2 hb.2
  have hu : ∀ x, 0 ≤ x → x < (σ0 40 0 0) → 0 ≤ mW σ0 x := fun x x0 x1 => (hM.2 x x0 x1).1
  have ho : ∀ x, (σ0 40 0 0) ≤ x → mW σ0 x = -1 := fun x x0 => if_neg (by omega)
  refine ⟨(by omega), ?_⟩
  intro _ _
  refine ⟨fun c1 => ?_, fun c1 => ?_⟩
  · skip
    refine ⟨(by omega), ?_⟩
    refine ⟨_, ?_, _, rfl, rfl, ?_⟩
    · omega
    · refine ⟨?_, ?_, ?_⟩
      · first | rfl | assumption | omega
      · first | rfl | assumption | omega
      · exact MRq_gap q2 (by omega)
  · skip
    refine ⟨(by omega), ?_⟩
    intro _ _
    refine ⟨(by omega), ?_⟩
    refine ⟨(by omega), ?_⟩
    refine ⟨(by omega), ?_⟩
    intro _ _
    generalize hc : lceF (mW σ) ((σ 40 0 0) - v2 - v1).toNat v2 (v2 + v1) = c
    rw [w1, w2] at hc
    obtain ⟨⟨k1, k2⟩, k3, k4⟩ := mr_at hu ho q1.1 q1b.1 (by omega) q3 hc.symm
    refine ⟨fun c2 => ?_, fun c2 => ?_⟩
    · skip
      refine ⟨(by omega), ?_⟩
      refine ⟨(by omega), ?_⟩
      refine ⟨_, ?_, _, _, rfl, rfl, ?_⟩
      · omega
      · refine ⟨?_, ?_, ?_, ?_⟩
        · first | rfl | assumption | omega
        · first | rfl | assumption | omega
        · rw [show v2 + (c + 1) = v2 + c + 1 by omega]; exact mr_skip q2 k3 k4 (Or.inl (by omega))
        · rw [show v2 + (c + 1) - 1 = v2 + c by omega]; exact Or.inr k4
    · skip
      refine ⟨(by omega), ?_⟩
      refine ⟨(by omega), ?_⟩
      refine ⟨(by exact ⟨mrM hM q0, by omega, by omega, by omega⟩), (fun r3 h3a h3b => ?_)⟩
      intro _ _
      have lp := h3b
      rw [w1] at lp
      have is := mr_is q1.1 k3 (by omega) k4 (by omega) lp
      refine ⟨fun c4 => ?_, fun c4 => ?_⟩
      · skip
        refine ⟨(by omega), ?_⟩
        refine ⟨(by omega), ?_⟩
        refine ⟨_, ?_, _, _, rfl, rfl, ?_⟩
        · omega
        · refine ⟨?_, ?_, ?_, ?_⟩
          · first | rfl | assumption | omega
          · first | rfl | assumption | omega
          · rw [show v2 + (c + 1) = v2 + c + 1 by omega]; exact mr_skip q2 k3 k4 (Or.inr (fun z => (by assumption : ¬ _ = v1) (is.mpr z)))
          · rw [show v2 + (c + 1) - 1 = v2 + c by omega]; exact Or.inr k4
      · skip
        refine ⟨(by omega), ?_⟩
        refine ⟨(by omega), ?_⟩
        refine ⟨(by exact ⟨⟨by omega, by omega⟩, q2.2.2.2, mrq_not q2⟩), (fun σ5 h5a h5b h5c h5d => ?_)⟩
        intro _
        refine ⟨(by omega), ?_⟩
        refine ⟨(by omega), ?_⟩
        refine ⟨_, ?_, _, _, rfl, rfl, ?_⟩
        · omega
        · refine ⟨?_, ?_, ?_, ?_⟩
          · exact Fr_trans q0 (Fr_mono h5a (by simp [MrR, MrL]))
          · first | rfl | assumption | omega
          · rw [show v2 + (c + 1) = v2 + c + 1 by omega]
            unfold mrq
            rw [h5b]
            exact mr_new q2 k3 k4 (is.mp (by assumption)) h5c h5d
          · rw [show v2 + (c + 1) - 1 = v2 + c by omega]; exact Or.inr k4
theorem e_Mo_laysRuns (σ : SS) (K : AV → SS → Prop) (hs : okS σ) (hG : S_Mo_laysRuns [vR 12 0] σ K) : VE_Mo_laysRuns σ K := by
  unfold VE_Mo_laysRuns
  obtain ⟨⟨hM, hC⟩, hG⟩ := hG
  refine ⟨fun c1 => ?_, fun c1 => ?_⟩
  · skip
    refine ⟨(by omega), fun σ2 e2 => ?_⟩
    refine fun σ3 e3 => ?_
    refine ⟨_, _, rfl, rfl, ?_⟩
    refine ⟨?_, ?_, ?_⟩
    · rw [e3, e2]; exact Fr_trans (Fr_u3 (by simp [MrL])) (Fr_u3 (by simp [MrL]))
    · first | rfl | assumption | omega
    · unfold mrq
      rw [e3, u3_s]
      exact ⟨Int.le_refl _, fun k k0 k1 => by omega, fun x j q r z => by
        have := r.1
        rcases z with z | z <;> omega, fun k l k0 k1 k2 => by omega⟩
  · skip
    exact hG _ Fr_refl (hC (by assumption))
theorem H_Mo_laysRuns {d : Nat} (hd : 6 ≤ d) : Holds d I_Mo_laysRuns S_Mo_laysRuns := by
  refine holds_of (d' := d - 1) (rt := 0) (cal := [(I_Mo_size, S_Mo_size), (I_Mo_common, S_Mo_common), (I_Mo_leastPeriod, S_Mo_leastPeriod), (I_Mo_comesRun, S_Mo_comesRun)]) (C := C_Mo_laysRuns) m_Mo_laysRuns o_Mo_laysRuns rfl rfl (by omega) ?_ ?_
  · intro x hx
    simp only [List.mem_cons, List.not_mem_nil, or_false] at hx
    rcases hx with rfl | rfl | rfl | rfl
    · exact H_Mo_size (by omega)
    · exact H_Mo_common (by omega)
    · exact H_Mo_leastPeriod (by omega)
    · exact H_Mo_comesRun (by omega)
  · intro as σ K has hσ hG
    have hG2 := hG
    unfold S_Mo_laysRuns at hG2
    split at hG2
    · skip
      refine ⟨Nat.le_of_ble_eq_true rfl, (Iv_Mo_laysRuns σ), ?_, 1000, ?_⟩
      · intro k n z L σ' hk hL hs hP
        unfold Iv_Mo_laysRuns at hk
        split at hk
        · cases hk
          obtain ⟨v1, rfl, hn, hQ⟩ := hP
          exact ⟨1000, l_Mo_laysRuns_12 σ K  hσ hG v1 σ' (hL _ (List.mem_of_getElem? (i := 1) rfl)) hs n hn hQ⟩
        · cases hk
          obtain ⟨v1, v2, rfl, hn, hQ⟩ := hP
          exact ⟨1000, l_Mo_laysRuns_20 σ K  hσ hG v1 v2 σ' (hL _ (List.mem_of_getElem? (i := 1) rfl)) (hL _ (List.mem_of_getElem? (i := 2) rfl)) hs n hn hQ⟩
        · cases hk
      · exact e_Mo_laysRuns σ K  hσ hG
    · exact hG2.elim
def S_Mo_lyndonAt : GS := fun as σ K => match as with
  | [some (.inr (.inr (12, 0))), some (.inl a1)] => (MoW σ ∧ MrV σ ∧ 0 ≤ a1 ∧ a1 < σ 586 0 0) ∧ ∀ r, fstL (mW σ) (mrf σ a1) (mrg σ a1) r → K (vI r) σ
  | _ => False
abbrev Lp_Mo_lyndonAt_16 (a1 : Int) (σ0 : SS) (n : Nat) (L : List AV) (σ : SS) : Prop := ∃ (v2 : Int) (v3 : Int), L = [vR 12 0, vI a1, vI v2, vI v3] ∧ n = (1000 - v3).toNat ∧ ((σ = σ0) ∧ (v2 = mrg σ0 a1) ∧ (mrf σ0 a1 ≤ v3 ∧ ∀ q, mrf σ0 a1 ≤ q → q < v3 → ¬ lynS (mW σ0) q (q + mrg σ0 a1)))
def Iv_Mo_lyndonAt (a1 : Int) (σ0 : SS) (k : Nat) : Option (List Nat × (Nat → List AV → SS → Prop)) := match k with
  | 16 => some ([], Lp_Mo_lyndonAt_16 a1 σ0)
  | _ => none
def VE_Mo_lyndonAt (a1 : Int) (σ : SS) (K : AV → SS → Prop) : Prop :=
  (InR (3 * a1) ∧
  (InR ((3 * a1) + 2) ∧
  ((0 ≤ ((3 * a1) + 2 : Int) ∧ ((3 * a1) + 2 : Int) < 720) ∧
  (InR (3 * a1) ∧
  ((0 ≤ (3 * a1 : Int) ∧ (3 * a1 : Int) < 720) ∧
  (∃ n', Lp_Mo_lyndonAt_16 a1 σ n' [vR 12 0, vI a1, vI (σ 44 0 ((3 * a1) + 2)), vI (σ 44 0 (3 * a1))] σ))))))
def VL_Mo_lyndonAt_16 (a1 : Int) (σ0 : SS) (K : AV → SS → Prop) (v2 : Int) (v3 : Int) (σ : SS) (n : Nat) : Prop :=
  (InR (v3 + v2) ∧
  (S_Mo_isLyndon [vR 12 0, vI v3, vI (v3 + v2), vI 1] σ (kI fun r1 σ1 =>
    ((r1 ≠ 0 →
      (K (vI v3) σ1)) ∧
    (r1 = 0 →
      (InR (v3 + 1) ∧
      (∃ n', n' < n ∧ Lp_Mo_lyndonAt_16 a1 σ0 n' [vR 12 0, vI a1, vI v2, vI (v3 + 1)] σ1)))))))
theorem l_Mo_lyndonAt_16 (a1 : Int) (σ0 : SS) (K : AV → SS → Prop) (ha1 : InR a1) (hs0 : okS σ0) (hG : S_Mo_lyndonAt [vR 12 0, vI a1] σ0 K) (v2 : Int) (v3 : Int) (σ : SS) (hv2 : InR v2) (hv3 : InR v3) (hs : okS σ) (n : Nat) (hn : n = (1000 - v3).toNat) (hQ : (σ = σ0) ∧ (v2 = mrg σ0 a1) ∧ (mrf σ0 a1 ≤ v3 ∧ ∀ q, mrf σ0 a1 ≤ q → q < v3 → ¬ lynS (mW σ0) q (q + mrg σ0 a1))) : VL_Mo_lyndonAt_16 a1 σ0 K v2 v3 σ n := by
  unfold VL_Mo_lyndonAt_16
  obtain ⟨⟨hM, hV, h1, h2⟩, hG⟩ := hG
  obtain ⟨rfl, rfl, q1, q2⟩ := hQ
  have hb := hM.n
  have few := MrV_few hV hM
  have rk := hV.1.2.1 a1 h1 h2
  have r0 := rk.1
  obtain ⟨y, y0, y1, y2⟩ := run_root (v := mW σ) (fun a b => Iff.rfl) rk
  have le : v3 ≤ y := by
    rcases (by omega : v3 ≤ y ∨ y < v3) with z | z
    · exact z
    · exact absurd y2 (q2 y (by omega) z)
  generalize eg : mrg σ a1 = G at *
  generalize ef : mrf σ a1 = F at *
  refine ⟨(by omega), ?_⟩
  refine ⟨(by exact ⟨hM, by omega, by omega, by omega⟩), ?_⟩
  refine bS_b1 (fun p1 _ => ?_) (fun p1 _ => ?_)
  · skip
    exact hG _ ⟨q1, p1, q2⟩
  · skip
    refine ⟨(by omega), ?_⟩
    refine ⟨_, ?_, _, _, rfl, rfl, ?_⟩
    · omega
    · refine ⟨?_, ?_, ?_⟩
      · first | rfl | assumption | omega
      · exact eg.symm
      · rw [ef, eg]
        refine ⟨by omega, fun q q0 q1 => ?_⟩
        rcases (by omega : q < v3 ∨ q = v3) with z | z
        · exact q2 q q0 z
        · rw [z]; exact p1
theorem e_Mo_lyndonAt (a1 : Int) (σ : SS) (K : AV → SS → Prop) (ha1 : InR a1) (hs : okS σ) (hG : S_Mo_lyndonAt [vR 12 0, vI a1] σ K) : VE_Mo_lyndonAt a1 σ K := by
  unfold VE_Mo_lyndonAt
  obtain ⟨⟨hM, hV, h1, h2⟩, hG⟩ := hG
  have hb := hM.n
  have few := MrV_few hV hM
  refine ⟨(by omega), ?_⟩
  refine ⟨(by omega), ?_⟩
  refine ⟨(by omega), ?_⟩
  refine ⟨(by omega), ?_⟩
  refine ⟨(by omega), ?_⟩
  refine ⟨_, _, _, rfl, rfl, ?_⟩
  refine ⟨?_, ?_, ?_⟩
  · first | rfl | assumption | omega
  · rfl
  · exact ⟨Int.le_refl _, fun q q0 q1 => absurd q1 (by unfold mrf at q0; omega)⟩
theorem H_Mo_lyndonAt {d : Nat} (hd : 4 ≤ d) : Holds d I_Mo_lyndonAt S_Mo_lyndonAt := by
  refine holds_of (d' := d - 1) (rt := 1) (cal := [(I_Mo_isLyndon, S_Mo_isLyndon)]) (C := C_Mo_lyndonAt) m_Mo_lyndonAt o_Mo_lyndonAt rfl rfl (by omega) ?_ ?_
  · intro x hx
    simp only [List.mem_cons, List.not_mem_nil, or_false] at hx
    subst hx
    exact H_Mo_isLyndon (by omega)
  · intro as σ K has hσ hG
    have hG2 := hG
    unfold S_Mo_lyndonAt at hG2
    split at hG2
    · next a1 =>
      refine ⟨Nat.le_of_ble_eq_true rfl, (Iv_Mo_lyndonAt a1 σ), ?_, 1000, ?_⟩
      · intro k n z L σ' hk hL hs hP
        unfold Iv_Mo_lyndonAt at hk
        split at hk
        · cases hk
          obtain ⟨v2, v3, rfl, hn, hQ⟩ := hP
          exact ⟨1000, l_Mo_lyndonAt_16 a1 σ K (has _ (List.mem_of_getElem? (i := 1) rfl)) hσ hG v2 v3 σ' (hL _ (List.mem_of_getElem? (i := 2) rfl)) (hL _ (List.mem_of_getElem? (i := 3) rfl)) hs n hn hQ⟩
        · cases hk
      · exact e_Mo_lyndonAt a1 σ K (has _ (List.mem_of_getElem? (i := 1) rfl)) hσ hG
    · exact hG2.elim
def S_Mo_exponent : GS := fun as σ K => match as with
  | [some (.inr (.inr (12, 0))), some (.inl a1)] => ((0 ≤ a1 ∧ a1 ≤ 200) ∧ 0 ≤ mrt σ a1 - mrf σ a1 ∧ mrt σ a1 - mrf σ a1 ≤ 120 ∧ 1 ≤ mrg σ a1) ∧ K (vI (Int.tdiv ((mrt σ a1 - mrf σ a1) * 1000) (mrg σ a1))) σ
  | _ => False
def VE_Mo_exponent (a1 : Int) (σ : SS) (K : AV → SS → Prop) : Prop :=
  (InR (3 * a1) ∧
  (InR ((3 * a1) + 1) ∧
  ((0 ≤ ((3 * a1) + 1 : Int) ∧ ((3 * a1) + 1 : Int) < 720) ∧
  (InR (3 * a1) ∧
  ((0 ≤ (3 * a1 : Int) ∧ (3 * a1 : Int) < 720) ∧
  (InR ((σ 44 0 ((3 * a1) + 1)) - (σ 44 0 (3 * a1))) ∧
  (InR (((σ 44 0 ((3 * a1) + 1)) - (σ 44 0 (3 * a1))) * 1000) ∧
  (InR (3 * a1) ∧
  (InR ((3 * a1) + 2) ∧
  ((0 ≤ ((3 * a1) + 2 : Int) ∧ ((3 * a1) + 2 : Int) < 720) ∧
  (((σ 44 0 ((3 * a1) + 2) : Int) ≠ 0 ∧ InR (Int.tdiv (((σ 44 0 ((3 * a1) + 1)) - (σ 44 0 (3 * a1))) * 1000) (σ 44 0 ((3 * a1) + 2)))) ∧
  (K (vI (Int.tdiv (((σ 44 0 ((3 * a1) + 1)) - (σ 44 0 (3 * a1))) * 1000) (σ 44 0 ((3 * a1) + 2)))) σ))))))))))))
theorem e_Mo_exponent (a1 : Int) (σ : SS) (K : AV → SS → Prop) (ha1 : InR a1) (hs : okS σ) (hG : S_Mo_exponent [vR 12 0, vI a1] σ K) : VE_Mo_exponent a1 σ K := by
  unfold VE_Mo_exponent
  obtain ⟨⟨h1, h2, h3, h4⟩, hG⟩ := hG
  have td := tdiv_in (a := (mrt σ a1 - mrf σ a1) * 1000) (b := mrg σ a1) (by omega) (by omega) h4
  unfold mrt mrf at h2 h3
  unfold mrg at h4
  refine ⟨(by omega), ?_⟩
  refine ⟨(by omega), ?_⟩
  refine ⟨(by omega), ?_⟩
  refine ⟨(by omega), ?_⟩
  refine ⟨(by omega), ?_⟩
  refine ⟨(by omega), ?_⟩
  refine ⟨(by omega), ?_⟩
  refine ⟨(by omega), ?_⟩
  refine ⟨(by omega), ?_⟩
  refine ⟨(by omega), ?_⟩
  refine ⟨(by exact ⟨by omega, td⟩), ?_⟩
  exact hG
theorem H_Mo_exponent {d : Nat} (hd : 1 ≤ d) : Holds d I_Mo_exponent S_Mo_exponent := by
  refine holds_of (d' := d - 1) (rt := 1) (cal := []) (C := C_Mo_exponent) m_Mo_exponent o_Mo_exponent rfl rfl (by omega) ?_ ?_
  · intro x hx
    cases hx
  · intro as σ K has hσ hG
    have hG2 := hG
    unfold S_Mo_exponent at hG2
    split at hG2
    · next a1 =>
      refine ⟨Nat.le_of_ble_eq_true rfl, (fun _ => none), ?_, 1000, ?_⟩
      · intro k n z L σ' hk hL hs hP
        cases hk
      · exact e_Mo_exponent a1 σ K (has _ (List.mem_of_getElem? (i := 1) rfl)) hσ hG
    · exact hG2.elim
def S_Mo_run : GS := fun as σ K => match as with
  | [some (.inr (.inr (12, 0))), some (.inl a1), some (.inl a2)] => (MoW σ ∧ MrC σ) ∧ ∀ σ' r, Fr MrL σ σ' → MrC σ' → RRun (mW σ) (σ 40 0 0) a1 a2 r → K (vI r) σ'
  | _ => False
def VE_Mo_run (a1 : Int) (a2 : Int) (σ : SS) (K : AV → SS → Prop) : Prop :=
  (S_Mo_laysRuns [vR 12 0] σ (kV fun σ1 =>
    ((a1 ≠ (-1) →
      (InR ((σ1 586 0 0) - 1) ∧
      (S_Mo_in [vL a1, vL 0, vL ((σ1 586 0 0) - 1)] σ1 (kI fun r2 σ2 =>
        ((r2 ≠ 0 →
          (((a2 = 0 →
            (InR (3 * a1) ∧
            (InR ((3 * a1) + a2) ∧
            ((0 ≤ ((3 * a1) + a2 : Int) ∧ ((3 * a1) + a2 : Int) < 720) ∧
            (K (vI (σ2 44 0 ((3 * a1) + a2))) σ2))))) ∧
          ((a2 = 1 →
            (InR (3 * a1) ∧
            (InR ((3 * a1) + a2) ∧
            ((0 ≤ ((3 * a1) + a2 : Int) ∧ ((3 * a1) + a2 : Int) < 720) ∧
            (K (vI (σ2 44 0 ((3 * a1) + a2))) σ2))))) ∧
          ((a2 = 2 →
            (InR (3 * a1) ∧
            (InR ((3 * a1) + a2) ∧
            ((0 ≤ ((3 * a1) + a2 : Int) ∧ ((3 * a1) + a2 : Int) < 720) ∧
            (K (vI (σ2 44 0 ((3 * a1) + a2))) σ2))))) ∧
          ((a2 = 3 →
            (S_Mo_lyndonAt [vR 12 0, vI a1] σ2 (kI fun r3 σ3 =>
              (K (vI r3) σ3)))) ∧
          ((a2 = 4 →
            (S_Mo_exponent [vR 12 0, vI a1] σ2 (kI fun r4 σ4 =>
              (K (vI r4) σ4)))) ∧
          True))))) ∧
          (a2 < 0 ∨ 4 < a2 →
            (K (vI (-1)) σ2)))) ∧
        (r2 = 0 →
          (K (vI (-1)) σ2))))))) ∧
    (a1 = (-1) →
      ((a2 ≠ 0 →
        (InR ((σ1 586 0 0) - 1) ∧
        (S_Mo_in [vL a1, vL 0, vL ((σ1 586 0 0) - 1)] σ1 (kI fun r5 σ5 =>
          ((r5 ≠ 0 →
            (((a2 = 0 →
              (InR (3 * a1) ∧
              (InR ((3 * a1) + a2) ∧
              ((0 ≤ ((3 * a1) + a2 : Int) ∧ ((3 * a1) + a2 : Int) < 720) ∧
              (K (vI (σ5 44 0 ((3 * a1) + a2))) σ5))))) ∧
            ((a2 = 1 →
              (InR (3 * a1) ∧
              (InR ((3 * a1) + a2) ∧
              ((0 ≤ ((3 * a1) + a2 : Int) ∧ ((3 * a1) + a2 : Int) < 720) ∧
              (K (vI (σ5 44 0 ((3 * a1) + a2))) σ5))))) ∧
            ((a2 = 2 →
              (InR (3 * a1) ∧
              (InR ((3 * a1) + a2) ∧
              ((0 ≤ ((3 * a1) + a2 : Int) ∧ ((3 * a1) + a2 : Int) < 720) ∧
              (K (vI (σ5 44 0 ((3 * a1) + a2))) σ5))))) ∧
            ((a2 = 3 →
              (S_Mo_lyndonAt [vR 12 0, vI a1] σ5 (kI fun r6 σ6 =>
                (K (vI r6) σ6)))) ∧
            ((a2 = 4 →
              (S_Mo_exponent [vR 12 0, vI a1] σ5 (kI fun r7 σ7 =>
                (K (vI r7) σ7)))) ∧
            True))))) ∧
            (a2 < 0 ∨ 4 < a2 →
              (K (vI (-1)) σ5)))) ∧
          (r5 = 0 →
            (K (vI (-1)) σ5))))))) ∧
      (a2 = 0 →
        (K (vI (σ1 586 0 0)) σ1)))))))
theorem e_Mo_run (a1 : Int) (a2 : Int) (σ : SS) (K : AV → SS → Prop) (ha1 : InR a1) (ha2 : InR a2) (hs : okS σ) (hG : S_Mo_run [vR 12 0, vI a1, vI a2] σ K) : VE_Mo_run a1 a2 σ K := by
  unfold VE_Mo_run
  obtain ⟨⟨hM, hC⟩, hG⟩ := hG
  refine ⟨(by exact ⟨hM, hC⟩), (fun σ1 h1a h1b => ?_)⟩
  intro _
  have fr := h1a
  have rv := h1b
  have rc : MrC σ1 := fun _ => rv
  obtain ⟨w1, w2⟩ := mrF fr
  have few := MrV_few rv (mrM hM fr)
  have rw_ := rv
  unfold MrV at rw_
  rw [w1, w2] at rw_
  have bad : ¬ (a1 = -1 ∧ a2 = 0) → ¬ (0 ≤ a1 ∧ a1 < σ1 586 0 0) → K (vI (-1)) σ1 := fun x y => hG _ _ fr rc ⟨_, _, _, _, rw_.1, rw_.2, Or.inr (Or.inl ⟨x, y, rfl⟩)⟩
  have got : ∀ r, ¬ (a1 = -1 ∧ a2 = 0) → 0 ≤ a1 ∧ a1 < σ1 586 0 0 → _ → K (vI r) σ1 := fun r x y z => hG _ r fr rc ⟨_, _, _, _, rw_.1, rw_.2, Or.inr (Or.inr ⟨x, y, z⟩)⟩
  have rb : 0 ≤ a1 ∧ a1 < σ1 586 0 0 → 0 ≤ mrt σ1 a1 - mrf σ1 a1 ∧ mrt σ1 a1 - mrf σ1 a1 ≤ 120 ∧ 1 ≤ mrg σ1 a1 := fun x => by
    have rk := rw_.1.2.1 a1 x.1 x.2
    have r0 := rk.1
    have hb := hM.n
    omega
  have i0 : a2 = 0 → (σ1 44 0 (3 * a1 + a2)) = mrf σ1 a1 := fun z => by rw [z, show 3 * a1 + 0 = 3 * a1 by omega]; rfl
  have i1 : a2 = 1 → (σ1 44 0 (3 * a1 + a2)) = mrt σ1 a1 := fun z => by rw [z]; rfl
  have i2 : a2 = 2 → (σ1 44 0 (3 * a1 + a2)) = mrg σ1 a1 := fun z => by rw [z]; rfl
  refine ⟨fun c2 => ?_, fun c2 => ?_⟩
  · skip
    refine ⟨(by omega), ?_⟩
    refine bS_b1 (fun p3 _ => ?_) (fun p3 _ => ?_)
    · skip
      refine ⟨⟨fun c4 => ?_, fun c4 => ?_, fun c4 => ?_, fun c4 => ?_, fun c4 => ?_, trivial⟩, fun c4 => ?_⟩
      · skip
        refine ⟨(by omega), ?_⟩
        refine ⟨(by omega), ?_⟩
        refine ⟨(by omega), ?_⟩
        first
          | exact bad (by omega) (by omega)
          | exact got _ (by omega) (by omega) (Or.inl ⟨by assumption, i0 (by assumption)⟩)
          | exact got _ (by omega) (by omega) (Or.inr (Or.inl ⟨by assumption, i1 (by assumption)⟩))
          | exact got _ (by omega) (by omega) (Or.inr (Or.inr (Or.inl ⟨by assumption, i2 (by assumption)⟩)))
          | exact got _ (by omega) (by omega) (Or.inr (Or.inr (Or.inr (Or.inl ⟨by assumption, ly⟩))))
          | exact got _ (by omega) (by omega) (Or.inr (Or.inr (Or.inr (Or.inr (Or.inl ⟨by assumption, rfl⟩)))))
          | exact got _ (by omega) (by omega) (Or.inr (Or.inr (Or.inr (Or.inr (Or.inr ⟨by omega, rfl⟩)))))
          | exact hG _ _ fr rc ⟨_, _, _, _, rw_.1, rw_.2, Or.inl ⟨by omega, by omega, rfl⟩⟩
      · skip
        refine ⟨(by omega), ?_⟩
        refine ⟨(by omega), ?_⟩
        refine ⟨(by omega), ?_⟩
        first
          | exact bad (by omega) (by omega)
          | exact got _ (by omega) (by omega) (Or.inl ⟨by assumption, i0 (by assumption)⟩)
          | exact got _ (by omega) (by omega) (Or.inr (Or.inl ⟨by assumption, i1 (by assumption)⟩))
          | exact got _ (by omega) (by omega) (Or.inr (Or.inr (Or.inl ⟨by assumption, i2 (by assumption)⟩)))
          | exact got _ (by omega) (by omega) (Or.inr (Or.inr (Or.inr (Or.inl ⟨by assumption, ly⟩))))
          | exact got _ (by omega) (by omega) (Or.inr (Or.inr (Or.inr (Or.inr (Or.inl ⟨by assumption, rfl⟩)))))
          | exact got _ (by omega) (by omega) (Or.inr (Or.inr (Or.inr (Or.inr (Or.inr ⟨by omega, rfl⟩)))))
          | exact hG _ _ fr rc ⟨_, _, _, _, rw_.1, rw_.2, Or.inl ⟨by omega, by omega, rfl⟩⟩
      · skip
        refine ⟨(by omega), ?_⟩
        refine ⟨(by omega), ?_⟩
        refine ⟨(by omega), ?_⟩
        first
          | exact bad (by omega) (by omega)
          | exact got _ (by omega) (by omega) (Or.inl ⟨by assumption, i0 (by assumption)⟩)
          | exact got _ (by omega) (by omega) (Or.inr (Or.inl ⟨by assumption, i1 (by assumption)⟩))
          | exact got _ (by omega) (by omega) (Or.inr (Or.inr (Or.inl ⟨by assumption, i2 (by assumption)⟩)))
          | exact got _ (by omega) (by omega) (Or.inr (Or.inr (Or.inr (Or.inl ⟨by assumption, ly⟩))))
          | exact got _ (by omega) (by omega) (Or.inr (Or.inr (Or.inr (Or.inr (Or.inl ⟨by assumption, rfl⟩)))))
          | exact got _ (by omega) (by omega) (Or.inr (Or.inr (Or.inr (Or.inr (Or.inr ⟨by omega, rfl⟩)))))
          | exact hG _ _ fr rc ⟨_, _, _, _, rw_.1, rw_.2, Or.inl ⟨by omega, by omega, rfl⟩⟩
      · skip
        refine ⟨(by exact ⟨mrM hM fr, rv, by omega, by omega⟩), (fun r5 h5a => ?_)⟩
        intro _ _
        have ly := h5a
        rw [w1] at ly
        first
          | exact bad (by omega) (by omega)
          | exact got _ (by omega) (by omega) (Or.inl ⟨by assumption, i0 (by assumption)⟩)
          | exact got _ (by omega) (by omega) (Or.inr (Or.inl ⟨by assumption, i1 (by assumption)⟩))
          | exact got _ (by omega) (by omega) (Or.inr (Or.inr (Or.inl ⟨by assumption, i2 (by assumption)⟩)))
          | exact got _ (by omega) (by omega) (Or.inr (Or.inr (Or.inr (Or.inl ⟨by assumption, ly⟩))))
          | exact got _ (by omega) (by omega) (Or.inr (Or.inr (Or.inr (Or.inr (Or.inl ⟨by assumption, rfl⟩)))))
          | exact got _ (by omega) (by omega) (Or.inr (Or.inr (Or.inr (Or.inr (Or.inr ⟨by omega, rfl⟩)))))
          | exact hG _ _ fr rc ⟨_, _, _, _, rw_.1, rw_.2, Or.inl ⟨by omega, by omega, rfl⟩⟩
      · skip
        refine ⟨(by exact ⟨by omega, rb (by omega)⟩), ?_⟩
        intro _ _
        first
          | exact bad (by omega) (by omega)
          | exact got _ (by omega) (by omega) (Or.inl ⟨by assumption, i0 (by assumption)⟩)
          | exact got _ (by omega) (by omega) (Or.inr (Or.inl ⟨by assumption, i1 (by assumption)⟩))
          | exact got _ (by omega) (by omega) (Or.inr (Or.inr (Or.inl ⟨by assumption, i2 (by assumption)⟩)))
          | exact got _ (by omega) (by omega) (Or.inr (Or.inr (Or.inr (Or.inl ⟨by assumption, ly⟩))))
          | exact got _ (by omega) (by omega) (Or.inr (Or.inr (Or.inr (Or.inr (Or.inl ⟨by assumption, rfl⟩)))))
          | exact got _ (by omega) (by omega) (Or.inr (Or.inr (Or.inr (Or.inr (Or.inr ⟨by omega, rfl⟩)))))
          | exact hG _ _ fr rc ⟨_, _, _, _, rw_.1, rw_.2, Or.inl ⟨by omega, by omega, rfl⟩⟩
      · skip
        first
          | exact bad (by omega) (by omega)
          | exact got _ (by omega) (by omega) (Or.inl ⟨by assumption, i0 (by assumption)⟩)
          | exact got _ (by omega) (by omega) (Or.inr (Or.inl ⟨by assumption, i1 (by assumption)⟩))
          | exact got _ (by omega) (by omega) (Or.inr (Or.inr (Or.inl ⟨by assumption, i2 (by assumption)⟩)))
          | exact got _ (by omega) (by omega) (Or.inr (Or.inr (Or.inr (Or.inl ⟨by assumption, ly⟩))))
          | exact got _ (by omega) (by omega) (Or.inr (Or.inr (Or.inr (Or.inr (Or.inl ⟨by assumption, rfl⟩)))))
          | exact got _ (by omega) (by omega) (Or.inr (Or.inr (Or.inr (Or.inr (Or.inr ⟨by omega, rfl⟩)))))
          | exact hG _ _ fr rc ⟨_, _, _, _, rw_.1, rw_.2, Or.inl ⟨by omega, by omega, rfl⟩⟩
    · skip
      first
        | exact bad (by omega) (by omega)
        | exact got _ (by omega) (by omega) (Or.inl ⟨by assumption, i0 (by assumption)⟩)
        | exact got _ (by omega) (by omega) (Or.inr (Or.inl ⟨by assumption, i1 (by assumption)⟩))
        | exact got _ (by omega) (by omega) (Or.inr (Or.inr (Or.inl ⟨by assumption, i2 (by assumption)⟩)))
        | exact got _ (by omega) (by omega) (Or.inr (Or.inr (Or.inr (Or.inl ⟨by assumption, ly⟩))))
        | exact got _ (by omega) (by omega) (Or.inr (Or.inr (Or.inr (Or.inr (Or.inl ⟨by assumption, rfl⟩)))))
        | exact got _ (by omega) (by omega) (Or.inr (Or.inr (Or.inr (Or.inr (Or.inr ⟨by omega, rfl⟩)))))
        | exact hG _ _ fr rc ⟨_, _, _, _, rw_.1, rw_.2, Or.inl ⟨by omega, by omega, rfl⟩⟩
  · skip
    refine ⟨fun c3 => ?_, fun c3 => ?_⟩
    · skip
      refine ⟨(by omega), ?_⟩
      refine bS_b1 (fun p4 _ => ?_) (fun p4 _ => ?_)
      · skip
        refine ⟨⟨fun c5 => ?_, fun c5 => ?_, fun c5 => ?_, fun c5 => ?_, fun c5 => ?_, trivial⟩, fun c5 => ?_⟩
        · skip
          refine ⟨(by omega), ?_⟩
          refine ⟨(by omega), ?_⟩
          refine ⟨(by omega), ?_⟩
          first
            | exact bad (by omega) (by omega)
            | exact got _ (by omega) (by omega) (Or.inl ⟨by assumption, i0 (by assumption)⟩)
            | exact got _ (by omega) (by omega) (Or.inr (Or.inl ⟨by assumption, i1 (by assumption)⟩))
            | exact got _ (by omega) (by omega) (Or.inr (Or.inr (Or.inl ⟨by assumption, i2 (by assumption)⟩)))
            | exact got _ (by omega) (by omega) (Or.inr (Or.inr (Or.inr (Or.inl ⟨by assumption, ly⟩))))
            | exact got _ (by omega) (by omega) (Or.inr (Or.inr (Or.inr (Or.inr (Or.inl ⟨by assumption, rfl⟩)))))
            | exact got _ (by omega) (by omega) (Or.inr (Or.inr (Or.inr (Or.inr (Or.inr ⟨by omega, rfl⟩)))))
            | exact hG _ _ fr rc ⟨_, _, _, _, rw_.1, rw_.2, Or.inl ⟨by omega, by omega, rfl⟩⟩
        · skip
          refine ⟨(by omega), ?_⟩
          refine ⟨(by omega), ?_⟩
          refine ⟨(by omega), ?_⟩
          first
            | exact bad (by omega) (by omega)
            | exact got _ (by omega) (by omega) (Or.inl ⟨by assumption, i0 (by assumption)⟩)
            | exact got _ (by omega) (by omega) (Or.inr (Or.inl ⟨by assumption, i1 (by assumption)⟩))
            | exact got _ (by omega) (by omega) (Or.inr (Or.inr (Or.inl ⟨by assumption, i2 (by assumption)⟩)))
            | exact got _ (by omega) (by omega) (Or.inr (Or.inr (Or.inr (Or.inl ⟨by assumption, ly⟩))))
            | exact got _ (by omega) (by omega) (Or.inr (Or.inr (Or.inr (Or.inr (Or.inl ⟨by assumption, rfl⟩)))))
            | exact got _ (by omega) (by omega) (Or.inr (Or.inr (Or.inr (Or.inr (Or.inr ⟨by omega, rfl⟩)))))
            | exact hG _ _ fr rc ⟨_, _, _, _, rw_.1, rw_.2, Or.inl ⟨by omega, by omega, rfl⟩⟩
        · skip
          refine ⟨(by omega), ?_⟩
          refine ⟨(by omega), ?_⟩
          refine ⟨(by omega), ?_⟩
          first
            | exact bad (by omega) (by omega)
            | exact got _ (by omega) (by omega) (Or.inl ⟨by assumption, i0 (by assumption)⟩)
            | exact got _ (by omega) (by omega) (Or.inr (Or.inl ⟨by assumption, i1 (by assumption)⟩))
            | exact got _ (by omega) (by omega) (Or.inr (Or.inr (Or.inl ⟨by assumption, i2 (by assumption)⟩)))
            | exact got _ (by omega) (by omega) (Or.inr (Or.inr (Or.inr (Or.inl ⟨by assumption, ly⟩))))
            | exact got _ (by omega) (by omega) (Or.inr (Or.inr (Or.inr (Or.inr (Or.inl ⟨by assumption, rfl⟩)))))
            | exact got _ (by omega) (by omega) (Or.inr (Or.inr (Or.inr (Or.inr (Or.inr ⟨by omega, rfl⟩)))))
            | exact hG _ _ fr rc ⟨_, _, _, _, rw_.1, rw_.2, Or.inl ⟨by omega, by omega, rfl⟩⟩
        · skip
          refine ⟨(by exact ⟨mrM hM fr, rv, by omega, by omega⟩), (fun r6 h6a => ?_)⟩
          intro _ _
          have ly := h6a
          rw [w1] at ly
          first
            | exact bad (by omega) (by omega)
            | exact got _ (by omega) (by omega) (Or.inl ⟨by assumption, i0 (by assumption)⟩)
            | exact got _ (by omega) (by omega) (Or.inr (Or.inl ⟨by assumption, i1 (by assumption)⟩))
            | exact got _ (by omega) (by omega) (Or.inr (Or.inr (Or.inl ⟨by assumption, i2 (by assumption)⟩)))
            | exact got _ (by omega) (by omega) (Or.inr (Or.inr (Or.inr (Or.inl ⟨by assumption, ly⟩))))
            | exact got _ (by omega) (by omega) (Or.inr (Or.inr (Or.inr (Or.inr (Or.inl ⟨by assumption, rfl⟩)))))
            | exact got _ (by omega) (by omega) (Or.inr (Or.inr (Or.inr (Or.inr (Or.inr ⟨by omega, rfl⟩)))))
            | exact hG _ _ fr rc ⟨_, _, _, _, rw_.1, rw_.2, Or.inl ⟨by omega, by omega, rfl⟩⟩
        · skip
          refine ⟨(by exact ⟨by omega, rb (by omega)⟩), ?_⟩
          intro _ _
          first
            | exact bad (by omega) (by omega)
            | exact got _ (by omega) (by omega) (Or.inl ⟨by assumption, i0 (by assumption)⟩)
            | exact got _ (by omega) (by omega) (Or.inr (Or.inl ⟨by assumption, i1 (by assumption)⟩))
            | exact got _ (by omega) (by omega) (Or.inr (Or.inr (Or.inl ⟨by assumption, i2 (by assumption)⟩)))
            | exact got _ (by omega) (by omega) (Or.inr (Or.inr (Or.inr (Or.inl ⟨by assumption, ly⟩))))
            | exact got _ (by omega) (by omega) (Or.inr (Or.inr (Or.inr (Or.inr (Or.inl ⟨by assumption, rfl⟩)))))
            | exact got _ (by omega) (by omega) (Or.inr (Or.inr (Or.inr (Or.inr (Or.inr ⟨by omega, rfl⟩)))))
            | exact hG _ _ fr rc ⟨_, _, _, _, rw_.1, rw_.2, Or.inl ⟨by omega, by omega, rfl⟩⟩
        · skip
          first
            | exact bad (by omega) (by omega)
            | exact got _ (by omega) (by omega) (Or.inl ⟨by assumption, i0 (by assumption)⟩)
            | exact got _ (by omega) (by omega) (Or.inr (Or.inl ⟨by assumption, i1 (by assumption)⟩))
            | exact got _ (by omega) (by omega) (Or.inr (Or.inr (Or.inl ⟨by assumption, i2 (by assumption)⟩)))
            | exact got _ (by omega) (by omega) (Or.inr (Or.inr (Or.inr (Or.inl ⟨by assumption, ly⟩))))
            | exact got _ (by omega) (by omega) (Or.inr (Or.inr (Or.inr (Or.inr (Or.inl ⟨by assumption, rfl⟩)))))
            | exact got _ (by omega) (by omega) (Or.inr (Or.inr (Or.inr (Or.inr (Or.inr ⟨by omega, rfl⟩)))))
            | exact hG _ _ fr rc ⟨_, _, _, _, rw_.1, rw_.2, Or.inl ⟨by omega, by omega, rfl⟩⟩
      · skip
        first
          | exact bad (by omega) (by omega)
          | exact got _ (by omega) (by omega) (Or.inl ⟨by assumption, i0 (by assumption)⟩)
          | exact got _ (by omega) (by omega) (Or.inr (Or.inl ⟨by assumption, i1 (by assumption)⟩))
          | exact got _ (by omega) (by omega) (Or.inr (Or.inr (Or.inl ⟨by assumption, i2 (by assumption)⟩)))
          | exact got _ (by omega) (by omega) (Or.inr (Or.inr (Or.inr (Or.inl ⟨by assumption, ly⟩))))
          | exact got _ (by omega) (by omega) (Or.inr (Or.inr (Or.inr (Or.inr (Or.inl ⟨by assumption, rfl⟩)))))
          | exact got _ (by omega) (by omega) (Or.inr (Or.inr (Or.inr (Or.inr (Or.inr ⟨by omega, rfl⟩)))))
          | exact hG _ _ fr rc ⟨_, _, _, _, rw_.1, rw_.2, Or.inl ⟨by omega, by omega, rfl⟩⟩
    · skip
      first
        | exact bad (by omega) (by omega)
        | exact got _ (by omega) (by omega) (Or.inl ⟨by assumption, i0 (by assumption)⟩)
        | exact got _ (by omega) (by omega) (Or.inr (Or.inl ⟨by assumption, i1 (by assumption)⟩))
        | exact got _ (by omega) (by omega) (Or.inr (Or.inr (Or.inl ⟨by assumption, i2 (by assumption)⟩)))
        | exact got _ (by omega) (by omega) (Or.inr (Or.inr (Or.inr (Or.inl ⟨by assumption, ly⟩))))
        | exact got _ (by omega) (by omega) (Or.inr (Or.inr (Or.inr (Or.inr (Or.inl ⟨by assumption, rfl⟩)))))
        | exact got _ (by omega) (by omega) (Or.inr (Or.inr (Or.inr (Or.inr (Or.inr ⟨by omega, rfl⟩)))))
        | exact hG _ _ fr rc ⟨_, _, _, _, rw_.1, rw_.2, Or.inl ⟨by omega, by omega, rfl⟩⟩
theorem H_Mo_run {d : Nat} (hd : 7 ≤ d) : Holds d I_Mo_run S_Mo_run := by
  refine holds_of (d' := d - 1) (rt := 1) (cal := [(I_Mo_laysRuns, S_Mo_laysRuns), (I_Mo_in, S_Mo_in), (I_Mo_lyndonAt, S_Mo_lyndonAt), (I_Mo_exponent, S_Mo_exponent)]) (C := C_Mo_run) m_Mo_run o_Mo_run rfl rfl (by omega) ?_ ?_
  · intro x hx
    simp only [List.mem_cons, List.not_mem_nil, or_false] at hx
    rcases hx with rfl | rfl | rfl | rfl
    · exact H_Mo_laysRuns (by omega)
    · exact H_Mo_in (by omega)
    · exact H_Mo_lyndonAt (by omega)
    · exact H_Mo_exponent (by omega)
  · intro as σ K has hσ hG
    have hG2 := hG
    unfold S_Mo_run at hG2
    split at hG2
    · next a1 a2 =>
      refine ⟨Nat.le_of_ble_eq_true rfl, (fun _ => none), ?_, 1000, ?_⟩
      · intro k n z L σ' hk hL hs hP
        cases hk
      · exact e_Mo_run a1 a2 σ K (has _ (List.mem_of_getElem? (i := 1) rfl)) (has _ (List.mem_of_getElem? (i := 2) rfl)) hσ hG
    · exact hG2.elim
def S_Mo_runs : GS := fun as σ K => match as with
  | [some (.inr (.inr (12, 0))), some (.inl a1)] => (MoW σ ∧ MrC σ) ∧ ∀ σ' r, Fr MrL σ σ' → MrC σ' → RRuns (mW σ) (σ 40 0 0) a1 r → K (vI r) σ'
  | _ => False
abbrev Lp_Mo_runs_12 (a1 : Int) (σ0 : SS) (n : Nat) (L : List AV) (σ : SS) : Prop := ∃ (v2 : Int) (v3 : Int), L = [vR 12 0, vI a1, vI v2, vI v3] ∧ n = (1000 - v3).toNat ∧ ((Fr MrL σ0 σ) ∧ (MrV σ) ∧ ((0 ≤ a1 ∧ a1 < (σ0 40 0 0)) ∧ 0 ≤ v3 ∧ v3 ≤ σ 586 0 0) ∧ (v2 = cntZ (fun k => mrf σ k ≤ a1 ∧ a1 < mrt σ k) 0 v3))
def Iv_Mo_runs (a1 : Int) (σ0 : SS) (k : Nat) : Option (List Nat × (Nat → List AV → SS → Prop)) := match k with
  | 12 => some ([], Lp_Mo_runs_12 a1 σ0)
  | _ => none
def VE_Mo_runs (a1 : Int) (σ : SS) (K : AV → SS → Prop) : Prop :=
  (S_Mo_isPlace [vR 12 0, vI a1] σ (kI fun r1 σ1 =>
    ((r1 ≠ 0 →
      (S_Mo_laysRuns [vR 12 0] σ1 (kV fun σ2 =>
        (∃ n', Lp_Mo_runs_12 a1 σ n' [vR 12 0, vI a1, vI 0, vI 0] σ2)))) ∧
    (r1 = 0 →
      (K (vI (-1)) σ1)))))
def VL_Mo_runs_12 (a1 : Int) (σ0 : SS) (K : AV → SS → Prop) (v2 : Int) (v3 : Int) (σ : SS) (n : Nat) : Prop :=
  (((σ 586 0 0) ≤ v3 →
    (K (vI v2) σ)) ∧
  (v3 < (σ 586 0 0) →
    (InR (3 * v3) ∧
    ((0 ≤ (3 * v3 : Int) ∧ (3 * v3 : Int) < 720) ∧
    (InR (3 * v3) ∧
    (InR ((3 * v3) + 1) ∧
    ((0 ≤ ((3 * v3) + 1 : Int) ∧ ((3 * v3) + 1 : Int) < 720) ∧
    (InR ((σ 44 0 ((3 * v3) + 1)) - 1) ∧
    (S_Mo_in [vL a1, vL (σ 44 0 (3 * v3)), vL ((σ 44 0 ((3 * v3) + 1)) - 1)] σ (kI fun r1 σ1 =>
      ((r1 = 0 →
        (InR (v2 + 0) ∧
        (InR (v3 + 1) ∧
        (∃ n', n' < n ∧ Lp_Mo_runs_12 a1 σ0 n' [vR 12 0, vI a1, vI (v2 + 0), vI (v3 + 1)] σ1)))) ∧
      (r1 ≠ 0 →
        (InR (v2 + 1) ∧
        (InR (v3 + 1) ∧
        (∃ n', n' < n ∧ Lp_Mo_runs_12 a1 σ0 n' [vR 12 0, vI a1, vI (v2 + 1), vI (v3 + 1)] σ1)))))))))))))))
theorem l_Mo_runs_12 (a1 : Int) (σ0 : SS) (K : AV → SS → Prop) (ha1 : InR a1) (hs0 : okS σ0) (hG : S_Mo_runs [vR 12 0, vI a1] σ0 K) (v2 : Int) (v3 : Int) (σ : SS) (hv2 : InR v2) (hv3 : InR v3) (hs : okS σ) (n : Nat) (hn : n = (1000 - v3).toNat) (hQ : (Fr MrL σ0 σ) ∧ (MrV σ) ∧ ((0 ≤ a1 ∧ a1 < (σ0 40 0 0)) ∧ 0 ≤ v3 ∧ v3 ≤ σ 586 0 0) ∧ (v2 = cntZ (fun k => mrf σ k ≤ a1 ∧ a1 < mrt σ k) 0 v3)) : VL_Mo_runs_12 a1 σ0 K v2 v3 σ n := by
  unfold VL_Mo_runs_12
  obtain ⟨⟨hM, hC⟩, hG⟩ := hG
  obtain ⟨q0, q1, ⟨q2, q2b⟩, q3⟩ := hQ
  obtain ⟨w1, w2⟩ := mrF q0
  have few := MrV_few q1 (mrM hM q0)
  have rw_ := q1
  unfold MrV at rw_
  rw [w1, w2] at rw_
  have cb := cntZ_in (P := fun k => mrf σ k ≤ a1 ∧ a1 < mrt σ k) (a := 0) (b := v3)
  have hb := hM.n
  have rk : σ 586 0 0 ≤ v3 ∨ (0 ≤ σ 44 0 (3 * v3) ∧ σ 44 0 (3 * v3 + 1) ≤ (σ0 40 0 0) ∧ σ 44 0 (3 * v3) ≤ σ 44 0 (3 * v3 + 1)) := by
    rcases (by omega : σ 586 0 0 ≤ v3 ∨ v3 < σ 586 0 0) with z | z
    · exact Or.inl z
    · have r0 := (rw_.1.2.1 v3 q2b.1 z).1
      unfold mrf mrt at r0
      omega
  refine ⟨fun c1 => ?_, fun c1 => ?_⟩
  · skip
    exact hG _ _ q0 (fun _ => q1) (gd_y q2 ⟨_, _, _, _, rw_.1, rw_.2, by rw [q3, show v3 = σ 586 0 0 by omega]⟩)
  · skip
    refine ⟨(by omega), ?_⟩
    refine ⟨(by omega), ?_⟩
    refine ⟨(by omega), ?_⟩
    refine ⟨(by omega), ?_⟩
    refine ⟨(by omega), ?_⟩
    refine ⟨(by omega), ?_⟩
    refine bS_b0 (fun p2 _ => ?_) (fun p2 _ => ?_)
    · skip
      refine ⟨(by omega), ?_⟩
      refine ⟨(by omega), ?_⟩
      refine ⟨_, ?_, _, _, rfl, rfl, ?_⟩
      · omega
      · refine ⟨?_, ?_, ?_, ?_⟩
        · first | rfl | assumption | omega
        · first | rfl | assumption | omega
        · first | rfl | assumption | omega
        · rw [cntZ_yes q2b.1 ⟨p2.1, by have := p2.2; unfold mrt; omega⟩]; omega
    · skip
      refine ⟨(by omega), ?_⟩
      refine ⟨(by omega), ?_⟩
      refine ⟨_, ?_, _, _, rfl, rfl, ?_⟩
      · omega
      · refine ⟨?_, ?_, ?_, ?_⟩
        · first | rfl | assumption | omega
        · first | rfl | assumption | omega
        · first | rfl | assumption | omega
        · rw [cntZ_no q2b.1 (fun z => p2 ⟨z.1, by have := z.2; unfold mrt at this; omega⟩)]; omega
theorem e_Mo_runs (a1 : Int) (σ : SS) (K : AV → SS → Prop) (ha1 : InR a1) (hs : okS σ) (hG : S_Mo_runs [vR 12 0, vI a1] σ K) : VE_Mo_runs a1 σ K := by
  unfold VE_Mo_runs
  obtain ⟨⟨hM, hC⟩, hG⟩ := hG
  refine ⟨(by first | assumption | omega | exact ⟨by first | assumption | omega, by omega⟩ | exact ⟨by assumption, by omega, by omega⟩ | exact ⟨by assumption, by omega, by omega, by omega⟩ | exact ⟨by assumption, by omega, by omega, by omega, by omega⟩ | exact ⟨by assumption, by omega, by omega, by omega, by omega, by omega⟩), ?_⟩
  refine bS_b1 (fun p1 _ => ?_) (fun p1 _ => ?_)
  · skip
    refine ⟨(by exact ⟨hM, hC⟩), (fun σ2 h2a h2b => ?_)⟩
    intro _
    have few := MrV_few h2b (mrM hM h2a)
    refine ⟨_, _, _, rfl, rfl, ?_⟩
    refine ⟨?_, ?_, ?_, ?_⟩
    · exact h2a
    · exact h2b
    · first | rfl | assumption | omega
    · exact (cntZ_nil (by omega)).symm
  · skip
    exact hG _ _ Fr_refl hC (gd_n (by assumption))
theorem H_Mo_runs {d : Nat} (hd : 7 ≤ d) : Holds d I_Mo_runs S_Mo_runs := by
  refine holds_of (d' := d - 1) (rt := 1) (cal := [(I_Mo_isPlace, S_Mo_isPlace), (I_Mo_laysRuns, S_Mo_laysRuns), (I_Mo_in, S_Mo_in)]) (C := C_Mo_runs) m_Mo_runs o_Mo_runs rfl rfl (by omega) ?_ ?_
  · intro x hx
    simp only [List.mem_cons, List.not_mem_nil, or_false] at hx
    rcases hx with rfl | rfl | rfl
    · exact H_Mo_isPlace (by omega)
    · exact H_Mo_laysRuns (by omega)
    · exact H_Mo_in (by omega)
  · intro as σ K has hσ hG
    have hG2 := hG
    unfold S_Mo_runs at hG2
    split at hG2
    · next a1 =>
      refine ⟨Nat.le_of_ble_eq_true rfl, (Iv_Mo_runs a1 σ), ?_, 1000, ?_⟩
      · intro k n z L σ' hk hL hs hP
        unfold Iv_Mo_runs at hk
        split at hk
        · cases hk
          obtain ⟨v2, v3, rfl, hn, hQ⟩ := hP
          exact ⟨1000, l_Mo_runs_12 a1 σ K (has _ (List.mem_of_getElem? (i := 1) rfl)) hσ hG v2 v3 σ' (hL _ (List.mem_of_getElem? (i := 2) rfl)) (hL _ (List.mem_of_getElem? (i := 3) rfl)) hs n hn hQ⟩
        · cases hk
      · exact e_Mo_runs a1 σ K (has _ (List.mem_of_getElem? (i := 1) rfl)) hσ hG
    · exact hG2.elim
def S_Mo_exponents : GS := fun as σ K => match as with
  | [some (.inr (.inr (12, 0)))] => (MoW σ ∧ MrC σ) ∧ ∀ σ' r, Fr MrL σ σ' → MrC σ' → RExp (mW σ) (σ 40 0 0) r → K (vI r) σ'
  | _ => False
abbrev Lp_Mo_exponents_6 (σ0 : SS) (n : Nat) (L : List AV) (σ : SS) : Prop := ∃ (v1 : Int) (v2 : Int), L = [vR 12 0, vI v1, vI v2] ∧ n = (1000 - v2).toNat ∧ ((Fr MrL σ0 σ) ∧ (MrV σ) ∧ (0 ≤ v2 ∧ v2 ≤ σ 586 0 0) ∧ (v1 = sumZ (fun k => Int.tdiv ((mrt σ k - mrf σ k) * 1000) (mrg σ k)) 0 v2))
def Iv_Mo_exponents (σ0 : SS) (k : Nat) : Option (List Nat × (Nat → List AV → SS → Prop)) := match k with
  | 6 => some ([], Lp_Mo_exponents_6 σ0)
  | _ => none
def VE_Mo_exponents (σ : SS) (K : AV → SS → Prop) : Prop :=
  (S_Mo_laysRuns [vR 12 0] σ (kV fun σ1 =>
    (∃ n', Lp_Mo_exponents_6 σ n' [vR 12 0, vI 0, vI 0] σ1)))
def VL_Mo_exponents_6 (σ0 : SS) (K : AV → SS → Prop) (v1 : Int) (v2 : Int) (σ : SS) (n : Nat) : Prop :=
  (((σ 586 0 0) ≤ v2 →
    (K (vI v1) σ)) ∧
  (v2 < (σ 586 0 0) →
    (S_Mo_exponent [vR 12 0, vI v2] σ (kI fun r1 σ1 =>
      (InR (v1 + r1) ∧
      (InR (v2 + 1) ∧
      (∃ n', n' < n ∧ Lp_Mo_exponents_6 σ0 n' [vR 12 0, vI (v1 + r1), vI (v2 + 1)] σ1)))))))
theorem l_Mo_exponents_6 (σ0 : SS) (K : AV → SS → Prop) (hs0 : okS σ0) (hG : S_Mo_exponents [vR 12 0] σ0 K) (v1 : Int) (v2 : Int) (σ : SS) (hv1 : InR v1) (hv2 : InR v2) (hs : okS σ) (n : Nat) (hn : n = (1000 - v2).toNat) (hQ : (Fr MrL σ0 σ) ∧ (MrV σ) ∧ (0 ≤ v2 ∧ v2 ≤ σ 586 0 0) ∧ (v1 = sumZ (fun k => Int.tdiv ((mrt σ k - mrf σ k) * 1000) (mrg σ k)) 0 v2)) : VL_Mo_exponents_6 σ0 K v1 v2 σ n := by
  unfold VL_Mo_exponents_6
  obtain ⟨⟨hM, hC⟩, hG⟩ := hG
  obtain ⟨q0, q1, q2, q3⟩ := hQ
  obtain ⟨w1, w2⟩ := mrF q0
  have few := MrV_few q1 (mrM hM q0)
  have rw_ := q1
  unfold MrV at rw_
  rw [w1, w2] at rw_
  have hb := hM.n
  have h2 : ∀ k, 0 ≤ k → k < σ 586 0 0 → 0 ≤ mrt σ k - mrf σ k ∧ mrt σ k - mrf σ k ≤ 120 ∧ 1 ≤ mrg σ k := fun k k0 k1 => by
    have r0 := (rw_.1.2.1 k k0 k1).1
    omega
  have tb : ∀ k, 0 ≤ k → k < σ 586 0 0 → 0 ≤ Int.tdiv ((mrt σ k - mrf σ k) * 1000) (mrg σ k) ∧ Int.tdiv ((mrt σ k - mrf σ k) * 1000) (mrg σ k) ≤ 120000 := fun k k0 k1 => by
    obtain ⟨b1, b2, b3⟩ := h2 k k0 k1
    have x1 := Int.tdiv_nonneg (a := (mrt σ k - mrf σ k) * 1000) (b := mrg σ k) (by omega) (by omega)
    have x2 := Int.tdiv_le_self (a := (mrt σ k - mrf σ k) * 1000) (mrg σ k) (by omega)
    omega
  have sb := sumZ_le (f := fun k => Int.tdiv ((mrt σ k - mrf σ k) * 1000) (mrg σ k)) (c := 120000) (a := 0) (b := v2) (by omega) (fun k k0 k1 => tb k k0 (by omega))
  refine ⟨fun c1 => ?_, fun c1 => ?_⟩
  · skip
    exact hG _ _ q0 (fun _ => q1) ⟨_, _, _, _, rw_.1, rw_.2, by rw [q3, show v2 = σ 586 0 0 by omega]⟩
  · skip
    refine ⟨(by exact ⟨by omega, h2 v2 q2.1 (by omega)⟩), ?_⟩
    intro _ _
    have tv := tb v2 q2.1 (by omega)
    refine ⟨(by omega), ?_⟩
    refine ⟨(by omega), ?_⟩
    refine ⟨_, ?_, _, _, rfl, rfl, ?_⟩
    · omega
    · refine ⟨?_, ?_, ?_, ?_⟩
      · first | rfl | assumption | omega
      · first | rfl | assumption | omega
      · first | rfl | assumption | omega
      · rw [sumZ_succ q2.1, ← q3]
theorem e_Mo_exponents (σ : SS) (K : AV → SS → Prop) (hs : okS σ) (hG : S_Mo_exponents [vR 12 0] σ K) : VE_Mo_exponents σ K := by
  unfold VE_Mo_exponents
  obtain ⟨⟨hM, hC⟩, hG⟩ := hG
  refine ⟨(by exact ⟨hM, hC⟩), (fun σ1 h1a h1b => ?_)⟩
  intro _
  have few := MrV_few h1b (mrM hM h1a)
  refine ⟨_, _, _, rfl, rfl, ?_⟩
  refine ⟨?_, ?_, ?_, ?_⟩
  · exact h1a
  · exact h1b
  · first | rfl | assumption | omega
  · exact (sumZ_nil (by omega)).symm
theorem H_Mo_exponents {d : Nat} (hd : 7 ≤ d) : Holds d I_Mo_exponents S_Mo_exponents := by
  refine holds_of (d' := d - 1) (rt := 1) (cal := [(I_Mo_laysRuns, S_Mo_laysRuns), (I_Mo_exponent, S_Mo_exponent)]) (C := C_Mo_exponents) m_Mo_exponents o_Mo_exponents rfl rfl (by omega) ?_ ?_
  · intro x hx
    simp only [List.mem_cons, List.not_mem_nil, or_false] at hx
    rcases hx with rfl | rfl
    · exact H_Mo_laysRuns (by omega)
    · exact H_Mo_exponent (by omega)
  · intro as σ K has hσ hG
    have hG2 := hG
    unfold S_Mo_exponents at hG2
    split at hG2
    · skip
      refine ⟨Nat.le_of_ble_eq_true rfl, (Iv_Mo_exponents σ), ?_, 1000, ?_⟩
      · intro k n z L σ' hk hL hs hP
        unfold Iv_Mo_exponents at hk
        split at hk
        · cases hk
          obtain ⟨v1, v2, rfl, hn, hQ⟩ := hP
          exact ⟨1000, l_Mo_exponents_6 σ K  hσ hG v1 v2 σ' (hL _ (List.mem_of_getElem? (i := 1) rfl)) (hL _ (List.mem_of_getElem? (i := 2) rfl)) hs n hn hQ⟩
        · cases hk
      · exact e_Mo_exponents σ K  hσ hG
    · exact hG2.elim
def MgF : List (Nat × Nat) := [(40, 0), (44, 0), (586, 0), (587, 0)]
def MgS (f : Int → Int) (x m b : Int) : Prop := (x = 0 ∧ m = 0 ∧ b = -1) ∨ (0 < x ∧ fgM f x m b)
def MgI (σ0 σ : SS) (a1 a2 v3 v4 v5 v6 : Int) : Prop := Fr MgF σ0 σ ∧ ((0 ≤ v6 ∧ v6 ≤ 26) ∧ (0 ≤ a1 ∧ a1 < (σ0 40 0 0)) ∧ (0 ≤ a2 ∧ a2 ≤ 1) ∧ v3 = mW σ0 a1) ∧ (∀ x, x ≠ 1 + a1 → σ 40 0 x = σ0 40 0 x) ∧ MgS (fun c => nR (updW (mW σ0) a1 c) (σ0 40 0 0)) v6 v5 v4
theorem mg_in {σ0 : SS} {a1 a2 v3 : Int} (h1 : 0 ≤ a1 ∧ a1 < (σ0 40 0 0)) (h2 : 0 ≤ a2 ∧ a2 ≤ 1) (h3 : v3 = mW σ0 a1) : MgI σ0 σ0 a1 a2 v3 (-1) 0 0 :=
  ⟨Fr_refl, ⟨by omega, h1, h2, h3⟩, fun _ _ => rfl, Or.inl ⟨rfl, rfl, rfl⟩⟩
theorem mg_set {σ0 σ σ1 σ2 : SS} {a1 a2 v3 v4 v5 v6 : Int} (h : MgI σ0 σ a1 a2 v3 v4 v5 v6) (hM : MoW σ0) (h6 : v6 < 26) (e1 : σ1 = u3 σ 40 0 (1 + a1) v6) (e2 : σ2 = u3 σ1 587 0 0 0) : Fr MgF σ0 σ2 ∧ mW σ2 = updW (mW σ0) a1 v6 ∧ (σ2 40 0 0) = (σ0 40 0 0) ∧ MoW σ2 ∧ MrC σ2 ∧ (∀ x, x ≠ 1 + a1 → σ2 40 0 x = σ0 40 0 x) := by
  obtain ⟨h1, ⟨h2, h3, h4, h5⟩, h6, h7⟩ := h
  have hb := hM.n
  have n2 : σ2 40 0 = σ1 40 0 := by rw [e2]; exact congrFun (u3_F (by decide)) 0
  have k : ∀ x, x ≠ 1 + a1 → σ2 40 0 x = σ0 40 0 x := fun x hx => by rw [n2, e1, u3_k hx, h6 x hx]
  have ks : σ2 40 0 (1 + a1) = v6 := by rw [n2, e1, u3_s]
  have kn : (σ2 40 0 0) = (σ0 40 0 0) := k 0 (by omega)
  have kw : mW σ2 = updW (mW σ0) a1 v6 := by
    funext x
    unfold updW mW
    rw [kn]
    by_cases c : x = a1
    · rw [if_pos c, c, atW_in h3.1 h3.2]; exact ks
    · rw [if_neg c]
      by_cases d : 0 ≤ x ∧ x < (σ0 40 0 0)
      · rw [atW_in d.1 d.2, atW_in d.1 d.2]; exact k _ (by omega)
      · rw [show atW (fun x => σ2 40 0 (1 + x)) (σ0 40 0 0) x = -1 from if_neg d, show atW (fun x => σ0 40 0 (1 + x)) (σ0 40 0 0) x = -1 from if_neg d]
  refine ⟨Fr_trans h1 (by rw [e2, e1]; exact Fr_trans (Fr_u3 (by simp [MgF])) (Fr_u3 (by simp [MgF]))), kw, kn, ⟨by rw [kn]; exact hb, fun x x0 x1 => ?_⟩, fun z => absurd (by rw [e2, u3_s]) z, k⟩
  rw [kn] at x1
  rw [kw]
  unfold updW
  by_cases c : x = a1
  · rw [if_pos c]; omega
  · rw [if_neg c]; exact hM.2 x x0 x1
theorem mg_next {σ0 σ σ2 σ3 : SS} {a1 a2 v3 v4 v5 v6 : Int} (h : MgI σ0 σ a1 a2 v3 v4 v5 v6) (hM : MoW σ0) (h6 : v6 < 26) (s1 : Fr MgF σ0 σ2) (s2 : mW σ2 = updW (mW σ0) a1 v6) (s3 : (σ2 40 0 0) = (σ0 40 0 0)) (s4 : ∀ x, x ≠ 1 + a1 → σ2 40 0 x = σ0 40 0 x) (f : Fr MrL σ2 σ3) (hv : MrV σ3) :
    ((v4 = -1 ∨ v5 < σ3 586 0 0) → MgI σ0 σ3 a1 a2 v3 v6 (σ3 586 0 0) (v6 + 1)) ∧ ((¬ v4 = -1 ∧ σ3 586 0 0 ≤ v5) → MgI σ0 σ3 a1 a2 v3 v4 v5 (v6 + 1)) := by
  obtain ⟨h1, ⟨h2, h3, h4, h5⟩, h6, h7⟩ := h
  have hb := hM.n
  obtain ⟨w1, w2⟩ := mrF f
  have hn : σ3 586 0 0 = nR (updW (mW σ0) a1 v6) (σ0 40 0 0) := by
    obtain ⟨v1, v2⟩ := hv
    rw [w1, w2, s2, s3] at v1
    exact RL_cnt hb.2 v1 (RLs_d v1 v2)
  have hF : Fr MgF σ0 σ3 := Fr_trans s1 (Fr_mono f (by simp [MgF, MrL]))
  have k : ∀ x, x ≠ 1 + a1 → σ3 40 0 x = σ0 40 0 x := fun x hx => by rw [f _ _ (by simp [MrL]), s4 x hx]
  rw [hn]
  refine ⟨fun z => ⟨hF, ⟨by omega, h3, h4, h5⟩, k, ?_⟩, fun z => ⟨hF, ⟨by omega, h3, h4, h5⟩, k, ?_⟩⟩
  · have g := nR_0 (w := updW (mW σ0) a1 v6) (n := (σ0 40 0 0))
    have key : fgS (fun c => nR (updW (mW σ0) a1 c) (σ0 40 0 0)) (v6 + 1) (nR (updW (mW σ0) a1 v6) (σ0 40 0 0)) v6 := by
      rcases h7 with ⟨y, _, _⟩ | ⟨y, y1⟩
      · exact fg_yes (m := -1) (b := 0) (Or.inl ⟨y, rfl, rfl⟩) h2.1 (by show -1 < nR (updW (mW σ0) a1 v6) (σ0 40 0 0); omega)
      · refine fg_yes (Or.inr ⟨y, y1⟩) h2.1 ?_
        have := y1.2.2.1
        rcases z with z | z
        · omega
        · exact z
    rcases key with z | z
    · omega
    · exact Or.inr z
  · rcases h7 with ⟨_, _, y⟩ | ⟨y, y1⟩
    · exact absurd y z.1
    · rcases fg_no (Or.inr ⟨y, y1⟩) h2.1 nR_0 z.2 with z | z
      · omega
      · exact Or.inr z
theorem mg_out {σ0 σ σ1 σ2 : SS} {a1 a2 v3 v4 v5 v6 : Int} (h : MgI σ0 σ a1 a2 v3 v4 v5 v6) (hM : MoW σ0) (h6 : 26 ≤ v6) (e1 : σ1 = u3 σ 40 0 (1 + a1) v3) (e2 : σ2 = u3 σ1 587 0 0 0) : Fr MrL σ0 σ2 ∧ MrC σ2 ∧ (a2 = 0 → RChange (mW σ0) (σ0 40 0 0) a1 a2 v4) ∧ (¬ a2 = 0 → RChange (mW σ0) (σ0 40 0 0) a1 a2 v5) := by
  obtain ⟨h1, ⟨h2, h3, h4, h5⟩, h6, h7⟩ := h
  have n2 : σ2 40 0 = σ1 40 0 := by rw [e2]; exact congrFun (u3_F (by decide)) 0
  have k : σ2 40 0 = σ0 40 0 := by
    funext x
    rw [n2, e1]
    by_cases c : x = 1 + a1
    · rw [c, u3_s, h5]
      exact atW_in h3.1 h3.2
    · rw [u3_k c, h6 x c]
  have f4 : Fr MgF σ0 σ2 := Fr_trans h1 (by rw [e2, e1]; exact Fr_trans (Fr_u3 (by simp [MgF])) (Fr_u3 (by simp [MgF])))
  have e6 : v6 = 26 := by omega
  have fin : fgM (fun c => nR (updW (mW σ0) a1 c) (σ0 40 0 0)) 26 v5 v4 := by
    rcases h7 with y | ⟨_, y⟩
    · omega
    · rwa [e6] at y
  refine ⟨fun a b hab => ?_, fun z => absurd (by rw [e2, u3_s]) z, fun z => gd_y ⟨h3, h4⟩ ⟨_, _, fin, by rw [if_pos z]⟩, fun z => gd_y ⟨h3, h4⟩ ⟨_, _, fin, by rw [if_neg z]⟩⟩
  by_cases c : (a, b) = (40, 0)
  · cases c; exact k
  · exact f4 a b (by simp [MgF, MrL] at *; omega)
def S_Mo_change : GS := fun as σ K => match as with
  | [some (.inr (.inr (12, 0))), some (.inl a1), some (.inl a2)] => (MoW σ ∧ MrC σ) ∧ ∀ σ' r, Fr MrL σ σ' → MrC σ' → RChange (mW σ) (σ 40 0 0) a1 a2 r → K (vI r) σ'
  | _ => False
abbrev Lp_Mo_change_22 (a1 : Int) (a2 : Int) (σ0 : SS) (n : Nat) (L : List AV) (σ : SS) : Prop := ∃ (v3 : Int) (v4 : Int) (v5 : Int) (v6 : Int), L = [vR 12 0, vI a1, vI a2, vI v3, vI v4, vI v5, vI v6] ∧ n = (1000 - v6).toNat ∧ ((MgI σ0 σ a1 a2 v3 v4 v5 v6))
def Iv_Mo_change (a1 : Int) (a2 : Int) (σ0 : SS) (k : Nat) : Option (List Nat × (Nat → List AV → SS → Prop)) := match k with
  | 22 => some ([], Lp_Mo_change_22 a1 a2 σ0)
  | _ => none
def VE_Mo_change (a1 : Int) (a2 : Int) (σ : SS) (K : AV → SS → Prop) : Prop :=
  (S_Mo_isPlace [vR 12 0, vI a1] σ (kI fun r1 σ1 =>
    ((r1 = 0 →
      (K (vI (-1)) σ1)) ∧
    (r1 ≠ 0 →
      (S_Mo_in [vL a2, vL 0, vL 1] σ1 (kI fun r2 σ2 =>
        ((r2 ≠ 0 →
          (S_Mo_at [vR 12 0, vI a1] σ2 (kI fun r3 σ3 =>
            (∃ n', Lp_Mo_change_22 a1 a2 σ n' [vR 12 0, vI a1, vI a2, vI r3, vI (-1), vI 0, vI 0] σ3)))) ∧
        (r2 = 0 →
          (K (vI (-1)) σ2)))))))))
def VL_Mo_change_22 (a1 : Int) (a2 : Int) (σ0 : SS) (K : AV → SS → Prop) (v3 : Int) (v4 : Int) (v5 : Int) (v6 : Int) (σ : SS) (n : Nat) : Prop :=
  (((26 : Int) ≤ v6 →
    (InR (1 + a1) ∧
    ((0 ≤ (1 + a1 : Int) ∧ (1 + a1 : Int) < 121) ∧ ∀ σ1 : SS, σ1 = u3 σ 40 0 (1 + a1) v3 →
    ((0 ≤ (0 : Int) ∧ (0 : Int) ≤ 1) ∧ (∀ σ2 : SS, σ2 = u3 σ1 587 0 0 0 →
    ((a2 ≠ 0 →
      (K (vI v5) σ2)) ∧
    (a2 = 0 →
      (K (vI v4) σ2)))))))) ∧
  (v6 < 26 →
    (InR (1 + a1) ∧
    ((0 ≤ (1 + a1 : Int) ∧ (1 + a1 : Int) < 121) ∧ ∀ σ3 : SS, σ3 = u3 σ 40 0 (1 + a1) v6 →
    ((0 ≤ (0 : Int) ∧ (0 : Int) ≤ 1) ∧ (∀ σ4 : SS, σ4 = u3 σ3 587 0 0 0 →
    (S_Mo_laysRuns [vR 12 0] σ4 (kV fun σ5 =>
      ((v4 = (-1) →
        (InR (v6 + 1) ∧
        (∃ n', n' < n ∧ Lp_Mo_change_22 a1 a2 σ0 n' [vR 12 0, vI a1, vI a2, vI v3, vI v6, vI (σ5 586 0 0), vI (v6 + 1)] σ5))) ∧
      (v4 ≠ (-1) →
        ((v5 < (σ5 586 0 0) →
          (InR (v6 + 1) ∧
          (∃ n', n' < n ∧ Lp_Mo_change_22 a1 a2 σ0 n' [vR 12 0, vI a1, vI a2, vI v3, vI v6, vI (σ5 586 0 0), vI (v6 + 1)] σ5))) ∧
        ((σ5 586 0 0) ≤ v5 →
          (InR (v6 + 1) ∧
          (∃ n', n' < n ∧ Lp_Mo_change_22 a1 a2 σ0 n' [vR 12 0, vI a1, vI a2, vI v3, vI v4, vI v5, vI (v6 + 1)] σ5))))))))))))))
theorem l_Mo_change_22 (a1 : Int) (a2 : Int) (σ0 : SS) (K : AV → SS → Prop) (ha1 : InR a1) (ha2 : InR a2) (hs0 : okS σ0) (hG : S_Mo_change [vR 12 0, vI a1, vI a2] σ0 K) (v3 : Int) (v4 : Int) (v5 : Int) (v6 : Int) (σ : SS) (hv3 : InR v3) (hv4 : InR v4) (hv5 : InR v5) (hv6 : InR v6) (hs : okS σ) (n : Nat) (hn : n = (1000 - v6).toNat) (hQ : (MgI σ0 σ a1 a2 v3 v4 v5 v6)) : VL_Mo_change_22 a1 a2 σ0 K v3 v4 v5 v6 σ n := by
  unfold VL_Mo_change_22
  obtain ⟨⟨hM, hC⟩, hG⟩ := hG
  have hb := hM.n
  obtain ⟨⟨i2, i2b⟩, i3, i4, i5⟩ := hQ.2.1
  refine ⟨fun c1 => ?_, fun c1 => ?_⟩
  · skip
    refine ⟨(by omega), ?_⟩
    refine ⟨(by omega), fun σ2 e2 => ?_⟩
    refine ⟨(by omega), fun σ3 e3 => ?_⟩
    obtain ⟨o1, o2, o3, o4⟩ := mg_out hQ hM (by omega) e2 e3
    refine ⟨fun c4 => ?_, fun c4 => ?_⟩
    · skip
      exact hG _ _ o1 o2 (o4 c4)
    · skip
      exact hG _ _ o1 o2 (o3 c4)
  · skip
    refine ⟨(by omega), ?_⟩
    refine ⟨(by omega), fun σ2 e2 => ?_⟩
    refine ⟨(by omega), fun σ3 e3 => ?_⟩
    obtain ⟨s1, s2, s3, s4, s5, s6⟩ := mg_set hQ hM (by omega) e2 e3
    refine ⟨(by exact ⟨s4, s5⟩), (fun σ4 h4a h4b => ?_)⟩
    intro _
    have nx := mg_next hQ hM (by omega) s1 s2 s3 s6 h4a h4b
    refine ⟨fun c5 => ?_, fun c5 => ?_⟩
    · skip
      refine ⟨(by omega), ?_⟩
      refine ⟨_, ?_, _, _, _, _, rfl, rfl, ?_⟩
      · omega
      · exact nx.1 (Or.inl c5)
    · skip
      refine ⟨fun c6 => ?_, fun c6 => ?_⟩
      · skip
        refine ⟨(by omega), ?_⟩
        refine ⟨_, ?_, _, _, _, _, rfl, rfl, ?_⟩
        · omega
        · exact nx.1 (Or.inr c6)
      · skip
        refine ⟨(by omega), ?_⟩
        refine ⟨_, ?_, _, _, _, _, rfl, rfl, ?_⟩
        · omega
        · exact nx.2 ⟨c5, c6⟩
theorem e_Mo_change (a1 : Int) (a2 : Int) (σ : SS) (K : AV → SS → Prop) (ha1 : InR a1) (ha2 : InR a2) (hs : okS σ) (hG : S_Mo_change [vR 12 0, vI a1, vI a2] σ K) : VE_Mo_change a1 a2 σ K := by
  unfold VE_Mo_change
  obtain ⟨⟨hM, hC⟩, hG⟩ := hG
  have hb := hM.n
  refine ⟨(by first | assumption | omega | exact ⟨by first | assumption | omega, by omega⟩ | exact ⟨by assumption, by omega, by omega⟩ | exact ⟨by assumption, by omega, by omega, by omega⟩ | exact ⟨by assumption, by omega, by omega, by omega, by omega⟩ | exact ⟨by assumption, by omega, by omega, by omega, by omega, by omega⟩), ?_⟩
  refine bS_b0 (fun p1 _ => ?_) (fun p1 _ => ?_)
  · skip
    refine bS_b1 (fun p2 _ => ?_) (fun p2 _ => ?_)
    · skip
      refine ⟨(by first | assumption | omega | exact ⟨by first | assumption | omega, by omega⟩ | exact ⟨by assumption, by omega, by omega⟩ | exact ⟨by assumption, by omega, by omega, by omega⟩ | exact ⟨by assumption, by omega, by omega, by omega, by omega⟩ | exact ⟨by assumption, by omega, by omega, by omega, by omega, by omega⟩), ?_⟩
      intro _ _
      exact ⟨_, _, _, _, _, rfl, rfl, mg_in p1 ⟨p2.1, p2.2⟩ rfl⟩
    · skip
      exact hG _ _ Fr_refl hC (gd_n (fun z => by omega))
  · skip
    exact hG _ _ Fr_refl hC (gd_n (fun z => by omega))
theorem H_Mo_change {d : Nat} (hd : 7 ≤ d) : Holds d I_Mo_change S_Mo_change := by
  refine holds_of (d' := d - 1) (rt := 1) (cal := [(I_Mo_isPlace, S_Mo_isPlace), (I_Mo_in, S_Mo_in), (I_Mo_at, S_Mo_at), (I_Mo_laysRuns, S_Mo_laysRuns)]) (C := C_Mo_change) m_Mo_change o_Mo_change rfl rfl (by omega) ?_ ?_
  · intro x hx
    simp only [List.mem_cons, List.not_mem_nil, or_false] at hx
    rcases hx with rfl | rfl | rfl | rfl
    · exact H_Mo_isPlace (by omega)
    · exact H_Mo_in (by omega)
    · exact H_Mo_at (by omega)
    · exact H_Mo_laysRuns (by omega)
  · intro as σ K has hσ hG
    have hG2 := hG
    unfold S_Mo_change at hG2
    split at hG2
    · next a1 a2 =>
      refine ⟨Nat.le_of_ble_eq_true rfl, (Iv_Mo_change a1 a2 σ), ?_, 1000, ?_⟩
      · intro k n z L σ' hk hL hs hP
        unfold Iv_Mo_change at hk
        split at hk
        · cases hk
          obtain ⟨v3, v4, v5, v6, rfl, hn, hQ⟩ := hP
          exact ⟨1000, l_Mo_change_22 a1 a2 σ K (has _ (List.mem_of_getElem? (i := 1) rfl)) (has _ (List.mem_of_getElem? (i := 2) rfl)) hσ hG v3 v4 v5 v6 σ' (hL _ (List.mem_of_getElem? (i := 3) rfl)) (hL _ (List.mem_of_getElem? (i := 4) rfl)) (hL _ (List.mem_of_getElem? (i := 5) rfl)) (hL _ (List.mem_of_getElem? (i := 6) rfl)) hs n hn hQ⟩
        · cases hk
      · exact e_Mo_change a1 a2 σ K (has _ (List.mem_of_getElem? (i := 1) rfl)) (has _ (List.mem_of_getElem? (i := 2) rfl)) hσ hG
    · exact hG2.elim
