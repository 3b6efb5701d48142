def behP (w : Int → Int) (n i L c : Int) : Prop := ∃ x, i ≤ x ∧ x + L < n ∧ eqs w i x L ∧ w (x + L) = c
def S_Un_lettersBehind : GS := fun as σ K => match as with
  | [some (.inr (.inr (9, 0))), some (.inl a1), some (.inl a2)] => (TwC σ ∧ 0 ≤ a1 ∧ 0 ≤ a2 ∧ a1 + a2 < (σ 501 0 0)) ∧ ∀ σ' r, TQ σ σ' → 0 ≤ r → r < 2 ^ 26 → (∀ c, 0 ≤ c → (bitI r c ↔ behP (cW σ) (σ 501 0 0) a1 a2 c)) → K (vI r) σ'
  | _ => False
abbrev Lp_Un_lettersBehind_4 (a1 : Int) (a2 : Int) (σ0 : SS) (n : Nat) (L : List AV) (σ : SS) : Prop := ∃ (v3 : Int) (v4 : Int), L = [vR 9 0, vI a1, vI a2, vI v3, vI v4] ∧ n = (1000 - v4).toNat ∧ ((TQ σ0 σ) ∧ (a1 ≤ v4) ∧ (v4 + a2 ≤ (σ0 501 0 0)) ∧ (0 ≤ v3) ∧ (v3 < 2 ^ 26) ∧ (∀ c, 0 ≤ c → (bitI v3 c ↔ ∃ x, a1 ≤ x ∧ x < v4 ∧ eqs (cW σ0) a1 x a2 ∧ cW σ0 (x + a2) = c)))
def Iv_Un_lettersBehind (a1 : Int) (a2 : Int) (σ0 : SS) (k : Nat) : Option (List Nat × (Nat → List AV → SS → Prop)) := match k with
  | 4 => some ([], Lp_Un_lettersBehind_4 a1 a2 σ0)
  | _ => none
def VE_Un_lettersBehind (a1 : Int) (a2 : Int) (σ : SS) (K : AV → SS → Prop) : Prop :=
  (∃ n', Lp_Un_lettersBehind_4 a1 a2 σ n' [vR 9 0, vI a1, vI a2, vI 0, vI a1] σ)
def VL_Un_lettersBehind_4 (a1 : Int) (a2 : Int) (σ0 : SS) (K : AV → SS → Prop) (v3 : Int) (v4 : Int) (σ : SS) (n : Nat) : Prop :=
  (S_Wo_size [vR 10 0] σ (kI fun r1 σ1 =>
    (InR (r1 - a2) ∧
    (((r1 - a2) ≤ v4 →
      (K (vI v3) σ1)) ∧
    (v4 < (r1 - a2) →
      (S_Tw_common [vR 8 0, vI a1, vI v4] σ1 (kI fun r2 σ2 =>
        ((r2 < a2 →
          (InR (v4 + 1) ∧
          (∃ n', n' < n ∧ Lp_Un_lettersBehind_4 a1 a2 σ0 n' [vR 9 0, vI a1, vI a2, vI v3, vI (v4 + 1)] σ2))) ∧
        (a2 ≤ r2 →
          (InR (v4 + a2) ∧
          (S_Wo_at [vR 10 0, vI (v4 + a2)] σ2 (kI fun r3 σ3 =>
            ((0 ≤ (r3 : Int) ∧ (r3 : Int) < 32 ∧ InR (shlI 1 r3)) ∧
            (InR (v4 + 1) ∧
            (∃ n', n' < n ∧ Lp_Un_lettersBehind_4 a1 a2 σ0 n' [vR 9 0, vI a1, vI a2, vI (orI v3 (shlI 1 r3)), vI (v4 + 1)] σ3)))))))))))))))
theorem l_Un_lettersBehind_4 (a1 : Int) (a2 : Int) (σ0 : SS) (K : AV → SS → Prop) (ha1 : InR a1) (ha2 : InR a2) (hs0 : okS σ0) (hG : S_Un_lettersBehind [vR 9 0, vI a1, vI a2] σ0 K) (v3 : Int) (v4 : Int) (σ : SS) (hv3 : InR v3) (hv4 : InR v4) (hs : okS σ) (n : Nat) (hn : n = (1000 - v4).toNat) (hQ : (TQ σ0 σ) ∧ (a1 ≤ v4) ∧ (v4 + a2 ≤ (σ0 501 0 0)) ∧ (0 ≤ v3) ∧ (v3 < 2 ^ 26) ∧ (∀ c, 0 ≤ c → (bitI v3 c ↔ ∃ x, a1 ≤ x ∧ x < v4 ∧ eqs (cW σ0) a1 x a2 ∧ cW σ0 (x + a2) = c))) : VL_Un_lettersBehind_4 a1 a2 σ0 K v3 v4 σ n := by
  unfold VL_Un_lettersBehind_4
  obtain ⟨⟨hT, h1, h2, h3⟩, hG⟩ := hG
  have hb := hT.n
  obtain ⟨q0, q1, q2, q3, q4, q5⟩ := hQ
  obtain ⟨w1, w2⟩ := q0.w
  intro _ _
  refine ⟨by omega, fun h => hG _ _ q0 q3 q4 (fun c c1 => ?_), fun h => ⟨q0.2, fun σ' hF hT' => ?_⟩⟩
  · rw [q5 c c1]
    exact ⟨fun ⟨x, x1, x2, x3, x4⟩ => ⟨x, x1, by omega, x3, x4⟩, fun ⟨x, x1, x2, x3, x4⟩ => ⟨x, x1, by omega, x3, x4⟩⟩
  · rw [w1, w2]
    have q0' := q0.tr ⟨hF, hT'⟩
    obtain ⟨x1, x2⟩ := q0'.w
    have hc := common_ge (w := cW σ0) (n := (σ0 501 0 0)) (i := a1) (j := v4) (L := a2) (by omega) (by omega) (by omega) (by omega) h2
    intro _ _
    refine ⟨fun g => ⟨by omega, _, ?_, _, _, rfl, rfl, q0', by omega, by omega, q3, q4, fun c c1 => ?_⟩, fun g => ⟨by omega, by omega, ?_⟩⟩
    · omega
    · rw [q5 c c1]
      constructor
      · exact fun ⟨x, x1, x2, x3, x4⟩ => ⟨x, x1, by omega, x3, x4⟩
      · rintro ⟨x, x1, x2, x3, x4⟩
        rcases (by omega : x < v4 ∨ x = v4) with z | rfl
        · exact ⟨x, x1, z, x3, x4⟩
        · have := hc.mpr ⟨by omega, x3⟩
          omega
    · have e1 : atW (σ' 20 0) (σ' 501 0 0) (v4 + a2) = cW σ0 (v4 + a2) := by rw [← x1]; rfl
      rw [e1]
      have l1 := hT.let (x := v4 + a2) (by omega) (by omega)
      have ho := or_bit (a := v3) (c := cW σ0 (v4 + a2)) (m := 26) q3 q4 (by omega) l1.1 l1.2
      have hsh := shl1 (c := cW σ0 (v4 + a2)) l1.1 (by omega)
      intro _ _
      refine ⟨⟨by omega, by omega, by have := hsh.2; omega⟩, by omega, _, ?_, _, _, rfl, rfl, q0', by omega, by omega, ho.1, ho.2.1, fun c c1 => ?_⟩
      · omega
      · rw [ho.2.2 c c1, q5 c c1]
        constructor
        · rintro (⟨x, x1, x2, x3, x4⟩ | z)
          · exact ⟨x, x1, by omega, x3, x4⟩
          · exact ⟨v4, q1, by omega, (hc.mp g).2, z.symm⟩
        · rintro ⟨x, x1, x2, x3, x4⟩
          rcases (by omega : x < v4 ∨ x = v4) with z | rfl
          · exact Or.inl ⟨x, x1, z, x3, x4⟩
          · exact Or.inr x4.symm
theorem e_Un_lettersBehind (a1 : Int) (a2 : Int) (σ : SS) (K : AV → SS → Prop) (ha1 : InR a1) (ha2 : InR a2) (hs : okS σ) (hG : S_Un_lettersBehind [vR 9 0, vI a1, vI a2] σ K) : VE_Un_lettersBehind a1 a2 σ K := by
  unfold VE_Un_lettersBehind
  obtain ⟨⟨hT, h1, h2, h3⟩, hG⟩ := hG
  exact ⟨_, _, _, rfl, rfl, TQ.rf hT, by omega, by omega, by omega, by omega, fun c c1 => ⟨fun z => absurd z bit_0, fun ⟨x, x1, x2, _⟩ => by omega⟩⟩
theorem H_Un_lettersBehind {d : Nat} (hd : 3 ≤ d) : Holds d I_Un_lettersBehind S_Un_lettersBehind := by
  refine holds_of (d' := d - 1) (rt := 1) (cal := [(I_Wo_size, S_Wo_size), (I_Tw_common, S_Tw_common), (I_Wo_at, S_Wo_at)]) (C := C_Un_lettersBehind) m_Un_lettersBehind o_Un_lettersBehind rfl rfl (by omega) ?_ ?_
  · intro x hx
    simp only [List.mem_cons, List.not_mem_nil, or_false] at hx
    rcases hx with rfl | rfl | rfl
    · exact H_Wo_size (by omega)
    · exact H_Tw_common (by omega)
    · exact H_Wo_at (by omega)
  · intro as σ K has hσ hG
    have hG2 := hG
    unfold S_Un_lettersBehind at hG2
    split at hG2
    · next a1 a2 =>
      refine ⟨Nat.le_of_ble_eq_true rfl, (Iv_Un_lettersBehind a1 a2 σ), ?_, 1000, ?_⟩
      · intro k n z L σ' hk hL hs hP
        unfold Iv_Un_lettersBehind at hk
        split at hk
        · cases hk
          obtain ⟨v3, v4, rfl, hn, hQ⟩ := hP
          exact ⟨1000, l_Un_lettersBehind_4 a1 a2 σ K (has _ (List.mem_of_getElem? (i := 1) rfl)) (has _ (List.mem_of_getElem? (i := 2) rfl)) hσ hG v3 v4 σ' (hL _ (List.mem_of_getElem? (i := 3) rfl)) (hL _ (List.mem_of_getElem? (i := 4) rfl)) hs n hn hQ⟩
        · cases hk
      · exact e_Un_lettersBehind a1 a2 σ K (has _ (List.mem_of_getElem? (i := 1) rfl)) (has _ (List.mem_of_getElem? (i := 2) rfl)) hσ hG
    · exact hG2.elim
