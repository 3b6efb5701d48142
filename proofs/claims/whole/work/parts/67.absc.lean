/-! the class: words that are absent -/
theorem ahd_0 {w : Int → Int} {n i L c : Int} (h : (i = 0 ∧ L = 0) ∨ ¬ isE w i L) : ¬ ahdU w n i L i c := by
  rintro ⟨x, x1, x2, x3, x4, x5⟩
  rcases h with h | h
  · omega
  · exact h ⟨x, by omega, x2, eqs_symm x4⟩
theorem beh_0 {w : Int → Int} {n i L c : Int} (h : (i = 0 ∧ L = 0) ∨ ¬ isE w i L) : ¬ behU w n i L i c := by
  rintro ⟨x, x1, x2, x3, x4, x5⟩
  rcases h with h | h
  · omega
  · exact h ⟨x, by omega, x2, eqs_symm x4⟩
theorem bot_0 {w : Int → Int} {n i L a b : Int} (h : (i = 0 ∧ L = 0) ∨ ¬ isE w i L) : ¬ botU w n i L i a b := by
  rintro ⟨x, x1, x2, x3, x4, x5⟩
  rcases h with h | h
  · omega
  · exact h ⟨x, by omega, x2, eqs_symm x4⟩
theorem or_0 {a : Int} (h0 : 0 ≤ a) (h1 : a < 2147483648) : orI a 0 = a := by
  have := orI_nat h0 h1 (Int.le_refl 0) (by omega)
  rw [this]
  simp
  omega
/-- bits that tell of what P holds -/
def bB (r : Int) (P : Int → Prop) : Prop := (0 ≤ r ∧ r < 2 ^ 26) ∧ ∀ c, 0 ≤ c → (bitI r c ↔ P c)
theorem bB_0 {P : Int → Prop} (h : ∀ c, ¬ P c) : bB 0 P := ⟨⟨by omega, by omega⟩, fun c _ => ⟨fun z => absurd z bit_0, fun z => absurd z (h c)⟩⟩
theorem bB_iff {r : Int} {P P' : Int → Prop} (h : bB r P) (hp : ∀ c, P' c ↔ P c) : bB r P' := ⟨h.1, fun c c0 => (h.2 c c0).trans (hp c).symm⟩
theorem bB_or {r k : Int} {P P' : Int → Prop} (h : bB r P) (h0 : 0 ≤ k) (h1 : k < 26) (hp : ∀ c, P' c ↔ P c ∨ c = k) : bB (orI r (shlI 1 k)) P' := by
  have ho := or_bit (a := r) (c := k) (m := 26) h.1.1 h.1.2 (by omega) h0 h1
  refine ⟨⟨ho.1, ho.2.1⟩, fun c c0 => ?_⟩
  rw [ho.2.2 c c0, h.2 c c0, hp c]
theorem sh26 {k : Int} (h0 : 0 ≤ k) (h1 : k < 26) : 0 ≤ k ∧ k < 32 ∧ InR (shlI 1 k) := by
  have := shl1 (c := k) h0 (by omega)
  omega
def S_Un_addAbsentAround : GS := fun as σ K => match as with
  | [some (.inr (.inr (9, 0))), some (.inl a1), some (.inl a2)] => (TwC σ ∧ 0 ≤ a1 ∧ 0 ≤ a2 ∧ a1 + a2 ≤ (σ 501 0 0) ∧ ((a1 = 0 ∧ a2 = 0) ∨ ¬ isE (cW σ) a1 a2) ∧ 0 ≤ σ 467 0 0 ∧ σ 467 0 0 ≤ 1000000000) ∧ ∀ σ', Fr ArL σ σ' → TwC σ' → σ' 467 0 0 = σ 467 0 0 + absM (cW σ) (σ 501 0 0) a1 a2 → (∀ M S, AB σ M S → AB σ' (M + absM (cW σ) (σ 501 0 0) a1 a2) (fun x => S x ∨ (x = a2 + 2 ∧ 0 < absM (cW σ) (σ 501 0 0) a1 a2))) → K none σ'
  | _ => False
abbrev Lp_Un_addAbsentAround_2 (a1 : Int) (a2 : Int) (σ0 : SS) (n : Nat) (L : List AV) (σ : SS) : Prop := ∃ (v3 : Int), L = [vR 9 0, vI a1, vI a2, vI v3, none, none, none, none] ∧ n = (1000000 - v3).toNat ∧ ((Fr ArL σ0 σ) ∧ (Fr [(32, 0)] σ0 σ) ∧ (TwC σ) ∧ (0 ≤ v3) ∧ (v3 ≤ 26) ∧ (∀ c, 0 ≤ c → c < v3 → σ 32 0 c = 0))
abbrev Lp_Un_addAbsentAround_18 (a1 : Int) (a2 : Int) (σ0 : SS) (n : Nat) (L : List AV) (σ : SS) : Prop := ∃ (v3 : Int) (v4 : Int) (v5 : Int), L = [vR 9 0, vI a1, vI a2, vI v3, vI v4, vI v5, none, none] ∧ n = (5 * (1000 - v5) + 1000).toNat ∧ ((Fr ArL σ0 σ) ∧ (σ 467 0 = σ0 467 0) ∧ (σ 468 0 = σ0 468 0) ∧ (σ 469 0 = σ0 469 0) ∧ (TwC σ) ∧ (a1 ≤ v5) ∧ (v5 + a2 ≤ (σ0 501 0 0) + 1) ∧ (bB v3 (ahdU (cW σ0) (σ0 501 0 0) a1 a2 v5)) ∧ (bB v4 (behU (cW σ0) (σ0 501 0 0) a1 a2 v5)) ∧ (∀ a, 0 ≤ a → a < 26 → bB (σ 32 0 a) (botU (cW σ0) (σ0 501 0 0) a1 a2 v5 a)))
abbrev Lp_Un_addAbsentAround_56 (a1 : Int) (a2 : Int) (σ0 : SS) (n : Nat) (L : List AV) (σ : SS) : Prop := ∃ (v3 : Int) (v4 : Int) (v5 : Int) (v6 : Int) (v7 : Int), L = [vR 9 0, vI a1, vI a2, vI v3, vI v4, vI v5, vI v6, vI v7] ∧ n = (5 * (1000 - v5) + 999).toNat ∧ ((Fr ArL σ0 σ) ∧ (σ 467 0 = σ0 467 0) ∧ (σ 468 0 = σ0 468 0) ∧ (σ 469 0 = σ0 469 0) ∧ (TwC σ) ∧ (a1 ≤ v5) ∧ (v5 + a2 ≤ (σ0 501 0 0)) ∧ (bB v3 (ahdU (cW σ0) (σ0 501 0 0) a1 a2 (v5 + 1))) ∧ (bB v4 (behU (cW σ0) (σ0 501 0 0) a1 a2 v5)) ∧ (∀ a, 0 ≤ a → a < 26 → bB (σ 32 0 a) (botU (cW σ0) (σ0 501 0 0) a1 a2 v5 a)) ∧ (eqs (cW σ0) a1 v5 a2) ∧ (v6 = cW σ0 (v5 - 1)) ∧ (v7 = cW σ0 (v5 + a2)))
abbrev Lp_Un_addAbsentAround_66 (a1 : Int) (a2 : Int) (σ0 : SS) (n : Nat) (L : List AV) (σ : SS) : Prop := ∃ (v3 : Int) (v4 : Int) (v5 : Int) (v6 : Int) (v7 : Int), L = [vR 9 0, vI a1, vI a2, vI v3, vI v4, vI v5, vI v6, vI v7] ∧ n = (5 * (1000 - v5) + 998).toNat ∧ ((Fr ArL σ0 σ) ∧ (σ 467 0 = σ0 467 0) ∧ (σ 468 0 = σ0 468 0) ∧ (σ 469 0 = σ0 469 0) ∧ (TwC σ) ∧ (a1 ≤ v5) ∧ (v5 + a2 ≤ (σ0 501 0 0)) ∧ (bB v3 (ahdU (cW σ0) (σ0 501 0 0) a1 a2 (v5 + 1))) ∧ (bB v4 (behU (cW σ0) (σ0 501 0 0) a1 a2 (v5 + 1))) ∧ (∀ a, 0 ≤ a → a < 26 → bB (σ 32 0 a) (botU (cW σ0) (σ0 501 0 0) a1 a2 v5 a)) ∧ (eqs (cW σ0) a1 v5 a2) ∧ (v6 = cW σ0 (v5 - 1)) ∧ (v7 = cW σ0 (v5 + a2)))
abbrev Lp_Un_addAbsentAround_87 (a1 : Int) (a2 : Int) (σ0 : SS) (n : Nat) (L : List AV) (σ : SS) : Prop := ∃ (v3 : Int) (v4 : Int) (v5 : Int), L = [vR 9 0, vI a1, vI a2, vI v3, vI v4, vI v5, none, none] ∧ n = (900 - v5).toNat ∧ ((Fr ArL σ0 σ) ∧ (TwC σ) ∧ (0 ≤ v5) ∧ (v5 ≤ 26) ∧ (bB v3 (ahdU (cW σ0) (σ0 501 0 0) a1 a2 ((σ0 501 0 0) - a2 + 1))) ∧ (bB v4 (behU (cW σ0) (σ0 501 0 0) a1 a2 ((σ0 501 0 0) - a2 + 1))) ∧ (∀ M S, AB σ0 M S → AB σ (M + sumZ (absR (cW σ0) (σ0 501 0 0) a1 a2) 0 v5) (fun x => S x ∨ (x = a2 + 2 ∧ 0 < sumZ (absR (cW σ0) (σ0 501 0 0) a1 a2) 0 v5))) ∧ (∀ a, 0 ≤ a → a < 26 → bB (σ 32 0 a) (botU (cW σ0) (σ0 501 0 0) a1 a2 ((σ0 501 0 0) - a2 + 1) a)) ∧ (σ 467 0 0 = σ0 467 0 0 + sumZ (absR (cW σ0) (σ0 501 0 0) a1 a2) 0 v5))
def Iv_Un_addAbsentAround (a1 : Int) (a2 : Int) (σ0 : SS) (k : Nat) : Option (List Nat × (Nat → List AV → SS → Prop)) := match k with
  | 2 => some ([], Lp_Un_addAbsentAround_2 a1 a2 σ0)
  | 18 => some ([6, 7], Lp_Un_addAbsentAround_18 a1 a2 σ0)
  | 56 => some ([], Lp_Un_addAbsentAround_56 a1 a2 σ0)
  | 66 => some ([], Lp_Un_addAbsentAround_66 a1 a2 σ0)
  | 87 => some ([6, 7], Lp_Un_addAbsentAround_87 a1 a2 σ0)
  | _ => none
def VE_Un_addAbsentAround (a1 : Int) (a2 : Int) (σ : SS) (K : AV → SS → Prop) : Prop :=
  (∃ n', Lp_Un_addAbsentAround_2 a1 a2 σ n' [vR 9 0, vI a1, vI a2, vI 0, none, none, none, none] σ)
def VL_Un_addAbsentAround_2 (a1 : Int) (a2 : Int) (σ0 : SS) (K : AV → SS → Prop) (v3 : Int) (σ : SS) (n : Nat) : Prop :=
  (((26 : Int) ≤ v3 →
    (∃ n', n' < n ∧ Lp_Un_addAbsentAround_18 a1 a2 σ0 n' [vR 9 0, vI a1, vI a2, vI 0, vI 0, vI a1, none, none] σ)) ∧
  (v3 < 26 →
    ((0 ≤ (v3 : Int) ∧ (v3 : Int) < 26) ∧ ∀ σ1 : SS, σ1 = u3 σ 32 0 v3 0 →
    (InR (v3 + 1) ∧
    (∃ n', n' < n ∧ Lp_Un_addAbsentAround_2 a1 a2 σ0 n' [vR 9 0, vI a1, vI a2, vI (v3 + 1), none, none, none, none] σ1)))))
def VL_Un_addAbsentAround_18 (a1 : Int) (a2 : Int) (σ0 : SS) (K : AV → SS → Prop) (v3 : Int) (v4 : Int) (v5 : Int) (σ : SS) (n : Nat) : Prop :=
  (S_Wo_size [vR 10 0] σ (kI fun r1 σ1 =>
    (InR (r1 - a2) ∧
    (((r1 - a2) < v5 →
      (∃ n', n' < n ∧ Lp_Un_addAbsentAround_87 a1 a2 σ0 n' [vR 9 0, vI a1, vI a2, vI v3, vI v4, vI 0, none, none] σ1)) ∧
    (v5 ≤ (r1 - a2) →
      (S_Tw_common [vR 8 0, vI a1, vI v5] σ1 (kI fun r2 σ2 =>
        ((r2 < a2 →
          (InR (v5 + 1) ∧
          (∃ n', n' < n ∧ Lp_Un_addAbsentAround_18 a1 a2 σ0 n' [vR 9 0, vI a1, vI a2, vI v3, vI v4, vI (v5 + 1), none, none] σ2))) ∧
        (a2 ≤ r2 →
          (InR (v5 - 1) ∧
          (S_Wo_at [vR 10 0, vI (v5 - 1)] σ2 (kI fun r3 σ3 =>
            (InR (v5 + a2) ∧
            (S_Wo_at [vR 10 0, vI (v5 + a2)] σ3 (kI fun r4 σ4 =>
              ((r3 < 0 →
                (∃ n', n' < n ∧ Lp_Un_addAbsentAround_56 a1 a2 σ0 n' [vR 9 0, vI a1, vI a2, vI (orI v3 0), vI v4, vI v5, vI r3, vI r4] σ4)) ∧
              ((0 : Int) ≤ r3 →
                ((0 ≤ (r3 : Int) ∧ (r3 : Int) < 32 ∧ InR (shlI 1 r3)) ∧
                (∃ n', n' < n ∧ Lp_Un_addAbsentAround_56 a1 a2 σ0 n' [vR 9 0, vI a1, vI a2, vI (orI v3 (shlI 1 r3)), vI v4, vI v5, vI r3, vI r4] σ4)))))))))))))))))))
def VL_Un_addAbsentAround_56 (a1 : Int) (a2 : Int) (σ0 : SS) (K : AV → SS → Prop) (v3 : Int) (v4 : Int) (v5 : Int) (v6 : Int) (v7 : Int) (σ : SS) (n : Nat) : Prop :=
  ((v7 < 0 →
    (∃ n', n' < n ∧ Lp_Un_addAbsentAround_66 a1 a2 σ0 n' [vR 9 0, vI a1, vI a2, vI v3, vI (orI v4 0), vI v5, vI v6, vI v7] σ)) ∧
  ((0 : Int) ≤ v7 →
    ((0 ≤ (v7 : Int) ∧ (v7 : Int) < 32 ∧ InR (shlI 1 v7)) ∧
    (∃ n', n' < n ∧ Lp_Un_addAbsentAround_66 a1 a2 σ0 n' [vR 9 0, vI a1, vI a2, vI v3, vI (orI v4 (shlI 1 v7)), vI v5, vI v6, vI v7] σ))))
def VL_Un_addAbsentAround_66 (a1 : Int) (a2 : Int) (σ0 : SS) (K : AV → SS → Prop) (v3 : Int) (v4 : Int) (v5 : Int) (v6 : Int) (v7 : Int) (σ : SS) (n : Nat) : Prop :=
  ((v6 < 0 →
    (InR (v5 + 1) ∧
    (∃ n', n' < n ∧ Lp_Un_addAbsentAround_18 a1 a2 σ0 n' [vR 9 0, vI a1, vI a2, vI v3, vI v4, vI (v5 + 1), none, none] σ))) ∧
  ((0 : Int) ≤ v6 →
    (((26 : Int) ≤ v6 →
      (InR (v5 + 1) ∧
      (∃ n', n' < n ∧ Lp_Un_addAbsentAround_18 a1 a2 σ0 n' [vR 9 0, vI a1, vI a2, vI v3, vI v4, vI (v5 + 1), none, none] σ))) ∧
    (v6 < 26 →
      ((v7 < 0 →
        (InR (v5 + 1) ∧
        (∃ n', n' < n ∧ Lp_Un_addAbsentAround_18 a1 a2 σ0 n' [vR 9 0, vI a1, vI a2, vI v3, vI v4, vI (v5 + 1), none, none] σ))) ∧
      ((0 : Int) ≤ v7 →
        ((0 ≤ (v6 : Int) ∧ (v6 : Int) < 26) ∧
        ((0 ≤ (v7 : Int) ∧ (v7 : Int) < 32 ∧ InR (shlI 1 v7)) ∧
        ((0 ≤ (v6 : Int) ∧ (v6 : Int) < 26) ∧ ∀ σ1 : SS, σ1 = u3 σ 32 0 v6 (orI (σ 32 0 v6) (shlI 1 v7)) →
        (InR (v5 + 1) ∧
        (∃ n', n' < n ∧ Lp_Un_addAbsentAround_18 a1 a2 σ0 n' [vR 9 0, vI a1, vI a2, vI v3, vI v4, vI (v5 + 1), none, none] σ1)))))))))))
def VL_Un_addAbsentAround_87 (a1 : Int) (a2 : Int) (σ0 : SS) (K : AV → SS → Prop) (v3 : Int) (v4 : Int) (v5 : Int) (σ : SS) (n : Nat) : Prop :=
  (((26 : Int) ≤ v5 →
    (K none σ)) ∧
  (v5 < 26 →
    ((0 ≤ (v5 : Int) ∧ (v5 : Int) < 32 ∧ InR (shrI v3 v5)) ∧
    (((andI (shrI v3 v5) 1) ≠ 1 →
      (InR (v5 + 1) ∧
      (∃ n', n' < n ∧ Lp_Un_addAbsentAround_87 a1 a2 σ0 n' [vR 9 0, vI a1, vI a2, vI v3, vI v4, vI (v5 + 1), none, none] σ))) ∧
    ((andI (shrI v3 v5) 1) = 1 →
      (InR (a2 + 2) ∧
      ((0 ≤ (v5 : Int) ∧ (v5 : Int) < 26) ∧
      (S_In_bitCount [vI (andI v4 (xorI (σ 32 0 v5) (-1)))] σ (kI fun r1 σ1 =>
        (S_Un_addAbsent [vR 9 0, vI (a2 + 2), vI r1] σ1 (kV fun σ2 =>
          (InR (v5 + 1) ∧
          (∃ n', n' < n ∧ Lp_Un_addAbsentAround_87 a1 a2 σ0 n' [vR 9 0, vI a1, vI a2, vI v3, vI v4, vI (v5 + 1), none, none] σ2)))))))))))))
theorem l_Un_addAbsentAround_2 (a1 : Int) (a2 : Int) (σ0 : SS) (K : AV → SS → Prop) (ha1 : InR a1) (ha2 : InR a2) (hs0 : okS σ0) (hG : S_Un_addAbsentAround [vR 9 0, vI a1, vI a2] σ0 K) (v3 : Int) (σ : SS) (hv3 : InR v3) (hs : okS σ) (n : Nat) (hn : n = (1000000 - v3).toNat) (hQ : (Fr ArL σ0 σ) ∧ (Fr [(32, 0)] σ0 σ) ∧ (TwC σ) ∧ (0 ≤ v3) ∧ (v3 ≤ 26) ∧ (∀ c, 0 ≤ c → c < v3 → σ 32 0 c = 0)) : VL_Un_addAbsentAround_2 a1 a2 σ0 K v3 σ n := by
  unfold VL_Un_addAbsentAround_2
  obtain ⟨⟨hT, h1, h2, h3, h4, h5, h6⟩, hG⟩ := hG
  have hb := hT.n
  obtain ⟨q1, q2, q3, q4, q5, q6⟩ := hQ
  refine ⟨fun c1 => ?_, fun c1 => ?_⟩
  · skip
    refine ⟨_, ?_, _, _, _, rfl, rfl, ?_⟩
    · omega
    · refine ⟨?_, ?_, ?_, ?_, ?_, ?_, ?_, ?_, ?_, ?_⟩
      · first | rfl | assumption | omega
      · exact q2 _ _ (by simp)
      · exact q2 _ _ (by simp)
      · exact q2 _ _ (by simp)
      · first | rfl | assumption | omega
      · first | rfl | assumption | omega
      · first | rfl | assumption | omega
      · exact bB_0 (fun c => ahd_0 h4)
      · exact bB_0 (fun c => beh_0 h4)
      · exact fun a g1 g2 => by rw [q6 a g1 (by omega)]; exact bB_0 (fun b => bot_0 h4)
  · skip
    refine ⟨(by omega), fun σ2 e2 => ?_⟩
    refine ⟨(by omega), ?_⟩
    refine ⟨_, ?_, _, rfl, rfl, ?_⟩
    · omega
    · refine ⟨?_, ?_, ?_, ?_, ?_, ?_⟩
      · rw [e2]; exact Fr_trans q1 (Fr_u3 (by simp [ArL]))
      · rw [e2]; exact Fr_trans q2 (Fr_u3 (by simp))
      · exact TwC_o (l := [(32, 0)]) q3 (by rw [e2]; exact Fr_u3 (by simp)) (by simp)
      · first | rfl | assumption | omega
      · first | rfl | assumption | omega
      · intro c g1 g2
        rw [e2, u3_e]
        by_cases hc : c = v3
        · rw [if_pos hc]
        · rw [if_neg hc]; exact q6 c g1 (by omega)
theorem l_Un_addAbsentAround_18 (a1 : Int) (a2 : Int) (σ0 : SS) (K : AV → SS → Prop) (ha1 : InR a1) (ha2 : InR a2) (hs0 : okS σ0) (hG : S_Un_addAbsentAround [vR 9 0, vI a1, vI a2] σ0 K) (v3 : Int) (v4 : Int) (v5 : Int) (σ : SS) (hv3 : InR v3) (hv4 : InR v4) (hv5 : InR v5) (hs : okS σ) (n : Nat) (hn : n = (5 * (1000 - v5) + 1000).toNat) (hQ : (Fr ArL σ0 σ) ∧ (σ 467 0 = σ0 467 0) ∧ (σ 468 0 = σ0 468 0) ∧ (σ 469 0 = σ0 469 0) ∧ (TwC σ) ∧ (a1 ≤ v5) ∧ (v5 + a2 ≤ (σ0 501 0 0) + 1) ∧ (bB v3 (ahdU (cW σ0) (σ0 501 0 0) a1 a2 v5)) ∧ (bB v4 (behU (cW σ0) (σ0 501 0 0) a1 a2 v5)) ∧ (∀ a, 0 ≤ a → a < 26 → bB (σ 32 0 a) (botU (cW σ0) (σ0 501 0 0) a1 a2 v5 a))) : VL_Un_addAbsentAround_18 a1 a2 σ0 K v3 v4 v5 σ n := by
  unfold VL_Un_addAbsentAround_18
  obtain ⟨⟨hT, h1, h2, h3, h4, h5, h6⟩, hG⟩ := hG
  have hb := hT.n
  obtain ⟨q1, q2, q3, q4, q5, q6, q7, q8, q9, q10⟩ := hQ
  have aq : AQ σ0 σ := ⟨Fr_mono q1 (by intro q hq; simp [AqL, hq]), q5⟩
  obtain ⟨w1, w2⟩ := aq.w
  intro _ _
  refine ⟨(by omega), ?_⟩
  refine ⟨fun c1 => ?_, fun c1 => ?_⟩
  · skip
    have ev : v5 = (σ0 501 0 0) - a2 + 1 := by omega
    rw [ev] at q8 q9 q10
    refine ⟨_, ?_, _, _, _, rfl, rfl, ?_⟩
    · omega
    · refine ⟨?_, ?_, ?_, ?_, ?_, ?_, ?_, ?_, ?_⟩
      · exact q1
      · first | rfl | assumption | omega
      · first | rfl | assumption | omega
      · first | rfl | assumption | omega
      · first | rfl | assumption | omega
      · first | rfl | assumption | omega
      · exact fun M S g => AB_iff (AB_fr g q2 q3 q4) (by rw [sumZ_nil (by omega)]; omega) (fun x => ⟨fun z => z.elim id (fun y => by rw [sumZ_nil (by omega)] at y; omega), Or.inl⟩)
      · first | rfl | assumption | omega
      · rw [sumZ_nil (by omega), q2]; omega
  · skip
    refine ⟨(by exact q5), (fun σ2 h2a h2b => ?_)⟩
    intro _ _
    rw [w1, w2]
    have tq : TQ σ σ2 := ⟨h2a, h2b⟩
    have aq2 := aq.tr tq.A
    have f1 : Fr ArL σ0 σ2 := Fr_trans q1 (Fr_mono tq.1 (by intro q hq; simp [ArL, hq]))
    have y1 : σ2 467 0 = σ0 467 0 := (tq.1 _ _ (by simp [TwL])).trans q2
    have y2 : σ2 468 0 = σ0 468 0 := (tq.1 _ _ (by simp [TwL])).trans q3
    have y3 : σ2 469 0 = σ0 469 0 := (tq.1 _ _ (by simp [TwL])).trans q4
    have y4 : σ2 32 0 = σ 32 0 := tq.1 _ _ (by simp [TwL])
    have hT2 : TwC σ2 := tq.2
    have nn : eqs (cW σ0) a1 v5 a2 ↔ a2 ≤ lceR (cW σ0) (σ0 501 0 0) a1 v5 := by
      by_cases hz : a1 < (σ0 501 0 0) ∧ v5 < (σ0 501 0 0)
      · have hc := common_ge (w := cW σ0) (n := (σ0 501 0 0)) (i := a1) (j := v5) (L := a2) (by omega) (by omega) (by omega) (by omega) h2
        exact ⟨fun z => hc.mpr ⟨by omega, z⟩, fun z => (hc.mp z).2⟩
      · rw [lceR, if_neg (by omega)]
        exact ⟨fun _ => by omega, fun _ => eqs_0 (by omega)⟩
    have at1 : ∀ p, atW (σ2 20 0) (σ2 501 0 0) p = cW σ0 p := fun p => by rw [← aq2.w.1]; rfl
    refine ⟨fun c3 => ?_, fun c3 => ?_⟩
    · skip
      refine ⟨(by omega), ?_⟩
      refine ⟨_, ?_, _, _, _, rfl, rfl, ?_⟩
      · omega
      · refine ⟨?_, ?_, ?_, ?_, ?_, ?_, ?_, ?_, ?_, ?_⟩
        · first | rfl | assumption | omega
        · first | rfl | assumption | omega
        · first | rfl | assumption | omega
        · first | rfl | assumption | omega
        · first | rfl | assumption | omega
        · first | rfl | assumption | omega
        · first | rfl | assumption | omega
        · exact bB_iff q8 (fun c => ahd_no (fun z => by have := nn.mp z.1; omega))
        · exact bB_iff q9 (fun c => beh_no (fun z => by have := nn.mp z.1; omega))
        · intro a g1 g2
          rw [y4]
          exact bB_iff (q10 a g1 g2) (fun b => bot_no (fun z => by have := nn.mp z.1; omega))
    · skip
      refine ⟨(by omega), ?_⟩
      refine ⟨(by rw [aq2.w.2]; omega), ?_⟩
      intro _ _
      rw [at1]
      refine ⟨(by omega), ?_⟩
      refine ⟨(by rw [aq2.w.2]; omega), ?_⟩
      intro _ _
      rw [at1]
      refine ⟨fun c4 => ?_, fun c4 => ?_⟩
      · skip
        have he := nn.mpr (by assumption)
        have n1 : cW σ0 (v5 - 1) < 0 ↔ v5 = 0 := by
          rcases (by omega : v5 = 0 ∨ 1 ≤ v5) with z | z
          · rw [show cW σ0 (v5 - 1) = -1 from if_neg (by omega)]; omega
          · have := hT.let (x := v5 - 1) (by omega) (by omega); omega
        refine ⟨_, ?_, _, _, _, _, _, rfl, rfl, ?_⟩
        · omega
        · refine ⟨?_, ?_, ?_, ?_, ?_, ?_, ?_, ?_, ?_, ?_, ?_, ?_, ?_⟩
          · first | rfl | assumption | omega
          · first | rfl | assumption | omega
          · first | rfl | assumption | omega
          · first | rfl | assumption | omega
          · first | rfl | assumption | omega
          · first | rfl | assumption | omega
          · first | rfl | assumption | omega
          · rw [or_0 q8.1.1 (by have := q8.1.2; omega)]; exact bB_iff q8 (fun c => ahd_no (fun z => by omega))
          · first | rfl | assumption | omega
          · rw [y4]; exact q10
          · first | rfl | assumption | omega
          · first | rfl | assumption | omega
          · first | rfl | assumption | omega
      · skip
        refine ⟨(by exact sh26 (by assumption) (by have := hT.let (x := v5 - 1) (Classical.byContradiction (fun z => by have : cW σ0 (v5 - 1) = -1 := if_neg (by omega); omega)) (by omega); omega)), ?_⟩
        have he := nn.mpr (by assumption)
        have n1 : cW σ0 (v5 - 1) < 0 ↔ v5 = 0 := by
          rcases (by omega : v5 = 0 ∨ 1 ≤ v5) with z | z
          · rw [show cW σ0 (v5 - 1) = -1 from if_neg (by omega)]; omega
          · have := hT.let (x := v5 - 1) (by omega) (by omega); omega
        refine ⟨_, ?_, _, _, _, _, _, rfl, rfl, ?_⟩
        · omega
        · refine ⟨?_, ?_, ?_, ?_, ?_, ?_, ?_, ?_, ?_, ?_, ?_, ?_, ?_⟩
          · first | rfl | assumption | omega
          · first | rfl | assumption | omega
          · first | rfl | assumption | omega
          · first | rfl | assumption | omega
          · first | rfl | assumption | omega
          · first | rfl | assumption | omega
          · first | rfl | assumption | omega
          · have hl := hT.let (x := v5 - 1) (by omega) (by omega)
            exact bB_or q8 hl.1 hl.2 (fun c => ahd_yes he (by omega) (by omega))
          · first | rfl | assumption | omega
          · rw [y4]; exact q10
          · first | rfl | assumption | omega
          · first | rfl | assumption | omega
          · first | rfl | assumption | omega
theorem l_Un_addAbsentAround_56 (a1 : Int) (a2 : Int) (σ0 : SS) (K : AV → SS → Prop) (ha1 : InR a1) (ha2 : InR a2) (hs0 : okS σ0) (hG : S_Un_addAbsentAround [vR 9 0, vI a1, vI a2] σ0 K) (v3 : Int) (v4 : Int) (v5 : Int) (v6 : Int) (v7 : Int) (σ : SS) (hv3 : InR v3) (hv4 : InR v4) (hv5 : InR v5) (hv6 : InR v6) (hv7 : InR v7) (hs : okS σ) (n : Nat) (hn : n = (5 * (1000 - v5) + 999).toNat) (hQ : (Fr ArL σ0 σ) ∧ (σ 467 0 = σ0 467 0) ∧ (σ 468 0 = σ0 468 0) ∧ (σ 469 0 = σ0 469 0) ∧ (TwC σ) ∧ (a1 ≤ v5) ∧ (v5 + a2 ≤ (σ0 501 0 0)) ∧ (bB v3 (ahdU (cW σ0) (σ0 501 0 0) a1 a2 (v5 + 1))) ∧ (bB v4 (behU (cW σ0) (σ0 501 0 0) a1 a2 v5)) ∧ (∀ a, 0 ≤ a → a < 26 → bB (σ 32 0 a) (botU (cW σ0) (σ0 501 0 0) a1 a2 v5 a)) ∧ (eqs (cW σ0) a1 v5 a2) ∧ (v6 = cW σ0 (v5 - 1)) ∧ (v7 = cW σ0 (v5 + a2))) : VL_Un_addAbsentAround_56 a1 a2 σ0 K v3 v4 v5 v6 v7 σ n := by
  unfold VL_Un_addAbsentAround_56
  obtain ⟨⟨hT, h1, h2, h3, h4, h5, h6⟩, hG⟩ := hG
  have hb := hT.n
  obtain ⟨q1, q2, q3, q4, q5, q6, q7, q8, q9, q10, q11, q12, q13⟩ := hQ
  have n1 : (v7 < 0 ∧ v5 + a2 = (σ0 501 0 0)) ∨ (0 ≤ v7 ∧ v7 < 26 ∧ v5 + a2 < (σ0 501 0 0)) := by
    rcases (by omega : v5 + a2 = (σ0 501 0 0) ∨ v5 + a2 < (σ0 501 0 0)) with z | z
    · rw [show cW σ0 (v5 + a2) = -1 from if_neg (by omega)] at q13; omega
    · have := hT.let (x := v5 + a2) (by omega) (by omega); omega
  refine ⟨fun c1 => ?_, fun c1 => ?_⟩
  · skip
    refine ⟨_, ?_, _, _, _, _, _, rfl, rfl, ?_⟩
    · omega
    · refine ⟨?_, ?_, ?_, ?_, ?_, ?_, ?_, ?_, ?_, ?_, ?_, ?_, ?_⟩
      · first | rfl | assumption | omega
      · first | rfl | assumption | omega
      · first | rfl | assumption | omega
      · first | rfl | assumption | omega
      · first | rfl | assumption | omega
      · first | rfl | assumption | omega
      · first | rfl | assumption | omega
      · first | rfl | assumption | omega
      · rw [or_0 q9.1.1 (by have := q9.1.2; omega)]; exact bB_iff q9 (fun c => beh_no (fun z => by omega))
      · first | rfl | assumption | omega
      · first | rfl | assumption | omega
      · first | rfl | assumption | omega
      · first | rfl | assumption | omega
  · skip
    refine ⟨(by exact sh26 (by omega) (by omega)), ?_⟩
    refine ⟨_, ?_, _, _, _, _, _, rfl, rfl, ?_⟩
    · omega
    · refine ⟨?_, ?_, ?_, ?_, ?_, ?_, ?_, ?_, ?_, ?_, ?_, ?_, ?_⟩
      · first | rfl | assumption | omega
      · first | rfl | assumption | omega
      · first | rfl | assumption | omega
      · first | rfl | assumption | omega
      · first | rfl | assumption | omega
      · first | rfl | assumption | omega
      · first | rfl | assumption | omega
      · first | rfl | assumption | omega
      · exact bB_or q9 (by omega) (by omega) (fun c => by rw [q13]; exact beh_yes q11 (by omega) (by omega))
      · first | rfl | assumption | omega
      · first | rfl | assumption | omega
      · first | rfl | assumption | omega
      · first | rfl | assumption | omega
theorem l_Un_addAbsentAround_66 (a1 : Int) (a2 : Int) (σ0 : SS) (K : AV → SS → Prop) (ha1 : InR a1) (ha2 : InR a2) (hs0 : okS σ0) (hG : S_Un_addAbsentAround [vR 9 0, vI a1, vI a2] σ0 K) (v3 : Int) (v4 : Int) (v5 : Int) (v6 : Int) (v7 : Int) (σ : SS) (hv3 : InR v3) (hv4 : InR v4) (hv5 : InR v5) (hv6 : InR v6) (hv7 : InR v7) (hs : okS σ) (n : Nat) (hn : n = (5 * (1000 - v5) + 998).toNat) (hQ : (Fr ArL σ0 σ) ∧ (σ 467 0 = σ0 467 0) ∧ (σ 468 0 = σ0 468 0) ∧ (σ 469 0 = σ0 469 0) ∧ (TwC σ) ∧ (a1 ≤ v5) ∧ (v5 + a2 ≤ (σ0 501 0 0)) ∧ (bB v3 (ahdU (cW σ0) (σ0 501 0 0) a1 a2 (v5 + 1))) ∧ (bB v4 (behU (cW σ0) (σ0 501 0 0) a1 a2 (v5 + 1))) ∧ (∀ a, 0 ≤ a → a < 26 → bB (σ 32 0 a) (botU (cW σ0) (σ0 501 0 0) a1 a2 v5 a)) ∧ (eqs (cW σ0) a1 v5 a2) ∧ (v6 = cW σ0 (v5 - 1)) ∧ (v7 = cW σ0 (v5 + a2))) : VL_Un_addAbsentAround_66 a1 a2 σ0 K v3 v4 v5 v6 v7 σ n := by
  unfold VL_Un_addAbsentAround_66
  obtain ⟨⟨hT, h1, h2, h3, h4, h5, h6⟩, hG⟩ := hG
  have hb := hT.n
  obtain ⟨q1, q2, q3, q4, q5, q6, q7, q8, q9, q10, q11, q12, q13⟩ := hQ
  have n1 : (v7 < 0 ∧ v5 + a2 = (σ0 501 0 0)) ∨ (0 ≤ v7 ∧ v7 < 26 ∧ v5 + a2 < (σ0 501 0 0)) := by
    rcases (by omega : v5 + a2 = (σ0 501 0 0) ∨ v5 + a2 < (σ0 501 0 0)) with z | z
    · rw [show cW σ0 (v5 + a2) = -1 from if_neg (by omega)] at q13; omega
    · have := hT.let (x := v5 + a2) (by omega) (by omega); omega
  have n2 : (v6 < 0 ∧ v5 = 0) ∨ (0 ≤ v6 ∧ v6 < 26 ∧ 1 ≤ v5) := by
    rcases (by omega : v5 = 0 ∨ 1 ≤ v5) with z | z
    · rw [show cW σ0 (v5 - 1) = -1 from if_neg (by omega)] at q12; omega
    · have := hT.let (x := v5 - 1) (by omega) (by omega); omega
  refine ⟨fun c1 => ?_, fun c1 => ?_⟩
  · skip
    refine ⟨(by omega), ?_⟩
    refine ⟨_, ?_, _, _, _, rfl, rfl, ?_⟩
    · omega
    · refine ⟨?_, ?_, ?_, ?_, ?_, ?_, ?_, ?_, ?_, ?_⟩
      · first | rfl | assumption | omega
      · first | rfl | assumption | omega
      · first | rfl | assumption | omega
      · first | rfl | assumption | omega
      · first | rfl | assumption | omega
      · first | rfl | assumption | omega
      · first | rfl | assumption | omega
      · first | rfl | assumption | omega
      · first | rfl | assumption | omega
      · exact fun a g1 g2 => bB_iff (q10 a g1 g2) (fun b => bot_no (fun z => by omega))
  · skip
    refine ⟨fun c2 => ?_, fun c2 => ?_⟩
    · skip
      refine ⟨(by omega), ?_⟩
      refine ⟨_, ?_, _, _, _, rfl, rfl, ?_⟩
      · omega
      · refine ⟨?_, ?_, ?_, ?_, ?_, ?_, ?_, ?_, ?_, ?_⟩
        · first | rfl | assumption | omega
        · first | rfl | assumption | omega
        · first | rfl | assumption | omega
        · first | rfl | assumption | omega
        · first | rfl | assumption | omega
        · first | rfl | assumption | omega
        · first | rfl | assumption | omega
        · first | rfl | assumption | omega
        · first | rfl | assumption | omega
        · exact fun a g1 g2 => bB_iff (q10 a g1 g2) (fun b => bot_no (fun z => by omega))
    · skip
      refine ⟨fun c3 => ?_, fun c3 => ?_⟩
      · skip
        refine ⟨(by omega), ?_⟩
        refine ⟨_, ?_, _, _, _, rfl, rfl, ?_⟩
        · omega
        · refine ⟨?_, ?_, ?_, ?_, ?_, ?_, ?_, ?_, ?_, ?_⟩
          · first | rfl | assumption | omega
          · first | rfl | assumption | omega
          · first | rfl | assumption | omega
          · first | rfl | assumption | omega
          · first | rfl | assumption | omega
          · first | rfl | assumption | omega
          · first | rfl | assumption | omega
          · first | rfl | assumption | omega
          · first | rfl | assumption | omega
          · exact fun a g1 g2 => bB_iff (q10 a g1 g2) (fun b => bot_no (fun z => by omega))
      · skip
        refine ⟨(by omega), ?_⟩
        refine ⟨(by exact sh26 (by omega) (by omega)), ?_⟩
        refine ⟨(by omega), fun σ4 e4 => ?_⟩
        refine ⟨(by omega), ?_⟩
        refine ⟨_, ?_, _, _, _, rfl, rfl, ?_⟩
        · omega
        · refine ⟨?_, ?_, ?_, ?_, ?_, ?_, ?_, ?_, ?_, ?_⟩
          · rw [e4]; exact Fr_trans q1 (Fr_u3 (by simp [ArL]))
          · rw [e4, u3_F (by decide)]; exact q2
          · rw [e4, u3_F (by decide)]; exact q3
          · rw [e4, u3_F (by decide)]; exact q4
          · exact TwC_o (l := [(32, 0)]) q5 (by rw [e4]; exact Fr_u3 (by simp)) (by simp)
          · first | rfl | assumption | omega
          · first | rfl | assumption | omega
          · first | rfl | assumption | omega
          · first | rfl | assumption | omega
          · intro a g1 g2
            rw [e4, u3_e]
            have hy := fun b => bot_yes (w := cW σ0) (n := (σ0 501 0 0)) (i := a1) (L := a2) (u := v5) (a := a) (b := b) q11 (by omega) (by omega)
            by_cases hc : a = v6
            · rw [if_pos hc]
              refine bB_or (by have := q10 a g1 g2; rw [hc] at this; exact this) (by omega) (by omega) (fun b => ?_)
              rw [hc, q13]
              rw [hc, ← q12] at hy
              exact (hy b).trans ⟨fun z => z.elim Or.inl (fun y => Or.inr y.2), fun z => z.elim Or.inl (fun y => Or.inr ⟨rfl, y⟩)⟩
            · rw [if_neg hc]
              exact bB_iff (q10 a g1 g2) (fun b => (hy b).trans ⟨fun z => z.elim id (fun y => absurd (y.1.trans q12.symm) hc), Or.inl⟩)
theorem l_Un_addAbsentAround_87 (a1 : Int) (a2 : Int) (σ0 : SS) (K : AV → SS → Prop) (ha1 : InR a1) (ha2 : InR a2) (hs0 : okS σ0) (hG : S_Un_addAbsentAround [vR 9 0, vI a1, vI a2] σ0 K) (v3 : Int) (v4 : Int) (v5 : Int) (σ : SS) (hv3 : InR v3) (hv4 : InR v4) (hv5 : InR v5) (hs : okS σ) (n : Nat) (hn : n = (900 - v5).toNat) (hQ : (Fr ArL σ0 σ) ∧ (TwC σ) ∧ (0 ≤ v5) ∧ (v5 ≤ 26) ∧ (bB v3 (ahdU (cW σ0) (σ0 501 0 0) a1 a2 ((σ0 501 0 0) - a2 + 1))) ∧ (bB v4 (behU (cW σ0) (σ0 501 0 0) a1 a2 ((σ0 501 0 0) - a2 + 1))) ∧ (∀ M S, AB σ0 M S → AB σ (M + sumZ (absR (cW σ0) (σ0 501 0 0) a1 a2) 0 v5) (fun x => S x ∨ (x = a2 + 2 ∧ 0 < sumZ (absR (cW σ0) (σ0 501 0 0) a1 a2) 0 v5))) ∧ (∀ a, 0 ≤ a → a < 26 → bB (σ 32 0 a) (botU (cW σ0) (σ0 501 0 0) a1 a2 ((σ0 501 0 0) - a2 + 1) a)) ∧ (σ 467 0 0 = σ0 467 0 0 + sumZ (absR (cW σ0) (σ0 501 0 0) a1 a2) 0 v5)) : VL_Un_addAbsentAround_87 a1 a2 σ0 K v3 v4 v5 σ n := by
  unfold VL_Un_addAbsentAround_87
  obtain ⟨⟨hT, h1, h2, h3, h4, h5, h6⟩, hG⟩ := hG
  have hb := hT.n
  obtain ⟨q1, q2, q3, q4, q5, q6, q7, q8, q9⟩ := hQ
  have sb := absRs_in (w := cW σ0) (n := (σ0 501 0 0)) (i := a1) (L := a2) (k := v5) (by omega)
  have ss := sumZ_succ (f := absR (cW σ0) (σ0 501 0 0) a1 a2) (a := 0) (b := v5) q3
  have rb := absR_in (w := cW σ0) (n := (σ0 501 0 0)) (i := a1) (L := a2) (a := v5)
  have sh := fun z : v5 < 26 => shr_bit (a := v3) (c := v5) q5.1.1 (by have := q5.1.2; omega) q3 (by omega)
  have no : ¬ ahdU (cW σ0) (σ0 501 0 0) a1 a2 ((σ0 501 0 0) - a2 + 1) v5 → absR (cW σ0) (σ0 501 0 0) a1 a2 v5 = 0 := fun z => cntZ_zero.mpr (fun b _ _ y => z y.1)
  have an := fun z : v5 < 26 => andnot (x := v4) (y := σ 32 0 v5) q6.1.1 q6.1.2 (q8 v5 q3 z).1.1 (q8 v5 q3 z).1.2
  refine ⟨fun c1 => ?_, fun c1 => ?_⟩
  · skip
    have e : v5 = 26 := by omega
    rw [e] at q7
    rw [e] at q9
    exact hG σ q1 q2 q9 q7
  · skip
    refine ⟨(by exact ⟨q3, by omega, (sh (by omega)).1⟩), ?_⟩
    refine ⟨fun c2 => ?_, fun c2 => ?_⟩
    · skip
      have nb : absR (cW σ0) (σ0 501 0 0) a1 a2 v5 = 0 := no (fun y => by have s3 := sh (by omega); have := s3.2.2.mpr ((q5.2 v5 q3).mpr y); omega)
      refine ⟨(by omega), ?_⟩
      refine ⟨_, ?_, _, _, _, rfl, rfl, ?_⟩
      · omega
      · refine ⟨?_, ?_, ?_, ?_, ?_, ?_, ?_, ?_, ?_⟩
        · first | rfl | assumption | omega
        · first | rfl | assumption | omega
        · first | rfl | assumption | omega
        · first | rfl | assumption | omega
        · first | rfl | assumption | omega
        · first | rfl | assumption | omega
        · exact fun M S g => by rw [ss, nb, Int.add_zero]; exact q7 M S g
        · first | rfl | assumption | omega
        · rw [ss, nb, Int.add_zero]; exact q9
    · skip
      refine ⟨(by omega), ?_⟩
      refine ⟨(by omega), ?_⟩
      have ah : ahdU (cW σ0) (σ0 501 0 0) a1 a2 ((σ0 501 0 0) - a2 + 1) v5 := (q5.2 v5 q3).mp ((sh (by omega)).2.2.mp (by omega))
      have a3 := an (by omega)
      have pc := pop_cnt a3.1 a3.2.1
      have pr : (popN (andI v4 (xorI (σ 32 0 v5) (-1))).toNat : Int) = absR (cW σ0) (σ0 501 0 0) a1 a2 v5 := by
        rw [pc]
        refine cntZ_congr (fun c c0 _ => ?_)
        rw [a3.2.2 c c0, q6.2 c c0, (q8 v5 q3 (by omega)).2 c c0]
        exact ⟨fun z => ⟨ah, z.1, z.2⟩, fun z => z.2⟩
      refine ⟨(by exact ⟨a3.1, a3.2.1⟩), ?_⟩
      intro _ _
      rw [pr]
      refine ⟨(by omega), (fun σ3 h3a h3b h3c => ?_)⟩
      intro _
      refine ⟨(by omega), ?_⟩
      refine ⟨_, ?_, _, _, _, rfl, rfl, ?_⟩
      · omega
      · refine ⟨?_, ?_, ?_, ?_, ?_, ?_, ?_, ?_, ?_⟩
        · exact Fr_trans q1 (Fr_mono h3a (by intro q hq; simp [ArL, hq]))
        · exact TwC_o q2 h3a (by simp [AbL])
        · first | rfl | assumption | omega
        · first | rfl | assumption | omega
        · first | rfl | assumption | omega
        · first | rfl | assumption | omega
        · intro M S g
          refine AB_iff (h3c _ _ (q7 M S g)) (by rw [ss]; omega) (fun x => ?_)
          rw [ss]
          constructor
          · rintro (z | ⟨z, y⟩)
            · exact Or.inl (Or.inl z)
            · rcases (by omega : 0 < sumZ (absR (cW σ0) (σ0 501 0 0) a1 a2) 0 v5 ∨ 0 < absR (cW σ0) (σ0 501 0 0) a1 a2 v5) with k | k
              · exact Or.inl (Or.inr ⟨z, k⟩)
              · exact Or.inr ⟨z, k⟩
          · rintro ((z | z) | z)
            · exact Or.inl z
            · exact Or.inr ⟨z.1, by omega⟩
            · exact Or.inr ⟨z.1, by omega⟩
        · rw [h3a _ _ (by simp [AbL])]; exact q8
        · rw [h3b]; omega
theorem e_Un_addAbsentAround (a1 : Int) (a2 : Int) (σ : SS) (K : AV → SS → Prop) (ha1 : InR a1) (ha2 : InR a2) (hs : okS σ) (hG : S_Un_addAbsentAround [vR 9 0, vI a1, vI a2] σ K) : VE_Un_addAbsentAround a1 a2 σ K := by
  unfold VE_Un_addAbsentAround
  obtain ⟨⟨hT, h1, h2, h3, h4, h5, h6⟩, hG⟩ := hG
  refine ⟨_, _, rfl, rfl, ?_⟩
  refine ⟨?_, ?_, ?_, ?_, ?_, ?_⟩
  · exact Fr_refl
  · exact Fr_refl
  · first | rfl | assumption | omega
  · first | rfl | assumption | omega
  · first | rfl | assumption | omega
  · exact fun c g1 g2 => by omega
theorem H_Un_addAbsentAround {d : Nat} (hd : 3 ≤ d) : Holds d I_Un_addAbsentAround S_Un_addAbsentAround := by
  refine holds_of (d' := d - 1) (rt := 0) (cal := [(I_Wo_size, S_Wo_size), (I_Tw_common, S_Tw_common), (I_Wo_at, S_Wo_at), (I_In_bitCount, S_In_bitCount), (I_Un_addAbsent, S_Un_addAbsent)]) (C := C_Un_addAbsentAround) m_Un_addAbsentAround o_Un_addAbsentAround rfl rfl (by omega) ?_ ?_
  · intro x hx
    simp only [List.mem_cons, List.not_mem_nil, or_false] at hx
    rcases hx with rfl | rfl | rfl | rfl | rfl
    · exact H_Wo_size (by omega)
    · exact H_Tw_common (by omega)
    · exact H_Wo_at (by omega)
    · exact H_In_bitCount (by omega)
    · exact H_Un_addAbsent (by omega)
  · intro as σ K has hσ hG
    have hG2 := hG
    unfold S_Un_addAbsentAround at hG2
    split at hG2
    · next a1 a2 =>
      refine ⟨Nat.le_of_ble_eq_true rfl, (Iv_Un_addAbsentAround a1 a2 σ), ?_, 1000, ?_⟩
      · intro k n z L σ' hk hL hs hP
        unfold Iv_Un_addAbsentAround at hk
        split at hk
        · cases hk
          obtain ⟨v3, rfl, hn, hQ⟩ := hP
          exact ⟨1000, l_Un_addAbsentAround_2 a1 a2 σ K (has _ (List.mem_of_getElem? (i := 1) rfl)) (has _ (List.mem_of_getElem? (i := 2) rfl)) hσ hG v3 σ' (hL _ (List.mem_of_getElem? (i := 3) rfl)) hs n hn hQ⟩
        · cases hk
          obtain ⟨v3, v4, v5, rfl, hn, hQ⟩ := hP
          exact ⟨1000, l_Un_addAbsentAround_18 a1 a2 σ K (has _ (List.mem_of_getElem? (i := 1) rfl)) (has _ (List.mem_of_getElem? (i := 2) rfl)) hσ hG v3 v4 v5 σ' (hL _ (List.mem_of_getElem? (i := 3) rfl)) (hL _ (List.mem_of_getElem? (i := 4) rfl)) (hL _ (List.mem_of_getElem? (i := 5) rfl)) hs n hn hQ⟩
        · cases hk
          obtain ⟨v3, v4, v5, v6, v7, rfl, hn, hQ⟩ := hP
          exact ⟨1000, l_Un_addAbsentAround_56 a1 a2 σ K (has _ (List.mem_of_getElem? (i := 1) rfl)) (has _ (List.mem_of_getElem? (i := 2) rfl)) hσ hG v3 v4 v5 v6 v7 σ' (hL _ (List.mem_of_getElem? (i := 3) rfl)) (hL _ (List.mem_of_getElem? (i := 4) rfl)) (hL _ (List.mem_of_getElem? (i := 5) rfl)) (hL _ (List.mem_of_getElem? (i := 6) rfl)) (hL _ (List.mem_of_getElem? (i := 7) rfl)) hs n hn hQ⟩
        · cases hk
          obtain ⟨v3, v4, v5, v6, v7, rfl, hn, hQ⟩ := hP
          exact ⟨1000, l_Un_addAbsentAround_66 a1 a2 σ K (has _ (List.mem_of_getElem? (i := 1) rfl)) (has _ (List.mem_of_getElem? (i := 2) rfl)) hσ hG v3 v4 v5 v6 v7 σ' (hL _ (List.mem_of_getElem? (i := 3) rfl)) (hL _ (List.mem_of_getElem? (i := 4) rfl)) (hL _ (List.mem_of_getElem? (i := 5) rfl)) (hL _ (List.mem_of_getElem? (i := 6) rfl)) (hL _ (List.mem_of_getElem? (i := 7) rfl)) hs n hn hQ⟩
        · cases hk
          obtain ⟨v3, v4, v5, rfl, hn, hQ⟩ := hP
          exact ⟨1000, l_Un_addAbsentAround_87 a1 a2 σ K (has _ (List.mem_of_getElem? (i := 1) rfl)) (has _ (List.mem_of_getElem? (i := 2) rfl)) hσ hG v3 v4 v5 σ' (hL _ (List.mem_of_getElem? (i := 3) rfl)) (hL _ (List.mem_of_getElem? (i := 4) rfl)) (hL _ (List.mem_of_getElem? (i := 5) rfl)) hs n hn hQ⟩
        · cases hk
      · exact e_Un_addAbsentAround a1 a2 σ K (has _ (List.mem_of_getElem? (i := 1) rfl)) (has _ (List.mem_of_getElem? (i := 2) rfl)) hσ hG
    · exact hG2.elim
