theorem rdO_up {σ σ3 σ4 : SS} {R : PR} {r : Int} (f : Fr [(228, 0)] σ σ3) (ha : σ 228 0 0 ≤ σ3 228 0 0) (h : rdO σ3 σ4 R r) : rdO σ σ4 R r := by
  have f3 : Fr RdL σ σ3 := Fr_mono f (by simp [RdL])
  obtain ⟨h1, h2, h3⟩ := h
  have s3 := (tp_rd f3).2
  refine ⟨Fr_trans f3 h1, h2, fun q hq => ?_⟩
  obtain ⟨⟨x2, x2b⟩, x3, ⟨x4, x5, x6⟩, x7⟩ := h3 q hq
  exact ⟨⟨x2, x2b.trans (f _ _ (by simp))⟩, x3, ⟨by omega, by omega, x6⟩, pl_ba x7 (congrFun (f 223 0 (by simp)) 0) (f _ _ (by simp))⟩
theorem pg_if {T : Int → Int} {P Q : Prop} [Decidable P] [Decidable Q] {a : Int} (h : P ↔ Q) : pGrown T P a = pGrown T Q a := by
  unfold pGrown
  by_cases c : P
  · have d := h.mp c
    simp only [c, d, if_true]
  · have d : ¬ Q := fun z => c (h.mpr z)
    simp only [c, d, if_false]
theorem pw_rev {T : Int → Int} {N : List (Int × PW)} {ins : Int → PR} {a : Int} (h : cd T a = 13279) : pWord T N ins a = mapR revW (ins (we T a)) := if_pos h
theorem pw_fib {T : Int → Int} {N : List (Int × PW)} {ins : Int → PR} {a : Int} (h : cd T a = 4619) : pWord T N ins a = pGrown T True (we T a) := by
  unfold pWord
  rw [if_neg (by omega), if_pos h]
theorem pw_mor {T : Int → Int} {N : List (Int × PW)} {ins : Int → PR} {a : Int} (h : cd T a = 7217618) : pWord T N ins a = pGrown T False (we T a) := by
  unfold pWord
  rw [if_neg (by omega), if_neg (by omega), if_pos h]
theorem pw_no {T : Int → Int} {N : List (Int × PW)} {ins : Int → PR} {a : Int} (h1 : cd T a ≠ 13279) (h2 : cd T a ≠ 4619) (h3 : cd T a ≠ 7217618) (h : lookN N (cd T a) = none) : pWord T N ins a = .inl (8 * a + 1) := by
  unfold pWord
  rw [if_neg h1, if_neg h2, if_neg h3, h]
theorem pw_at {T : Int → Int} {N : List (Int × PW)} {ins : Int → PR} {a : Int} {u : PW} (h1 : cd T a ≠ 13279) (h2 : cd T a ≠ 4619) (h3 : cd T a ≠ 7217618) (h : lookN N (cd T a) = some u) : pWord T N ins a = .inr (u, we T a) := by
  unfold pWord
  rw [if_neg h1, if_neg h2, if_neg h3, h]
theorem look_0 {σ : SS} {N : List (Int × PW)} (hN : RdN σ N) : lookN N 0 = none := (look_no (c := 0) N (fun k q hk => by
  have := (hN.2 k q hk).2.2.1.1
  omega)).1
abbrev Lp_Re_readWord_84 (e : Nat) (a1 : Int) (a2 : Int) (σ0 : SS) (n : Nat) (L : List AV) (σ : SS) : Prop := ∃ (v3 : Int) (v4 : Int) (v5 : Int) (v6 : Int) (v7 : Int), L = [vR 3 0, vI a1, vI a2, vI v3, vI v4, vI v5, vI v6, vI v7] ∧ n = (1000 - v7).toNat ∧ (((Fr RdL σ0 σ ∧ σ 229 0 = σ0 229 0) ∧ σ 228 0 0 = v4) ∧ (∃ (N : List (Int × PW)) (q : Int × PW), RdN σ0 N ∧ (0 ≤ v6 ∧ N[v6.toNat]? = some q) ∧ (pWord (tpC σ0) N (pInside (tpC σ0) N e) (σ0 228 0 0) = .inr (q.2, v4) ∧ σ0 228 0 0 < v4 ∧ v4 ≤ σ0 221 0 0) ∧ (q.2.2 ≤ a2 - σ0 223 0 0 ∧ 0 ≤ v7 ∧ v7 ≤ q.2.2) ∧ plI σ0 σ (σ0 223 0 0) (nW q.2.1 v7)))
def Iv_Re_readWord (e : Nat) (a1 : Int) (a2 : Int) (σ0 : SS) (k : Nat) : Option (List Nat × (Nat → List AV → SS → Prop)) := match k with
  | 84 => some ([], Lp_Re_readWord_84 e a1 a2 σ0)
  | _ => none
def VE_Re_readWord (e : Nat) (a1 : Int) (a2 : Int) (σ : SS) (K : AV → SS → Prop) : Prop :=
  (S_Re_wordEnd [vR 3 0, vI (σ 228 0 0)] σ (kI fun r1 σ1 =>
    (S_Re_codeOf [vR 3 0, vI (σ 228 0 0), vI r1] σ1 (kI fun r2 σ2 =>
      ((r2 ≠ 13279 →
        ((r2 = 4619 →
          (∀ σ3 : SS, σ3 = u3 σ2 228 0 0 r1 →
          ((r2 ≠ 4619 →
            (S_Re_readGrown [vR 3 0, vI (σ 228 0 0), vI 0, vI a2] σ3 (kI fun r4 σ4 =>
              ((0 ≤ (r4 : Int) ∧ (r4 : Int) ≤ 1) ∧ K (vI r4) σ4)))) ∧
          (r2 = 4619 →
            (S_Re_readGrown [vR 3 0, vI (σ 228 0 0), vI 1, vI a2] σ3 (kI fun r5 σ5 =>
              ((0 ≤ (r5 : Int) ∧ (r5 : Int) ≤ 1) ∧ K (vI r5) σ5))))))) ∧
        (r2 ≠ 4619 →
          ((r2 ≠ 7217618 →
            ((r2 ≠ 0 →
              (S_Re_slotOf [vR 3 0, vI r2] σ2 (kI fun r6 σ6 =>
                (((σ6 227 0 0) ≤ r6 →
                  (S_Re_fail [vR 3 0, vI (σ 228 0 0), vI 1] σ6 (kI fun r7 σ7 =>
                    ((0 ≤ (r7 : Int) ∧ (r7 : Int) ≤ 1) ∧ K (vI r7) σ7)))) ∧
                (r6 < (σ6 227 0 0) →
                  ((r6 < 4 →
                    (∀ σ8 : SS, σ8 = u3 σ6 228 0 0 r1 →
                    ((0 ≤ (r6 : Int) ∧ (r6 : Int) < 4) ∧
                    (InR ((σ8 223 0 0) + (σ8 26 0 r6)) ∧
                    ((((σ8 223 0 0) + (σ8 26 0 r6)) ≤ a2 →
                      (∃ n', Lp_Re_readWord_84 e a1 a2 σ n' [vR 3 0, vI a1, vI a2, vI (σ 228 0 0), vI r1, vI r2, vI r6, vI 0] σ8)) ∧
                    (a2 < ((σ8 223 0 0) + (σ8 26 0 r6)) →
                      (S_Re_fail [vR 3 0, vI (σ 228 0 0), vI 3] σ8 (kI fun r9 σ9 =>
                        ((0 ≤ (r9 : Int) ∧ (r9 : Int) ≤ 1) ∧ K (vI r9) σ9))))))))) ∧
                  ((4 : Int) ≤ r6 →
                    (S_Re_fail [vR 3 0, vI (σ 228 0 0), vI 1] σ6 (kI fun r10 σ10 =>
                      ((0 ≤ (r10 : Int) ∧ (r10 : Int) ≤ 1) ∧ K (vI r10) σ10)))))))))) ∧
            (r2 = 0 →
              (((σ2 227 0 0) ≤ (σ2 227 0 0) →
                (S_Re_fail [vR 3 0, vI (σ 228 0 0), vI 1] σ2 (kI fun r11 σ11 =>
                  ((0 ≤ (r11 : Int) ∧ (r11 : Int) ≤ 1) ∧ K (vI r11) σ11)))) ∧
              ((σ2 227 0 0) < (σ2 227 0 0) →
                (((σ2 227 0 0) < 4 →
                  (∀ σ12 : SS, σ12 = u3 σ2 228 0 0 r1 →
                  ((0 ≤ (σ2 227 0 0 : Int) ∧ (σ2 227 0 0 : Int) < 4) ∧
                  (InR ((σ12 223 0 0) + (σ12 26 0 (σ2 227 0 0))) ∧
                  ((((σ12 223 0 0) + (σ12 26 0 (σ2 227 0 0))) ≤ a2 →
                    (∃ n', Lp_Re_readWord_84 e a1 a2 σ n' [vR 3 0, vI a1, vI a2, vI (σ 228 0 0), vI r1, vI r2, vI (σ2 227 0 0), vI 0] σ12)) ∧
                  (a2 < ((σ12 223 0 0) + (σ12 26 0 (σ2 227 0 0))) →
                    (S_Re_fail [vR 3 0, vI (σ 228 0 0), vI 3] σ12 (kI fun r13 σ13 =>
                      ((0 ≤ (r13 : Int) ∧ (r13 : Int) ≤ 1) ∧ K (vI r13) σ13))))))))) ∧
                ((4 : Int) ≤ (σ2 227 0 0) →
                  (S_Re_fail [vR 3 0, vI (σ 228 0 0), vI 1] σ2 (kI fun r14 σ14 =>
                    ((0 ≤ (r14 : Int) ∧ (r14 : Int) ≤ 1) ∧ K (vI r14) σ14)))))))))) ∧
          (r2 = 7217618 →
            (∀ σ15 : SS, σ15 = u3 σ2 228 0 0 r1 →
            ((r2 ≠ 4619 →
              (S_Re_readGrown [vR 3 0, vI (σ 228 0 0), vI 0, vI a2] σ15 (kI fun r16 σ16 =>
                ((0 ≤ (r16 : Int) ∧ (r16 : Int) ≤ 1) ∧ K (vI r16) σ16)))) ∧
            (r2 = 4619 →
              (S_Re_readGrown [vR 3 0, vI (σ 228 0 0), vI 1, vI a2] σ15 (kI fun r17 σ17 =>
                ((0 ≤ (r17 : Int) ∧ (r17 : Int) ≤ 1) ∧ K (vI r17) σ17))))))))))) ∧
      (r2 = 13279 →
        (∀ σ18 : SS, σ18 = u3 σ2 228 0 0 r1 →
        (S_Re_readReversed e [vR 3 0, vI (σ 228 0 0), vI a1, vI a2] σ18 (kI fun r19 σ19 =>
          ((0 ≤ (r19 : Int) ∧ (r19 : Int) ≤ 1) ∧ K (vI r19) σ19))))))))))
def VL_Re_readWord_84 (e : Nat) (a1 : Int) (a2 : Int) (σ0 : SS) (K : AV → SS → Prop) (v3 : Int) (v4 : Int) (v5 : Int) (v6 : Int) (v7 : Int) (σ : SS) (n : Nat) : Prop :=
  ((0 ≤ (v6 : Int) ∧ (v6 : Int) < 4) ∧
  (((σ 26 0 v6) ≤ v7 →
    ((0 ≤ (1 : Int) ∧ (1 : Int) ≤ 1) ∧ K (vI 1) σ)) ∧
  (v7 < (σ 26 0 v6) →
    (((120 : Int) ≤ v7 →
      ((0 ≤ (1 : Int) ∧ (1 : Int) ≤ 1) ∧ K (vI 1) σ)) ∧
    (v7 < 120 →
      (InR (v6 * 120) ∧
      (InR ((v6 * 120) + v7) ∧
      ((0 ≤ ((v6 * 120) + v7 : Int) ∧ ((v6 * 120) + v7 : Int) < 480) ∧
      (S_Re_push [vR 3 0, vI (σ 25 0 ((v6 * 120) + v7))] σ (kV fun σ1 =>
        (InR (v7 + 1) ∧
        (∃ n', n' < n ∧ Lp_Re_readWord_84 e a1 a2 σ0 n' [vR 3 0, vI a1, vI a2, vI v3, vI v4, vI v5, vI v6, vI (v7 + 1)] σ1))))))))))))
theorem l_Re_readWord_84 (e : Nat) (a1 : Int) (a2 : Int) (σ0 : SS) (K : AV → SS → Prop) (ha1 : InR a1) (ha2 : InR a2) (hs0 : okS σ0) (hG : S_Re_readWord e [vR 3 0, vI a1, vI a2] σ0 K) (v3 : Int) (v4 : Int) (v5 : Int) (v6 : Int) (v7 : Int) (σ : SS) (hv3 : InR v3) (hv4 : InR v4) (hv5 : InR v5) (hv6 : InR v6) (hv7 : InR v7) (hs : okS σ) (n : Nat) (hn : n = (1000 - v7).toNat) (hQ : ((Fr RdL σ0 σ ∧ σ 229 0 = σ0 229 0) ∧ σ 228 0 0 = v4) ∧ (∃ (N : List (Int × PW)) (q : Int × PW), RdN σ0 N ∧ (0 ≤ v6 ∧ N[v6.toNat]? = some q) ∧ (pWord (tpC σ0) N (pInside (tpC σ0) N e) (σ0 228 0 0) = .inr (q.2, v4) ∧ σ0 228 0 0 < v4 ∧ v4 ≤ σ0 221 0 0) ∧ (q.2.2 ≤ a2 - σ0 223 0 0 ∧ 0 ≤ v7 ∧ v7 ≤ q.2.2) ∧ plI σ0 σ (σ0 223 0 0) (nW q.2.1 v7))) : VL_Re_readWord_84 e a1 a2 σ0 K v3 v4 v5 v6 v7 σ n := by
  unfold VL_Re_readWord_84
  obtain ⟨N, ⟨⟨⟨hA, hT⟩, hL, hD⟩, ⟨h3, h4, h5⟩, h1, hN⟩, hG⟩ := hG
  obtain ⟨⟨⟨q0, q0b⟩, q0c⟩, N', q, hN', ⟨q1, q1b⟩, ⟨q2, q3, q4⟩, ⟨q5, q6, q7⟩, q8⟩ := hQ
  have eN := RdN_u hN hN'
  subst eN
  have pn := pl_n q8
  obtain ⟨m1, m2, m3, m4, m5, m6⟩ := (RdN_fr hN q0).2 _ _ q1b
  rw [show ((v6.toNat : Nat) : Int) = v6 by omega] at m2 m6
  have m7 := (List.getElem?_eq_some_iff.mp q1b).1
  have m8 := hN.1
  refine ⟨(by omega), ?_⟩
  refine ⟨fun c1 => ?_, fun c1 => ?_⟩
  · skip
    exact ⟨by omega, hG _ _ (rdO_r q0 (lim_r q2 (by show ¬ _ < q.2.2; omega)) q0b q0c ⟨q3, q4⟩ (by omega) (by have y := pl_cg q8 (show v7 = q.2.2 by omega) (fun _ _ _ => rfl); rwa [← m5] at y))⟩
  · skip
    refine ⟨fun c2 => ?_, fun c2 => ?_⟩
    · skip
      omega
    · skip
      have ml := m6 v7 q6 (by omega)
      have m9 := m4.2 v7 q6 (by omega)
      rw [show 120 * v6 + v7 = v6 * 120 + v7 by omega] at ml
      rw [ml]
      refine ⟨(by omega), ?_⟩
      refine ⟨(by omega), ?_⟩
      refine ⟨(by omega), ?_⟩
      refine ⟨(by omega), ?_⟩
      intro _
      generalize hτ : u3 (u3 _ 24 0 _ _) 223 0 0 _ = τ
      obtain ⟨g, dd, tt⟩ := pl_more q8 rfl m9 hτ
      refine ⟨(by omega), ?_⟩
      refine ⟨_, ?_, _, _, _, _, _, rfl, rfl, ?_⟩
      · omega
      · refine ⟨?_, ?_⟩
        · exact ⟨⟨Fr_trans q0 (Fr_mono dd (by simp [RdL])), (dd _ _ (by simp)).trans q0b⟩, (congrFun (dd 228 0 (by simp)) 0).trans q0c⟩
        · exact ⟨N, q, hN, ⟨q1, q1b⟩, ⟨q2, q3, q4⟩, ⟨q5, by omega, by omega⟩, g⟩
theorem e_Re_readWord (e : Nat) (a1 : Int) (a2 : Int) (σ : SS) (K : AV → SS → Prop) (ha1 : InR a1) (ha2 : InR a2) (hs : okS σ) (hG : S_Re_readWord e [vR 3 0, vI a1, vI a2] σ K) : VE_Re_readWord e a1 a2 σ K := by
  unfold VE_Re_readWord
  obtain ⟨N, ⟨⟨⟨hA, hT⟩, hL, hD⟩, ⟨h3, h4, h5⟩, h1, hN⟩, hG⟩ := hG
  have gt : σ 228 0 0 < we (tpC σ) (σ 228 0 0) := sc_gt hD
  refine ⟨(by omega), (fun r1 h1a h1b h1c => ?_)⟩
  intro _ _
  have w1 := h1a
  have w2 := h1b
  have w3 := h1c
  rw [← w1] at gt
  refine ⟨(by exact ⟨by omega, w1, w3⟩), ?_⟩
  intro _ _
  refine ⟨fun c2 => ?_, fun c2 => ?_⟩
  · skip
    refine ⟨fun c3 => ?_, fun c3 => ?_⟩
    · skip
      refine fun σ4 e4 => ?_
      have f3 : Fr [(228, 0)] σ σ4 := by rw [e4]; exact Fr_u3 (by simp)
      have ka : σ4 228 0 0 = r1 := by rw [e4, u3_s]
      have kt : σ4 223 0 0 = σ 223 0 0 := by rw [e4, u3_f (by decide)]
      obtain ⟨kT, ks⟩ := tp_fr f3 (by simp) (by simp)
      refine ⟨fun c5 => ?_, fun c5 => ?_⟩
      · skip
        refine ⟨(by exact ⟨⟨⟨⟨by omega, by omega, by omega⟩, by omega⟩, by omega, by omega⟩, by omega, by omega, by omega, by omega⟩), (fun σ6 r6 h6a => ?_)⟩
        intro _ _
        have ro := h6a
        rw [kT, kt, ka, w1] at ro
        omega
      · skip
        refine ⟨(by exact ⟨⟨⟨⟨by omega, by omega, by omega⟩, by omega⟩, by omega, by omega⟩, by omega, by omega, by omega, by omega⟩), (fun σ6 r6 h6a => ?_)⟩
        intro _ _
        have ro := h6a
        rw [kT, kt, ka, w1] at ro
        exact ⟨rdO_01 ro, hG _ _ (by rw [pw_fib c3, pg_if (P := True) (Q := (1 : Int) = 1) ⟨fun _ => rfl, fun _ => trivial⟩]; exact rdO_up f3 (by omega) ro)⟩
    · skip
      refine ⟨fun c4 => ?_, fun c4 => ?_⟩
      · skip
        refine ⟨fun c5 => ?_, fun c5 => ?_⟩
        · skip
          refine ⟨N, (by exact hN), (fun r6 h6a => ?_)⟩
          intro _ _
          have sl := h6a
          have m8 := hN.1
          refine ⟨fun c7 => ?_, fun c7 => ?_⟩
          · skip
            refine ⟨(by omega), ?_⟩
            intro _ _
            rcases sl with ⟨_, n, _⟩ | ⟨b, _⟩
            · exact ⟨by omega, hG _ _ (rdO_l (Fr_u3 (by simp [RdL])) (lim_l (pw_no c2 c3 c4 n)) u3_s)⟩
            · omega
          · skip
            refine ⟨fun c8 => ?_, fun c8 => ?_⟩
            · skip
              refine fun σ9 e9 => ?_
              have f3 : Fr [(228, 0)] σ σ9 := by rw [e9]; exact Fr_u3 (by simp)
              have ka : σ9 228 0 0 = r1 := by rw [e9, u3_s]
              have kt : σ9 223 0 0 = σ 223 0 0 := by rw [e9, u3_f (by decide)]
              obtain ⟨kT, ks⟩ := tp_fr f3 (by simp) (by simp)
              first
                | (obtain ⟨q, z0, z1, z2, z3⟩ : ∃ q, 0 ≤ r6 ∧ N[r6.toNat]? = some q ∧ q.1 = cd (tpC σ) (σ 228 0 0) ∧ lookN N (cd (tpC σ) (σ 228 0 0)) = some q.2 := by
                    rcases sl with ⟨y, _⟩ | ⟨z0, q, z1, z2, z3, _⟩
                    · omega
                    · exact ⟨q, z0.1, z1, z2, z3⟩
                   obtain ⟨m1, m2, m3, m4, m5, m6⟩ := (RdN_fr hN (Fr_mono f3 (by simp [RdL]))).2 _ _ z1
                   have m7 := (List.getElem?_eq_some_iff.mp z1).1
                   rw [show ((r6.toNat : Nat) : Int) = r6 by omega] at m2 m6
                   have m9 := m4.1)
                | skip
              refine ⟨(by omega), ?_⟩
              refine ⟨(by omega), ?_⟩
              refine ⟨fun c10 => ?_, fun c10 => ?_⟩
              · skip
                refine ⟨_, _, _, _, _, _, rfl, rfl, ?_⟩
                refine ⟨?_, ?_⟩
                · exact ⟨⟨Fr_mono f3 (by simp [RdL]), f3 _ _ (by simp)⟩, ka⟩
                · exact ⟨N, q, hN, ⟨by omega, z1⟩, ⟨by rw [pw_at c2 c3 c4 z3, w1], gt, by omega⟩, ⟨by omega, by omega, m9.1⟩, pl_fr pl_e kt (f3 _ _ (by simp))⟩
              · skip
                refine ⟨(by omega), ?_⟩
                intro _ _
                exact ⟨by omega, hG _ _ (rdO_l (Fr_trans (Fr_mono f3 (by simp [RdL])) (Fr_u3 (by simp [RdL]))) (lim_f (pw_at c2 c3 c4 z3) (by show _ < q.2.2; omega)) u3_s)⟩
            · skip
              refine ⟨(by omega), ?_⟩
              intro _ _
              omega
        · skip
          refine ⟨fun c6 => ?_, fun c6 => ?_⟩
          · skip
            refine ⟨(by omega), ?_⟩
            intro _ _
            exact ⟨by omega, hG _ _ (rdO_l (Fr_u3 (by simp [RdL])) (lim_l (pw_no c2 c3 c4 (by rw [c5]; exact look_0 hN))) u3_s)⟩
          · skip
            refine ⟨fun c7 => ?_, fun c7 => ?_⟩
            · skip
              refine fun σ8 e8 => ?_
              have f3 : Fr [(228, 0)] σ σ8 := by rw [e8]; exact Fr_u3 (by simp)
              have ka : σ8 228 0 0 = r1 := by rw [e8, u3_s]
              have kt : σ8 223 0 0 = σ 223 0 0 := by rw [e8, u3_f (by decide)]
              obtain ⟨kT, ks⟩ := tp_fr f3 (by simp) (by simp)
              first
                | (obtain ⟨q, z0, z1, z2, z3⟩ : ∃ q, 0 ≤ r6 ∧ N[r6.toNat]? = some q ∧ q.1 = cd (tpC σ) (σ 228 0 0) ∧ lookN N (cd (tpC σ) (σ 228 0 0)) = some q.2 := by
                    rcases sl with ⟨y, _⟩ | ⟨z0, q, z1, z2, z3, _⟩
                    · omega
                    · exact ⟨q, z0.1, z1, z2, z3⟩
                   obtain ⟨m1, m2, m3, m4, m5, m6⟩ := (RdN_fr hN (Fr_mono f3 (by simp [RdL]))).2 _ _ z1
                   have m7 := (List.getElem?_eq_some_iff.mp z1).1
                   rw [show ((r6.toNat : Nat) : Int) = r6 by omega] at m2 m6
                   have m9 := m4.1)
                | skip
              refine ⟨(by omega), ?_⟩
              refine ⟨(by omega), ?_⟩
              refine ⟨fun c9 => ?_, fun c9 => ?_⟩
              · skip
                refine ⟨_, _, _, _, _, _, rfl, rfl, ?_⟩
                refine ⟨?_, ?_⟩
                · omega
                · omega
              · skip
                refine ⟨(by omega), ?_⟩
                intro _ _
                omega
            · skip
              refine ⟨(by omega), ?_⟩
              intro _ _
              omega
      · skip
        refine fun σ5 e5 => ?_
        have f3 : Fr [(228, 0)] σ σ5 := by rw [e5]; exact Fr_u3 (by simp)
        have ka : σ5 228 0 0 = r1 := by rw [e5, u3_s]
        have kt : σ5 223 0 0 = σ 223 0 0 := by rw [e5, u3_f (by decide)]
        obtain ⟨kT, ks⟩ := tp_fr f3 (by simp) (by simp)
        refine ⟨fun c6 => ?_, fun c6 => ?_⟩
        · skip
          refine ⟨(by exact ⟨⟨⟨⟨by omega, by omega, by omega⟩, by omega⟩, by omega, by omega⟩, by omega, by omega, by omega, by omega⟩), (fun σ7 r7 h7a => ?_)⟩
          intro _ _
          have ro := h7a
          rw [kT, kt, ka, w1] at ro
          exact ⟨rdO_01 ro, hG _ _ (by rw [pw_mor c4, pg_if (P := False) (Q := (0 : Int) = 1) ⟨False.elim, fun z => by omega⟩]; exact rdO_up f3 (by omega) ro)⟩
        · skip
          refine ⟨(by exact ⟨⟨⟨⟨by omega, by omega, by omega⟩, by omega⟩, by omega, by omega⟩, by omega, by omega, by omega, by omega⟩), (fun σ7 r7 h7a => ?_)⟩
          intro _ _
          have ro := h7a
          rw [kT, kt, ka, w1] at ro
          omega
  · skip
    refine fun σ3 e3 => ?_
    have f3 : Fr [(228, 0)] σ σ3 := by rw [e3]; exact Fr_u3 (by simp)
    have ka : σ3 228 0 0 = r1 := by rw [e3, u3_s]
    have kt : σ3 223 0 0 = σ 223 0 0 := by rw [e3, u3_f (by decide)]
    obtain ⟨kT, ks⟩ := tp_fr f3 (by simp) (by simp)
    refine ⟨N, (by exact ⟨⟨⟨⟨by omega, by omega, by omega⟩, by omega⟩, by omega, by omega⟩, ⟨by omega, by omega, by omega⟩, h1, RdN_fr hN (Fr_mono f3 (by simp [RdL]))⟩), (fun σ4 r4 h4a => ?_)⟩
    intro _ _
    have ro := h4a
    rw [kT, kt, ka, w1] at ro
    exact ⟨rdO_01 ro, hG _ _ (by rw [pw_rev c2]; exact rdO_up f3 (by omega) ro)⟩
theorem G_Re_readWord (e : Nat) {B d : Nat} (hB : 12 ≤ B) (h_Re_readReversed : ∀ d, B + 2 ≤ d → Holds d I_Re_readReversed (S_Re_readReversed e)) (hd : B + 3 ≤ d) : Holds d I_Re_readWord (S_Re_readWord e) := by
  refine holds_of (d' := d - 1) (rt := 2) (cal := [(I_Re_wordEnd, S_Re_wordEnd), (I_Re_codeOf, S_Re_codeOf), (I_Re_readReversed, S_Re_readReversed e), (I_Re_readGrown, S_Re_readGrown), (I_Re_slotOf, S_Re_slotOf), (I_Re_fail, S_Re_fail), (I_Re_push, S_Re_push)]) (C := C_Re_readWord) m_Re_readWord o_Re_readWord rfl rfl (by omega) ?_ ?_
  · intro x hx
    simp only [List.mem_cons, List.not_mem_nil, or_false] at hx
    rcases hx with rfl | rfl | rfl | rfl | rfl | rfl | rfl
    · exact H_Re_wordEnd (by omega)
    · exact H_Re_codeOf (by omega)
    · exact h_Re_readReversed _ (by omega)
    · exact H_Re_readGrown (by omega)
    · exact H_Re_slotOf (by omega)
    · exact H_Re_fail (by omega)
    · exact H_Re_push (by omega)
  · intro as σ K has hσ hG
    have hG2 := hG
    unfold S_Re_readWord at hG2
    split at hG2
    · next a1 a2 =>
      refine ⟨Nat.le_of_ble_eq_true rfl, (Iv_Re_readWord e a1 a2 σ), ?_, 1000, ?_⟩
      · intro k n z L σ' hk hL hs hP
        unfold Iv_Re_readWord at hk
        split at hk
        · cases hk
          obtain ⟨v3, v4, v5, v6, v7, rfl, hn, hQ⟩ := hP
          exact ⟨1000, l_Re_readWord_84 e a1 a2 σ K (has _ (List.mem_of_getElem? (i := 1) rfl)) (has _ (List.mem_of_getElem? (i := 2) rfl)) hσ hG v3 v4 v5 v6 v7 σ' (hL _ (List.mem_of_getElem? (i := 3) rfl)) (hL _ (List.mem_of_getElem? (i := 4) rfl)) (hL _ (List.mem_of_getElem? (i := 5) rfl)) (hL _ (List.mem_of_getElem? (i := 6) rfl)) (hL _ (List.mem_of_getElem? (i := 7) rfl)) hs n hn hQ⟩
        · cases hk
      · exact e_Re_readWord e a1 a2 σ K (has _ (List.mem_of_getElem? (i := 1) rfl)) (has _ (List.mem_of_getElem? (i := 2) rfl)) hσ hG
    · exact hG2.elim
theorem H_Re_row_all : ∀ (e d : Nat), 17 + 6 * e ≤ d → Holds d I_Re_readRow (S_Re_readRow e) := by
  have step : ∀ (e B : Nat), 12 ≤ B → (∀ d, B + 0 ≤ d → Holds d I_Re_readRow (S_Re_readRowB e)) → ∀ d, B + 5 ≤ d → Holds d I_Re_readRow (S_Re_readRow e) := by
    intro e B hB h0 d hd
    have hI : ∀ d, B + 1 ≤ d → Holds d I_Re_readInside (S_Re_readInside e) := fun d hd => G_Re_readInside e hB h0 hd
    have hT : ∀ d, B + 2 ≤ d → Holds d I_Re_readTimes (S_Re_readTimes e) := fun d hd => G_Re_readTimes e hB hI hd
    have hR : ∀ d, B + 2 ≤ d → Holds d I_Re_readReversed (S_Re_readReversed e) := fun d hd => G_Re_readReversed e hB hI hd
    have hW : ∀ d, B + 3 ≤ d → Holds d I_Re_readWord (S_Re_readWord e) := fun d hd => G_Re_readWord e hB hR hd
    have hM : ∀ d, B + 4 ≤ d → Holds d I_Re_readItem (S_Re_readItem e) := fun d hd => G_Re_readItem e hB hT hW hd
    exact G_Re_readRow e hB hM hd
  intro e
  induction e with
  | zero =>
    intro d hd
    refine step 0 12 (by omega) (fun d hd => ⟨m_Re_readRow, fun _ _ _ _ _ _ _ _ _ _ _ hG => hG.elim⟩) d (by omega)
  | succ e ih =>
    intro d hd
    exact step (e + 1) (17 + 6 * e) (by omega) (fun d hd => ih d (by omega)) d (by omega)
def S_Re_readRowT : GS := S_Re_readRow 6
theorem H_Re_readRowT {d : Nat} (hd : 60 ≤ d) : Holds d I_Re_readRow S_Re_readRowT := H_Re_row_all 6 d (by omega)
