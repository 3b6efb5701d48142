/-! the class: seeds counted and told -/
def SdL : List (Nat × Nat) := [(31, 0), (463, 0), (464, 0)]
def SQ (σ σ' : SS) : Prop := Fr (TwL ++ SdL) σ σ' ∧ TwC σ'
theorem SQ.rf {σ : SS} (h : TwC σ) : SQ σ σ := ⟨Fr_refl, h⟩
theorem SQ.tr {σ σ1 σ2 : SS} (h : SQ σ σ1) (h2 : SQ σ1 σ2) : SQ σ σ2 := ⟨Fr_trans h.1 h2.1, h2.2⟩
theorem SQ.w {σ σ' : SS} (h : SQ σ σ') : cW σ' = cW σ ∧ σ' 501 0 0 = σ 501 0 0 := by
  have e1 : σ' 20 0 = σ 20 0 := h.1 _ _ (by simp [SdL, TwL])
  have e2 : σ' 501 0 = σ 501 0 := h.1 _ _ (by simp [SdL, TwL])
  exact ⟨cW_fr e1 e2, by rw [e2]⟩
theorem TQ.S {σ σ' : SS} (h : TQ σ σ') : SQ σ σ' := ⟨Fr_mono h.1 (by intro q hq; simp [hq]), h.2⟩
def SdV (σ : SS) : Prop := (∀ L, 0 ≤ L → L ≤ 120 → σ 31 0 L = cntZ (fun i => sdP (cW σ) (σ 501 0 0) i L) 0 (σ 501 0 0)) ∧ σ 463 0 0 = allS (sdP (cW σ) (σ 501 0 0)) (σ 501 0 0)
def SdC (σ : SS) : Prop := σ 464 0 0 ≠ 0 → SdV σ
theorem SdV_TQ {σ σ' : SS} (h : SdV σ) (hq : TQ σ σ') : SdV σ' := by
  obtain ⟨w1, w2⟩ := hq.w
  unfold SdV
  rw [w1, w2, hq.1 _ _ (by simp [TwL]), hq.1 _ _ (by simp [TwL])]
  exact h
theorem SdV_fr {σ σ' : SS} (h : SdV σ) (e1 : σ' 20 0 = σ 20 0) (e2 : σ' 501 0 = σ 501 0) (e3 : σ' 31 0 = σ 31 0) (e4 : σ' 463 0 = σ 463 0) : SdV σ' := by
  unfold SdV
  rw [cW_fr e1 e2, e2, e3, e4]
  exact h
theorem cnt_ex {P : Int → Prop} {a b k : Int} (h0 : 0 ≤ k) (h : k < cntZ P a b) : ∃ x, a ≤ x ∧ x < b ∧ P x ∧ cntZ P a x = k := by
  have key : ∀ m : Nat, k < cntZ P a (a + m) → ∃ x, a ≤ x ∧ x < a + m ∧ P x ∧ cntZ P a x = k := by
    intro m
    induction m with
    | zero => intro z; rw [cntZ_nil (by omega)] at z; omega
    | succ m ih =>
      intro z
      rw [show a + ((m + 1 : Nat) : Int) = a + (m : Int) + 1 by omega] at z
      by_cases hp : P (a + m)
      · rw [cntZ_yes (by omega) hp] at z
        rcases (by omega : k < cntZ P a (a + m) ∨ k = cntZ P a (a + m)) with y | y
        · obtain ⟨x, x0, x1, x2⟩ := ih y
          exact ⟨x, x0, by omega, x2⟩
        · exact ⟨a + m, by omega, by omega, hp, y.symm⟩
      · rw [cntZ_no (by omega) hp] at z
        obtain ⟨x, x0, x1, x2⟩ := ih z
        exact ⟨x, x0, by omega, x2⟩
  by_cases hab : a ≤ b
  · have := key (b - a).toNat (by rwa [show a + ((b - a).toNat : Int) = b by omega])
    obtain ⟨x, x0, x1, x2⟩ := this
    exact ⟨x, x0, by omega, x2⟩
  · rw [cntZ_nil (by omega)] at h; omega
def SfL : List (Nat × Nat) := TwL ++ [(31, 0)]
def S_Un_countSeedsFrom : GS := fun as σ K => match as with
  | [some (.inr (.inr (9, 0))), some (.inl a1)] => (TwC σ ∧ 0 ≤ a1 ∧ a1 < (σ 501 0 0) ∧ ∀ L, 0 ≤ L → L ≤ 120 → 0 ≤ σ 31 0 L ∧ σ 31 0 L ≤ a1) ∧ ∀ σ', Fr SfL σ σ' → TwC σ' → (∀ L, 0 ≤ L → L ≤ 120 → σ' 31 0 L = σ 31 0 L + bi (sdP (cW σ) (σ 501 0 0) a1 L)) → K none σ'
  | _ => False
abbrev Lp_Un_countSeedsFrom_19 (a1 : Int) (σ0 : SS) (n : Nat) (L : List AV) (σ : SS) : Prop := ∃ (v2 : Int) (v3 : Int) (v4 : Int), L = [vR 9 0, vI a1, vI v2, vI v3, vI v4] ∧ n = (100000 * (500 - v4)).toNat ∧ ((Fr SfL σ0 σ) ∧ (TwC σ) ∧ (v3 = (σ0 501 0 0) - a1) ∧ (a1 + 1 ≤ v4 ∧ earl (cW σ0) (σ0 501 0 0) a1 < v4 ∧ v4 ≤ 400) ∧ (1 ≤ v2 ∧ v2 ≤ v4 - a1 + 1) ∧ (∀ u, 1 ≤ u → u < v2 → lceR (cW σ0) (σ0 501 0 0) 0 (a1 + u) < v4 - u) ∧ (∀ L, 0 ≤ L → L ≤ 120 → σ 31 0 L = σ0 31 0 L + bi (sdP (cW σ0) (σ0 501 0 0) a1 L ∧ L < v4)))
abbrev Lp_Un_countSeedsFrom_22 (a1 : Int) (σ0 : SS) (n : Nat) (L : List AV) (σ : SS) : Prop := ∃ (v2 : Int) (v3 : Int) (v4 : Int), L = [vR 9 0, vI a1, vI v2, vI v3, vI v4] ∧ n = (100000 * (500 - v4) - v2).toNat ∧ ((Fr SfL σ0 σ) ∧ (TwC σ) ∧ (v3 = (σ0 501 0 0) - a1) ∧ (a1 + 1 ≤ v4 ∧ earl (cW σ0) (σ0 501 0 0) a1 < v4 ∧ v4 ≤ v3) ∧ (1 ≤ v2 ∧ v2 ≤ v4 - a1 + 1) ∧ (∀ u, 1 ≤ u → u < v2 → lceR (cW σ0) (σ0 501 0 0) 0 (a1 + u) < v4 - u) ∧ (∀ L, 0 ≤ L → L ≤ 120 → σ 31 0 L = σ0 31 0 L + bi (sdP (cW σ0) (σ0 501 0 0) a1 L ∧ L < v4)))
abbrev Lp_Un_countSeedsFrom_40 (a1 : Int) (σ0 : SS) (n : Nat) (L : List AV) (σ : SS) : Prop := ∃ (v2 : Int) (v3 : Int) (v4 : Int), L = [vR 9 0, vI a1, vI v2, vI v3, vI v4] ∧ n = (100000 * (500 - v4) - 1000).toNat ∧ ((Fr SfL σ0 σ) ∧ (TwC σ) ∧ (v3 = (σ0 501 0 0) - a1) ∧ (a1 + 1 ≤ v4 ∧ earl (cW σ0) (σ0 501 0 0) a1 < v4 ∧ v4 ≤ v3) ∧ (1 ≤ v2 ∧ v2 ≤ v4 - a1 + 1) ∧ (∀ u, 1 ≤ u → u < v2 → lceR (cW σ0) (σ0 501 0 0) 0 (a1 + u) < v4 - u) ∧ (∀ L, 0 ≤ L → L ≤ 120 → σ 31 0 L = σ0 31 0 L + bi (sdP (cW σ0) (σ0 501 0 0) a1 L ∧ L < v4)) ∧ (v4 - a1 < v2 ∨ v4 - v2 ≤ lceR (cW σ0) (σ0 501 0 0) 0 (a1 + v2)))
abbrev Lp_Un_countSeedsFrom_47 (a1 : Int) (σ0 : SS) (n : Nat) (L : List AV) (σ : SS) : Prop := ∃ (v2 : Int) (v3 : Int) (v4 : Int), L = [vR 9 0, vI a1, vI v2, vI v3, vI v4] ∧ n = (100000 * (500 - v4) - 1001).toNat ∧ ((Fr SfL σ0 σ) ∧ (TwC σ) ∧ (v3 = (σ0 501 0 0) - a1) ∧ (a1 + 1 ≤ v4 ∧ earl (cW σ0) (σ0 501 0 0) a1 < v4 ∧ v4 ≤ v3) ∧ (1 ≤ v2 ∧ v2 ≤ v4 - a1 + 1) ∧ (∀ u, 1 ≤ u → u < v2 → lceR (cW σ0) (σ0 501 0 0) 0 (a1 + u) < v4 - u) ∧ (∀ L, 0 ≤ L → L ≤ 120 → σ 31 0 L = σ0 31 0 L + bi (sdP (cW σ0) (σ0 501 0 0) a1 L ∧ L < v4)) ∧ (ahP (cW σ0) (σ0 501 0 0) a1 v4))
def Iv_Un_countSeedsFrom (a1 : Int) (σ0 : SS) (k : Nat) : Option (List Nat × (Nat → List AV → SS → Prop)) := match k with
  | 19 => some ([], Lp_Un_countSeedsFrom_19 a1 σ0)
  | 22 => some ([], Lp_Un_countSeedsFrom_22 a1 σ0)
  | 40 => some ([], Lp_Un_countSeedsFrom_40 a1 σ0)
  | 47 => some ([], Lp_Un_countSeedsFrom_47 a1 σ0)
  | _ => none
def VE_Un_countSeedsFrom (a1 : Int) (σ : SS) (K : AV → SS → Prop) : Prop :=
  (S_Wo_size [vR 10 0] σ (kI fun r1 σ1 =>
    (InR (r1 - a1) ∧
    (S_Tw_earlier [vR 8 0, vI a1] σ1 (kI fun r2 σ2 =>
      (InR ((max a1 r2) + 1) ∧
      (∃ n', Lp_Un_countSeedsFrom_19 a1 σ n' [vR 9 0, vI a1, vI 1, vI (min (r1 - a1) 120), vI ((max a1 r2) + 1)] σ2)))))))
def VL_Un_countSeedsFrom_19 (a1 : Int) (σ0 : SS) (K : AV → SS → Prop) (v2 : Int) (v3 : Int) (v4 : Int) (σ : SS) (n : Nat) : Prop :=
  ((v3 < v4 →
    (K none σ)) ∧
  (v4 ≤ v3 →
    (∃ n', n' < n ∧ Lp_Un_countSeedsFrom_22 a1 σ0 n' [vR 9 0, vI a1, vI v2, vI v3, vI v4] σ)))
def VL_Un_countSeedsFrom_22 (a1 : Int) (σ0 : SS) (K : AV → SS → Prop) (v2 : Int) (v3 : Int) (v4 : Int) (σ : SS) (n : Nat) : Prop :=
  (InR (v4 - a1) ∧
  (((v4 - a1) < v2 →
    (∃ n', n' < n ∧ Lp_Un_countSeedsFrom_40 a1 σ0 n' [vR 9 0, vI a1, vI v2, vI v3, vI v4] σ)) ∧
  (v2 ≤ (v4 - a1) →
    (InR (a1 + v2) ∧
    (S_Tw_common [vR 8 0, vI 0, vI (a1 + v2)] σ (kI fun r1 σ1 =>
      (InR (v4 - v2) ∧
      (((v4 - v2) ≤ r1 →
        (∃ n', n' < n ∧ Lp_Un_countSeedsFrom_40 a1 σ0 n' [vR 9 0, vI a1, vI v2, vI v3, vI v4] σ1)) ∧
      (r1 < (v4 - v2) →
        (InR (v2 + 1) ∧
        (∃ n', n' < n ∧ Lp_Un_countSeedsFrom_22 a1 σ0 n' [vR 9 0, vI a1, vI (v2 + 1), vI v3, vI v4] σ1)))))))))))
def VL_Un_countSeedsFrom_40 (a1 : Int) (σ0 : SS) (K : AV → SS → Prop) (v2 : Int) (v3 : Int) (v4 : Int) (σ : SS) (n : Nat) : Prop :=
  ((a1 = 0 →
    (∃ n', n' < n ∧ Lp_Un_countSeedsFrom_47 a1 σ0 n' [vR 9 0, vI a1, vI v2, vI v3, vI v4] σ)) ∧
  (a1 ≠ 0 →
    (InR (v4 - a1) ∧
    (((v4 - a1) < v2 →
      (InR (v4 + 1) ∧
      (∃ n', n' < n ∧ Lp_Un_countSeedsFrom_19 a1 σ0 n' [vR 9 0, vI a1, vI v2, vI v3, vI (v4 + 1)] σ))) ∧
    (v2 ≤ (v4 - a1) →
      (∃ n', n' < n ∧ Lp_Un_countSeedsFrom_47 a1 σ0 n' [vR 9 0, vI a1, vI v2, vI v3, vI v4] σ))))))
def VL_Un_countSeedsFrom_47 (a1 : Int) (σ0 : SS) (K : AV → SS → Prop) (v2 : Int) (v3 : Int) (v4 : Int) (σ : SS) (n : Nat) : Prop :=
  (S_Un_coversBehind [vR 9 0, vI a1, vI v4] σ (kI fun r1 σ1 =>
    ((r1 = 0 →
      (InR (v4 + 1) ∧
      (∃ n', n' < n ∧ Lp_Un_countSeedsFrom_19 a1 σ0 n' [vR 9 0, vI a1, vI v2, vI v3, vI (v4 + 1)] σ1))) ∧
    (r1 ≠ 0 →
      ((0 ≤ (v4 : Int) ∧ (v4 : Int) < 121) ∧
      (InR ((σ1 31 0 v4) + 1) ∧
      ((0 ≤ (v4 : Int) ∧ (v4 : Int) < 121) ∧ ∀ σ2 : SS, σ2 = u3 σ1 31 0 v4 ((σ1 31 0 v4) + 1) →
      (InR (v4 + 1) ∧
      (∃ n', n' < n ∧ Lp_Un_countSeedsFrom_19 a1 σ0 n' [vR 9 0, vI a1, vI v2, vI v3, vI (v4 + 1)] σ2)))))))))
theorem l_Un_countSeedsFrom_19 (a1 : Int) (σ0 : SS) (K : AV → SS → Prop) (ha1 : InR a1) (hs0 : okS σ0) (hG : S_Un_countSeedsFrom [vR 9 0, vI a1] σ0 K) (v2 : Int) (v3 : Int) (v4 : Int) (σ : SS) (hv2 : InR v2) (hv3 : InR v3) (hv4 : InR v4) (hs : okS σ) (n : Nat) (hn : n = (100000 * (500 - v4)).toNat) (hQ : (Fr SfL σ0 σ) ∧ (TwC σ) ∧ (v3 = (σ0 501 0 0) - a1) ∧ (a1 + 1 ≤ v4 ∧ earl (cW σ0) (σ0 501 0 0) a1 < v4 ∧ v4 ≤ 400) ∧ (1 ≤ v2 ∧ v2 ≤ v4 - a1 + 1) ∧ (∀ u, 1 ≤ u → u < v2 → lceR (cW σ0) (σ0 501 0 0) 0 (a1 + u) < v4 - u) ∧ (∀ L, 0 ≤ L → L ≤ 120 → σ 31 0 L = σ0 31 0 L + bi (sdP (cW σ0) (σ0 501 0 0) a1 L ∧ L < v4))) : VL_Un_countSeedsFrom_19 a1 σ0 K v2 v3 v4 σ n := by
  unfold VL_Un_countSeedsFrom_19
  obtain ⟨⟨hT, h1, h2, h3⟩, hG⟩ := hG
  have hb := hT.n
  obtain ⟨q0, q1, q2, q3, q4, q5, q6⟩ := hQ
  refine ⟨fun c1 => ?_, fun c1 => ?_⟩
  · skip
    exact hG _ q0 q1 (fun L L0 L1 => by
     rw [q6 L L0 L1]
     congr 1
     exact bi_congr ⟨fun z => z.1, fun z => ⟨z, by have := z.2.2.1; omega⟩⟩)
  · skip
    refine ⟨_, ?_, _, _, _, rfl, rfl, ?_⟩
    · omega
    · refine ⟨?_, ?_, ?_, ?_, ?_, ?_, ?_⟩
      · first | rfl | assumption | omega
      · first | rfl | assumption | omega
      · first | rfl | assumption | omega
      · first | rfl | assumption | omega
      · first | rfl | assumption | omega
      · first | rfl | assumption | omega
      · first | rfl | assumption | omega
theorem l_Un_countSeedsFrom_22 (a1 : Int) (σ0 : SS) (K : AV → SS → Prop) (ha1 : InR a1) (hs0 : okS σ0) (hG : S_Un_countSeedsFrom [vR 9 0, vI a1] σ0 K) (v2 : Int) (v3 : Int) (v4 : Int) (σ : SS) (hv2 : InR v2) (hv3 : InR v3) (hv4 : InR v4) (hs : okS σ) (n : Nat) (hn : n = (100000 * (500 - v4) - v2).toNat) (hQ : (Fr SfL σ0 σ) ∧ (TwC σ) ∧ (v3 = (σ0 501 0 0) - a1) ∧ (a1 + 1 ≤ v4 ∧ earl (cW σ0) (σ0 501 0 0) a1 < v4 ∧ v4 ≤ v3) ∧ (1 ≤ v2 ∧ v2 ≤ v4 - a1 + 1) ∧ (∀ u, 1 ≤ u → u < v2 → lceR (cW σ0) (σ0 501 0 0) 0 (a1 + u) < v4 - u) ∧ (∀ L, 0 ≤ L → L ≤ 120 → σ 31 0 L = σ0 31 0 L + bi (sdP (cW σ0) (σ0 501 0 0) a1 L ∧ L < v4))) : VL_Un_countSeedsFrom_22 a1 σ0 K v2 v3 v4 σ n := by
  unfold VL_Un_countSeedsFrom_22
  obtain ⟨⟨hT, h1, h2, h3⟩, hG⟩ := hG
  have hb := hT.n
  obtain ⟨q0, q1, q2, q3, q4, q5, q6⟩ := hQ
  have sq : SQ σ0 σ := ⟨Fr_mono q0 (by intro q hq; simp [SfL] at hq; simp [SdL]; rcases hq with z | z <;> simp [z]), q1⟩
  obtain ⟨w1, w2⟩ := sq.w
  refine ⟨(by omega), ?_⟩
  refine ⟨fun c1 => ?_, fun c1 => ?_⟩
  · skip
    refine ⟨_, ?_, _, _, _, rfl, rfl, ?_⟩
    · omega
    · refine ⟨?_, ?_, ?_, ?_, ?_, ?_, ?_, ?_⟩
      · first | rfl | assumption | omega
      · first | rfl | assumption | omega
      · first | rfl | assumption | omega
      · first | rfl | assumption | omega
      · first | rfl | assumption | omega
      · first | rfl | assumption | omega
      · first | rfl | assumption | omega
      · exact Or.inl (by omega)
  · skip
    refine ⟨(by omega), ?_⟩
    refine ⟨(by exact q1), (fun σ2 h2a h2b => ?_)⟩
    intro _ _
    rw [w1, w2]
    have tq : TQ σ σ2 := ⟨h2a, h2b⟩
    have f1 : Fr SfL σ0 σ2 := Fr_trans q0 (Fr_mono tq.1 (by intro q hq; simp [SfL, hq]))
    have hT2 : TwC σ2 := tq.2
    have q6' : ∀ L, 0 ≤ L → L ≤ 120 → σ2 31 0 L = σ0 31 0 L + bi (sdP (cW σ0) (σ0 501 0 0) a1 L ∧ L < v4) := by rw [tq.1 _ _ (by simp [TwL])]; exact q6
    refine ⟨(by omega), ?_⟩
    refine ⟨fun c3 => ?_, fun c3 => ?_⟩
    · skip
      refine ⟨_, ?_, _, _, _, rfl, rfl, ?_⟩
      · omega
      · refine ⟨?_, ?_, ?_, ?_, ?_, ?_, ?_, ?_⟩
        · first | rfl | assumption | omega
        · first | rfl | assumption | omega
        · first | rfl | assumption | omega
        · first | rfl | assumption | omega
        · first | rfl | assumption | omega
        · first | rfl | assumption | omega
        · first | rfl | assumption | omega
        · exact Or.inr (by assumption)
    · skip
      refine ⟨(by omega), ?_⟩
      refine ⟨_, ?_, _, _, _, rfl, rfl, ?_⟩
      · omega
      · refine ⟨?_, ?_, ?_, ?_, ?_, ?_, ?_⟩
        · first | rfl | assumption | omega
        · first | rfl | assumption | omega
        · first | rfl | assumption | omega
        · first | rfl | assumption | omega
        · first | rfl | assumption | omega
        · intro u u0 u1
          rcases (by omega : u < v2 ∨ u = v2) with z | rfl
          · exact q5 u u0 z
          · assumption
        · first | rfl | assumption | omega
theorem l_Un_countSeedsFrom_40 (a1 : Int) (σ0 : SS) (K : AV → SS → Prop) (ha1 : InR a1) (hs0 : okS σ0) (hG : S_Un_countSeedsFrom [vR 9 0, vI a1] σ0 K) (v2 : Int) (v3 : Int) (v4 : Int) (σ : SS) (hv2 : InR v2) (hv3 : InR v3) (hv4 : InR v4) (hs : okS σ) (n : Nat) (hn : n = (100000 * (500 - v4) - 1000).toNat) (hQ : (Fr SfL σ0 σ) ∧ (TwC σ) ∧ (v3 = (σ0 501 0 0) - a1) ∧ (a1 + 1 ≤ v4 ∧ earl (cW σ0) (σ0 501 0 0) a1 < v4 ∧ v4 ≤ v3) ∧ (1 ≤ v2 ∧ v2 ≤ v4 - a1 + 1) ∧ (∀ u, 1 ≤ u → u < v2 → lceR (cW σ0) (σ0 501 0 0) 0 (a1 + u) < v4 - u) ∧ (∀ L, 0 ≤ L → L ≤ 120 → σ 31 0 L = σ0 31 0 L + bi (sdP (cW σ0) (σ0 501 0 0) a1 L ∧ L < v4)) ∧ (v4 - a1 < v2 ∨ v4 - v2 ≤ lceR (cW σ0) (σ0 501 0 0) 0 (a1 + v2))) : VL_Un_countSeedsFrom_40 a1 σ0 K v2 v3 v4 σ n := by
  unfold VL_Un_countSeedsFrom_40
  obtain ⟨⟨hT, h1, h2, h3⟩, hG⟩ := hG
  have hb := hT.n
  obtain ⟨q0, q1, q2, q3, q4, q5, q6, q7⟩ := hQ
  have sq : SQ σ0 σ := ⟨Fr_mono q0 (by intro q hq; simp [SfL] at hq; simp [SdL]; rcases hq with z | z <;> simp [z]), q1⟩
  obtain ⟨w1, w2⟩ := sq.w
  have nE : ¬ isE (cW σ0) a1 v4 := fun z => by have := (le_earl (cW σ0) (n := (σ0 501 0 0)) (p := a1) (L := v4) (by omega) (by omega)).mpr ⟨by omega, z⟩; omega
  have sp := sd_split (w := cW σ0) (n := (σ0 501 0 0)) (i := a1) (L := v4) h1 (by omega) (by omega) nE
  have q5' : ∀ u, 1 ≤ u → u < v2 → lceR (cW σ0) (σ0 501 0 0) 0 (a1 + u) < v4 + 1 - u := fun u u0 u1 => by have := q5 u u0 u1; omega
  have no : ¬ sdC (cW σ0) (σ0 501 0 0) a1 v4 → ∀ L, bi (sdP (cW σ0) (σ0 501 0 0) a1 L ∧ L < v4 + 1) = bi (sdP (cW σ0) (σ0 501 0 0) a1 L ∧ L < v4) := fun z L => by
    refine bi_congr ⟨fun y => ⟨y.1, ?_⟩, fun y => ⟨y.1, by omega⟩⟩
    rcases (by omega : L < v4 ∨ L = v4) with k | rfl
    · exact k
    · exact absurd y.1.2.2.2.2 z
  have i4 := q6 v4 (by omega) (by omega)
  have i5 := h3 v4 (by omega) (by omega)
  have i6 := bi_in (sdP (cW σ0) (σ0 501 0 0) a1 v4 ∧ v4 < v4)
  refine ⟨fun c1 => ?_, fun c1 => ?_⟩
  · skip
    refine ⟨_, ?_, _, _, _, rfl, rfl, ?_⟩
    · omega
    · refine ⟨?_, ?_, ?_, ?_, ?_, ?_, ?_, ?_⟩
      · first | rfl | assumption | omega
      · first | rfl | assumption | omega
      · first | rfl | assumption | omega
      · first | rfl | assumption | omega
      · first | rfl | assumption | omega
      · first | rfl | assumption | omega
      · first | rfl | assumption | omega
      · exact Or.inl (by omega)
  · skip
    refine ⟨(by omega), ?_⟩
    refine ⟨fun c2 => ?_, fun c2 => ?_⟩
    · skip
      refine ⟨(by omega), ?_⟩
      refine ⟨_, ?_, _, _, _, rfl, rfl, ?_⟩
      · omega
      · refine ⟨?_, ?_, ?_, ?_, ?_, ?_, ?_⟩
        · first | rfl | assumption | omega
        · first | rfl | assumption | omega
        · first | rfl | assumption | omega
        · first | rfl | assumption | omega
        · first | rfl | assumption | omega
        · exact q5'
        · intro L L0 L1
          rw [no (fun z => by
            rcases (sp.mp z).1 with k | ⟨u, u0, u1, u2⟩
            · omega
            · have := q5 u u0 (by omega); omega) L]
          exact q6 L L0 L1
    · skip
      refine ⟨_, ?_, _, _, _, rfl, rfl, ?_⟩
      · omega
      · refine ⟨?_, ?_, ?_, ?_, ?_, ?_, ?_, ?_⟩
        · first | rfl | assumption | omega
        · first | rfl | assumption | omega
        · first | rfl | assumption | omega
        · first | rfl | assumption | omega
        · first | rfl | assumption | omega
        · first | rfl | assumption | omega
        · first | rfl | assumption | omega
        · exact Or.inr ⟨v2, q4.1, by omega, by omega⟩
theorem l_Un_countSeedsFrom_47 (a1 : Int) (σ0 : SS) (K : AV → SS → Prop) (ha1 : InR a1) (hs0 : okS σ0) (hG : S_Un_countSeedsFrom [vR 9 0, vI a1] σ0 K) (v2 : Int) (v3 : Int) (v4 : Int) (σ : SS) (hv2 : InR v2) (hv3 : InR v3) (hv4 : InR v4) (hs : okS σ) (n : Nat) (hn : n = (100000 * (500 - v4) - 1001).toNat) (hQ : (Fr SfL σ0 σ) ∧ (TwC σ) ∧ (v3 = (σ0 501 0 0) - a1) ∧ (a1 + 1 ≤ v4 ∧ earl (cW σ0) (σ0 501 0 0) a1 < v4 ∧ v4 ≤ v3) ∧ (1 ≤ v2 ∧ v2 ≤ v4 - a1 + 1) ∧ (∀ u, 1 ≤ u → u < v2 → lceR (cW σ0) (σ0 501 0 0) 0 (a1 + u) < v4 - u) ∧ (∀ L, 0 ≤ L → L ≤ 120 → σ 31 0 L = σ0 31 0 L + bi (sdP (cW σ0) (σ0 501 0 0) a1 L ∧ L < v4)) ∧ (ahP (cW σ0) (σ0 501 0 0) a1 v4)) : VL_Un_countSeedsFrom_47 a1 σ0 K v2 v3 v4 σ n := by
  unfold VL_Un_countSeedsFrom_47
  obtain ⟨⟨hT, h1, h2, h3⟩, hG⟩ := hG
  have hb := hT.n
  obtain ⟨q0, q1, q2, q3, q4, q5, q6, q7⟩ := hQ
  have sq : SQ σ0 σ := ⟨Fr_mono q0 (by intro q hq; simp [SfL] at hq; simp [SdL]; rcases hq with z | z <;> simp [z]), q1⟩
  obtain ⟨w1, w2⟩ := sq.w
  have nE : ¬ isE (cW σ0) a1 v4 := fun z => by have := (le_earl (cW σ0) (n := (σ0 501 0 0)) (p := a1) (L := v4) (by omega) (by omega)).mpr ⟨by omega, z⟩; omega
  have sp := sd_split (w := cW σ0) (n := (σ0 501 0 0)) (i := a1) (L := v4) h1 (by omega) (by omega) nE
  have q5' : ∀ u, 1 ≤ u → u < v2 → lceR (cW σ0) (σ0 501 0 0) 0 (a1 + u) < v4 + 1 - u := fun u u0 u1 => by have := q5 u u0 u1; omega
  have no : ¬ sdC (cW σ0) (σ0 501 0 0) a1 v4 → ∀ L, bi (sdP (cW σ0) (σ0 501 0 0) a1 L ∧ L < v4 + 1) = bi (sdP (cW σ0) (σ0 501 0 0) a1 L ∧ L < v4) := fun z L => by
    refine bi_congr ⟨fun y => ⟨y.1, ?_⟩, fun y => ⟨y.1, by omega⟩⟩
    rcases (by omega : L < v4 ∨ L = v4) with k | rfl
    · exact k
    · exact absurd y.1.2.2.2.2 z
  have i4 := q6 v4 (by omega) (by omega)
  have i5 := h3 v4 (by omega) (by omega)
  have i6 := bi_in (sdP (cW σ0) (σ0 501 0 0) a1 v4 ∧ v4 < v4)
  refine ⟨(by rw [w2]; exact ⟨q1, h1, by omega, by omega⟩), (fun σ1 h1a => ?_)⟩
  rw [w1, w2]
  have f1 : Fr SfL σ0 σ1 := Fr_trans q0 (Fr_mono (h1a).1 (by intro q hq; simp [SfL, hq]))
  have hT2 : TwC σ1 := (h1a).2
  have es3 : σ1 31 0 = σ 31 0 := (h1a).1 _ _ (by simp [TwL])
  refine bS_b0 (fun p2 _ => ?_) (fun p2 _ => ?_)
  · skip
    refine ⟨(by omega), ?_⟩
    refine ⟨(by rw [es3]; omega), ?_⟩
    refine ⟨(by omega), fun σ3 e3 => ?_⟩
    refine ⟨(by omega), ?_⟩
    refine ⟨_, ?_, _, _, _, rfl, rfl, ?_⟩
    · omega
    · refine ⟨?_, ?_, ?_, ?_, ?_, ?_, ?_⟩
      · rw [e3]; exact Fr_trans f1 (Fr_u3 (by simp [SfL]))
      · rw [e3]; exact TwC_o (l := [(31, 0)]) hT2 (Fr_u3 (by simp)) (by simp)
      · first | rfl | assumption | omega
      · first | rfl | assumption | omega
      · first | rfl | assumption | omega
      · exact q5'
      · intro L L0 L1
        rw [e3, u3_e, es3]
        by_cases z : L = v4
        · rw [if_pos z, i4, z, bi_0 (fun y => by omega), bi_1 ⟨⟨h1, by omega, by omega, nE, sp.mpr ⟨q7, p2⟩⟩, by omega⟩]
          omega
        · rw [if_neg z, q6 L L0 L1]
          congr 1
          exact bi_congr ⟨fun y => ⟨y.1, by omega⟩, fun y => ⟨y.1, by omega⟩⟩
  · skip
    refine ⟨(by omega), ?_⟩
    refine ⟨_, ?_, _, _, _, rfl, rfl, ?_⟩
    · omega
    · refine ⟨?_, ?_, ?_, ?_, ?_, ?_, ?_⟩
      · first | rfl | assumption | omega
      · first | rfl | assumption | omega
      · first | rfl | assumption | omega
      · first | rfl | assumption | omega
      · first | rfl | assumption | omega
      · exact q5'
      · intro L L0 L1
        rw [es3, no (fun z => p2 (sp.mp z).2) L]
        exact q6 L L0 L1
theorem e_Un_countSeedsFrom (a1 : Int) (σ : SS) (K : AV → SS → Prop) (ha1 : InR a1) (hs : okS σ) (hG : S_Un_countSeedsFrom [vR 9 0, vI a1] σ K) : VE_Un_countSeedsFrom a1 σ K := by
  unfold VE_Un_countSeedsFrom
  obtain ⟨⟨hT, h1, h2, h3⟩, hG⟩ := hG
  have hb := hT.n
  intro _ _
  refine ⟨(by omega), ?_⟩
  refine ⟨(by exact hT), (fun σ1 h1a h1b => ?_)⟩
  intro _ _
  have er : earlR (cW σ) (σ 501 0 0) a1 = earl (cW σ) (σ 501 0 0) a1 := by rw [earlR, if_pos (by omega)]
  rw [er]
  have es := earl_spec (cW σ) (n := (σ 501 0 0)) (p := a1) (by omega)
  have tq : TQ σ σ1 := ⟨h1a, h1b⟩
  have es2 := fun L => le_earl (cW σ) (n := (σ 501 0 0)) (p := a1) (L := L) (by omega)
  refine ⟨(by omega), ?_⟩
  refine ⟨_, _, _, _, rfl, rfl, ?_⟩
  refine ⟨?_, ?_, ?_, ?_, ?_, ?_, ?_⟩
  · exact Fr_mono tq.1 (by intro q hq; simp [SfL, hq])
  · exact tq.2
  · first | rfl | assumption | omega
  · first | rfl | assumption | omega
  · first | rfl | assumption | omega
  · exact fun u u0 u1 => by omega
  · intro L L0 L1
    rw [tq.1 _ _ (by simp [TwL]), bi_0, Int.add_zero]
    rintro ⟨⟨z1, z2, z3, z4, z5⟩, z6⟩
    rcases (by omega : L ≤ earl (cW σ) (σ 501 0 0) a1 ∨ L ≤ a1) with y | y
    · exact z4 ((es2 L z2).mp y).2
    · rcases ((sd_split z1 z2 z3 z4).mp z5).1 with k | ⟨u, u0, u1, _⟩ <;> omega
theorem H_Un_countSeedsFrom {d : Nat} (hd : 4 ≤ d) : Holds d I_Un_countSeedsFrom S_Un_countSeedsFrom := by
  refine holds_of (d' := d - 1) (rt := 0) (cal := [(I_Wo_size, S_Wo_size), (I_Tw_earlier, S_Tw_earlier), (I_Tw_common, S_Tw_common), (I_Un_coversBehind, S_Un_coversBehind)]) (C := C_Un_countSeedsFrom) m_Un_countSeedsFrom o_Un_countSeedsFrom rfl rfl (by omega) ?_ ?_
  · intro x hx
    simp only [List.mem_cons, List.not_mem_nil, or_false] at hx
    rcases hx with rfl | rfl | rfl | rfl
    · exact H_Wo_size (by omega)
    · exact H_Tw_earlier (by omega)
    · exact H_Tw_common (by omega)
    · exact H_Un_coversBehind (by omega)
  · intro as σ K has hσ hG
    have hG2 := hG
    unfold S_Un_countSeedsFrom at hG2
    split at hG2
    · next a1 =>
      refine ⟨Nat.le_of_ble_eq_true rfl, (Iv_Un_countSeedsFrom a1 σ), ?_, 1000, ?_⟩
      · intro k n z L σ' hk hL hs hP
        unfold Iv_Un_countSeedsFrom at hk
        split at hk
        · cases hk
          obtain ⟨v2, v3, v4, rfl, hn, hQ⟩ := hP
          exact ⟨1000, l_Un_countSeedsFrom_19 a1 σ K (has _ (List.mem_of_getElem? (i := 1) rfl)) hσ hG v2 v3 v4 σ' (hL _ (List.mem_of_getElem? (i := 2) rfl)) (hL _ (List.mem_of_getElem? (i := 3) rfl)) (hL _ (List.mem_of_getElem? (i := 4) rfl)) hs n hn hQ⟩
        · cases hk
          obtain ⟨v2, v3, v4, rfl, hn, hQ⟩ := hP
          exact ⟨1000, l_Un_countSeedsFrom_22 a1 σ K (has _ (List.mem_of_getElem? (i := 1) rfl)) hσ hG v2 v3 v4 σ' (hL _ (List.mem_of_getElem? (i := 2) rfl)) (hL _ (List.mem_of_getElem? (i := 3) rfl)) (hL _ (List.mem_of_getElem? (i := 4) rfl)) hs n hn hQ⟩
        · cases hk
          obtain ⟨v2, v3, v4, rfl, hn, hQ⟩ := hP
          exact ⟨1000, l_Un_countSeedsFrom_40 a1 σ K (has _ (List.mem_of_getElem? (i := 1) rfl)) hσ hG v2 v3 v4 σ' (hL _ (List.mem_of_getElem? (i := 2) rfl)) (hL _ (List.mem_of_getElem? (i := 3) rfl)) (hL _ (List.mem_of_getElem? (i := 4) rfl)) hs n hn hQ⟩
        · cases hk
          obtain ⟨v2, v3, v4, rfl, hn, hQ⟩ := hP
          exact ⟨1000, l_Un_countSeedsFrom_47 a1 σ K (has _ (List.mem_of_getElem? (i := 1) rfl)) hσ hG v2 v3 v4 σ' (hL _ (List.mem_of_getElem? (i := 2) rfl)) (hL _ (List.mem_of_getElem? (i := 3) rfl)) (hL _ (List.mem_of_getElem? (i := 4) rfl)) hs n hn hQ⟩
        · cases hk
      · exact e_Un_countSeedsFrom a1 σ K (has _ (List.mem_of_getElem? (i := 1) rfl)) hσ hG
    · exact hG2.elim
def S_Un_countSeeds : GS := fun as σ K => match as with
  | [some (.inr (.inr (9, 0)))] => (TwC σ ∧ SdC σ) ∧ ∀ σ', SQ σ σ' → SdV σ' → K none σ'
  | _ => False
abbrev Lp_Un_countSeeds_9 (σ0 : SS) (n : Nat) (L : List AV) (σ : SS) : Prop := ∃ (v1 : Int), L = [vR 9 0, vI v1] ∧ n = (100000 - v1).toNat ∧ ((SQ σ0 σ) ∧ (0 ≤ v1 ∧ v1 ≤ 121) ∧ (∀ L, 0 ≤ L → L < v1 → σ 31 0 L = 0))
abbrev Lp_Un_countSeeds_21 (σ0 : SS) (n : Nat) (L : List AV) (σ : SS) : Prop := ∃ (v1 : Int), L = [vR 9 0, vI v1] ∧ n = (10000 - v1).toNat ∧ ((SQ σ0 σ) ∧ (0 ≤ v1 ∧ v1 ≤ (σ0 501 0 0)) ∧ (∀ L, 0 ≤ L → L ≤ 120 → σ 31 0 L = cntZ (fun i => sdP (cW σ0) (σ0 501 0 0) i L) 0 v1))
abbrev Lp_Un_countSeeds_36 (σ0 : SS) (n : Nat) (L : List AV) (σ : SS) : Prop := ∃ (v1 : Int), L = [vR 9 0, vI v1] ∧ n = (1000 - v1).toNat ∧ ((SQ σ0 σ) ∧ (1 ≤ v1 ∧ v1 ≤ (σ0 501 0 0) + 1) ∧ (∀ L, 0 ≤ L → L ≤ 120 → σ 31 0 L = cntZ (fun i => sdP (cW σ0) (σ0 501 0 0) i L) 0 (σ0 501 0 0)) ∧ (σ 463 0 0 = cbS (sdP (cW σ0) (σ0 501 0 0)) (σ0 501 0 0) v1 0))
def Iv_Un_countSeeds (σ0 : SS) (k : Nat) : Option (List Nat × (Nat → List AV → SS → Prop)) := match k with
  | 9 => some ([], Lp_Un_countSeeds_9 σ0)
  | 21 => some ([], Lp_Un_countSeeds_21 σ0)
  | 36 => some ([], Lp_Un_countSeeds_36 σ0)
  | _ => none
def VE_Un_countSeeds (σ : SS) (K : AV → SS → Prop) : Prop :=
  (((σ 464 0 0) = 0 →
    ((0 ≤ (1 : Int) ∧ (1 : Int) ≤ 1) ∧ (∀ σ1 : SS, σ1 = u3 σ 464 0 0 1 →
    (∃ n', Lp_Un_countSeeds_9 σ n' [vR 9 0, vI 0] σ1)))) ∧
  ((σ 464 0 0) ≠ 0 →
    (K none σ)))
def VL_Un_countSeeds_9 (σ0 : SS) (K : AV → SS → Prop) (v1 : Int) (σ : SS) (n : Nat) : Prop :=
  (((120 : Int) < v1 →
    (∃ n', n' < n ∧ Lp_Un_countSeeds_21 σ0 n' [vR 9 0, vI 0] σ)) ∧
  (v1 ≤ 120 →
    ((0 ≤ (v1 : Int) ∧ (v1 : Int) < 121) ∧ ∀ σ1 : SS, σ1 = u3 σ 31 0 v1 0 →
    (InR (v1 + 1) ∧
    (∃ n', n' < n ∧ Lp_Un_countSeeds_9 σ0 n' [vR 9 0, vI (v1 + 1)] σ1)))))
def VL_Un_countSeeds_21 (σ0 : SS) (K : AV → SS → Prop) (v1 : Int) (σ : SS) (n : Nat) : Prop :=
  (S_Wo_size [vR 10 0] σ (kI fun r1 σ1 =>
    ((r1 ≤ v1 →
      (∀ σ2 : SS, σ2 = u3 σ1 463 0 0 0 →
      (∃ n', n' < n ∧ Lp_Un_countSeeds_36 σ0 n' [vR 9 0, vI 1] σ2))) ∧
    (v1 < r1 →
      (S_Un_countSeedsFrom [vR 9 0, vI v1] σ1 (kV fun σ3 =>
        (InR (v1 + 1) ∧
        (∃ n', n' < n ∧ Lp_Un_countSeeds_21 σ0 n' [vR 9 0, vI (v1 + 1)] σ3))))))))
def VL_Un_countSeeds_36 (σ0 : SS) (K : AV → SS → Prop) (v1 : Int) (σ : SS) (n : Nat) : Prop :=
  (S_Wo_size [vR 10 0] σ (kI fun r1 σ1 =>
    ((r1 < v1 →
      (K none σ1)) ∧
    (v1 ≤ r1 →
      (((120 : Int) < v1 →
        (K none σ1)) ∧
      (v1 ≤ 120 →
        ((0 ≤ (v1 : Int) ∧ (v1 : Int) < 121) ∧
        (InR ((σ1 463 0 0) + (σ1 31 0 v1)) ∧
        (∀ σ2 : SS, σ2 = u3 σ1 463 0 0 ((σ1 463 0 0) + (σ1 31 0 v1)) →
        (InR (v1 + 1) ∧
        (∃ n', n' < n ∧ Lp_Un_countSeeds_36 σ0 n' [vR 9 0, vI (v1 + 1)] σ2)))))))))))
theorem l_Un_countSeeds_9 (σ0 : SS) (K : AV → SS → Prop) (hs0 : okS σ0) (hG : S_Un_countSeeds [vR 9 0] σ0 K) (v1 : Int) (σ : SS) (hv1 : InR v1) (hs : okS σ) (n : Nat) (hn : n = (100000 - v1).toNat) (hQ : (SQ σ0 σ) ∧ (0 ≤ v1 ∧ v1 ≤ 121) ∧ (∀ L, 0 ≤ L → L < v1 → σ 31 0 L = 0)) : VL_Un_countSeeds_9 σ0 K v1 σ n := by
  unfold VL_Un_countSeeds_9
  obtain ⟨⟨hT, hS⟩, hG⟩ := hG
  have hb := hT.n
  obtain ⟨q0, q1, q2⟩ := hQ
  have hT1 := q0.2
  refine ⟨fun c1 => ?_, fun c1 => ?_⟩
  · skip
    refine ⟨_, ?_, _, rfl, rfl, ?_⟩
    · omega
    · refine ⟨?_, ?_, ?_⟩
      · first | rfl | assumption | omega
      · first | rfl | assumption | omega
      · intro L L0 L1
        rw [cntZ_nil (by omega)]
        exact q2 L L0 (by omega)
  · skip
    refine ⟨(by omega), fun σ2 e2 => ?_⟩
    have fr : Fr [(31, 0)] σ σ2 := by rw [e2]; exact Fr_u3 (by simp)
    refine ⟨(by omega), ?_⟩
    refine ⟨_, ?_, _, rfl, rfl, ?_⟩
    · omega
    · refine ⟨?_, ?_, ?_⟩
      · exact q0.tr ⟨Fr_mono fr (by simp [SdL]), TwC_o hT1 fr (by simp)⟩
      · first | rfl | assumption | omega
      · intro L L0 L1
        rw [e2, u3_e]
        split
        · rfl
        · exact q2 L L0 (by omega)
theorem l_Un_countSeeds_21 (σ0 : SS) (K : AV → SS → Prop) (hs0 : okS σ0) (hG : S_Un_countSeeds [vR 9 0] σ0 K) (v1 : Int) (σ : SS) (hv1 : InR v1) (hs : okS σ) (n : Nat) (hn : n = (10000 - v1).toNat) (hQ : (SQ σ0 σ) ∧ (0 ≤ v1 ∧ v1 ≤ (σ0 501 0 0)) ∧ (∀ L, 0 ≤ L → L ≤ 120 → σ 31 0 L = cntZ (fun i => sdP (cW σ0) (σ0 501 0 0) i L) 0 v1)) : VL_Un_countSeeds_21 σ0 K v1 σ n := by
  unfold VL_Un_countSeeds_21
  obtain ⟨⟨hT, hS⟩, hG⟩ := hG
  have hb := hT.n
  obtain ⟨q0, q1, q2⟩ := hQ
  have hT1 := q0.2
  obtain ⟨w1, w2⟩ := q0.w
  intro _ _
  refine ⟨fun c1 => ?_, fun c1 => ?_⟩
  · skip
    refine fun σ2 e2 => ?_
    have fr : Fr [(463, 0)] σ σ2 := by rw [e2]; exact Fr_u3 (by simp)
    refine ⟨_, ?_, _, rfl, rfl, ?_⟩
    · omega
    · refine ⟨?_, ?_, ?_, ?_⟩
      · exact q0.tr ⟨Fr_mono fr (by simp [SdL]), TwC_o hT1 fr (by simp)⟩
      · first | rfl | assumption | omega
      · intro L L0 L1
        rw [fr _ _ (by simp), q2 L L0 L1, show v1 = (σ0 501 0 0) by omega]
      · rw [e2, u3_s]; exact CB_0.symm
  · skip
    have hsl : ∀ L, 0 ≤ L → L ≤ 120 → 0 ≤ σ 31 0 L ∧ σ 31 0 L ≤ v1 := fun L L0 L1 => by
      rw [q2 L L0 L1]
      have := cntZ_in (P := fun i => sdP (cW σ0) (σ0 501 0 0) i L) (a := 0) (b := v1)
      omega
    refine ⟨(by rw [w2]; exact ⟨hT1, q1.1, by omega, hsl⟩), (fun σ2 h2a h2b h2c => ?_)⟩
    intro _
    refine ⟨(by omega), ?_⟩
    refine ⟨_, ?_, _, rfl, rfl, ?_⟩
    · omega
    · refine ⟨?_, ?_, ?_⟩
      · exact q0.tr ⟨Fr_mono h2a (by intro q hq; simp [SfL] at hq; simp [SdL]; rcases hq with z | z <;> simp [z]), h2b⟩
      · first | rfl | assumption | omega
      · intro L L0 L1
        rw [h2c L L0 L1, w1, w2, q2 L L0 L1]
        exact (cntZ_succ (P := fun i => sdP (cW σ0) (σ0 501 0 0) i L) q1.1).symm
theorem l_Un_countSeeds_36 (σ0 : SS) (K : AV → SS → Prop) (hs0 : okS σ0) (hG : S_Un_countSeeds [vR 9 0] σ0 K) (v1 : Int) (σ : SS) (hv1 : InR v1) (hs : okS σ) (n : Nat) (hn : n = (1000 - v1).toNat) (hQ : (SQ σ0 σ) ∧ (1 ≤ v1 ∧ v1 ≤ (σ0 501 0 0) + 1) ∧ (∀ L, 0 ≤ L → L ≤ 120 → σ 31 0 L = cntZ (fun i => sdP (cW σ0) (σ0 501 0 0) i L) 0 (σ0 501 0 0)) ∧ (σ 463 0 0 = cbS (sdP (cW σ0) (σ0 501 0 0)) (σ0 501 0 0) v1 0)) : VL_Un_countSeeds_36 σ0 K v1 σ n := by
  unfold VL_Un_countSeeds_36
  obtain ⟨⟨hT, hS⟩, hG⟩ := hG
  have hb := hT.n
  obtain ⟨q0, q1, q2, q3⟩ := hQ
  have hT1 := q0.2
  obtain ⟨w1, w2⟩ := q0.w
  have r1 := cb_row (P := sdP (cW σ0) (σ0 501 0 0)) (n := (σ0 501 0 0)) (h := v1) q1.1
  have ci := CB_in (P := sdP (cW σ0) (σ0 501 0 0)) (n := (σ0 501 0 0)) (h0 := v1) (i0 := 0) rfl hb.1 hb.2 (by omega) (by omega)
  intro _ _
  refine ⟨fun c1 => ?_, fun c1 => ?_⟩
  · skip
    refine hG _ q0 ⟨?_, ?_⟩
    · rw [w1, w2]; exact q2
    · rw [w1, w2, q3, show v1 = (σ0 501 0 0) + 1 by omega]; rfl
  · skip
    refine ⟨fun c2 => ?_, fun c2 => ?_⟩
    · skip
      exact absurd c2 (by omega)
    · skip
      refine ⟨(by omega), ?_⟩
      refine ⟨(by
                        have e := q2 v1 (by omega) (by omega)
                        have := cntZ_in (P := fun i => sdP (cW σ0) (σ0 501 0 0) i v1) (a := 0) (b := (σ0 501 0 0))
                        omega), ?_⟩
      refine fun σ3 e3 => ?_
      have fr : Fr [(463, 0)] σ σ3 := by rw [e3]; exact Fr_u3 (by simp)
      refine ⟨(by omega), ?_⟩
      refine ⟨_, ?_, _, rfl, rfl, ?_⟩
      · omega
      · refine ⟨?_, ?_, ?_, ?_⟩
        · exact q0.tr ⟨Fr_mono fr (by simp [SdL]), TwC_o hT1 fr (by simp)⟩
        · first | rfl | assumption | omega
        · rw [fr _ _ (by simp)]; exact q2
        · rw [e3, u3_s, q3, q2 v1 (by omega) (by omega), r1]; rfl
theorem e_Un_countSeeds (σ : SS) (K : AV → SS → Prop) (hs : okS σ) (hG : S_Un_countSeeds [vR 9 0] σ K) : VE_Un_countSeeds σ K := by
  unfold VE_Un_countSeeds
  obtain ⟨⟨hT, hS⟩, hG⟩ := hG
  have hb := hT.n
  refine ⟨fun c1 => ?_, fun c1 => ?_⟩
  · skip
    refine ⟨(by omega), fun σ2 e2 => ?_⟩
    have fr : Fr [(464, 0)] σ σ2 := by rw [e2]; exact Fr_u3 (by simp)
    refine ⟨_, _, rfl, rfl, ?_⟩
    refine ⟨?_, ?_, ?_⟩
    · exact ⟨Fr_mono fr (by simp [SdL]), TwC_o hT fr (by simp)⟩
    · first | rfl | assumption | omega
    · exact fun L L0 L1 => by omega
  · skip
    exact hG _ (SQ.rf hT) (hS (by assumption))
theorem H_Un_countSeeds {d : Nat} (hd : 5 ≤ d) : Holds d I_Un_countSeeds S_Un_countSeeds := by
  refine holds_of (d' := d - 1) (rt := 0) (cal := [(I_Wo_size, S_Wo_size), (I_Un_countSeedsFrom, S_Un_countSeedsFrom)]) (C := C_Un_countSeeds) m_Un_countSeeds o_Un_countSeeds rfl rfl (by omega) ?_ ?_
  · intro x hx
    simp only [List.mem_cons, List.not_mem_nil, or_false] at hx
    rcases hx with rfl | rfl
    · exact H_Wo_size (by omega)
    · exact H_Un_countSeedsFrom (by omega)
  · intro as σ K has hσ hG
    have hG2 := hG
    unfold S_Un_countSeeds at hG2
    split at hG2
    · skip
      refine ⟨Nat.le_of_ble_eq_true rfl, (Iv_Un_countSeeds σ), ?_, 1000, ?_⟩
      · intro k n z L σ' hk hL hs hP
        unfold Iv_Un_countSeeds at hk
        split at hk
        · cases hk
          obtain ⟨v1, rfl, hn, hQ⟩ := hP
          exact ⟨1000, l_Un_countSeeds_9 σ K  hσ hG v1 σ' (hL _ (List.mem_of_getElem? (i := 1) rfl)) hs n hn hQ⟩
        · cases hk
          obtain ⟨v1, rfl, hn, hQ⟩ := hP
          exact ⟨1000, l_Un_countSeeds_21 σ K  hσ hG v1 σ' (hL _ (List.mem_of_getElem? (i := 1) rfl)) hs n hn hQ⟩
        · cases hk
          obtain ⟨v1, rfl, hn, hQ⟩ := hP
          exact ⟨1000, l_Un_countSeeds_36 σ K  hσ hG v1 σ' (hL _ (List.mem_of_getElem? (i := 1) rfl)) hs n hn hQ⟩
        · cases hk
      · exact e_Un_countSeeds σ K  hσ hG
    · exact hG2.elim
def S_Un_seeds : GS := fun as σ K => match as with
  | [some (.inr (.inr (9, 0)))] => K (vI (σ 463 0 0)) σ
  | _ => False
def VE_Un_seeds (σ : SS) (K : AV → SS → Prop) : Prop :=
  (K (vI (σ 463 0 0)) σ)
theorem e_Un_seeds (σ : SS) (K : AV → SS → Prop) (hs : okS σ) (hG : S_Un_seeds [vR 9 0] σ K) : VE_Un_seeds σ K := by
  unfold VE_Un_seeds
  exact hG
theorem H_Un_seeds {d : Nat} (hd : 1 ≤ d) : Holds d I_Un_seeds S_Un_seeds := by
  refine holds_of (d' := d - 1) (rt := 1) (cal := []) (C := C_Un_seeds) m_Un_seeds o_Un_seeds rfl rfl (by omega) ?_ ?_
  · intro x hx
    cases hx
  · intro as σ K has hσ hG
    have hG2 := hG
    unfold S_Un_seeds at hG2
    split at hG2
    · skip
      refine ⟨Nat.le_of_ble_eq_true rfl, (fun _ => none), ?_, 1000, ?_⟩
      · intro k n z L σ' hk hL hs hP
        cases hk
      · exact e_Un_seeds σ K  hσ hG
    · exact hG2.elim
def S_Un_seedBegin : GS := fun as σ K => match as with
  | [some (.inr (.inr (9, 0))), some (.inl a1), some (.inl a2)] => (TwC σ ∧ 1 ≤ a1 ∧ a1 ≤ (σ 501 0 0) ∧ 0 ≤ a2 ∧ a2 < cntZ (fun i => sdP (cW σ) (σ 501 0 0) i a1) 0 (σ 501 0 0)) ∧ ∀ σ' r, TQ σ σ' → sdP (cW σ) (σ 501 0 0) r a1 → cntZ (fun i => sdP (cW σ) (σ 501 0 0) i a1) 0 r = a2 → K (vI r) σ'
  | _ => False
abbrev Lp_Un_seedBegin_4 (a1 : Int) (a2 : Int) (σ0 : SS) (n : Nat) (L : List AV) (σ : SS) : Prop := ∃ (v3 : Int) (v4 : Int), L = [vR 9 0, vI a1, vI a2, vI v3, vI v4] ∧ n = (1000 - v4).toNat ∧ ((TQ σ0 σ) ∧ (0 ≤ v4 ∧ v4 + a1 ≤ (σ0 501 0 0) + 1) ∧ (v3 = a2 - cntZ (fun i => sdP (cW σ0) (σ0 501 0 0) i a1) 0 v4) ∧ (0 ≤ v3))
def Iv_Un_seedBegin (a1 : Int) (a2 : Int) (σ0 : SS) (k : Nat) : Option (List Nat × (Nat → List AV → SS → Prop)) := match k with
  | 4 => some ([], Lp_Un_seedBegin_4 a1 a2 σ0)
  | _ => none
def VE_Un_seedBegin (a1 : Int) (a2 : Int) (σ : SS) (K : AV → SS → Prop) : Prop :=
  (∃ n', Lp_Un_seedBegin_4 a1 a2 σ n' [vR 9 0, vI a1, vI a2, vI a2, vI 0] σ)
def VL_Un_seedBegin_4 (a1 : Int) (a2 : Int) (σ0 : SS) (K : AV → SS → Prop) (v3 : Int) (v4 : Int) (σ : SS) (n : Nat) : Prop :=
  (S_Wo_size [vR 10 0] σ (kI fun r1 σ1 =>
    (InR (r1 - a1) ∧
    (((r1 - a1) < v4 →
      (K (vI (-1)) σ1)) ∧
    (v4 ≤ (r1 - a1) →
      (S_Un_isSeed [vR 9 0, vI v4, vI a1] σ1 (kI fun r2 σ2 =>
        ((r2 = 0 →
          (InR (v4 + 1) ∧
          (∃ n', n' < n ∧ Lp_Un_seedBegin_4 a1 a2 σ0 n' [vR 9 0, vI a1, vI a2, vI v3, vI (v4 + 1)] σ2))) ∧
        (r2 ≠ 0 →
          ((v3 ≠ 0 →
            (InR (v3 + (-1)) ∧
            (InR (v4 + 1) ∧
            (∃ n', n' < n ∧ Lp_Un_seedBegin_4 a1 a2 σ0 n' [vR 9 0, vI a1, vI a2, vI (v3 + (-1)), vI (v4 + 1)] σ2)))) ∧
          (v3 = 0 →
            (K (vI v4) σ2))))))))))))
theorem l_Un_seedBegin_4 (a1 : Int) (a2 : Int) (σ0 : SS) (K : AV → SS → Prop) (ha1 : InR a1) (ha2 : InR a2) (hs0 : okS σ0) (hG : S_Un_seedBegin [vR 9 0, vI a1, vI a2] σ0 K) (v3 : Int) (v4 : Int) (σ : SS) (hv3 : InR v3) (hv4 : InR v4) (hs : okS σ) (n : Nat) (hn : n = (1000 - v4).toNat) (hQ : (TQ σ0 σ) ∧ (0 ≤ v4 ∧ v4 + a1 ≤ (σ0 501 0 0) + 1) ∧ (v3 = a2 - cntZ (fun i => sdP (cW σ0) (σ0 501 0 0) i a1) 0 v4) ∧ (0 ≤ v3)) : VL_Un_seedBegin_4 a1 a2 σ0 K v3 v4 σ n := by
  unfold VL_Un_seedBegin_4
  obtain ⟨⟨hT, h1, h2, h3, h4⟩, hG⟩ := hG
  have hb := hT.n
  obtain ⟨q0, q1, q2, q3⟩ := hQ
  have hT1 := q0.2
  obtain ⟨w1, w2⟩ := q0.w
  intro _ _
  refine ⟨(by omega), ?_⟩
  refine ⟨fun c1 => ?_, fun c1 => ?_⟩
  · skip
    have e : cntZ (fun i => sdP (cW σ0) (σ0 501 0 0) i a1) 0 v4 = cntZ (fun i => sdP (cW σ0) (σ0 501 0 0) i a1) 0 (σ0 501 0 0) := sumZ_widen (Int.le_refl _) (by omega) (fun x x0 x1 x2 => bi_0 (fun z => by have := z.2.2.1; omega))
    omega
  · skip
    refine ⟨(by rw [w2]; exact ⟨hT1, by omega, by omega, by omega⟩), (fun σ2 h2a => ?_)⟩
    rw [w1, w2]
    have t2 := q0.tr h2a
    refine bS_b0 (fun p3 _ => ?_) (fun p3 _ => ?_)
    · skip
      refine ⟨fun c4 => ?_, fun c4 => ?_⟩
      · skip
        refine ⟨(by omega), ?_⟩
        refine ⟨(by omega), ?_⟩
        refine ⟨_, ?_, _, _, rfl, rfl, ?_⟩
        · omega
        · refine ⟨?_, ?_, ?_, ?_⟩
          · exact t2
          · first | rfl | assumption | omega
          · rw [cntZ_yes q1.1 (by assumption)]; omega
          · first | rfl | assumption | omega
      · skip
        exact hG _ _ t2 (by assumption) (by omega)
    · skip
      refine ⟨(by omega), ?_⟩
      refine ⟨_, ?_, _, _, rfl, rfl, ?_⟩
      · omega
      · refine ⟨?_, ?_, ?_, ?_⟩
        · exact t2
        · first | rfl | assumption | omega
        · rw [cntZ_no q1.1 (by assumption)]; omega
        · first | rfl | assumption | omega
theorem e_Un_seedBegin (a1 : Int) (a2 : Int) (σ : SS) (K : AV → SS → Prop) (ha1 : InR a1) (ha2 : InR a2) (hs : okS σ) (hG : S_Un_seedBegin [vR 9 0, vI a1, vI a2] σ K) : VE_Un_seedBegin a1 a2 σ K := by
  unfold VE_Un_seedBegin
  obtain ⟨⟨hT, h1, h2, h3, h4⟩, hG⟩ := hG
  refine ⟨_, _, _, rfl, rfl, ?_⟩
  refine ⟨?_, ?_, ?_, ?_⟩
  · exact TQ.rf hT
  · first | rfl | assumption | omega
  · rw [cntZ_nil (by omega)]; omega
  · first | rfl | assumption | omega
theorem H_Un_seedBegin {d : Nat} (hd : 5 ≤ d) : Holds d I_Un_seedBegin S_Un_seedBegin := by
  refine holds_of (d' := d - 1) (rt := 1) (cal := [(I_Wo_size, S_Wo_size), (I_Un_isSeed, S_Un_isSeed)]) (C := C_Un_seedBegin) m_Un_seedBegin o_Un_seedBegin rfl rfl (by omega) ?_ ?_
  · intro x hx
    simp only [List.mem_cons, List.not_mem_nil, or_false] at hx
    rcases hx with rfl | rfl
    · exact H_Wo_size (by omega)
    · exact H_Un_isSeed (by omega)
  · intro as σ K has hσ hG
    have hG2 := hG
    unfold S_Un_seedBegin at hG2
    split at hG2
    · next a1 a2 =>
      refine ⟨Nat.le_of_ble_eq_true rfl, (Iv_Un_seedBegin a1 a2 σ), ?_, 1000, ?_⟩
      · intro k n z L σ' hk hL hs hP
        unfold Iv_Un_seedBegin at hk
        split at hk
        · cases hk
          obtain ⟨v3, v4, rfl, hn, hQ⟩ := hP
          exact ⟨1000, l_Un_seedBegin_4 a1 a2 σ K (has _ (List.mem_of_getElem? (i := 1) rfl)) (has _ (List.mem_of_getElem? (i := 2) rfl)) hσ hG v3 v4 σ' (hL _ (List.mem_of_getElem? (i := 3) rfl)) (hL _ (List.mem_of_getElem? (i := 4) rfl)) hs n hn hQ⟩
        · cases hk
      · exact e_Un_seedBegin a1 a2 σ K (has _ (List.mem_of_getElem? (i := 1) rfl)) (has _ (List.mem_of_getElem? (i := 2) rfl)) hσ hG
    · exact hG2.elim
def S_Un_seedAnswer : GS := fun as σ K => match as with
  | [some (.inr (.inr (9, 0))), some (.inl a1), some (.inl a2)] => (TwC σ ∧ SdV σ ∧ 0 ≤ a1 ∧ 0 ≤ a2 ∧ a2 ≤ 1) ∧ ∀ σ' r, TQ σ σ' → RSeed (cW σ) (σ 501 0 0) a1 a2 r → K (vI r) σ'
  | _ => False
abbrev Lp_Un_seedAnswer_4 (a1 : Int) (a2 : Int) (σ0 : SS) (n : Nat) (L : List AV) (σ : SS) : Prop := ∃ (v3 : Int) (v4 : Int), L = [vR 9 0, vI a1, vI a2, vI v3, vI v4] ∧ n = (1000 - v4).toNat ∧ ((σ = σ0) ∧ (1 ≤ v4 ∧ v4 ≤ (σ0 501 0 0) + 1) ∧ (v3 = a1 - cbS (sdP (cW σ0) (σ0 501 0 0)) (σ0 501 0 0) v4 0) ∧ (0 ≤ v3))
def Iv_Un_seedAnswer (a1 : Int) (a2 : Int) (σ0 : SS) (k : Nat) : Option (List Nat × (Nat → List AV → SS → Prop)) := match k with
  | 4 => some ([], Lp_Un_seedAnswer_4 a1 a2 σ0)
  | _ => none
def VE_Un_seedAnswer (a1 : Int) (a2 : Int) (σ : SS) (K : AV → SS → Prop) : Prop :=
  (∃ n', Lp_Un_seedAnswer_4 a1 a2 σ n' [vR 9 0, vI a1, vI a2, vI a1, vI 1] σ)
def VL_Un_seedAnswer_4 (a1 : Int) (a2 : Int) (σ0 : SS) (K : AV → SS → Prop) (v3 : Int) (v4 : Int) (σ : SS) (n : Nat) : Prop :=
  (S_Wo_size [vR 10 0] σ (kI fun r1 σ1 =>
    ((r1 < v4 →
      (K (vI (-1)) σ1)) ∧
    (v4 ≤ r1 →
      (((120 : Int) < v4 →
        (K (vI (-1)) σ1)) ∧
      (v4 ≤ 120 →
        ((0 ≤ (v4 : Int) ∧ (v4 : Int) < 121) ∧
        (((σ1 31 0 v4) ≤ v3 →
          ((0 ≤ (v4 : Int) ∧ (v4 : Int) < 121) ∧
          (InR (v3 - (σ1 31 0 v4)) ∧
          (InR (v4 + 1) ∧
          (∃ n', n' < n ∧ Lp_Un_seedAnswer_4 a1 a2 σ0 n' [vR 9 0, vI a1, vI a2, vI (v3 - (σ1 31 0 v4)), vI (v4 + 1)] σ1))))) ∧
        (v3 < (σ1 31 0 v4) →
          ((a2 ≠ 0 →
            (S_Un_seedBegin [vR 9 0, vI v4, vI v3] σ1 (kI fun r2 σ2 =>
              (K (vI r2) σ2)))) ∧
          (a2 = 0 →
            (K (vI v4) σ1))))))))))))
theorem l_Un_seedAnswer_4 (a1 : Int) (a2 : Int) (σ0 : SS) (K : AV → SS → Prop) (ha1 : InR a1) (ha2 : InR a2) (hs0 : okS σ0) (hG : S_Un_seedAnswer [vR 9 0, vI a1, vI a2] σ0 K) (v3 : Int) (v4 : Int) (σ : SS) (hv3 : InR v3) (hv4 : InR v4) (hs : okS σ) (n : Nat) (hn : n = (1000 - v4).toNat) (hQ : (σ = σ0) ∧ (1 ≤ v4 ∧ v4 ≤ (σ0 501 0 0) + 1) ∧ (v3 = a1 - cbS (sdP (cW σ0) (σ0 501 0 0)) (σ0 501 0 0) v4 0) ∧ (0 ≤ v3)) : VL_Un_seedAnswer_4 a1 a2 σ0 K v3 v4 σ n := by
  unfold VL_Un_seedAnswer_4
  obtain ⟨⟨hT, hS, h1, h2, h3⟩, hG⟩ := hG
  have hb := hT.n
  obtain ⟨rfl, q1, q2, q3⟩ := hQ
  have r1 := cb_row (P := sdP (cW σ) (σ 501 0 0)) (n := (σ 501 0 0)) (h := v4) q1.1
  have r2 : v4 ≤ (σ 501 0 0) → σ 31 0 v4 = colS (sdP (cW σ) (σ 501 0 0)) (σ 501 0 0) v4 := fun z => hS.1 v4 (by omega) (by omega)
  have r3 : 0 ≤ colS (sdP (cW σ) (σ 501 0 0)) (σ 501 0 0) v4 := (cntZ_in (P := fun i => sdP (cW σ) (σ 501 0 0) i v4)).1
  have ok : ∀ i, sdP (cW σ) (σ 501 0 0) i v4 → cntZ (fun i => sdP (cW σ) (σ 501 0 0) i v4) 0 i = v3 → kthP (sdP (cW σ) (σ 501 0 0)) (σ 501 0 0) a1 v4 i ∧ a1 < allS (sdP (cW σ) (σ 501 0 0)) (σ 501 0 0) := fun i z y => by
    have k1 : cbS (sdP (cW σ) (σ 501 0 0)) (σ 501 0 0) v4 i = a1 := by rw [cb_at]; omega
    have zi := sdP_in z
    have := cb_lt (P := sdP (cW σ) (σ 501 0 0)) (n := (σ 501 0 0)) (h1 := (σ 501 0 0) + 1) (i1 := 0) (fun i h y => (sdP_in y).2.2) z zi.2.1 zi.1 (by omega) (Or.inl (by have := z.2.2.1; omega))
    exact ⟨⟨z, k1⟩, by unfold allS; omega⟩
  intro _ _
  refine ⟨fun c1 => ?_, fun c1 => ?_⟩
  · skip
    have e : v4 = (σ 501 0 0) + 1 := by omega
    rw [e] at q2
    exact hG _ _ (TQ.rf hT) (Or.inr (Or.inr ⟨fun z => by omega, fun z => by have := z.2.1; unfold allS at this; omega, rfl⟩))
  · skip
    refine ⟨fun c2 => ?_, fun c2 => ?_⟩
    · skip
      exact absurd c2 (by omega)
    · skip
      refine ⟨(by omega), ?_⟩
      refine ⟨fun c3 => ?_, fun c3 => ?_⟩
      · skip
        refine ⟨(by omega), ?_⟩
        refine ⟨(by have := r2 (by omega); omega), ?_⟩
        refine ⟨(by omega), ?_⟩
        refine ⟨_, ?_, _, _, rfl, rfl, ?_⟩
        · omega
        · refine ⟨?_, ?_, ?_, ?_⟩
          · first | rfl | assumption | omega
          · first | rfl | assumption | omega
          · rw [r1, r2 (by omega)]; omega
          · have := r2 (by omega); omega
      · skip
        refine ⟨fun c4 => ?_, fun c4 => ?_⟩
        · skip
          rw [r2 (by omega)] at c3
          refine ⟨(by exact ⟨hT, by omega, by omega, q3, c3⟩), (fun σ5 r5 h5a h5b h5c => ?_)⟩
          intro _ _
          obtain ⟨k1, k2⟩ := ok _ (by assumption) (by assumption)
          exact hG _ _ (by assumption) (Or.inr (Or.inl ⟨h1, k2, h2, h3, v4, _, k1, by rw [if_neg (by omega)]⟩))
        · skip
          rw [r2 (by omega)] at c3
          obtain ⟨x, x0, x1, x2, x3⟩ := cnt_ex q3 c3
          obtain ⟨k1, k2⟩ := ok x x2 x3
          exact hG _ _ (TQ.rf hT) (Or.inr (Or.inl ⟨h1, k2, h2, h3, v4, x, k1, by rw [if_pos (by omega)]⟩))
theorem e_Un_seedAnswer (a1 : Int) (a2 : Int) (σ : SS) (K : AV → SS → Prop) (ha1 : InR a1) (ha2 : InR a2) (hs : okS σ) (hG : S_Un_seedAnswer [vR 9 0, vI a1, vI a2] σ K) : VE_Un_seedAnswer a1 a2 σ K := by
  unfold VE_Un_seedAnswer
  obtain ⟨⟨hT, hS, h1, h2, h3⟩, hG⟩ := hG
  have hb := hT.n
  refine ⟨_, _, _, rfl, rfl, ?_⟩
  refine ⟨?_, ?_, ?_, ?_⟩
  · first | rfl | assumption | omega
  · first | rfl | assumption | omega
  · rw [CB_0]; omega
  · first | rfl | assumption | omega
theorem H_Un_seedAnswer {d : Nat} (hd : 6 ≤ d) : Holds d I_Un_seedAnswer S_Un_seedAnswer := by
  refine holds_of (d' := d - 1) (rt := 1) (cal := [(I_Wo_size, S_Wo_size), (I_Un_seedBegin, S_Un_seedBegin)]) (C := C_Un_seedAnswer) m_Un_seedAnswer o_Un_seedAnswer rfl rfl (by omega) ?_ ?_
  · intro x hx
    simp only [List.mem_cons, List.not_mem_nil, or_false] at hx
    rcases hx with rfl | rfl
    · exact H_Wo_size (by omega)
    · exact H_Un_seedBegin (by omega)
  · intro as σ K has hσ hG
    have hG2 := hG
    unfold S_Un_seedAnswer at hG2
    split at hG2
    · next a1 a2 =>
      refine ⟨Nat.le_of_ble_eq_true rfl, (Iv_Un_seedAnswer a1 a2 σ), ?_, 1000, ?_⟩
      · intro k n z L σ' hk hL hs hP
        unfold Iv_Un_seedAnswer at hk
        split at hk
        · cases hk
          obtain ⟨v3, v4, rfl, hn, hQ⟩ := hP
          exact ⟨1000, l_Un_seedAnswer_4 a1 a2 σ K (has _ (List.mem_of_getElem? (i := 1) rfl)) (has _ (List.mem_of_getElem? (i := 2) rfl)) hσ hG v3 v4 σ' (hL _ (List.mem_of_getElem? (i := 3) rfl)) (hL _ (List.mem_of_getElem? (i := 4) rfl)) hs n hn hQ⟩
        · cases hk
      · exact e_Un_seedAnswer a1 a2 σ K (has _ (List.mem_of_getElem? (i := 1) rfl)) (has _ (List.mem_of_getElem? (i := 2) rfl)) hσ hG
    · exact hG2.elim
def S_Wr_seed : GS := fun as σ K => match as with
  | [some (.inr (.inr (11, 0))), some (.inl a1), some (.inl a2)] => (TwC σ ∧ SdC σ) ∧ ∀ σ' r, SQ σ σ' → SdV σ' → RSeed (cW σ) (σ 501 0 0) a1 a2 r → K (vI r) σ'
  | _ => False
def VE_Wr_seed (a1 : Int) (a2 : Int) (σ : SS) (K : AV → SS → Prop) : Prop :=
  (S_Un_countSeeds [vR 9 0] σ (kV fun σ1 =>
    ((a1 ≠ (-1) →
      ((a1 < 0 →
        (K (vI (-1)) σ1)) ∧
      ((0 : Int) ≤ a1 →
        ((a2 < 0 →
          (K (vI (-1)) σ1)) ∧
        ((0 : Int) ≤ a2 →
          ((a2 ≤ 1 →
            (S_Un_seedAnswer [vR 9 0, vI a1, vI a2] σ1 (kI fun r2 σ2 =>
              (K (vI r2) σ2)))) ∧
          ((1 : Int) < a2 →
            (K (vI (-1)) σ1)))))))) ∧
    (a1 = (-1) →
      ((a2 ≠ 0 →
        ((a1 < 0 →
          (K (vI (-1)) σ1)) ∧
        ((0 : Int) ≤ a1 →
          ((a2 < 0 →
            (K (vI (-1)) σ1)) ∧
          ((0 : Int) ≤ a2 →
            ((a2 ≤ 1 →
              (S_Un_seedAnswer [vR 9 0, vI a1, vI a2] σ1 (kI fun r3 σ3 =>
                (K (vI r3) σ3)))) ∧
            ((1 : Int) < a2 →
              (K (vI (-1)) σ1)))))))) ∧
      (a2 = 0 →
        (S_Un_seeds [vR 9 0] σ1 (kI fun r4 σ4 =>
          (K (vI r4) σ4)))))))))
theorem e_Wr_seed (a1 : Int) (a2 : Int) (σ : SS) (K : AV → SS → Prop) (ha1 : InR a1) (ha2 : InR a2) (hs : okS σ) (hG : S_Wr_seed [vR 11 0, vI a1, vI a2] σ K) : VE_Wr_seed a1 a2 σ K := by
  unfold VE_Wr_seed
  obtain ⟨⟨hT, hS⟩, hG⟩ := hG
  refine ⟨(by exact ⟨hT, hS⟩), (fun σ1 h1a h1b => ?_)⟩
  intro _
  obtain ⟨w1, w2⟩ := (h1a).w
  have hv := h1b
  have hT1 := (h1a).2
  have no : ¬ (a1 = -1 ∧ a2 = 0) → ¬ (0 ≤ a1 ∧ 0 ≤ a2 ∧ a2 ≤ 1) → K (vI (-1)) σ1 := fun z y => hG _ _ h1a h1b (Or.inr (Or.inr ⟨z, fun k => y ⟨k.1, k.2.2⟩, rfl⟩))
  refine ⟨fun c2 => ?_, fun c2 => ?_⟩
  · skip
    refine ⟨fun c3 => ?_, fun c3 => ?_⟩
    · skip
      first | exact no (by omega) (by omega) | exact hG _ _ (SQ.tr (by assumption) (TQ.S (by assumption))) (SdV_TQ hv (by assumption)) (by rw [← w1, ← w2]; assumption) | exact hG _ _ (by assumption) hv (Or.inl ⟨by omega, by omega, by rw [← w1, ← w2]; exact hv.2⟩)
    · skip
      refine ⟨fun c4 => ?_, fun c4 => ?_⟩
      · skip
        first | exact no (by omega) (by omega) | exact hG _ _ (SQ.tr (by assumption) (TQ.S (by assumption))) (SdV_TQ hv (by assumption)) (by rw [← w1, ← w2]; assumption) | exact hG _ _ (by assumption) hv (Or.inl ⟨by omega, by omega, by rw [← w1, ← w2]; exact hv.2⟩)
      · skip
        refine ⟨fun c5 => ?_, fun c5 => ?_⟩
        · skip
          refine ⟨(by exact ⟨hT1, hv, by omega, by omega, by omega⟩), (fun σ6 r6 h6a h6b => ?_)⟩
          intro _ _
          first | exact no (by omega) (by omega) | exact hG _ _ (SQ.tr (by assumption) (TQ.S (by assumption))) (SdV_TQ hv (by assumption)) (by rw [← w1, ← w2]; assumption) | exact hG _ _ (by assumption) hv (Or.inl ⟨by omega, by omega, by rw [← w1, ← w2]; exact hv.2⟩)
        · skip
          first | exact no (by omega) (by omega) | exact hG _ _ (SQ.tr (by assumption) (TQ.S (by assumption))) (SdV_TQ hv (by assumption)) (by rw [← w1, ← w2]; assumption) | exact hG _ _ (by assumption) hv (Or.inl ⟨by omega, by omega, by rw [← w1, ← w2]; exact hv.2⟩)
  · skip
    refine ⟨fun c3 => ?_, fun c3 => ?_⟩
    · skip
      refine ⟨fun c4 => ?_, fun c4 => ?_⟩
      · skip
        first | exact no (by omega) (by omega) | exact hG _ _ (SQ.tr (by assumption) (TQ.S (by assumption))) (SdV_TQ hv (by assumption)) (by rw [← w1, ← w2]; assumption) | exact hG _ _ (by assumption) hv (Or.inl ⟨by omega, by omega, by rw [← w1, ← w2]; exact hv.2⟩)
      · skip
        refine ⟨fun c5 => ?_, fun c5 => ?_⟩
        · skip
          first | exact no (by omega) (by omega) | exact hG _ _ (SQ.tr (by assumption) (TQ.S (by assumption))) (SdV_TQ hv (by assumption)) (by rw [← w1, ← w2]; assumption) | exact hG _ _ (by assumption) hv (Or.inl ⟨by omega, by omega, by rw [← w1, ← w2]; exact hv.2⟩)
        · skip
          refine ⟨fun c6 => ?_, fun c6 => ?_⟩
          · skip
            refine ⟨(by exact ⟨hT1, hv, by omega, by omega, by omega⟩), (fun σ7 r7 h7a h7b => ?_)⟩
            intro _ _
            first | exact no (by omega) (by omega) | exact hG _ _ (SQ.tr (by assumption) (TQ.S (by assumption))) (SdV_TQ hv (by assumption)) (by rw [← w1, ← w2]; assumption) | exact hG _ _ (by assumption) hv (Or.inl ⟨by omega, by omega, by rw [← w1, ← w2]; exact hv.2⟩)
          · skip
            first | exact no (by omega) (by omega) | exact hG _ _ (SQ.tr (by assumption) (TQ.S (by assumption))) (SdV_TQ hv (by assumption)) (by rw [← w1, ← w2]; assumption) | exact hG _ _ (by assumption) hv (Or.inl ⟨by omega, by omega, by rw [← w1, ← w2]; exact hv.2⟩)
    · skip
      intro _ _
      first | exact no (by omega) (by omega) | exact hG _ _ (SQ.tr (by assumption) (TQ.S (by assumption))) (SdV_TQ hv (by assumption)) (by rw [← w1, ← w2]; assumption) | exact hG _ _ (by assumption) hv (Or.inl ⟨by omega, by omega, by rw [← w1, ← w2]; exact hv.2⟩)
theorem H_Wr_seed {d : Nat} (hd : 7 ≤ d) : Holds d I_Wr_seed S_Wr_seed := by
  refine holds_of (d' := d - 1) (rt := 1) (cal := [(I_Un_countSeeds, S_Un_countSeeds), (I_Un_seeds, S_Un_seeds), (I_Un_seedAnswer, S_Un_seedAnswer)]) (C := C_Wr_seed) m_Wr_seed o_Wr_seed rfl rfl (by omega) ?_ ?_
  · intro x hx
    simp only [List.mem_cons, List.not_mem_nil, or_false] at hx
    rcases hx with rfl | rfl | rfl
    · exact H_Un_countSeeds (by omega)
    · exact H_Un_seeds (by omega)
    · exact H_Un_seedAnswer (by omega)
  · intro as σ K has hσ hG
    have hG2 := hG
    unfold S_Wr_seed at hG2
    split at hG2
    · next a1 a2 =>
      refine ⟨Nat.le_of_ble_eq_true rfl, (fun _ => none), ?_, 1000, ?_⟩
      · intro k n z L σ' hk hL hs hP
        cases hk
      · exact e_Wr_seed a1 a2 σ K (has _ (List.mem_of_getElem? (i := 1) rfl)) (has _ (List.mem_of_getElem? (i := 2) rfl)) hσ hG
    · exact hG2.elim
