/-! TEXT: the reference's reader; names, the whole -/
def LmL : List (Nat × Nat) := [(597, 0), (598, 0), (599, 0), (50, 0), (601, 0), (602, 0), (608, 0), (609, 0), (51, 0), (53, 0), (54, 0), (607, 0)]
theorem rm_lm {σ σ' : SS} (f : Fr RmL σ σ') : Fr LmL σ σ' := Fr_mono f (by simp [RmL, LmL])
theorem tm_nm {σ σ' : SS} (f : Fr LmL σ σ') : tpM σ' = tpM σ ∧ σ' 596 0 0 = σ 596 0 0 := tm_fr f (by simp [LmL]) (by simp [LmL])
def lmO (σ σ' : SS) (R : PN) (r : Int) : Prop := Fr LmL σ σ' ∧ (∀ e, R = .inl e → r = 0 ∧ σ' 598 0 0 = e ∧ 0 < e ∧ e % 8 ≤ 4) ∧ (∀ q, R = .inr q → r = 1 ∧ (σ' 597 0 0 = q.2 ∧ σ 597 0 0 < q.2 ∧ q.2 ≤ σ 596 0 0) ∧ (σ' 601 0 0 = 0 ∧ σ' 602 0 0 = 0) ∧ RdM σ' q.1)
theorem lm_l {σ σ' : SS} {R : PN} {e : Int} (f : Fr LmL σ σ') (h : R = .inl e) (h1 : σ' 598 0 0 = e) (h2 : 0 < e ∧ e % 8 ≤ 4) : lmO σ σ' R 0 :=
  ⟨f, (fun e' z => by rw [h] at z; cases z; exact ⟨rfl, h1, h2⟩), (fun q z => by rw [h] at z; cases z)⟩
theorem lm_r {σ σ' : SS} {R : PN} {N' : List (Int × PW)} {c : Int} (f : Fr LmL σ σ') (h : R = .inr (N', c)) (h2 : σ' 597 0 0 = c ∧ σ 597 0 0 < c ∧ c ≤ σ 596 0 0) (h3 : σ' 601 0 0 = 0 ∧ σ' 602 0 0 = 0) (h4 : RdM σ' N') : lmO σ σ' R 1 :=
  ⟨f, (fun e' z => by rw [h] at z; cases z), (fun q z => by rw [h] at z; cases z; exact ⟨rfl, h2, h3, h4⟩)⟩
theorem stM_post {σ0 σ : SS} {N : List (Int × PW)} {u : PW} {c r : Int} (hN : RdM σ0 N) (hs : slI N c r) (hr : r < 4) (hc : okNm c) (hu : vW u) (n1 : σ 607 0 0 = max (σ0 607 0 0) (r + 1)) (n2 : ∀ k : Nat, σ 51 0 k = if (k : Int) = r then c else σ0 51 0 k) (n3 : ∀ k : Nat, σ 53 0 k = if (k : Int) = r then u.2 else σ0 53 0 k) (n4 : ∀ x, 0 ≤ x → x < u.2 → σ 54 0 (120 * r + x) = u.1 x) (n5 : ∀ y, ¬ (120 * r ≤ y ∧ y < 120 * r + 120) → σ 54 0 y = σ0 54 0 y) : RdM σ (setN N c (nW u.1 u.2)) := by
  obtain ⟨g1, g2⟩ := set_get hs (nW u.1 u.2)
  obtain ⟨⟨l1, l2⟩, h⟩ := hN
  refine ⟨⟨by omega, by rw [n1, l2, g2]⟩, fun k q hk => ?_⟩
  rw [g1] at hk
  by_cases d : (k : Int) = r
  · rw [if_pos d] at hk
    have e : (c, nW u.1 u.2) = q := Option.some.inj hk
    rw [← e]
    refine ⟨by rw [n2, if_pos d], by rw [n3, if_pos d]; rfl, hc, ⟨hu.1, fun x x0 x1 => ?_⟩, by rw [show (nW u.1 u.2).2 = u.2 from rfl]; exact (nW_congr (fun x x0 x1 => (atW_in x0 x1).symm)), fun x x0 x1 => ?_⟩
    · rw [show (nW u.1 u.2).1 x = u.1 x from atW_in x0 x1]
      exact hu.2 x x0 x1
    · rw [show (nW u.1 u.2).1 x = u.1 x from atW_in x0 x1, show 120 * (k : Int) + x = 120 * r + x by omega]
      exact n4 x x0 x1
  · rw [if_neg d] at hk
    obtain ⟨a1, a2, a3, a4, a5, a6⟩ := h k q hk
    refine ⟨by rw [n2, if_neg d]; exact a1, by rw [n3, if_neg d]; exact a2, a3, a4, a5, fun x x0 x1 => ?_⟩
    have b := a4.1
    rw [n5 _ (by omega)]
    exact a6 x x0 x1
/-- a name and its row are read, not yet kept -/
def ltI (σ0 σ : SS) (N : List (Int × PW)) (q : PW) (v1 v2 : Int) : Prop := (RdM σ0 N ∧ okNm v1 ∧ slI N v1 v2 ∧ 0 ≤ v2 ∧ v2 < 4) ∧ (pName (tpM σ0) N (σ0 597 0 0 + 3) = .inr (setN N v1 (nW q.1 q.2), σ 597 0 0) ∧ σ0 597 0 0 < σ 597 0 0 ∧ σ 597 0 0 ≤ σ0 596 0 0) ∧ vW q ∧ (σ 601 0 0 = q.2 ∧ ∀ x, 0 ≤ x → x < q.2 → σ 50 0 x = q.1 x) ∧ σ 602 0 0 = 0 ∧ σ 607 0 0 = max (σ0 607 0 0) (v2 + 1)
theorem lt_fr {σ0 σ σ' : SS} {N : List (Int × PW)} {q : PW} {v1 v2 : Int} (h : ltI σ0 σ N q v1 v2) (f : Fr [(51, 0), (53, 0), (54, 0)] σ σ') : ltI σ0 σ' N q v1 v2 := by
  unfold ltI
  rw [f 597 0 (by simp), f 601 0 (by simp), f 50 0 (by simp), f 602 0 (by simp), f 607 0 (by simp)]
  exact h
theorem ok_nm {T : Int → Int} {a : Int} (h : okName T a) : okNm (cd T a) := ⟨cd_3 (r := we T a) rfl ⟨scF_ge _ _, fun y y0 y1 => scF_all 301 a y y0 y1⟩ h.1.1 h.1.2, h.2⟩
def S_Mo_readsLet : GS := fun as σ K => match as with
  | [some (.inr (.inr (12, 0)))] => ∃ N, ((RmA σ ∧ σ 597 0 0 + 3 ≤ σ 596 0 0) ∧ (σ 601 0 0 = 0 ∧ σ 602 0 0 = 0) ∧ RdM σ N) ∧ ∀ σ' r, lmO σ σ' (pName (tpM σ) N (σ 597 0 0 + 3)) r → K (vI r) σ'
  | _ => False
abbrev Lp_Mo_readsLet_34 (σ0 : SS) (n : Nat) (L : List AV) (σ : SS) : Prop := ∃ (v1 : Int) (v2 : Int), L = [vR 12 0, vI v1, vI v2, none, none] ∧ n = ((3000 : Int)).toNat ∧ ((Fr [(597, 0), (608, 0), (609, 0)] σ0 σ) ∧ (v1 = cd (tpM σ0) (sk (tpM σ0) (σ0 597 0 0 + 3)) ∧ σ 609 0 0 = we (tpM σ0) (sk (tpM σ0) (σ0 597 0 0 + 3)) ∧ σ 609 0 0 ≤ σ0 596 0 0) ∧ (okName (tpM σ0) (sk (tpM σ0) (σ0 597 0 0 + 3))) ∧ (∃ N, RdM σ0 N ∧ ((v2 = -1 ∧ slI N v1 N.length ∧ N.length ≠ 4) ∨ (v2 ≠ -1 ∧ slI N v1 v2 ∧ 0 ≤ v2 ∧ v2 < N.length))))
abbrev Lp_Mo_readsLet_66 (σ0 : SS) (n : Nat) (L : List AV) (σ : SS) : Prop := ∃ (v1 : Int) (v2 : Int) (v3 : Int), L = [vR 12 0, vI v1, vI v2, vI v3, none] ∧ n = ((2500 : Int)).toNat ∧ ((Fr ((607, 0) :: RmL) σ0 σ) ∧ (v3 = 0) ∧ (∃ N q, ltI σ0 σ N q v1 v2))
abbrev Lp_Mo_readsLet_81 (σ0 : SS) (n : Nat) (L : List AV) (σ : SS) : Prop := ∃ (v1 : Int) (v2 : Int) (v3 : Int) (v4 : Int), L = [vR 12 0, vI v1, vI v2, vI v3, vI v4] ∧ n = (1000 - v4).toNat ∧ ((Fr LmL σ0 σ) ∧ (v3 = 0 ∧ 0 ≤ v4) ∧ (∃ N q, ltI σ0 σ N q v1 v2 ∧ v4 ≤ q.2 ∧ ((∀ k : Nat, σ 51 0 k = if (k : Int) = v2 then v1 else σ0 51 0 k) ∧ ∀ k : Nat, σ 53 0 k = if (k : Int) = v2 then q.2 else σ0 53 0 k) ∧ (∀ x, 0 ≤ x → x < v4 → σ 54 0 (120 * v2 + x) = q.1 x) ∧ ∀ y, ¬ (120 * v2 ≤ y ∧ y < 120 * v2 + 120) → σ 54 0 y = σ0 54 0 y))
def Iv_Mo_readsLet (σ0 : SS) (k : Nat) : Option (List Nat × (Nat → List AV → SS → Prop)) := match k with
  | 34 => some ([], Lp_Mo_readsLet_34 σ0)
  | 66 => some ([], Lp_Mo_readsLet_66 σ0)
  | 81 => some ([], Lp_Mo_readsLet_81 σ0)
  | _ => none
def VE_Mo_readsLet (σ : SS) (K : AV → SS → Prop) : Prop :=
  (InR ((σ 597 0 0) + 3) ∧
  (∀ σ1 : SS, σ1 = u3 σ 597 0 0 ((σ 597 0 0) + 3) →
  (S_Mo_isName [vR 12 0] σ1 (kI fun r2 σ2 =>
    ((r2 ≠ 0 →
      (S_Mo_nameAt [vR 12 0] σ2 (kI fun r3 σ3 =>
        ((r3 ≠ (-1) →
          (∃ n', Lp_Mo_readsLet_34 σ n' [vR 12 0, vI (σ2 608 0 0), vI r3, none, none] σ3)) ∧
        (r3 = (-1) →
          (((σ3 607 0 0) ≠ 4 →
            (∃ n', Lp_Mo_readsLet_34 σ n' [vR 12 0, vI (σ2 608 0 0), vI r3, none, none] σ3)) ∧
          ((σ3 607 0 0) = 4 →
            (S_Mo_fails [vR 12 0, vI 3, vI (σ3 597 0 0)] σ3 (kI fun r4 σ4 =>
              ((0 ≤ (r4 : Int) ∧ (r4 : Int) ≤ 1) ∧ K (vI r4) σ4)))))))))) ∧
    (r2 = 0 →
      (S_Mo_fails [vR 12 0, vI 1, vI (σ2 597 0 0)] σ2 (kI fun r5 σ5 =>
        ((0 ≤ (r5 : Int) ∧ (r5 : Int) ≤ 1) ∧ K (vI r5) σ5)))))))))
def VL_Mo_readsLet_34 (σ0 : SS) (K : AV → SS → Prop) (v1 : Int) (v2 : Int) (σ : SS) (n : Nat) : Prop :=
  (∀ σ1 : SS, σ1 = u3 σ 597 0 0 (σ 609 0 0) →
  (S_Mo_takesSign [vR 12 0, vI 61] σ1 (kI fun r2 σ2 =>
    ((r2 = 0 →
      ((0 ≤ (0 : Int) ∧ (0 : Int) ≤ 1) ∧ K (vI 0) σ2)) ∧
    (r2 ≠ 0 →
      (S_Mo_readsRowT [vR 12 0] σ2 (kI fun r3 σ3 =>
        ((r3 = 0 →
          ((0 ≤ (0 : Int) ∧ (0 : Int) ≤ 1) ∧ K (vI 0) σ3)) ∧
        (r3 ≠ 0 →
          (S_Mo_takesSign [vR 12 0, vI 59] σ3 (kI fun r4 σ4 =>
            ((r4 ≠ 0 →
              ((v2 ≠ (-1) →
                (∃ n', n' < n ∧ Lp_Mo_readsLet_66 σ0 n' [vR 12 0, vI v1, vI v2, vI (σ1 601 0 0), none] σ4)) ∧
              (v2 = (-1) →
                (InR ((σ4 607 0 0) + 1) ∧
                (∀ σ5 : SS, σ5 = u3 σ4 607 0 0 ((σ4 607 0 0) + 1) →
                (∃ n', n' < n ∧ Lp_Mo_readsLet_66 σ0 n' [vR 12 0, vI v1, vI (σ4 607 0 0), vI (σ1 601 0 0), none] σ5)))))) ∧
            (r4 = 0 →
              ((0 ≤ (0 : Int) ∧ (0 : Int) ≤ 1) ∧ K (vI 0) σ4))))))))))))))
def VL_Mo_readsLet_66 (σ0 : SS) (K : AV → SS → Prop) (v1 : Int) (v2 : Int) (v3 : Int) (σ : SS) (n : Nat) : Prop :=
  ((0 ≤ (v2 : Int) ∧ (v2 : Int) < 4) ∧ ∀ σ1 : SS, σ1 = u3 σ 51 0 v2 v1 →
  (InR ((σ1 601 0 0) - v3) ∧
  ((0 ≤ (v2 : Int) ∧ (v2 : Int) < 4) ∧ ∀ σ2 : SS, σ2 = u3 σ1 53 0 v2 ((σ1 601 0 0) - v3) →
  (∃ n', n' < n ∧ Lp_Mo_readsLet_81 σ0 n' [vR 12 0, vI v1, vI v2, vI v3, vI 0] σ2))))
def VL_Mo_readsLet_81 (σ0 : SS) (K : AV → SS → Prop) (v1 : Int) (v2 : Int) (v3 : Int) (v4 : Int) (σ : SS) (n : Nat) : Prop :=
  ((0 ≤ (v2 : Int) ∧ (v2 : Int) < 4) ∧
  (((σ 53 0 v2) ≤ v4 →
    (∀ σ1 : SS, σ1 = u3 σ 601 0 0 v3 →
    ((0 ≤ (1 : Int) ∧ (1 : Int) ≤ 1) ∧ K (vI 1) σ1))) ∧
  (v4 < (σ 53 0 v2) →
    (InR (120 * v2) ∧
    (InR ((120 * v2) + v4) ∧
    (InR (v3 + v4) ∧
    ((0 ≤ (v3 + v4 : Int) ∧ (v3 + v4 : Int) < 100000) ∧
    ((0 ≤ ((120 * v2) + v4 : Int) ∧ ((120 * v2) + v4 : Int) < 480) ∧ ∀ σ2 : SS, σ2 = u3 σ 54 0 ((120 * v2) + v4) (σ 50 0 (v3 + v4)) →
    (InR (v4 + 1) ∧
    (∃ n', n' < n ∧ Lp_Mo_readsLet_81 σ0 n' [vR 12 0, vI v1, vI v2, vI v3, vI (v4 + 1)] σ2))))))))))
theorem l_Mo_readsLet_34 (σ0 : SS) (K : AV → SS → Prop) (hs0 : okS σ0) (hG : S_Mo_readsLet [vR 12 0] σ0 K) (v1 : Int) (v2 : Int) (σ : SS) (hv1 : InR v1) (hv2 : InR v2) (hs : okS σ) (n : Nat) (hn : n = ((3000 : Int)).toNat) (hQ : (Fr [(597, 0), (608, 0), (609, 0)] σ0 σ) ∧ (v1 = cd (tpM σ0) (sk (tpM σ0) (σ0 597 0 0 + 3)) ∧ σ 609 0 0 = we (tpM σ0) (sk (tpM σ0) (σ0 597 0 0 + 3)) ∧ σ 609 0 0 ≤ σ0 596 0 0) ∧ (okName (tpM σ0) (sk (tpM σ0) (σ0 597 0 0 + 3))) ∧ (∃ N, RdM σ0 N ∧ ((v2 = -1 ∧ slI N v1 N.length ∧ N.length ≠ 4) ∨ (v2 ≠ -1 ∧ slI N v1 v2 ∧ 0 ≤ v2 ∧ v2 < N.length)))) : VL_Mo_readsLet_34 σ0 K v1 v2 σ n := by
  unfold VL_Mo_readsLet_34
  obtain ⟨N, ⟨⟨⟨hA, hT⟩, hL⟩, hB, hN⟩, hG⟩ := hG
  obtain ⟨q0, ⟨q1, q2, q3⟩, q4, N', hN', q5⟩ := hQ
  have eN := RdM_u hN hN'
  subst eN
  have m8 := hN.1
  have s3 : σ0 597 0 0 + 3 ≤ sk (tpM σ0) (σ0 597 0 0 + 3) := scF_ge _ _
  have s4 : sk (tpM σ0) (σ0 597 0 0 + 3) ≤ we (tpM σ0) (sk (tpM σ0) (σ0 597 0 0 + 3)) := scF_ge _ _
  have hl : lookN N (cd (tpM σ0) (sk (tpM σ0) (σ0 597 0 0 + 3))) ≠ none ∨ N.length ≠ 4 := by
    rw [← q1]
    rcases q5 with ⟨_, _, z⟩ | ⟨_, z, z2, z3⟩
    · exact Or.inr z
    · rcases z with ⟨y, _⟩ | ⟨_, q, _, _, y4, _⟩
      · omega
      · exact Or.inl (by rw [y4]; exact fun z => by cases z)
  refine fun σ1 e1 => ?_
  have f1 : Fr RmL σ0 σ1 := Fr_trans (Fr_mono q0 (by simp [RmL])) (by rw [e1]; exact Fr_u3 (by simp [RmL]))
  have k1 : σ1 597 0 0 = we (tpM σ0) (sk (tpM σ0) (σ0 597 0 0 + 3)) := by rw [e1, u3_s]; exact q2
  have k2 : σ1 601 0 0 = 0 := by rw [e1, u3_f (by decide), q0 601 0 (by simp)]; exact hB.1
  have k3 : σ1 602 0 0 = 0 := by rw [e1, u3_f (by decide), q0 602 0 (by simp)]; exact hB.2
  obtain ⟨t1, s1⟩ := tm_rd f1
  refine ⟨(by first | omega | exact tk_pre ro (by assumption) (by omega) (by omega) (by omega)), (fun σ2 r2 h2a h2b h2c => ?_)⟩
  intro _ _
  have fx := h2a
  have y1 := h2b
  have y2 := h2c
  refine ⟨fun c3 => ?_, fun c3 => ?_⟩
  · skip
    rw [t1, k1] at y1 y2
    have nx : tpM σ0 (sk (tpM σ0) (we (tpM σ0) (sk (tpM σ0) (σ0 597 0 0 + 3)))) ≠ 61 := fun z => by have := (y1 z).1; omega
    have p1 : we (tpM σ0) (sk (tpM σ0) (σ0 597 0 0 + 3)) ≤ sk (tpM σ0) (we (tpM σ0) (sk (tpM σ0) (σ0 597 0 0 + 3))) := scF_ge _ _
    exact ⟨by omega, hG _ _ (lm_l (rm_lm (Fr_trans f1 (Fr_mono fx (by simp [RmL])))) (pn_el q4 hl nx) (y2 nx).2 (by omega))⟩
  · skip
    rw [t1, k1] at y1 y2
    have yx : tpM σ0 (sk (tpM σ0) (we (tpM σ0) (sk (tpM σ0) (σ0 597 0 0 + 3)))) = 61 := Classical.byContradiction (fun z => by have := (y2 z).1; omega)
    obtain ⟨j1, j2, j3, j4⟩ := y1 yx
    have fB : Fr RmL σ0 σ2 := Fr_trans f1 (Fr_mono fx (by simp [RmL]))
    obtain ⟨tB, sB⟩ := tm_rd fB
    have tp2 : σ2 601 0 0 = 0 := by rw [fx 601 0 (by simp)]; exact k2
    have op2 : σ2 602 0 0 = 0 := by rw [fx 602 0 (by simp)]; exact k3
    have p0 : 0 ≤ sk (tpM σ0) (we (tpM σ0) (sk (tpM σ0) (σ0 597 0 0 + 3))) := by omega
    refine ⟨N, (by exact ⟨⟨⟨⟨by omega, by omega, by omega⟩, by omega⟩, by omega⟩, ⟨by omega, by rw [op2]; rfl⟩, RdM_fr hN fB⟩), (fun σ4 r4 h4a => ?_)⟩
    intro _ _
    have ro := h4a
    rw [tB, j2] at ro
    refine ⟨fun c5 => ?_, fun c5 => ?_⟩
    · skip
      rw [show r4 = 0 by assumption] at ro
      obtain ⟨ee, x1, x2⟩ := rmO_0 ro
      exact ⟨by omega, hG _ _ (lm_l (rm_lm (Fr_trans fB ro.1)) (pn_rl q4 hl yx x1) x2 ((ps_row 6 _ (by omega)).1 ee x1))⟩
    · skip
      obtain ⟨q, x1, ⟨x2, x2b⟩, x3, ⟨x4, x5, x6⟩, x7⟩ := rmO_n ro (by assumption)
      have fC := Fr_trans fB ro.1
      obtain ⟨tC, sC⟩ := tm_rd fC
      have p2 := (ps_row 6 _ (show 0 ≤ sk (tpM σ0) (we (tpM σ0) (sk (tpM σ0) (σ0 597 0 0 + 3))) + 1 by omega)).2 q x1
      have p3 : q.2 ≤ sk (tpM σ0) q.2 := scF_ge _ _
      refine ⟨(by first | omega | exact tk_pre ro (by assumption) (by omega) (by omega) (by omega)), (fun σ6 r6 h6a h6b h6c => ?_)⟩
      intro _ _
      have fx := h6a
      have y1 := h6b
      have y2 := h6c
      refine ⟨fun c7 => ?_, fun c7 => ?_⟩
      · skip
        rw [tC, x3] at y1 y2
        have yx2 : tpM σ0 (sk (tpM σ0) q.2) = 59 := Classical.byContradiction (fun z => by have := (y2 z).1; omega)
        obtain ⟨i1, i2, i3, i4⟩ := y1 yx2
        have fD : Fr RmL σ0 σ6 := Fr_trans fC (Fr_mono fx (by simp [RmL]))
        have uv : vW q.1 := ⟨⟨x7.1.1, x6⟩, fun x x0 x1 => (x7.2.2 x x0 x1).2⟩
        have tp6 : σ6 601 0 0 = q.1.2 := by
          have := x7.1.2
          rw [fx 601 0 (by simp)]
          omega
        have re6 : ∀ x, 0 ≤ x → x < q.1.2 → σ6 50 0 x = q.1.1 x := fun x x0 x1 => by
          have := (x7.2.2 x x0 x1).1
          rw [tp2, Int.zero_add] at this
          rw [fx 50 0 (by simp)]
          exact this
        have op6 : σ6 602 0 0 = 0 := by rw [fx 602 0 (by simp)]; omega
        have nm6 : σ6 607 0 0 = σ0 607 0 0 := congrFun (fD 607 0 (by simp [RmL])) 0
        have onm : okNm v1 := by rw [q1]; exact ok_nm q4
        have prr := pn_r q4 hl yx x1 yx2
        rw [← q1, ← i2] at prr
        refine ⟨fun c8 => ?_, fun c8 => ?_⟩
        · skip
          refine ⟨_, ?_, _, _, _, rfl, rfl, ?_⟩
          · omega
          · refine ⟨?_, ?_, ?_⟩
            · exact Fr_mono fD (by simp [RmL])
            · first | rfl | assumption | omega
            · rcases q5 with ⟨z, _⟩ | ⟨_, z, z2, z3⟩
              · omega
              · exact ⟨N, q.1, ⟨hN, onm, z, z2, by omega⟩, ⟨prr, by omega, by omega⟩, uv, ⟨tp6, re6⟩, op6, by omega⟩
        · skip
          refine ⟨(by omega), ?_⟩
          refine fun σ9 e9 => ?_
          refine ⟨_, ?_, _, _, _, rfl, rfl, ?_⟩
          · omega
          · refine ⟨?_, ?_, ?_⟩
            · exact Fr_trans (Fr_mono fD (by simp [RmL])) (by rw [e9]; exact Fr_u3 (by simp))
            · first | rfl | assumption | omega
            · rcases q5 with ⟨_, z, z2⟩ | ⟨z, _⟩
              · have en : σ6 607 0 0 = N.length := by omega
                refine ⟨N, q.1, ⟨hN, onm, by rw [en]; exact z, by omega, by omega⟩, ⟨?_, ?_⟩, uv, ⟨?_, ?_⟩, ?_, ?_⟩
                · rw [prr, e9, u3_f (by decide)]
                · rw [e9, u3_f (by decide)]; omega
                · rw [e9, u3_f (by decide)]; exact tp6
                · rw [e9, u3_F (by decide)]; exact re6
                · rw [e9, u3_f (by decide)]; exact op6
                · rw [e9, u3_s]; omega
              · omega
      · skip
        rw [tC, x3] at y1 y2
        have nx2 : tpM σ0 (sk (tpM σ0) q.2) ≠ 59 := fun z => by have := (y1 z).1; omega
        exact ⟨by omega, hG _ _ (lm_l (rm_lm (Fr_trans fC (Fr_mono fx (by simp [RmL])))) (pn_ql q4 hl yx x1 nx2) (y2 nx2).2 (by omega))⟩
theorem l_Mo_readsLet_66 (σ0 : SS) (K : AV → SS → Prop) (hs0 : okS σ0) (hG : S_Mo_readsLet [vR 12 0] σ0 K) (v1 : Int) (v2 : Int) (v3 : Int) (σ : SS) (hv1 : InR v1) (hv2 : InR v2) (hv3 : InR v3) (hs : okS σ) (n : Nat) (hn : n = ((2500 : Int)).toNat) (hQ : (Fr ((607, 0) :: RmL) σ0 σ) ∧ (v3 = 0) ∧ (∃ N q, ltI σ0 σ N q v1 v2)) : VL_Mo_readsLet_66 σ0 K v1 v2 v3 σ n := by
  unfold VL_Mo_readsLet_66
  obtain ⟨N, ⟨⟨⟨hA, hT⟩, hL⟩, hB, hN⟩, hG⟩ := hG
  obtain ⟨q0, rfl, N', q, q1⟩ := hQ
  refine ⟨(by have z1 := q1.1.2.2.2; have z2 := q1.2.2.1.1; have z3 := q1.2.2.2.1.1; first | omega | (rw [e1, u3_f (by decide)]; omega)), fun σ1 e1 => ?_⟩
  refine ⟨(by have z1 := q1.1.2.2.2; have z2 := q1.2.2.1.1; have z3 := q1.2.2.2.1.1; first | omega | (rw [e1, u3_f (by decide)]; omega)), ?_⟩
  refine ⟨(by have z1 := q1.1.2.2.2; have z2 := q1.2.2.1.1; have z3 := q1.2.2.2.1.1; first | omega | (rw [e1, u3_f (by decide)]; omega)), fun σ2 e2 => ?_⟩
  refine ⟨_, ?_, _, _, _, _, rfl, rfl, ?_⟩
  · omega
  · refine ⟨?_, ?_, ?_⟩
    · rw [e2, e1]; exact Fr_trans (Fr_mono q0 (by simp [RmL, LmL])) (Fr_trans (Fr_u3 (by simp [LmL])) (Fr_u3 (by simp [LmL])))
    · first | rfl | assumption | omega
    · have n1 : σ 51 0 = σ0 51 0 := q0 _ _ (by simp [RmL])
      have n2 : σ 53 0 = σ0 53 0 := q0 _ _ (by simp [RmL])
      have n3 : σ 54 0 = σ0 54 0 := q0 _ _ (by simp [RmL])
      have tt : σ1 601 0 0 - 0 = q.2 := by rw [e1, u3_f (by decide), q1.2.2.2.1.1]; omega
      have z2 := q1.2.2.1.1
      refine ⟨N', q, lt_fr q1 (by rw [e2, e1]; exact Fr_trans (Fr_u3 (by simp)) (Fr_u3 (by simp))), by omega, ⟨fun k => ?_, fun k => ?_⟩, fun x x0 x1 => by omega, fun y hy => ?_⟩
      · rw [e2, u3_f (by decide), e1, u3_e, n1]
      · rw [e2, u3_e, tt, e1, u3_f (by decide), n2]
      · rw [e2, u3_f (by decide), e1, u3_f (by decide), n3]
theorem l_Mo_readsLet_81 (σ0 : SS) (K : AV → SS → Prop) (hs0 : okS σ0) (hG : S_Mo_readsLet [vR 12 0] σ0 K) (v1 : Int) (v2 : Int) (v3 : Int) (v4 : Int) (σ : SS) (hv1 : InR v1) (hv2 : InR v2) (hv3 : InR v3) (hv4 : InR v4) (hs : okS σ) (n : Nat) (hn : n = (1000 - v4).toNat) (hQ : (Fr LmL σ0 σ) ∧ (v3 = 0 ∧ 0 ≤ v4) ∧ (∃ N q, ltI σ0 σ N q v1 v2 ∧ v4 ≤ q.2 ∧ ((∀ k : Nat, σ 51 0 k = if (k : Int) = v2 then v1 else σ0 51 0 k) ∧ ∀ k : Nat, σ 53 0 k = if (k : Int) = v2 then q.2 else σ0 53 0 k) ∧ (∀ x, 0 ≤ x → x < v4 → σ 54 0 (120 * v2 + x) = q.1 x) ∧ ∀ y, ¬ (120 * v2 ≤ y ∧ y < 120 * v2 + 120) → σ 54 0 y = σ0 54 0 y)) : VL_Mo_readsLet_81 σ0 K v1 v2 v3 v4 σ n := by
  unfold VL_Mo_readsLet_81
  obtain ⟨N, ⟨⟨⟨hA, hT⟩, hL⟩, hB, hN⟩, hG⟩ := hG
  obtain ⟨q0, ⟨rfl, q0b⟩, N', q, q1, q2, ⟨q3, q4⟩, q5, q6⟩ := hQ
  have z1 := q1.1.2.2.2
  have z2 := q1.2.2.1.1
  have sz : σ 53 0 v2 = q.2 := by
    have := q4 v2.toNat
    rwa [show ((v2.toNat : Nat) : Int) = v2 by omega, if_pos rfl] at this
  refine ⟨(by omega), ?_⟩
  refine ⟨fun c1 => ?_, fun c1 => ?_⟩
  · skip
    refine fun σ2 e2 => ?_
    obtain ⟨⟨w1, w2, w3, w4⟩, ⟨w5, w6, w7⟩, w8, ⟨w9, w10⟩, w11, w12⟩ := q1
    have eN := RdM_u hN w1
    subst eN
    exact ⟨by omega, hG _ _ (lm_r (Fr_trans q0 (by rw [e2]; exact Fr_u3 (by simp [LmL]))) w5 ⟨by rw [e2, u3_f (by decide)], w6, w7⟩ ⟨by rw [e2, u3_s], by rw [e2, u3_f (by decide)]; exact w11⟩ (stM_post w1 w3 (by omega) w2 w8 (by rw [e2, u3_f (by decide)]; exact w12) (fun k => by rw [e2, u3_f (by decide)]; exact q3 k) (fun k => by rw [e2, u3_f (by decide)]; exact q4 k) (fun x x0 x1 => by rw [e2, u3_f (by decide)]; exact q5 x x0 (by omega)) (fun y hy => by rw [e2, u3_f (by decide)]; exact q6 y hy)))⟩
  · skip
    refine ⟨(by omega), ?_⟩
    refine ⟨(by omega), ?_⟩
    refine ⟨(by omega), ?_⟩
    refine ⟨(by omega), ?_⟩
    refine ⟨(by omega), fun σ2 e2 => ?_⟩
    have rd : σ 50 0 (0 + v4) = q.1 v4 := by rw [Int.zero_add]; exact q1.2.2.2.1.2 v4 (by omega) (by omega)
    rw [rd] at e2
    have f3 : Fr [(54, 0)] σ σ2 := by rw [e2]; exact Fr_u3 (by simp)
    refine ⟨(by omega), ?_⟩
    refine ⟨_, ?_, _, _, _, _, rfl, rfl, ?_⟩
    · omega
    · refine ⟨?_, ?_, ?_⟩
      · exact Fr_trans q0 (Fr_mono f3 (by simp [LmL]))
      · first | rfl | assumption | omega
      · refine ⟨N', q, lt_fr q1 (Fr_mono f3 (by simp)), by omega, ⟨fun k => by rw [f3 51 0 (by simp)]; exact q3 k, fun k => by rw [f3 53 0 (by simp)]; exact q4 k⟩, fun x x0 x1 => ?_, fun y hy => ?_⟩
        · rw [e2, u3_e]
          by_cases c : x = v4
          · rw [if_pos (by omega), c]
          · rw [if_neg (by omega)]; exact q5 x x0 (by omega)
        · rw [e2, u3_k (by omega)]; exact q6 y hy
theorem e_Mo_readsLet (σ : SS) (K : AV → SS → Prop) (hs : okS σ) (hG : S_Mo_readsLet [vR 12 0] σ K) : VE_Mo_readsLet σ K := by
  unfold VE_Mo_readsLet
  obtain ⟨N, ⟨⟨⟨hA, hT⟩, hL⟩, hB, hN⟩, hG⟩ := hG
  have m8 := hN.1
  refine ⟨(by omega), ?_⟩
  refine fun σ1 e1 => ?_
  have k1 : σ1 597 0 0 = σ 597 0 0 + 3 := by rw [e1, u3_s]
  have f1 : Fr [(597, 0), (608, 0), (609, 0)] σ σ1 := by rw [e1]; exact Fr_u3 (by simp)
  obtain ⟨t1, s1⟩ := tm_fr f1 (by simp) (by simp)
  refine ⟨(by omega), (fun σ2 r2 h2a h2b h2c h2d h2e => ?_)⟩
  intro _ _
  have fa := Fr_trans f1 h2a
  have fb := h2b
  have fc := h2c
  have fd := h2d
  have fe := h2e
  rw [t1, k1] at fb fd fe
  have f2 : Fr RmL σ σ2 := Fr_mono fa (by simp [RmL])
  have nn : σ2 607 0 0 = σ 607 0 0 := congrFun (fa 607 0 (by simp)) 0
  have s3 : σ 597 0 0 + 3 ≤ sk (tpM σ) (σ 597 0 0 + 3) := scF_ge _ _
  refine ⟨fun c3 => ?_, fun c3 => ?_⟩
  · skip
    have ok : okName (tpM σ) (sk (tpM σ) (σ 597 0 0 + 3)) := Classical.byContradiction (fun z => by have := fe z; omega)
    obtain ⟨_, d1, d2, d3⟩ := fd ok
    refine ⟨N, (by exact RdM_fr hN f2), (fun r4 h4a => ?_)⟩
    intro _ _
    have hna := h4a
    refine ⟨fun c5 => ?_, fun c5 => ?_⟩
    · skip
      refine ⟨_, _, _, rfl, rfl, ?_⟩
      refine ⟨?_, ?_, ?_, ?_⟩
      · exact fa
      · exact ⟨d1, d2, by omega⟩
      · exact ok
      · have h3 := hna
        rw [d1] at h3
        rcases h3 with ⟨z1, z2⟩ | z
        · rw [d1]; exact ⟨N, hN, Or.inl ⟨z1, z2, by omega⟩⟩
        · rw [d1]; exact ⟨N, hN, Or.inr z⟩
    · skip
      refine ⟨fun c6 => ?_, fun c6 => ?_⟩
      · skip
        refine ⟨_, _, _, rfl, rfl, ?_⟩
        refine ⟨?_, ?_, ?_, ?_⟩
        · exact fa
        · exact ⟨d1, d2, by omega⟩
        · exact ok
        · have h3 := hna
          rw [d1] at h3
          rcases h3 with ⟨z1, z2⟩ | z
          · rw [d1]; exact ⟨N, hN, Or.inl ⟨z1, z2, by omega⟩⟩
          · rw [d1]; exact ⟨N, hN, Or.inr z⟩
      · skip
        refine ⟨(by omega), ?_⟩
        intro _ _
        have h3 := hna
        rw [d1] at h3
        rcases h3 with ⟨z1, z2⟩ | z
        · rcases z2 with ⟨_, z2, _⟩ | ⟨z2, _⟩
          · exact ⟨by omega, hG _ _ (lm_l (Fr_trans (rm_lm f2) (Fr_u3 (by simp [LmL]))) (pn_3 ok z2 (by omega)) (by rw [u3_s, fb]) (by omega))⟩
          · omega
        · omega
  · skip
    refine ⟨(by omega), ?_⟩
    intro _ _
    have no : ¬ okName (tpM σ) (sk (tpM σ) (σ 597 0 0 + 3)) := fun z => by have := (fd z).1; omega
    exact ⟨by omega, hG _ _ (lm_l (Fr_trans (rm_lm f2) (Fr_u3 (by simp [LmL]))) (pn_1 no) (by rw [u3_s, fb]) (by omega))⟩
theorem H_Mo_readsLet {d : Nat} (hd : 91 ≤ d) : Holds d I_Mo_readsLet S_Mo_readsLet := by
  refine holds_of (d' := d - 1) (rt := 2) (cal := [(I_Mo_isName, S_Mo_isName), (I_Mo_fails, S_Mo_fails), (I_Mo_nameAt, S_Mo_nameAt), (I_Mo_takesSign, S_Mo_takesSign), (I_Mo_readsRow, S_Mo_readsRowT)]) (C := C_Mo_readsLet) m_Mo_readsLet o_Mo_readsLet rfl rfl (by omega) ?_ ?_
  · intro x hx
    simp only [List.mem_cons, List.not_mem_nil, or_false] at hx
    rcases hx with rfl | rfl | rfl | rfl | rfl
    · exact H_Mo_isName (by omega)
    · exact H_Mo_fails (by omega)
    · exact H_Mo_nameAt (by omega)
    · exact H_Mo_takesSign (by omega)
    · exact H_Mo_readsRowT (by omega)
  · intro as σ K has hσ hG
    have hG2 := hG
    unfold S_Mo_readsLet at hG2
    split at hG2
    · skip
      refine ⟨Nat.le_of_ble_eq_true rfl, (Iv_Mo_readsLet σ), ?_, 1000, ?_⟩
      · intro k n z L σ' hk hL hs hP
        unfold Iv_Mo_readsLet at hk
        split at hk
        · cases hk
          obtain ⟨v1, v2, rfl, hn, hQ⟩ := hP
          exact ⟨1000, l_Mo_readsLet_34 σ K  hσ hG v1 v2 σ' (hL _ (List.mem_of_getElem? (i := 1) rfl)) (hL _ (List.mem_of_getElem? (i := 2) rfl)) hs n hn hQ⟩
        · cases hk
          obtain ⟨v1, v2, v3, rfl, hn, hQ⟩ := hP
          exact ⟨1000, l_Mo_readsLet_66 σ K  hσ hG v1 v2 v3 σ' (hL _ (List.mem_of_getElem? (i := 1) rfl)) (hL _ (List.mem_of_getElem? (i := 2) rfl)) (hL _ (List.mem_of_getElem? (i := 3) rfl)) hs n hn hQ⟩
        · cases hk
          obtain ⟨v1, v2, v3, v4, rfl, hn, hQ⟩ := hP
          exact ⟨1000, l_Mo_readsLet_81 σ K  hσ hG v1 v2 v3 v4 σ' (hL _ (List.mem_of_getElem? (i := 1) rfl)) (hL _ (List.mem_of_getElem? (i := 2) rfl)) (hL _ (List.mem_of_getElem? (i := 3) rfl)) (hL _ (List.mem_of_getElem? (i := 4) rfl)) hs n hn hQ⟩
        · cases hk
      · exact e_Mo_readsLet σ K  hσ hG
    · exact hG2.elim
theorem wl8 {T : Int → Int} {s : Int} (h : cd T s = 8903) : we T s = s + 3 := by
  rcases cd_len (T := T) (s := s) (by omega) with ⟨z1, z2, z3⟩ | ⟨z1, z2, z3⟩ | ⟨z1, z2, z3⟩ <;> omega
def alI (σ0 σ : SS) : Prop := Fr LmL σ0 σ ∧ (σ 601 0 0 = 0 ∧ σ 602 0 0 = 0) ∧ ∃ (N : List (Int × PW)) (v : Int), RdM σ N ∧ ((0 ≤ σ 597 0 0 ∧ σ 597 0 0 ≤ σ0 596 0 0) ∧ 0 ≤ v ∧ v ≤ σ 597 0 0) ∧ pAll (tpM σ0) 301 [] 0 = pAll (tpM σ0) (301 - v).toNat N (σ 597 0 0)
def alO (σ0 σ' : SS) (r : Int) : Prop := Fr LmL σ0 σ' ∧ (∀ e, pAll (tpM σ0) 301 [] 0 = .inl e → r = 0 ∧ σ' 598 0 0 = e ∧ 0 < e ∧ e % 8 ≤ 4) ∧ (∀ q, pAll (tpM σ0) 301 [] 0 = .inr q → r = 1 ∧ vW q.1 ∧ σ' 601 0 0 = q.1.2 ∧ ∀ x, 0 ≤ x → x < q.1.2 → σ' 50 0 x = q.1.1 x)
theorem alO_l {σ0 σ' : SS} {e : Int} (f : Fr LmL σ0 σ') (h : pAll (tpM σ0) 301 [] 0 = .inl e) (h1 : σ' 598 0 0 = e) (h2 : 0 < e ∧ e % 8 ≤ 4) : alO σ0 σ' 0 :=
  ⟨f, (fun e' z => by rw [h] at z; cases z; exact ⟨rfl, h1, h2⟩), (fun q z => by rw [h] at z; cases z)⟩
theorem alO_r {σ0 σ' : SS} {q : PW × Int} (f : Fr LmL σ0 σ') (h : pAll (tpM σ0) 301 [] 0 = .inr q) (h1 : vW q.1) (h2 : σ' 601 0 0 = q.1.2) (h3 : ∀ x, 0 ≤ x → x < q.1.2 → σ' 50 0 x = q.1.1 x) : alO σ0 σ' 1 :=
  ⟨f, (fun e' z => by rw [h] at z; cases z), (fun q' z => by rw [h] at z; cases z; exact ⟨rfl, h1, h2, h3⟩)⟩
theorem alI_0 {σ σ4 : SS} (f : Fr LmL σ σ4) (h0 : 0 ≤ σ 596 0 0) (h1 : σ4 597 0 0 = 0) (h2 : σ4 601 0 0 = 0) (h3 : σ4 602 0 0 = 0) (h4 : σ4 607 0 0 = 0) : alI σ σ4 :=
  ⟨f, ⟨h2, h3⟩, [], 0, ⟨⟨by show 0 ≤ 4; omega, by rw [h4]; rfl⟩, fun k q hk => by simp at hk⟩, ⟨⟨by omega, by omega⟩, by omega, by omega⟩, by rw [h1]; rfl⟩
def S_Mo_readsAll : GS := fun as σ K => match as with
  | [some (.inr (.inr (12, 0)))] => (0 ≤ σ 596 0 0 ∧ σ 596 0 0 ≤ 300) ∧ ∀ σ' r, alO σ σ' r → K (vI r) σ'
  | _ => False
abbrev Lp_Mo_readsAll_12 (σ0 : SS) (n : Nat) (L : List AV) (σ : SS) : Prop := L = [vR 12 0] ∧ n = (1000 - σ 597 0 0).toNat ∧ ((alI σ0 σ))
def Iv_Mo_readsAll (σ0 : SS) (k : Nat) : Option (List Nat × (Nat → List AV → SS → Prop)) := match k with
  | 12 => some ([], Lp_Mo_readsAll_12 σ0)
  | _ => none
def VE_Mo_readsAll (σ : SS) (K : AV → SS → Prop) : Prop :=
  (∀ σ1 : SS, σ1 = u3 σ 597 0 0 0 →
  (∀ σ2 : SS, σ2 = u3 σ1 601 0 0 0 →
  (∀ σ3 : SS, σ3 = u3 σ2 602 0 0 0 →
  (∀ σ4 : SS, σ4 = u3 σ3 607 0 0 0 →
  (∃ n', Lp_Mo_readsAll_12 σ n' [vR 12 0] σ4)))))
def VL_Mo_readsAll_12 (σ0 : SS) (K : AV → SS → Prop) (σ : SS) (n : Nat) : Prop :=
  (S_Mo_isWord [vR 12 0, vR 60 0] σ (kI fun r1 σ1 =>
    ((r1 = 0 →
      (S_Mo_readsRowT [vR 12 0] σ1 (kI fun r2 σ2 =>
        ((r2 = 0 →
          ((0 ≤ (0 : Int) ∧ (0 : Int) ≤ 1) ∧ K (vI 0) σ2)) ∧
        (r2 ≠ 0 →
          (S_Mo_nextByte [vR 12 0] σ2 (kI fun r3 σ3 =>
            ((r3 = (-1) →
              ((0 ≤ (1 : Int) ∧ (1 : Int) ≤ 1) ∧ K (vI 1) σ3)) ∧
            (r3 ≠ (-1) →
              (S_Mo_fails [vR 12 0, vI 1, vI (σ3 597 0 0)] σ3 (kI fun r4 σ4 =>
                ((r4 = 0 →
                  ((0 ≤ (0 : Int) ∧ (0 : Int) ≤ 1) ∧ K (vI 0) σ4)) ∧
                (r4 ≠ 0 →
                  ((0 ≤ (1 : Int) ∧ (1 : Int) ≤ 1) ∧ K (vI 1) σ4)))))))))))))) ∧
    (r1 ≠ 0 →
      (S_Mo_readsLet [vR 12 0] σ1 (kI fun r5 σ5 =>
        ((r5 ≠ 0 →
          (∃ n', n' < n ∧ Lp_Mo_readsAll_12 σ0 n' [vR 12 0] σ5)) ∧
        (r5 = 0 →
          ((0 ≤ (0 : Int) ∧ (0 : Int) ≤ 1) ∧ K (vI 0) σ5)))))))))
theorem l_Mo_readsAll_12 (σ0 : SS) (K : AV → SS → Prop) (hs0 : okS σ0) (hG : S_Mo_readsAll [vR 12 0] σ0 K) (σ : SS) (hs : okS σ) (n : Nat) (hn : n = (1000 - σ 597 0 0).toNat) (hQ : (alI σ0 σ)) : VL_Mo_readsAll_12 σ0 K σ n := by
  unfold VL_Mo_readsAll_12
  obtain ⟨h1, hG⟩ := hG
  obtain ⟨q0, ⟨q1, q2⟩, N, v, q3, ⟨⟨q4, q5⟩, q6, q7⟩, q8⟩ := hQ
  obtain ⟨t1, s1⟩ := tm_nm q0
  refine ⟨(by exact ⟨by omega, by decide⟩), (fun σ1 h1a h1b h1c => ?_)⟩
  rw [t1]
  have g1 := h1a
  have g2 := h1b
  have g3 := h1c
  rw [t1] at g2
  have fr1 : Fr LmL σ0 σ1 := Fr_trans q0 (Fr_mono g1 (by simp [LmL]))
  obtain ⟨t2, s2⟩ := tm_nm fr1
  have tp : σ1 601 0 0 = 0 := by rw [g1 601 0 (by simp)]; exact q1
  have op : σ1 602 0 0 = 0 := by rw [g1 602 0 (by simp)]; exact q2
  have hnN : RdM σ1 N := RdM_fr q3 (Fr_mono g1 (by simp [RmL]))
  have hv : v ≤ 300 := by omega
  refine bS_b0 (fun p2 _ => ?_) (fun p2 _ => ?_)
  · skip
    refine ⟨N, (by exact ⟨⟨⟨⟨by omega, by omega, by omega⟩, by omega⟩, by have := wl8 (show cd (tpM σ0) (sk (tpM σ0) (σ 597 0 0)) = 8903 from p2); have := we_le (σ := σ0) (a := sk (tpM σ0) (σ 597 0 0)) (by omega); omega⟩, ⟨tp, op⟩, hnN⟩), (fun σ3 r3 h3a => ?_)⟩
    intro _ _
    have ro := h3a
    rw [t2, g2, ← wl8 (show cd (tpM σ0) (sk (tpM σ0) (σ 597 0 0)) = 8903 from p2)] at ro
    have fr2 : Fr LmL σ0 σ3 := Fr_trans fr1 ro.1
    refine ⟨fun c4 => ?_, fun c4 => ?_⟩
    · skip
      have cc := c4
      cases hR : pName (tpM σ0) N (we (tpM σ0) (sk (tpM σ0) (σ 597 0 0))) with
      | inl e => exact absurd (ro.2.1 e hR).1 cc
      | inr q =>
        obtain ⟨w1, ⟨w2, w3, w4⟩, w5, w6⟩ := ro.2.2 q hR
        refine ⟨_, ?_, rfl, rfl, ?_⟩
        · omega
        · exact ⟨fr2, w5, q.1, v + 1, w6, ⟨⟨by omega, by omega⟩, by omega, by omega⟩, by rw [q8, al_r hv p2 hR, w2]⟩
    · skip
      cases hR : pName (tpM σ0) N (we (tpM σ0) (sk (tpM σ0) (σ 597 0 0))) with
      | inl e =>
        obtain ⟨w1, w2, w3⟩ := ro.2.1 e hR
        exact ⟨by omega, hG _ _ (alO_l fr2 (q8.trans (al_l hv p2 hR)) w2 w3)⟩
      | inr q =>
        have := (ro.2.2 q hR).1
        omega
  · skip
    refine ⟨N, (by exact ⟨⟨⟨⟨by omega, by omega, by omega⟩, by omega⟩, by omega⟩, ⟨by omega, by rw [op]; rfl⟩, hnN⟩), (fun σ3 r3 h3a => ?_)⟩
    intro _ _
    have ro := h3a
    rw [t2, g2] at ro
    have pe : pAll (tpM σ0) 301 [] 0 = pEnd (tpM σ0) N (σ 597 0 0) := by rw [q8]; exact al_no hv p2
    have fr2 : Fr LmL σ0 σ3 := Fr_trans fr1 (rm_lm ro.1)
    obtain ⟨t3, s3⟩ := tm_nm fr2
    refine ⟨fun c4 => ?_, fun c4 => ?_⟩
    · skip
      rw [show r3 = 0 by assumption] at ro
      obtain ⟨ee, x1, x2⟩ := rmO_0 ro
      exact ⟨by omega, hG _ _ (alO_l fr2 (pe.trans (en_l x1)) x2 ((ps_row 6 _ (by omega)).1 ee x1))⟩
    · skip
      obtain ⟨q, x1, ⟨x2, x2b⟩, x3, ⟨x4, x5, x6⟩, x7⟩ := rmO_n ro (by assumption)
      have p3 := (ps_row 6 _ (show 0 ≤ sk (tpM σ0) (σ 597 0 0) by omega)).2 q x1
      have p4 : q.2 ≤ sk (tpM σ0) q.2 := scF_ge _ _
      have uv : vW q.1 := ⟨⟨x7.1.1, x6⟩, fun x x0 x1 => (x7.2.2 x x0 x1).2⟩
      have tq := x7.1.2
      refine ⟨(by first | assumption | omega | exact ⟨by first | assumption | omega, by omega⟩ | exact ⟨by assumption, by omega, by omega⟩ | exact ⟨by assumption, by omega, by omega, by omega⟩ | exact ⟨by assumption, by omega, by omega, by omega, by omega⟩ | exact ⟨by assumption, by omega, by omega, by omega, by omega, by omega⟩), (fun σ5 h5a h5b h5c => ?_)⟩
      intro _ _
      have n1 := h5a
      have n2 := h5b
      have n3 := h5c
      rw [t3, x3] at n2 ⊢
      have fr3 : Fr LmL σ0 σ5 := Fr_trans fr2 (Fr_mono n1 (by simp [LmL]))
      refine ⟨fun c6 => ?_, fun c6 => ?_⟩
      · skip
        exact ⟨by omega, hG _ _ (alO_r fr3 (pe.trans (en_r x1 (by assumption))) uv (by rw [n1 601 0 (by simp)]; omega) (fun x x0 x1 => by
          have y := (x7.2.2 x x0 x1).1
          rw [tp, Int.zero_add] at y
          rw [n1 50 0 (by simp)]
          exact y))⟩
      · skip
        refine ⟨(by omega), ?_⟩
        intro _ _
        refine ⟨fun c7 => ?_, fun c7 => ?_⟩
        · skip
          exact ⟨by omega, hG _ _ (alO_l (Fr_trans fr3 (Fr_u3 (by simp [LmL]))) (pe.trans (en_x x1 (by assumption))) (by rw [u3_s, n2]) (by omega))⟩
        · skip
          exact absurd rfl (by assumption)
theorem e_Mo_readsAll (σ : SS) (K : AV → SS → Prop) (hs : okS σ) (hG : S_Mo_readsAll [vR 12 0] σ K) : VE_Mo_readsAll σ K := by
  unfold VE_Mo_readsAll
  obtain ⟨h1, hG⟩ := hG
  refine fun σ1 e1 => ?_
  refine fun σ2 e2 => ?_
  refine fun σ3 e3 => ?_
  refine fun σ4 e4 => ?_
  refine ⟨_, rfl, rfl, ?_⟩
  exact alI_0 (by rw [e4, e3, e2, e1]; exact Fr_trans (Fr_u3 (by simp [LmL])) (Fr_trans (Fr_u3 (by simp [LmL])) (Fr_trans (Fr_u3 (by simp [LmL])) (Fr_u3 (by simp [LmL]))))) h1.1 (by rw [e4, u3_f (by decide), e3, u3_f (by decide), e2, u3_f (by decide), e1, u3_s]) (by rw [e4, u3_f (by decide), e3, u3_f (by decide), e2, u3_s]) (by rw [e4, u3_f (by decide), e3, u3_s]) (by rw [e4, u3_s])
theorem H_Mo_readsAll {d : Nat} (hd : 92 ≤ d) : Holds d I_Mo_readsAll S_Mo_readsAll := by
  refine holds_of (d' := d - 1) (rt := 2) (cal := [(I_Mo_isWord, S_Mo_isWord), (I_Mo_readsLet, S_Mo_readsLet), (I_Mo_readsRow, S_Mo_readsRowT), (I_Mo_nextByte, S_Mo_nextByte), (I_Mo_fails, S_Mo_fails)]) (C := C_Mo_readsAll) m_Mo_readsAll o_Mo_readsAll rfl rfl (by omega) ?_ ?_
  · intro x hx
    simp only [List.mem_cons, List.not_mem_nil, or_false] at hx
    rcases hx with rfl | rfl | rfl | rfl | rfl
    · exact H_Mo_isWord (by omega)
    · exact H_Mo_readsLet (by omega)
    · exact H_Mo_readsRowT (by omega)
    · exact H_Mo_nextByte (by omega)
    · exact H_Mo_fails (by omega)
  · intro as σ K has hσ hG
    have hG2 := hG
    unfold S_Mo_readsAll at hG2
    split at hG2
    · skip
      refine ⟨Nat.le_of_ble_eq_true rfl, (Iv_Mo_readsAll σ), ?_, 1000, ?_⟩
      · intro k n z L σ' hk hL hs hP
        unfold Iv_Mo_readsAll at hk
        split at hk
        · cases hk
          obtain ⟨rfl, hn, hQ⟩ := hP
          exact ⟨1000, l_Mo_readsAll_12 σ K  hσ hG  σ'  hs n hn hQ⟩
        · cases hk
      · exact e_Mo_readsAll σ K  hσ hG
    · exact hG2.elim
