/-! tell: the reference -/
def TlM : List (Nat × Nat) := [(596, 0), (40, 0), (582, 0), (587, 0), (590, 0)] ++ LmL
theorem vW_nW {q : PW} (h : vW q) : vW (nW q.1 q.2) := ⟨h.1, fun x x0 x1 => by
  rw [show (nW q.1 q.2).1 x = q.1 x from atW_in x0 x1]
  exact h.2 x x0 x1⟩
theorem tlm_post {σ0 σ σ1 : SS} {q : PW} (f : Fr TlM σ0 σ) (v : vW q) (h0 : σ 40 0 0 = q.2) (h2 : ∀ x, 0 ≤ x → x < q.2 → σ 40 0 (1 + x) = q.1 x) (e : σ1 = u3 σ 582 0 0 0) : RepM (u3 (u3 σ1 587 0 0 0) 590 0 0 0) ∧ Fr TlM σ0 (u3 (u3 σ1 587 0 0 0) 590 0 0 0) ∧ mPr (u3 (u3 σ1 587 0 0 0) 590 0 0 0) = nW q.1 q.2 ∧ u3 (u3 σ1 587 0 0 0) 590 0 0 0 582 0 0 = 0 ∧ u3 (u3 σ1 587 0 0 0) 590 0 0 0 596 0 0 = σ 596 0 0 := by
  generalize es : u3 (u3 σ1 587 0 0 0) 590 0 0 0 = σ2
  have fr : Fr TlM σ0 σ2 := Fr_trans f (by rw [← es, e]; exact Fr_trans (Fr_u3 (by simp [TlM])) (Fr_trans (Fr_u3 (by simp [TlM])) (Fr_u3 (by simp [TlM]))))
  have nw : σ2 40 0 = σ 40 0 := by rw [← es, u3_F (by decide), u3_F (by decide), e, u3_F (by decide)]
  have uu : σ2 582 0 0 = 0 := by rw [← es, u3_f (by decide), u3_f (by decide), e, u3_s]
  have tt : σ2 596 0 0 = σ 596 0 0 := by rw [← es, u3_f (by decide), u3_f (by decide), e, u3_f (by decide)]
  have ke : mPr σ2 = nW q.1 q.2 := by
    show nW (fun x => σ2 40 0 (1 + x)) (σ2 40 0 0) = _
    rw [nw, h0]
    exact nW_congr h2
  exact ⟨⟨⟨vW_M (by rw [ke]; exact vW_nW v), by omega, by omega⟩, fun k k0 k1 => by omega, fun z => absurd (by rw [← es, u3_s]) z, fun z => absurd (by rw [← es, u3_f (by decide), u3_s]) z⟩, fr, ke, uu, tt⟩
def S_Mo_tell : GS := fun as σ K => match as with
  | [some (.inr (.inr (12, 0)))] => (RepM σ ∧ 0 ≤ σ 596 0 0 ∧ σ 596 0 0 ≤ 300) ∧ ∀ σ' r, Fr TlM σ σ' → RepM σ' → σ' 596 0 0 = 0 → (∀ e, pAll (tpM σ) 301 [] 0 = .inl e → r = -2 - e ∧ mPr σ' = mPr σ ∧ σ' 582 0 0 = σ 582 0 0 ∧ mP σ' = mP σ) → (∀ q, pAll (tpM σ) 301 [] 0 = .inr q → r = q.1.2 ∧ mPr σ' = nW q.1.1 q.1.2 ∧ σ' 582 0 0 = 0) → K (vI r) σ'
  | _ => False
abbrev Lp_Mo_tell_21 (σ0 : SS) (n : Nat) (L : List AV) (σ : SS) : Prop := ∃ (v1 : Int) (v2 : Int), L = [vR 12 0, vI v1, vI v2] ∧ n = (1000 - v2).toNat ∧ ((Fr TlM σ0 σ ∧ σ 596 0 0 = 0) ∧ (0 ≤ v2) ∧ (∃ q, pAll (tpM σ0) 301 [] 0 = .inr q ∧ vW q.1 ∧ (σ 601 0 0 = q.1.2 ∧ v2 ≤ q.1.2) ∧ (∀ x, 0 ≤ x → x < q.1.2 → σ 50 0 x = q.1.1 x) ∧ σ 40 0 0 = q.1.2 ∧ ∀ x, 0 ≤ x → x < v2 → σ 40 0 (1 + x) = q.1.1 x))
def Iv_Mo_tell (σ0 : SS) (k : Nat) : Option (List Nat × (Nat → List AV → SS → Prop)) := match k with
  | 21 => some ([], Lp_Mo_tell_21 σ0)
  | _ => none
def VE_Mo_tell (σ : SS) (K : AV → SS → Prop) : Prop :=
  (S_Mo_readsAll [vR 12 0] σ (kI fun r1 σ1 =>
    (∀ σ2 : SS, σ2 = u3 σ1 596 0 0 0 →
    ((r1 ≠ 0 →
      ((0 ≤ (0 : Int) ∧ (0 : Int) < 121) ∧ ∀ σ3 : SS, σ3 = u3 σ2 40 0 0 (σ2 601 0 0) →
      (∃ n', Lp_Mo_tell_21 σ n' [vR 12 0, vI r1, vI 0] σ3))) ∧
    (r1 = 0 →
      (InR ((-2) - (σ2 598 0 0)) ∧
      (K (vI ((-2) - (σ2 598 0 0))) σ2)))))))
def VL_Mo_tell_21 (σ0 : SS) (K : AV → SS → Prop) (v1 : Int) (v2 : Int) (σ : SS) (n : Nat) : Prop :=
  (((σ 601 0 0) ≤ v2 →
    (∀ σ1 : SS, σ1 = u3 σ 582 0 0 0 →
    (S_Mo_becomesOther [vR 12 0] σ1 (kV fun σ2 =>
      (S_Mo_size [vR 12 0] σ2 (kI fun r3 σ3 =>
        (K (vI r3) σ3))))))) ∧
  (v2 < (σ 601 0 0) →
    (InR (1 + v2) ∧
    ((0 ≤ (v2 : Int) ∧ (v2 : Int) < 100000) ∧
    ((0 ≤ (1 + v2 : Int) ∧ (1 + v2 : Int) < 121) ∧ ∀ σ4 : SS, σ4 = u3 σ 40 0 (1 + v2) (σ 50 0 v2) →
    (InR (v2 + 1) ∧
    (∃ n', n' < n ∧ Lp_Mo_tell_21 σ0 n' [vR 12 0, vI v1, vI (v2 + 1)] σ4)))))))
theorem l_Mo_tell_21 (σ0 : SS) (K : AV → SS → Prop) (hs0 : okS σ0) (hG : S_Mo_tell [vR 12 0] σ0 K) (v1 : Int) (v2 : Int) (σ : SS) (hv1 : InR v1) (hv2 : InR v2) (hs : okS σ) (n : Nat) (hn : n = (1000 - v2).toNat) (hQ : (Fr TlM σ0 σ ∧ σ 596 0 0 = 0) ∧ (0 ≤ v2) ∧ (∃ q, pAll (tpM σ0) 301 [] 0 = .inr q ∧ vW q.1 ∧ (σ 601 0 0 = q.1.2 ∧ v2 ≤ q.1.2) ∧ (∀ x, 0 ≤ x → x < q.1.2 → σ 50 0 x = q.1.1 x) ∧ σ 40 0 0 = q.1.2 ∧ ∀ x, 0 ≤ x → x < v2 → σ 40 0 (1 + x) = q.1.1 x)) : VL_Mo_tell_21 σ0 K v1 v2 σ n := by
  unfold VL_Mo_tell_21
  obtain ⟨⟨hR, hb⟩, hG⟩ := hG
  obtain ⟨⟨q0, q1⟩, q2, q, q3, q4, ⟨q5, q6⟩, q7, q8, q9⟩ := hQ
  have ub := q4.1
  refine ⟨fun c1 => ?_, fun c1 => ?_⟩
  · skip
    refine fun σ2 e2 => ?_
    intro _
    intro _ _
    obtain ⟨t1, t2, t3, t4, t5⟩ := tlm_post q0 q4 q8 (fun x x0 x1 => q9 x x0 (by omega)) (by assumption)
    have t6 := congrArg Prod.snd t3
    exact Eq.mp (congrArg (fun r => K (vI r) _) t6.symm) (hG _ _ t2 t1 (t5.trans q1) (fun e z => by rw [q3] at z; cases z) (fun q' z => by rw [q3] at z; cases z; exact ⟨rfl, t3, t4⟩))
  · skip
    refine ⟨(by omega), ?_⟩
    refine ⟨(by omega), ?_⟩
    refine ⟨(by omega), fun σ2 e2 => ?_⟩
    refine ⟨(by omega), ?_⟩
    refine ⟨_, ?_, _, _, rfl, rfl, ?_⟩
    · omega
    · refine ⟨?_, ?_, ?_⟩
      · exact ⟨Fr_trans q0 (by rw [e2]; exact Fr_u3 (by simp [TlM])), by rw [e2, u3_f (by decide)]; exact q1⟩
      · first | rfl | assumption | omega
      · refine ⟨q, q3, q4, ⟨by rw [e2, u3_f (by decide)]; exact q5, by omega⟩, fun x x0 x1 => by rw [e2, u3_f (by decide)]; exact q7 x x0 x1, by rw [e2, u3_k (by omega)]; exact q8, fun x x0 x1 => ?_⟩
        rw [e2, u3_e]
        split
        · next c => rw [show x = v2 by omega]; exact q7 v2 (by omega) (by omega)
        · next c => exact q9 x x0 (by omega)
theorem e_Mo_tell (σ : SS) (K : AV → SS → Prop) (hs : okS σ) (hG : S_Mo_tell [vR 12 0] σ K) : VE_Mo_tell σ K := by
  unfold VE_Mo_tell
  obtain ⟨⟨hR, hb⟩, hG⟩ := hG
  refine ⟨(by exact hb), (fun σ1 r1 h1a => ?_)⟩
  intro _ _
  have al := h1a
  have fr := al.1
  have ok1 : okS σ1 := by assumption
  have wr2 := ok1 598 0 0
  refine fun σ2 e2 => ?_
  refine ⟨fun c3 => ?_, fun c3 => ?_⟩
  · skip
    obtain ⟨q, x1, x2, x3, x4⟩ : ∃ q, pAll (tpM σ) 301 [] 0 = .inr q ∧ vW q.1 ∧ σ1 601 0 0 = q.1.2 ∧ ∀ x, 0 ≤ x → x < q.1.2 → σ1 50 0 x = q.1.1 x := by
      cases hq : pAll (tpM σ) 301 [] 0 with
      | inl e => exact absurd (al.2.1 e hq).1 c3
      | inr q => exact ⟨q, rfl, (al.2.2 q hq).2⟩
    refine ⟨(by omega), fun σ4 e4 => ?_⟩
    refine ⟨_, _, _, rfl, rfl, ?_⟩
    refine ⟨?_, ?_, ?_⟩
    · exact ⟨Fr_trans (Fr_mono fr (fun q hq => List.mem_append_right _ hq)) (by rw [e4, e2]; exact Fr_trans (Fr_u3 (by simp [TlM])) (Fr_u3 (by simp [TlM]))), by rw [e4, u3_f (by decide), e2, u3_s]⟩
    · first | rfl | assumption | omega
    · exact ⟨q, x1, x2, ⟨by rw [e4, u3_f (by decide), e2, u3_f (by decide)]; exact x3, x2.1.1⟩, fun x x0 x1 => by rw [e4, u3_f (by decide), e2, u3_f (by decide)]; exact x4 x x0 x1, by rw [e4, u3_s, e2, u3_f (by decide)]; exact x3, fun x x0 x1 => by omega⟩
  · skip
    obtain ⟨ee, x1, x2, x3, x4⟩ : ∃ e, pAll (tpM σ) 301 [] 0 = .inl e ∧ σ1 598 0 0 = e ∧ 0 < e ∧ e % 8 ≤ 4 := by
      cases hq : pAll (tpM σ) 301 [] 0 with
      | inl e => exact ⟨e, rfl, (al.2.1 e hq).2⟩
      | inr q => have := (al.2.2 q hq).1; omega
    have wr : σ2 598 0 0 = ee := by rw [e2, u3_f (by decide)]; exact x2
    have f2 : Fr ((596, 0) :: LmL) σ σ2 := Fr_trans (Fr_mono fr (fun q hq => List.mem_cons_of_mem _ hq)) (by rw [e2]; exact Fr_u3 (by simp))
    have kn : σ2 40 0 = σ 40 0 := f2 _ _ (by simp [LmL])
    refine ⟨(by omega), ?_⟩
    exact hG _ _ (Fr_mono f2 (by simp [TlM, LmL])) (RepM_fr hR f2 (by simp [LmL])) (by rw [e2, u3_s]) (fun e' z => by
      have ee' : ee = e' := Sum.inl.inj (x1.symm.trans z)
      exact ⟨by rw [wr, ee'], by unfold mPr; rw [mW_now kn, kn], by rw [f2 582 0 (by simp [LmL])], by funext k; unfold mP; rw [f2 41 0 (by simp [LmL])]⟩) (fun q z => by rw [x1] at z; cases z)
theorem H_Mo_tell {d : Nat} (hd : 93 ≤ d) : Holds d I_Mo_tell S_Mo_tell := by
  refine holds_of (d' := d - 1) (rt := 1) (cal := [(I_Mo_readsAll, S_Mo_readsAll), (I_Mo_becomesOther, S_Mo_becomesOther), (I_Mo_size, S_Mo_size)]) (C := C_Mo_tell) m_Mo_tell o_Mo_tell rfl rfl (by omega) ?_ ?_
  · intro x hx
    simp only [List.mem_cons, List.not_mem_nil, or_false] at hx
    rcases hx with rfl | rfl | rfl
    · exact H_Mo_readsAll (by omega)
    · exact H_Mo_becomesOther (by omega)
    · exact H_Mo_size (by omega)
  · intro as σ K has hσ hG
    have hG2 := hG
    unfold S_Mo_tell at hG2
    split at hG2
    · skip
      refine ⟨Nat.le_of_ble_eq_true rfl, (Iv_Mo_tell σ), ?_, 1000, ?_⟩
      · intro k n z L σ' hk hL hs hP
        unfold Iv_Mo_tell at hk
        split at hk
        · cases hk
          obtain ⟨v1, v2, rfl, hn, hQ⟩ := hP
          exact ⟨1000, l_Mo_tell_21 σ K  hσ hG v1 v2 σ' (hL _ (List.mem_of_getElem? (i := 1) rfl)) (hL _ (List.mem_of_getElem? (i := 2) rfl)) hs n hn hQ⟩
        · cases hk
      · exact e_Mo_tell σ K  hσ hG
    · exact hG2.elim
