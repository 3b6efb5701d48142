/-! ACTS: the reference -/
def mrow (R : Int → Int) (b : Int) : (Int → Int) × Int := nW (fun x => R (b + (1 + x))) (R b)
def mPr (σ : SS) : (Int → Int) × Int := (mW σ, (σ 40 0 0))
def mP (σ : SS) (k : Int) : (Int → Int) × Int := mrow (σ 41 0) (121 * k)
theorem mrow_cp {R R' : Int → Int} {b b' : Int} (h : ∀ x, 0 ≤ x → x < 121 → R' (b' + x) = R (b + x)) (hn : R b ≤ 120) : mrow R' b' = mrow R b := by
  have e := h 0 (by omega) (by omega)
  rw [Int.add_zero, Int.add_zero] at e
  unfold mrow
  rw [e]
  exact nW_congr (fun x x0 x1 => h (1 + x) (by omega) (by omega))
theorem mPr_row {σ : SS} : mPr σ = mrow (σ 40 0) 0 := by
  show nW (fun x => σ 40 0 (1 + x)) (σ 40 0 0) = nW (fun x => σ 40 0 (0 + (1 + x))) (σ 40 0 0)
  exact nW_congr (fun x _ _ => by rw [Int.zero_add])
def vW (v : (Int → Int) × Int) : Prop := (0 ≤ v.2 ∧ v.2 ≤ 120) ∧ ∀ x, 0 ≤ x → x < v.2 → 0 ≤ v.1 x ∧ v.1 x < 26
theorem mW_in {σ : SS} {x : Int} (h0 : 0 ≤ x) (h1 : x < (σ 40 0 0)) : mW σ x = σ 40 0 (1 + x) := atW_in h0 h1
/-- the reference's state stands -/
def RepM (σ : SS) : Prop := (MoW σ ∧ 0 ≤ σ 582 0 0 ∧ σ 582 0 0 ≤ 10) ∧ (∀ k, 0 ≤ k → k < σ 582 0 0 → vW (mP σ k)) ∧ SmC σ ∧ MrC σ
def KaL : List (Nat × Nat) := [(41, 0), (582, 0), (587, 0), (590, 0)]
def NaL : List (Nat × Nat) := [(40, 0), (55, 0)]
def AmL : List (Nat × Nat) := [(41, 0), (582, 0), (587, 0), (590, 0), (40, 0), (55, 0)]
def ActM (σ σ' : SS) (o : Option ((Int → Int) × Int)) : Prop := RepM σ' ∧ Fr AmL σ σ' ∧ (o = none → mPr σ' = mPr σ ∧ σ' 582 0 0 = σ 582 0 0 ∧ mP σ' = mP σ) ∧ (∀ v, o = some v → mPr σ' = v ∧ pushR (σ 582 0 0) (σ' 582 0 0) (mP σ) (mP σ') (mPr σ))
theorem ActM_n {σ : SS} (h : RepM σ) : ActM σ σ none := ⟨h, Fr_refl, fun _ => ⟨rfl, rfl, rfl⟩, fun v z => by cases z⟩
/-- the word of before is put behind the past; the word itself may be another one -/
def KA (σ σ' : SS) : Prop := Fr AmL σ σ' ∧ (σ' 587 0 0 = 0 ∧ σ' 590 0 0 = 0) ∧ pushR (σ 582 0 0) (σ' 582 0 0) (mP σ) (mP σ') (mPr σ)
theorem KA_st {σ σ1 σ2 : SS} (h : KA σ σ1) (f : Fr NaL σ1 σ2) : KA σ σ2 := by
  obtain ⟨h1, h2, h3⟩ := h
  have e : mP σ2 = mP σ1 := by
    funext k
    unfold mP
    rw [f 41 0 (by simp [NaL])]
  unfold KA
  rw [e, f 587 0 (by simp [NaL]), f 590 0 (by simp [NaL]), f 582 0 (by simp [NaL])]
  exact ⟨Fr_trans h1 (Fr_mono f (by simp [NaL, AmL])), h2, h3⟩
theorem KA_act {σ σ' : SS} {f : Int → Int} {m : Int} (hR : RepM σ) (h : KA σ σ') (hm : 0 ≤ m ∧ m ≤ 120) (e0 : σ' 40 0 0 = m) (e1 : ∀ x, 0 ≤ x → x < m → σ' 40 0 (1 + x) = f x) (hf : ∀ x, 0 ≤ x → x < m → 0 ≤ f x ∧ f x < 26) : ActM σ σ' (some (nW f m)) := by
  obtain ⟨⟨r1, r2⟩, r3, r4, r5⟩ := hR
  obtain ⟨h1, ⟨h2, h3⟩, h4⟩ := h
  have w : MoW σ' := by
    refine ⟨by rw [e0]; exact hm, fun x x0 x1 => ?_⟩
    rw [mW_in x0 x1]
    rw [e0] at x1
    rw [e1 x x0 x1]
    exact hf x x0 x1
  have p := h4.1
  refine ⟨⟨⟨w, by omega, by omega⟩, fun k k0 k1 => ?_, fun z => absurd h3 z, fun z => absurd h2 z⟩, h1, (fun z => by cases z), fun v z => ?_⟩
  · rw [h4.2 k k0 k1]
    split
    · exact r1
    · next c => exact r3 _ (by omega) (by omega)
  · cases z
    refine ⟨?_, h4⟩
    show nW (fun x => σ' 40 0 (1 + x)) (σ' 40 0 0) = nW f m
    rw [e0]
    exact nW_congr e1
def S_Mo_becomesOther : GS := fun as σ K => match as with
  | [some (.inr (.inr (12, 0)))] => K none (u3 (u3 σ 587 0 0 0) 590 0 0 0)
  | _ => False
def VE_Mo_becomesOther (σ : SS) (K : AV → SS → Prop) : Prop :=
  ((0 ≤ (0 : Int) ∧ (0 : Int) ≤ 1) ∧ (∀ σ1 : SS, σ1 = u3 σ 587 0 0 0 →
  ((0 ≤ (0 : Int) ∧ (0 : Int) ≤ 1) ∧ (∀ σ2 : SS, σ2 = u3 σ1 590 0 0 0 →
  (K none σ2)))))
theorem e_Mo_becomesOther (σ : SS) (K : AV → SS → Prop) (hs : okS σ) (hG : S_Mo_becomesOther [vR 12 0] σ K) : VE_Mo_becomesOther σ K := by
  unfold VE_Mo_becomesOther
  refine ⟨(by omega), fun σ1 e1 => ?_⟩
  refine ⟨(by omega), fun σ2 e2 => ?_⟩
  rw [e2, e1]
  exact hG
theorem H_Mo_becomesOther {d : Nat} (hd : 1 ≤ d) : Holds d I_Mo_becomesOther S_Mo_becomesOther := by
  refine holds_of (d' := d - 1) (rt := 0) (cal := []) (C := C_Mo_becomesOther) m_Mo_becomesOther o_Mo_becomesOther rfl rfl (by omega) ?_ ?_
  · intro x hx
    cases hx
  · intro as σ K has hσ hG
    have hG2 := hG
    unfold S_Mo_becomesOther at hG2
    split at hG2
    · skip
      refine ⟨Nat.le_of_ble_eq_true rfl, (fun _ => none), ?_, 1000, ?_⟩
      · intro k n z L σ' hk hL hs hP
        cases hk
      · exact e_Mo_becomesOther σ K  hσ hG
    · exact hG2.elim
theorem ka_post {σ0 σ σ1 : SS} {u : Int} (hR : RepM σ0) (f : Fr [(41, 0), (582, 0)] σ0 σ) (hu : σ 582 0 0 = u) (hu2 : u = min (σ0 582 0 0) 9) (h1 : ∀ y, 0 ≤ y → y < 121 * u → σ 41 0 y = σ0 41 0 (y + 121 * (σ0 582 0 0 - u))) (h2 : ∀ x, 0 ≤ x → x < 121 → σ 41 0 (121 * u + x) = σ0 40 0 x) (e1 : σ1 = u3 σ 582 0 0 (σ 582 0 0 + 1)) : KA σ0 (u3 (u3 σ1 587 0 0 0) 590 0 0 0) ∧ u3 (u3 σ1 587 0 0 0) 590 0 0 0 40 0 = σ0 40 0 ∧ Fr KaL σ0 (u3 (u3 σ1 587 0 0 0) 590 0 0 0) := by
  obtain ⟨⟨r1, r2⟩, r3, r4, r5⟩ := hR
  have hb := r1.n
  generalize es : u3 (u3 σ1 587 0 0 0) 590 0 0 0 = σ2
  have ww : σ2 41 0 = σ 41 0 := by rw [← es, u3_F (by decide), u3_F (by decide), e1, u3_F (by decide)]
  have uu : σ2 582 0 0 = u + 1 := by rw [← es, u3_f (by decide), u3_f (by decide), e1, u3_s, hu]
  have fr : Fr KaL σ0 σ2 := Fr_trans (Fr_mono f (by simp [KaL])) (by rw [← es, e1]; exact Fr_trans (Fr_u3 (by simp [KaL])) (Fr_trans (Fr_u3 (by simp [KaL])) (Fr_u3 (by simp [KaL]))))
  refine ⟨⟨Fr_mono fr (by simp [KaL, AmL]), ⟨by rw [← es, u3_f (by decide), u3_s], by rw [← es, u3_s]⟩, by rw [uu]; omega, fun k k0 k1 => ?_⟩, fr _ _ (by simp [KaL]), fr⟩
  rw [uu] at k1 ⊢
  unfold mP
  rw [ww]
  split
  · next c =>
    rw [mPr_row]
    refine mrow_cp (fun x x0 x1 => ?_) hb.2
    rw [show 121 * k + x = 121 * u + x by omega, h2 x x0 x1, Int.zero_add]
  · next c =>
    have v := r3 (k + (σ0 582 0 0 + 1 - (u + 1))) (by omega) (by omega)
    refine mrow_cp (fun x x0 x1 => ?_) v.1.2
    rw [h1 _ (by omega) (by omega)]
    exact congrArg _ (by omega)
def S_Mo_keepsAct : GS := fun as σ K => match as with
  | [some (.inr (.inr (12, 0)))] => RepM σ ∧ ∀ σ', KA σ σ' → σ' 40 0 = σ 40 0 → Fr KaL σ σ' → K none σ'
  | _ => False
abbrev Lp_Mo_keepsAct_6 (σ0 : SS) (n : Nat) (L : List AV) (σ : SS) : Prop := ∃ (v1 : Int), L = [vR 12 0, vI v1] ∧ n = (10000 - v1).toNat ∧ ((Fr [(41, 0)] σ0 σ) ∧ (σ0 582 0 0 = 10 ∧ 121 ≤ v1 ∧ v1 ≤ 1210) ∧ (∀ y, 0 ≤ y → y < v1 - 121 → σ 41 0 y = σ0 41 0 (y + 121)) ∧ (∀ y, v1 - 121 ≤ y → σ 41 0 y = σ0 41 0 y))
abbrev Lp_Mo_keepsAct_29 (σ0 : SS) (n : Nat) (L : List AV) (σ : SS) : Prop := ∃ (v1 : Int), L = [vR 12 0, vI v1] ∧ n = (1000 - v1).toNat ∧ ((Fr [(41, 0), (582, 0)] σ0 σ) ∧ (σ 582 0 0 = min (σ0 582 0 0) 9) ∧ (0 ≤ v1 ∧ v1 ≤ 121) ∧ (∀ y, 0 ≤ y → y < 121 * min (σ0 582 0 0) 9 → σ 41 0 y = σ0 41 0 (y + 121 * (σ0 582 0 0 - min (σ0 582 0 0) 9))) ∧ (∀ x, 0 ≤ x → x < v1 → σ 41 0 (121 * min (σ0 582 0 0) 9 + x) = σ0 40 0 x))
def Iv_Mo_keepsAct (σ0 : SS) (k : Nat) : Option (List Nat × (Nat → List AV → SS → Prop)) := match k with
  | 6 => some ([], Lp_Mo_keepsAct_6 σ0)
  | 29 => some ([], Lp_Mo_keepsAct_29 σ0)
  | _ => none
def VE_Mo_keepsAct (σ : SS) (K : AV → SS → Prop) : Prop :=
  (((σ 582 0 0) ≠ 10 →
    (∃ n', Lp_Mo_keepsAct_29 σ n' [vR 12 0, vI 0] σ)) ∧
  ((σ 582 0 0) = 10 →
    (∃ n', Lp_Mo_keepsAct_6 σ n' [vR 12 0, vI 121] σ)))
def VL_Mo_keepsAct_6 (σ0 : SS) (K : AV → SS → Prop) (v1 : Int) (σ : SS) (n : Nat) : Prop :=
  (((1210 : Int) ≤ v1 →
    (InR ((σ 582 0 0) - 1) ∧
    (∀ σ1 : SS, σ1 = u3 σ 582 0 0 ((σ 582 0 0) - 1) →
    (∃ n', n' < n ∧ Lp_Mo_keepsAct_29 σ0 n' [vR 12 0, vI 0] σ1)))) ∧
  (v1 < 1210 →
    (InR (v1 - 121) ∧
    ((0 ≤ (v1 : Int) ∧ (v1 : Int) < 1210) ∧
    ((0 ≤ (v1 - 121 : Int) ∧ (v1 - 121 : Int) < 1210) ∧ ∀ σ2 : SS, σ2 = u3 σ 41 0 (v1 - 121) (σ 41 0 v1) →
    (InR (v1 + 1) ∧
    (∃ n', n' < n ∧ Lp_Mo_keepsAct_6 σ0 n' [vR 12 0, vI (v1 + 1)] σ2)))))))
def VL_Mo_keepsAct_29 (σ0 : SS) (K : AV → SS → Prop) (v1 : Int) (σ : SS) (n : Nat) : Prop :=
  (((121 : Int) ≤ v1 →
    (InR ((σ 582 0 0) + 1) ∧
    (∀ σ1 : SS, σ1 = u3 σ 582 0 0 ((σ 582 0 0) + 1) →
    (S_Mo_becomesOther [vR 12 0] σ1 (kV fun σ2 =>
      (K none σ2)))))) ∧
  (v1 < 121 →
    (InR (121 * (σ 582 0 0)) ∧
    (InR ((121 * (σ 582 0 0)) + v1) ∧
    ((0 ≤ (v1 : Int) ∧ (v1 : Int) < 121) ∧
    ((0 ≤ ((121 * (σ 582 0 0)) + v1 : Int) ∧ ((121 * (σ 582 0 0)) + v1 : Int) < 1210) ∧ ∀ σ3 : SS, σ3 = u3 σ 41 0 ((121 * (σ 582 0 0)) + v1) (σ 40 0 v1) →
    (InR (v1 + 1) ∧
    (∃ n', n' < n ∧ Lp_Mo_keepsAct_29 σ0 n' [vR 12 0, vI (v1 + 1)] σ3))))))))
theorem l_Mo_keepsAct_6 (σ0 : SS) (K : AV → SS → Prop) (hs0 : okS σ0) (hG : S_Mo_keepsAct [vR 12 0] σ0 K) (v1 : Int) (σ : SS) (hv1 : InR v1) (hs : okS σ) (n : Nat) (hn : n = (10000 - v1).toNat) (hQ : (Fr [(41, 0)] σ0 σ) ∧ (σ0 582 0 0 = 10 ∧ 121 ≤ v1 ∧ v1 ≤ 1210) ∧ (∀ y, 0 ≤ y → y < v1 - 121 → σ 41 0 y = σ0 41 0 (y + 121)) ∧ (∀ y, v1 - 121 ≤ y → σ 41 0 y = σ0 41 0 y)) : VL_Mo_keepsAct_6 σ0 K v1 σ n := by
  unfold VL_Mo_keepsAct_6
  obtain ⟨hR, hG⟩ := hG
  obtain ⟨q0, q1, q2, q3⟩ := hQ
  have eu : σ 582 0 0 = 10 := by rw [q0 582 0 (by simp)]; exact q1.1
  refine ⟨fun c1 => ?_, fun c1 => ?_⟩
  · skip
    refine ⟨(by omega), ?_⟩
    refine fun σ2 e2 => ?_
    refine ⟨_, ?_, _, rfl, rfl, ?_⟩
    · omega
    · refine ⟨?_, ?_, ?_, ?_, ?_⟩
      · rw [e2]; exact Fr_trans (Fr_mono q0 (by simp)) (Fr_u3 (by simp))
      · rw [e2, u3_s, eu]; omega
      · first | rfl | assumption | omega
      · intro y y0 y1
        rw [e2, u3_f (by decide), q2 y y0 (by omega), q1.1]
        exact congrArg _ (by omega)
      · exact fun x x0 x1 => by omega
  · skip
    refine ⟨(by omega), ?_⟩
    refine ⟨(by omega), ?_⟩
    refine ⟨(by omega), fun σ2 e2 => ?_⟩
    refine ⟨(by omega), ?_⟩
    refine ⟨_, ?_, _, rfl, rfl, ?_⟩
    · omega
    · refine ⟨?_, ?_, ?_, ?_⟩
      · rw [e2]; exact Fr_trans q0 (Fr_u3 (by simp))
      · first | rfl | assumption | omega
      · intro y y0 y1
        rw [e2, u3_e]
        split
        · next c => rw [q3 v1 (by omega)]; exact congrArg _ (by omega)
        · next c => exact q2 y y0 (by omega)
      · intro y y0
        rw [e2, u3_k (by omega)]
        exact q3 y (by omega)
theorem l_Mo_keepsAct_29 (σ0 : SS) (K : AV → SS → Prop) (hs0 : okS σ0) (hG : S_Mo_keepsAct [vR 12 0] σ0 K) (v1 : Int) (σ : SS) (hv1 : InR v1) (hs : okS σ) (n : Nat) (hn : n = (1000 - v1).toNat) (hQ : (Fr [(41, 0), (582, 0)] σ0 σ) ∧ (σ 582 0 0 = min (σ0 582 0 0) 9) ∧ (0 ≤ v1 ∧ v1 ≤ 121) ∧ (∀ y, 0 ≤ y → y < 121 * min (σ0 582 0 0) 9 → σ 41 0 y = σ0 41 0 (y + 121 * (σ0 582 0 0 - min (σ0 582 0 0) 9))) ∧ (∀ x, 0 ≤ x → x < v1 → σ 41 0 (121 * min (σ0 582 0 0) 9 + x) = σ0 40 0 x)) : VL_Mo_keepsAct_29 σ0 K v1 σ n := by
  unfold VL_Mo_keepsAct_29
  obtain ⟨hR, hG⟩ := hG
  have hu := hR.1.2
  obtain ⟨q0, q1, q2, q3, q4⟩ := hQ
  generalize eu : min (σ0 582 0 0) 9 = u at *
  refine ⟨fun c1 => ?_, fun c1 => ?_⟩
  · skip
    refine ⟨(by omega), ?_⟩
    refine fun σ2 e2 => ?_
    intro _
    obtain ⟨k1, k2, k3⟩ := ka_post hR q0 q1 eu.symm q3 (fun x x0 x1 => q4 x x0 (by omega)) (by assumption)
    exact hG _ k1 k2 k3
  · skip
    refine ⟨(by omega), ?_⟩
    refine ⟨(by omega), ?_⟩
    refine ⟨(by omega), ?_⟩
    refine ⟨(by omega), fun σ2 e2 => ?_⟩
    refine ⟨(by omega), ?_⟩
    refine ⟨_, ?_, _, rfl, rfl, ?_⟩
    · omega
    · refine ⟨?_, ?_, ?_, ?_, ?_⟩
      · rw [e2]; exact Fr_trans q0 (Fr_u3 (by simp))
      · rw [e2, u3_f (by decide), q1, eu]
      · first | rfl | assumption | omega
      · rw [eu]
        intro y y0 y1
        rw [e2, u3_k (by rw [q1]; omega)]
        exact q3 y y0 y1
      · rw [eu]
        intro x x0 x1
        rw [e2, q1, u3_e]
        split
        · next c => rw [q0 40 0 (by simp)]; exact congrArg _ (by omega)
        · next c => exact q4 x x0 (by omega)
theorem e_Mo_keepsAct (σ : SS) (K : AV → SS → Prop) (hs : okS σ) (hG : S_Mo_keepsAct [vR 12 0] σ K) : VE_Mo_keepsAct σ K := by
  unfold VE_Mo_keepsAct
  obtain ⟨hR, hG⟩ := hG
  have hu := hR.1.2
  refine ⟨fun c1 => ?_, fun c1 => ?_⟩
  · skip
    refine ⟨_, _, rfl, rfl, ?_⟩
    refine ⟨?_, ?_, ?_, ?_, ?_⟩
    · exact Fr_refl
    · first | rfl | assumption | omega
    · first | rfl | assumption | omega
    · exact fun y y0 y1 => congrArg _ (by omega)
    · exact fun x x0 x1 => by omega
  · skip
    refine ⟨_, _, rfl, rfl, ?_⟩
    refine ⟨?_, ?_, ?_, ?_⟩
    · exact Fr_refl
    · first | rfl | assumption | omega
    · exact fun y y0 y1 => by omega
    · exact fun y y0 => rfl
theorem H_Mo_keepsAct {d : Nat} (hd : 2 ≤ d) : Holds d I_Mo_keepsAct S_Mo_keepsAct := by
  refine holds_of (d' := d - 1) (rt := 0) (cal := [(I_Mo_becomesOther, S_Mo_becomesOther)]) (C := C_Mo_keepsAct) m_Mo_keepsAct o_Mo_keepsAct rfl rfl (by omega) ?_ ?_
  · intro x hx
    simp only [List.mem_cons, List.not_mem_nil, or_false] at hx
    subst hx
    exact H_Mo_becomesOther (by omega)
  · intro as σ K has hσ hG
    have hG2 := hG
    unfold S_Mo_keepsAct at hG2
    split at hG2
    · skip
      refine ⟨Nat.le_of_ble_eq_true rfl, (Iv_Mo_keepsAct σ), ?_, 1000, ?_⟩
      · intro k n z L σ' hk hL hs hP
        unfold Iv_Mo_keepsAct at hk
        split at hk
        · cases hk
          obtain ⟨v1, rfl, hn, hQ⟩ := hP
          exact ⟨1000, l_Mo_keepsAct_6 σ K  hσ hG v1 σ' (hL _ (List.mem_of_getElem? (i := 1) rfl)) hs n hn hQ⟩
        · cases hk
          obtain ⟨v1, rfl, hn, hQ⟩ := hP
          exact ⟨1000, l_Mo_keepsAct_29 σ K  hσ hG v1 σ' (hL _ (List.mem_of_getElem? (i := 1) rfl)) hs n hn hQ⟩
        · cases hk
      · exact e_Mo_keepsAct σ K  hσ hG
    · exact hG2.elim
def S_Mo_putsAside : GS := fun as σ K => match as with
  | [some (.inr (.inr (12, 0)))] => ∀ σ', Fr [(55, 0)] σ σ' → (∀ x, 0 ≤ x → x < 121 → σ' 55 0 x = σ 40 0 x) → K none σ'
  | _ => False
abbrev Lp_Mo_putsAside_2 (σ0 : SS) (n : Nat) (L : List AV) (σ : SS) : Prop := ∃ (v1 : Int), L = [vR 12 0, vI v1] ∧ n = (1000 - v1).toNat ∧ ((Fr [(55, 0)] σ0 σ) ∧ (0 ≤ v1 ∧ v1 ≤ 121) ∧ (∀ x, 0 ≤ x → x < v1 → σ 55 0 x = σ0 40 0 x))
def Iv_Mo_putsAside (σ0 : SS) (k : Nat) : Option (List Nat × (Nat → List AV → SS → Prop)) := match k with
  | 2 => some ([], Lp_Mo_putsAside_2 σ0)
  | _ => none
def VE_Mo_putsAside (σ : SS) (K : AV → SS → Prop) : Prop :=
  (∃ n', Lp_Mo_putsAside_2 σ n' [vR 12 0, vI 0] σ)
def VL_Mo_putsAside_2 (σ0 : SS) (K : AV → SS → Prop) (v1 : Int) (σ : SS) (n : Nat) : Prop :=
  (((121 : Int) ≤ v1 →
    (K none σ)) ∧
  (v1 < 121 →
    ((0 ≤ (v1 : Int) ∧ (v1 : Int) < 121) ∧
    ((0 ≤ (v1 : Int) ∧ (v1 : Int) < 121) ∧ ∀ σ1 : SS, σ1 = u3 σ 55 0 v1 (σ 40 0 v1) →
    (InR (v1 + 1) ∧
    (∃ n', n' < n ∧ Lp_Mo_putsAside_2 σ0 n' [vR 12 0, vI (v1 + 1)] σ1))))))
theorem l_Mo_putsAside_2 (σ0 : SS) (K : AV → SS → Prop) (hs0 : okS σ0) (hG : S_Mo_putsAside [vR 12 0] σ0 K) (v1 : Int) (σ : SS) (hv1 : InR v1) (hs : okS σ) (n : Nat) (hn : n = (1000 - v1).toNat) (hQ : (Fr [(55, 0)] σ0 σ) ∧ (0 ≤ v1 ∧ v1 ≤ 121) ∧ (∀ x, 0 ≤ x → x < v1 → σ 55 0 x = σ0 40 0 x)) : VL_Mo_putsAside_2 σ0 K v1 σ n := by
  unfold VL_Mo_putsAside_2
  obtain ⟨q0, q1, q2⟩ := hQ
  refine ⟨fun c1 => ?_, fun c1 => ?_⟩
  · skip
    exact hG _ q0 (fun x x0 x1 => q2 x x0 (by omega))
  · skip
    refine ⟨(by omega), ?_⟩
    refine ⟨(by omega), fun σ2 e2 => ?_⟩
    refine ⟨(by omega), ?_⟩
    refine ⟨_, ?_, _, rfl, rfl, ?_⟩
    · omega
    · refine ⟨?_, ?_, ?_⟩
      · rw [e2]; exact Fr_trans q0 (Fr_u3 (by simp))
      · first | rfl | assumption | omega
      · intro x x0 x1
        rw [e2, u3_e]
        split
        · next c => rw [c, q0 40 0 (by simp)]
        · next c => exact q2 x x0 (by omega)
theorem e_Mo_putsAside (σ : SS) (K : AV → SS → Prop) (hs : okS σ) (hG : S_Mo_putsAside [vR 12 0] σ K) : VE_Mo_putsAside σ K := by
  unfold VE_Mo_putsAside
  refine ⟨_, _, rfl, rfl, ?_⟩
  refine ⟨?_, ?_, ?_⟩
  · exact Fr_refl
  · first | rfl | assumption | omega
  · exact fun x x0 x1 => by omega
theorem H_Mo_putsAside {d : Nat} (hd : 1 ≤ d) : Holds d I_Mo_putsAside S_Mo_putsAside := by
  refine holds_of (d' := d - 1) (rt := 0) (cal := []) (C := C_Mo_putsAside) m_Mo_putsAside o_Mo_putsAside rfl rfl (by omega) ?_ ?_
  · intro x hx
    cases hx
  · intro as σ K has hσ hG
    have hG2 := hG
    unfold S_Mo_putsAside at hG2
    split at hG2
    · skip
      refine ⟨Nat.le_of_ble_eq_true rfl, (Iv_Mo_putsAside σ), ?_, 1000, ?_⟩
      · intro k n z L σ' hk hL hs hP
        unfold Iv_Mo_putsAside at hk
        split at hk
        · cases hk
          obtain ⟨v1, rfl, hn, hQ⟩ := hP
          exact ⟨1000, l_Mo_putsAside_2 σ K  hσ hG v1 σ' (hL _ (List.mem_of_getElem? (i := 1) rfl)) hs n hn hQ⟩
        · cases hk
      · exact e_Mo_putsAside σ K  hσ hG
    · exact hG2.elim
def S_Mo_others : GS := fun as σ K => match as with
  | [some (.inr (.inr (12, 0)))] => MoW σ ∧ K (vI (cntZ (fun x => mW σ x ≠ σ 55 0 (1 + x)) 0 (σ 40 0 0))) σ
  | _ => False
abbrev Lp_Mo_others_4 (σ0 : SS) (n : Nat) (L : List AV) (σ : SS) : Prop := ∃ (v1 : Int) (v2 : Int), L = [vR 12 0, vI v1, vI v2] ∧ n = (1000 - v2).toNat ∧ ((σ = σ0) ∧ (0 ≤ v2 ∧ v2 ≤ (σ0 40 0 0)) ∧ (v1 = cntZ (fun x => mW σ0 x ≠ σ0 55 0 (1 + x)) 0 v2))
def Iv_Mo_others (σ0 : SS) (k : Nat) : Option (List Nat × (Nat → List AV → SS → Prop)) := match k with
  | 4 => some ([], Lp_Mo_others_4 σ0)
  | _ => none
def VE_Mo_others (σ : SS) (K : AV → SS → Prop) : Prop :=
  (∃ n', Lp_Mo_others_4 σ n' [vR 12 0, vI 0, vI 0] σ)
def VL_Mo_others_4 (σ0 : SS) (K : AV → SS → Prop) (v1 : Int) (v2 : Int) (σ : SS) (n : Nat) : Prop :=
  (S_Mo_size [vR 12 0] σ (kI fun r1 σ1 =>
    ((r1 ≤ v2 →
      (K (vI v1) σ1)) ∧
    (v2 < r1 →
      (S_Mo_at [vR 12 0, vI v2] σ1 (kI fun r2 σ2 =>
        (InR (1 + v2) ∧
        ((0 ≤ (1 + v2 : Int) ∧ (1 + v2 : Int) < 121) ∧
        ((r2 = (σ2 55 0 (1 + v2)) →
          (InR (v1 + 0) ∧
          (InR (v2 + 1) ∧
          (∃ n', n' < n ∧ Lp_Mo_others_4 σ0 n' [vR 12 0, vI (v1 + 0), vI (v2 + 1)] σ2)))) ∧
        (r2 ≠ (σ2 55 0 (1 + v2)) →
          (InR (v1 + 1) ∧
          (InR (v2 + 1) ∧
          (∃ n', n' < n ∧ Lp_Mo_others_4 σ0 n' [vR 12 0, vI (v1 + 1), vI (v2 + 1)] σ2)))))))))))))
theorem l_Mo_others_4 (σ0 : SS) (K : AV → SS → Prop) (hs0 : okS σ0) (hG : S_Mo_others [vR 12 0] σ0 K) (v1 : Int) (v2 : Int) (σ : SS) (hv1 : InR v1) (hv2 : InR v2) (hs : okS σ) (n : Nat) (hn : n = (1000 - v2).toNat) (hQ : (σ = σ0) ∧ (0 ≤ v2 ∧ v2 ≤ (σ0 40 0 0)) ∧ (v1 = cntZ (fun x => mW σ0 x ≠ σ0 55 0 (1 + x)) 0 v2)) : VL_Mo_others_4 σ0 K v1 v2 σ n := by
  unfold VL_Mo_others_4
  obtain ⟨hM, hG⟩ := hG
  obtain ⟨rfl, q1, q2⟩ := hQ
  have hb := hM.n
  have cb := cntZ_in (P := fun x => mW σ x ≠ σ 55 0 (1 + x)) (a := 0) (b := v2)
  intro _ _
  refine ⟨fun c1 => ?_, fun c1 => ?_⟩
  · skip
    rw [q2, show v2 = (σ 40 0 0) by omega]; exact hG
  · skip
    refine ⟨(by first | assumption | omega | exact ⟨by first | assumption | omega, by omega⟩ | exact ⟨by assumption, by omega, by omega⟩ | exact ⟨by assumption, by omega, by omega, by omega⟩ | exact ⟨by assumption, by omega, by omega, by omega, by omega⟩ | exact ⟨by assumption, by omega, by omega, by omega, by omega, by omega⟩), ?_⟩
    intro _ _
    refine ⟨(by omega), ?_⟩
    refine ⟨(by omega), ?_⟩
    refine ⟨fun c2 => ?_, fun c2 => ?_⟩
    · skip
      refine ⟨(by omega), ?_⟩
      refine ⟨(by omega), ?_⟩
      refine ⟨_, ?_, _, _, rfl, rfl, ?_⟩
      · omega
      · refine ⟨?_, ?_, ?_⟩
        · first | rfl | assumption | omega
        · first | rfl | assumption | omega
        · rw [cntZ_no q1.1 (fun z => z (by assumption)), ← q2]; omega
    · skip
      refine ⟨(by omega), ?_⟩
      refine ⟨(by omega), ?_⟩
      refine ⟨_, ?_, _, _, rfl, rfl, ?_⟩
      · omega
      · refine ⟨?_, ?_, ?_⟩
        · first | rfl | assumption | omega
        · first | rfl | assumption | omega
        · rw [cntZ_yes q1.1 (by assumption), ← q2]
theorem e_Mo_others (σ : SS) (K : AV → SS → Prop) (hs : okS σ) (hG : S_Mo_others [vR 12 0] σ K) : VE_Mo_others σ K := by
  unfold VE_Mo_others
  obtain ⟨hM, hG⟩ := hG
  have hb := hM.n
  refine ⟨_, _, _, rfl, rfl, ?_⟩
  refine ⟨?_, ?_, ?_⟩
  · first | rfl | assumption | omega
  · first | rfl | assumption | omega
  · exact (cntZ_nil (by omega)).symm
theorem H_Mo_others {d : Nat} (hd : 2 ≤ d) : Holds d I_Mo_others S_Mo_others := by
  refine holds_of (d' := d - 1) (rt := 1) (cal := [(I_Mo_size, S_Mo_size), (I_Mo_at, S_Mo_at)]) (C := C_Mo_others) m_Mo_others o_Mo_others rfl rfl (by omega) ?_ ?_
  · intro x hx
    simp only [List.mem_cons, List.not_mem_nil, or_false] at hx
    rcases hx with rfl | rfl
    · exact H_Mo_size (by omega)
    · exact H_Mo_at (by omega)
  · intro as σ K has hσ hG
    have hG2 := hG
    unfold S_Mo_others at hG2
    split at hG2
    · skip
      refine ⟨Nat.le_of_ble_eq_true rfl, (Iv_Mo_others σ), ?_, 1000, ?_⟩
      · intro k n z L σ' hk hL hs hP
        unfold Iv_Mo_others at hk
        split at hk
        · cases hk
          obtain ⟨v1, v2, rfl, hn, hQ⟩ := hP
          exact ⟨1000, l_Mo_others_4 σ K  hσ hG v1 v2 σ' (hL _ (List.mem_of_getElem? (i := 1) rfl)) (hL _ (List.mem_of_getElem? (i := 2) rfl)) hs n hn hQ⟩
        · cases hk
      · exact e_Mo_others σ K  hσ hG
    · exact hG2.elim
noncomputable def aToM (σ : SS) : AR := aTo (mW σ) (σ 40 0 0) (fun x => σ 55 0 (1 + x))
theorem aTo_c {w f f' : Int → Int} {n : Int} (h : ∀ x, 0 ≤ x → x < n → f x = f' x) : aTo w n f = aTo w n f' := by
  unfold aTo
  rw [nW_congr h, cntZ_congr (P := fun x => w x ≠ f x) (Q := fun x => w x ≠ f' x) (fun x x0 x1 => by rw [h x x0 x1])]
def S_Mo_becomesAside : GS := fun as σ K => match as with
  | [some (.inr (.inr (12, 0)))] => (RepM σ ∧ σ 55 0 0 = (σ 40 0 0) ∧ ∀ x, 0 ≤ x → x < (σ 40 0 0) → 0 ≤ σ 55 0 (1 + x) ∧ σ 55 0 (1 + x) < 26) ∧ ∀ σ' r o, aToM σ = (r, o) → ActM σ σ' o → K (vI r) σ'
  | _ => False
abbrev Lp_Mo_becomesAside_11 (σ0 : SS) (n : Nat) (L : List AV) (σ : SS) : Prop := ∃ (v1 : Int) (v2 : Int), L = [vR 12 0, vI v1, vI v2] ∧ n = (1000 - v2).toNat ∧ ((KA σ0 σ) ∧ (0 ≤ v2 ∧ v2 ≤ 121) ∧ (σ 55 0 = σ0 55 0) ∧ (∀ x, 0 ≤ x → x < v2 → σ 40 0 x = σ0 55 0 x) ∧ (v1 = cntZ (fun x => mW σ0 x ≠ σ0 55 0 (1 + x)) 0 (σ0 40 0 0) ∧ v1 ≠ 0))
def Iv_Mo_becomesAside (σ0 : SS) (k : Nat) : Option (List Nat × (Nat → List AV → SS → Prop)) := match k with
  | 11 => some ([], Lp_Mo_becomesAside_11 σ0)
  | _ => none
def VE_Mo_becomesAside (σ : SS) (K : AV → SS → Prop) : Prop :=
  (S_Mo_others [vR 12 0] σ (kI fun r1 σ1 =>
    ((r1 ≠ 0 →
      (S_Mo_keepsAct [vR 12 0] σ1 (kV fun σ2 =>
        (∃ n', Lp_Mo_becomesAside_11 σ n' [vR 12 0, vI r1, vI 0] σ2)))) ∧
    (r1 = 0 →
      (K (vI (-2)) σ1)))))
def VL_Mo_becomesAside_11 (σ0 : SS) (K : AV → SS → Prop) (v1 : Int) (v2 : Int) (σ : SS) (n : Nat) : Prop :=
  (((121 : Int) ≤ v2 →
    (K (vI v1) σ)) ∧
  (v2 < 121 →
    ((0 ≤ (v2 : Int) ∧ (v2 : Int) < 121) ∧
    ((0 ≤ (v2 : Int) ∧ (v2 : Int) < 121) ∧ ∀ σ1 : SS, σ1 = u3 σ 40 0 v2 (σ 55 0 v2) →
    (InR (v2 + 1) ∧
    (∃ n', n' < n ∧ Lp_Mo_becomesAside_11 σ0 n' [vR 12 0, vI v1, vI (v2 + 1)] σ1))))))
theorem l_Mo_becomesAside_11 (σ0 : SS) (K : AV → SS → Prop) (hs0 : okS σ0) (hG : S_Mo_becomesAside [vR 12 0] σ0 K) (v1 : Int) (v2 : Int) (σ : SS) (hv1 : InR v1) (hv2 : InR v2) (hs : okS σ) (n : Nat) (hn : n = (1000 - v2).toNat) (hQ : (KA σ0 σ) ∧ (0 ≤ v2 ∧ v2 ≤ 121) ∧ (σ 55 0 = σ0 55 0) ∧ (∀ x, 0 ≤ x → x < v2 → σ 40 0 x = σ0 55 0 x) ∧ (v1 = cntZ (fun x => mW σ0 x ≠ σ0 55 0 (1 + x)) 0 (σ0 40 0 0) ∧ v1 ≠ 0)) : VL_Mo_becomesAside_11 σ0 K v1 v2 σ n := by
  unfold VL_Mo_becomesAside_11
  obtain ⟨⟨hR, h1, h2⟩, hG⟩ := hG
  obtain ⟨q0, q1, q2, q3, q4⟩ := hQ
  have hb := hR.1.1.n
  refine ⟨fun c1 => ?_, fun c1 => ?_⟩
  · skip
    refine hG _ _ _ ?_ (KA_act (f := fun x => σ0 55 0 (1 + x)) hR q0 hb (by rw [q3 0 (by omega) (by omega)]; exact h1) (fun x x0 x1 => q3 _ (by omega) (by omega)) h2)
    unfold aToM aTo
    rw [if_neg (by rw [← q4.1]; exact q4.2), ← q4.1]
  · skip
    refine ⟨(by omega), ?_⟩
    refine ⟨(by omega), fun σ2 e2 => ?_⟩
    refine ⟨(by omega), ?_⟩
    refine ⟨_, ?_, _, _, rfl, rfl, ?_⟩
    · omega
    · refine ⟨?_, ?_, ?_, ?_, ?_⟩
      · rw [e2]; exact KA_st q0 (Fr_u3 (by simp [NaL]))
      · first | rfl | assumption | omega
      · rw [e2, u3_F (by decide)]; exact q2
      · intro x x0 x1
        rw [e2, u3_e]
        split
        · next c => rw [c, q2]
        · next c => exact q3 x x0 (by omega)
      · first | rfl | assumption | omega
theorem e_Mo_becomesAside (σ : SS) (K : AV → SS → Prop) (hs : okS σ) (hG : S_Mo_becomesAside [vR 12 0] σ K) : VE_Mo_becomesAside σ K := by
  unfold VE_Mo_becomesAside
  obtain ⟨⟨hR, h1, h2⟩, hG⟩ := hG
  refine ⟨(by exact hR.1.1), ?_⟩
  intro _ _
  refine ⟨fun c1 => ?_, fun c1 => ?_⟩
  · skip
    refine ⟨(by exact hR), (fun σ2 h2a h2b h2c => ?_)⟩
    intro _
    refine ⟨_, _, _, rfl, rfl, ?_⟩
    refine ⟨?_, ?_, ?_, ?_, ?_⟩
    · exact h2a
    · first | rfl | assumption | omega
    · exact h2c _ _ (by simp [KaL])
    · exact fun x x0 x1 => by omega
    · exact ⟨rfl, by assumption⟩
  · skip
    exact hG _ _ _ (if_pos (by assumption)) (ActM_n hR)
theorem H_Mo_becomesAside {d : Nat} (hd : 3 ≤ d) : Holds d I_Mo_becomesAside S_Mo_becomesAside := by
  refine holds_of (d' := d - 1) (rt := 1) (cal := [(I_Mo_others, S_Mo_others), (I_Mo_keepsAct, S_Mo_keepsAct)]) (C := C_Mo_becomesAside) m_Mo_becomesAside o_Mo_becomesAside rfl rfl (by omega) ?_ ?_
  · intro x hx
    simp only [List.mem_cons, List.not_mem_nil, or_false] at hx
    rcases hx with rfl | rfl
    · exact H_Mo_others (by omega)
    · exact H_Mo_keepsAct (by omega)
  · intro as σ K has hσ hG
    have hG2 := hG
    unfold S_Mo_becomesAside at hG2
    split at hG2
    · skip
      refine ⟨Nat.le_of_ble_eq_true rfl, (Iv_Mo_becomesAside σ), ?_, 1000, ?_⟩
      · intro k n z L σ' hk hL hs hP
        unfold Iv_Mo_becomesAside at hk
        split at hk
        · cases hk
          obtain ⟨v1, v2, rfl, hn, hQ⟩ := hP
          exact ⟨1000, l_Mo_becomesAside_11 σ K  hσ hG v1 v2 σ' (hL _ (List.mem_of_getElem? (i := 1) rfl)) (hL _ (List.mem_of_getElem? (i := 2) rfl)) hs n hn hQ⟩
        · cases hk
      · exact e_Mo_becomesAside σ K  hσ hG
    · exact hG2.elim
theorem m_let {σ : SS} (h : RepM σ) {x : Int} (h0 : 0 ≤ x) (h1 : x < (σ 40 0 0)) : 0 ≤ mW σ x ∧ mW σ x < 26 := h.1.1.2 x h0 h1
theorem mW_now {σ σ' : SS} (h : σ' 40 0 = σ 40 0) : mW σ' = mW σ := by
  unfold mW
  rw [h]
theorem MoW_now {σ σ' : SS} (hM : MoW σ) (h : σ' 40 0 = σ 40 0) : MoW σ' := by
  unfold MoW
  rw [mW_now h, h]
  exact hM
def S_Mo_put : GS := fun as σ K => match as with
  | [some (.inr (.inr (12, 0))), some (.inl a1), some (.inl a2)] => RepM σ ∧ ∀ σ' r o, aPut (mW σ) (σ 40 0 0) a1 a2 = (r, o) → ActM σ σ' o → K (vI r) σ'
  | _ => False
def VE_Mo_put (a1 : Int) (a2 : Int) (σ : SS) (K : AV → SS → Prop) : Prop :=
  (S_Mo_isPlace [vR 12 0, vI a1] σ (kI fun r1 σ1 =>
    ((r1 = 0 →
      (K (vI (-1)) σ1)) ∧
    (r1 ≠ 0 →
      (S_Mo_in [vL a2, vL 0, vL 25] σ1 (kI fun r2 σ2 =>
        ((r2 ≠ 0 →
          (S_Mo_at [vR 12 0, vI a1] σ2 (kI fun r3 σ3 =>
            ((r3 ≠ a2 →
              (S_Mo_keepsAct [vR 12 0] σ3 (kV fun σ4 =>
                (InR (1 + a1) ∧
                ((0 ≤ (1 + a1 : Int) ∧ (1 + a1 : Int) < 121) ∧ ∀ σ5 : SS, σ5 = u3 σ4 40 0 (1 + a1) a2 →
                (K (vI r3) σ5)))))) ∧
            (r3 = a2 →
              (K (vI (-2)) σ3)))))) ∧
        (r2 = 0 →
          (K (vI (-1)) σ2)))))))))
theorem e_Mo_put (a1 : Int) (a2 : Int) (σ : SS) (K : AV → SS → Prop) (ha1 : InR a1) (ha2 : InR a2) (hs : okS σ) (hG : S_Mo_put [vR 12 0, vI a1, vI a2] σ K) : VE_Mo_put a1 a2 σ K := by
  unfold VE_Mo_put
  obtain ⟨hR, hG⟩ := hG
  have hb := hR.1.1.n
  refine ⟨(by exact hR.1.1), ?_⟩
  refine bS_b0 (fun p1 _ => ?_) (fun p1 _ => ?_)
  · skip
    refine bS_b1 (fun p2 _ => ?_) (fun p2 _ => ?_)
    · skip
      refine ⟨(by first | assumption | omega | exact ⟨by first | assumption | omega, by omega⟩ | exact ⟨by assumption, by omega, by omega⟩ | exact ⟨by assumption, by omega, by omega, by omega⟩ | exact ⟨by assumption, by omega, by omega, by omega, by omega⟩ | exact ⟨by assumption, by omega, by omega, by omega, by omega, by omega⟩), ?_⟩
      intro _ _
      refine ⟨fun c3 => ?_, fun c3 => ?_⟩
      · skip
        refine ⟨(by exact hR), (fun σ4 h4a h4b h4c => ?_)⟩
        intro _
        have ka := h4a
        have kn := h4b
        refine ⟨(by omega), ?_⟩
        refine ⟨(by omega), fun σ5 e5 => ?_⟩
        first
          | exact hG _ _ _ (if_neg (by omega)) (ActM_n hR)
          | exact hG _ _ _ (by unfold aPut; rw [if_pos (by omega), if_pos (by assumption)]) (ActM_n hR)
          | refine hG _ _ _ (by unfold aPut; rw [if_pos (by omega), if_neg (by assumption)]) (KA_act hR (KA_st ka (by rw [e5]; exact Fr_u3 (by simp [NaL]))) hb (by rw [e5, u3_k (by omega), kn]) (fun x x0 x1 => ?_) (fun x x0 x1 => ?_))
            · rw [e5, u3_e, kn]
              unfold updW
              by_cases c : x = a1
              · rw [if_pos c, if_pos (by omega)]
              · rw [if_neg c, if_neg (by omega), mW_in x0 x1]
            · unfold updW
              split
              · omega
              · exact m_let hR x0 x1
      · skip
        first
          | exact hG _ _ _ (if_neg (by omega)) (ActM_n hR)
          | exact hG _ _ _ (by unfold aPut; rw [if_pos (by omega), if_pos (by assumption)]) (ActM_n hR)
          | refine hG _ _ _ (by unfold aPut; rw [if_pos (by omega), if_neg (by assumption)]) (KA_act hR (KA_st ka (by rw [e5]; exact Fr_u3 (by simp [NaL]))) hb (by rw [e5, u3_k (by omega), kn]) (fun x x0 x1 => ?_) (fun x x0 x1 => ?_))
            · rw [e5, u3_e, kn]
              unfold updW
              by_cases c : x = a1
              · rw [if_pos c, if_pos (by omega)]
              · rw [if_neg c, if_neg (by omega), mW_in x0 x1]
            · unfold updW
              split
              · omega
              · exact m_let hR x0 x1
    · skip
      first
        | exact hG _ _ _ (if_neg (by omega)) (ActM_n hR)
        | exact hG _ _ _ (by unfold aPut; rw [if_pos (by omega), if_pos (by assumption)]) (ActM_n hR)
        | refine hG _ _ _ (by unfold aPut; rw [if_pos (by omega), if_neg (by assumption)]) (KA_act hR (KA_st ka (by rw [e5]; exact Fr_u3 (by simp [NaL]))) hb (by rw [e5, u3_k (by omega), kn]) (fun x x0 x1 => ?_) (fun x x0 x1 => ?_))
          · rw [e5, u3_e, kn]
            unfold updW
            by_cases c : x = a1
            · rw [if_pos c, if_pos (by omega)]
            · rw [if_neg c, if_neg (by omega), mW_in x0 x1]
          · unfold updW
            split
            · omega
            · exact m_let hR x0 x1
  · skip
    first
      | exact hG _ _ _ (if_neg (by omega)) (ActM_n hR)
      | exact hG _ _ _ (by unfold aPut; rw [if_pos (by omega), if_pos (by assumption)]) (ActM_n hR)
      | refine hG _ _ _ (by unfold aPut; rw [if_pos (by omega), if_neg (by assumption)]) (KA_act hR (KA_st ka (by rw [e5]; exact Fr_u3 (by simp [NaL]))) hb (by rw [e5, u3_k (by omega), kn]) (fun x x0 x1 => ?_) (fun x x0 x1 => ?_))
        · rw [e5, u3_e, kn]
          unfold updW
          by_cases c : x = a1
          · rw [if_pos c, if_pos (by omega)]
          · rw [if_neg c, if_neg (by omega), mW_in x0 x1]
        · unfold updW
          split
          · omega
          · exact m_let hR x0 x1
theorem H_Mo_put {d : Nat} (hd : 3 ≤ d) : Holds d I_Mo_put S_Mo_put := by
  refine holds_of (d' := d - 1) (rt := 1) (cal := [(I_Mo_isPlace, S_Mo_isPlace), (I_Mo_in, S_Mo_in), (I_Mo_at, S_Mo_at), (I_Mo_keepsAct, S_Mo_keepsAct)]) (C := C_Mo_put) m_Mo_put o_Mo_put rfl rfl (by omega) ?_ ?_
  · intro x hx
    simp only [List.mem_cons, List.not_mem_nil, or_false] at hx
    rcases hx with rfl | rfl | rfl | rfl
    · exact H_Mo_isPlace (by omega)
    · exact H_Mo_in (by omega)
    · exact H_Mo_at (by omega)
    · exact H_Mo_keepsAct (by omega)
  · intro as σ K has hσ hG
    have hG2 := hG
    unfold S_Mo_put at hG2
    split at hG2
    · next a1 a2 =>
      refine ⟨Nat.le_of_ble_eq_true rfl, (fun _ => none), ?_, 1000, ?_⟩
      · intro k n z L σ' hk hL hs hP
        cases hk
      · exact e_Mo_put a1 a2 σ K (has _ (List.mem_of_getElem? (i := 1) rfl)) (has _ (List.mem_of_getElem? (i := 2) rfl)) hσ hG
    · exact hG2.elim
def S_Mo_insert : GS := fun as σ K => match as with
  | [some (.inr (.inr (12, 0))), some (.inl a1), some (.inl a2)] => RepM σ ∧ ∀ σ' r o, aIns (mW σ) (σ 40 0 0) a1 a2 = (r, o) → ActM σ σ' o → K (vI r) σ'
  | _ => False
abbrev Lp_Mo_insert_27 (a1 : Int) (a2 : Int) (σ0 : SS) (n : Nat) (L : List AV) (σ : SS) : Prop := ∃ (v3 : Int), L = [vR 12 0, vI a1, vI a2, vI v3] ∧ n = (1000 + v3).toNat ∧ ((KA σ0 σ) ∧ (σ 40 0 0 = (σ0 40 0 0)) ∧ ((0 ≤ a1 ∧ a1 ≤ v3 ∧ v3 ≤ (σ0 40 0 0)) ∧ (0 ≤ a2 ∧ a2 < 26) ∧ (σ0 40 0 0) < 120) ∧ (∀ x, 0 ≤ x → x < v3 → σ 40 0 (1 + x) = mW σ0 x) ∧ (∀ x, v3 < x → x ≤ (σ0 40 0 0) → σ 40 0 (1 + x) = mW σ0 (x - 1)))
def Iv_Mo_insert (a1 : Int) (a2 : Int) (σ0 : SS) (k : Nat) : Option (List Nat × (Nat → List AV → SS → Prop)) := match k with
  | 27 => some ([], Lp_Mo_insert_27 a1 a2 σ0)
  | _ => none
def VE_Mo_insert (a1 : Int) (a2 : Int) (σ : SS) (K : AV → SS → Prop) : Prop :=
  (S_Mo_size [vR 12 0] σ (kI fun r1 σ1 =>
    (S_Mo_in [vL a1, vL 0, vL r1] σ1 (kI fun r2 σ2 =>
      ((r2 = 0 →
        (K (vI (-1)) σ2)) ∧
      (r2 ≠ 0 →
        (S_Mo_in [vL a2, vL 0, vL 25] σ2 (kI fun r3 σ3 =>
          ((r3 ≠ 0 →
            (S_Mo_size [vR 12 0] σ3 (kI fun r4 σ4 =>
              ((r4 ≠ 120 →
                (S_Mo_keepsAct [vR 12 0] σ4 (kV fun σ5 =>
                  (S_Mo_size [vR 12 0] σ5 (kI fun r6 σ6 =>
                    (∃ n', Lp_Mo_insert_27 a1 a2 σ n' [vR 12 0, vI a1, vI a2, vI r6] σ6)))))) ∧
              (r4 = 120 →
                (K (vI (-2)) σ4)))))) ∧
          (r3 = 0 →
            (K (vI (-1)) σ3)))))))))))
def VL_Mo_insert_27 (a1 : Int) (a2 : Int) (σ0 : SS) (K : AV → SS → Prop) (v3 : Int) (σ : SS) (n : Nat) : Prop :=
  ((v3 ≤ a1 →
    (InR (1 + a1) ∧
    ((0 ≤ (1 + a1 : Int) ∧ (1 + a1 : Int) < 121) ∧ ∀ σ1 : SS, σ1 = u3 σ 40 0 (1 + a1) a2 →
    ((0 ≤ (0 : Int) ∧ (0 : Int) < 121) ∧
    (InR ((σ1 40 0 0) + 1) ∧
    ((0 ≤ (0 : Int) ∧ (0 : Int) < 121) ∧ ∀ σ2 : SS, σ2 = u3 σ1 40 0 0 ((σ1 40 0 0) + 1) →
    (S_Mo_size [vR 12 0] σ2 (kI fun r3 σ3 =>
      (K (vI r3) σ3))))))))) ∧
  (a1 < v3 →
    (InR (1 + v3) ∧
    ((0 ≤ (v3 : Int) ∧ (v3 : Int) < 121) ∧
    ((0 ≤ (1 + v3 : Int) ∧ (1 + v3 : Int) < 121) ∧ ∀ σ4 : SS, σ4 = u3 σ 40 0 (1 + v3) (σ 40 0 v3) →
    (InR (v3 + (-1)) ∧
    (∃ n', n' < n ∧ Lp_Mo_insert_27 a1 a2 σ0 n' [vR 12 0, vI a1, vI a2, vI (v3 + (-1))] σ4)))))))
theorem l_Mo_insert_27 (a1 : Int) (a2 : Int) (σ0 : SS) (K : AV → SS → Prop) (ha1 : InR a1) (ha2 : InR a2) (hs0 : okS σ0) (hG : S_Mo_insert [vR 12 0, vI a1, vI a2] σ0 K) (v3 : Int) (σ : SS) (hv3 : InR v3) (hs : okS σ) (n : Nat) (hn : n = (1000 + v3).toNat) (hQ : (KA σ0 σ) ∧ (σ 40 0 0 = (σ0 40 0 0)) ∧ ((0 ≤ a1 ∧ a1 ≤ v3 ∧ v3 ≤ (σ0 40 0 0)) ∧ (0 ≤ a2 ∧ a2 < 26) ∧ (σ0 40 0 0) < 120) ∧ (∀ x, 0 ≤ x → x < v3 → σ 40 0 (1 + x) = mW σ0 x) ∧ (∀ x, v3 < x → x ≤ (σ0 40 0 0) → σ 40 0 (1 + x) = mW σ0 (x - 1))) : VL_Mo_insert_27 a1 a2 σ0 K v3 σ n := by
  unfold VL_Mo_insert_27
  obtain ⟨hR, hG⟩ := hG
  have hb := hR.1.1.n
  obtain ⟨q0, q1, ⟨q2, q3, q4⟩, q5, q6⟩ := hQ
  refine ⟨fun c1 => ?_, fun c1 => ?_⟩
  · skip
    refine ⟨(by omega), ?_⟩
    refine ⟨(by omega), fun σ2 e2 => ?_⟩
    have n1 : σ2 40 0 0 = (σ0 40 0 0) := by rw [e2, u3_k (by omega), q1]
    refine ⟨(by omega), ?_⟩
    refine ⟨(by omega), ?_⟩
    refine ⟨(by omega), fun σ3 e3 => ?_⟩
    intro _ _
    have r3 : σ3 40 0 0 = (σ0 40 0 0) + 1 := by rw [e3, u3_s, n1]
    rw [r3]
    refine hG _ _ _ (by unfold aIns; rw [if_pos (by omega), if_neg (by omega)]) (KA_act hR (KA_st q0 (by rw [e3, e2]; exact Fr_trans (Fr_u3 (by simp [NaL])) (Fr_u3 (by simp [NaL])))) (by omega) r3 (fun x x0 x1 => ?_) (fun x x0 x1 => ?_))
    · rw [e3, u3_k (by omega), e2, u3_e]
      split
      · next c => rw [if_neg (by omega), if_pos (by omega)]
      · next c =>
        split
        · exact q5 x x0 (by omega)
        · rw [if_neg (by omega)]; exact q6 x (by omega) (by omega)
    · split
      · exact m_let hR x0 (by omega)
      · split
        · exact q3
        · exact m_let hR (by omega) (by omega)
  · skip
    refine ⟨(by omega), ?_⟩
    refine ⟨(by omega), ?_⟩
    refine ⟨(by omega), fun σ2 e2 => ?_⟩
    refine ⟨(by omega), ?_⟩
    refine ⟨_, ?_, _, rfl, rfl, ?_⟩
    · omega
    · refine ⟨?_, ?_, ?_, ?_, ?_⟩
      · rw [e2]; exact KA_st q0 (Fr_u3 (by simp [NaL]))
      · rw [e2, u3_k (by omega), q1]
      · first | rfl | assumption | omega
      · intro x x0 x1
        rw [e2, u3_k (by omega)]
        exact q5 x x0 (by omega)
      · intro x x0 x1
        rw [e2, u3_e]
        split
        · next c =>
          have := q5 (v3 - 1) (by omega) (by omega)
          rw [show 1 + (v3 - 1) = v3 by omega] at this
          rw [this]
          exact congrArg _ (by omega)
        · next c => exact q6 x (by omega) x1
theorem e_Mo_insert (a1 : Int) (a2 : Int) (σ : SS) (K : AV → SS → Prop) (ha1 : InR a1) (ha2 : InR a2) (hs : okS σ) (hG : S_Mo_insert [vR 12 0, vI a1, vI a2] σ K) : VE_Mo_insert a1 a2 σ K := by
  unfold VE_Mo_insert
  obtain ⟨hR, hG⟩ := hG
  have hb := hR.1.1.n
  intro _ _
  refine bS_b0 (fun p1 _ => ?_) (fun p1 _ => ?_)
  · skip
    refine bS_b1 (fun p2 _ => ?_) (fun p2 _ => ?_)
    · skip
      intro _ _
      refine ⟨fun c3 => ?_, fun c3 => ?_⟩
      · skip
        refine ⟨(by exact hR), (fun σ4 h4a h4b h4c => ?_)⟩
        intro _
        have ka := h4a
        have kn := h4b
        have kn0 := congrFun kn 0
        intro _ _
        refine ⟨_, _, rfl, rfl, ?_⟩
        refine ⟨?_, ?_, ?_, ?_, ?_⟩
        · exact ka
        · rw [kn]
        · first | rfl | assumption | omega
        · exact fun x x0 x1 => by rw [kn, mW_in x0 (by omega)]
        · exact fun x x0 x1 => by omega
      · skip
        first
          | exact hG _ _ _ (if_neg (by omega)) (ActM_n hR)
          | exact hG _ _ _ (by unfold aIns; rw [if_pos (by omega), if_pos (by omega)]) (ActM_n hR)
    · skip
      first
        | exact hG _ _ _ (if_neg (by omega)) (ActM_n hR)
        | exact hG _ _ _ (by unfold aIns; rw [if_pos (by omega), if_pos (by omega)]) (ActM_n hR)
  · skip
    first
      | exact hG _ _ _ (if_neg (by omega)) (ActM_n hR)
      | exact hG _ _ _ (by unfold aIns; rw [if_pos (by omega), if_pos (by omega)]) (ActM_n hR)
theorem H_Mo_insert {d : Nat} (hd : 3 ≤ d) : Holds d I_Mo_insert S_Mo_insert := by
  refine holds_of (d' := d - 1) (rt := 1) (cal := [(I_Mo_size, S_Mo_size), (I_Mo_in, S_Mo_in), (I_Mo_keepsAct, S_Mo_keepsAct)]) (C := C_Mo_insert) m_Mo_insert o_Mo_insert rfl rfl (by omega) ?_ ?_
  · intro x hx
    simp only [List.mem_cons, List.not_mem_nil, or_false] at hx
    rcases hx with rfl | rfl | rfl
    · exact H_Mo_size (by omega)
    · exact H_Mo_in (by omega)
    · exact H_Mo_keepsAct (by omega)
  · intro as σ K has hσ hG
    have hG2 := hG
    unfold S_Mo_insert at hG2
    split at hG2
    · next a1 a2 =>
      refine ⟨Nat.le_of_ble_eq_true rfl, (Iv_Mo_insert a1 a2 σ), ?_, 1000, ?_⟩
      · intro k n z L σ' hk hL hs hP
        unfold Iv_Mo_insert at hk
        split at hk
        · cases hk
          obtain ⟨v3, rfl, hn, hQ⟩ := hP
          exact ⟨1000, l_Mo_insert_27 a1 a2 σ K (has _ (List.mem_of_getElem? (i := 1) rfl)) (has _ (List.mem_of_getElem? (i := 2) rfl)) hσ hG v3 σ' (hL _ (List.mem_of_getElem? (i := 3) rfl)) hs n hn hQ⟩
        · cases hk
      · exact e_Mo_insert a1 a2 σ K (has _ (List.mem_of_getElem? (i := 1) rfl)) (has _ (List.mem_of_getElem? (i := 2) rfl)) hσ hG
    · exact hG2.elim
def S_Mo_drop : GS := fun as σ K => match as with
  | [some (.inr (.inr (12, 0))), some (.inl a1)] => RepM σ ∧ ∀ σ' r o, aDrop (mW σ) (σ 40 0 0) a1 = (r, o) → ActM σ σ' o → K (vI r) σ'
  | _ => False
abbrev Lp_Mo_drop_14 (a1 : Int) (σ0 : SS) (n : Nat) (L : List AV) (σ : SS) : Prop := ∃ (v2 : Int) (v3 : Int), L = [vR 12 0, vI a1, vI v2, vI v3] ∧ n = (1000 - v3).toNat ∧ ((KA σ0 σ) ∧ (σ 40 0 0 = (σ0 40 0 0)) ∧ (v2 = mW σ0 a1 ∧ 0 ≤ a1 ∧ a1 ≤ v3 ∧ v3 < (σ0 40 0 0)) ∧ (∀ x, 0 ≤ x → x < v3 → σ 40 0 (1 + x) = if x < a1 then mW σ0 x else mW σ0 (x + 1)) ∧ (∀ x, v3 ≤ x → x < (σ0 40 0 0) → σ 40 0 (1 + x) = mW σ0 x))
def Iv_Mo_drop (a1 : Int) (σ0 : SS) (k : Nat) : Option (List Nat × (Nat → List AV → SS → Prop)) := match k with
  | 14 => some ([], Lp_Mo_drop_14 a1 σ0)
  | _ => none
def VE_Mo_drop (a1 : Int) (σ : SS) (K : AV → SS → Prop) : Prop :=
  (S_Mo_isPlace [vR 12 0, vI a1] σ (kI fun r1 σ1 =>
    ((r1 ≠ 0 →
      (S_Mo_keepsAct [vR 12 0] σ1 (kV fun σ2 =>
        (S_Mo_at [vR 12 0, vI a1] σ2 (kI fun r3 σ3 =>
          (∃ n', Lp_Mo_drop_14 a1 σ n' [vR 12 0, vI a1, vI r3, vI a1] σ3)))))) ∧
    (r1 = 0 →
      (K (vI (-1)) σ1)))))
def VL_Mo_drop_14 (a1 : Int) (σ0 : SS) (K : AV → SS → Prop) (v2 : Int) (v3 : Int) (σ : SS) (n : Nat) : Prop :=
  (InR (v3 + 1) ∧
  (S_Mo_size [vR 12 0] σ (kI fun r1 σ1 =>
    ((r1 ≤ (v3 + 1) →
      ((0 ≤ (0 : Int) ∧ (0 : Int) < 121) ∧
      (InR ((σ1 40 0 0) - 1) ∧
      ((0 ≤ (0 : Int) ∧ (0 : Int) < 121) ∧ ∀ σ2 : SS, σ2 = u3 σ1 40 0 0 ((σ1 40 0 0) - 1) →
      (K (vI v2) σ2))))) ∧
    ((v3 + 1) < r1 →
      (InR (1 + v3) ∧
      (InR (2 + v3) ∧
      ((0 ≤ (2 + v3 : Int) ∧ (2 + v3 : Int) < 121) ∧
      ((0 ≤ (1 + v3 : Int) ∧ (1 + v3 : Int) < 121) ∧ ∀ σ3 : SS, σ3 = u3 σ1 40 0 (1 + v3) (σ1 40 0 (2 + v3)) →
      (InR (v3 + 1) ∧
      (∃ n', n' < n ∧ Lp_Mo_drop_14 a1 σ0 n' [vR 12 0, vI a1, vI v2, vI (v3 + 1)] σ3)))))))))))
theorem l_Mo_drop_14 (a1 : Int) (σ0 : SS) (K : AV → SS → Prop) (ha1 : InR a1) (hs0 : okS σ0) (hG : S_Mo_drop [vR 12 0, vI a1] σ0 K) (v2 : Int) (v3 : Int) (σ : SS) (hv2 : InR v2) (hv3 : InR v3) (hs : okS σ) (n : Nat) (hn : n = (1000 - v3).toNat) (hQ : (KA σ0 σ) ∧ (σ 40 0 0 = (σ0 40 0 0)) ∧ (v2 = mW σ0 a1 ∧ 0 ≤ a1 ∧ a1 ≤ v3 ∧ v3 < (σ0 40 0 0)) ∧ (∀ x, 0 ≤ x → x < v3 → σ 40 0 (1 + x) = if x < a1 then mW σ0 x else mW σ0 (x + 1)) ∧ (∀ x, v3 ≤ x → x < (σ0 40 0 0) → σ 40 0 (1 + x) = mW σ0 x)) : VL_Mo_drop_14 a1 σ0 K v2 v3 σ n := by
  unfold VL_Mo_drop_14
  obtain ⟨hR, hG⟩ := hG
  have hb := hR.1.1.n
  obtain ⟨q0, q1, ⟨q2, q3⟩, q5, q6⟩ := hQ
  refine ⟨(by omega), ?_⟩
  intro _ _
  refine ⟨fun c1 => ?_, fun c1 => ?_⟩
  · skip
    refine ⟨(by omega), ?_⟩
    refine ⟨(by omega), ?_⟩
    refine ⟨(by omega), fun σ2 e2 => ?_⟩
    refine hG _ _ _ (by unfold aDrop; rw [if_pos (by omega), q2]) (KA_act hR (KA_st q0 (by rw [e2]; exact Fr_u3 (by simp [NaL]))) (by omega) (by rw [e2, u3_s, q1]) (fun x x0 x1 => ?_) (fun x x0 x1 => ?_))
    · rw [e2, u3_k (by omega)]
      exact q5 x x0 (by omega)
    · split
      · exact m_let hR x0 (by omega)
      · exact m_let hR (by omega) (by omega)
  · skip
    refine ⟨(by omega), ?_⟩
    refine ⟨(by omega), ?_⟩
    refine ⟨(by omega), ?_⟩
    refine ⟨(by omega), fun σ2 e2 => ?_⟩
    refine ⟨(by omega), ?_⟩
    refine ⟨_, ?_, _, _, rfl, rfl, ?_⟩
    · omega
    · refine ⟨?_, ?_, ?_, ?_, ?_⟩
      · rw [e2]; exact KA_st q0 (Fr_u3 (by simp [NaL]))
      · rw [e2, u3_k (by omega), q1]
      · first | rfl | assumption | omega
      · intro x x0 x1
        rw [e2, u3_e]
        split
        · next c =>
          have := q6 (v3 + 1) (by omega) (by omega)
          rw [show 1 + (v3 + 1) = 2 + v3 by omega] at this
          rw [this, if_neg (by omega)]
          exact congrArg _ (by omega)
        · next c => exact q5 x x0 (by omega)
      · intro x x0 x1
        rw [e2, u3_k (by omega)]
        exact q6 x (by omega) x1
theorem e_Mo_drop (a1 : Int) (σ : SS) (K : AV → SS → Prop) (ha1 : InR a1) (hs : okS σ) (hG : S_Mo_drop [vR 12 0, vI a1] σ K) : VE_Mo_drop a1 σ K := by
  unfold VE_Mo_drop
  obtain ⟨hR, hG⟩ := hG
  have hb := hR.1.1.n
  refine ⟨(by exact hR.1.1), ?_⟩
  refine bS_b1 (fun p1 _ => ?_) (fun p1 _ => ?_)
  · skip
    refine ⟨(by exact hR), (fun σ2 h2a h2b h2c => ?_)⟩
    intro _
    have ka := h2a
    have kn := h2b
    have kw := mW_now kn
    refine ⟨(by rw [kn]; omega), ?_⟩
    intro _ _
    rw [kw]
    refine ⟨_, _, _, rfl, rfl, ?_⟩
    refine ⟨?_, ?_, ?_, ?_, ?_⟩
    · exact ka
    · rw [kn]
    · exact ⟨rfl, by omega, by omega, by omega⟩
    · exact fun x x0 x1 => by rw [kn, if_pos x1, mW_in x0 (by omega)]
    · exact fun x x0 x1 => by rw [kn, mW_in (by omega) x1]
  · skip
    exact hG _ _ _ (if_neg (by assumption)) (ActM_n hR)
theorem H_Mo_drop {d : Nat} (hd : 3 ≤ d) : Holds d I_Mo_drop S_Mo_drop := by
  refine holds_of (d' := d - 1) (rt := 1) (cal := [(I_Mo_isPlace, S_Mo_isPlace), (I_Mo_keepsAct, S_Mo_keepsAct), (I_Mo_at, S_Mo_at), (I_Mo_size, S_Mo_size)]) (C := C_Mo_drop) m_Mo_drop o_Mo_drop rfl rfl (by omega) ?_ ?_
  · intro x hx
    simp only [List.mem_cons, List.not_mem_nil, or_false] at hx
    rcases hx with rfl | rfl | rfl | rfl
    · exact H_Mo_isPlace (by omega)
    · exact H_Mo_keepsAct (by omega)
    · exact H_Mo_at (by omega)
    · exact H_Mo_size (by omega)
  · intro as σ K has hσ hG
    have hG2 := hG
    unfold S_Mo_drop at hG2
    split at hG2
    · next a1 =>
      refine ⟨Nat.le_of_ble_eq_true rfl, (Iv_Mo_drop a1 σ), ?_, 1000, ?_⟩
      · intro k n z L σ' hk hL hs hP
        unfold Iv_Mo_drop at hk
        split at hk
        · cases hk
          obtain ⟨v2, v3, rfl, hn, hQ⟩ := hP
          exact ⟨1000, l_Mo_drop_14 a1 σ K (has _ (List.mem_of_getElem? (i := 1) rfl)) hσ hG v2 v3 σ' (hL _ (List.mem_of_getElem? (i := 2) rfl)) (hL _ (List.mem_of_getElem? (i := 3) rfl)) hs n hn hQ⟩
        · cases hk
      · exact e_Mo_drop a1 σ K (has _ (List.mem_of_getElem? (i := 1) rfl)) hσ hG
    · exact hG2.elim
def S_Mo_again : GS := fun as σ K => match as with
  | [some (.inr (.inr (12, 0))), some (.inl a1), some (.inl a2)] => RepM σ ∧ ∀ σ' r o, aAgain (mW σ) (σ 40 0 0) a1 a2 = (r, o) → ActM σ σ' o → K (vI r) σ'
  | _ => False
abbrev Lp_Mo_again_21 (a1 : Int) (a2 : Int) (σ0 : SS) (n : Nat) (L : List AV) (σ : SS) : Prop := ∃ (v3 : Int), L = [vR 12 0, vI a1, vI a2, vI v3] ∧ n = (1000 - v3).toNat ∧ ((KA σ0 σ) ∧ (σ 40 0 0 = (σ0 40 0 0) + (v3 - a1)) ∧ ((0 ≤ a1 ∧ a1 < a2 ∧ a2 ≤ (σ0 40 0 0)) ∧ (σ0 40 0 0) + (a2 - a1) ≤ 120 ∧ a1 ≤ v3 ∧ v3 ≤ a2) ∧ (∀ x, 0 ≤ x → x < (σ0 40 0 0) → σ 40 0 (1 + x) = mW σ0 x) ∧ (∀ x, 0 ≤ x → x < v3 - a1 → σ 40 0 (1 + ((σ0 40 0 0) + x)) = mW σ0 (a1 + x)))
def Iv_Mo_again (a1 : Int) (a2 : Int) (σ0 : SS) (k : Nat) : Option (List Nat × (Nat → List AV → SS → Prop)) := match k with
  | 21 => some ([], Lp_Mo_again_21 a1 a2 σ0)
  | _ => none
def VE_Mo_again (a1 : Int) (a2 : Int) (σ : SS) (K : AV → SS → Prop) : Prop :=
  (S_Mo_isSome [vR 12 0, vI a1, vI a2] σ (kI fun r1 σ1 =>
    ((r1 ≠ 0 →
      (S_Mo_size [vR 12 0] σ1 (kI fun r2 σ2 =>
        (InR (r2 + a2) ∧
        (InR ((r2 + a2) - a1) ∧
        ((((r2 + a2) - a1) ≤ 120 →
          (S_Mo_keepsAct [vR 12 0] σ2 (kV fun σ3 =>
            (∃ n', Lp_Mo_again_21 a1 a2 σ n' [vR 12 0, vI a1, vI a2, vI a1] σ3)))) ∧
        ((120 : Int) < ((r2 + a2) - a1) →
          (K (vI (-2)) σ2)))))))) ∧
    (r1 = 0 →
      (K (vI (-1)) σ1)))))
def VL_Mo_again_21 (a1 : Int) (a2 : Int) (σ0 : SS) (K : AV → SS → Prop) (v3 : Int) (σ : SS) (n : Nat) : Prop :=
  ((a2 ≤ v3 →
    (S_Mo_size [vR 12 0] σ (kI fun r1 σ1 =>
      (K (vI r1) σ1)))) ∧
  (v3 < a2 →
    (S_Mo_size [vR 12 0] σ (kI fun r2 σ2 =>
      (InR (1 + r2) ∧
      (S_Mo_at [vR 12 0, vI v3] σ2 (kI fun r3 σ3 =>
        ((0 ≤ (1 + r2 : Int) ∧ (1 + r2 : Int) < 121) ∧ ∀ σ4 : SS, σ4 = u3 σ3 40 0 (1 + r2) r3 →
        ((0 ≤ (0 : Int) ∧ (0 : Int) < 121) ∧
        (InR ((σ4 40 0 0) + 1) ∧
        ((0 ≤ (0 : Int) ∧ (0 : Int) < 121) ∧ ∀ σ5 : SS, σ5 = u3 σ4 40 0 0 ((σ4 40 0 0) + 1) →
        (InR (v3 + 1) ∧
        (∃ n', n' < n ∧ Lp_Mo_again_21 a1 a2 σ0 n' [vR 12 0, vI a1, vI a2, vI (v3 + 1)] σ5)))))))))))))
theorem l_Mo_again_21 (a1 : Int) (a2 : Int) (σ0 : SS) (K : AV → SS → Prop) (ha1 : InR a1) (ha2 : InR a2) (hs0 : okS σ0) (hG : S_Mo_again [vR 12 0, vI a1, vI a2] σ0 K) (v3 : Int) (σ : SS) (hv3 : InR v3) (hs : okS σ) (n : Nat) (hn : n = (1000 - v3).toNat) (hQ : (KA σ0 σ) ∧ (σ 40 0 0 = (σ0 40 0 0) + (v3 - a1)) ∧ ((0 ≤ a1 ∧ a1 < a2 ∧ a2 ≤ (σ0 40 0 0)) ∧ (σ0 40 0 0) + (a2 - a1) ≤ 120 ∧ a1 ≤ v3 ∧ v3 ≤ a2) ∧ (∀ x, 0 ≤ x → x < (σ0 40 0 0) → σ 40 0 (1 + x) = mW σ0 x) ∧ (∀ x, 0 ≤ x → x < v3 - a1 → σ 40 0 (1 + ((σ0 40 0 0) + x)) = mW σ0 (a1 + x))) : VL_Mo_again_21 a1 a2 σ0 K v3 σ n := by
  unfold VL_Mo_again_21
  obtain ⟨hR, hG⟩ := hG
  have hb := hR.1.1.n
  obtain ⟨q0, q1, ⟨q2, q3⟩, q5, q6⟩ := hQ
  refine ⟨fun c1 => ?_, fun c1 => ?_⟩
  · skip
    intro _ _
    rw [q1, show v3 = a2 by omega]
    refine hG _ _ _ (by unfold aAgain; rw [if_pos q2, if_neg (by omega)]) (KA_act hR q0 (by omega) (by omega) (fun x x0 x1 => ?_) (fun x x0 x1 => ?_))
    · split
      · exact q5 x x0 (by assumption)
      · have := q6 (x - (σ0 40 0 0)) (by omega) (by omega)
        rwa [show (σ0 40 0 0) + (x - (σ0 40 0 0)) = x by omega] at this
    · split
      · exact m_let hR x0 (by assumption)
      · exact m_let hR (by omega) (by omega)
  · skip
    intro _ _
    refine ⟨(by omega), ?_⟩
    refine ⟨(by omega), ?_⟩
    intro _ _
    rw [mW_in (σ := σ) (x := v3) (by omega) (by omega), q5 v3 (by omega) (by omega)]
    refine ⟨(by omega), fun σ2 e2 => ?_⟩
    have n1 : σ2 40 0 0 = (σ0 40 0 0) + (v3 - a1) := by rw [e2, u3_k (by omega), q1]
    refine ⟨(by omega), ?_⟩
    refine ⟨(by omega), ?_⟩
    refine ⟨(by omega), fun σ3 e3 => ?_⟩
    refine ⟨(by omega), ?_⟩
    refine ⟨_, ?_, _, rfl, rfl, ?_⟩
    · omega
    · refine ⟨?_, ?_, ?_, ?_, ?_⟩
      · rw [e3, e2]; exact KA_st q0 (Fr_trans (Fr_u3 (by simp [NaL])) (Fr_u3 (by simp [NaL])))
      · rw [e3, u3_s]; omega
      · first | rfl | assumption | omega
      · intro x x0 x1
        rw [e3, u3_k (by omega), e2, u3_k (by omega)]
        exact q5 x x0 x1
      · intro x x0 x1
        rw [e3, u3_k (by omega), e2, u3_e]
        split
        · exact congrArg _ (by omega)
        · exact q6 x x0 (by omega)
theorem e_Mo_again (a1 : Int) (a2 : Int) (σ : SS) (K : AV → SS → Prop) (ha1 : InR a1) (ha2 : InR a2) (hs : okS σ) (hG : S_Mo_again [vR 12 0, vI a1, vI a2] σ K) : VE_Mo_again a1 a2 σ K := by
  unfold VE_Mo_again
  obtain ⟨hR, hG⟩ := hG
  have hb := hR.1.1.n
  refine ⟨(by exact hR.1.1), ?_⟩
  refine bS_b1 (fun p1 _ => ?_) (fun p1 _ => ?_)
  · skip
    intro _ _
    refine ⟨(by omega), ?_⟩
    refine ⟨(by omega), ?_⟩
    refine ⟨fun c2 => ?_, fun c2 => ?_⟩
    · skip
      refine ⟨(by exact hR), (fun σ3 h3a h3b h3c => ?_)⟩
      intro _
      have ka := h3a
      have kn := h3b
      refine ⟨_, _, rfl, rfl, ?_⟩
      refine ⟨?_, ?_, ?_, ?_, ?_⟩
      · exact ka
      · rw [kn]; omega
      · first | rfl | assumption | omega
      · exact fun x x0 x1 => by rw [kn, mW_in x0 x1]
      · exact fun x x0 x1 => by omega
    · skip
      first
        | exact hG _ _ _ (if_neg (by assumption)) (ActM_n hR)
        | exact hG _ _ _ (by unfold aAgain; rw [if_pos (by assumption), if_pos (by omega)]) (ActM_n hR)
  · skip
    first
      | exact hG _ _ _ (if_neg (by assumption)) (ActM_n hR)
      | exact hG _ _ _ (by unfold aAgain; rw [if_pos (by assumption), if_pos (by omega)]) (ActM_n hR)
theorem H_Mo_again {d : Nat} (hd : 4 ≤ d) : Holds d I_Mo_again S_Mo_again := by
  refine holds_of (d' := d - 1) (rt := 1) (cal := [(I_Mo_isSome, S_Mo_isSome), (I_Mo_size, S_Mo_size), (I_Mo_keepsAct, S_Mo_keepsAct), (I_Mo_at, S_Mo_at)]) (C := C_Mo_again) m_Mo_again o_Mo_again rfl rfl (by omega) ?_ ?_
  · intro x hx
    simp only [List.mem_cons, List.not_mem_nil, or_false] at hx
    rcases hx with rfl | rfl | rfl | rfl
    · exact H_Mo_isSome (by omega)
    · exact H_Mo_size (by omega)
    · exact H_Mo_keepsAct (by omega)
    · exact H_Mo_at (by omega)
  · intro as σ K has hσ hG
    have hG2 := hG
    unfold S_Mo_again at hG2
    split at hG2
    · next a1 a2 =>
      refine ⟨Nat.le_of_ble_eq_true rfl, (Iv_Mo_again a1 a2 σ), ?_, 1000, ?_⟩
      · intro k n z L σ' hk hL hs hP
        unfold Iv_Mo_again at hk
        split at hk
        · cases hk
          obtain ⟨v3, rfl, hn, hQ⟩ := hP
          exact ⟨1000, l_Mo_again_21 a1 a2 σ K (has _ (List.mem_of_getElem? (i := 1) rfl)) (has _ (List.mem_of_getElem? (i := 2) rfl)) hσ hG v3 σ' (hL _ (List.mem_of_getElem? (i := 3) rfl)) hs n hn hQ⟩
        · cases hk
      · exact e_Mo_again a1 a2 σ K (has _ (List.mem_of_getElem? (i := 1) rfl)) (has _ (List.mem_of_getElem? (i := 2) rfl)) hσ hG
    · exact hG2.elim
def S_Mo_only : GS := fun as σ K => match as with
  | [some (.inr (.inr (12, 0))), some (.inl a1), some (.inl a2)] => RepM σ ∧ ∀ σ' r o, aOnly (mW σ) (σ 40 0 0) a1 a2 = (r, o) → ActM σ σ' o → K (vI r) σ'
  | _ => False
abbrev Lp_Mo_only_19 (a1 : Int) (a2 : Int) (σ0 : SS) (n : Nat) (L : List AV) (σ : SS) : Prop := ∃ (v3 : Int), L = [vR 12 0, vI a1, vI a2, vI v3] ∧ n = (1000 - v3).toNat ∧ ((KA σ0 σ) ∧ (σ 40 0 0 = (σ0 40 0 0)) ∧ ((0 ≤ a1 ∧ a1 ≤ a2 ∧ a2 ≤ (σ0 40 0 0)) ∧ a2 - a1 ≠ (σ0 40 0 0) ∧ a1 ≤ v3 ∧ v3 ≤ a2) ∧ (∀ x, 0 ≤ x → x < v3 - a1 → σ 40 0 (1 + x) = mW σ0 (a1 + x)) ∧ (∀ x, v3 ≤ x → x < (σ0 40 0 0) → σ 40 0 (1 + x) = mW σ0 x))
def Iv_Mo_only (a1 : Int) (a2 : Int) (σ0 : SS) (k : Nat) : Option (List Nat × (Nat → List AV → SS → Prop)) := match k with
  | 19 => some ([], Lp_Mo_only_19 a1 a2 σ0)
  | _ => none
def VE_Mo_only (a1 : Int) (a2 : Int) (σ : SS) (K : AV → SS → Prop) : Prop :=
  (S_Mo_isPart [vR 12 0, vI a1, vI a2] σ (kI fun r1 σ1 =>
    ((r1 ≠ 0 →
      (InR (a2 - a1) ∧
      (S_Mo_size [vR 12 0] σ1 (kI fun r2 σ2 =>
        (((a2 - a1) ≠ r2 →
          (S_Mo_keepsAct [vR 12 0] σ2 (kV fun σ3 =>
            (∃ n', Lp_Mo_only_19 a1 a2 σ n' [vR 12 0, vI a1, vI a2, vI a1] σ3)))) ∧
        ((a2 - a1) = r2 →
          (K (vI (-2)) σ2))))))) ∧
    (r1 = 0 →
      (K (vI (-1)) σ1)))))
def VL_Mo_only_19 (a1 : Int) (a2 : Int) (σ0 : SS) (K : AV → SS → Prop) (v3 : Int) (σ : SS) (n : Nat) : Prop :=
  ((a2 ≤ v3 →
    (InR (a2 - a1) ∧
    ((0 ≤ (0 : Int) ∧ (0 : Int) < 121) ∧ ∀ σ1 : SS, σ1 = u3 σ 40 0 0 (a2 - a1) →
    (S_Mo_size [vR 12 0] σ1 (kI fun r2 σ2 =>
      (K (vI r2) σ2)))))) ∧
  (v3 < a2 →
    (InR (1 + v3) ∧
    (InR ((1 + v3) - a1) ∧
    (S_Mo_at [vR 12 0, vI v3] σ (kI fun r3 σ3 =>
      ((0 ≤ ((1 + v3) - a1 : Int) ∧ ((1 + v3) - a1 : Int) < 121) ∧ ∀ σ4 : SS, σ4 = u3 σ3 40 0 ((1 + v3) - a1) r3 →
      (InR (v3 + 1) ∧
      (∃ n', n' < n ∧ Lp_Mo_only_19 a1 a2 σ0 n' [vR 12 0, vI a1, vI a2, vI (v3 + 1)] σ4)))))))))
theorem l_Mo_only_19 (a1 : Int) (a2 : Int) (σ0 : SS) (K : AV → SS → Prop) (ha1 : InR a1) (ha2 : InR a2) (hs0 : okS σ0) (hG : S_Mo_only [vR 12 0, vI a1, vI a2] σ0 K) (v3 : Int) (σ : SS) (hv3 : InR v3) (hs : okS σ) (n : Nat) (hn : n = (1000 - v3).toNat) (hQ : (KA σ0 σ) ∧ (σ 40 0 0 = (σ0 40 0 0)) ∧ ((0 ≤ a1 ∧ a1 ≤ a2 ∧ a2 ≤ (σ0 40 0 0)) ∧ a2 - a1 ≠ (σ0 40 0 0) ∧ a1 ≤ v3 ∧ v3 ≤ a2) ∧ (∀ x, 0 ≤ x → x < v3 - a1 → σ 40 0 (1 + x) = mW σ0 (a1 + x)) ∧ (∀ x, v3 ≤ x → x < (σ0 40 0 0) → σ 40 0 (1 + x) = mW σ0 x)) : VL_Mo_only_19 a1 a2 σ0 K v3 σ n := by
  unfold VL_Mo_only_19
  obtain ⟨hR, hG⟩ := hG
  have hb := hR.1.1.n
  obtain ⟨q0, q1, ⟨q2, q3⟩, q5, q6⟩ := hQ
  refine ⟨fun c1 => ?_, fun c1 => ?_⟩
  · skip
    refine ⟨(by omega), ?_⟩
    refine ⟨(by omega), fun σ2 e2 => ?_⟩
    intro _ _
    rw [e2, u3_s]
    refine hG _ _ _ (by unfold aOnly; rw [if_pos q2, if_neg q3.1]) (KA_act hR (KA_st q0 (Fr_u3 (by simp [NaL]))) (by omega) u3_s (fun x x0 x1 => ?_) (fun x x0 x1 => ?_))
    · rw [u3_k (by omega)]
      exact q5 x x0 (by omega)
    · exact m_let hR (by omega) (by omega)
  · skip
    refine ⟨(by omega), ?_⟩
    refine ⟨(by omega), ?_⟩
    refine ⟨(by omega), ?_⟩
    intro _ _
    rw [mW_in (σ := σ) (x := v3) (by omega) (by omega), q6 v3 (by omega) (by omega)]
    refine ⟨(by omega), fun σ2 e2 => ?_⟩
    refine ⟨(by omega), ?_⟩
    refine ⟨_, ?_, _, rfl, rfl, ?_⟩
    · omega
    · refine ⟨?_, ?_, ?_, ?_, ?_⟩
      · rw [e2]; exact KA_st q0 (Fr_u3 (by simp [NaL]))
      · rw [e2, u3_k (by omega), q1]
      · first | rfl | assumption | omega
      · intro x x0 x1
        rw [e2, u3_e]
        split
        · exact congrArg _ (by omega)
        · exact q5 x x0 (by omega)
      · intro x x0 x1
        rw [e2, u3_k (by omega)]
        exact q6 x (by omega) x1
theorem e_Mo_only (a1 : Int) (a2 : Int) (σ : SS) (K : AV → SS → Prop) (ha1 : InR a1) (ha2 : InR a2) (hs : okS σ) (hG : S_Mo_only [vR 12 0, vI a1, vI a2] σ K) : VE_Mo_only a1 a2 σ K := by
  unfold VE_Mo_only
  obtain ⟨hR, hG⟩ := hG
  have hb := hR.1.1.n
  refine ⟨(by exact hR.1.1), ?_⟩
  refine bS_b1 (fun p1 _ => ?_) (fun p1 _ => ?_)
  · skip
    refine ⟨(by omega), ?_⟩
    intro _ _
    refine ⟨fun c2 => ?_, fun c2 => ?_⟩
    · skip
      refine ⟨(by exact hR), (fun σ3 h3a h3b h3c => ?_)⟩
      intro _
      have ka := h3a
      have kn := h3b
      refine ⟨_, _, rfl, rfl, ?_⟩
      refine ⟨?_, ?_, ?_, ?_, ?_⟩
      · exact ka
      · rw [kn]
      · first | rfl | assumption | omega
      · exact fun x x0 x1 => by omega
      · exact fun x x0 x1 => by rw [kn, mW_in (by omega) x1]
    · skip
      first
        | exact hG _ _ _ (if_neg (by assumption)) (ActM_n hR)
        | exact hG _ _ _ (by unfold aOnly; rw [if_pos (by assumption), if_pos (by assumption)]) (ActM_n hR)
  · skip
    first
      | exact hG _ _ _ (if_neg (by assumption)) (ActM_n hR)
      | exact hG _ _ _ (by unfold aOnly; rw [if_pos (by assumption), if_pos (by assumption)]) (ActM_n hR)
theorem H_Mo_only {d : Nat} (hd : 3 ≤ d) : Holds d I_Mo_only S_Mo_only := by
  refine holds_of (d' := d - 1) (rt := 1) (cal := [(I_Mo_isPart, S_Mo_isPart), (I_Mo_size, S_Mo_size), (I_Mo_keepsAct, S_Mo_keepsAct), (I_Mo_at, S_Mo_at)]) (C := C_Mo_only) m_Mo_only o_Mo_only rfl rfl (by omega) ?_ ?_
  · intro x hx
    simp only [List.mem_cons, List.not_mem_nil, or_false] at hx
    rcases hx with rfl | rfl | rfl | rfl
    · exact H_Mo_isPart (by omega)
    · exact H_Mo_size (by omega)
    · exact H_Mo_keepsAct (by omega)
    · exact H_Mo_at (by omega)
  · intro as σ K has hσ hG
    have hG2 := hG
    unfold S_Mo_only at hG2
    split at hG2
    · next a1 a2 =>
      refine ⟨Nat.le_of_ble_eq_true rfl, (Iv_Mo_only a1 a2 σ), ?_, 1000, ?_⟩
      · intro k n z L σ' hk hL hs hP
        unfold Iv_Mo_only at hk
        split at hk
        · cases hk
          obtain ⟨v3, rfl, hn, hQ⟩ := hP
          exact ⟨1000, l_Mo_only_19 a1 a2 σ K (has _ (List.mem_of_getElem? (i := 1) rfl)) (has _ (List.mem_of_getElem? (i := 2) rfl)) hσ hG v3 σ' (hL _ (List.mem_of_getElem? (i := 3) rfl)) hs n hn hQ⟩
        · cases hk
      · exact e_Mo_only a1 a2 σ K (has _ (List.mem_of_getElem? (i := 1) rfl)) (has _ (List.mem_of_getElem? (i := 2) rfl)) hσ hG
    · exact hG2.elim
theorem as_in {σ0 σ : SS} {f : Int → Int} (hR : RepM σ0) (fr : Fr [(55, 0)] σ0 σ) (h0 : σ 55 0 0 = (σ0 40 0 0)) (h1 : ∀ x, 0 ≤ x → x < (σ0 40 0 0) → σ 55 0 (1 + x) = f x) (hf : ∀ x, 0 ≤ x → x < (σ0 40 0 0) → 0 ≤ f x ∧ f x < 26) :
    (RepM σ ∧ σ 55 0 0 = (σ 40 0 0) ∧ ∀ x, 0 ≤ x → x < (σ 40 0 0) → 0 ≤ σ 55 0 (1 + x) ∧ σ 55 0 (1 + x) < 26) ∧ aToM σ = aTo (mW σ0) (σ0 40 0 0) f ∧ ∀ σ' o, ActM σ σ' o → ActM σ0 σ' o := by
  have kn : σ 40 0 = σ0 40 0 := fr _ _ (by simp)
  have kw := mW_now kn
  have kp : mP σ = mP σ0 := by
    funext k
    unfold mP
    rw [fr 41 0 (by simp)]
  have ku : σ 582 0 = σ0 582 0 := fr _ _ (by simp)
  have kr : RepM σ := by
    obtain ⟨⟨r1, r2⟩, r3, r4, r5⟩ := hR
    refine ⟨⟨MoW_now r1 kn, by rw [ku]; exact r2⟩, by rw [ku, kp]; exact r3, ?_, ?_⟩
    · unfold SmC SmV SmT
      rw [kw, kn, fr 590 0 (by simp), fr 589 0 (by simp), fr 45 0 (by simp)]
      exact r4
    · unfold MrC MrV mrf mrt mrg
      rw [kw, kn, fr 587 0 (by simp), fr 586 0 (by simp), fr 44 0 (by simp)]
      exact r5
  refine ⟨⟨kr, by rw [kn]; exact h0, fun x x0 x1 => ?_⟩, ?_, fun σ' o h => ?_⟩
  · rw [kn] at x1
    rw [h1 x x0 x1]
    exact hf x x0 x1
  · unfold aToM
    rw [kw, kn]
    exact aTo_c h1
  · obtain ⟨a1, a2, a3, a4⟩ := h
    have e : mPr σ = mPr σ0 := by unfold mPr; rw [kw, kn]
    rw [e, ku, kp] at a3
    rw [e, ku, kp] at a4
    exact ⟨a1, Fr_trans (Fr_mono fr (by simp [AmL])) a2, a3, a4⟩
def S_Mo_turn : GS := fun as σ K => match as with
  | [some (.inr (.inr (12, 0))), some (.inl a1), some (.inl a2)] => RepM σ ∧ ∀ σ' r o, aTurn (mW σ) (σ 40 0 0) a1 a2 = (r, o) → ActM σ σ' o → K (vI r) σ'
  | _ => False
abbrev Lp_Mo_turn_11 (a1 : Int) (a2 : Int) (σ0 : SS) (n : Nat) (L : List AV) (σ : SS) : Prop := ∃ (v3 : Int), L = [vR 12 0, vI a1, vI a2, vI v3] ∧ n = (1000 - v3).toNat ∧ ((Fr [(55, 0)] σ0 σ) ∧ (σ 55 0 0 = (σ0 40 0 0)) ∧ ((0 ≤ a1 ∧ a1 ≤ a2 ∧ a2 ≤ (σ0 40 0 0)) ∧ a1 ≤ v3 ∧ v3 ≤ a2) ∧ (∀ x, 0 ≤ x → x < (σ0 40 0 0) → σ 55 0 (1 + x) = if a1 ≤ x ∧ x < v3 then mW σ0 (a1 + a2 - 1 - x) else mW σ0 x))
def Iv_Mo_turn (a1 : Int) (a2 : Int) (σ0 : SS) (k : Nat) : Option (List Nat × (Nat → List AV → SS → Prop)) := match k with
  | 11 => some ([], Lp_Mo_turn_11 a1 a2 σ0)
  | _ => none
def VE_Mo_turn (a1 : Int) (a2 : Int) (σ : SS) (K : AV → SS → Prop) : Prop :=
  (S_Mo_isPart [vR 12 0, vI a1, vI a2] σ (kI fun r1 σ1 =>
    ((r1 ≠ 0 →
      (S_Mo_putsAside [vR 12 0] σ1 (kV fun σ2 =>
        (∃ n', Lp_Mo_turn_11 a1 a2 σ n' [vR 12 0, vI a1, vI a2, vI a1] σ2)))) ∧
    (r1 = 0 →
      (K (vI (-1)) σ1)))))
def VL_Mo_turn_11 (a1 : Int) (a2 : Int) (σ0 : SS) (K : AV → SS → Prop) (v3 : Int) (σ : SS) (n : Nat) : Prop :=
  ((a2 ≤ v3 →
    (S_Mo_becomesAside [vR 12 0] σ (kI fun r1 σ1 =>
      (K (vI r1) σ1)))) ∧
  (v3 < a2 →
    (InR (1 + v3) ∧
    (InR (a1 + a2) ∧
    (InR ((a1 + a2) - 1) ∧
    (InR (((a1 + a2) - 1) - v3) ∧
    (S_Mo_at [vR 12 0, vI (((a1 + a2) - 1) - v3)] σ (kI fun r2 σ2 =>
      ((0 ≤ (1 + v3 : Int) ∧ (1 + v3 : Int) < 121) ∧ ∀ σ3 : SS, σ3 = u3 σ2 55 0 (1 + v3) r2 →
      (InR (v3 + 1) ∧
      (∃ n', n' < n ∧ Lp_Mo_turn_11 a1 a2 σ0 n' [vR 12 0, vI a1, vI a2, vI (v3 + 1)] σ3)))))))))))
theorem l_Mo_turn_11 (a1 : Int) (a2 : Int) (σ0 : SS) (K : AV → SS → Prop) (ha1 : InR a1) (ha2 : InR a2) (hs0 : okS σ0) (hG : S_Mo_turn [vR 12 0, vI a1, vI a2] σ0 K) (v3 : Int) (σ : SS) (hv3 : InR v3) (hs : okS σ) (n : Nat) (hn : n = (1000 - v3).toNat) (hQ : (Fr [(55, 0)] σ0 σ) ∧ (σ 55 0 0 = (σ0 40 0 0)) ∧ ((0 ≤ a1 ∧ a1 ≤ a2 ∧ a2 ≤ (σ0 40 0 0)) ∧ a1 ≤ v3 ∧ v3 ≤ a2) ∧ (∀ x, 0 ≤ x → x < (σ0 40 0 0) → σ 55 0 (1 + x) = if a1 ≤ x ∧ x < v3 then mW σ0 (a1 + a2 - 1 - x) else mW σ0 x)) : VL_Mo_turn_11 a1 a2 σ0 K v3 σ n := by
  unfold VL_Mo_turn_11
  obtain ⟨hR, hG⟩ := hG
  have hb := hR.1.1.n
  obtain ⟨q0, q1, ⟨q2, q3⟩, q5⟩ := hQ
  have kn : σ 40 0 = σ0 40 0 := q0 _ _ (by simp)
  have kw := mW_now kn
  have fin : v3 = a2 → (RepM σ ∧ σ 55 0 0 = (σ 40 0 0) ∧ ∀ x, 0 ≤ x → x < (σ 40 0 0) → 0 ≤ σ 55 0 (1 + x) ∧ σ 55 0 (1 + x) < 26) ∧ aToM σ = aTo (mW σ0) (σ0 40 0 0) (turnW (mW σ0) a1 a2) ∧ ∀ σ' o, ActM σ σ' o → ActM σ0 σ' o := fun z => by
    refine as_in hR q0 q1 (fun x x0 x1 => ?_) (fun x x0 x1 => ?_)
    · rw [q5 x x0 x1, z]; rfl
    · unfold turnW
      split
      · exact m_let hR (by omega) (by omega)
      · exact m_let hR x0 x1
  refine ⟨fun c1 => ?_, fun c1 => ?_⟩
  · skip
    refine ⟨(by exact (fin (by omega)).1), (fun σ2 r2 o2 h2a h2b => ?_)⟩
    intro _ _
    obtain ⟨f1, f2, f3⟩ := fin (by omega)
    exact hG _ _ _ (by unfold aTurn; rw [if_pos q2, ← f2]; assumption) (f3 _ _ (by assumption))
  · skip
    refine ⟨(by omega), ?_⟩
    refine ⟨(by omega), ?_⟩
    refine ⟨(by omega), ?_⟩
    refine ⟨(by omega), ?_⟩
    refine ⟨(by rw [kn]; omega), ?_⟩
    intro _ _
    rw [kw]
    refine ⟨(by omega), fun σ2 e2 => ?_⟩
    refine ⟨(by omega), ?_⟩
    refine ⟨_, ?_, _, rfl, rfl, ?_⟩
    · omega
    · refine ⟨?_, ?_, ?_, ?_⟩
      · rw [e2]; exact Fr_trans q0 (Fr_u3 (by simp))
      · rw [e2, u3_k (by omega), q1]
      · first | rfl | assumption | omega
      · intro x x0 x1
        rw [e2, u3_e]
        split
        · next c => rw [if_pos (by omega)]; exact congrArg _ (by omega)
        · next c =>
          rw [q5 x x0 x1]
          split
          · rw [if_pos (by omega)]
          · rw [if_neg (by omega)]
theorem e_Mo_turn (a1 : Int) (a2 : Int) (σ : SS) (K : AV → SS → Prop) (ha1 : InR a1) (ha2 : InR a2) (hs : okS σ) (hG : S_Mo_turn [vR 12 0, vI a1, vI a2] σ K) : VE_Mo_turn a1 a2 σ K := by
  unfold VE_Mo_turn
  obtain ⟨hR, hG⟩ := hG
  have hb := hR.1.1.n
  refine ⟨(by exact hR.1.1), ?_⟩
  refine bS_b1 (fun p1 _ => ?_) (fun p1 _ => ?_)
  · skip
    refine (fun σ2 h2a h2b => ?_)
    intro _
    refine ⟨_, _, rfl, rfl, ?_⟩
    refine ⟨?_, ?_, ?_, ?_⟩
    · exact h2a
    · rw [h2b 0 (by omega) (by omega)]
    · first | rfl | assumption | omega
    · exact fun x x0 x1 => by rw [h2b _ (by omega) (by omega), if_neg (by omega), mW_in x0 x1]
  · skip
    exact hG _ _ _ (if_neg (by assumption)) (ActM_n hR)
theorem H_Mo_turn {d : Nat} (hd : 4 ≤ d) : Holds d I_Mo_turn S_Mo_turn := by
  refine holds_of (d' := d - 1) (rt := 1) (cal := [(I_Mo_isPart, S_Mo_isPart), (I_Mo_putsAside, S_Mo_putsAside), (I_Mo_at, S_Mo_at), (I_Mo_becomesAside, S_Mo_becomesAside)]) (C := C_Mo_turn) m_Mo_turn o_Mo_turn rfl rfl (by omega) ?_ ?_
  · intro x hx
    simp only [List.mem_cons, List.not_mem_nil, or_false] at hx
    rcases hx with rfl | rfl | rfl | rfl
    · exact H_Mo_isPart (by omega)
    · exact H_Mo_putsAside (by omega)
    · exact H_Mo_at (by omega)
    · exact H_Mo_becomesAside (by omega)
  · intro as σ K has hσ hG
    have hG2 := hG
    unfold S_Mo_turn at hG2
    split at hG2
    · next a1 a2 =>
      refine ⟨Nat.le_of_ble_eq_true rfl, (Iv_Mo_turn a1 a2 σ), ?_, 1000, ?_⟩
      · intro k n z L σ' hk hL hs hP
        unfold Iv_Mo_turn at hk
        split at hk
        · cases hk
          obtain ⟨v3, rfl, hn, hQ⟩ := hP
          exact ⟨1000, l_Mo_turn_11 a1 a2 σ K (has _ (List.mem_of_getElem? (i := 1) rfl)) (has _ (List.mem_of_getElem? (i := 2) rfl)) hσ hG v3 σ' (hL _ (List.mem_of_getElem? (i := 3) rfl)) hs n hn hQ⟩
        · cases hk
      · exact e_Mo_turn a1 a2 σ K (has _ (List.mem_of_getElem? (i := 1) rfl)) (has _ (List.mem_of_getElem? (i := 2) rfl)) hσ hG
    · exact hG2.elim
theorem rot_mod {x k n : Int} (hx : 0 ≤ x) (hn : x < n) (hk : 0 ≤ k) (hk2 : k ≤ n) : (0 ≤ Int.tmod (x + k) n ∧ Int.tmod (x + k) n < n) ∧ Int.tmod (x + k) n = if x < n - k then k + x else x - (n - k) := by
  have e : Int.tmod (x + k) n = (x + k) % n := Int.tmod_eq_emod_of_nonneg (by omega)
  rw [e]
  split
  · next c => rw [Int.emod_eq_of_lt (by omega) (by omega)]; omega
  · next c =>
    have : (x + k) % n = x + k - n := by
      rw [show x + k = (x + k - n) + n by omega, Int.add_emod_right, Int.emod_eq_of_lt (by omega) (by omega)]
      omega
    omega
def S_Mo_rotate : GS := fun as σ K => match as with
  | [some (.inr (.inr (12, 0))), some (.inl a1)] => RepM σ ∧ ∀ σ' r o, aRot (mW σ) (σ 40 0 0) a1 = (r, o) → ActM σ σ' o → K (vI r) σ'
  | _ => False
abbrev Lp_Mo_rotate_14 (a1 : Int) (σ0 : SS) (n : Nat) (L : List AV) (σ : SS) : Prop := ∃ (v2 : Int), L = [vR 12 0, vI a1, vI v2] ∧ n = (1000 - v2).toNat ∧ ((Fr [(55, 0)] σ0 σ) ∧ (σ 55 0 0 = (σ0 40 0 0)) ∧ ((0 ≤ a1 ∧ a1 ≤ (σ0 40 0 0)) ∧ 0 ≤ v2 ∧ v2 ≤ (σ0 40 0 0)) ∧ (∀ x, 0 ≤ x → x < (σ0 40 0 0) → σ 55 0 (1 + x) = if x < v2 then rotW (mW σ0) (σ0 40 0 0) a1 x else mW σ0 x))
def Iv_Mo_rotate (a1 : Int) (σ0 : SS) (k : Nat) : Option (List Nat × (Nat → List AV → SS → Prop)) := match k with
  | 14 => some ([], Lp_Mo_rotate_14 a1 σ0)
  | _ => none
def VE_Mo_rotate (a1 : Int) (σ : SS) (K : AV → SS → Prop) : Prop :=
  (S_Mo_size [vR 12 0] σ (kI fun r1 σ1 =>
    (S_Mo_in [vL a1, vL 0, vL r1] σ1 (kI fun r2 σ2 =>
      ((r2 ≠ 0 →
        (S_Mo_putsAside [vR 12 0] σ2 (kV fun σ3 =>
          (∃ n', Lp_Mo_rotate_14 a1 σ n' [vR 12 0, vI a1, vI 0] σ3)))) ∧
      (r2 = 0 →
        (K (vI (-1)) σ2)))))))
def VL_Mo_rotate_14 (a1 : Int) (σ0 : SS) (K : AV → SS → Prop) (v2 : Int) (σ : SS) (n : Nat) : Prop :=
  (S_Mo_size [vR 12 0] σ (kI fun r1 σ1 =>
    ((r1 ≤ v2 →
      (S_Mo_becomesAside [vR 12 0] σ1 (kI fun r2 σ2 =>
        (K (vI r2) σ2)))) ∧
    (v2 < r1 →
      (InR (1 + v2) ∧
      (InR (v2 + a1) ∧
      (S_Mo_size [vR 12 0] σ1 (kI fun r3 σ3 =>
        (((r3 : Int) ≠ 0 ∧ InR (Int.tmod (v2 + a1) r3)) ∧
        (S_Mo_at [vR 12 0, vI (Int.tmod (v2 + a1) r3)] σ3 (kI fun r4 σ4 =>
          ((0 ≤ (1 + v2 : Int) ∧ (1 + v2 : Int) < 121) ∧ ∀ σ5 : SS, σ5 = u3 σ4 55 0 (1 + v2) r4 →
          (InR (v2 + 1) ∧
          (∃ n', n' < n ∧ Lp_Mo_rotate_14 a1 σ0 n' [vR 12 0, vI a1, vI (v2 + 1)] σ5))))))))))))))
theorem l_Mo_rotate_14 (a1 : Int) (σ0 : SS) (K : AV → SS → Prop) (ha1 : InR a1) (hs0 : okS σ0) (hG : S_Mo_rotate [vR 12 0, vI a1] σ0 K) (v2 : Int) (σ : SS) (hv2 : InR v2) (hs : okS σ) (n : Nat) (hn : n = (1000 - v2).toNat) (hQ : (Fr [(55, 0)] σ0 σ) ∧ (σ 55 0 0 = (σ0 40 0 0)) ∧ ((0 ≤ a1 ∧ a1 ≤ (σ0 40 0 0)) ∧ 0 ≤ v2 ∧ v2 ≤ (σ0 40 0 0)) ∧ (∀ x, 0 ≤ x → x < (σ0 40 0 0) → σ 55 0 (1 + x) = if x < v2 then rotW (mW σ0) (σ0 40 0 0) a1 x else mW σ0 x)) : VL_Mo_rotate_14 a1 σ0 K v2 σ n := by
  unfold VL_Mo_rotate_14
  obtain ⟨hR, hG⟩ := hG
  have hb := hR.1.1.n
  obtain ⟨q0, q1, ⟨q2, q3⟩, q5⟩ := hQ
  have kn : σ 40 0 = σ0 40 0 := q0 _ _ (by simp)
  have kw := mW_now kn
  have kn0 := congrFun kn 0
  have rm : (σ 40 0 0) ≤ v2 ∨ (0 ≤ Int.tmod (v2 + a1) (σ 40 0 0) ∧ Int.tmod (v2 + a1) (σ 40 0 0) < (σ 40 0 0)) := by
    rcases (by omega : (σ 40 0 0) ≤ v2 ∨ v2 < (σ 40 0 0)) with z | z
    · exact Or.inl z
    · exact Or.inr (rot_mod (by omega) z (by omega) (by omega)).1
  have fin : v2 = (σ0 40 0 0) → (RepM σ ∧ σ 55 0 0 = (σ 40 0 0) ∧ ∀ x, 0 ≤ x → x < (σ 40 0 0) → 0 ≤ σ 55 0 (1 + x) ∧ σ 55 0 (1 + x) < 26) ∧ aToM σ = aTo (mW σ0) (σ0 40 0 0) (rotW (mW σ0) (σ0 40 0 0) a1) ∧ ∀ σ' o, ActM σ σ' o → ActM σ0 σ' o := fun z => by
    refine as_in hR q0 q1 (fun x x0 x1 => ?_) (fun x x0 x1 => ?_)
    · rw [q5 x x0 x1, if_pos (by omega)]
    · unfold rotW
      split
      · exact m_let hR (by omega) (by omega)
      · exact m_let hR (by omega) (by omega)
  intro _ _
  refine ⟨fun c1 => ?_, fun c1 => ?_⟩
  · skip
    refine ⟨(by exact (fin (by omega)).1), (fun σ2 r2 o2 h2a h2b => ?_)⟩
    intro _ _
    obtain ⟨f1, f2, f3⟩ := fin (by omega)
    exact hG _ _ _ (by unfold aRot; rw [if_pos q2, ← f2]; assumption) (f3 _ _ (by assumption))
  · skip
    refine ⟨(by omega), ?_⟩
    refine ⟨(by omega), ?_⟩
    intro _ _
    refine ⟨(by omega), ?_⟩
    refine ⟨(by omega), ?_⟩
    intro _ _
    refine ⟨(by omega), fun σ2 e2 => ?_⟩
    refine ⟨(by omega), ?_⟩
    refine ⟨_, ?_, _, rfl, rfl, ?_⟩
    · omega
    · refine ⟨?_, ?_, ?_, ?_⟩
      · rw [e2]; exact Fr_trans q0 (Fr_u3 (by simp))
      · rw [e2, u3_k (by omega), q1]
      · first | rfl | assumption | omega
      · intro x x0 x1
        rw [e2, u3_e]
        split
        · next c =>
          have := rot_mod (x := v2) (k := a1) (n := (σ0 40 0 0)) (by omega) (by omega) (by omega) (by omega)
          rw [if_pos (by omega), kw, kn0, this.2, show x = v2 by omega]
          unfold rotW
          split
          · rfl
          · rfl
        · next c =>
          rw [q5 x x0 x1]
          split
          · rw [if_pos (by omega)]
          · rw [if_neg (by omega)]
theorem e_Mo_rotate (a1 : Int) (σ : SS) (K : AV → SS → Prop) (ha1 : InR a1) (hs : okS σ) (hG : S_Mo_rotate [vR 12 0, vI a1] σ K) : VE_Mo_rotate a1 σ K := by
  unfold VE_Mo_rotate
  obtain ⟨hR, hG⟩ := hG
  have hb := hR.1.1.n
  intro _ _
  refine bS_b1 (fun p1 _ => ?_) (fun p1 _ => ?_)
  · skip
    refine (fun σ2 h2a h2b => ?_)
    intro _
    refine ⟨_, _, rfl, rfl, ?_⟩
    refine ⟨?_, ?_, ?_, ?_⟩
    · exact h2a
    · rw [h2b 0 (by omega) (by omega)]
    · first | rfl | assumption | omega
    · exact fun x x0 x1 => by rw [h2b _ (by omega) (by omega), if_neg (by omega), mW_in x0 x1]
  · skip
    exact hG _ _ _ (if_neg (by omega)) (ActM_n hR)
theorem H_Mo_rotate {d : Nat} (hd : 4 ≤ d) : Holds d I_Mo_rotate S_Mo_rotate := by
  refine holds_of (d' := d - 1) (rt := 1) (cal := [(I_Mo_size, S_Mo_size), (I_Mo_in, S_Mo_in), (I_Mo_putsAside, S_Mo_putsAside), (I_Mo_at, S_Mo_at), (I_Mo_becomesAside, S_Mo_becomesAside)]) (C := C_Mo_rotate) m_Mo_rotate o_Mo_rotate rfl rfl (by omega) ?_ ?_
  · intro x hx
    simp only [List.mem_cons, List.not_mem_nil, or_false] at hx
    rcases hx with rfl | rfl | rfl | rfl | rfl
    · exact H_Mo_size (by omega)
    · exact H_Mo_in (by omega)
    · exact H_Mo_putsAside (by omega)
    · exact H_Mo_at (by omega)
    · exact H_Mo_becomesAside (by omega)
  · intro as σ K has hσ hG
    have hG2 := hG
    unfold S_Mo_rotate at hG2
    split at hG2
    · next a1 =>
      refine ⟨Nat.le_of_ble_eq_true rfl, (Iv_Mo_rotate a1 σ), ?_, 1000, ?_⟩
      · intro k n z L σ' hk hL hs hP
        unfold Iv_Mo_rotate at hk
        split at hk
        · cases hk
          obtain ⟨v2, rfl, hn, hQ⟩ := hP
          exact ⟨1000, l_Mo_rotate_14 a1 σ K (has _ (List.mem_of_getElem? (i := 1) rfl)) hσ hG v2 σ' (hL _ (List.mem_of_getElem? (i := 2) rfl)) hs n hn hQ⟩
        · cases hk
      · exact e_Mo_rotate a1 σ K (has _ (List.mem_of_getElem? (i := 1) rfl)) hσ hG
    · exact hG2.elim
theorem subW_s {w : Int → Int} {a i j v : Int} (hv : 0 ≤ v) : subW w a i j (v + 1).toNat = if w v = a then (catW (subW w a i j v.toNat).1 (subW w a i j v.toNat).2 (fun x => w (i + x)), (subW w a i j v.toNat).2 + (j - i)) else (catW (subW w a i j v.toNat).1 (subW w a i j v.toNat).2 (fun _ => w v), (subW w a i j v.toNat).2 + 1) := by
  rw [show (v + 1).toNat = v.toNat + 1 by omega, show w v = w ((v.toNat : Nat) : Int) by rw [show ((v.toNat : Nat) : Int) = v by omega]]
  rfl
theorem subW_le {w : Int → Int} {a i j v n : Int} (h : i ≤ j) (hv : v ≤ n) : (subW w a i j v.toNat).2 ≤ (subW w a i j n.toNat).2 := by
  have := subW_up (w := w) (a := a) h (n.toNat - v.toNat) v.toNat
  rwa [show v.toNat + (n.toNat - v.toNat) = n.toNat by omega] at this
theorem subW_l {w : Int → Int} {a i j n : Int} (hl : ∀ x, 0 ≤ x → x < n → 0 ≤ w x ∧ w x < 26) (hi : 0 ≤ i) (hij : i ≤ j) (hj : j ≤ n) : ∀ k : Nat, (k : Int) ≤ n → ∀ x, 0 ≤ x → x < (subW w a i j k).2 → 0 ≤ (subW w a i j k).1 x ∧ (subW w a i j k).1 x < 26 := by
  intro k
  induction k with
  | zero => intro _ x x0 x1; exact absurd x1 (by show ¬ x < 0; omega)
  | succ k ih =>
    intro hk x x0 x1
    unfold subW at x1 ⊢
    by_cases c : w k = a
    · rw [if_pos c] at x1 ⊢
      have y1 : x < (subW w a i j k).2 + (j - i) := x1
      dsimp only
      unfold catW
      split
      · next d => exact ih (by omega) x x0 d
      · exact hl _ (by omega) (by omega)
    · rw [if_neg c] at x1 ⊢
      have y1 : x < (subW w a i j k).2 + 1 := x1
      dsimp only
      unfold catW
      split
      · next d => exact ih (by omega) x x0 d
      · exact hl _ (by omega) (by omega)
def sbI (σ0 σ : SS) (a1 a2 a3 v6 v7 : Int) : Prop := KA σ0 σ ∧ (∀ x, 0 ≤ x → x < 121 → σ 55 0 x = σ0 40 0 x) ∧ (((0 ≤ a1 ∧ a1 < 26) ∧ 0 ≤ a2 ∧ a2 ≤ a3 ∧ a3 ≤ (σ0 40 0 0)) ∧ 0 ≤ v7 ∧ v7 ≤ (σ0 40 0 0)) ∧ (¬ (cntZ (fun x => mW σ0 x = a1) 0 (σ0 40 0 0) = 0 ∨ 120 < (σ0 40 0 0) + cntZ (fun x => mW σ0 x = a1) 0 (σ0 40 0 0) * (a3 - a2 - 1))) ∧ v6 = (subW (mW σ0) a1 a2 a3 v7.toNat).2 ∧ ∀ x, 0 ≤ x → x < v6 → σ 40 0 (1 + x) = (subW (mW σ0) a1 a2 a3 v7.toNat).1 x
theorem sb_tot {σ0 σ : SS} {a1 a2 a3 v6 v7 : Int} (hR : RepM σ0) (h : sbI σ0 σ a1 a2 a3 v6 v7) : (subW (mW σ0) a1 a2 a3 (σ0 40 0 0).toNat).2 ≤ 120 ∧ 0 ≤ v6 ∧ v6 ≤ 120 := by
  obtain ⟨h1, h2, ⟨h3, h4⟩, h5, h6, h7⟩ := h
  have hb := hR.1.1.n
  have t : (subW (mW σ0) a1 a2 a3 (σ0 40 0 0).toNat).2 ≤ 120 := by
    rw [subW_n, show (((σ0 40 0 0).toNat : Nat) : Int) = (σ0 40 0 0) by omega]
    omega
  have a := subW_le (w := mW σ0) (a := a1) h3.2.2.1 h4.2
  have b := subW_0 (w := mW σ0) (a := a1) h3.2.2.1 v7.toNat
  omega
theorem sb_nx {σ0 σ : SS} {a1 a2 a3 v6 v7 : Int} (hR : RepM σ0) (h : sbI σ0 σ a1 a2 a3 v6 v7) (h7 : v7 < (σ0 40 0 0)) : σ 55 0 (1 + v7) = mW σ0 v7 ∧ (mW σ0 v7 = a1 → v6 + (a3 - a2) ≤ 120) ∧ (mW σ0 v7 ≠ a1 → v6 + 1 ≤ 120) := by
  have t := (sb_tot hR h).1
  obtain ⟨h1, h2, ⟨h3, h4⟩, h5, h6, h8⟩ := h
  have hb := hR.1.1.n
  have a := subW_le (w := mW σ0) (a := a1) (v := v7 + 1) h3.2.2.1 (by omega : v7 + 1 ≤ (σ0 40 0 0))
  refine ⟨by rw [h2 _ (by omega) (by omega), mW_in h4.1 h7], fun c => ?_, fun c => ?_⟩
  · rw [subW_s h4.1, if_pos c] at a
    have a' : (subW (mW σ0) a1 a2 a3 v7.toNat).2 + (a3 - a2) ≤ (subW (mW σ0) a1 a2 a3 (σ0 40 0 0).toNat).2 := a
    omega
  · rw [subW_s h4.1, if_neg c] at a
    have a' : (subW (mW σ0) a1 a2 a3 v7.toNat).2 + 1 ≤ (subW (mW σ0) a1 a2 a3 (σ0 40 0 0).toNat).2 := a
    omega
theorem sb_no {σ0 σ σ' : SS} {a1 a2 a3 v6 v7 : Int} (h : sbI σ0 σ a1 a2 a3 v6 v7) (hR : RepM σ0) (h7 : v7 < (σ0 40 0 0)) (hc : σ 55 0 (1 + v7) ≠ a1) (e : σ' = u3 σ 40 0 (1 + v6) (σ 55 0 (1 + v7))) : sbI σ0 σ' a1 a2 a3 (v6 + 1) (v7 + 1) := by
  obtain ⟨n1, n2, n3⟩ := sb_nx hR h h7
  rw [n1] at hc e
  obtain ⟨h1, h2, ⟨h3, h4⟩, h5, h6, h8⟩ := h
  unfold sbI
  rw [subW_s h4.1, if_neg hc]
  refine ⟨by rw [e]; exact KA_st h1 (Fr_u3 (by simp [NaL])), fun x x0 x1 => by rw [e, u3_f (by decide)]; exact h2 x x0 x1, ⟨h3, by omega, by omega⟩, h5, by rw [h6], fun x x0 x1 => ?_⟩
  dsimp only
  unfold catW
  rw [e, u3_e]
  split
  · next c => rw [if_neg (by omega)]
  · next c => rw [if_pos (by omega)]; exact h8 x x0 (by omega)
theorem sb_in {σ0 σ σ' : SS} {a1 a2 a3 v6 v7 v8 : Int} (h : sbI σ0 σ a1 a2 a3 v6 v7) (e : σ' = u3 σ 40 0 (1 + v6 + v8 - a2) (σ 55 0 (1 + v8))) (h8 : a2 ≤ v8) : sbI σ0 σ' a1 a2 a3 v6 v7 := by
  obtain ⟨h1, h2, h3, h5, h6, h9⟩ := h
  refine ⟨by rw [e]; exact KA_st h1 (Fr_u3 (by simp [NaL])), fun x x0 x1 => by rw [e, u3_f (by decide)]; exact h2 x x0 x1, h3, h5, h6, fun x x0 x1 => ?_⟩
  rw [e, u3_k (by omega)]
  exact h9 x x0 x1
theorem sb_yes {σ0 σ : SS} {a1 a2 a3 v6 v7 : Int} (h : sbI σ0 σ a1 a2 a3 v6 v7) (hc : mW σ0 v7 = a1) (h7 : v7 < (σ0 40 0 0)) (hx : ∀ x, 0 ≤ x → x < a3 - a2 → σ 40 0 (1 + v6 + x) = mW σ0 (a2 + x)) : sbI σ0 σ a1 a2 a3 (v6 + (a3 - a2)) (v7 + 1) := by
  obtain ⟨h1, h2, ⟨h3, h4⟩, h5, h6, h8⟩ := h
  unfold sbI
  rw [subW_s h4.1, if_pos hc]
  refine ⟨h1, h2, ⟨h3, by omega, by omega⟩, h5, by rw [h6], fun x x0 x1 => ?_⟩
  dsimp only
  unfold catW
  split
  · exact h8 x x0 (by omega)
  · have := hx (x - v6) (by omega) (by omega)
    rw [show 1 + v6 + (x - v6) = 1 + x by omega] at this
    rw [this, h6]
theorem sb_out {σ0 σ σ' : SS} {a1 a2 a3 v6 v7 : Int} (hR : RepM σ0) (h : sbI σ0 σ a1 a2 a3 v6 v7) (h7 : (σ0 40 0 0) ≤ v7) (e : σ' = u3 σ 40 0 0 v6) : aSub (mW σ0) (σ0 40 0 0) a1 a2 a3 = (v6, some (nW (subW (mW σ0) a1 a2 a3 (σ0 40 0 0).toNat).1 v6)) ∧ ActM σ0 σ' (some (nW (subW (mW σ0) a1 a2 a3 (σ0 40 0 0).toNat).1 v6)) := by
  obtain ⟨t, t2⟩ := sb_tot hR h
  obtain ⟨h1, h2, ⟨h3, h4⟩, h5, h6, h8⟩ := h
  have e7 : v7 = (σ0 40 0 0) := by omega
  subst e7
  have hl := subW_l (w := mW σ0) (a := a1) (i := a2) (j := a3) (fun x x0 x1 => m_let hR x0 x1) h3.2.1 h3.2.2.1 h3.2.2.2 (σ0 40 0 0).toNat (by omega)
  refine ⟨by unfold aSub; rw [if_pos h3, if_neg h5, ← h6], KA_act hR (KA_st h1 (by rw [e]; exact Fr_u3 (by simp [NaL]))) t2 (by rw [e, u3_s]) (fun x x0 x1 => ?_) (fun x x0 x1 => hl x x0 (by omega))⟩
  rw [e, u3_k (by omega)]
  exact h8 x x0 x1
theorem ROft_c {w : Int → Int} {n a r : Int} (h : ROft w n a r) (ha : 0 ≤ a ∧ a < 26) : r = cntZ (fun x => w x = a) 0 n := by
  rcases h with ⟨h1, _⟩ | ⟨_, _, h3⟩ | ⟨h1, _⟩
  · omega
  · exact h3
  · omega
def S_Mo_sub : GS := fun as σ K => match as with
  | [some (.inr (.inr (12, 0))), some (.inl a1), some (.inl a2), some (.inl a3)] => RepM σ ∧ ∀ σ' r o, aSub (mW σ) (σ 40 0 0) a1 a2 a3 = (r, o) → ActM σ σ' o → K (vI r) σ'
  | _ => False
abbrev Lp_Mo_sub_43 (a1 : Int) (a2 : Int) (a3 : Int) (σ0 : SS) (n : Nat) (L : List AV) (σ : SS) : Prop := ∃ (v4 : Int) (v5 : Int) (v6 : Int) (v7 : Int), L = [vR 12 0, vI a1, vI a2, vI a3, vI v4, vI v5, vI v6, vI v7, none] ∧ n = (1000 * (1000 - v7)).toNat ∧ ((sbI σ0 σ a1 a2 a3 v6 v7))
abbrev Lp_Mo_sub_59 (a1 : Int) (a2 : Int) (a3 : Int) (σ0 : SS) (n : Nat) (L : List AV) (σ : SS) : Prop := ∃ (v4 : Int) (v5 : Int) (v6 : Int) (v7 : Int) (v8 : Int), L = [vR 12 0, vI a1, vI a2, vI a3, vI v4, vI v5, vI v6, vI v7, vI v8] ∧ n = (1000 * (1000 - v7) - v8 - 1).toNat ∧ ((sbI σ0 σ a1 a2 a3 v6 v7) ∧ (v7 < (σ0 40 0 0) ∧ mW σ0 v7 = a1 ∧ a2 ≤ v8 ∧ v8 ≤ a3) ∧ (∀ x, 0 ≤ x → x < v8 - a2 → σ 40 0 (1 + v6 + x) = mW σ0 (a2 + x)))
def Iv_Mo_sub (a1 : Int) (a2 : Int) (a3 : Int) (σ0 : SS) (k : Nat) : Option (List Nat × (Nat → List AV → SS → Prop)) := match k with
  | 43 => some ([8], Lp_Mo_sub_43 a1 a2 a3 σ0)
  | 59 => some ([], Lp_Mo_sub_59 a1 a2 a3 σ0)
  | _ => none
def VE_Mo_sub (a1 : Int) (a2 : Int) (a3 : Int) (σ : SS) (K : AV → SS → Prop) : Prop :=
  (S_Mo_in [vL a1, vL 0, vL 25] σ (kI fun r1 σ1 =>
    ((r1 = 0 →
      (K (vI (-1)) σ1)) ∧
    (r1 ≠ 0 →
      (S_Mo_isPart [vR 12 0, vI a2, vI a3] σ1 (kI fun r2 σ2 =>
        ((r2 ≠ 0 →
          (S_Mo_often [vR 12 0, vI a1] σ2 (kI fun r3 σ3 =>
            (S_Mo_size [vR 12 0] σ3 (kI fun r4 σ4 =>
              (InR (a3 - a2) ∧
              (InR ((a3 - a2) - 1) ∧
              (InR (r3 * ((a3 - a2) - 1)) ∧
              (InR (r4 + (r3 * ((a3 - a2) - 1))) ∧
              ((r3 = 0 →
                (K (vI (-2)) σ4)) ∧
              (r3 ≠ 0 →
                (((r4 + (r3 * ((a3 - a2) - 1))) ≤ 120 →
                  (S_Mo_keepsAct [vR 12 0] σ4 (kV fun σ5 =>
                    (S_Mo_putsAside [vR 12 0] σ5 (kV fun σ6 =>
                      (∃ n', Lp_Mo_sub_43 a1 a2 a3 σ n' [vR 12 0, vI a1, vI a2, vI a3, vI r3, vI (r4 + (r3 * ((a3 - a2) - 1))), vI 0, vI 0, none] σ6)))))) ∧
                ((120 : Int) < (r4 + (r3 * ((a3 - a2) - 1))) →
                  (K (vI (-2)) σ4)))))))))))))) ∧
        (r2 = 0 →
          (K (vI (-1)) σ2)))))))))
def VL_Mo_sub_43 (a1 : Int) (a2 : Int) (a3 : Int) (σ0 : SS) (K : AV → SS → Prop) (v4 : Int) (v5 : Int) (v6 : Int) (v7 : Int) (σ : SS) (n : Nat) : Prop :=
  ((0 ≤ (0 : Int) ∧ (0 : Int) < 121) ∧
  (((σ 55 0 0) ≤ v7 →
    ((0 ≤ (0 : Int) ∧ (0 : Int) < 121) ∧ ∀ σ1 : SS, σ1 = u3 σ 40 0 0 v6 →
    (K (vI v6) σ1))) ∧
  (v7 < (σ 55 0 0) →
    (InR (1 + v7) ∧
    ((0 ≤ (1 + v7 : Int) ∧ (1 + v7 : Int) < 121) ∧
    (((σ 55 0 (1 + v7)) ≠ a1 →
      (InR (1 + v6) ∧
      (InR (1 + v7) ∧
      ((0 ≤ (1 + v7 : Int) ∧ (1 + v7 : Int) < 121) ∧
      ((0 ≤ (1 + v6 : Int) ∧ (1 + v6 : Int) < 121) ∧ ∀ σ2 : SS, σ2 = u3 σ 40 0 (1 + v6) (σ 55 0 (1 + v7)) →
      (InR (v6 + 1) ∧
      (InR (v7 + 1) ∧
      (∃ n', n' < n ∧ Lp_Mo_sub_43 a1 a2 a3 σ0 n' [vR 12 0, vI a1, vI a2, vI a3, vI v4, vI v5, vI (v6 + 1), vI (v7 + 1), none] σ2)))))))) ∧
    ((σ 55 0 (1 + v7)) = a1 →
      (∃ n', n' < n ∧ Lp_Mo_sub_59 a1 a2 a3 σ0 n' [vR 12 0, vI a1, vI a2, vI a3, vI v4, vI v5, vI v6, vI v7, vI a2] σ))))))))
def VL_Mo_sub_59 (a1 : Int) (a2 : Int) (a3 : Int) (σ0 : SS) (K : AV → SS → Prop) (v4 : Int) (v5 : Int) (v6 : Int) (v7 : Int) (v8 : Int) (σ : SS) (n : Nat) : Prop :=
  ((a3 ≤ v8 →
    (InR (a3 - a2) ∧
    (InR (v6 + (a3 - a2)) ∧
    (InR (v7 + 1) ∧
    (∃ n', n' < n ∧ Lp_Mo_sub_43 a1 a2 a3 σ0 n' [vR 12 0, vI a1, vI a2, vI a3, vI v4, vI v5, vI (v6 + (a3 - a2)), vI (v7 + 1), none] σ))))) ∧
  (v8 < a3 →
    (InR (1 + v6) ∧
    (InR ((1 + v6) + v8) ∧
    (InR (((1 + v6) + v8) - a2) ∧
    (InR (1 + v8) ∧
    ((0 ≤ (1 + v8 : Int) ∧ (1 + v8 : Int) < 121) ∧
    ((0 ≤ (((1 + v6) + v8) - a2 : Int) ∧ (((1 + v6) + v8) - a2 : Int) < 121) ∧ ∀ σ1 : SS, σ1 = u3 σ 40 0 (((1 + v6) + v8) - a2) (σ 55 0 (1 + v8)) →
    (InR (v8 + 1) ∧
    (∃ n', n' < n ∧ Lp_Mo_sub_59 a1 a2 a3 σ0 n' [vR 12 0, vI a1, vI a2, vI a3, vI v4, vI v5, vI v6, vI v7, vI (v8 + 1)] σ1))))))))))
theorem l_Mo_sub_43 (a1 : Int) (a2 : Int) (a3 : Int) (σ0 : SS) (K : AV → SS → Prop) (ha1 : InR a1) (ha2 : InR a2) (ha3 : InR a3) (hs0 : okS σ0) (hG : S_Mo_sub [vR 12 0, vI a1, vI a2, vI a3] σ0 K) (v4 : Int) (v5 : Int) (v6 : Int) (v7 : Int) (σ : SS) (hv4 : InR v4) (hv5 : InR v5) (hv6 : InR v6) (hv7 : InR v7) (hs : okS σ) (n : Nat) (hn : n = (1000 * (1000 - v7)).toNat) (hQ : (sbI σ0 σ a1 a2 a3 v6 v7)) : VL_Mo_sub_43 a1 a2 a3 σ0 K v4 v5 v6 v7 σ n := by
  unfold VL_Mo_sub_43
  obtain ⟨hR, hG⟩ := hG
  have hb := hR.1.1.n
  have hI := hQ
  have tt := sb_tot hR hI
  have ea : σ 55 0 0 = (σ0 40 0 0) := hI.2.1 0 (by omega) (by omega)
  obtain ⟨i3, i4⟩ := hI.2.2.1
  have nx : (σ0 40 0 0) ≤ v7 ∨ σ 55 0 (1 + v7) = a1 ∨ v6 + 1 ≤ 120 := by
    rcases (by omega : (σ0 40 0 0) ≤ v7 ∨ v7 < (σ0 40 0 0)) with z | z
    · exact Or.inl z
    · obtain ⟨n1, n2, n3⟩ := sb_nx hR hI z
      rw [n1]
      by_cases c : mW σ0 v7 = a1
      · exact Or.inr (Or.inl c)
      · exact Or.inr (Or.inr (n3 c))
  refine ⟨(by omega), ?_⟩
  refine ⟨fun c1 => ?_, fun c1 => ?_⟩
  · skip
    refine ⟨(by omega), fun σ2 e2 => ?_⟩
    obtain ⟨o1, o2⟩ := sb_out hR hI (by omega) e2
    exact hG _ _ _ o1 o2
  · skip
    refine ⟨(by omega), ?_⟩
    refine ⟨(by omega), ?_⟩
    refine ⟨fun c2 => ?_, fun c2 => ?_⟩
    · skip
      refine ⟨(by omega), ?_⟩
      refine ⟨(by omega), ?_⟩
      refine ⟨(by omega), ?_⟩
      refine ⟨(by omega), fun σ3 e3 => ?_⟩
      refine ⟨(by omega), ?_⟩
      refine ⟨(by omega), ?_⟩
      refine ⟨_, ?_, _, _, _, _, rfl, rfl, ?_⟩
      · omega
      · exact sb_no hI hR (by omega) (by assumption) (by assumption)
    · skip
      refine ⟨_, ?_, _, _, _, _, _, rfl, rfl, ?_⟩
      · omega
      · refine ⟨?_, ?_, ?_⟩
        · first | rfl | assumption | omega
        · exact ⟨by omega, by rw [← (sb_nx hR hI (by omega)).1]; assumption, by omega, by omega⟩
        · exact fun x x0 x1 => by omega
theorem l_Mo_sub_59 (a1 : Int) (a2 : Int) (a3 : Int) (σ0 : SS) (K : AV → SS → Prop) (ha1 : InR a1) (ha2 : InR a2) (ha3 : InR a3) (hs0 : okS σ0) (hG : S_Mo_sub [vR 12 0, vI a1, vI a2, vI a3] σ0 K) (v4 : Int) (v5 : Int) (v6 : Int) (v7 : Int) (v8 : Int) (σ : SS) (hv4 : InR v4) (hv5 : InR v5) (hv6 : InR v6) (hv7 : InR v7) (hv8 : InR v8) (hs : okS σ) (n : Nat) (hn : n = (1000 * (1000 - v7) - v8 - 1).toNat) (hQ : (sbI σ0 σ a1 a2 a3 v6 v7) ∧ (v7 < (σ0 40 0 0) ∧ mW σ0 v7 = a1 ∧ a2 ≤ v8 ∧ v8 ≤ a3) ∧ (∀ x, 0 ≤ x → x < v8 - a2 → σ 40 0 (1 + v6 + x) = mW σ0 (a2 + x))) : VL_Mo_sub_59 a1 a2 a3 σ0 K v4 v5 v6 v7 v8 σ n := by
  unfold VL_Mo_sub_59
  obtain ⟨hR, hG⟩ := hG
  have hb := hR.1.1.n
  obtain ⟨hI, ⟨q1, q2, q3⟩, q4⟩ := hQ
  have tt := sb_tot hR hI
  have n2 := (sb_nx hR hI q1).2.1 q2
  obtain ⟨i3, i4⟩ := hI.2.2.1
  refine ⟨fun c1 => ?_, fun c1 => ?_⟩
  · skip
    refine ⟨(by omega), ?_⟩
    refine ⟨(by omega), ?_⟩
    refine ⟨(by omega), ?_⟩
    refine ⟨_, ?_, _, _, _, _, rfl, rfl, ?_⟩
    · omega
    · exact sb_yes hI q2 q1 (fun x x0 x1 => q4 x x0 (by omega))
  · skip
    refine ⟨(by omega), ?_⟩
    refine ⟨(by omega), ?_⟩
    refine ⟨(by omega), ?_⟩
    refine ⟨(by omega), ?_⟩
    refine ⟨(by omega), ?_⟩
    refine ⟨(by omega), fun σ2 e2 => ?_⟩
    refine ⟨(by omega), ?_⟩
    refine ⟨_, ?_, _, _, _, _, _, rfl, rfl, ?_⟩
    · omega
    · refine ⟨?_, ?_, ?_⟩
      · exact sb_in hI (by assumption) q3.1
      · first | rfl | assumption | omega
      · intro x x0 x1
        rw [e2, u3_e]
        split
        · next c => rw [hI.2.1 (1 + v8) (by omega) (by omega), ← mW_in (σ := σ0) (x := v8) (by omega) (by omega)]; exact congrArg _ (by omega)
        · next c => exact q4 x x0 (by omega)
theorem e_Mo_sub (a1 : Int) (a2 : Int) (a3 : Int) (σ : SS) (K : AV → SS → Prop) (ha1 : InR a1) (ha2 : InR a2) (ha3 : InR a3) (hs : okS σ) (hG : S_Mo_sub [vR 12 0, vI a1, vI a2, vI a3] σ K) : VE_Mo_sub a1 a2 a3 σ K := by
  unfold VE_Mo_sub
  obtain ⟨hR, hG⟩ := hG
  have hb := hR.1.1.n
  have cb := cntZ_in (P := fun x => mW σ x = a1) (a := 0) (b := (σ 40 0 0))
  refine bS_b0 (fun p1 _ => ?_) (fun p1 _ => ?_)
  · skip
    refine ⟨(by exact hR.1.1), ?_⟩
    refine bS_b1 (fun p2 _ => ?_) (fun p2 _ => ?_)
    · skip
      refine ⟨(by exact hR.1.1), (fun r3 h3a => ?_)⟩
      intro _ _
      have ro := ROft_c h3a (by omega)
      have md := mul_bd (x := r3) (y := a3 - a2 - 1) (by omega) (by omega) (by omega) (by omega)
      intro _ _
      refine ⟨(by omega), ?_⟩
      refine ⟨(by omega), ?_⟩
      refine ⟨(by omega), ?_⟩
      refine ⟨(by omega), ?_⟩
      refine ⟨fun c4 => ?_, fun c4 => ?_⟩
      · skip
        first
          | exact hG _ _ _ (if_neg (by omega)) (ActM_n hR)
          | exact hG _ _ _ (by unfold aSub; rw [if_pos (by omega), if_pos (by rw [← ro]; omega)]) (ActM_n hR)
      · skip
        refine ⟨fun c5 => ?_, fun c5 => ?_⟩
        · skip
          refine ⟨(by exact hR), (fun σ6 h6a h6b h6c => ?_)⟩
          intro _
          have ka := h6a
          have kn := h6b
          refine (fun σ7 h7a h7b => ?_)
          intro _
          have ks : KA σ σ7 := KA_st ka (Fr_mono h7a (by simp [NaL]))
          have as := h7b
          refine ⟨_, _, _, _, _, rfl, rfl, ?_⟩
          exact ⟨ks, fun x x0 x1 => by rw [as x x0 x1, kn], ⟨⟨by omega, by omega⟩, by omega, by omega⟩, by rw [← ro]; omega, rfl, fun x x0 x1 => by omega⟩
        · skip
          first
            | exact hG _ _ _ (if_neg (by omega)) (ActM_n hR)
            | exact hG _ _ _ (by unfold aSub; rw [if_pos (by omega), if_pos (by rw [← ro]; omega)]) (ActM_n hR)
    · skip
      first
        | exact hG _ _ _ (if_neg (by omega)) (ActM_n hR)
        | exact hG _ _ _ (by unfold aSub; rw [if_pos (by omega), if_pos (by rw [← ro]; omega)]) (ActM_n hR)
  · skip
    first
      | exact hG _ _ _ (if_neg (by omega)) (ActM_n hR)
      | exact hG _ _ _ (by unfold aSub; rw [if_pos (by omega), if_pos (by rw [← ro]; omega)]) (ActM_n hR)
theorem H_Mo_sub {d : Nat} (hd : 5 ≤ d) : Holds d I_Mo_sub S_Mo_sub := by
  refine holds_of (d' := d - 1) (rt := 1) (cal := [(I_Mo_in, S_Mo_in), (I_Mo_isPart, S_Mo_isPart), (I_Mo_often, S_Mo_often), (I_Mo_size, S_Mo_size), (I_Mo_keepsAct, S_Mo_keepsAct), (I_Mo_putsAside, S_Mo_putsAside)]) (C := C_Mo_sub) m_Mo_sub o_Mo_sub rfl rfl (by omega) ?_ ?_
  · intro x hx
    simp only [List.mem_cons, List.not_mem_nil, or_false] at hx
    rcases hx with rfl | rfl | rfl | rfl | rfl | rfl
    · exact H_Mo_in (by omega)
    · exact H_Mo_isPart (by omega)
    · exact H_Mo_often (by omega)
    · exact H_Mo_size (by omega)
    · exact H_Mo_keepsAct (by omega)
    · exact H_Mo_putsAside (by omega)
  · intro as σ K has hσ hG
    have hG2 := hG
    unfold S_Mo_sub at hG2
    split at hG2
    · next a1 a2 a3 =>
      refine ⟨Nat.le_of_ble_eq_true rfl, (Iv_Mo_sub a1 a2 a3 σ), ?_, 1000, ?_⟩
      · intro k n z L σ' hk hL hs hP
        unfold Iv_Mo_sub at hk
        split at hk
        · cases hk
          obtain ⟨v4, v5, v6, v7, rfl, hn, hQ⟩ := hP
          exact ⟨1000, l_Mo_sub_43 a1 a2 a3 σ K (has _ (List.mem_of_getElem? (i := 1) rfl)) (has _ (List.mem_of_getElem? (i := 2) rfl)) (has _ (List.mem_of_getElem? (i := 3) rfl)) hσ hG v4 v5 v6 v7 σ' (hL _ (List.mem_of_getElem? (i := 4) rfl)) (hL _ (List.mem_of_getElem? (i := 5) rfl)) (hL _ (List.mem_of_getElem? (i := 6) rfl)) (hL _ (List.mem_of_getElem? (i := 7) rfl)) hs n hn hQ⟩
        · cases hk
          obtain ⟨v4, v5, v6, v7, v8, rfl, hn, hQ⟩ := hP
          exact ⟨1000, l_Mo_sub_59 a1 a2 a3 σ K (has _ (List.mem_of_getElem? (i := 1) rfl)) (has _ (List.mem_of_getElem? (i := 2) rfl)) (has _ (List.mem_of_getElem? (i := 3) rfl)) hσ hG v4 v5 v6 v7 v8 σ' (hL _ (List.mem_of_getElem? (i := 4) rfl)) (hL _ (List.mem_of_getElem? (i := 5) rfl)) (hL _ (List.mem_of_getElem? (i := 6) rfl)) (hL _ (List.mem_of_getElem? (i := 7) rfl)) (hL _ (List.mem_of_getElem? (i := 8) rfl)) hs n hn hQ⟩
        · cases hk
      · exact e_Mo_sub a1 a2 a3 σ K (has _ (List.mem_of_getElem? (i := 1) rfl)) (has _ (List.mem_of_getElem? (i := 2) rfl)) (has _ (List.mem_of_getElem? (i := 3) rfl)) hσ hG
    · exact hG2.elim
