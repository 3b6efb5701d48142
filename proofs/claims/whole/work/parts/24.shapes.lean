/-! what a question may change: the twins alone; periods, roots, covers of a part (the class) -/
def TQ (σ σ' : SS) : Prop := Fr TwL σ σ' ∧ TwC σ'
theorem TQ.w {σ σ' : SS} (h : TQ σ σ') : cW σ' = cW σ ∧ σ' 501 0 0 = σ 501 0 0 := by
  obtain ⟨e1, e2⟩ := TwL_w h.1
  exact ⟨cW_fr e1 e2, by rw [e2]⟩
theorem TQ.rf {σ : SS} (h : TwC σ) : TQ σ σ := ⟨Fr_refl, h⟩
theorem TQ.tr {σ σ1 σ2 : SS} (h : TQ σ σ1) (h2 : TQ σ1 σ2) : TQ σ σ2 := ⟨Fr_trans h.1 h2.1, h2.2⟩
theorem TwC.n {σ : SS} (h : TwC σ) : 0 ≤ σ 501 0 0 ∧ σ 501 0 0 ≤ 120 := h.1.1
/-- the twins' answer, as a comparison -/
theorem common_ge {w : Int → Int} {n i j L : Int} (h0 : 0 ≤ i) (h1 : 0 ≤ j) (h2 : i < n) (h3 : j < n) (hL : 0 ≤ L) : L ≤ lceR w n i j ↔ max i j + L ≤ n ∧ eqs w i j L := by
  rw [lceR, if_pos (by omega)]
  exact le_lce w (by omega) (by omega) hL
def S_Sh_isPeriod : GS := fun as σ K => match as with
  | [some (.inr (.inr (6, 0))), some (.inl a1), some (.inl a2), some (.inl a3)] => (TwC σ ∧ 0 ≤ a1 ∧ a1 ≤ a2 ∧ a2 ≤ (σ 501 0 0) ∧ 0 ≤ a3) ∧ ∀ σ', TQ σ σ' → bS (isP (cW σ) a1 a2 a3) K σ'
  | _ => False
def VE_Sh_isPeriod (a1 : Int) (a2 : Int) (a3 : Int) (σ : SS) (K : AV → SS → Prop) : Prop :=
  (InR (a2 - a1) ∧
  (((a2 - a1) ≤ a3 →
    ((0 ≤ (1 : Int) ∧ (1 : Int) ≤ 1) ∧ K (vI 1) σ)) ∧
  (a3 < (a2 - a1) →
    (InR (a1 + a3) ∧
    (S_Tw_common [vR 8 0, vI a1, vI (a1 + a3)] σ (kI fun r1 σ1 =>
      (InR (a2 - a1) ∧
      (InR ((a2 - a1) - a3) ∧
      ((r1 < ((a2 - a1) - a3) →
        ((0 ≤ (0 : Int) ∧ (0 : Int) ≤ 1) ∧ K (vI 0) σ1)) ∧
      (((a2 - a1) - a3) ≤ r1 →
        ((0 ≤ (1 : Int) ∧ (1 : Int) ≤ 1) ∧ K (vI 1) σ1)))))))))))
theorem e_Sh_isPeriod (a1 : Int) (a2 : Int) (a3 : Int) (σ : SS) (K : AV → SS → Prop) (ha1 : InR a1) (ha2 : InR a2) (ha3 : InR a3) (hs : okS σ) (hG : S_Sh_isPeriod [vR 6 0, vI a1, vI a2, vI a3] σ K) : VE_Sh_isPeriod a1 a2 a3 σ K := by
  unfold VE_Sh_isPeriod
  obtain ⟨⟨hT, h1⟩, hG⟩ := hG
  have hn := hT.n
  refine ⟨by omega, fun h => bS_y (hG σ (TQ.rf hT)) (isP_end h), fun h => ⟨by omega, hT, fun σ' hF hT' => ?_⟩⟩
  intro _ _
  have hc := common_ge (w := cW σ) (n := (σ 501 0 0)) (i := a1) (j := a1 + a3) (L := a2 - a1 - a3) (by omega) (by omega) (by omega) (by omega) (by omega)
  refine ⟨by omega, by omega, fun h2 => bS_n (hG σ' ⟨hF, hT'⟩) (fun z => ?_), fun h2 => bS_y (hG σ' ⟨hF, hT'⟩) (hc.mp h2).2⟩
  have := hc.mpr ⟨by omega, z⟩
  omega
theorem H_Sh_isPeriod {d : Nat} (hd : 3 ≤ d) : Holds d I_Sh_isPeriod S_Sh_isPeriod := by
  refine holds_of (d' := d - 1) (rt := 2) (cal := [(I_Tw_common, S_Tw_common)]) (C := C_Sh_isPeriod) m_Sh_isPeriod o_Sh_isPeriod rfl rfl (by omega) ?_ ?_
  · intro x hx
    simp only [List.mem_cons, List.not_mem_nil, or_false] at hx
    subst hx
    exact H_Tw_common (by omega)
  · intro as σ K has hσ hG
    have hG2 := hG
    unfold S_Sh_isPeriod at hG2
    split at hG2
    · next a1 a2 a3 =>
      refine ⟨Nat.le_of_ble_eq_true rfl, (fun _ => none), ?_, 1000, ?_⟩
      · intro k n z L σ' hk hL hs hP
        cases hk
      · exact e_Sh_isPeriod a1 a2 a3 σ K (has _ (List.mem_of_getElem? (i := 1) rfl)) (has _ (List.mem_of_getElem? (i := 2) rfl)) (has _ (List.mem_of_getElem? (i := 3) rfl)) hσ hG
    · exact hG2.elim
def S_Sh_periodUpTo : GS := fun as σ K => match as with
  | [some (.inr (.inr (6, 0))), some (.inl a1), some (.inl a2), some (.inl a3), some (.inl a4)] => (TwC σ ∧ 0 ≤ a1 ∧ a1 ≤ a2 ∧ a2 ≤ (σ 501 0 0) ∧ a3 ≤ a2 - a1 ∧ -1 ≤ a3 ∧ -1 ≤ a4) ∧ ∀ σ' r, TQ σ σ' → kthIs (isP (cW σ) a1 a2) 1 (max 1 (a3 + 1)) a4 r → K (vI r) σ'
  | _ => False
abbrev Lp_Sh_periodUpTo_4 (a1 : Int) (a2 : Int) (a3 : Int) (a4 : Int) (σ0 : SS) (n : Nat) (L : List AV) (σ : SS) : Prop := ∃ (v5 : Int) (v6 : Int), L = [vR 6 0, vI a1, vI a2, vI a3, vI a4, vI v5, vI v6] ∧ n = (a3 + 1 - v6).toNat ∧ ((TQ σ0 σ) ∧ (1 ≤ v6) ∧ (v6 ≤ max 1 (a3 + 1)) ∧ (kL (isP (cW σ0) a1 a2) 1 a4 v5 v6))
def Iv_Sh_periodUpTo (a1 : Int) (a2 : Int) (a3 : Int) (a4 : Int) (σ0 : SS) (k : Nat) : Option (List Nat × (Nat → List AV → SS → Prop)) := match k with
  | 4 => some ([], Lp_Sh_periodUpTo_4 a1 a2 a3 a4 σ0)
  | _ => none
def VE_Sh_periodUpTo (a1 : Int) (a2 : Int) (a3 : Int) (a4 : Int) (σ : SS) (K : AV → SS → Prop) : Prop :=
  (∃ n', Lp_Sh_periodUpTo_4 a1 a2 a3 a4 σ n' [vR 6 0, vI a1, vI a2, vI a3, vI a4, vI 0, vI 1] σ)
def VL_Sh_periodUpTo_4 (a1 : Int) (a2 : Int) (a3 : Int) (a4 : Int) (σ0 : SS) (K : AV → SS → Prop) (v5 : Int) (v6 : Int) (σ : SS) (n : Nat) : Prop :=
  ((a3 < v6 →
    ((a4 ≠ (-1) →
      (K (vI (-2)) σ)) ∧
    (a4 = (-1) →
      (K (vI v5) σ)))) ∧
  (v6 ≤ a3 →
    (S_Sh_isPeriod [vR 6 0, vI a1, vI a2, vI v6] σ (kI fun r1 σ1 =>
      ((r1 = 0 →
        (InR (v6 + 1) ∧
        (∃ n', n' < n ∧ Lp_Sh_periodUpTo_4 a1 a2 a3 a4 σ0 n' [vR 6 0, vI a1, vI a2, vI a3, vI a4, vI v5, vI (v6 + 1)] σ1))) ∧
      (r1 ≠ 0 →
        ((v5 ≠ a4 →
          (InR (v5 + 1) ∧
          (InR (v6 + 1) ∧
          (∃ n', n' < n ∧ Lp_Sh_periodUpTo_4 a1 a2 a3 a4 σ0 n' [vR 6 0, vI a1, vI a2, vI a3, vI a4, vI (v5 + 1), vI (v6 + 1)] σ1)))) ∧
        (v5 = a4 →
          (K (vI v6) σ1)))))))))
theorem l_Sh_periodUpTo_4 (a1 : Int) (a2 : Int) (a3 : Int) (a4 : Int) (σ0 : SS) (K : AV → SS → Prop) (ha1 : InR a1) (ha2 : InR a2) (ha3 : InR a3) (ha4 : InR a4) (hs0 : okS σ0) (hG : S_Sh_periodUpTo [vR 6 0, vI a1, vI a2, vI a3, vI a4] σ0 K) (v5 : Int) (v6 : Int) (σ : SS) (hv5 : InR v5) (hv6 : InR v6) (hs : okS σ) (n : Nat) (hn : n = (a3 + 1 - v6).toNat) (hQ : (TQ σ0 σ) ∧ (1 ≤ v6) ∧ (v6 ≤ max 1 (a3 + 1)) ∧ (kL (isP (cW σ0) a1 a2) 1 a4 v5 v6)) : VL_Sh_periodUpTo_4 a1 a2 a3 a4 σ0 K v5 v6 σ n := by
  unfold VL_Sh_periodUpTo_4
  obtain ⟨⟨hT, h1⟩, hG⟩ := hG
  obtain ⟨q0, q1, q2, q3⟩ := hQ
  have hn := hT.n
  have hin := kL_in q3
  obtain ⟨w1, w2⟩ := q0.w
  refine ⟨fun h => ?_, fun h => ⟨⟨q0.2, by omega, by omega, by omega, by omega⟩, fun σ' hT' => ?_⟩⟩
  · rw [show v6 = max 1 (a3 + 1) by omega] at q3
    exact ⟨fun h2 => hG σ _ q0 (kL_end q3 (by omega) h2), fun h2 => hG σ _ q0 (kL_all q3 h2)⟩
  · rw [w1]
    refine bS_b0 (fun hp _ => ⟨fun h2 => ⟨by omega, by omega, _, ?_, _, _, rfl, rfl, q0.tr hT', by omega, by omega, kL_yes q3 q1 hp h2⟩, fun h2 => hG σ' _ (q0.tr hT') (kL_hit q3 q1 (by omega) hp h2)⟩) (fun hp _ => ⟨by omega, _, ?_, _, _, rfl, rfl, q0.tr hT', by omega, by omega, kL_no q3 q1 hp⟩)
    · omega
    · omega
theorem e_Sh_periodUpTo (a1 : Int) (a2 : Int) (a3 : Int) (a4 : Int) (σ : SS) (K : AV → SS → Prop) (ha1 : InR a1) (ha2 : InR a2) (ha3 : InR a3) (ha4 : InR a4) (hs : okS σ) (hG : S_Sh_periodUpTo [vR 6 0, vI a1, vI a2, vI a3, vI a4] σ K) : VE_Sh_periodUpTo a1 a2 a3 a4 σ K := by
  unfold VE_Sh_periodUpTo
  obtain ⟨⟨hT, h1⟩, hG⟩ := hG
  exact ⟨_, _, _, rfl, rfl, TQ.rf hT, by omega, by omega, kL_0⟩
theorem H_Sh_periodUpTo {d : Nat} (hd : 4 ≤ d) : Holds d I_Sh_periodUpTo S_Sh_periodUpTo := by
  refine holds_of (d' := d - 1) (rt := 1) (cal := [(I_Sh_isPeriod, S_Sh_isPeriod)]) (C := C_Sh_periodUpTo) m_Sh_periodUpTo o_Sh_periodUpTo rfl rfl (by omega) ?_ ?_
  · intro x hx
    simp only [List.mem_cons, List.not_mem_nil, or_false] at hx
    subst hx
    exact H_Sh_isPeriod (by omega)
  · intro as σ K has hσ hG
    have hG2 := hG
    unfold S_Sh_periodUpTo at hG2
    split at hG2
    · next a1 a2 a3 a4 =>
      refine ⟨Nat.le_of_ble_eq_true rfl, (Iv_Sh_periodUpTo a1 a2 a3 a4 σ), ?_, 1000, ?_⟩
      · intro k n z L σ' hk hL hs hP
        unfold Iv_Sh_periodUpTo at hk
        split at hk
        · cases hk
          obtain ⟨v5, v6, rfl, hn, hQ⟩ := hP
          exact ⟨1000, l_Sh_periodUpTo_4 a1 a2 a3 a4 σ K (has _ (List.mem_of_getElem? (i := 1) rfl)) (has _ (List.mem_of_getElem? (i := 2) rfl)) (has _ (List.mem_of_getElem? (i := 3) rfl)) (has _ (List.mem_of_getElem? (i := 4) rfl)) hσ hG v5 v6 σ' (hL _ (List.mem_of_getElem? (i := 5) rfl)) (hL _ (List.mem_of_getElem? (i := 6) rfl)) hs n hn hQ⟩
        · cases hk
      · exact e_Sh_periodUpTo a1 a2 a3 a4 σ K (has _ (List.mem_of_getElem? (i := 1) rfl)) (has _ (List.mem_of_getElem? (i := 2) rfl)) (has _ (List.mem_of_getElem? (i := 3) rfl)) (has _ (List.mem_of_getElem? (i := 4) rfl)) hσ hG
    · exact hG2.elim
def S_Sh_borderSize : GS := fun as σ K => match as with
  | [some (.inr (.inr (6, 0))), some (.inl a1), some (.inl a2), some (.inl a3)] => (TwC σ ∧ 0 ≤ a1 ∧ a1 ≤ a2 ∧ a2 ≤ (σ 501 0 0) ∧ -1 ≤ a3) ∧ ∀ σ' r p, TQ σ σ' → kthIs (isP (cW σ) a1 a2) 1 (max 1 (a2 - a1)) a3 p → r = (if a3 = -1 ∨ p = -2 then p else a2 - a1 - p) → K (vI r) σ'
  | _ => False
def VE_Sh_borderSize (a1 : Int) (a2 : Int) (a3 : Int) (σ : SS) (K : AV → SS → Prop) : Prop :=
  (InR (a2 - a1) ∧
  (InR ((a2 - a1) - 1) ∧
  (S_Sh_periodUpTo [vR 6 0, vI a1, vI a2, vI ((a2 - a1) - 1), vI a3] σ (kI fun r1 σ1 =>
    ((a3 = (-1) →
      (K (vI r1) σ1)) ∧
    (a3 ≠ (-1) →
      ((r1 ≠ (-2) →
        (InR (a2 - a1) ∧
        (InR ((a2 - a1) - r1) ∧
        (K (vI ((a2 - a1) - r1)) σ1)))) ∧
      (r1 = (-2) →
        (K (vI r1) σ1)))))))))
theorem e_Sh_borderSize (a1 : Int) (a2 : Int) (a3 : Int) (σ : SS) (K : AV → SS → Prop) (ha1 : InR a1) (ha2 : InR a2) (ha3 : InR a3) (hs : okS σ) (hG : S_Sh_borderSize [vR 6 0, vI a1, vI a2, vI a3] σ K) : VE_Sh_borderSize a1 a2 a3 σ K := by
  unfold VE_Sh_borderSize
  obtain ⟨⟨hT, h1⟩, hG⟩ := hG
  have hn := hT.n
  refine ⟨by omega, by omega, ⟨hT, by omega, by omega, by omega, by omega, by omega, by omega⟩, fun σ' r hT' hk => ?_⟩
  rw [show a2 - a1 - 1 + 1 = a2 - a1 by omega] at hk
  have hin := kthIs_in hk (by omega) (by omega)
  intro _ _
  refine ⟨fun h2 => hG σ' r r hT' hk (by rw [if_pos (Or.inl h2)]), fun h2 => ⟨fun h3 => ⟨by omega, by omega, hG σ' _ r hT' hk (by rw [if_neg (by omega)])⟩, fun h3 => hG σ' r r hT' hk (by rw [if_pos (Or.inr h3)])⟩⟩
theorem H_Sh_borderSize {d : Nat} (hd : 5 ≤ d) : Holds d I_Sh_borderSize S_Sh_borderSize := by
  refine holds_of (d' := d - 1) (rt := 1) (cal := [(I_Sh_periodUpTo, S_Sh_periodUpTo)]) (C := C_Sh_borderSize) m_Sh_borderSize o_Sh_borderSize rfl rfl (by omega) ?_ ?_
  · intro x hx
    simp only [List.mem_cons, List.not_mem_nil, or_false] at hx
    subst hx
    exact H_Sh_periodUpTo (by omega)
  · intro as σ K has hσ hG
    have hG2 := hG
    unfold S_Sh_borderSize at hG2
    split at hG2
    · next a1 a2 a3 =>
      refine ⟨Nat.le_of_ble_eq_true rfl, (fun _ => none), ?_, 1000, ?_⟩
      · intro k n z L σ' hk hL hs hP
        cases hk
      · exact e_Sh_borderSize a1 a2 a3 σ K (has _ (List.mem_of_getElem? (i := 1) rfl)) (has _ (List.mem_of_getElem? (i := 2) rfl)) (has _ (List.mem_of_getElem? (i := 3) rfl)) hσ hG
    · exact hG2.elim
def S_Sh_rootSize : GS := fun as σ K => match as with
  | [some (.inr (.inr (6, 0))), some (.inl a1), some (.inl a2)] => (TwC σ ∧ 0 ≤ a1 ∧ a1 < a2 ∧ a2 ≤ (σ 501 0 0)) ∧ ∀ σ' r, TQ σ σ' → leastIs (isRt (cW σ) a1 a2) 1 r → r ≤ a2 - a1 → K (vI r) σ'
  | _ => False
abbrev Lp_Sh_rootSize_6 (a1 : Int) (a2 : Int) (σ0 : SS) (n : Nat) (L : List AV) (σ : SS) : Prop := ∃ (v3 : Int) (v4 : Int), L = [vR 6 0, vI a1, vI a2, vI v3, vI v4] ∧ n = (a2 - a1 - v4).toNat ∧ ((TQ σ0 σ) ∧ (v3 = a2 - a1) ∧ (1 ≤ v4) ∧ (v4 ≤ a2 - a1) ∧ (∀ q, 1 ≤ q → q < v4 → ¬ isRt (cW σ0) a1 a2 q))
def Iv_Sh_rootSize (a1 : Int) (a2 : Int) (σ0 : SS) (k : Nat) : Option (List Nat × (Nat → List AV → SS → Prop)) := match k with
  | 6 => some ([], Lp_Sh_rootSize_6 a1 a2 σ0)
  | _ => none
def VE_Sh_rootSize (a1 : Int) (a2 : Int) (σ : SS) (K : AV → SS → Prop) : Prop :=
  (InR (a2 - a1) ∧
  (∃ n', Lp_Sh_rootSize_6 a1 a2 σ n' [vR 6 0, vI a1, vI a2, vI (a2 - a1), vI 1] σ))
def VL_Sh_rootSize_6 (a1 : Int) (a2 : Int) (σ0 : SS) (K : AV → SS → Prop) (v3 : Int) (v4 : Int) (σ : SS) (n : Nat) : Prop :=
  ((v3 ≤ v4 →
    (K (vI v3) σ)) ∧
  (v4 < v3 →
    ((v4 ≠ 0 ∧ InR (Int.tmod v3 v4)) ∧
    (((Int.tmod v3 v4) ≠ 0 →
      (InR (v4 + 1) ∧
      (∃ n', n' < n ∧ Lp_Sh_rootSize_6 a1 a2 σ0 n' [vR 6 0, vI a1, vI a2, vI v3, vI (v4 + 1)] σ))) ∧
    ((Int.tmod v3 v4) = 0 →
      (S_Sh_isPeriod [vR 6 0, vI a1, vI a2, vI v4] σ (kI fun r1 σ1 =>
        ((r1 = 0 →
          (InR (v4 + 1) ∧
          (∃ n', n' < n ∧ Lp_Sh_rootSize_6 a1 a2 σ0 n' [vR 6 0, vI a1, vI a2, vI v3, vI (v4 + 1)] σ1))) ∧
        (r1 ≠ 0 →
          (K (vI v4) σ1))))))))))
theorem l_Sh_rootSize_6 (a1 : Int) (a2 : Int) (σ0 : SS) (K : AV → SS → Prop) (ha1 : InR a1) (ha2 : InR a2) (hs0 : okS σ0) (hG : S_Sh_rootSize [vR 6 0, vI a1, vI a2] σ0 K) (v3 : Int) (v4 : Int) (σ : SS) (hv3 : InR v3) (hv4 : InR v4) (hs : okS σ) (n : Nat) (hn : n = (a2 - a1 - v4).toNat) (hQ : (TQ σ0 σ) ∧ (v3 = a2 - a1) ∧ (1 ≤ v4) ∧ (v4 ≤ a2 - a1) ∧ (∀ q, 1 ≤ q → q < v4 → ¬ isRt (cW σ0) a1 a2 q)) : VL_Sh_rootSize_6 a1 a2 σ0 K v3 v4 σ n := by
  unfold VL_Sh_rootSize_6
  obtain ⟨⟨hT, h1⟩, hG⟩ := hG
  obtain ⟨q0, rfl, q1, q2, q3⟩ := hQ
  have hn := hT.n
  obtain ⟨w1, w2⟩ := q0.w
  have ht1 := Int.tmod_nonneg v4 (a := a2 - a1) (by omega)
  have ht2 := Int.tmod_lt_of_pos (a2 - a1) (b := v4) (by omega)
  have hnext : ∀ σ', TQ σ0 σ' → v4 < a2 - a1 → ¬ isRt (cW σ0) a1 a2 v4 → InR (v4 + 1) ∧ ∃ n', n' < n ∧ Lp_Sh_rootSize_6 a1 a2 σ0 n' [vR 6 0, vI a1, vI a2, vI (a2 - a1), vI (v4 + 1)] σ' := by
    intro σ' hq hlt hno
    refine ⟨by omega, _, ?_, _, _, rfl, rfl, hq, rfl, by omega, by omega, fun q g1 g2 => ?_⟩
    · omega
    · rcases (by omega : q < v4 ∨ q = v4) with z | z
      · exact q3 q g1 z
      · rw [z]; exact hno
  refine ⟨fun h => hG σ _ q0 ⟨by omega, isRt_end, fun q g1 g2 => q3 q g1 (by omega)⟩ (by omega), fun h => ⟨by omega, fun h2 => hnext σ q0 h (fun z => h2 z.1), fun h2 => ⟨⟨q0.2, by omega, by omega, by omega, by omega⟩, fun σ' hT' => ?_⟩⟩⟩
  rw [w1]
  exact bS_b0 (fun hp _ => hG σ' _ (q0.tr hT') ⟨q1, ⟨h2, hp⟩, q3⟩ (by omega)) (fun hp _ => hnext σ' (q0.tr hT') h (fun z => hp z.2))
theorem e_Sh_rootSize (a1 : Int) (a2 : Int) (σ : SS) (K : AV → SS → Prop) (ha1 : InR a1) (ha2 : InR a2) (hs : okS σ) (hG : S_Sh_rootSize [vR 6 0, vI a1, vI a2] σ K) : VE_Sh_rootSize a1 a2 σ K := by
  unfold VE_Sh_rootSize
  obtain ⟨⟨hT, h1⟩, hG⟩ := hG
  have hn := hT.n
  exact ⟨by omega, _, _, _, rfl, rfl, TQ.rf hT, rfl, by omega, by omega, fun q g1 g2 => absurd g1 (by omega)⟩
theorem H_Sh_rootSize {d : Nat} (hd : 4 ≤ d) : Holds d I_Sh_rootSize S_Sh_rootSize := by
  refine holds_of (d' := d - 1) (rt := 1) (cal := [(I_Sh_isPeriod, S_Sh_isPeriod)]) (C := C_Sh_rootSize) m_Sh_rootSize o_Sh_rootSize rfl rfl (by omega) ?_ ?_
  · intro x hx
    simp only [List.mem_cons, List.not_mem_nil, or_false] at hx
    subst hx
    exact H_Sh_isPeriod (by omega)
  · intro as σ K has hσ hG
    have hG2 := hG
    unfold S_Sh_rootSize at hG2
    split at hG2
    · next a1 a2 =>
      refine ⟨Nat.le_of_ble_eq_true rfl, (Iv_Sh_rootSize a1 a2 σ), ?_, 1000, ?_⟩
      · intro k n z L σ' hk hL hs hP
        unfold Iv_Sh_rootSize at hk
        split at hk
        · cases hk
          obtain ⟨v3, v4, rfl, hn, hQ⟩ := hP
          exact ⟨1000, l_Sh_rootSize_6 a1 a2 σ K (has _ (List.mem_of_getElem? (i := 1) rfl)) (has _ (List.mem_of_getElem? (i := 2) rfl)) hσ hG v3 v4 σ' (hL _ (List.mem_of_getElem? (i := 3) rfl)) (hL _ (List.mem_of_getElem? (i := 4) rfl)) hs n hn hQ⟩
        · cases hk
      · exact e_Sh_rootSize a1 a2 σ K (has _ (List.mem_of_getElem? (i := 1) rfl)) (has _ (List.mem_of_getElem? (i := 2) rfl)) hσ hG
    · exact hG2.elim
def S_Sh_isCover : GS := fun as σ K => match as with
  | [some (.inr (.inr (6, 0))), some (.inl a1), some (.inl a2), some (.inl a3)] => (TwC σ ∧ 0 ≤ a1 ∧ a1 < a2 ∧ a2 ≤ (σ 501 0 0) ∧ 1 ≤ a3 ∧ a3 ≤ a2 - a1) ∧ ∀ σ', TQ σ σ' → bS (isCv (cW σ) a1 a2 a3) K σ'
  | _ => False
abbrev Lp_Sh_isCover_4 (a1 : Int) (a2 : Int) (a3 : Int) (σ0 : SS) (n : Nat) (L : List AV) (σ : SS) : Prop := ∃ (v4 : Int) (v5 : Int), L = [vR 6 0, vI a1, vI a2, vI a3, vI v4, vI v5] ∧ n = (a2 - v5).toNat ∧ ((TQ σ0 σ) ∧ (a1 ≤ v4) ∧ (v4 ≤ a2) ∧ (a1 ≤ v5) ∧ (v5 ≤ a2 - a3 + 1) ∧ (∀ x, a1 ≤ x → x < v4 → ∃ o, a1 ≤ o ∧ o + a3 ≤ a2 ∧ o ≤ x ∧ x < o + a3 ∧ eqs (cW σ0) a1 o a3) ∧ (∀ o, a1 ≤ o → o < v5 → eqs (cW σ0) a1 o a3 → o + a3 ≤ v4))
def Iv_Sh_isCover (a1 : Int) (a2 : Int) (a3 : Int) (σ0 : SS) (k : Nat) : Option (List Nat × (Nat → List AV → SS → Prop)) := match k with
  | 4 => some ([], Lp_Sh_isCover_4 a1 a2 a3 σ0)
  | _ => none
def VE_Sh_isCover (a1 : Int) (a2 : Int) (a3 : Int) (σ : SS) (K : AV → SS → Prop) : Prop :=
  (∃ n', Lp_Sh_isCover_4 a1 a2 a3 σ n' [vR 6 0, vI a1, vI a2, vI a3, vI a1, vI a1] σ)
def VL_Sh_isCover_4 (a1 : Int) (a2 : Int) (a3 : Int) (σ0 : SS) (K : AV → SS → Prop) (v4 : Int) (v5 : Int) (σ : SS) (n : Nat) : Prop :=
  (InR (a2 - a3) ∧
  (((a2 - a3) < v5 →
    ((v4 ≠ a2 →
      ((0 ≤ (0 : Int) ∧ (0 : Int) ≤ 1) ∧ K (vI 0) σ)) ∧
    (v4 = a2 →
      ((0 ≤ (1 : Int) ∧ (1 : Int) ≤ 1) ∧ K (vI 1) σ)))) ∧
  (v5 ≤ (a2 - a3) →
    ((v4 < v5 →
      ((v4 ≠ a2 →
        ((0 ≤ (0 : Int) ∧ (0 : Int) ≤ 1) ∧ K (vI 0) σ)) ∧
      (v4 = a2 →
        ((0 ≤ (1 : Int) ∧ (1 : Int) ≤ 1) ∧ K (vI 1) σ)))) ∧
    (v5 ≤ v4 →
      (S_Tw_common [vR 8 0, vI a1, vI v5] σ (kI fun r1 σ1 =>
        ((r1 < a3 →
          (InR (v5 + 1) ∧
          (∃ n', n' < n ∧ Lp_Sh_isCover_4 a1 a2 a3 σ0 n' [vR 6 0, vI a1, vI a2, vI a3, vI v4, vI (v5 + 1)] σ1))) ∧
        (a3 ≤ r1 →
          (InR (v5 + a3) ∧
          (InR (v5 + 1) ∧
          (∃ n', n' < n ∧ Lp_Sh_isCover_4 a1 a2 a3 σ0 n' [vR 6 0, vI a1, vI a2, vI a3, vI (v5 + a3), vI (v5 + 1)] σ1))))))))))))
theorem l_Sh_isCover_4 (a1 : Int) (a2 : Int) (a3 : Int) (σ0 : SS) (K : AV → SS → Prop) (ha1 : InR a1) (ha2 : InR a2) (ha3 : InR a3) (hs0 : okS σ0) (hG : S_Sh_isCover [vR 6 0, vI a1, vI a2, vI a3] σ0 K) (v4 : Int) (v5 : Int) (σ : SS) (hv4 : InR v4) (hv5 : InR v5) (hs : okS σ) (n : Nat) (hn : n = (a2 - v5).toNat) (hQ : (TQ σ0 σ) ∧ (a1 ≤ v4) ∧ (v4 ≤ a2) ∧ (a1 ≤ v5) ∧ (v5 ≤ a2 - a3 + 1) ∧ (∀ x, a1 ≤ x → x < v4 → ∃ o, a1 ≤ o ∧ o + a3 ≤ a2 ∧ o ≤ x ∧ x < o + a3 ∧ eqs (cW σ0) a1 o a3) ∧ (∀ o, a1 ≤ o → o < v5 → eqs (cW σ0) a1 o a3 → o + a3 ≤ v4)) : VL_Sh_isCover_4 a1 a2 a3 σ0 K v4 v5 σ n := by
  unfold VL_Sh_isCover_4
  obtain ⟨⟨hT, h1⟩, hG⟩ := hG
  obtain ⟨q0, q1, q2, q3, q4, q5, q6⟩ := hQ
  have hn := hT.n
  obtain ⟨w1, w2⟩ := q0.w
  have hfull : v4 = a2 → isCv (cW σ0) a1 a2 a3 := by
    intro h x g1 g2
    exact q5 x g1 (by omega)
  have hpart : (a2 - a3 < v5 ∨ v4 < v5) → v4 ≠ a2 → ¬ isCv (cW σ0) a1 a2 a3 := by
    intro h g z
    obtain ⟨o, k1, k2, k3, k4, k5⟩ := z v4 q1 (by omega)
    have := q6 o k1 (by omega) k5
    omega
  refine ⟨by omega, fun h => ⟨fun g => bS_n (hG σ q0) (hpart (Or.inl h) g), fun g => bS_y (hG σ q0) (hfull g)⟩, fun h => ⟨fun h2 => ⟨fun g => bS_n (hG σ q0) (hpart (Or.inr h2) g), fun g => bS_y (hG σ q0) (hfull g)⟩, fun h2 => ⟨q0.2, fun σ' hF hT' => ?_⟩⟩⟩
  rw [w1, w2]
  intro _ _
  have hc := common_ge (w := cW σ0) (n := (σ0 501 0 0)) (i := a1) (j := v5) (L := a3) (by omega) (by omega) (by omega) (by omega) (by omega)
  have hq : TQ σ0 σ' := q0.tr ⟨hF, hT'⟩
  refine ⟨fun h3 => ⟨by omega, _, ?_, _, _, rfl, rfl, hq, q1, q2, by omega, by omega, q5, fun o g1 g2 g3 => ?_⟩, fun h3 => ⟨by omega, by omega, _, ?_, _, _, rfl, rfl, hq, by omega, by omega, by omega, by omega, fun x g1 g2 => ?_, fun o g1 g2 g3 => ?_⟩⟩
  · omega
  · rcases (by omega : o < v5 ∨ o = v5) with z | z
    · exact q6 o g1 z g3
    · subst z
      have := hc.mpr ⟨by omega, g3⟩
      omega
  · omega
  · by_cases z : x < v4
    · exact q5 x g1 z
    · exact ⟨v5, q3, by omega, by omega, by omega, (hc.mp h3).2⟩
  · rcases (by omega : o < v5 ∨ o = v5) with z | z
    · have := q6 o g1 z g3; omega
    · omega
theorem e_Sh_isCover (a1 : Int) (a2 : Int) (a3 : Int) (σ : SS) (K : AV → SS → Prop) (ha1 : InR a1) (ha2 : InR a2) (ha3 : InR a3) (hs : okS σ) (hG : S_Sh_isCover [vR 6 0, vI a1, vI a2, vI a3] σ K) : VE_Sh_isCover a1 a2 a3 σ K := by
  unfold VE_Sh_isCover
  obtain ⟨⟨hT, h1⟩, hG⟩ := hG
  exact ⟨_, _, _, rfl, rfl, TQ.rf hT, by omega, by omega, by omega, by omega, fun x g1 g2 => absurd g1 (by omega), fun o g1 g2 g3 => absurd g1 (by omega)⟩
theorem H_Sh_isCover {d : Nat} (hd : 3 ≤ d) : Holds d I_Sh_isCover S_Sh_isCover := by
  refine holds_of (d' := d - 1) (rt := 2) (cal := [(I_Tw_common, S_Tw_common)]) (C := C_Sh_isCover) m_Sh_isCover o_Sh_isCover rfl rfl (by omega) ?_ ?_
  · intro x hx
    simp only [List.mem_cons, List.not_mem_nil, or_false] at hx
    subst hx
    exact H_Tw_common (by omega)
  · intro as σ K has hσ hG
    have hG2 := hG
    unfold S_Sh_isCover at hG2
    split at hG2
    · next a1 a2 a3 =>
      refine ⟨Nat.le_of_ble_eq_true rfl, (Iv_Sh_isCover a1 a2 a3 σ), ?_, 1000, ?_⟩
      · intro k n z L σ' hk hL hs hP
        unfold Iv_Sh_isCover at hk
        split at hk
        · cases hk
          obtain ⟨v4, v5, rfl, hn, hQ⟩ := hP
          exact ⟨1000, l_Sh_isCover_4 a1 a2 a3 σ K (has _ (List.mem_of_getElem? (i := 1) rfl)) (has _ (List.mem_of_getElem? (i := 2) rfl)) (has _ (List.mem_of_getElem? (i := 3) rfl)) hσ hG v4 v5 σ' (hL _ (List.mem_of_getElem? (i := 4) rfl)) (hL _ (List.mem_of_getElem? (i := 5) rfl)) hs n hn hQ⟩
        · cases hk
      · exact e_Sh_isCover a1 a2 a3 σ K (has _ (List.mem_of_getElem? (i := 1) rfl)) (has _ (List.mem_of_getElem? (i := 2) rfl)) (has _ (List.mem_of_getElem? (i := 3) rfl)) hσ hG
    · exact hG2.elim
def S_Sh_coverSize : GS := fun as σ K => match as with
  | [some (.inr (.inr (6, 0))), some (.inl a1), some (.inl a2), some (.inl a3)] => (TwC σ ∧ 0 ≤ a1 ∧ a1 < a2 ∧ a2 ≤ (σ 501 0 0) ∧ -1 ≤ a3) ∧ ∀ σ' r, TQ σ σ' → kthIs (isCv (cW σ) a1 a2) 1 (a2 - a1 + 1) a3 r → K (vI r) σ'
  | _ => False
abbrev Lp_Sh_coverSize_4 (a1 : Int) (a2 : Int) (a3 : Int) (σ0 : SS) (n : Nat) (L : List AV) (σ : SS) : Prop := ∃ (v4 : Int) (v5 : Int), L = [vR 6 0, vI a1, vI a2, vI a3, vI v4, vI v5] ∧ n = (a2 - a1 + 1 - v5).toNat ∧ ((TQ σ0 σ) ∧ (1 ≤ v5) ∧ (v5 ≤ a2 - a1 + 1) ∧ (kL (isCv (cW σ0) a1 a2) 1 a3 v4 v5))
def Iv_Sh_coverSize (a1 : Int) (a2 : Int) (a3 : Int) (σ0 : SS) (k : Nat) : Option (List Nat × (Nat → List AV → SS → Prop)) := match k with
  | 4 => some ([], Lp_Sh_coverSize_4 a1 a2 a3 σ0)
  | _ => none
def VE_Sh_coverSize (a1 : Int) (a2 : Int) (a3 : Int) (σ : SS) (K : AV → SS → Prop) : Prop :=
  (∃ n', Lp_Sh_coverSize_4 a1 a2 a3 σ n' [vR 6 0, vI a1, vI a2, vI a3, vI 0, vI 1] σ)
def VL_Sh_coverSize_4 (a1 : Int) (a2 : Int) (a3 : Int) (σ0 : SS) (K : AV → SS → Prop) (v4 : Int) (v5 : Int) (σ : SS) (n : Nat) : Prop :=
  (InR (a2 - a1) ∧
  (((a2 - a1) < v5 →
    ((a3 ≠ (-1) →
      (K (vI (-2)) σ)) ∧
    (a3 = (-1) →
      (K (vI v4) σ)))) ∧
  (v5 ≤ (a2 - a1) →
    (InR (a2 - a1) ∧
    (InR ((a2 - a1) - v5) ∧
    (S_Sh_isPeriod [vR 6 0, vI a1, vI a2, vI ((a2 - a1) - v5)] σ (kI fun r1 σ1 =>
      ((r1 = 0 →
        (InR (v5 + 1) ∧
        (∃ n', n' < n ∧ Lp_Sh_coverSize_4 a1 a2 a3 σ0 n' [vR 6 0, vI a1, vI a2, vI a3, vI v4, vI (v5 + 1)] σ1))) ∧
      (r1 ≠ 0 →
        (S_Sh_isCover [vR 6 0, vI a1, vI a2, vI v5] σ1 (kI fun r2 σ2 =>
          ((r2 = 0 →
            (InR (v5 + 1) ∧
            (∃ n', n' < n ∧ Lp_Sh_coverSize_4 a1 a2 a3 σ0 n' [vR 6 0, vI a1, vI a2, vI a3, vI v4, vI (v5 + 1)] σ2))) ∧
          (r2 ≠ 0 →
            ((v4 ≠ a3 →
              (InR (v4 + 1) ∧
              (InR (v5 + 1) ∧
              (∃ n', n' < n ∧ Lp_Sh_coverSize_4 a1 a2 a3 σ0 n' [vR 6 0, vI a1, vI a2, vI a3, vI (v4 + 1), vI (v5 + 1)] σ2)))) ∧
            (v4 = a3 →
              (K (vI v5) σ2))))))))))))))))
theorem l_Sh_coverSize_4 (a1 : Int) (a2 : Int) (a3 : Int) (σ0 : SS) (K : AV → SS → Prop) (ha1 : InR a1) (ha2 : InR a2) (ha3 : InR a3) (hs0 : okS σ0) (hG : S_Sh_coverSize [vR 6 0, vI a1, vI a2, vI a3] σ0 K) (v4 : Int) (v5 : Int) (σ : SS) (hv4 : InR v4) (hv5 : InR v5) (hs : okS σ) (n : Nat) (hn : n = (a2 - a1 + 1 - v5).toNat) (hQ : (TQ σ0 σ) ∧ (1 ≤ v5) ∧ (v5 ≤ a2 - a1 + 1) ∧ (kL (isCv (cW σ0) a1 a2) 1 a3 v4 v5)) : VL_Sh_coverSize_4 a1 a2 a3 σ0 K v4 v5 σ n := by
  unfold VL_Sh_coverSize_4
  obtain ⟨⟨hT, h1⟩, hG⟩ := hG
  obtain ⟨q0, q1, q2, q3⟩ := hQ
  have hn := hT.n
  have hin := kL_in q3
  obtain ⟨w1, w2⟩ := q0.w
  refine ⟨by omega, fun h => ?_, fun h => ⟨by omega, by omega, ⟨q0.2, by omega, by omega, by omega, by omega⟩, fun σ' hT' => ?_⟩⟩
  · rw [show v5 = a2 - a1 + 1 by omega] at q3
    exact ⟨fun h2 => hG σ _ q0 (kL_end q3 (by omega) h2), fun h2 => hG σ _ q0 (kL_all q3 h2)⟩
  · rw [w1]
    have hq := q0.tr hT'
    obtain ⟨w3, w4⟩ := hq.w
    have hno : ¬ isCv (cW σ0) a1 a2 v5 → ∀ σ', TQ σ0 σ' → InR (v5 + 1) ∧ ∃ n', n' < n ∧ Lp_Sh_coverSize_4 a1 a2 a3 σ0 n' [vR 6 0, vI a1, vI a2, vI a3, vI v4, vI (v5 + 1)] σ' := by
      intro hp σ' hq
      refine ⟨by omega, _, ?_, _, _, rfl, rfl, hq, by omega, by omega, kL_no q3 q1 hp⟩
      omega
    refine bS_b0 (fun hp _ => ⟨⟨hT'.2, by omega, by omega, by omega, by omega, by omega⟩, fun σ2 hT2 => ?_⟩) (fun hp _ => hno (fun z => hp ?_) σ' hq)
    · rw [w3]
      refine bS_b0 (fun hc _ => ⟨fun h2 => ⟨by omega, by omega, _, ?_, _, _, rfl, rfl, hq.tr hT2, by omega, by omega, kL_yes q3 q1 hc h2⟩, fun h2 => hG σ2 _ (hq.tr hT2) (kL_hit q3 q1 (by omega) hc h2)⟩) (fun hc _ => hno hc σ2 (hq.tr hT2))
      omega
    · obtain ⟨o, k1, k2, k3, k4, k5⟩ := z (a2 - 1) (by omega) (by omega)
      unfold isP
      rw [show a1 + (a2 - a1 - v5) = o by omega, show a2 - a1 - (a2 - a1 - v5) = v5 by omega]
      exact k5
theorem e_Sh_coverSize (a1 : Int) (a2 : Int) (a3 : Int) (σ : SS) (K : AV → SS → Prop) (ha1 : InR a1) (ha2 : InR a2) (ha3 : InR a3) (hs : okS σ) (hG : S_Sh_coverSize [vR 6 0, vI a1, vI a2, vI a3] σ K) : VE_Sh_coverSize a1 a2 a3 σ K := by
  unfold VE_Sh_coverSize
  obtain ⟨⟨hT, h1⟩, hG⟩ := hG
  exact ⟨_, _, _, rfl, rfl, TQ.rf hT, by omega, by omega, kL_0⟩
theorem H_Sh_coverSize {d : Nat} (hd : 4 ≤ d) : Holds d I_Sh_coverSize S_Sh_coverSize := by
  refine holds_of (d' := d - 1) (rt := 1) (cal := [(I_Sh_isPeriod, S_Sh_isPeriod), (I_Sh_isCover, S_Sh_isCover)]) (C := C_Sh_coverSize) m_Sh_coverSize o_Sh_coverSize rfl rfl (by omega) ?_ ?_
  · intro x hx
    simp only [List.mem_cons, List.not_mem_nil, or_false] at hx
    rcases hx with rfl | rfl
    · exact H_Sh_isPeriod (by omega)
    · exact H_Sh_isCover (by omega)
  · intro as σ K has hσ hG
    have hG2 := hG
    unfold S_Sh_coverSize at hG2
    split at hG2
    · next a1 a2 a3 =>
      refine ⟨Nat.le_of_ble_eq_true rfl, (Iv_Sh_coverSize a1 a2 a3 σ), ?_, 1000, ?_⟩
      · intro k n z L σ' hk hL hs hP
        unfold Iv_Sh_coverSize at hk
        split at hk
        · cases hk
          obtain ⟨v4, v5, rfl, hn, hQ⟩ := hP
          exact ⟨1000, l_Sh_coverSize_4 a1 a2 a3 σ K (has _ (List.mem_of_getElem? (i := 1) rfl)) (has _ (List.mem_of_getElem? (i := 2) rfl)) (has _ (List.mem_of_getElem? (i := 3) rfl)) hσ hG v4 v5 σ' (hL _ (List.mem_of_getElem? (i := 4) rfl)) (hL _ (List.mem_of_getElem? (i := 5) rfl)) hs n hn hQ⟩
        · cases hk
      · exact e_Sh_coverSize a1 a2 a3 σ K (has _ (List.mem_of_getElem? (i := 1) rfl)) (has _ (List.mem_of_getElem? (i := 2) rfl)) (has _ (List.mem_of_getElem? (i := 3) rfl)) hσ hG
    · exact hG2.elim
def S_Sh_placeOf : GS := fun as σ K => match as with
  | [some (.inr (.inr (6, 0))), some (.inl a1), some (.inl a2), some (.inl a3)] => (TwC σ ∧ 0 ≤ a1 ∧ a1 < a2 ∧ a2 ≤ (σ 501 0 0) ∧ -1 ≤ a3) ∧ ∀ σ' r, TQ σ σ' → kthIs (fun o => eqs (cW σ) a1 o (a2 - a1)) 0 ((σ 501 0 0) - (a2 - a1) + 1) a3 r → K (vI r) σ'
  | _ => False
abbrev Lp_Sh_placeOf_4 (a1 : Int) (a2 : Int) (a3 : Int) (σ0 : SS) (n : Nat) (L : List AV) (σ : SS) : Prop := ∃ (v4 : Int) (v5 : Int), L = [vR 6 0, vI a1, vI a2, vI a3, vI v4, vI v5] ∧ n = ((σ0 501 0 0) - (a2 - a1) + 1 - v5).toNat ∧ ((TQ σ0 σ) ∧ (0 ≤ v5) ∧ (v5 ≤ (σ0 501 0 0) - (a2 - a1) + 1) ∧ (kL (fun o => eqs (cW σ0) a1 o (a2 - a1)) 0 a3 v4 v5))
def Iv_Sh_placeOf (a1 : Int) (a2 : Int) (a3 : Int) (σ0 : SS) (k : Nat) : Option (List Nat × (Nat → List AV → SS → Prop)) := match k with
  | 4 => some ([], Lp_Sh_placeOf_4 a1 a2 a3 σ0)
  | _ => none
def VE_Sh_placeOf (a1 : Int) (a2 : Int) (a3 : Int) (σ : SS) (K : AV → SS → Prop) : Prop :=
  (∃ n', Lp_Sh_placeOf_4 a1 a2 a3 σ n' [vR 6 0, vI a1, vI a2, vI a3, vI 0, vI 0] σ)
def VL_Sh_placeOf_4 (a1 : Int) (a2 : Int) (a3 : Int) (σ0 : SS) (K : AV → SS → Prop) (v4 : Int) (v5 : Int) (σ : SS) (n : Nat) : Prop :=
  (S_Wo_size [vR 10 0] σ (kI fun r1 σ1 =>
    (InR (a2 - a1) ∧
    (InR (r1 - (a2 - a1)) ∧
    (((r1 - (a2 - a1)) < v5 →
      ((a3 ≠ (-1) →
        (K (vI (-2)) σ1)) ∧
      (a3 = (-1) →
        (K (vI v4) σ1)))) ∧
    (v5 ≤ (r1 - (a2 - a1)) →
      (S_Tw_common [vR 8 0, vI a1, vI v5] σ1 (kI fun r2 σ2 =>
        (InR (a2 - a1) ∧
        ((r2 < (a2 - a1) →
          (InR (v5 + 1) ∧
          (∃ n', n' < n ∧ Lp_Sh_placeOf_4 a1 a2 a3 σ0 n' [vR 6 0, vI a1, vI a2, vI a3, vI v4, vI (v5 + 1)] σ2))) ∧
        ((a2 - a1) ≤ r2 →
          ((v4 ≠ a3 →
            (InR (v4 + 1) ∧
            (InR (v5 + 1) ∧
            (∃ n', n' < n ∧ Lp_Sh_placeOf_4 a1 a2 a3 σ0 n' [vR 6 0, vI a1, vI a2, vI a3, vI (v4 + 1), vI (v5 + 1)] σ2)))) ∧
          (v4 = a3 →
            (K (vI v5) σ2))))))))))))))
theorem l_Sh_placeOf_4 (a1 : Int) (a2 : Int) (a3 : Int) (σ0 : SS) (K : AV → SS → Prop) (ha1 : InR a1) (ha2 : InR a2) (ha3 : InR a3) (hs0 : okS σ0) (hG : S_Sh_placeOf [vR 6 0, vI a1, vI a2, vI a3] σ0 K) (v4 : Int) (v5 : Int) (σ : SS) (hv4 : InR v4) (hv5 : InR v5) (hs : okS σ) (n : Nat) (hn : n = ((σ0 501 0 0) - (a2 - a1) + 1 - v5).toNat) (hQ : (TQ σ0 σ) ∧ (0 ≤ v5) ∧ (v5 ≤ (σ0 501 0 0) - (a2 - a1) + 1) ∧ (kL (fun o => eqs (cW σ0) a1 o (a2 - a1)) 0 a3 v4 v5)) : VL_Sh_placeOf_4 a1 a2 a3 σ0 K v4 v5 σ n := by
  unfold VL_Sh_placeOf_4
  obtain ⟨⟨hT, h1⟩, hG⟩ := hG
  obtain ⟨q0, q1, q2, q3⟩ := hQ
  have hn := hT.n
  have hin := kL_in q3
  obtain ⟨w1, w2⟩ := q0.w
  intro _ _
  refine ⟨by omega, by omega, fun h => ?_, fun h => ⟨q0.2, fun σ' hF hT' => ?_⟩⟩
  · rw [show v5 = (σ0 501 0 0) - (a2 - a1) + 1 by omega] at q3
    exact ⟨fun h2 => hG σ _ q0 (kL_end q3 (by omega) h2), fun h2 => hG σ _ q0 (kL_all q3 h2)⟩
  · rw [w1, w2]
    intro _ _
    have hc := common_ge (w := cW σ0) (n := (σ0 501 0 0)) (i := a1) (j := v5) (L := a2 - a1) (by omega) (by omega) (by omega) (by omega) (by omega)
    have hq : TQ σ0 σ' := q0.tr ⟨hF, hT'⟩
    refine ⟨by omega, fun h2 => ⟨by omega, _, ?_, _, _, rfl, rfl, hq, by omega, by omega, kL_no q3 q1 (fun z => ?_)⟩, fun h2 => ⟨fun h3 => ⟨by omega, by omega, _, ?_, _, _, rfl, rfl, hq, by omega, by omega, kL_yes q3 q1 (hc.mp h2).2 h3⟩, fun h3 => hG σ' _ hq (kL_hit q3 q1 (by omega) (hc.mp h2).2 h3)⟩⟩
    · omega
    · have := hc.mpr ⟨by omega, z⟩
      omega
    · omega
theorem e_Sh_placeOf (a1 : Int) (a2 : Int) (a3 : Int) (σ : SS) (K : AV → SS → Prop) (ha1 : InR a1) (ha2 : InR a2) (ha3 : InR a3) (hs : okS σ) (hG : S_Sh_placeOf [vR 6 0, vI a1, vI a2, vI a3] σ K) : VE_Sh_placeOf a1 a2 a3 σ K := by
  unfold VE_Sh_placeOf
  obtain ⟨⟨hT, h1⟩, hG⟩ := hG
  exact ⟨_, _, _, rfl, rfl, TQ.rf hT, by omega, by omega, kL_0⟩
theorem H_Sh_placeOf {d : Nat} (hd : 3 ≤ d) : Holds d I_Sh_placeOf S_Sh_placeOf := by
  refine holds_of (d' := d - 1) (rt := 1) (cal := [(I_Wo_size, S_Wo_size), (I_Tw_common, S_Tw_common)]) (C := C_Sh_placeOf) m_Sh_placeOf o_Sh_placeOf rfl rfl (by omega) ?_ ?_
  · intro x hx
    simp only [List.mem_cons, List.not_mem_nil, or_false] at hx
    rcases hx with rfl | rfl
    · exact H_Wo_size (by omega)
    · exact H_Tw_common (by omega)
  · intro as σ K has hσ hG
    have hG2 := hG
    unfold S_Sh_placeOf at hG2
    split at hG2
    · next a1 a2 a3 =>
      refine ⟨Nat.le_of_ble_eq_true rfl, (Iv_Sh_placeOf a1 a2 a3 σ), ?_, 1000, ?_⟩
      · intro k n z L σ' hk hL hs hP
        unfold Iv_Sh_placeOf at hk
        split at hk
        · cases hk
          obtain ⟨v4, v5, rfl, hn, hQ⟩ := hP
          exact ⟨1000, l_Sh_placeOf_4 a1 a2 a3 σ K (has _ (List.mem_of_getElem? (i := 1) rfl)) (has _ (List.mem_of_getElem? (i := 2) rfl)) (has _ (List.mem_of_getElem? (i := 3) rfl)) hσ hG v4 v5 σ' (hL _ (List.mem_of_getElem? (i := 4) rfl)) (hL _ (List.mem_of_getElem? (i := 5) rfl)) hs n hn hQ⟩
        · cases hk
      · exact e_Sh_placeOf a1 a2 a3 σ K (has _ (List.mem_of_getElem? (i := 1) rfl)) (has _ (List.mem_of_getElem? (i := 2) rfl)) (has _ (List.mem_of_getElem? (i := 3) rfl)) hσ hG
    · exact hG2.elim
