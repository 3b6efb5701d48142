/-! the class: places and parts, borders, periods, covers, where a part lies, which is less -/
def S_Wr_isPlace : GS := fun as σ K => match as with
  | [some (.inr (.inr (11, 0))), some (.inl a1)] => bS (0 ≤ a1 ∧ a1 < (σ 501 0 0)) K σ
  | _ => False
def VE_Wr_isPlace (a1 : Int) (σ : SS) (K : AV → SS → Prop) : Prop :=
  ((a1 < 0 →
    ((0 ≤ (0 : Int) ∧ (0 : Int) ≤ 1) ∧ K (vI 0) σ)) ∧
  ((0 : Int) ≤ a1 →
    (S_Wo_size [vR 10 0] σ (kI fun r1 σ1 =>
      ((r1 ≤ a1 →
        ((0 ≤ (0 : Int) ∧ (0 : Int) ≤ 1) ∧ K (vI 0) σ1)) ∧
      (a1 < r1 →
        ((0 ≤ (1 : Int) ∧ (1 : Int) ≤ 1) ∧ K (vI 1) σ1)))))))
theorem e_Wr_isPlace (a1 : Int) (σ : SS) (K : AV → SS → Prop) (ha1 : InR a1) (hs : okS σ) (hG : S_Wr_isPlace [vR 11 0, vI a1] σ K) : VE_Wr_isPlace a1 σ K := by
  unfold VE_Wr_isPlace
  refine ⟨fun h => bS_n hG (by omega), fun h => ?_⟩
  intro _ _
  exact ⟨fun h2 => bS_n hG (by omega), fun h2 => bS_y hG (by omega)⟩
theorem H_Wr_isPlace {d : Nat} (hd : 2 ≤ d) : Holds d I_Wr_isPlace S_Wr_isPlace := by
  refine holds_of (d' := d - 1) (rt := 2) (cal := [(I_Wo_size, S_Wo_size)]) (C := C_Wr_isPlace) m_Wr_isPlace o_Wr_isPlace rfl rfl (by omega) ?_ ?_
  · intro x hx
    simp only [List.mem_cons, List.not_mem_nil, or_false] at hx
    subst hx
    exact H_Wo_size (by omega)
  · intro as σ K has hσ hG
    have hG2 := hG
    unfold S_Wr_isPlace at hG2
    split at hG2
    · next a1 =>
      refine ⟨Nat.le_of_ble_eq_true rfl, (fun _ => none), ?_, 1000, ?_⟩
      · intro k n z L σ' hk hL hs hP
        cases hk
      · exact e_Wr_isPlace a1 σ K (has _ (List.mem_of_getElem? (i := 1) rfl)) hσ hG
    · exact hG2.elim
def S_Wr_isLetter : GS := fun as σ K => match as with
  | [some (.inr (.inr (11, 0))), some (.inl a1)] => bS (0 ≤ a1 ∧ a1 < 26) K σ
  | _ => False
def VE_Wr_isLetter (a1 : Int) (σ : SS) (K : AV → SS → Prop) : Prop :=
  ((a1 < 0 →
    ((0 ≤ (0 : Int) ∧ (0 : Int) ≤ 1) ∧ K (vI 0) σ)) ∧
  ((0 : Int) ≤ a1 →
    (((26 : Int) ≤ a1 →
      ((0 ≤ (0 : Int) ∧ (0 : Int) ≤ 1) ∧ K (vI 0) σ)) ∧
    (a1 < 26 →
      ((0 ≤ (1 : Int) ∧ (1 : Int) ≤ 1) ∧ K (vI 1) σ)))))
theorem e_Wr_isLetter (a1 : Int) (σ : SS) (K : AV → SS → Prop) (ha1 : InR a1) (hs : okS σ) (hG : S_Wr_isLetter [vR 11 0, vI a1] σ K) : VE_Wr_isLetter a1 σ K := by
  unfold VE_Wr_isLetter
  exact ⟨fun h => bS_n hG (by omega), fun h => ⟨fun h2 => bS_n hG (by omega), fun h2 => bS_y hG (by omega)⟩⟩
theorem H_Wr_isLetter {d : Nat} (hd : 1 ≤ d) : Holds d I_Wr_isLetter S_Wr_isLetter := by
  refine holds_of (d' := d - 1) (rt := 2) (cal := []) (C := C_Wr_isLetter) m_Wr_isLetter o_Wr_isLetter rfl rfl (by omega) ?_ ?_
  · intro x hx
    cases hx
  · intro as σ K has hσ hG
    have hG2 := hG
    unfold S_Wr_isLetter at hG2
    split at hG2
    · next a1 =>
      refine ⟨Nat.le_of_ble_eq_true rfl, (fun _ => none), ?_, 1000, ?_⟩
      · intro k n z L σ' hk hL hs hP
        cases hk
      · exact e_Wr_isLetter a1 σ K (has _ (List.mem_of_getElem? (i := 1) rfl)) hσ hG
    · exact hG2.elim
def S_Wr_isPart : GS := fun as σ K => match as with
  | [some (.inr (.inr (11, 0))), some (.inl a1), some (.inl a2)] => bS (0 ≤ a1 ∧ a1 ≤ a2 ∧ a2 ≤ (σ 501 0 0)) K σ
  | _ => False
def VE_Wr_isPart (a1 : Int) (a2 : Int) (σ : SS) (K : AV → SS → Prop) : Prop :=
  ((a1 < 0 →
    ((0 ≤ (0 : Int) ∧ (0 : Int) ≤ 1) ∧ K (vI 0) σ)) ∧
  ((0 : Int) ≤ a1 →
    ((a2 < a1 →
      ((0 ≤ (0 : Int) ∧ (0 : Int) ≤ 1) ∧ K (vI 0) σ)) ∧
    (a1 ≤ a2 →
      (S_Wo_size [vR 10 0] σ (kI fun r1 σ1 =>
        ((r1 < a2 →
          ((0 ≤ (0 : Int) ∧ (0 : Int) ≤ 1) ∧ K (vI 0) σ1)) ∧
        (a2 ≤ r1 →
          ((0 ≤ (1 : Int) ∧ (1 : Int) ≤ 1) ∧ K (vI 1) σ1)))))))))
theorem e_Wr_isPart (a1 : Int) (a2 : Int) (σ : SS) (K : AV → SS → Prop) (ha1 : InR a1) (ha2 : InR a2) (hs : okS σ) (hG : S_Wr_isPart [vR 11 0, vI a1, vI a2] σ K) : VE_Wr_isPart a1 a2 σ K := by
  unfold VE_Wr_isPart
  refine ⟨fun h => bS_n hG (by omega), fun h => ⟨fun h2 => bS_n hG (by omega), fun h2 => ?_⟩⟩
  intro _ _
  exact ⟨fun h2 => bS_n hG (by omega), fun h2 => bS_y hG (by omega)⟩
theorem H_Wr_isPart {d : Nat} (hd : 2 ≤ d) : Holds d I_Wr_isPart S_Wr_isPart := by
  refine holds_of (d' := d - 1) (rt := 2) (cal := [(I_Wo_size, S_Wo_size)]) (C := C_Wr_isPart) m_Wr_isPart o_Wr_isPart rfl rfl (by omega) ?_ ?_
  · intro x hx
    simp only [List.mem_cons, List.not_mem_nil, or_false] at hx
    subst hx
    exact H_Wo_size (by omega)
  · intro as σ K has hσ hG
    have hG2 := hG
    unfold S_Wr_isPart at hG2
    split at hG2
    · next a1 a2 =>
      refine ⟨Nat.le_of_ble_eq_true rfl, (fun _ => none), ?_, 1000, ?_⟩
      · intro k n z L σ' hk hL hs hP
        cases hk
      · exact e_Wr_isPart a1 a2 σ K (has _ (List.mem_of_getElem? (i := 1) rfl)) (has _ (List.mem_of_getElem? (i := 2) rfl)) hσ hG
    · exact hG2.elim
def S_Wr_isFullPart : GS := fun as σ K => match as with
  | [some (.inr (.inr (11, 0))), some (.inl a1), some (.inl a2)] => bS (0 ≤ a1 ∧ a1 < a2 ∧ a2 ≤ (σ 501 0 0)) K σ
  | _ => False
def VE_Wr_isFullPart (a1 : Int) (a2 : Int) (σ : SS) (K : AV → SS → Prop) : Prop :=
  ((a2 ≤ a1 →
    ((0 ≤ (0 : Int) ∧ (0 : Int) ≤ 1) ∧ K (vI 0) σ)) ∧
  (a1 < a2 →
    (S_Wr_isPart [vR 11 0, vI a1, vI a2] σ (kI fun r1 σ1 =>
      ((r1 = 0 →
        ((0 ≤ (0 : Int) ∧ (0 : Int) ≤ 1) ∧ K (vI 0) σ1)) ∧
      (r1 ≠ 0 →
        ((0 ≤ (1 : Int) ∧ (1 : Int) ≤ 1) ∧ K (vI 1) σ1)))))))
theorem e_Wr_isFullPart (a1 : Int) (a2 : Int) (σ : SS) (K : AV → SS → Prop) (ha1 : InR a1) (ha2 : InR a2) (hs : okS σ) (hG : S_Wr_isFullPart [vR 11 0, vI a1, vI a2] σ K) : VE_Wr_isFullPart a1 a2 σ K := by
  unfold VE_Wr_isFullPart
  exact ⟨fun h => bS_n hG (by omega), fun h => bS_b0 (fun hp _ => bS_y hG (by omega)) (fun hp _ => bS_n hG (by omega))⟩
theorem H_Wr_isFullPart {d : Nat} (hd : 3 ≤ d) : Holds d I_Wr_isFullPart S_Wr_isFullPart := by
  refine holds_of (d' := d - 1) (rt := 2) (cal := [(I_Wr_isPart, S_Wr_isPart)]) (C := C_Wr_isFullPart) m_Wr_isFullPart o_Wr_isFullPart rfl rfl (by omega) ?_ ?_
  · intro x hx
    simp only [List.mem_cons, List.not_mem_nil, or_false] at hx
    subst hx
    exact H_Wr_isPart (by omega)
  · intro as σ K has hσ hG
    have hG2 := hG
    unfold S_Wr_isFullPart at hG2
    split at hG2
    · next a1 a2 =>
      refine ⟨Nat.le_of_ble_eq_true rfl, (fun _ => none), ?_, 1000, ?_⟩
      · intro k n z L σ' hk hL hs hP
        cases hk
      · exact e_Wr_isFullPart a1 a2 σ K (has _ (List.mem_of_getElem? (i := 1) rfl)) (has _ (List.mem_of_getElem? (i := 2) rfl)) hσ hG
    · exact hG2.elim
def S_Wr_letter : GS := fun as σ K => match as with
  | [some (.inr (.inr (11, 0))), some (.inl a1)] => TwC σ ∧ K (vI (cW σ a1)) σ
  | _ => False
def VE_Wr_letter (a1 : Int) (σ : SS) (K : AV → SS → Prop) : Prop :=
  (S_Wo_at [vR 10 0, vI a1] σ (kI fun r1 σ1 =>
    (K (vI r1) σ1)))
theorem e_Wr_letter (a1 : Int) (σ : SS) (K : AV → SS → Prop) (ha1 : InR a1) (hs : okS σ) (hG : S_Wr_letter [vR 11 0, vI a1] σ K) : VE_Wr_letter a1 σ K := by
  unfold VE_Wr_letter
  obtain ⟨hT, hG⟩ := hG
  refine ⟨hT.n.2, ?_⟩
  intro _ _
  exact hG
theorem H_Wr_letter {d : Nat} (hd : 2 ≤ d) : Holds d I_Wr_letter S_Wr_letter := by
  refine holds_of (d' := d - 1) (rt := 1) (cal := [(I_Wo_at, S_Wo_at)]) (C := C_Wr_letter) m_Wr_letter o_Wr_letter rfl rfl (by omega) ?_ ?_
  · intro x hx
    simp only [List.mem_cons, List.not_mem_nil, or_false] at hx
    subst hx
    exact H_Wo_at (by omega)
  · intro as σ K has hσ hG
    have hG2 := hG
    unfold S_Wr_letter at hG2
    split at hG2
    · next a1 =>
      refine ⟨Nat.le_of_ble_eq_true rfl, (fun _ => none), ?_, 1000, ?_⟩
      · intro k n z L σ' hk hL hs hP
        cases hk
      · exact e_Wr_letter a1 σ K (has _ (List.mem_of_getElem? (i := 1) rfl)) hσ hG
    · exact hG2.elim
def S_Wr_border : GS := fun as σ K => match as with
  | [some (.inr (.inr (11, 0))), some (.inl a1), some (.inl a2), some (.inl a3)] => TwC σ ∧ ∀ σ' r, TQ σ σ' → RBorder (cW σ) (σ 501 0 0) a1 a2 a3 r → K (vI r) σ'
  | _ => False
def VE_Wr_border (a1 : Int) (a2 : Int) (a3 : Int) (σ : SS) (K : AV → SS → Prop) : Prop :=
  (S_Wr_isPart [vR 11 0, vI a1, vI a2] σ (kI fun r1 σ1 =>
    ((r1 = 0 →
      (K (vI (-1)) σ1)) ∧
    (r1 ≠ 0 →
      ((a3 < (-1) →
        (K (vI (-1)) σ1)) ∧
      ((-1 : Int) ≤ a3 →
        (S_Sh_borderSize [vR 6 0, vI a1, vI a2, vI a3] σ1 (kI fun r2 σ2 =>
          (K (vI r2) σ2)))))))))
theorem e_Wr_border (a1 : Int) (a2 : Int) (a3 : Int) (σ : SS) (K : AV → SS → Prop) (ha1 : InR a1) (ha2 : InR a2) (ha3 : InR a3) (hs : okS σ) (hG : S_Wr_border [vR 11 0, vI a1, vI a2, vI a3] σ K) : VE_Wr_border a1 a2 a3 σ K := by
  unfold VE_Wr_border
  obtain ⟨hT, hG⟩ := hG
  refine bS_b0 (fun hp _ => ⟨fun h => hG σ _ (TQ.rf hT) (gd_n (by omega)), fun h => ⟨⟨hT, by omega, by omega, by omega, by omega⟩, fun σ' r p hT' hk hr => ?_⟩⟩) (fun hp _ => hG σ _ (TQ.rf hT) (gd_n (by omega)))
  intro _ _
  exact hG σ' _ hT' (gd_y (by omega) ⟨p, hk, hr⟩)
theorem H_Wr_border {d : Nat} (hd : 6 ≤ d) : Holds d I_Wr_border S_Wr_border := by
  refine holds_of (d' := d - 1) (rt := 1) (cal := [(I_Wr_isPart, S_Wr_isPart), (I_Sh_borderSize, S_Sh_borderSize)]) (C := C_Wr_border) m_Wr_border o_Wr_border rfl rfl (by omega) ?_ ?_
  · intro x hx
    simp only [List.mem_cons, List.not_mem_nil, or_false] at hx
    rcases hx with rfl | rfl
    · exact H_Wr_isPart (by omega)
    · exact H_Sh_borderSize (by omega)
  · intro as σ K has hσ hG
    have hG2 := hG
    unfold S_Wr_border at hG2
    split at hG2
    · next a1 a2 a3 =>
      refine ⟨Nat.le_of_ble_eq_true rfl, (fun _ => none), ?_, 1000, ?_⟩
      · intro k n z L σ' hk hL hs hP
        cases hk
      · exact e_Wr_border a1 a2 a3 σ K (has _ (List.mem_of_getElem? (i := 1) rfl)) (has _ (List.mem_of_getElem? (i := 2) rfl)) (has _ (List.mem_of_getElem? (i := 3) rfl)) hσ hG
    · exact hG2.elim
def S_Wr_period : GS := fun as σ K => match as with
  | [some (.inr (.inr (11, 0))), some (.inl a1), some (.inl a2), some (.inl a3)] => TwC σ ∧ ∀ σ' r, TQ σ σ' → RPeriod (cW σ) (σ 501 0 0) a1 a2 a3 r → K (vI r) σ'
  | _ => False
def VE_Wr_period (a1 : Int) (a2 : Int) (a3 : Int) (σ : SS) (K : AV → SS → Prop) : Prop :=
  (S_Wr_isPart [vR 11 0, vI a1, vI a2] σ (kI fun r1 σ1 =>
    ((r1 = 0 →
      (K (vI (-1)) σ1)) ∧
    (r1 ≠ 0 →
      ((a3 < (-1) →
        (K (vI (-1)) σ1)) ∧
      ((-1 : Int) ≤ a3 →
        (InR (a2 - a1) ∧
        (S_Sh_periodUpTo [vR 6 0, vI a1, vI a2, vI (a2 - a1), vI a3] σ1 (kI fun r2 σ2 =>
          (K (vI r2) σ2))))))))))
theorem e_Wr_period (a1 : Int) (a2 : Int) (a3 : Int) (σ : SS) (K : AV → SS → Prop) (ha1 : InR a1) (ha2 : InR a2) (ha3 : InR a3) (hs : okS σ) (hG : S_Wr_period [vR 11 0, vI a1, vI a2, vI a3] σ K) : VE_Wr_period a1 a2 a3 σ K := by
  unfold VE_Wr_period
  obtain ⟨hT, hG⟩ := hG
  have hn := hT.n
  refine bS_b0 (fun hp _ => ⟨fun h => hG σ _ (TQ.rf hT) (gd_n (by omega)), fun h => ⟨by omega, ⟨hT, by omega, by omega, by omega, by omega, by omega, by omega⟩, fun σ' r hT' hk => ?_⟩⟩) (fun hp _ => hG σ _ (TQ.rf hT) (gd_n (by omega)))
  intro _ _
  exact hG σ' _ hT' (gd_y (by omega) hk)
theorem H_Wr_period {d : Nat} (hd : 5 ≤ d) : Holds d I_Wr_period S_Wr_period := by
  refine holds_of (d' := d - 1) (rt := 1) (cal := [(I_Wr_isPart, S_Wr_isPart), (I_Sh_periodUpTo, S_Sh_periodUpTo)]) (C := C_Wr_period) m_Wr_period o_Wr_period rfl rfl (by omega) ?_ ?_
  · intro x hx
    simp only [List.mem_cons, List.not_mem_nil, or_false] at hx
    rcases hx with rfl | rfl
    · exact H_Wr_isPart (by omega)
    · exact H_Sh_periodUpTo (by omega)
  · intro as σ K has hσ hG
    have hG2 := hG
    unfold S_Wr_period at hG2
    split at hG2
    · next a1 a2 a3 =>
      refine ⟨Nat.le_of_ble_eq_true rfl, (fun _ => none), ?_, 1000, ?_⟩
      · intro k n z L σ' hk hL hs hP
        cases hk
      · exact e_Wr_period a1 a2 a3 σ K (has _ (List.mem_of_getElem? (i := 1) rfl)) (has _ (List.mem_of_getElem? (i := 2) rfl)) (has _ (List.mem_of_getElem? (i := 3) rfl)) hσ hG
    · exact hG2.elim
def S_Wr_cover : GS := fun as σ K => match as with
  | [some (.inr (.inr (11, 0))), some (.inl a1), some (.inl a2), some (.inl a3)] => TwC σ ∧ ∀ σ' r, TQ σ σ' → RCover (cW σ) (σ 501 0 0) a1 a2 a3 r → K (vI r) σ'
  | _ => False
def VE_Wr_cover (a1 : Int) (a2 : Int) (a3 : Int) (σ : SS) (K : AV → SS → Prop) : Prop :=
  (S_Wr_isFullPart [vR 11 0, vI a1, vI a2] σ (kI fun r1 σ1 =>
    ((r1 = 0 →
      (K (vI (-1)) σ1)) ∧
    (r1 ≠ 0 →
      ((a3 < (-1) →
        (K (vI (-1)) σ1)) ∧
      ((-1 : Int) ≤ a3 →
        (S_Sh_coverSize [vR 6 0, vI a1, vI a2, vI a3] σ1 (kI fun r2 σ2 =>
          (K (vI r2) σ2)))))))))
theorem e_Wr_cover (a1 : Int) (a2 : Int) (a3 : Int) (σ : SS) (K : AV → SS → Prop) (ha1 : InR a1) (ha2 : InR a2) (ha3 : InR a3) (hs : okS σ) (hG : S_Wr_cover [vR 11 0, vI a1, vI a2, vI a3] σ K) : VE_Wr_cover a1 a2 a3 σ K := by
  unfold VE_Wr_cover
  obtain ⟨hT, hG⟩ := hG
  refine bS_b0 (fun hp _ => ⟨fun h => hG σ _ (TQ.rf hT) (gd_n (by omega)), fun h => ⟨⟨hT, by omega, by omega, by omega, by omega⟩, fun σ' r hT' hk => ?_⟩⟩) (fun hp _ => hG σ _ (TQ.rf hT) (gd_n (by omega)))
  intro _ _
  exact hG σ' _ hT' (gd_y (by omega) hk)
theorem H_Wr_cover {d : Nat} (hd : 5 ≤ d) : Holds d I_Wr_cover S_Wr_cover := by
  refine holds_of (d' := d - 1) (rt := 1) (cal := [(I_Wr_isFullPart, S_Wr_isFullPart), (I_Sh_coverSize, S_Sh_coverSize)]) (C := C_Wr_cover) m_Wr_cover o_Wr_cover rfl rfl (by omega) ?_ ?_
  · intro x hx
    simp only [List.mem_cons, List.not_mem_nil, or_false] at hx
    rcases hx with rfl | rfl
    · exact H_Wr_isFullPart (by omega)
    · exact H_Sh_coverSize (by omega)
  · intro as σ K has hσ hG
    have hG2 := hG
    unfold S_Wr_cover at hG2
    split at hG2
    · next a1 a2 a3 =>
      refine ⟨Nat.le_of_ble_eq_true rfl, (fun _ => none), ?_, 1000, ?_⟩
      · intro k n z L σ' hk hL hs hP
        cases hk
      · exact e_Wr_cover a1 a2 a3 σ K (has _ (List.mem_of_getElem? (i := 1) rfl)) (has _ (List.mem_of_getElem? (i := 2) rfl)) (has _ (List.mem_of_getElem? (i := 3) rfl)) hσ hG
    · exact hG2.elim
def S_Wr_lies : GS := fun as σ K => match as with
  | [some (.inr (.inr (11, 0))), some (.inl a1), some (.inl a2), some (.inl a3)] => TwC σ ∧ ∀ σ' r, TQ σ σ' → RLies (cW σ) (σ 501 0 0) a1 a2 a3 r → K (vI r) σ'
  | _ => False
def VE_Wr_lies (a1 : Int) (a2 : Int) (a3 : Int) (σ : SS) (K : AV → SS → Prop) : Prop :=
  (S_Wr_isFullPart [vR 11 0, vI a1, vI a2] σ (kI fun r1 σ1 =>
    ((r1 = 0 →
      (K (vI (-1)) σ1)) ∧
    (r1 ≠ 0 →
      ((a3 < (-1) →
        (K (vI (-1)) σ1)) ∧
      ((-1 : Int) ≤ a3 →
        (S_Sh_placeOf [vR 6 0, vI a1, vI a2, vI a3] σ1 (kI fun r2 σ2 =>
          (K (vI r2) σ2)))))))))
theorem e_Wr_lies (a1 : Int) (a2 : Int) (a3 : Int) (σ : SS) (K : AV → SS → Prop) (ha1 : InR a1) (ha2 : InR a2) (ha3 : InR a3) (hs : okS σ) (hG : S_Wr_lies [vR 11 0, vI a1, vI a2, vI a3] σ K) : VE_Wr_lies a1 a2 a3 σ K := by
  unfold VE_Wr_lies
  obtain ⟨hT, hG⟩ := hG
  refine bS_b0 (fun hp _ => ⟨fun h => hG σ _ (TQ.rf hT) (gd_n (by omega)), fun h => ⟨⟨hT, by omega, by omega, by omega, by omega⟩, fun σ' r hT' hk => ?_⟩⟩) (fun hp _ => hG σ _ (TQ.rf hT) (gd_n (by omega)))
  intro _ _
  exact hG σ' _ hT' (gd_y (by omega) hk)
theorem H_Wr_lies {d : Nat} (hd : 4 ≤ d) : Holds d I_Wr_lies S_Wr_lies := by
  refine holds_of (d' := d - 1) (rt := 1) (cal := [(I_Wr_isFullPart, S_Wr_isFullPart), (I_Sh_placeOf, S_Sh_placeOf)]) (C := C_Wr_lies) m_Wr_lies o_Wr_lies rfl rfl (by omega) ?_ ?_
  · intro x hx
    simp only [List.mem_cons, List.not_mem_nil, or_false] at hx
    rcases hx with rfl | rfl
    · exact H_Wr_isFullPart (by omega)
    · exact H_Sh_placeOf (by omega)
  · intro as σ K has hσ hG
    have hG2 := hG
    unfold S_Wr_lies at hG2
    split at hG2
    · next a1 a2 a3 =>
      refine ⟨Nat.le_of_ble_eq_true rfl, (fun _ => none), ?_, 1000, ?_⟩
      · intro k n z L σ' hk hL hs hP
        cases hk
      · exact e_Wr_lies a1 a2 a3 σ K (has _ (List.mem_of_getElem? (i := 1) rfl)) (has _ (List.mem_of_getElem? (i := 2) rfl)) (has _ (List.mem_of_getElem? (i := 3) rfl)) hσ hG
    · exact hG2.elim
def S_Wr_alike : GS := fun as σ K => match as with
  | [some (.inr (.inr (11, 0))), some (.inl a1), some (.inl a2)] => TwC σ ∧ ∀ σ' r, TQ σ σ' → RAlike (cW σ) (σ 501 0 0) a1 a2 r → K (vI r) σ'
  | _ => False
def VE_Wr_alike (a1 : Int) (a2 : Int) (σ : SS) (K : AV → SS → Prop) : Prop :=
  (S_Wr_isPlace [vR 11 0, vI a1] σ (kI fun r1 σ1 =>
    ((r1 = 0 →
      (K (vI (-1)) σ1)) ∧
    (r1 ≠ 0 →
      (S_Wr_isPlace [vR 11 0, vI a2] σ1 (kI fun r2 σ2 =>
        ((r2 = 0 →
          (K (vI (-1)) σ2)) ∧
        (r2 ≠ 0 →
          (S_Tw_common [vR 8 0, vI a1, vI a2] σ2 (kI fun r3 σ3 =>
            (K (vI r3) σ3)))))))))))
theorem e_Wr_alike (a1 : Int) (a2 : Int) (σ : SS) (K : AV → SS → Prop) (ha1 : InR a1) (ha2 : InR a2) (hs : okS σ) (hG : S_Wr_alike [vR 11 0, vI a1, vI a2] σ K) : VE_Wr_alike a1 a2 σ K := by
  unfold VE_Wr_alike
  obtain ⟨hT, hG⟩ := hG
  refine bS_b0 (fun hp _ => bS_b0 (fun hp2 _ => ⟨hT, fun σ' hF hT' => ?_⟩) (fun hp2 _ => hG σ _ (TQ.rf hT) (gd_n (by omega)))) (fun hp _ => hG σ _ (TQ.rf hT) (gd_n (by omega)))
  intro _ _
  exact hG σ' _ ⟨hF, hT'⟩ (gd_y ⟨hp, hp2⟩ (by rw [lceR, if_pos (by omega)]))
theorem H_Wr_alike {d : Nat} (hd : 3 ≤ d) : Holds d I_Wr_alike S_Wr_alike := by
  refine holds_of (d' := d - 1) (rt := 1) (cal := [(I_Wr_isPlace, S_Wr_isPlace), (I_Tw_common, S_Tw_common)]) (C := C_Wr_alike) m_Wr_alike o_Wr_alike rfl rfl (by omega) ?_ ?_
  · intro x hx
    simp only [List.mem_cons, List.not_mem_nil, or_false] at hx
    rcases hx with rfl | rfl
    · exact H_Wr_isPlace (by omega)
    · exact H_Tw_common (by omega)
  · intro as σ K has hσ hG
    have hG2 := hG
    unfold S_Wr_alike at hG2
    split at hG2
    · next a1 a2 =>
      refine ⟨Nat.le_of_ble_eq_true rfl, (fun _ => none), ?_, 1000, ?_⟩
      · intro k n z L σ' hk hL hs hP
        cases hk
      · exact e_Wr_alike a1 a2 σ K (has _ (List.mem_of_getElem? (i := 1) rfl)) (has _ (List.mem_of_getElem? (i := 2) rfl)) hσ hG
    · exact hG2.elim
def S_In_compare : GS := fun as σ K => match as with
  | [some (.inl a0), some (.inl a1)] => K (vI (ordI a0 a1 1)) σ
  | _ => False
def VE_In_compare (a0 : Int) (a1 : Int) (σ : SS) (K : AV → SS → Prop) : Prop :=
  ((a1 ≤ a0 →
    ((a0 ≠ a1 →
      (K (vI 1) σ)) ∧
    (a0 = a1 →
      (K (vI 0) σ)))) ∧
  (a0 < a1 →
    (K (vI (-1)) σ)))
theorem e_In_compare (a0 : Int) (a1 : Int) (σ : SS) (K : AV → SS → Prop) (ha0 : InR a0) (ha1 : InR a1) (hs : okS σ) (hG : S_In_compare [vI a0, vI a1] σ K) : VE_In_compare a0 a1 σ K := by
  unfold VE_In_compare
  have hG : K (vI (ordI a0 a1 1)) σ := hG
  unfold ordI at hG
  rw [if_neg (by decide)] at hG
  refine ⟨fun h => ⟨fun h2 => ?_, fun h2 => ?_⟩, fun h => ?_⟩
  all_goals grind
theorem H_In_compare {d : Nat} (hd : 1 ≤ d) : Holds d I_In_compare S_In_compare := by
  refine holds_of (d' := d - 1) (rt := 1) (cal := []) (C := C_In_compare) m_In_compare o_In_compare rfl rfl (by omega) ?_ ?_
  · intro x hx
    cases hx
  · intro as σ K has hσ hG
    have hG2 := hG
    unfold S_In_compare at hG2
    split at hG2
    · next a0 a1 =>
      refine ⟨Nat.le_of_ble_eq_true rfl, (fun _ => none), ?_, 1000, ?_⟩
      · intro k n z L σ' hk hL hs hP
        cases hk
      · exact e_In_compare a0 a1 σ K (has _ (List.mem_of_getElem? (i := 0) rfl)) (has _ (List.mem_of_getElem? (i := 1) rfl)) hσ hG
    · exact hG2.elim
def S_Or_lesserPart : GS := fun as σ K => match as with
  | [some (.inr (.inr (1, 0))), some (.inl a1), some (.inl a2), some (.inl a3), some (.inl a4)] => (TwC σ ∧ (0 ≤ a1 ∧ a1 ≤ a2 ∧ a2 ≤ (σ 501 0 0)) ∧ 0 ≤ a3 ∧ a3 ≤ a4 ∧ a4 ≤ (σ 501 0 0)) ∧ ∀ σ', TQ σ σ' → K (vI (cmpP (cW σ) a1 a2 a3 a4)) σ'
  | _ => False
def VE_Or_lesserPart (a1 : Int) (a2 : Int) (a3 : Int) (a4 : Int) (σ : SS) (K : AV → SS → Prop) : Prop :=
  (InR (a2 - a1) ∧
  (InR (a4 - a3) ∧
  (S_Tw_common [vR 8 0, vI a1, vI a3] σ (kI fun r1 σ1 =>
    ((r1 < (min (a2 - a1) (a4 - a3)) →
      (InR (a1 + r1) ∧
      (S_Wo_at [vR 10 0, vI (a1 + r1)] σ1 (kI fun r2 σ2 =>
        (InR (a3 + r1) ∧
        (S_Wo_at [vR 10 0, vI (a3 + r1)] σ2 (kI fun r3 σ3 =>
          ((r3 ≤ r2 →
            (K (vI 1) σ3)) ∧
          (r2 < r3 →
            (K (vI (-1)) σ3)))))))))) ∧
    ((min (a2 - a1) (a4 - a3)) ≤ r1 →
      (InR (a2 - a1) ∧
      (InR (a4 - a3) ∧
      (S_In_compare [vI (a2 - a1), vI (a4 - a3)] σ1 (kI fun r4 σ4 =>
        (K (vI r4) σ4)))))))))))
theorem e_Or_lesserPart (a1 : Int) (a2 : Int) (a3 : Int) (a4 : Int) (σ : SS) (K : AV → SS → Prop) (ha1 : InR a1) (ha2 : InR a2) (ha3 : InR a3) (ha4 : InR a4) (hs : okS σ) (hG : S_Or_lesserPart [vR 1 0, vI a1, vI a2, vI a3, vI a4] σ K) : VE_Or_lesserPart a1 a2 a3 a4 σ K := by
  unfold VE_Or_lesserPart
  obtain ⟨⟨hT, h1, h2⟩, hG⟩ := hG
  have hn := hT.n
  refine ⟨by omega, by omega, hT, fun σ' hF hT' => ?_⟩
  intro _ _
  have hq : TQ σ σ' := ⟨hF, hT'⟩
  obtain ⟨w1, w2⟩ := hq.w
  have hG := hG σ' hq
  unfold cmpP at hG
  rw [lceF_min (n := (σ 501 0 0)) (by omega) (by omega) (by omega) (by omega) (by omega)] at hG
  refine ⟨fun h => ?_, fun h => ⟨by omega, by omega, ?_⟩⟩
  · rw [if_pos (by omega), show min (min (a2 - a1) (a4 - a3)) (lceR (cW σ) (σ 501 0 0) a1 a3) = lceR (cW σ) (σ 501 0 0) a1 a3 by omega] at hG
    have h0 : 0 ≤ lceR (cW σ) (σ 501 0 0) a1 a3 := by
      unfold lceR
      split
      · exact (lce_spec _ (by omega) (by omega)).1
      · omega
    have e : ∀ x, atW (σ' 20 0) (σ' 501 0 0) x = cW σ x := fun x => by rw [← w1]; rfl
    refine ⟨by omega, by omega, ?_⟩
    rw [e]
    intro _ _
    refine ⟨by omega, by omega, ?_⟩
    rw [e]
    intro _ _
    have hne : cW σ (a1 + lceR (cW σ) (σ 501 0 0) a1 a3) ≠ cW σ (a3 + lceR (cW σ) (σ 501 0 0) a1 a3) := by
      have e3 : lceR (cW σ) (σ 501 0 0) a1 a3 = lce (cW σ) (σ 501 0 0) a1 a3 := by rw [lceR, if_pos (by omega)]
      rw [e3] at h ⊢
      exact (lce_spec _ (by omega) (by omega)).2.2.2.2 (by omega)
    unfold ordI at hG
    rw [if_neg (by decide)] at hG
    refine ⟨fun h3 => ?_, fun h3 => ?_⟩
    · rwa [if_neg (by omega), if_pos (by omega)] at hG
    · rwa [if_pos h3] at hG
  · rw [if_neg (by omega)] at hG
    intro _ _
    exact hG
theorem H_Or_lesserPart {d : Nat} (hd : 3 ≤ d) : Holds d I_Or_lesserPart S_Or_lesserPart := by
  refine holds_of (d' := d - 1) (rt := 1) (cal := [(I_Tw_common, S_Tw_common), (I_In_compare, S_In_compare), (I_Wo_at, S_Wo_at)]) (C := C_Or_lesserPart) m_Or_lesserPart o_Or_lesserPart rfl rfl (by omega) ?_ ?_
  · intro x hx
    simp only [List.mem_cons, List.not_mem_nil, or_false] at hx
    rcases hx with rfl | rfl | rfl
    · exact H_Tw_common (by omega)
    · exact H_In_compare (by omega)
    · exact H_Wo_at (by omega)
  · intro as σ K has hσ hG
    have hG2 := hG
    unfold S_Or_lesserPart at hG2
    split at hG2
    · next a1 a2 a3 a4 =>
      refine ⟨Nat.le_of_ble_eq_true rfl, (fun _ => none), ?_, 1000, ?_⟩
      · intro k n z L σ' hk hL hs hP
        cases hk
      · exact e_Or_lesserPart a1 a2 a3 a4 σ K (has _ (List.mem_of_getElem? (i := 1) rfl)) (has _ (List.mem_of_getElem? (i := 2) rfl)) (has _ (List.mem_of_getElem? (i := 3) rfl)) (has _ (List.mem_of_getElem? (i := 4) rfl)) hσ hG
    · exact hG2.elim
def S_Wr_compare : GS := fun as σ K => match as with
  | [some (.inr (.inr (11, 0))), some (.inl a1), some (.inl a2), some (.inl a3), some (.inl a4)] => TwC σ ∧ ∀ σ' r, TQ σ σ' → RCompare (cW σ) (σ 501 0 0) a1 a2 a3 a4 r → K (vI r) σ'
  | _ => False
def VE_Wr_compare (a1 : Int) (a2 : Int) (a3 : Int) (a4 : Int) (σ : SS) (K : AV → SS → Prop) : Prop :=
  (S_Wr_isPart [vR 11 0, vI a1, vI a2] σ (kI fun r1 σ1 =>
    ((r1 = 0 →
      (K (vI (-2)) σ1)) ∧
    (r1 ≠ 0 →
      (S_Wr_isPart [vR 11 0, vI a3, vI a4] σ1 (kI fun r2 σ2 =>
        ((r2 = 0 →
          (K (vI (-2)) σ2)) ∧
        (r2 ≠ 0 →
          (S_Or_lesserPart [vR 1 0, vI a1, vI a2, vI a3, vI a4] σ2 (kI fun r3 σ3 =>
            (K (vI r3) σ3)))))))))))
theorem e_Wr_compare (a1 : Int) (a2 : Int) (a3 : Int) (a4 : Int) (σ : SS) (K : AV → SS → Prop) (ha1 : InR a1) (ha2 : InR a2) (ha3 : InR a3) (ha4 : InR a4) (hs : okS σ) (hG : S_Wr_compare [vR 11 0, vI a1, vI a2, vI a3, vI a4] σ K) : VE_Wr_compare a1 a2 a3 a4 σ K := by
  unfold VE_Wr_compare
  obtain ⟨hT, hG⟩ := hG
  refine bS_b0 (fun hp _ => bS_b0 (fun hp2 _ => ⟨⟨hT, hp, hp2⟩, fun σ' hT' => ?_⟩) (fun hp2 _ => hG σ _ (TQ.rf hT) (gd_n (by omega)))) (fun hp _ => hG σ _ (TQ.rf hT) (gd_n (by omega)))
  intro _ _
  exact hG σ' _ hT' (gd_y ⟨hp, hp2⟩ rfl)
theorem H_Wr_compare {d : Nat} (hd : 4 ≤ d) : Holds d I_Wr_compare S_Wr_compare := by
  refine holds_of (d' := d - 1) (rt := 1) (cal := [(I_Wr_isPart, S_Wr_isPart), (I_Or_lesserPart, S_Or_lesserPart)]) (C := C_Wr_compare) m_Wr_compare o_Wr_compare rfl rfl (by omega) ?_ ?_
  · intro x hx
    simp only [List.mem_cons, List.not_mem_nil, or_false] at hx
    rcases hx with rfl | rfl
    · exact H_Wr_isPart (by omega)
    · exact H_Or_lesserPart (by omega)
  · intro as σ K has hσ hG
    have hG2 := hG
    unfold S_Wr_compare at hG2
    split at hG2
    · next a1 a2 a3 a4 =>
      refine ⟨Nat.le_of_ble_eq_true rfl, (fun _ => none), ?_, 1000, ?_⟩
      · intro k n z L σ' hk hL hs hP
        cases hk
      · exact e_Wr_compare a1 a2 a3 a4 σ K (has _ (List.mem_of_getElem? (i := 1) rfl)) (has _ (List.mem_of_getElem? (i := 2) rfl)) (has _ (List.mem_of_getElem? (i := 3) rfl)) (has _ (List.mem_of_getElem? (i := 4) rfl)) hσ hG
    · exact hG2.elim
