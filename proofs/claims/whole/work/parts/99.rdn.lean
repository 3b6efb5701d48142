/-! TEXT: the class's reader; names, the whole -/
def psR (a : Int) (R : PR) : Prop := (∀ e, R = .inl e → 0 < e ∧ e % 8 ≤ 4) ∧ (∀ q, R = .inr q → a ≤ q.2)
theorem ps_l {a e : Int} (h : 0 < e ∧ e % 8 ≤ 4) : psR a (.inl e) := ⟨(fun e' z => by cases z; exact h), (fun q z => by cases z)⟩
theorem ps_r {a c : Int} {u : PW} (h : a ≤ c) : psR a (.inr (u, c)) := ⟨(fun e' z => by cases z), (fun q z => by cases z; exact h)⟩
theorem ps_up {a b : Int} {R : PR} (h : psR b R) (hab : a ≤ b) : psR a R := ⟨h.1, fun q z => Int.le_trans hab (h.2 q z)⟩
theorem ps_map {a : Int} {R : PR} {f : PW → PW} (h : psR a R) : psR a (mapR f R) := by
  cases e : R with
  | inl x => rw [e] at h; exact ps_l (h.1 x rfl)
  | inr q => rw [e] at h; exact ps_r (h.2 q rfl)
theorem ps_lim {a b L : Int} {R : PR} (h : psR a R) (hb : 0 ≤ b) : psR a (lim b L R) := by
  cases e : R with
  | inl x => rw [e] at h; exact ps_l (h.1 x rfl)
  | inr q =>
    rw [e] at h
    by_cases c : L < q.1.2
    · rw [lim_f rfl c]; exact ps_l (by omega)
    · rw [lim_r rfl c]; exact h
theorem ps_let {T : Int → Int} {a : Int} (ha : 0 ≤ a) : psR a (pLet1 T a) := by
  have g : a + 1 ≤ we T (a + 1) := scF_ge _ _
  unfold pLet1
  split
  · exact ps_l (by omega)
  · exact ps_r (by omega)
theorem ps_grown {T : Int → Int} {P : Prop} [Decidable P] {a : Int} (ha : 0 ≤ a) : psR a (pGrown T P a) := by
  have g : a ≤ sk T a := scF_ge _ _
  have g2 : sk T a ≤ de T (sk T a) := scF_ge _ _
  unfold pGrown
  by_cases c : dg (T (sk T a)) = false
  · rw [if_pos c]; exact ps_l (by omega)
  · rw [if_neg c]
    by_cases d : (if P then (20 : Int) else 8) < nv T (sk T a)
    · rw [if_pos d]; exact ps_l (by omega)
    · rw [if_neg d]; exact ps_r (by omega)
theorem ps_word {T : Int → Int} {N : List (Int × PW)} {ins : Int → PR} {a : Int} (ha : 0 ≤ a) (hi : ∀ b, 0 ≤ b → psR b (ins b)) : psR a (pWord T N ins a) := by
  have g : a ≤ we T a := scF_ge _ _
  unfold pWord
  split
  · exact ps_up (ps_map (hi _ (by omega))) g
  · split
    · exact ps_up (ps_grown (by omega)) g
    · split
      · exact ps_up (ps_grown (by omega)) g
      · cases lookN N (cd T a) with
        | none => exact ps_l (by omega)
        | some u => exact ps_r g
theorem ps_item {T : Int → Int} {N : List (Int × PW)} {ins : Int → PR} {a : Int} (ha : 0 ≤ a) (hi : ∀ b, 0 ≤ b → psR b (ins b)) : psR a (pItem T N ins a) := by
  have g : a ≤ de T a := scF_ge _ _
  unfold pItem
  split
  · exact ps_let ha
  · split
    · unfold pTimes
      split
      · exact ps_l (by omega)
      · exact ps_up (ps_map (hi _ (by omega))) g
    · split
      · exact ps_word ha hi
      · exact ps_l (by omega)
theorem ps_rowF {T : Int → Int} {N : List (Int × PW)} {ins : Int → PR} (hi : ∀ b, 0 ≤ b → psR b (ins b)) : ∀ (k : Nat) (u : PW) (a : Int), 0 ≤ a → psR a (pRowF T N ins k u a) := by
  intro k
  induction k with
  | zero => intro u a ha; exact ps_r (scF_ge _ _)
  | succ k ih =>
    intro u a ha
    have g : a ≤ sk T a := scF_ge _ _
    unfold pRowF
    split
    · exact ps_r g
    · have h := ps_lim (L := 120 - u.2) (ps_item (T := T) (N := N) (show 0 ≤ sk T a by omega) hi) (show 0 ≤ sk T a by omega)
      generalize lim (sk T a) (120 - u.2) (pItem T N ins (sk T a)) = R at h
      cases R with
      | inl e => exact ps_l (h.1 e rfl)
      | inr q =>
        have := h.2 q rfl
        exact ps_up (ih _ _ (by omega)) (by omega)
theorem ps_row1 {T : Int → Int} {N : List (Int × PW)} {ins : Int → PR} {a : Int} (ha : 0 ≤ a) (hi : ∀ b, 0 ≤ b → psR b (ins b)) : psR a (pRow1 T N ins a) := by
  have g : a ≤ sk T a := scF_ge _ _
  unfold pRow1
  have h := ps_lim (L := 120) (ps_item (T := T) (N := N) (show 0 ≤ sk T a by omega) hi) (show 0 ≤ sk T a by omega)
  generalize lim (sk T a) 120 (pItem T N ins (sk T a)) = R at h
  cases R with
  | inl e => exact ps_l (h.1 e rfl)
  | inr q =>
    have := h.2 q rfl
    exact ps_up (ps_rowF hi _ _ _ (by omega)) (by omega)
theorem ps_ins {T : Int → Int} {row : Option (Int → PR)} {a : Int} (ha : 0 ≤ a) (hi : ∀ f, row = some f → ∀ b, 0 ≤ b → psR b (f b)) : psR a (pIns T row a) := by
  have g : a ≤ sk T a := scF_ge _ _
  unfold pIns
  split
  · exact ps_l (by omega)
  · cases row with
    | none => exact ps_l (by omega)
    | some f =>
      have h := hi f rfl (sk T a + 1) (by omega)
      dsimp only
      generalize f (sk T a + 1) = R at h
      cases R with
      | inl e => exact ps_l (h.1 e rfl)
      | inr q =>
        have h2 := h.2 q rfl
        have g2 : q.2 ≤ sk T q.2 := scF_ge _ _
        dsimp only
        split
        · exact ps_l (by omega)
        · exact ps_r (by omega)
theorem ps_row {T : Int → Int} {N : List (Int × PW)} : ∀ (e : Nat) (a : Int), 0 ≤ a → psR a (pRow T N e a) := by
  intro e
  induction e with
  | zero => intro a ha; exact ps_row1 ha (fun b hb => ps_ins hb (fun f z => by cases z))
  | succ e ih => intro a ha; exact ps_row1 ha (fun b hb => ps_ins hb (fun f z => by cases z; exact ih))
theorem cd_3 {T : Int → Int} {a r : Int} (hr : r = we T a) (h : scI T sm a r) (h1 : 1 ≤ r - a) (h2 : r - a ≤ 3) : 1 ≤ cd T a ∧ cd T a ≤ 19682 := by
  unfold cd
  rw [← hr, if_pos (by omega)]
  have g : ∀ j : Nat, (j : Int) < r - a → 97 ≤ T (a + j) ∧ T (a + j) ≤ 122 := fun j hj => sm_t.mp (h.2 (a + j) (by omega) (by omega))
  rcases (by omega : (r - a).toNat = 1 ∨ (r - a).toNat = 2 ∨ (r - a).toNat = 3) with z | z | z
  · rw [z]
    have g0 := g 0 (by omega)
    simp only [cdF]; omega
  · rw [z]
    have g0 := g 0 (by omega)
    have g1 := g 1 (by omega)
    simp only [cdF]; omega
  · rw [z]
    have g0 := g 0 (by omega)
    have g1 := g 1 (by omega)
    have g2 := g 2 (by omega)
    simp only [cdF]; omega
theorem cd_0 {T : Int → Int} {a : Int} (h : we T a = a) : cd T a = 0 := by
  unfold cd
  rw [h, if_pos (by omega), show (a - a).toNat = 0 by omega]
  rfl
theorem set_get {N : List (Int × PW)} {c r : Int} (h : slI N c r) (u : PW) : (∀ k : Nat, (setN N c u)[k]? = if (k : Int) = r then some (c, u) else N[k]?) ∧ ((setN N c u).length : Int) = max (N.length : Int) (r + 1) := by
  rcases h with ⟨h1, h2, h3⟩ | ⟨h1, q, h2, h3, h4, h5⟩
  · rw [h3 u]
    refine ⟨fun k => ?_, by simp; omega⟩
    by_cases d : (k : Int) = r
    · rw [if_pos d, show k = N.length by omega, List.getElem?_append_right (Nat.le_refl _), Nat.sub_self]
      rfl
    · rw [if_neg d]
      rcases (by omega : k < N.length ∨ N.length < k) with z | z
      · exact List.getElem?_append_left z
      · rw [List.getElem?_eq_none (by simp; omega), List.getElem?_eq_none (by omega)]
  · rw [h5 u]
    refine ⟨fun k => ?_, by simp; omega⟩
    rw [List.getElem?_set]
    by_cases d : (k : Int) = r
    · rw [if_pos d, if_pos (by omega), if_pos (by omega)]
    · rw [if_neg d, if_neg (by omega)]
def S_Re_isName : GS := fun as σ K => match as with
  | [some (.inr (.inr (3, 0))), some (.inl a1), some (.inl a2)] => bS ((1 ≤ a2 ∧ a2 ≤ 3) ∧ a1 ≠ 8903 ∧ a1 ≠ 13279 ∧ a1 ≠ 4619) K σ
  | _ => False
def VE_Re_isName (a1 : Int) (a2 : Int) (σ : SS) (K : AV → SS → Prop) : Prop :=
  ((a2 < 1 →
    ((0 ≤ (0 : Int) ∧ (0 : Int) ≤ 1) ∧ K (vI 0) σ)) ∧
  ((1 : Int) ≤ a2 →
    (((3 : Int) < a2 →
      ((0 ≤ (0 : Int) ∧ (0 : Int) ≤ 1) ∧ K (vI 0) σ)) ∧
    (a2 ≤ 3 →
      ((a1 = 8903 →
        ((0 ≤ (0 : Int) ∧ (0 : Int) ≤ 1) ∧ K (vI 0) σ)) ∧
      (a1 ≠ 8903 →
        ((a1 = 13279 →
          ((0 ≤ (0 : Int) ∧ (0 : Int) ≤ 1) ∧ K (vI 0) σ)) ∧
        (a1 ≠ 13279 →
          ((a1 = 4619 →
            ((0 ≤ (0 : Int) ∧ (0 : Int) ≤ 1) ∧ K (vI 0) σ)) ∧
          (a1 ≠ 4619 →
            ((0 ≤ (1 : Int) ∧ (1 : Int) ≤ 1) ∧ K (vI 1) σ)))))))))))
theorem e_Re_isName (a1 : Int) (a2 : Int) (σ : SS) (K : AV → SS → Prop) (ha1 : InR a1) (ha2 : InR a2) (hs : okS σ) (hG : S_Re_isName [vR 3 0, vI a1, vI a2] σ K) : VE_Re_isName a1 a2 σ K := by
  unfold VE_Re_isName
  refine ⟨fun h => bS_n hG (by omega), fun h => ⟨fun h2 => bS_n hG (by omega), fun h2 => ⟨fun h3 => bS_n hG (by omega), fun h3 => ⟨fun h4 => bS_n hG (by omega), fun h4 => ⟨fun h5 => bS_n hG (by omega), fun h5 => bS_y hG ⟨⟨by omega, by omega⟩, h3, h4, h5⟩⟩⟩⟩⟩⟩
theorem H_Re_isName {d : Nat} (hd : 1 ≤ d) : Holds d I_Re_isName S_Re_isName := by
  refine holds_of (d' := d - 1) (rt := 2) (cal := []) (C := C_Re_isName) m_Re_isName o_Re_isName rfl rfl (by omega) ?_ ?_
  · intro x hx
    cases hx
  · intro as σ K has hσ hG
    have hG2 := hG
    unfold S_Re_isName at hG2
    split at hG2
    · next a1 a2 =>
      refine ⟨Nat.le_of_ble_eq_true rfl, (fun _ => none), ?_, 1000, ?_⟩
      · intro k n z L σ' hk hL hs hP
        cases hk
      · exact e_Re_isName a1 a2 σ K (has _ (List.mem_of_getElem? (i := 1) rfl)) (has _ (List.mem_of_getElem? (i := 2) rfl)) hσ hG
    · exact hG2.elim
def S_Re_passLet : GS := fun as σ K => match as with
  | [some (.inr (.inr (3, 0)))] => (0 ≤ σ 228 0 0 ∧ σ 228 0 0 ≤ σ 221 0 0 ∧ σ 221 0 0 ≤ 300) ∧ ∀ σ' r, Fr [(228, 0)] σ σ' → (cd (tpC σ) (sk (tpC σ) (σ 228 0 0)) = 8903 → r = 1 ∧ σ' 228 0 0 = we (tpC σ) (sk (tpC σ) (σ 228 0 0)) ∧ σ 228 0 0 < σ' 228 0 0 ∧ σ' 228 0 0 ≤ σ 221 0 0) → (cd (tpC σ) (sk (tpC σ) (σ 228 0 0)) ≠ 8903 → r = 0 ∧ σ' 228 0 0 = sk (tpC σ) (σ 228 0 0) ∧ σ 228 0 0 ≤ σ' 228 0 0 ∧ σ' 228 0 0 ≤ σ 221 0 0) → K (vI r) σ'
  | _ => False
def VE_Re_passLet (σ : SS) (K : AV → SS → Prop) : Prop :=
  (S_Re_skipBlanks [vR 3 0] σ (kV fun σ1 =>
    (S_Re_wordEnd [vR 3 0, vI (σ1 228 0 0)] σ1 (kI fun r2 σ2 =>
      (S_Re_codeOf [vR 3 0, vI (σ2 228 0 0), vI r2] σ2 (kI fun r3 σ3 =>
        ((r3 ≠ 8903 →
          (((0 : Int) = 0 →
            (∀ σ4 : SS, σ4 = u3 σ3 228 0 0 (σ3 228 0 0) →
            ((0 ≤ (0 : Int) ∧ (0 : Int) ≤ 1) ∧ K (vI 0) σ4))) ∧
          ((0 : Int) ≠ 0 →
            (∀ σ5 : SS, σ5 = u3 σ3 228 0 0 r2 →
            ((0 ≤ (0 : Int) ∧ (0 : Int) ≤ 1) ∧ K (vI 0) σ5))))) ∧
        (r3 = 8903 →
          (((1 : Int) = 0 →
            (∀ σ6 : SS, σ6 = u3 σ3 228 0 0 (σ3 228 0 0) →
            ((0 ≤ (1 : Int) ∧ (1 : Int) ≤ 1) ∧ K (vI 1) σ6))) ∧
          ((1 : Int) ≠ 0 →
            (∀ σ7 : SS, σ7 = u3 σ3 228 0 0 r2 →
            ((0 ≤ (1 : Int) ∧ (1 : Int) ≤ 1) ∧ K (vI 1) σ7))))))))))))
theorem e_Re_passLet (σ : SS) (K : AV → SS → Prop) (hs : okS σ) (hG : S_Re_passLet [vR 3 0] σ K) : VE_Re_passLet σ K := by
  unfold VE_Re_passLet
  obtain ⟨h1, hG⟩ := hG
  refine ⟨(by first | assumption | omega | exact ⟨by first | assumption | omega, by omega⟩ | exact ⟨by assumption, by omega, by omega⟩ | exact ⟨by assumption, by omega, by omega, by omega⟩ | exact ⟨by assumption, by omega, by omega, by omega, by omega⟩ | exact ⟨by assumption, by omega, by omega, by omega, by omega, by omega⟩), (fun σ1 h1a h1b h1c => ?_)⟩
  intro _
  have f1 := h1a
  have f2 := h1b
  have f3 := h1c
  obtain ⟨t1, t2⟩ := tp_fr f1 (by simp) (by simp)
  refine ⟨(by omega), (fun r2 h2a h2b h2c => ?_)⟩
  intro _ _
  have w1 := h2a
  have w2 := h2b
  have w3 := h2c
  refine ⟨(by exact ⟨by omega, w1, w3⟩), ?_⟩
  intro _ _
  rw [t1, f2]
  rw [t1, f2] at w1
  have gt : cd (tpC σ) (sk (tpC σ) (σ 228 0 0)) = 8903 → sk (tpC σ) (σ 228 0 0) < r2 := fun z => by
    rcases (by omega : sk (tpC σ) (σ 228 0 0) < r2 ∨ r2 = sk (tpC σ) (σ 228 0 0)) with y | y
    · exact y
    · rw [cd_0 (by rw [← w1]; exact y)] at z
      omega
  refine ⟨fun c3 => ?_, fun c3 => ?_⟩
  · skip
    refine ⟨fun c4 => ?_, fun c4 => ?_⟩
    · skip
      refine fun σ5 e5 => ?_
      exact ⟨by omega, hG _ _ (Fr_trans f1 (by rw [e5]; exact Fr_u3 (by simp))) (fun z => absurd z c3) (fun _ => ⟨rfl, by rw [e5, u3_s]; try exact f2, by rw [e5, u3_s]; omega, by rw [e5, u3_s]; omega⟩)⟩
    · skip
      refine fun σ5 e5 => ?_
      exact absurd rfl c4
  · skip
    refine ⟨fun c4 => ?_, fun c4 => ?_⟩
    · skip
      refine fun σ5 e5 => ?_
      exact absurd c4 (by decide)
    · skip
      refine fun σ5 e5 => ?_
      exact ⟨by omega, hG _ _ (Fr_trans f1 (by rw [e5]; exact Fr_u3 (by simp))) (fun _ => ⟨rfl, by rw [e5, u3_s, w1], by rw [e5, u3_s]; have := gt c3; omega, by rw [e5, u3_s]; omega⟩) (fun z => absurd c3 z)⟩
theorem H_Re_passLet {d : Nat} (hd : 3 ≤ d) : Holds d I_Re_passLet S_Re_passLet := by
  refine holds_of (d' := d - 1) (rt := 2) (cal := [(I_Re_skipBlanks, S_Re_skipBlanks), (I_Re_wordEnd, S_Re_wordEnd), (I_Re_codeOf, S_Re_codeOf)]) (C := C_Re_passLet) m_Re_passLet o_Re_passLet rfl rfl (by omega) ?_ ?_
  · intro x hx
    simp only [List.mem_cons, List.not_mem_nil, or_false] at hx
    rcases hx with rfl | rfl | rfl
    · exact H_Re_skipBlanks (by omega)
    · exact H_Re_wordEnd (by omega)
    · exact H_Re_codeOf (by omega)
  · intro as σ K has hσ hG
    have hG2 := hG
    unfold S_Re_passLet at hG2
    split at hG2
    · skip
      refine ⟨Nat.le_of_ble_eq_true rfl, (fun _ => none), ?_, 1000, ?_⟩
      · intro k n z L σ' hk hL hs hP
        cases hk
      · exact e_Re_passLet σ K  hσ hG
    · exact hG2.elim
def StL : List (Nat × Nat) := [(25, 0), (27, 0), (26, 0), (227, 0), (223, 0)]
theorem st_post {σ0 σ : SS} {N : List (Int × PW)} {u : PW} {c r : Int} (hN : RdN σ0 N) (hs : slI N c r) (hr : r < 4) (hc : okNm c) (hu : vW u) (n1 : σ 227 0 0 = max (σ0 227 0 0) (r + 1)) (n2 : ∀ k : Nat, σ 27 0 k = if (k : Int) = r then c else σ0 27 0 k) (n3 : ∀ k : Nat, σ 26 0 k = if (k : Int) = r then u.2 else σ0 26 0 k) (n4 : ∀ x, 0 ≤ x → x < u.2 → σ 25 0 (r * 120 + x) = u.1 x) (n5 : ∀ y, ¬ (r * 120 ≤ y ∧ y < r * 120 + 120) → σ 25 0 y = σ0 25 0 y) : RdN σ (setN N c (nW u.1 u.2)) := by
  obtain ⟨g1, g2⟩ := set_get hs (nW u.1 u.2)
  obtain ⟨⟨l1, l2⟩, h⟩ := hN
  refine ⟨⟨by omega, by rw [n1, l2, g2]⟩, fun k q hk => ?_⟩
  rw [g1] at hk
  by_cases d : (k : Int) = r
  · rw [if_pos d] at hk
    have e : (c, nW u.1 u.2) = q := Option.some.inj hk
    rw [← e]
    refine ⟨by rw [n2, if_pos d], by rw [n3, if_pos d]; rfl, hc, ⟨hu.1, fun x x0 x1 => ?_⟩, by rw [show (nW u.1 u.2).2 = u.2 from rfl]; exact (nW_congr (fun x x0 x1 => (atW_in x0 x1).symm)), fun x x0 x1 => ?_⟩
    · rw [show (nW u.1 u.2).1 x = u.1 x from atW_in x0 x1]
      exact hu.2 x x0 x1
    · rw [show (nW u.1 u.2).1 x = u.1 x from atW_in x0 x1, show 120 * (k : Int) + x = r * 120 + x by omega]
      exact n4 x x0 x1
  · rw [if_neg d] at hk
    obtain ⟨a1, a2, a3, a4, a5, a6⟩ := h k q hk
    refine ⟨by rw [n2, if_neg d]; exact a1, by rw [n3, if_neg d]; exact a2, a3, a4, a5, fun x x0 x1 => ?_⟩
    have b := a4.1
    rw [n5 _ (by omega)]
    exact a6 x x0 x1
def S_Re_store : GS := fun as σ K => match as with
  | [some (.inr (.inr (3, 0))), some (.inl a1), some (.inl a2)] => (∃ N u, (RdN σ N ∧ slI N a2 a1 ∧ a1 < 4 ∧ okNm a2) ∧ (vW u ∧ σ 223 0 0 = u.2 ∧ ∀ x, 0 ≤ x → x < u.2 → σ 24 0 x = u.1 x) ∧ ∀ σ', Fr StL σ σ' → RdN σ' (setN N a2 (nW u.1 u.2)) → σ' 223 0 0 = 0 → K none σ')
  | _ => False
abbrev Lp_Re_store_21 (a1 : Int) (a2 : Int) (σ0 : SS) (n : Nat) (L : List AV) (σ : SS) : Prop := ∃ (v3 : Int), L = [vR 3 0, vI a1, vI a2, vI v3] ∧ n = (1000 - v3).toNat ∧ ((Fr [(27, 0), (26, 0), (25, 0)] σ0 σ) ∧ ((∀ k : Nat, σ 27 0 k = if (k : Int) = a1 then a2 else σ0 27 0 k) ∧ (∀ k : Nat, σ 26 0 k = if (k : Int) = a1 then σ0 223 0 0 else σ0 26 0 k)) ∧ (0 ≤ a1 ∧ 0 ≤ v3 ∧ v3 ≤ σ0 223 0 0) ∧ (∀ x, 0 ≤ x → x < v3 → σ 25 0 (a1 * 120 + x) = σ0 24 0 x) ∧ (∀ y, ¬ (a1 * 120 ≤ y ∧ y < a1 * 120 + 120) → σ 25 0 y = σ0 25 0 y))
def Iv_Re_store (a1 : Int) (a2 : Int) (σ0 : SS) (k : Nat) : Option (List Nat × (Nat → List AV → SS → Prop)) := match k with
  | 21 => some ([], Lp_Re_store_21 a1 a2 σ0)
  | _ => none
def VE_Re_store (a1 : Int) (a2 : Int) (σ : SS) (K : AV → SS → Prop) : Prop :=
  ((a1 < 0 →
    (K none σ)) ∧
  ((0 : Int) ≤ a1 →
    ((a1 < 4 →
      ((0 ≤ (a1 : Int) ∧ (a1 : Int) < 4) ∧ ∀ σ1 : SS, σ1 = u3 σ 27 0 a1 a2 →
      ((0 ≤ (a1 : Int) ∧ (a1 : Int) < 4) ∧ ∀ σ2 : SS, σ2 = u3 σ1 26 0 a1 (min (σ1 223 0 0) 120) →
      (∃ n', Lp_Re_store_21 a1 a2 σ n' [vR 3 0, vI a1, vI a2, vI 0] σ2)))) ∧
    ((4 : Int) ≤ a1 →
      (K none σ)))))
def VL_Re_store_21 (a1 : Int) (a2 : Int) (σ0 : SS) (K : AV → SS → Prop) (v3 : Int) (σ : SS) (n : Nat) : Prop :=
  ((0 ≤ (a1 : Int) ∧ (a1 : Int) < 4) ∧
  (((σ 26 0 a1) ≤ v3 →
    (InR (a1 + 1) ∧
    (∀ σ1 : SS, σ1 = u3 σ 227 0 0 (max (σ 227 0 0) (a1 + 1)) →
    (∀ σ2 : SS, σ2 = u3 σ1 223 0 0 0 →
    (K none σ2))))) ∧
  (v3 < (σ 26 0 a1) →
    (InR (a1 * 120) ∧
    (InR ((a1 * 120) + v3) ∧
    (S_Re_pileAt [vR 3 0, vI v3] σ (kI fun r3 σ3 =>
      (((0 ≤ ((a1 * 120) + v3 : Int) ∧ ((a1 * 120) + v3 : Int) < 480) ∧ -128 ≤ (i2bI r3 : Int) ∧ (i2bI r3 : Int) ≤ 127) ∧ ∀ σ4 : SS, σ4 = u3 σ3 25 0 ((a1 * 120) + v3) (i2bI r3) →
      (InR (v3 + 1) ∧
      (∃ n', n' < n ∧ Lp_Re_store_21 a1 a2 σ0 n' [vR 3 0, vI a1, vI a2, vI (v3 + 1)] σ4))))))))))
theorem l_Re_store_21 (a1 : Int) (a2 : Int) (σ0 : SS) (K : AV → SS → Prop) (ha1 : InR a1) (ha2 : InR a2) (hs0 : okS σ0) (hG : S_Re_store [vR 3 0, vI a1, vI a2] σ0 K) (v3 : Int) (σ : SS) (hv3 : InR v3) (hs : okS σ) (n : Nat) (hn : n = (1000 - v3).toNat) (hQ : (Fr [(27, 0), (26, 0), (25, 0)] σ0 σ) ∧ ((∀ k : Nat, σ 27 0 k = if (k : Int) = a1 then a2 else σ0 27 0 k) ∧ (∀ k : Nat, σ 26 0 k = if (k : Int) = a1 then σ0 223 0 0 else σ0 26 0 k)) ∧ (0 ≤ a1 ∧ 0 ≤ v3 ∧ v3 ≤ σ0 223 0 0) ∧ (∀ x, 0 ≤ x → x < v3 → σ 25 0 (a1 * 120 + x) = σ0 24 0 x) ∧ (∀ y, ¬ (a1 * 120 ≤ y ∧ y < a1 * 120 + 120) → σ 25 0 y = σ0 25 0 y)) : VL_Re_store_21 a1 a2 σ0 K v3 σ n := by
  unfold VL_Re_store_21
  obtain ⟨N, u, ⟨hN, hs, hr, hc⟩, ⟨hu, ht, hp⟩, hG⟩ := hG
  obtain ⟨q0, ⟨q1, q2⟩, q3, q4, q5⟩ := hQ
  have ub := hu.1
  have sz : σ 26 0 a1 = u.2 := by
    have := q2 a1.toNat
    rw [show ((a1.toNat : Nat) : Int) = a1 by omega, if_pos rfl] at this
    rw [this, ht]
  have pl : σ 24 0 = σ0 24 0 := q0 _ _ (by simp)
  have nm : σ 227 0 = σ0 227 0 := q0 _ _ (by simp)
  refine ⟨(by omega), ?_⟩
  refine ⟨fun c1 => ?_, fun c1 => ?_⟩
  · skip
    refine ⟨(by omega), ?_⟩
    refine fun σ2 e2 => ?_
    refine fun σ3 e3 => ?_
    refine hG σ3 (Fr_trans (Fr_mono q0 (by simp [StL])) (by rw [e3, e2]; exact Fr_trans (Fr_u3 (by simp [StL])) (Fr_u3 (by simp [StL])))) (st_post hN hs hr hc hu (by rw [e3, u3_f (by decide), e2, u3_s, nm]) (fun k => by rw [e3, u3_f (by decide), e2, u3_f (by decide)]; exact q1 k) (fun k => by rw [e3, u3_f (by decide), e2, u3_f (by decide), q2 k, ht]) (fun x x0 x1 => by rw [e3, u3_f (by decide), e2, u3_f (by decide), q4 x x0 (by omega)]; exact hp x x0 x1) (fun y hy => by rw [e3, u3_f (by decide), e2, u3_f (by decide)]; exact q5 y hy)) (by rw [e3, u3_s])
  · skip
    refine ⟨(by omega), ?_⟩
    refine ⟨(by omega), ?_⟩
    refine ⟨(by omega), ?_⟩
    intro _ _
    have pv : σ 24 0 v3 = u.1 v3 := by rw [pl]; exact hp v3 (by omega) (by omega)
    have lv := hu.2 v3 (by omega) (by omega)
    have ib : i2bI (σ 24 0 v3) = σ 24 0 v3 := Int.bmod_eq_of_le (by omega) (by omega)
    rw [ib]
    refine ⟨(by omega), fun σ2 e2 => ?_⟩
    refine ⟨(by omega), ?_⟩
    refine ⟨_, ?_, _, rfl, rfl, ?_⟩
    · omega
    · refine ⟨?_, ?_, ?_, ?_, ?_⟩
      · rw [e2]; exact Fr_trans q0 (Fr_u3 (by simp))
      · exact ⟨fun k => by rw [e2, u3_f (by decide)]; exact q1 k, fun k => by rw [e2, u3_f (by decide)]; exact q2 k⟩
      · omega
      · intro x x0 x1
        rw [e2, u3_e]
        split
        · rw [pl]; exact congrArg _ (by omega)
        · exact q4 x x0 (by omega)
      · intro y hy
        rw [e2, u3_k (by omega)]
        exact q5 y hy
theorem e_Re_store (a1 : Int) (a2 : Int) (σ : SS) (K : AV → SS → Prop) (ha1 : InR a1) (ha2 : InR a2) (hs : okS σ) (hG : S_Re_store [vR 3 0, vI a1, vI a2] σ K) : VE_Re_store a1 a2 σ K := by
  unfold VE_Re_store
  obtain ⟨N, u, ⟨hN, hs, hr, hc⟩, ⟨hu, ht, hp⟩, hG⟩ := hG
  have sp : 0 ≤ a1 := by
    rcases hs with ⟨z, _⟩ | ⟨z, _⟩
    · omega
    · exact z.1
  have ub := hu.1
  refine ⟨fun c1 => ?_, fun c1 => ?_⟩
  · skip
    omega
  · skip
    refine ⟨fun c2 => ?_, fun c2 => ?_⟩
    · skip
      refine ⟨(by omega), fun σ3 e3 => ?_⟩
      refine ⟨(by omega), fun σ4 e4 => ?_⟩
      have tm : min (σ3 223 0 0) 120 = σ 223 0 0 := by
        rw [e3, u3_f (by decide)]
        omega
      refine ⟨_, _, rfl, rfl, ?_⟩
      refine ⟨?_, ?_, ?_, ?_, ?_⟩
      · rw [e4, e3]; exact Fr_trans (Fr_u3 (by simp)) (Fr_u3 (by simp))
      · refine ⟨fun k => by rw [e4, u3_f (by decide), e3, u3_e], fun k => ?_⟩
        rw [e4, u3_e, tm]
        split
        · rfl
        · rw [e3, u3_f (by decide)]
      · first | rfl | assumption | omega
      · exact fun x x0 x1 => by omega
      · exact fun y hy => by rw [e4, u3_f (by decide), e3, u3_f (by decide)]
    · skip
      omega
theorem H_Re_store {d : Nat} (hd : 2 ≤ d) : Holds d I_Re_store S_Re_store := by
  refine holds_of (d' := d - 1) (rt := 0) (cal := [(I_Re_pileAt, S_Re_pileAt)]) (C := C_Re_store) m_Re_store o_Re_store rfl rfl (by omega) ?_ ?_
  · intro x hx
    simp only [List.mem_cons, List.not_mem_nil, or_false] at hx
    subst hx
    exact H_Re_pileAt (by omega)
  · intro as σ K has hσ hG
    have hG2 := hG
    unfold S_Re_store at hG2
    split at hG2
    · next a1 a2 =>
      refine ⟨Nat.le_of_ble_eq_true rfl, (Iv_Re_store a1 a2 σ), ?_, 1000, ?_⟩
      · intro k n z L σ' hk hL hs hP
        unfold Iv_Re_store at hk
        split at hk
        · cases hk
          obtain ⟨v3, rfl, hn, hQ⟩ := hP
          exact ⟨1000, l_Re_store_21 a1 a2 σ K (has _ (List.mem_of_getElem? (i := 1) rfl)) (has _ (List.mem_of_getElem? (i := 2) rfl)) hσ hG v3 σ' (hL _ (List.mem_of_getElem? (i := 3) rfl)) hs n hn hQ⟩
        · cases hk
      · exact e_Re_store a1 a2 σ K (has _ (List.mem_of_getElem? (i := 1) rfl)) (has _ (List.mem_of_getElem? (i := 2) rfl)) hσ hG
    · exact hG2.elim
theorem pe_y {T : Int → Int} {c a : Int} (h : T (sk T a) = c) : pExp T c a = .inr (sk T a + 1) := if_neg (fun z => z h)
theorem pe_n {T : Int → Int} {c a : Int} (h : T (sk T a) ≠ c) : pExp T c a = .inl (8 * sk T a + 1) := if_pos h
theorem pn_1 {T : Int → Int} {N : List (Int × PW)} {a : Int} (h : ¬ okName T (sk T a)) : pName T N a = .inl (8 * sk T a + 1) := if_pos h
theorem pn_3 {T : Int → Int} {N : List (Int × PW)} {a : Int} (h : okName T (sk T a)) (h1 : lookN N (cd T (sk T a)) = none) (h2 : N.length = 4) : pName T N a = .inl (8 * sk T a + 3) := by
  unfold pName
  rw [if_neg (fun z => z h), if_pos ⟨by rw [h1]; rfl, h2⟩]
theorem pn_s {T : Int → Int} {N : List (Int × PW)} {a : Int} (h : okName T (sk T a)) (h2 : lookN N (cd T (sk T a)) ≠ none ∨ N.length ≠ 4) : pName T N a = match pExp T 61 (we T (sk T a)) with
    | .inl e => .inl e
    | .inr b => match pRow T N 6 b with
      | .inl e => .inl e
      | .inr q => match pExp T 59 q.2 with
        | .inl e => .inl e
        | .inr c => .inr (setN N (cd T (sk T a)) (nW q.1.1 q.1.2), c) := by
  have hn : ¬ ((lookN N (cd T (sk T a))).isNone = true ∧ N.length = 4) := fun z => by
    rcases h2 with y | y
    · exact y (Option.isNone_iff_eq_none.mp z.1)
    · exact y z.2
  exact (if_neg (fun z => z h)).trans (if_neg hn)
theorem pn_rl {T : Int → Int} {N : List (Int × PW)} {a e : Int} (h : okName T (sk T a)) (h2 : lookN N (cd T (sk T a)) ≠ none ∨ N.length ≠ 4) (h3 : T (sk T (we T (sk T a))) = 61) (h4 : pRow T N 6 (sk T (we T (sk T a)) + 1) = .inl e) : pName T N a = .inl e := by
  rw [pn_s h h2, pe_y h3]
  dsimp only
  rw [h4]
theorem pn_ql {T : Int → Int} {N : List (Int × PW)} {a : Int} {q : PW × Int} (h : okName T (sk T a)) (h2 : lookN N (cd T (sk T a)) ≠ none ∨ N.length ≠ 4) (h3 : T (sk T (we T (sk T a))) = 61) (h4 : pRow T N 6 (sk T (we T (sk T a)) + 1) = .inr q) (h5 : T (sk T q.2) ≠ 59) : pName T N a = .inl (8 * sk T q.2 + 1) := by
  rw [pn_s h h2, pe_y h3]
  dsimp only
  rw [h4]
  dsimp only
  rw [pe_n h5]
theorem pn_r {T : Int → Int} {N : List (Int × PW)} {a : Int} {q : PW × Int} (h : okName T (sk T a)) (h2 : lookN N (cd T (sk T a)) ≠ none ∨ N.length ≠ 4) (h3 : T (sk T (we T (sk T a))) = 61) (h4 : pRow T N 6 (sk T (we T (sk T a)) + 1) = .inr q) (h5 : T (sk T q.2) = 59) : pName T N a = .inr (setN N (cd T (sk T a)) (nW q.1.1 q.1.2), sk T q.2 + 1) := by
  rw [pn_s h h2, pe_y h3]
  dsimp only
  rw [h4]
  dsimp only
  rw [pe_y h5]
theorem pn_el {T : Int → Int} {N : List (Int × PW)} {a : Int} (h : okName T (sk T a)) (h2 : lookN N (cd T (sk T a)) ≠ none ∨ N.length ≠ 4) (h3 : T (sk T (we T (sk T a))) ≠ 61) : pName T N a = .inl (8 * sk T (we T (sk T a)) + 1) := by
  rw [pn_s h h2, pe_n h3]
def RnmL : List (Nat × Nat) := [(228, 0), (223, 0), (24, 0), (229, 0), (25, 0), (27, 0), (26, 0), (227, 0)]
def nmO (σ σ' : SS) (R : PN) : Prop := (∀ e, R = .inl e → σ' 229 0 0 = e ∧ 0 < e ∧ e % 8 ≤ 4) ∧ (∀ q, R = .inr q → σ' 229 0 = σ 229 0 ∧ (σ' 228 0 0 = q.2 ∧ σ 228 0 0 < q.2 ∧ q.2 ≤ σ 221 0 0) ∧ σ' 223 0 0 = 0 ∧ RdN σ' q.1)
theorem nm_l {σ σ' : SS} {R : PN} {e : Int} (h : R = .inl e) (h1 : σ' 229 0 0 = e) (h2 : 0 < e ∧ e % 8 ≤ 4) : nmO σ σ' R :=
  ⟨(fun e' z => by rw [h] at z; cases z; exact ⟨h1, h2⟩), (fun q z => by rw [h] at z; cases z)⟩
theorem nmO_r {σ σ' : SS} {R : PN} {N' : List (Int × PW)} {c : Int} (h : R = .inr (N', c)) (h1 : σ' 229 0 = σ 229 0) (h2 : σ' 228 0 0 = c ∧ σ 228 0 0 < c ∧ c ≤ σ 221 0 0) (h3 : σ' 223 0 0 = 0) (h4 : RdN σ' N') : nmO σ σ' R :=
  ⟨(fun e' z => by rw [h] at z; cases z), (fun q z => by rw [h] at z; cases z; exact ⟨h1, h2, h3, h4⟩)⟩
def S_Re_readName : GS := fun as σ K => match as with
  | [some (.inr (.inr (3, 0)))] => (∃ N, ((0 ≤ σ 228 0 0 ∧ σ 228 0 0 ≤ σ 221 0 0 ∧ σ 221 0 0 ≤ 300) ∧ σ 223 0 0 = 0 ∧ RdN σ N) ∧ ∀ σ', Fr RnmL σ σ' → nmO σ σ' (pName (tpC σ) N (σ 228 0 0)) → K none σ')
  | _ => False
def VE_Re_readName (σ : SS) (K : AV → SS → Prop) : Prop :=
  (S_Re_skipBlanks [vR 3 0] σ (kV fun σ1 =>
    (S_Re_wordEnd [vR 3 0, vI (σ1 228 0 0)] σ1 (kI fun r2 σ2 =>
      (S_Re_codeOf [vR 3 0, vI (σ1 228 0 0), vI r2] σ2 (kI fun r3 σ3 =>
        (S_Re_slotOf [vR 3 0, vI r3] σ3 (kI fun r4 σ4 =>
          (InR (r2 - (σ1 228 0 0)) ∧
          (S_Re_isName [vR 3 0, vI r3, vI (r2 - (σ1 228 0 0))] σ4 (kI fun r5 σ5 =>
            ((r5 ≠ 0 →
              ((r4 < 4 →
                (∀ σ6 : SS, σ6 = u3 σ5 228 0 0 r2 →
                (S_Re_expect [vR 3 0, vI 61] σ6 (kI fun r7 σ7 =>
                  ((r7 = 0 →
                    (K none σ7)) ∧
                  (r7 ≠ 0 →
                    (S_Re_readRowT [vR 3 0, vI 0] σ7 (kI fun r8 σ8 =>
                      ((r8 = 0 →
                        (K none σ8)) ∧
                      (r8 ≠ 0 →
                        (S_Re_expect [vR 3 0, vI 59] σ8 (kI fun r9 σ9 =>
                          ((r9 = 0 →
                            (K none σ9)) ∧
                          (r9 ≠ 0 →
                            (S_Re_store [vR 3 0, vI r4, vI r3] σ9 (kV fun σ10 =>
                              (K none σ10))))))))))))))))) ∧
              ((4 : Int) ≤ r4 →
                (S_Re_fail [vR 3 0, vI (σ1 228 0 0), vI 3] σ5 (kI fun r11 σ11 =>
                  (K none σ11)))))) ∧
            (r5 = 0 →
              (S_Re_fail [vR 3 0, vI (σ1 228 0 0), vI 1] σ5 (kI fun r12 σ12 =>
                (K none σ12))))))))))))))))
theorem e_Re_readName (σ : SS) (K : AV → SS → Prop) (hs : okS σ) (hG : S_Re_readName [vR 3 0] σ K) : VE_Re_readName σ K := by
  unfold VE_Re_readName
  obtain ⟨N, ⟨hA, hT, hN⟩, hG⟩ := hG
  have m8 := hN.1
  refine ⟨(by first | assumption | omega | exact ⟨by first | assumption | omega, by omega⟩ | exact ⟨by assumption, by omega, by omega⟩ | exact ⟨by assumption, by omega, by omega, by omega⟩ | exact ⟨by assumption, by omega, by omega, by omega, by omega⟩ | exact ⟨by assumption, by omega, by omega, by omega, by omega, by omega⟩), (fun σ1 h1a h1b h1c => ?_)⟩
  intro _
  have f1 := h1a
  have f2 := h1b
  have f3 := h1c
  have fr1 : Fr RdL σ σ1 := Fr_mono f1 (by simp [RdL])
  obtain ⟨t1, t2⟩ := tp_fr f1 (by simp) (by simp)
  have tp1 : σ1 223 0 0 = 0 := by rw [f1 223 0 (by simp)]; exact hT
  have fl1 : σ1 229 0 = σ 229 0 := f1 _ _ (by simp)
  refine ⟨(by omega), (fun r2 h2a h2b h2c => ?_)⟩
  intro _ _
  have w1 := h2a
  have w2 := h2b
  have w3 := h2c
  refine ⟨(by exact ⟨by omega, w1, w3⟩), ?_⟩
  intro _ _
  rw [t1, f2]
  rw [t1, f2] at w1 w3
  rw [f2] at w2
  refine ⟨N, (by exact RdN_fr hN fr1), (fun r3 h3a => ?_)⟩
  intro _ _
  have sl := h3a
  refine ⟨(by omega), ?_⟩
  refine bS_b1 (fun p4 _ => ?_) (fun p4 _ => ?_)
  · skip
    refine ⟨fun c5 => ?_, fun c5 => ?_⟩
    · skip
      refine fun σ6 e6 => ?_
      have f6 : Fr RdL σ σ6 := Fr_trans fr1 (by rw [e6]; exact Fr_u3 (by simp [RdL]))
      have k1 : σ6 228 0 0 = r2 := by rw [e6, u3_s]
      have k2 : σ6 223 0 0 = 0 := by rw [e6, u3_f (by decide)]; exact tp1
      have k4 : σ6 229 0 = σ 229 0 := by rw [e6, u3_F (by decide)]; exact fl1
      obtain ⟨t6, s6⟩ := tp_rd f6
      have okn : okName (tpC σ) (sk (tpC σ) (σ 228 0 0)) := by
        show (1 ≤ we (tpC σ) (sk (tpC σ) (σ 228 0 0)) - sk (tpC σ) (σ 228 0 0) ∧ _) ∧ _
        rw [← w1]
        exact p4
      have hl : lookN N (cd (tpC σ) (sk (tpC σ) (σ 228 0 0))) ≠ none ∨ N.length ≠ 4 := by
        rcases sl with ⟨y1, y2, _⟩ | ⟨_, q, _, _, y4, _⟩
        · exact Or.inr (by omega)
        · exact Or.inl (by rw [y4]; exact fun z => by cases z)
      have oc : okNm (cd (tpC σ) (sk (tpC σ) (σ 228 0 0))) := ⟨cd_3 w1 w3 p4.1.1 p4.1.2, p4.2⟩
      refine ⟨(by first | omega | exact ex_pre ro (by assumption) (by omega) (by omega) (by omega)), (fun σ7 r7 h7a h7b h7c => ?_)⟩
      intro _ _
      have fx := h7a
      have y1 := h7b
      have y2 := h7c
      refine ⟨fun c8 => ?_, fun c8 => ?_⟩
      · skip
        rw [t6, k1, w1] at y1 y2
        have nx : tpC σ (sk (tpC σ) (we (tpC σ) (sk (tpC σ) (σ 228 0 0)))) ≠ 61 := fun z => by have := (y1 z).1; omega
        have p1 : we (tpC σ) (sk (tpC σ) (σ 228 0 0)) ≤ sk (tpC σ) (we (tpC σ) (sk (tpC σ) (σ 228 0 0))) := scF_ge _ _
        exact hG _ (Fr_mono (Fr_trans f6 (Fr_mono fx (by simp [RdL]))) (by simp [RdL, RnmL])) (nm_l (pn_el okn hl nx) (y2 nx).2 (by omega))
      · skip
        rw [t6, k1, w1] at y1 y2
        have yx : tpC σ (sk (tpC σ) (we (tpC σ) (sk (tpC σ) (σ 228 0 0)))) = 61 := Classical.byContradiction (fun z => by have := (y2 z).1; omega)
        obtain ⟨j1, j2, j3, j4, j5⟩ := y1 yx
        have fB := Fr_trans f6 (Fr_mono fx (by simp [RdL]))
        obtain ⟨tB, sB⟩ := tp_rd fB
        have fl7 : σ7 229 0 = σ 229 0 := j2.trans k4
        have tp7 : σ7 223 0 0 = 0 := by rw [fx 223 0 (by simp)]; exact k2
        have p0 : 0 ≤ sk (tpC σ) (we (tpC σ) (sk (tpC σ) (σ 228 0 0))) := by omega
        refine ⟨N, (by exact ⟨⟨⟨⟨by omega, by omega, by omega⟩, by omega⟩, by omega⟩, ⟨by omega, by omega⟩, RdN_fr hN fB⟩), (fun σ9 r9 h9a => ?_)⟩
        intro _ _
        have ro := h9a
        rw [tB, j3] at ro
        refine ⟨fun c10 => ?_, fun c10 => ?_⟩
        · skip
          rw [c10] at ro
          obtain ⟨ee, x1, x2⟩ := rdO_0 ro
          exact hG _ (Fr_mono (Fr_trans fB ro.1) (by simp [RdL, RnmL])) (nm_l (pn_rl okn hl yx x1) x2 ((ps_row 6 _ (by omega)).1 ee x1))
        · skip
          obtain ⟨q, x1, ⟨x2, x2b⟩, x3, ⟨x4, x5, x6⟩, x7⟩ := rdO_n ro (by assumption)
          have fC := Fr_trans fB ro.1
          obtain ⟨tC, sC⟩ := tp_rd fC
          have q0 := (ps_row 6 _ (show 0 ≤ sk (tpC σ) (we (tpC σ) (sk (tpC σ) (σ 228 0 0))) + 1 by omega)).2 q x1
          have q1 : q.2 ≤ sk (tpC σ) q.2 := scF_ge _ _
          refine ⟨(by first | omega | exact ex_pre ro (by assumption) (by omega) (by omega) (by omega)), (fun σ11 r11 h11a h11b h11c => ?_)⟩
          intro _ _
          have fx := h11a
          have y1 := h11b
          have y2 := h11c
          refine ⟨fun c12 => ?_, fun c12 => ?_⟩
          · skip
            rw [tC, x3] at y1 y2
            have nx2 : tpC σ (sk (tpC σ) q.2) ≠ 59 := fun z => by have := (y1 z).1; omega
            exact hG _ (Fr_mono (Fr_trans fC (Fr_mono fx (by simp [RdL]))) (by simp [RdL, RnmL])) (nm_l (pn_ql okn hl yx x1 nx2) (y2 nx2).2 (by omega))
          · skip
            rw [tC, x3] at y1 y2
            have yx2 : tpC σ (sk (tpC σ) q.2) = 59 := Classical.byContradiction (fun z => by have := (y2 z).1; omega)
            obtain ⟨i1, i2, i3, i4, i5⟩ := y1 yx2
            have fD := Fr_trans fC (Fr_mono fx (by simp [RdL]))
            have uv : vW q.1 := ⟨⟨x7.1.1, x6⟩, fun x x0 x1 => (x7.2.2 x x0 x1).2⟩
            have tp11 : σ11 223 0 0 = q.1.2 := by
              have := x7.1.2
              rw [fx 223 0 (by simp)]
              omega
            have pl11 : ∀ x, 0 ≤ x → x < q.1.2 → σ11 24 0 x = q.1.1 x := fun x x0 x1 => by
              have := (x7.2.2 x x0 x1).1
              rw [tp7, Int.zero_add] at this
              rw [fx 24 0 (by simp)]
              exact this
            refine ⟨N, q.1, (by first | exact ⟨RdN_fr hN fD, sl, c5, oc⟩ | exact ⟨uv, tp11, pl11⟩ | exact ⟨⟨RdN_fr hN fD, sl, c5, oc⟩, uv, tp11, pl11⟩), (by first | exact ⟨RdN_fr hN fD, sl, c5, oc⟩ | exact ⟨uv, tp11, pl11⟩ | exact ⟨⟨RdN_fr hN fD, sl, c5, oc⟩, uv, tp11, pl11⟩), (fun σ13 h13a h13b h13c => ?_)⟩
            intro _
            have sf := h13a
            have sn := h13b
            have st := h13c
            exact hG _ (Fr_trans (Fr_mono fD (by simp [RdL, RnmL])) (Fr_mono sf (by simp [StL, RnmL]))) (nmO_r (pn_r okn hl yx x1 yx2) (by rw [sf 229 0 (by simp [StL]), i2, x2b]; exact fl7) ⟨by rw [sf 228 0 (by simp [StL])]; exact i3, by omega, by omega⟩ st sn)
    · skip
      refine ⟨(by omega), ?_⟩
      intro _ _
      have okn : okName (tpC σ) (sk (tpC σ) (σ 228 0 0)) := by
        show (1 ≤ we (tpC σ) (sk (tpC σ) (σ 228 0 0)) - sk (tpC σ) (σ 228 0 0) ∧ _) ∧ _
        rw [← w1]
        exact p4
      rcases sl with ⟨y1, y2, _⟩ | ⟨y, _⟩
      · exact hG _ (Fr_mono (Fr_trans fr1 (Fr_u3 (by simp [RdL]))) (by simp [RdL, RnmL])) (nm_l (pn_3 okn y2 (by omega)) u3_s (by omega))
      · omega
  · skip
    refine ⟨(by omega), ?_⟩
    intro _ _
    exact hG _ (Fr_mono (Fr_trans fr1 (Fr_u3 (by simp [RdL]))) (by simp [RdL, RnmL])) (nm_l (pn_1 (fun z => p4 (by rw [w1]; exact z))) u3_s (by omega))
theorem H_Re_readName {d : Nat} (hd : 61 ≤ d) : Holds d I_Re_readName S_Re_readName := by
  refine holds_of (d' := d - 1) (rt := 0) (cal := [(I_Re_skipBlanks, S_Re_skipBlanks), (I_Re_wordEnd, S_Re_wordEnd), (I_Re_codeOf, S_Re_codeOf), (I_Re_slotOf, S_Re_slotOf), (I_Re_isName, S_Re_isName), (I_Re_fail, S_Re_fail), (I_Re_expect, S_Re_expect), (I_Re_readRow, S_Re_readRowT), (I_Re_store, S_Re_store)]) (C := C_Re_readName) m_Re_readName o_Re_readName rfl rfl (by omega) ?_ ?_
  · intro x hx
    simp only [List.mem_cons, List.not_mem_nil, or_false] at hx
    rcases hx with rfl | rfl | rfl | rfl | rfl | rfl | rfl | rfl | rfl
    · exact H_Re_skipBlanks (by omega)
    · exact H_Re_wordEnd (by omega)
    · exact H_Re_codeOf (by omega)
    · exact H_Re_slotOf (by omega)
    · exact H_Re_isName (by omega)
    · exact H_Re_fail (by omega)
    · exact H_Re_expect (by omega)
    · exact H_Re_readRowT (by omega)
    · exact H_Re_store (by omega)
  · intro as σ K has hσ hG
    have hG2 := hG
    unfold S_Re_readName at hG2
    split at hG2
    · skip
      refine ⟨Nat.le_of_ble_eq_true rfl, (fun _ => none), ?_, 1000, ?_⟩
      · intro k n z L σ' hk hL hs hP
        cases hk
      · exact e_Re_readName σ K  hσ hG
    · exact hG2.elim
