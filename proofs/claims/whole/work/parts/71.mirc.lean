/-! the class: palindromes -/
def MiL : List (Nat × Nat) := TwL ++ TaL 1 ++ [(38, 0), (39, 0)]
def MQi (σ σ' : SS) : Prop := Fr MiL σ σ' ∧ TwC σ'
theorem MQi.rf {σ : SS} (h : TwC σ) : MQi σ σ := ⟨Fr_refl, h⟩
theorem MQi.tr {σ σ1 σ2 : SS} (h : MQi σ σ1) (h2 : MQi σ1 σ2) : MQi σ σ2 := ⟨Fr_trans h.1 h2.1, h2.2⟩
theorem MQi.w {σ σ' : SS} (h : MQi σ σ') : cW σ' = cW σ ∧ σ' 501 0 0 = σ 501 0 0 := by
  have e1 : σ' 20 0 = σ 20 0 := h.1 _ _ (by simp [MiL, TaL, TwL])
  have e2 : σ' 501 0 = σ 501 0 := h.1 _ _ (by simp [MiL, TaL, TwL])
  exact ⟨cW_fr e1 e2, by rw [e2]⟩
theorem MQi.o {σ σ' : SS} (h : TwC σ) (hF : Fr (TaL 1 ++ [(38, 0), (39, 0)]) σ σ') : MQi σ σ' := ⟨Fr_mono hF (by intro q hq; simp [MiL, List.append_assoc]; exact Or.inr (by simpa using hq)), TwC_o h hF (by simp [TaL])⟩
def S_Mi_middles : GS := fun as σ K => match as with
  | [some (.inr (.inr (0, 0)))] => TwC σ ∧ K (vI (2 * (σ 501 0 0) - 1)) σ
  | _ => False
def VE_Mi_middles (σ : SS) (K : AV → SS → Prop) : Prop :=
  (S_Wo_size [vR 10 0] σ (kI fun r1 σ1 =>
    (InR (2 * r1) ∧
    (InR ((2 * r1) - 1) ∧
    (K (vI ((2 * r1) - 1)) σ1)))))
theorem e_Mi_middles (σ : SS) (K : AV → SS → Prop) (hs : okS σ) (hG : S_Mi_middles [vR 0 0] σ K) : VE_Mi_middles σ K := by
  unfold VE_Mi_middles
  obtain ⟨hT, hG⟩ := hG
  have hb := hT.n
  intro _ _
  refine ⟨(by omega), ?_⟩
  refine ⟨(by omega), ?_⟩
  exact hG
theorem H_Mi_middles {d : Nat} (hd : 2 ≤ d) : Holds d I_Mi_middles S_Mi_middles := by
  refine holds_of (d' := d - 1) (rt := 1) (cal := [(I_Wo_size, S_Wo_size)]) (C := C_Mi_middles) m_Mi_middles o_Mi_middles rfl rfl (by omega) ?_ ?_
  · intro x hx
    simp only [List.mem_cons, List.not_mem_nil, or_false] at hx
    subst hx
    exact H_Wo_size (by omega)
  · intro as σ K has hσ hG
    have hG2 := hG
    unfold S_Mi_middles at hG2
    split at hG2
    · skip
      refine ⟨Nat.le_of_ble_eq_true rfl, (fun _ => none), ?_, 1000, ?_⟩
      · intro k n z L σ' hk hL hs hP
        cases hk
      · exact e_Mi_middles σ K  hσ hG
    · exact hG2.elim
def S_Mi_span : GS := fun as σ K => match as with
  | [some (.inr (.inr (0, 0))), some (.inl a1)] => TwC σ ∧ K (vI (spn (cW σ) (σ 501 0 0) a1)) σ
  | _ => False
abbrev Lp_Mi_span_18 (a1 : Int) (σ0 : SS) (n : Nat) (L : List AV) (σ : SS) : Prop := ∃ (v2 : Int) (v3 : Int), L = [vR 0 0, vI a1, vI v2, vI v3] ∧ n = (v2 + 1).toNat ∧ ((σ = σ0) ∧ (0 ≤ a1) ∧ (a1 < 2 * (σ0 501 0 0) - 1) ∧ (v2 ≤ a1 / 2 ∧ -1 ≤ v2 ∧ v2 + v3 = a1 / 2 + (a1 + 1) / 2 ∧ v3 ≤ (σ0 501 0 0)) ∧ (∀ t, 0 ≤ t → t < a1 / 2 - v2 → cW σ0 (a1 / 2 - t) = cW σ0 ((a1 + 1) / 2 + t)))
def Iv_Mi_span (a1 : Int) (σ0 : SS) (k : Nat) : Option (List Nat × (Nat → List AV → SS → Prop)) := match k with
  | 18 => some ([], Lp_Mi_span_18 a1 σ0)
  | _ => none
def VE_Mi_span (a1 : Int) (σ : SS) (K : AV → SS → Prop) : Prop :=
  ((a1 < 0 →
    (K (vI 0) σ)) ∧
  ((0 : Int) ≤ a1 →
    (S_Mi_middles [vR 0 0] σ (kI fun r1 σ1 =>
      ((a1 < r1 →
        ((0 ≤ (1 : Int) ∧ (1 : Int) < 32 ∧ InR (shrI a1 1)) ∧
        (InR (a1 + 1) ∧
        ((0 ≤ (1 : Int) ∧ (1 : Int) < 32 ∧ InR (shrI (a1 + 1) 1)) ∧
        (∃ n', Lp_Mi_span_18 a1 σ n' [vR 0 0, vI a1, vI (shrI a1 1), vI (shrI (a1 + 1) 1)] σ1))))) ∧
      (r1 ≤ a1 →
        (K (vI 0) σ1)))))))
def VL_Mi_span_18 (a1 : Int) (σ0 : SS) (K : AV → SS → Prop) (v2 : Int) (v3 : Int) (σ : SS) (n : Nat) : Prop :=
  ((v2 < 0 →
    (InR (v3 - v2) ∧
    (InR ((v3 - v2) - 1) ∧
    (K (vI ((v3 - v2) - 1)) σ)))) ∧
  ((0 : Int) ≤ v2 →
    (S_Wo_size [vR 10 0] σ (kI fun r1 σ1 =>
      ((r1 ≤ v3 →
        (InR (v3 - v2) ∧
        (InR ((v3 - v2) - 1) ∧
        (K (vI ((v3 - v2) - 1)) σ1)))) ∧
      (v3 < r1 →
        (S_Wo_at [vR 10 0, vI v2] σ1 (kI fun r2 σ2 =>
          (S_Wo_at [vR 10 0, vI v3] σ2 (kI fun r3 σ3 =>
            ((r2 ≠ r3 →
              (InR (v3 - v2) ∧
              (InR ((v3 - v2) - 1) ∧
              (K (vI ((v3 - v2) - 1)) σ3)))) ∧
            (r2 = r3 →
              (InR (v2 + (-1)) ∧
              (InR (v3 + 1) ∧
              (∃ n', n' < n ∧ Lp_Mi_span_18 a1 σ0 n' [vR 0 0, vI a1, vI (v2 + (-1)), vI (v3 + 1)] σ3)))))))))))))))
theorem l_Mi_span_18 (a1 : Int) (σ0 : SS) (K : AV → SS → Prop) (ha1 : InR a1) (hs0 : okS σ0) (hG : S_Mi_span [vR 0 0, vI a1] σ0 K) (v2 : Int) (v3 : Int) (σ : SS) (hv2 : InR v2) (hv3 : InR v3) (hs : okS σ) (n : Nat) (hn : n = (v2 + 1).toNat) (hQ : (σ = σ0) ∧ (0 ≤ a1) ∧ (a1 < 2 * (σ0 501 0 0) - 1) ∧ (v2 ≤ a1 / 2 ∧ -1 ≤ v2 ∧ v2 + v3 = a1 / 2 + (a1 + 1) / 2 ∧ v3 ≤ (σ0 501 0 0)) ∧ (∀ t, 0 ≤ t → t < a1 / 2 - v2 → cW σ0 (a1 / 2 - t) = cW σ0 ((a1 + 1) / 2 + t))) : VL_Mi_span_18 a1 σ0 K v2 v3 σ n := by
  unfold VL_Mi_span_18
  obtain ⟨hT, hG⟩ := hG
  have hb := hT.n
  obtain ⟨rfl, q1, q2, q3, q4⟩ := hQ
  obtain ⟨r1, r2, r3, r4⟩ := radF_spec (cW σ) (min (a1 / 2 + 1) ((σ 501 0 0) - (a1 + 1) / 2)).toNat (a1 / 2) ((a1 + 1) / 2)
  have er : radF (cW σ) (min (a1 / 2 + 1) ((σ 501 0 0) - (a1 + 1) / 2)).toNat (a1 / 2) ((a1 + 1) / 2) = rad (cW σ) (σ 501 0 0) (a1 / 2) ((a1 + 1) / 2) := rfl
  rw [er] at r1 r2 r3 r4
  have hle : a1 / 2 - v2 ≤ rad (cW σ) (σ 501 0 0) (a1 / 2) ((a1 + 1) / 2) := Classical.byContradiction (fun z => r4 (by omega) (q4 _ r1 (by omega)))
  have fin : a1 / 2 - v2 = rad (cW σ) (σ 501 0 0) (a1 / 2) ((a1 + 1) / 2) → K (vI (v3 - v2 - 1)) σ := fun z => by
    rw [show spn (cW σ) (σ 501 0 0) a1 = (a1 + 1) / 2 - a1 / 2 - 1 + 2 * rad (cW σ) (σ 501 0 0) (a1 / 2) ((a1 + 1) / 2) from if_pos ⟨q1, q2⟩] at hG
    rwa [show v3 - v2 - 1 = (a1 + 1) / 2 - a1 / 2 - 1 + 2 * rad (cW σ) (σ 501 0 0) (a1 / 2) ((a1 + 1) / 2) by omega]
  have at1 : ∀ p, atW (σ 20 0) (σ 501 0 0) p = cW σ p := fun p => rfl
  have more : cW σ v2 = cW σ v3 → 0 ≤ v2 → v3 < (σ 501 0 0) → ∀ t, 0 ≤ t → t < a1 / 2 - (v2 + -1) → cW σ (a1 / 2 - t) = cW σ ((a1 + 1) / 2 + t) := fun he _ _ t t0 t1 => by
    rcases (by omega : t < a1 / 2 - v2 ∨ t = a1 / 2 - v2) with z | rfl
    · exact q4 t t0 z
    · rwa [show a1 / 2 - (a1 / 2 - v2) = v2 by omega, show (a1 + 1) / 2 + (a1 / 2 - v2) = v3 by omega]
  refine ⟨fun c1 => ?_, fun c1 => ?_⟩
  · skip
    refine ⟨(by omega), ?_⟩
    refine ⟨(by omega), ?_⟩
    exact fin (by omega)
  · skip
    intro _ _
    refine ⟨fun c2 => ?_, fun c2 => ?_⟩
    · skip
      refine ⟨(by omega), ?_⟩
      refine ⟨(by omega), ?_⟩
      exact fin (by omega)
    · skip
      refine ⟨(by first | assumption | omega | exact ⟨by first | assumption | omega, by omega⟩ | exact ⟨by assumption, by omega, by omega⟩ | exact ⟨by assumption, by omega, by omega, by omega⟩ | exact ⟨by assumption, by omega, by omega, by omega, by omega⟩ | exact ⟨by assumption, by omega, by omega, by omega, by omega, by omega⟩), ?_⟩
      intro _ _
      rw [at1]
      refine ⟨(by first | assumption | omega | exact ⟨by first | assumption | omega, by omega⟩ | exact ⟨by assumption, by omega, by omega⟩ | exact ⟨by assumption, by omega, by omega, by omega⟩ | exact ⟨by assumption, by omega, by omega, by omega, by omega⟩ | exact ⟨by assumption, by omega, by omega, by omega, by omega, by omega⟩), ?_⟩
      intro _ _
      rw [at1]
      refine ⟨fun c3 => ?_, fun c3 => ?_⟩
      · skip
        refine ⟨(by omega), ?_⟩
        refine ⟨(by omega), ?_⟩
        exact fin (Classical.byContradiction (fun z => c3 (by have := r3 (a1 / 2 - v2) (by omega) (by omega); rwa [show a1 / 2 - (a1 / 2 - v2) = v2 by omega, show (a1 + 1) / 2 + (a1 / 2 - v2) = v3 by omega] at this)))
      · skip
        refine ⟨(by omega), ?_⟩
        refine ⟨(by omega), ?_⟩
        refine ⟨_, ?_, _, _, rfl, rfl, ?_⟩
        · omega
        · refine ⟨?_, ?_, ?_, ?_, ?_⟩
          · first | rfl | assumption | omega
          · first | rfl | assumption | omega
          · first | rfl | assumption | omega
          · first | rfl | assumption | omega
          · exact more (by assumption) (by omega) (by omega)
theorem e_Mi_span (a1 : Int) (σ : SS) (K : AV → SS → Prop) (ha1 : InR a1) (hs : okS σ) (hG : S_Mi_span [vR 0 0, vI a1] σ K) : VE_Mi_span a1 σ K := by
  unfold VE_Mi_span
  obtain ⟨hT, hG⟩ := hG
  have hb := hT.n
  have no : ¬ (0 ≤ a1 ∧ a1 < 2 * (σ 501 0 0) - 1) → K (vI 0) σ := fun z => by
    rwa [show spn (cW σ) (σ 501 0 0) a1 = 0 from if_neg z] at hG
  refine ⟨fun c1 => ?_, fun c1 => ?_⟩
  · skip
    exact no (by omega)
  · skip
    refine ⟨(by first | assumption | omega | exact ⟨by first | assumption | omega, by omega⟩ | exact ⟨by assumption, by omega, by omega⟩ | exact ⟨by assumption, by omega, by omega, by omega⟩ | exact ⟨by assumption, by omega, by omega, by omega, by omega⟩ | exact ⟨by assumption, by omega, by omega, by omega, by omega, by omega⟩), ?_⟩
    intro _ _
    refine ⟨fun c2 => ?_, fun c2 => ?_⟩
    · skip
      refine ⟨(by exact ⟨by omega, by omega, by unfold shrI; rw [show (2 : Int) ^ (1 : Int).toNat = 2 from rfl]; omega⟩), ?_⟩
      refine ⟨(by omega), ?_⟩
      refine ⟨(by exact ⟨by omega, by omega, by unfold shrI; rw [show (2 : Int) ^ (1 : Int).toNat = 2 from rfl]; omega⟩), ?_⟩
      have x1 : shrI a1 1 = a1 / 2 := rfl
      have x2 : shrI (a1 + 1) 1 = (a1 + 1) / 2 := rfl
      exact ⟨_, _, _, rfl, rfl, rfl, by omega, by omega, ⟨by omega, by omega, by rw [x1, x2]; omega⟩, fun t t0 t1 => by omega⟩
    · skip
      exact no (by omega)
theorem H_Mi_span {d : Nat} (hd : 3 ≤ d) : Holds d I_Mi_span S_Mi_span := by
  refine holds_of (d' := d - 1) (rt := 1) (cal := [(I_Mi_middles, S_Mi_middles), (I_Wo_size, S_Wo_size), (I_Wo_at, S_Wo_at)]) (C := C_Mi_span) m_Mi_span o_Mi_span rfl rfl (by omega) ?_ ?_
  · intro x hx
    simp only [List.mem_cons, List.not_mem_nil, or_false] at hx
    rcases hx with rfl | rfl | rfl
    · exact H_Mi_middles (by omega)
    · exact H_Wo_size (by omega)
    · exact H_Wo_at (by omega)
  · intro as σ K has hσ hG
    have hG2 := hG
    unfold S_Mi_span at hG2
    split at hG2
    · next a1 =>
      refine ⟨Nat.le_of_ble_eq_true rfl, (Iv_Mi_span a1 σ), ?_, 1000, ?_⟩
      · intro k n z L σ' hk hL hs hP
        unfold Iv_Mi_span at hk
        split at hk
        · cases hk
          obtain ⟨v2, v3, rfl, hn, hQ⟩ := hP
          exact ⟨1000, l_Mi_span_18 a1 σ K (has _ (List.mem_of_getElem? (i := 1) rfl)) hσ hG v2 v3 σ' (hL _ (List.mem_of_getElem? (i := 2) rfl)) (hL _ (List.mem_of_getElem? (i := 3) rfl)) hs n hn hQ⟩
        · cases hk
      · exact e_Mi_span a1 σ K (has _ (List.mem_of_getElem? (i := 1) rfl)) hσ hG
    · exact hG2.elim
def S_Mi_longestAt : GS := fun as σ K => match as with
  | [some (.inr (.inr (0, 0))), some (.inl a1), some (.inl a2)] => (TwC σ ∧ 0 ≤ a1 ∧ a1 < 120) ∧ K (vI (spn (cW σ) (σ 501 0 0) (if a2 = 0 then 2 * a1 else 2 * a1 - 1))) σ
  | _ => False
def VE_Mi_longestAt (a1 : Int) (a2 : Int) (σ : SS) (K : AV → SS → Prop) : Prop :=
  ((a2 = 0 →
    (InR (2 * a1) ∧
    (S_Mi_span [vR 0 0, vI (2 * a1)] σ (kI fun r1 σ1 =>
      (K (vI r1) σ1))))) ∧
  (a2 ≠ 0 →
    (InR (2 * a1) ∧
    (InR ((2 * a1) - 1) ∧
    (S_Mi_span [vR 0 0, vI ((2 * a1) - 1)] σ (kI fun r2 σ2 =>
      (K (vI r2) σ2)))))))
theorem e_Mi_longestAt (a1 : Int) (a2 : Int) (σ : SS) (K : AV → SS → Prop) (ha1 : InR a1) (ha2 : InR a2) (hs : okS σ) (hG : S_Mi_longestAt [vR 0 0, vI a1, vI a2] σ K) : VE_Mi_longestAt a1 a2 σ K := by
  unfold VE_Mi_longestAt
  obtain ⟨⟨hT, h1, h2⟩, hG⟩ := hG
  refine ⟨fun c1 => ?_, fun c1 => ?_⟩
  · skip
    refine ⟨(by omega), ?_⟩
    refine ⟨(by first | assumption | omega | exact ⟨by first | assumption | omega, by omega⟩ | exact ⟨by assumption, by omega, by omega⟩ | exact ⟨by assumption, by omega, by omega, by omega⟩ | exact ⟨by assumption, by omega, by omega, by omega, by omega⟩ | exact ⟨by assumption, by omega, by omega, by omega, by omega, by omega⟩), ?_⟩
    intro _ _
    rw [if_pos (by assumption)] at hG
    exact hG
  · skip
    refine ⟨(by omega), ?_⟩
    refine ⟨(by omega), ?_⟩
    refine ⟨(by first | assumption | omega | exact ⟨by first | assumption | omega, by omega⟩ | exact ⟨by assumption, by omega, by omega⟩ | exact ⟨by assumption, by omega, by omega, by omega⟩ | exact ⟨by assumption, by omega, by omega, by omega, by omega⟩ | exact ⟨by assumption, by omega, by omega, by omega, by omega, by omega⟩), ?_⟩
    intro _ _
    rw [if_neg (by assumption)] at hG
    exact hG
theorem H_Mi_longestAt {d : Nat} (hd : 4 ≤ d) : Holds d I_Mi_longestAt S_Mi_longestAt := by
  refine holds_of (d' := d - 1) (rt := 1) (cal := [(I_Mi_span, S_Mi_span)]) (C := C_Mi_longestAt) m_Mi_longestAt o_Mi_longestAt rfl rfl (by omega) ?_ ?_
  · intro x hx
    simp only [List.mem_cons, List.not_mem_nil, or_false] at hx
    subst hx
    exact H_Mi_span (by omega)
  · intro as σ K has hσ hG
    have hG2 := hG
    unfold S_Mi_longestAt at hG2
    split at hG2
    · next a1 a2 =>
      refine ⟨Nat.le_of_ble_eq_true rfl, (fun _ => none), ?_, 1000, ?_⟩
      · intro k n z L σ' hk hL hs hP
        cases hk
      · exact e_Mi_longestAt a1 a2 σ K (has _ (List.mem_of_getElem? (i := 1) rfl)) (has _ (List.mem_of_getElem? (i := 2) rfl)) hσ hG
    · exact hG2.elim
def S_Mi_all : GS := fun as σ K => match as with
  | [some (.inr (.inr (0, 0)))] => TwC σ ∧ K (vI (dsum (mirP (cW σ) (σ 501 0 0)) (σ 501 0 0))) σ
  | _ => False
abbrev Lp_Mi_all_4 (σ0 : SS) (n : Nat) (L : List AV) (σ : SS) : Prop := ∃ (v1 : Int) (v2 : Int), L = [vR 0 0, vI v1, vI v2] ∧ n = (1000 - v2).toNat ∧ ((σ = σ0) ∧ (0 ≤ v2 ∧ v2 ≤ max 0 (2 * (σ0 501 0 0) - 1)) ∧ (v1 = sumZ (midR (mirP (cW σ0) (σ0 501 0 0)) (σ0 501 0 0)) 0 v2))
def Iv_Mi_all (σ0 : SS) (k : Nat) : Option (List Nat × (Nat → List AV → SS → Prop)) := match k with
  | 4 => some ([], Lp_Mi_all_4 σ0)
  | _ => none
def VE_Mi_all (σ : SS) (K : AV → SS → Prop) : Prop :=
  (∃ n', Lp_Mi_all_4 σ n' [vR 0 0, vI 0, vI 0] σ)
def VL_Mi_all_4 (σ0 : SS) (K : AV → SS → Prop) (v1 : Int) (v2 : Int) (σ : SS) (n : Nat) : Prop :=
  (S_Mi_middles [vR 0 0] σ (kI fun r1 σ1 =>
    ((r1 ≤ v2 →
      (K (vI v1) σ1)) ∧
    (v2 < r1 →
      (S_Mi_span [vR 0 0, vI v2] σ1 (kI fun r2 σ2 =>
        (InR (r2 + 1) ∧
        ((0 ≤ (1 : Int) ∧ (1 : Int) < 32 ∧ InR (shrI (r2 + 1) 1)) ∧
        (InR (v1 + (shrI (r2 + 1) 1)) ∧
        (InR (v2 + 1) ∧
        (∃ n', n' < n ∧ Lp_Mi_all_4 σ0 n' [vR 0 0, vI (v1 + (shrI (r2 + 1) 1)), vI (v2 + 1)] σ2)))))))))))
theorem l_Mi_all_4 (σ0 : SS) (K : AV → SS → Prop) (hs0 : okS σ0) (hG : S_Mi_all [vR 0 0] σ0 K) (v1 : Int) (v2 : Int) (σ : SS) (hv1 : InR v1) (hv2 : InR v2) (hs : okS σ) (n : Nat) (hn : n = (1000 - v2).toNat) (hQ : (σ = σ0) ∧ (0 ≤ v2 ∧ v2 ≤ max 0 (2 * (σ0 501 0 0) - 1)) ∧ (v1 = sumZ (midR (mirP (cW σ0) (σ0 501 0 0)) (σ0 501 0 0)) 0 v2)) : VL_Mi_all_4 σ0 K v1 v2 σ n := by
  unfold VL_Mi_all_4
  obtain ⟨hT, hG⟩ := hG
  have hb := hT.n
  obtain ⟨rfl, q1, q2⟩ := hQ
  have ss := sumZ_succ (f := midR (mirP (cW σ) (σ 501 0 0)) (σ 501 0 0)) (a := 0) (b := v2) q1.1
  have md := fun z : v2 < 2 * (σ 501 0 0) - 1 => mid_mir (w := cW σ) q1.1 z
  have sp := fun z : v2 < 2 * (σ 501 0 0) - 1 => spn_spec (cW σ) q1.1 z
  have tot := sumZ_le (f := midR (mirP (cW σ) (σ 501 0 0)) (σ 501 0 0)) (c := 120) (a := 0) (b := v2) (by omega) (fun x x0 x1 => by
    have a := mid_mir (w := cW σ) (n := (σ 501 0 0)) x0 (by omega)
    have b := spn_spec (cW σ) (n := (σ 501 0 0)) x0 (by omega)
    omega)
  refine ⟨(by first | assumption | omega | exact ⟨by first | assumption | omega, by omega⟩ | exact ⟨by assumption, by omega, by omega⟩ | exact ⟨by assumption, by omega, by omega, by omega⟩ | exact ⟨by assumption, by omega, by omega, by omega, by omega⟩ | exact ⟨by assumption, by omega, by omega, by omega, by omega, by omega⟩), ?_⟩
  intro _ _
  refine ⟨fun c1 => ?_, fun c1 => ?_⟩
  · skip
    have e : v1 = dsum (mirP (cW σ) (σ 501 0 0)) (σ 501 0 0) := by
      rw [mid_sum hb.1 (fun i h z => ⟨z.1, z.2.1, z.2.2.1⟩), q2]
      rcases (by omega : v2 = 2 * (σ 501 0 0) - 1 ∨ (v2 = 0 ∧ (σ 501 0 0) = 0)) with z | z
      · rw [z]
      · rw [z.1, z.2, sumZ_nil (by omega), sumZ_nil (by omega)]
    rw [e]; exact hG
  · skip
    refine ⟨(by first | assumption | omega | exact ⟨by first | assumption | omega, by omega⟩ | exact ⟨by assumption, by omega, by omega⟩ | exact ⟨by assumption, by omega, by omega, by omega⟩ | exact ⟨by assumption, by omega, by omega, by omega, by omega⟩ | exact ⟨by assumption, by omega, by omega, by omega, by omega, by omega⟩), ?_⟩
    intro _ _
    have sp1 := sp (by omega)
    refine ⟨(by omega), ?_⟩
    refine ⟨(by exact ⟨by omega, by omega, by unfold shrI; rw [show (2 : Int) ^ (1 : Int).toNat = 2 from rfl]; omega⟩), ?_⟩
    refine ⟨(by
                        have x1 : shrI (spn (cW σ) (σ 501 0 0) v2 + 1) 1 = (spn (cW σ) (σ 501 0 0) v2 + 1) / 2 := rfl
                        omega), ?_⟩
    refine ⟨(by omega), ?_⟩
    refine ⟨_, ?_, _, _, rfl, rfl, ?_⟩
    · omega
    · refine ⟨?_, ?_, ?_⟩
      · first | rfl | assumption | omega
      · first | rfl | assumption | omega
      · have x1 : shrI (spn (cW σ) (σ 501 0 0) v2 + 1) 1 = (spn (cW σ) (σ 501 0 0) v2 + 1) / 2 := rfl
        have md1 := md (by omega)
        omega
theorem e_Mi_all (σ : SS) (K : AV → SS → Prop) (hs : okS σ) (hG : S_Mi_all [vR 0 0] σ K) : VE_Mi_all σ K := by
  unfold VE_Mi_all
  obtain ⟨hT, hG⟩ := hG
  refine ⟨_, _, _, rfl, rfl, ?_⟩
  refine ⟨?_, ?_, ?_⟩
  · first | rfl | assumption | omega
  · first | rfl | assumption | omega
  · exact (sumZ_nil (by omega)).symm
theorem H_Mi_all {d : Nat} (hd : 4 ≤ d) : Holds d I_Mi_all S_Mi_all := by
  refine holds_of (d' := d - 1) (rt := 1) (cal := [(I_Mi_middles, S_Mi_middles), (I_Mi_span, S_Mi_span)]) (C := C_Mi_all) m_Mi_all o_Mi_all rfl rfl (by omega) ?_ ?_
  · intro x hx
    simp only [List.mem_cons, List.not_mem_nil, or_false] at hx
    rcases hx with rfl | rfl
    · exact H_Mi_middles (by omega)
    · exact H_Mi_span (by omega)
  · intro as σ K has hσ hG
    have hG2 := hG
    unfold S_Mi_all at hG2
    split at hG2
    · skip
      refine ⟨Nat.le_of_ble_eq_true rfl, (Iv_Mi_all σ), ?_, 1000, ?_⟩
      · intro k n z L σ' hk hL hs hP
        unfold Iv_Mi_all at hk
        split at hk
        · cases hk
          obtain ⟨v1, v2, rfl, hn, hQ⟩ := hP
          exact ⟨1000, l_Mi_all_4 σ K  hσ hG v1 v2 σ' (hL _ (List.mem_of_getElem? (i := 1) rfl)) (hL _ (List.mem_of_getElem? (i := 2) rfl)) hs n hn hQ⟩
        · cases hk
      · exact e_Mi_all σ K  hσ hG
    · exact hG2.elim
def S_Mi_unlikeOnes : GS := fun as σ K => match as with
  | [some (.inr (.inr (0, 0)))] => TwC σ ∧ ∀ σ', TQ σ σ' → K (vI (dsum (mirU (cW σ) (σ 501 0 0)) (σ 501 0 0))) σ'
  | _ => False
abbrev Lp_Mi_unlikeOnes_4 (σ0 : SS) (n : Nat) (L : List AV) (σ : SS) : Prop := ∃ (v1 : Int) (v2 : Int), L = [vR 0 0, vI v1, vI v2, none] ∧ n = (1000 * (1000 - v2)).toNat ∧ ((TQ σ0 σ) ∧ (0 ≤ v2 ∧ v2 ≤ max 0 (2 * (σ0 501 0 0) - 1)) ∧ (v1 = sumZ (midR (mirU (cW σ0) (σ0 501 0 0)) (σ0 501 0 0)) 0 v2))
abbrev Lp_Mi_unlikeOnes_12 (σ0 : SS) (n : Nat) (L : List AV) (σ : SS) : Prop := ∃ (v1 : Int) (v2 : Int) (v3 : Int), L = [vR 0 0, vI v1, vI v2, vI v3] ∧ n = (1000 * (1000 - v2) - 200 + v3).toNat ∧ ((TQ σ0 σ) ∧ (0 ≤ v2 ∧ v2 < 2 * (σ0 501 0 0) - 1) ∧ ((v2 + 1 - v3) % 2 = 0) ∧ (-1 ≤ v3 ∧ v3 ≤ spn (cW σ0) (σ0 501 0 0) v2) ∧ (v1 = sumZ (midR (mirU (cW σ0) (σ0 501 0 0)) (σ0 501 0 0)) 0 v2 + sumZ (fun h => iT ((v2 + 1 - h) % 2 = 0) (bi (mirU (cW σ0) (σ0 501 0 0) ((v2 + 1 - h) / 2) h))) (v3 + 1) ((σ0 501 0 0) + 1)))
def Iv_Mi_unlikeOnes (σ0 : SS) (k : Nat) : Option (List Nat × (Nat → List AV → SS → Prop)) := match k with
  | 4 => some ([3], Lp_Mi_unlikeOnes_4 σ0)
  | 12 => some ([], Lp_Mi_unlikeOnes_12 σ0)
  | _ => none
def VE_Mi_unlikeOnes (σ : SS) (K : AV → SS → Prop) : Prop :=
  (∃ n', Lp_Mi_unlikeOnes_4 σ n' [vR 0 0, vI 0, vI 0, none] σ)
def VL_Mi_unlikeOnes_4 (σ0 : SS) (K : AV → SS → Prop) (v1 : Int) (v2 : Int) (σ : SS) (n : Nat) : Prop :=
  (S_Mi_middles [vR 0 0] σ (kI fun r1 σ1 =>
    ((r1 ≤ v2 →
      (K (vI v1) σ1)) ∧
    (v2 < r1 →
      (S_Mi_span [vR 0 0, vI v2] σ1 (kI fun r2 σ2 =>
        (∃ n', n' < n ∧ Lp_Mi_unlikeOnes_12 σ0 n' [vR 0 0, vI v1, vI v2, vI r2] σ2)))))))
def VL_Mi_unlikeOnes_12 (σ0 : SS) (K : AV → SS → Prop) (v1 : Int) (v2 : Int) (v3 : Int) (σ : SS) (n : Nat) : Prop :=
  ((v3 ≤ 0 →
    (InR (v2 + 1) ∧
    (∃ n', n' < n ∧ Lp_Mi_unlikeOnes_4 σ0 n' [vR 0 0, vI v1, vI (v2 + 1), none] σ))) ∧
  ((0 : Int) < v3 →
    (InR (v2 + 1) ∧
    (InR ((v2 + 1) - v3) ∧
    ((0 ≤ (1 : Int) ∧ (1 : Int) < 32 ∧ InR (shrI ((v2 + 1) - v3) 1)) ∧
    (S_Tw_earlier [vR 8 0, vI (shrI ((v2 + 1) - v3) 1)] σ (kI fun r1 σ1 =>
      ((v3 ≤ r1 →
        (InR (v1 + 0) ∧
        (InR (v3 + (-2)) ∧
        (∃ n', n' < n ∧ Lp_Mi_unlikeOnes_12 σ0 n' [vR 0 0, vI (v1 + 0), vI v2, vI (v3 + (-2))] σ1)))) ∧
      (r1 < v3 →
        (InR (v1 + 1) ∧
        (InR (v3 + (-2)) ∧
        (∃ n', n' < n ∧ Lp_Mi_unlikeOnes_12 σ0 n' [vR 0 0, vI (v1 + 1), vI v2, vI (v3 + (-2))] σ1))))))))))))
theorem l_Mi_unlikeOnes_4 (σ0 : SS) (K : AV → SS → Prop) (hs0 : okS σ0) (hG : S_Mi_unlikeOnes [vR 0 0] σ0 K) (v1 : Int) (v2 : Int) (σ : SS) (hv1 : InR v1) (hv2 : InR v2) (hs : okS σ) (n : Nat) (hn : n = (1000 * (1000 - v2)).toNat) (hQ : (TQ σ0 σ) ∧ (0 ≤ v2 ∧ v2 ≤ max 0 (2 * (σ0 501 0 0) - 1)) ∧ (v1 = sumZ (midR (mirU (cW σ0) (σ0 501 0 0)) (σ0 501 0 0)) 0 v2)) : VL_Mi_unlikeOnes_4 σ0 K v1 v2 σ n := by
  unfold VL_Mi_unlikeOnes_4
  obtain ⟨hT, hG⟩ := hG
  have hb := hT.n
  obtain ⟨q0, q1, q2⟩ := hQ
  have hT1 := q0.2
  obtain ⟨w1, w2⟩ := q0.w
  have sp := fun z : v2 < 2 * (σ0 501 0 0) - 1 => spn_spec (cW σ0) q1.1 z
  refine ⟨(by first | assumption | omega | exact ⟨by first | assumption | omega, by omega⟩ | exact ⟨by assumption, by omega, by omega⟩ | exact ⟨by assumption, by omega, by omega, by omega⟩ | exact ⟨by assumption, by omega, by omega, by omega, by omega⟩ | exact ⟨by assumption, by omega, by omega, by omega, by omega, by omega⟩), ?_⟩
  intro _ _
  refine ⟨fun c1 => ?_, fun c1 => ?_⟩
  · skip
    have e : v1 = dsum (mirU (cW σ0) (σ0 501 0 0)) (σ0 501 0 0) := by
      rw [mid_sum hb.1 (fun i h z => ⟨z.1.1, z.1.2.1, z.1.2.2.1⟩), q2]
      rcases (by omega : v2 = 2 * (σ0 501 0 0) - 1 ∨ (v2 = 0 ∧ (σ0 501 0 0) = 0)) with z | z
      · rw [z]
      · rw [z.1, z.2, sumZ_nil (by omega), sumZ_nil (by omega)]
    rw [e]; exact hG _ q0
  · skip
    refine ⟨(by first | assumption | omega | exact ⟨by first | assumption | omega, by omega⟩ | exact ⟨by assumption, by omega, by omega⟩ | exact ⟨by assumption, by omega, by omega, by omega⟩ | exact ⟨by assumption, by omega, by omega, by omega, by omega⟩ | exact ⟨by assumption, by omega, by omega, by omega, by omega, by omega⟩), ?_⟩
    intro _ _
    rw [w1, w2]
    have sp1 := sp (by omega)
    refine ⟨_, ?_, _, _, _, rfl, rfl, ?_⟩
    · omega
    · refine ⟨?_, ?_, ?_, ?_, ?_⟩
      · first | rfl | assumption | omega
      · first | rfl | assumption | omega
      · first | rfl | assumption | omega
      · first | rfl | assumption | omega
      · have z : sumZ (fun h => iT ((v2 + 1 - h) % 2 = 0) (bi (mirU (cW σ0) (σ0 501 0 0) ((v2 + 1 - h) / 2) h))) (spn (cW σ0) (σ0 501 0 0) v2 + 1) ((σ0 501 0 0) + 1) = 0 := by
          refine sumZ_zero (fun h g1 g2 => ?_)
          by_cases c : (v2 + 1 - h) % 2 = 0
          · rw [iT_y c]
            exact bi_0 (fun y => by have := (mir_at q1.1 (by omega) (by omega) c).mp y.1; omega)
          · exact iT_n c
        omega
theorem l_Mi_unlikeOnes_12 (σ0 : SS) (K : AV → SS → Prop) (hs0 : okS σ0) (hG : S_Mi_unlikeOnes [vR 0 0] σ0 K) (v1 : Int) (v2 : Int) (v3 : Int) (σ : SS) (hv1 : InR v1) (hv2 : InR v2) (hv3 : InR v3) (hs : okS σ) (n : Nat) (hn : n = (1000 * (1000 - v2) - 200 + v3).toNat) (hQ : (TQ σ0 σ) ∧ (0 ≤ v2 ∧ v2 < 2 * (σ0 501 0 0) - 1) ∧ ((v2 + 1 - v3) % 2 = 0) ∧ (-1 ≤ v3 ∧ v3 ≤ spn (cW σ0) (σ0 501 0 0) v2) ∧ (v1 = sumZ (midR (mirU (cW σ0) (σ0 501 0 0)) (σ0 501 0 0)) 0 v2 + sumZ (fun h => iT ((v2 + 1 - h) % 2 = 0) (bi (mirU (cW σ0) (σ0 501 0 0) ((v2 + 1 - h) / 2) h))) (v3 + 1) ((σ0 501 0 0) + 1))) : VL_Mi_unlikeOnes_12 σ0 K v1 v2 v3 σ n := by
  unfold VL_Mi_unlikeOnes_12
  obtain ⟨hT, hG⟩ := hG
  have hb := hT.n
  obtain ⟨q0, q1, q2, q3, q4⟩ := hQ
  have hT1 := q0.2
  obtain ⟨w1, w2⟩ := q0.w
  have sp := spn_spec (cW σ0) q1.1 q1.2
  have ss := sumZ_succ (f := midR (mirU (cW σ0) (σ0 501 0 0)) (σ0 501 0 0)) (a := 0) (b := v2) q1.1
  have row : ∀ x k, 0 ≤ k → 0 ≤ sumZ (fun h => iT ((x + 1 - h) % 2 = 0) (bi (mirU (cW σ0) (σ0 501 0 0) ((x + 1 - h) / 2) h))) k ((σ0 501 0 0) + 1) ∧ sumZ (fun h => iT ((x + 1 - h) % 2 = 0) (bi (mirU (cW σ0) (σ0 501 0 0) ((x + 1 - h) / 2) h))) k ((σ0 501 0 0) + 1) ≤ 121 := fun x k hk => by
    have := sumZ_le (f := fun h => iT ((x + 1 - h) % 2 = 0) (bi (mirU (cW σ0) (σ0 501 0 0) ((x + 1 - h) / 2) h))) (c := 1) (a := k) (b := (σ0 501 0 0) + 1) (by omega) (fun y _ _ => iT_in (bi_in _))
    omega
  have r1 := row v2 (v3 + 1) (by omega)
  have tot := sumZ_le (f := midR (mirU (cW σ0) (σ0 501 0 0)) (σ0 501 0 0)) (c := 121) (a := 0) (b := v2) (by omega) (fun x x0 x1 => row x 1 (by omega))
  have dn : 0 < v3 → sumZ (fun h => iT ((v2 + 1 - h) % 2 = 0) (bi (mirU (cW σ0) (σ0 501 0 0) ((v2 + 1 - h) / 2) h))) (v3 - 1) ((σ0 501 0 0) + 1) = bi (¬ isE (cW σ0) ((v2 + 1 - v3) / 2) v3) + sumZ (fun h => iT ((v2 + 1 - h) % 2 = 0) (bi (mirU (cW σ0) (σ0 501 0 0) ((v2 + 1 - h) / 2) h))) (v3 + 1) ((σ0 501 0 0) + 1) := fun z => by
    rw [sumZ_split (a := v3 - 1) (b := v3 + 1) (by omega) (by omega : v3 + 1 ≤ (σ0 501 0 0) + 1), show v3 + 1 = v3 - 1 + 1 + 1 by omega, sumZ_succ (a := v3 - 1) (by omega), sumZ_succ (a := v3 - 1) (Int.le_refl _), sumZ_nil (Int.le_refl _), iT_n (by omega), show v3 - 1 + 1 = v3 by omega, iT_y q2]
    have e := mir_at (w := cW σ0) (n := (σ0 501 0 0)) (m := v2) (h := v3) q1.1 q1.2 (by omega) q2
    rw [bi_congr (Q := ¬ isE (cW σ0) ((v2 + 1 - v3) / 2) v3) ⟨fun y => y.2, fun y => ⟨e.mpr q3.2, y⟩⟩]
    omega
  have x1 : shrI (v2 + 1 - v3) 1 = (v2 + 1 - v3) / 2 := rfl
  refine ⟨fun c1 => ?_, fun c1 => ?_⟩
  · skip
    refine ⟨(by omega), ?_⟩
    refine ⟨_, ?_, _, _, rfl, rfl, ?_⟩
    · omega
    · refine ⟨?_, ?_, ?_⟩
      · first | rfl | assumption | omega
      · first | rfl | assumption | omega
      · rw [ss, q4]
        have e : midR (mirU (cW σ0) (σ0 501 0 0)) (σ0 501 0 0) v2 = sumZ (fun h => iT ((v2 + 1 - h) % 2 = 0) (bi (mirU (cW σ0) (σ0 501 0 0) ((v2 + 1 - h) / 2) h))) (v3 + 1) ((σ0 501 0 0) + 1) := by
          rcases (by omega : v3 = 0 ∨ v3 = -1) with rfl | rfl
          · rfl
          · exact sumZ_widen (by omega) (Int.le_refl _) (fun x g1 g2 g3 => by
              by_cases c : (v2 + 1 - x) % 2 = 0
              · rw [iT_y c]; exact bi_0 (fun y => by have := y.1.2.1; omega)
              · exact iT_n c)
        omega
  · skip
    refine ⟨(by omega), ?_⟩
    refine ⟨(by omega), ?_⟩
    refine ⟨(by omega), ?_⟩
    refine ⟨(by first | assumption | omega | exact ⟨by first | assumption | omega, by omega⟩ | exact ⟨by assumption, by omega, by omega⟩ | exact ⟨by assumption, by omega, by omega, by omega⟩ | exact ⟨by assumption, by omega, by omega, by omega, by omega⟩ | exact ⟨by assumption, by omega, by omega, by omega, by omega, by omega⟩), (fun σ2 h2a h2b => ?_)⟩
    intro _ _
    rw [w1, w2, x1]
    have tq := q0.tr ⟨h2a, h2b⟩
    have d := dn (by omega)
    have er : earlR (cW σ0) (σ0 501 0 0) ((v2 + 1 - v3) / 2) = earl (cW σ0) (σ0 501 0 0) ((v2 + 1 - v3) / 2) := by rw [earlR, if_pos (by omega)]
    rw [er]
    have le := le_earl (cW σ0) (n := (σ0 501 0 0)) (p := (v2 + 1 - v3) / 2) (L := v3) (by omega) (by omega)
    refine ⟨fun c3 => ?_, fun c3 => ?_⟩
    · skip
      refine ⟨(by omega), ?_⟩
      refine ⟨(by omega), ?_⟩
      refine ⟨_, ?_, _, _, _, rfl, rfl, ?_⟩
      · omega
      · refine ⟨?_, ?_, ?_, ?_, ?_⟩
        · exact tq
        · first | rfl | assumption | omega
        · first | rfl | assumption | omega
        · first | rfl | assumption | omega
        · rw [show v3 + -2 + 1 = v3 - 1 by omega, d, bi_0 (fun z => z (le.mp (by assumption)).2)]; omega
    · skip
      refine ⟨(by omega), ?_⟩
      refine ⟨(by omega), ?_⟩
      refine ⟨_, ?_, _, _, _, rfl, rfl, ?_⟩
      · omega
      · refine ⟨?_, ?_, ?_, ?_, ?_⟩
        · exact tq
        · first | rfl | assumption | omega
        · first | rfl | assumption | omega
        · first | rfl | assumption | omega
        · rw [show v3 + -2 + 1 = v3 - 1 by omega, d, bi_1 (fun z => by have := le.mpr ⟨by omega, z⟩; omega)]; omega
theorem e_Mi_unlikeOnes (σ : SS) (K : AV → SS → Prop) (hs : okS σ) (hG : S_Mi_unlikeOnes [vR 0 0] σ K) : VE_Mi_unlikeOnes σ K := by
  unfold VE_Mi_unlikeOnes
  obtain ⟨hT, hG⟩ := hG
  refine ⟨_, _, _, rfl, rfl, ?_⟩
  refine ⟨?_, ?_, ?_⟩
  · exact TQ.rf hT
  · first | rfl | assumption | omega
  · exact (sumZ_nil (by omega)).symm
theorem H_Mi_unlikeOnes {d : Nat} (hd : 4 ≤ d) : Holds d I_Mi_unlikeOnes S_Mi_unlikeOnes := by
  refine holds_of (d' := d - 1) (rt := 1) (cal := [(I_Mi_middles, S_Mi_middles), (I_Mi_span, S_Mi_span), (I_Tw_earlier, S_Tw_earlier)]) (C := C_Mi_unlikeOnes) m_Mi_unlikeOnes o_Mi_unlikeOnes rfl rfl (by omega) ?_ ?_
  · intro x hx
    simp only [List.mem_cons, List.not_mem_nil, or_false] at hx
    rcases hx with rfl | rfl | rfl
    · exact H_Mi_middles (by omega)
    · exact H_Mi_span (by omega)
    · exact H_Tw_earlier (by omega)
  · intro as σ K has hσ hG
    have hG2 := hG
    unfold S_Mi_unlikeOnes at hG2
    split at hG2
    · skip
      refine ⟨Nat.le_of_ble_eq_true rfl, (Iv_Mi_unlikeOnes σ), ?_, 1000, ?_⟩
      · intro k n z L σ' hk hL hs hP
        unfold Iv_Mi_unlikeOnes at hk
        split at hk
        · cases hk
          obtain ⟨v1, v2, rfl, hn, hQ⟩ := hP
          exact ⟨1000, l_Mi_unlikeOnes_4 σ K  hσ hG v1 v2 σ' (hL _ (List.mem_of_getElem? (i := 1) rfl)) (hL _ (List.mem_of_getElem? (i := 2) rfl)) hs n hn hQ⟩
        · cases hk
          obtain ⟨v1, v2, v3, rfl, hn, hQ⟩ := hP
          exact ⟨1000, l_Mi_unlikeOnes_12 σ K  hσ hG v1 v2 v3 σ' (hL _ (List.mem_of_getElem? (i := 1) rfl)) (hL _ (List.mem_of_getElem? (i := 2) rfl)) (hL _ (List.mem_of_getElem? (i := 3) rfl)) hs n hn hQ⟩
        · cases hk
      · exact e_Mi_unlikeOnes σ K  hσ hG
    · exact hG2.elim
def S_Mi_longestOnes : GS := fun as σ K => match as with
  | [some (.inr (.inr (0, 0)))] => TwC σ ∧ ∀ σ', MQi σ σ' → TL 1 (mirP (cW σ) (σ 501 0 0)) (σ' 381 1 0) (σ' 382 1 0) → K (vR 7 1) σ'
  | _ => False
abbrev Lp_Mi_longestOnes_5 (σ0 : SS) (n : Nat) (L : List AV) (σ : SS) : Prop := ∃ (v1 : Int), L = [vR 0 0, vI v1, none] ∧ n = (1000 - v1).toNat ∧ ((MQi σ0 σ) ∧ (0 ≤ v1 ∧ v1 ≤ max 0 (2 * (σ0 501 0 0) - 1)) ∧ (0 ≤ σ 380 1 0 ∧ σ 380 1 0 ≤ v1) ∧ (TL 1 (fun i h => mirP (cW σ0) (σ0 501 0 0) i h ∧ 2 * i + h - 1 < v1) (σ 381 1 0) (σ 382 1 0)))
def Iv_Mi_longestOnes (σ0 : SS) (k : Nat) : Option (List Nat × (Nat → List AV → SS → Prop)) := match k with
  | 5 => some ([2], Lp_Mi_longestOnes_5 σ0)
  | _ => none
def VE_Mi_longestOnes (σ : SS) (K : AV → SS → Prop) : Prop :=
  (S_Ta_clear [vR 7 1] σ (kV fun σ1 =>
    (∃ n', Lp_Mi_longestOnes_5 σ n' [vR 0 0, vI 0, none] σ1)))
def VL_Mi_longestOnes_5 (σ0 : SS) (K : AV → SS → Prop) (v1 : Int) (σ : SS) (n : Nat) : Prop :=
  (S_Mi_middles [vR 0 0] σ (kI fun r1 σ1 =>
    ((r1 ≤ v1 →
      (K (vR 7 1) σ1)) ∧
    (v1 < r1 →
      (S_Mi_span [vR 0 0, vI v1] σ1 (kI fun r2 σ2 =>
        ((r2 ≤ 0 →
          (InR (v1 + 1) ∧
          (∃ n', n' < n ∧ Lp_Mi_longestOnes_5 σ0 n' [vR 0 0, vI (v1 + 1), none] σ2))) ∧
        ((0 : Int) < r2 →
          (InR (v1 + 1) ∧
          (InR ((v1 + 1) - r2) ∧
          ((0 ≤ (1 : Int) ∧ (1 : Int) < 32 ∧ InR (shrI ((v1 + 1) - r2) 1)) ∧
          (S_Ta_add [vR 7 1, vI (shrI ((v1 + 1) - r2) 1), vI r2] σ2 (kV fun σ3 =>
            (InR (v1 + 1) ∧
            (∃ n', n' < n ∧ Lp_Mi_longestOnes_5 σ0 n' [vR 0 0, vI (v1 + 1), none] σ3)))))))))))))))
theorem l_Mi_longestOnes_5 (σ0 : SS) (K : AV → SS → Prop) (hs0 : okS σ0) (hG : S_Mi_longestOnes [vR 0 0] σ0 K) (v1 : Int) (σ : SS) (hv1 : InR v1) (hs : okS σ) (n : Nat) (hn : n = (1000 - v1).toNat) (hQ : (MQi σ0 σ) ∧ (0 ≤ v1 ∧ v1 ≤ max 0 (2 * (σ0 501 0 0) - 1)) ∧ (0 ≤ σ 380 1 0 ∧ σ 380 1 0 ≤ v1) ∧ (TL 1 (fun i h => mirP (cW σ0) (σ0 501 0 0) i h ∧ 2 * i + h - 1 < v1) (σ 381 1 0) (σ 382 1 0))) : VL_Mi_longestOnes_5 σ0 K v1 σ n := by
  unfold VL_Mi_longestOnes_5
  obtain ⟨hT, hG⟩ := hG
  have hb := hT.n
  obtain ⟨q0, q1, q2, q3⟩ := hQ
  have hT1 := q0.2
  obtain ⟨w1, w2⟩ := q0.w
  have sp := fun z : v1 < 2 * (σ0 501 0 0) - 1 => spn_spec (cW σ0) q1.1 z
  refine ⟨(by first | assumption | omega | exact ⟨by first | assumption | omega, by omega⟩ | exact ⟨by assumption, by omega, by omega⟩ | exact ⟨by assumption, by omega, by omega, by omega⟩ | exact ⟨by assumption, by omega, by omega, by omega, by omega⟩ | exact ⟨by assumption, by omega, by omega, by omega, by omega, by omega⟩), ?_⟩
  intro _ _
  refine ⟨fun c1 => ?_, fun c1 => ?_⟩
  · skip
    exact hG _ q0 (TL_congr q3 (fun i h => ⟨fun z => z.1, fun z => ⟨z, by have := z.1; have := z.2.1; have := z.2.2.1; omega⟩⟩))
  · skip
    refine ⟨(by first | assumption | omega | exact ⟨by first | assumption | omega, by omega⟩ | exact ⟨by assumption, by omega, by omega⟩ | exact ⟨by assumption, by omega, by omega, by omega⟩ | exact ⟨by assumption, by omega, by omega, by omega, by omega⟩ | exact ⟨by assumption, by omega, by omega, by omega, by omega, by omega⟩), ?_⟩
    intro _ _
    rw [w1, w2]
    have sp1 := sp (by omega)
    have x1 : shrI (v1 + 1 - spn (cW σ0) (σ0 501 0 0) v1) 1 = (v1 + 1 - spn (cW σ0) (σ0 501 0 0) v1) / 2 := rfl
    refine ⟨fun c2 => ?_, fun c2 => ?_⟩
    · skip
      refine ⟨(by omega), ?_⟩
      refine ⟨_, ?_, _, rfl, rfl, ?_⟩
      · omega
      · refine ⟨?_, ?_, ?_, ?_⟩
        · first | rfl | assumption | omega
        · first | rfl | assumption | omega
        · first | rfl | assumption | omega
        · refine TL_congr q3 (fun i h => ⟨fun z => ⟨z.1, by omega⟩, fun z => ⟨z.1, ?_⟩⟩)
          rcases (by omega : 2 * i + h - 1 < v1 ∨ 2 * i + h - 1 = v1) with y | y
          · exact y
          · have hz := z.1
            have h1 := hz.2.1
            rw [show i = (v1 + 1 - h) / 2 by omega] at hz
            have := (mir_at q1.1 (by omega) h1 (by omega)).mp hz
            omega
    · skip
      refine ⟨(by omega), ?_⟩
      refine ⟨(by omega), ?_⟩
      refine ⟨(by exact ⟨by omega, by omega, by rw [x1]; omega⟩), ?_⟩
      rw [x1]
      refine ⟨(by first | assumption | omega | exact ⟨by first | assumption | omega, by omega⟩ | exact ⟨by assumption, by omega, by omega⟩ | exact ⟨by assumption, by omega, by omega, by omega⟩ | exact ⟨by assumption, by omega, by omega, by omega, by omega⟩ | exact ⟨by assumption, by omega, by omega, by omega, by omega, by omega⟩), (fun σ3 h3a h3b h3c h3d => ?_)⟩
      intro _
      refine ⟨(by omega), ?_⟩
      refine ⟨_, ?_, _, rfl, rfl, ?_⟩
      · omega
      · refine ⟨?_, ?_, ?_, ?_⟩
        · exact q0.tr (MQi.o hT1 (Fr_mono h3a (by intro q hq; simp [hq])))
        · first | rfl | assumption | omega
        · omega
        · have ta := TL_add (Or.inl rfl) q3 (b := (v1 + 1 - spn (cW σ0) (σ0 501 0 0) v1) / 2) (h0 := spn (cW σ0) (σ0 501 0 0) v1) (by omega) (fun i z => by have := z.2; omega)
          rw [Int.one_mul] at ta
          rw [h3c, h3d]
          have mm := mir_at (w := cW σ0) (n := (σ0 501 0 0)) (m := v1) (h := spn (cW σ0) (σ0 501 0 0) v1) q1.1 (by omega) (by omega) sp1.2.1
          obtain ⟨t1, t2⟩ := ta
          constructor
          · rintro i h ⟨z1, z2⟩
            rcases (by omega : 2 * i + h - 1 < v1 ∨ 2 * i + h - 1 = v1) with y | y
            · exact t1 i h (Or.inl ⟨z1, y⟩)
            · have h1 := z1.2.1
              have k := t1 _ _ (Or.inr ⟨rfl, rfl⟩)
              rw [show i = (v1 + 1 - h) / 2 by omega] at z1
              have g := (mir_at q1.1 (by omega) h1 (by omega)).mp z1
              rcases (by omega : h = spn (cW σ0) (σ0 501 0 0) v1 ∨ h < spn (cW σ0) (σ0 501 0 0) v1) with rfl | y2
              · rw [show i = (v1 + 1 - spn (cW σ0) (σ0 501 0 0) v1) / 2 by omega]; exact k
              · omega
          · rcases t2 with t2 | ⟨h, t3, t4, t5⟩
            · exact Or.inl t2
            · refine Or.inr ⟨h, t3, t4, ?_⟩
              rcases t5 with t5 | ⟨t5, t6⟩
              · exact ⟨t5.1, by omega⟩
              · rw [t5, t6]
                exact ⟨mm.mpr (Int.le_refl _), by omega⟩
theorem e_Mi_longestOnes (σ : SS) (K : AV → SS → Prop) (hs : okS σ) (hG : S_Mi_longestOnes [vR 0 0] σ K) : VE_Mi_longestOnes σ K := by
  unfold VE_Mi_longestOnes
  obtain ⟨hT, hG⟩ := hG
  refine (fun σ1 h1a h1b h1c h1d => ?_)
  intro _
  refine ⟨_, _, rfl, rfl, ?_⟩
  refine ⟨?_, ?_, ?_, ?_⟩
  · exact MQi.o hT (Fr_mono h1a (by intro q hq; simp [hq]))
  · first | rfl | assumption | omega
  · omega
  · rw [h1c, h1d]; exact TL_congr TL_0 (fun i h => ⟨fun z => z.elim, fun z => by have := z.1.1; have := z.1.2.1; omega⟩)
theorem H_Mi_longestOnes {d : Nat} (hd : 4 ≤ d) : Holds d I_Mi_longestOnes S_Mi_longestOnes := by
  refine holds_of (d' := d - 1) (rt := 3) (cal := [(I_Ta_clear, S_Ta_clear), (I_Mi_middles, S_Mi_middles), (I_Mi_span, S_Mi_span), (I_Ta_add, S_Ta_add)]) (C := C_Mi_longestOnes) m_Mi_longestOnes o_Mi_longestOnes rfl rfl (by omega) ?_ ?_
  · intro x hx
    simp only [List.mem_cons, List.not_mem_nil, or_false] at hx
    rcases hx with rfl | rfl | rfl | rfl
    · exact H_Ta_clear (by omega)
    · exact H_Mi_middles (by omega)
    · exact H_Mi_span (by omega)
    · exact H_Ta_add (by omega)
  · intro as σ K has hσ hG
    have hG2 := hG
    unfold S_Mi_longestOnes at hG2
    split at hG2
    · skip
      refine ⟨Nat.le_of_ble_eq_true rfl, (Iv_Mi_longestOnes σ), ?_, 1000, ?_⟩
      · intro k n z L σ' hk hL hs hP
        unfold Iv_Mi_longestOnes at hk
        split at hk
        · cases hk
          obtain ⟨v1, rfl, hn, hQ⟩ := hP
          exact ⟨1000, l_Mi_longestOnes_5 σ K  hσ hG v1 σ' (hL _ (List.mem_of_getElem? (i := 1) rfl)) hs n hn hQ⟩
        · cases hk
      · exact e_Mi_longestOnes σ K  hσ hG
    · exact hG2.elim
theorem fewI_le {w F : Int → Int} {n j : Int} (h : fewI w n F) (h0 : 0 ≤ j) (h1 : j ≤ n) : 0 ≤ F j ∧ F j ≤ j := by
  have := fewI_in h j.toNat (by omega)
  rwa [show ((j.toNat : Nat) : Int) = j by omega] at this
/-- of those that begin behind i the least -/
def fewM (w F : Int → Int) (j i v : Int) : Prop := (∃ x, i < x ∧ x < j ∧ pal w x j ∧ v = F x + 1) ∧ ∀ x, i < x → x < j → pal w x j → v ≤ F x + 1
theorem fewI_ext {w F : Int → Int} {j : Int} (h : fewI w (j - 1) F) (hj : 1 ≤ j) (hm : fewM w F j (-1) (F j)) : fewI w j F := by
  refine ⟨h.1, fun k k1 k2 => ?_⟩
  rcases (by omega : k ≤ j - 1 ∨ k = j) with z | rfl
  · exact h.2 k k1 z
  · obtain ⟨⟨x, x1, x2, x3, x4⟩, h2⟩ := hm
    exact ⟨⟨x, by omega, x2, x3, x4⟩, fun i i0 i1 i2 => h2 i (by omega) i1 i2⟩
theorem fewM_congr {w F G : Int → Int} {j i v : Int} (h : fewM w F j i v) (hi : -1 ≤ i) (hg : ∀ k, 0 ≤ k → k < j → G k = F k) : fewM w G j i v := by
  obtain ⟨⟨x, x1, x2, x3, x4⟩, h2⟩ := h
  exact ⟨⟨x, x1, x2, x3, by rw [hg x (by omega) x2]; exact x4⟩, fun y y1 y2 y3 => by rw [hg y (by omega) y2]; exact h2 y y1 y2 y3⟩
def S_Mi_fewest : GS := fun as σ K => match as with
  | [some (.inr (.inr (0, 0)))] => TwC σ ∧ ∀ σ' F, MQi σ σ' → fewI (cW σ) (σ 501 0 0) F → K (vI (F (σ 501 0 0))) σ'
  | _ => False
abbrev Lp_Mi_fewest_2 (σ0 : SS) (n : Nat) (L : List AV) (σ : SS) : Prop := ∃ (v1 : Int), L = [vR 0 0, vI v1, none] ∧ n = (10000000 - v1).toNat ∧ ((MQi σ0 σ) ∧ (0 ≤ v1 ∧ v1 ≤ max 0 (2 * (σ0 501 0 0) - 1)) ∧ (∀ m, 0 ≤ m → m < v1 → σ 39 0 m = spn (cW σ0) (σ0 501 0 0) m))
abbrev Lp_Mi_fewest_27 (σ0 : SS) (n : Nat) (L : List AV) (σ : SS) : Prop := ∃ (v1 : Int), L = [vR 0 0, vI v1, none] ∧ n = (1000 * (1000 - v1)).toNat ∧ ((MQi σ0 σ) ∧ (1 ≤ v1) ∧ (v1 ≤ (σ0 501 0 0) + 1) ∧ (∀ m, 0 ≤ m → m < 2 * (σ0 501 0 0) - 1 → σ 39 0 m = spn (cW σ0) (σ0 501 0 0) m) ∧ (fewI (cW σ0) (v1 - 1) (σ 38 0)))
abbrev Lp_Mi_fewest_51 (σ0 : SS) (n : Nat) (L : List AV) (σ : SS) : Prop := ∃ (v1 : Int) (v2 : Int), L = [vR 0 0, vI v1, vI v2] ∧ n = (1000 * (1000 - v1) - 500 + v2).toNat ∧ ((MQi σ0 σ) ∧ (1 ≤ v1) ∧ (v1 ≤ (σ0 501 0 0)) ∧ (-1 ≤ v2 ∧ v2 ≤ v1 - 2) ∧ (∀ m, 0 ≤ m → m < 2 * (σ0 501 0 0) - 1 → σ 39 0 m = spn (cW σ0) (σ0 501 0 0) m) ∧ (fewI (cW σ0) (v1 - 1) (σ 38 0)) ∧ (fewM (cW σ0) (σ 38 0) v1 v2 (σ 38 0 v1)))
def Iv_Mi_fewest (σ0 : SS) (k : Nat) : Option (List Nat × (Nat → List AV → SS → Prop)) := match k with
  | 2 => some ([], Lp_Mi_fewest_2 σ0)
  | 27 => some ([2], Lp_Mi_fewest_27 σ0)
  | 51 => some ([], Lp_Mi_fewest_51 σ0)
  | _ => none
def VE_Mi_fewest (σ : SS) (K : AV → SS → Prop) : Prop :=
  (∃ n', Lp_Mi_fewest_2 σ n' [vR 0 0, vI 0, none] σ)
def VL_Mi_fewest_2 (σ0 : SS) (K : AV → SS → Prop) (v1 : Int) (σ : SS) (n : Nat) : Prop :=
  (S_Mi_middles [vR 0 0] σ (kI fun r1 σ1 =>
    ((r1 ≤ v1 →
      ((0 ≤ (0 : Int) ∧ (0 : Int) < 121) ∧ ∀ σ2 : SS, σ2 = u3 σ1 38 0 0 0 →
      (∃ n', n' < n ∧ Lp_Mi_fewest_27 σ0 n' [vR 0 0, vI 1, none] σ2))) ∧
    (v1 < r1 →
      (((240 : Int) ≤ v1 →
        ((0 ≤ (0 : Int) ∧ (0 : Int) < 121) ∧ ∀ σ3 : SS, σ3 = u3 σ1 38 0 0 0 →
        (∃ n', n' < n ∧ Lp_Mi_fewest_27 σ0 n' [vR 0 0, vI 1, none] σ3))) ∧
      (v1 < 240 →
        (S_Mi_span [vR 0 0, vI v1] σ1 (kI fun r4 σ4 =>
          ((0 ≤ (v1 : Int) ∧ (v1 : Int) < 240) ∧ ∀ σ5 : SS, σ5 = u3 σ4 39 0 v1 r4 →
          (InR (v1 + 1) ∧
          (∃ n', n' < n ∧ Lp_Mi_fewest_2 σ0 n' [vR 0 0, vI (v1 + 1), none] σ5)))))))))))
def VL_Mi_fewest_27 (σ0 : SS) (K : AV → SS → Prop) (v1 : Int) (σ : SS) (n : Nat) : Prop :=
  (S_Wo_size [vR 10 0] σ (kI fun r1 σ1 =>
    ((r1 < v1 →
      (S_Wo_size [vR 10 0] σ1 (kI fun r2 σ2 =>
        (((120 : Int) < r2 →
          (K (vI (-1)) σ2)) ∧
        (r2 ≤ 120 →
          (S_Wo_size [vR 10 0] σ2 (kI fun r3 σ3 =>
            ((0 ≤ (r3 : Int) ∧ (r3 : Int) < 121) ∧
            (K (vI (σ3 38 0 r3)) σ3))))))))) ∧
    (v1 ≤ r1 →
      (((120 : Int) < v1 →
        (S_Wo_size [vR 10 0] σ1 (kI fun r4 σ4 =>
          (((120 : Int) < r4 →
            (K (vI (-1)) σ4)) ∧
          (r4 ≤ 120 →
            (S_Wo_size [vR 10 0] σ4 (kI fun r5 σ5 =>
              ((0 ≤ (r5 : Int) ∧ (r5 : Int) < 121) ∧
              (K (vI (σ5 38 0 r5)) σ5))))))))) ∧
      (v1 ≤ 120 →
        (InR (v1 - 1) ∧
        ((0 ≤ (v1 - 1 : Int) ∧ (v1 - 1 : Int) < 121) ∧
        (InR ((σ1 38 0 (v1 - 1)) + 1) ∧
        ((0 ≤ (v1 : Int) ∧ (v1 : Int) < 121) ∧ ∀ σ6 : SS, σ6 = u3 σ1 38 0 v1 ((σ1 38 0 (v1 - 1)) + 1) →
        (InR (v1 - 2) ∧
        (∃ n', n' < n ∧ Lp_Mi_fewest_51 σ0 n' [vR 0 0, vI v1, vI (v1 - 2)] σ6))))))))))))
def VL_Mi_fewest_51 (σ0 : SS) (K : AV → SS → Prop) (v1 : Int) (v2 : Int) (σ : SS) (n : Nat) : Prop :=
  ((v2 < 0 →
    (InR (v1 + 1) ∧
    (∃ n', n' < n ∧ Lp_Mi_fewest_27 σ0 n' [vR 0 0, vI (v1 + 1), none] σ))) ∧
  ((0 : Int) ≤ v2 →
    (InR (v2 + v1) ∧
    (InR ((v2 + v1) - 1) ∧
    ((0 ≤ ((v2 + v1) - 1 : Int) ∧ ((v2 + v1) - 1 : Int) < 240) ∧
    (InR (v1 - v2) ∧
    (((σ 39 0 ((v2 + v1) - 1)) < (v1 - v2) →
      (InR (v2 + (-1)) ∧
      (∃ n', n' < n ∧ Lp_Mi_fewest_51 σ0 n' [vR 0 0, vI v1, vI (v2 + (-1))] σ))) ∧
    ((v1 - v2) ≤ (σ 39 0 ((v2 + v1) - 1)) →
      ((0 ≤ (v1 : Int) ∧ (v1 : Int) < 121) ∧
      ((0 ≤ (v2 : Int) ∧ (v2 : Int) < 121) ∧
      (InR ((σ 38 0 v2) + 1) ∧
      ((0 ≤ (v1 : Int) ∧ (v1 : Int) < 121) ∧ ∀ σ1 : SS, σ1 = u3 σ 38 0 v1 (min (σ 38 0 v1) ((σ 38 0 v2) + 1)) →
      (InR (v2 + (-1)) ∧
      (∃ n', n' < n ∧ Lp_Mi_fewest_51 σ0 n' [vR 0 0, vI v1, vI (v2 + (-1))] σ1))))))))))))))
theorem l_Mi_fewest_2 (σ0 : SS) (K : AV → SS → Prop) (hs0 : okS σ0) (hG : S_Mi_fewest [vR 0 0] σ0 K) (v1 : Int) (σ : SS) (hv1 : InR v1) (hs : okS σ) (n : Nat) (hn : n = (10000000 - v1).toNat) (hQ : (MQi σ0 σ) ∧ (0 ≤ v1 ∧ v1 ≤ max 0 (2 * (σ0 501 0 0) - 1)) ∧ (∀ m, 0 ≤ m → m < v1 → σ 39 0 m = spn (cW σ0) (σ0 501 0 0) m)) : VL_Mi_fewest_2 σ0 K v1 σ n := by
  unfold VL_Mi_fewest_2
  obtain ⟨hT, hG⟩ := hG
  have hb := hT.n
  obtain ⟨q0, q1, q2⟩ := hQ
  have hT1 := q0.2
  obtain ⟨w1, w2⟩ := q0.w
  refine ⟨(by first | assumption | omega | exact ⟨by first | assumption | omega, by omega⟩ | exact ⟨by assumption, by omega, by omega⟩ | exact ⟨by assumption, by omega, by omega, by omega⟩ | exact ⟨by assumption, by omega, by omega, by omega, by omega⟩ | exact ⟨by assumption, by omega, by omega, by omega, by omega, by omega⟩), ?_⟩
  intro _ _
  refine ⟨fun c1 => ?_, fun c1 => ?_⟩
  · skip
    refine ⟨(by omega), fun σ2 e2 => ?_⟩
    have fr : Fr [(38, 0)] σ σ2 := by rw [e2]; exact Fr_u3 (by simp)
    refine ⟨_, ?_, _, rfl, rfl, ?_⟩
    · omega
    · refine ⟨?_, ?_, ?_, ?_, ?_⟩
      · exact q0.tr (MQi.o hT1 (Fr_mono fr (by intro q hq; simp at hq; simp [hq])))
      · first | rfl | assumption | omega
      · first | rfl | assumption | omega
      · intro m m0 m1
        rw [fr _ _ (by simp)]
        exact q2 m m0 (by omega)
      · exact ⟨by rw [e2, u3_s], fun j j1 j2 => by omega⟩
  · skip
    refine ⟨fun c2 => ?_, fun c2 => ?_⟩
    · skip
      exact absurd c2 (by omega)
    · skip
      refine ⟨(by first | assumption | omega | exact ⟨by first | assumption | omega, by omega⟩ | exact ⟨by assumption, by omega, by omega⟩ | exact ⟨by assumption, by omega, by omega, by omega⟩ | exact ⟨by assumption, by omega, by omega, by omega, by omega⟩ | exact ⟨by assumption, by omega, by omega, by omega, by omega, by omega⟩), ?_⟩
      intro _ _
      rw [w1, w2]
      refine ⟨(by omega), fun σ3 e3 => ?_⟩
      have fr : Fr [(39, 0)] σ σ3 := by rw [e3]; exact Fr_u3 (by simp)
      refine ⟨(by omega), ?_⟩
      refine ⟨_, ?_, _, rfl, rfl, ?_⟩
      · omega
      · refine ⟨?_, ?_, ?_⟩
        · exact q0.tr (MQi.o hT1 (Fr_mono fr (by intro q hq; simp at hq; simp [hq])))
        · first | rfl | assumption | omega
        · intro m m0 m1
          rw [e3, u3_e]
          split
          · next z => rw [z]
          · exact q2 m m0 (by omega)
theorem l_Mi_fewest_27 (σ0 : SS) (K : AV → SS → Prop) (hs0 : okS σ0) (hG : S_Mi_fewest [vR 0 0] σ0 K) (v1 : Int) (σ : SS) (hv1 : InR v1) (hs : okS σ) (n : Nat) (hn : n = (1000 * (1000 - v1)).toNat) (hQ : (MQi σ0 σ) ∧ (1 ≤ v1) ∧ (v1 ≤ (σ0 501 0 0) + 1) ∧ (∀ m, 0 ≤ m → m < 2 * (σ0 501 0 0) - 1 → σ 39 0 m = spn (cW σ0) (σ0 501 0 0) m) ∧ (fewI (cW σ0) (v1 - 1) (σ 38 0))) : VL_Mi_fewest_27 σ0 K v1 σ n := by
  unfold VL_Mi_fewest_27
  obtain ⟨hT, hG⟩ := hG
  have hb := hT.n
  obtain ⟨q0, q1, q2, q3, q4⟩ := hQ
  have hT1 := q0.2
  obtain ⟨w1, w2⟩ := q0.w
  have fl := fewI_le q4 (j := v1 - 1) (by omega) (by omega)
  intro _ _
  refine ⟨fun c1 => ?_, fun c1 => ?_⟩
  · skip
    intro _ _
    refine ⟨fun c2 => ?_, fun c2 => ?_⟩
    · skip
      exact absurd c2 (by omega)
    · skip
      intro _ _
      refine ⟨(by omega), ?_⟩
      rw [w2]
      exact hG _ _ q0 (by rwa [show v1 - 1 = (σ0 501 0 0) by omega] at q4)
  · skip
    refine ⟨fun c2 => ?_, fun c2 => ?_⟩
    · skip
      intro _ _
      refine ⟨fun c3 => ?_, fun c3 => ?_⟩
      · skip
        exact absurd c2 (by omega)
      · skip
        intro _ _
        refine ⟨(by omega), ?_⟩
        exact absurd c2 (by omega)
    · skip
      refine ⟨(by omega), ?_⟩
      refine ⟨(by omega), ?_⟩
      refine ⟨(by omega), ?_⟩
      refine ⟨(by omega), fun σ3 e3 => ?_⟩
      have fr : Fr [(38, 0)] σ σ3 := by rw [e3]; exact Fr_u3 (by simp)
      refine ⟨(by omega), ?_⟩
      refine ⟨_, ?_, _, _, rfl, rfl, ?_⟩
      · omega
      · refine ⟨?_, ?_, ?_, ?_, ?_, ?_, ?_⟩
        · exact q0.tr (MQi.o hT1 (Fr_mono fr (by intro q hq; simp at hq; simp [hq])))
        · first | rfl | assumption | omega
        · first | rfl | assumption | omega
        · first | rfl | assumption | omega
        · rw [fr _ _ (by simp)]; exact q3
        · exact fewI_congr q4 (by omega) (fun j j0 j1 => by rw [e3, u3_k (by omega)])
        · rw [e3, u3_s]
          exact ⟨⟨v1 - 1, by omega, by omega, pal_1 (by omega), by rw [u3_k (by omega)]⟩, fun x x1 x2 _ => by rw [show x = v1 - 1 by omega, u3_k (by omega)]; omega⟩
theorem l_Mi_fewest_51 (σ0 : SS) (K : AV → SS → Prop) (hs0 : okS σ0) (hG : S_Mi_fewest [vR 0 0] σ0 K) (v1 : Int) (v2 : Int) (σ : SS) (hv1 : InR v1) (hv2 : InR v2) (hs : okS σ) (n : Nat) (hn : n = (1000 * (1000 - v1) - 500 + v2).toNat) (hQ : (MQi σ0 σ) ∧ (1 ≤ v1) ∧ (v1 ≤ (σ0 501 0 0)) ∧ (-1 ≤ v2 ∧ v2 ≤ v1 - 2) ∧ (∀ m, 0 ≤ m → m < 2 * (σ0 501 0 0) - 1 → σ 39 0 m = spn (cW σ0) (σ0 501 0 0) m) ∧ (fewI (cW σ0) (v1 - 1) (σ 38 0)) ∧ (fewM (cW σ0) (σ 38 0) v1 v2 (σ 38 0 v1))) : VL_Mi_fewest_51 σ0 K v1 v2 σ n := by
  unfold VL_Mi_fewest_51
  obtain ⟨hT, hG⟩ := hG
  have hb := hT.n
  obtain ⟨q0, q1, q2, q3, q4, q5, q6⟩ := hQ
  have hT1 := q0.2
  obtain ⟨w1, w2⟩ := q0.w
  have sp := fun z : 0 ≤ v2 => spn_pal (cW σ0) (n := (σ0 501 0 0)) (i := v2) (j := v1) z (by omega) (by omega)
  have se := fun z : 0 ≤ v2 => q4 (v2 + v1 - 1) (by omega) (by omega)
  have fl := fun z : 0 ≤ v2 => fewI_le q5 (j := v2) z (by omega)
  refine ⟨fun c1 => ?_, fun c1 => ?_⟩
  · skip
    refine ⟨(by omega), ?_⟩
    refine ⟨_, ?_, _, rfl, rfl, ?_⟩
    · omega
    · refine ⟨?_, ?_, ?_, ?_, ?_⟩
      · first | rfl | assumption | omega
      · first | rfl | assumption | omega
      · first | rfl | assumption | omega
      · first | rfl | assumption | omega
      · rw [show v1 + 1 - 1 = v1 by omega]
        exact fewI_ext q5 q1 (by rwa [show v2 = -1 by omega] at q6)
  · skip
    refine ⟨(by omega), ?_⟩
    refine ⟨(by omega), ?_⟩
    refine ⟨(by omega), ?_⟩
    refine ⟨(by omega), ?_⟩
    refine ⟨fun c2 => ?_, fun c2 => ?_⟩
    · skip
      rw [se (by omega)] at c2
      have hp : ¬ pal (cW σ0) v2 v1 := fun z => by have := (sp (by omega)).mpr z; omega
      refine ⟨(by omega), ?_⟩
      refine ⟨_, ?_, _, _, rfl, rfl, ?_⟩
      · omega
      · refine ⟨?_, ?_, ?_, ?_, ?_, ?_, ?_⟩
        · first | rfl | assumption | omega
        · first | rfl | assumption | omega
        · first | rfl | assumption | omega
        · first | rfl | assumption | omega
        · first | rfl | assumption | omega
        · first | rfl | assumption | omega
        · refine ⟨?_, fun x x1 x2 x3 => ?_⟩
          · obtain ⟨x, x1, x2⟩ := q6.1
            exact ⟨x, by omega, x2⟩
          · rcases (by omega : v2 < x ∨ x = v2) with z | rfl
            · exact q6.2 x z x2 x3
            · exact absurd x3 hp
    · skip
      rw [se (by omega)] at c2
      have hp := (sp (by omega)).mp c2
      refine ⟨(by omega), ?_⟩
      refine ⟨(by omega), ?_⟩
      refine ⟨(by omega), ?_⟩
      refine ⟨(by omega), fun σ3 e3 => ?_⟩
      have fr : Fr [(38, 0)] σ σ3 := by rw [e3]; exact Fr_u3 (by simp)
      refine ⟨(by omega), ?_⟩
      refine ⟨_, ?_, _, _, rfl, rfl, ?_⟩
      · omega
      · refine ⟨?_, ?_, ?_, ?_, ?_, ?_, ?_⟩
        · exact q0.tr (MQi.o hT1 (Fr_mono fr (by intro q hq; simp at hq; simp [hq])))
        · first | rfl | assumption | omega
        · first | rfl | assumption | omega
        · first | rfl | assumption | omega
        · rw [fr _ _ (by simp)]; exact q4
        · exact fewI_congr q5 (by omega) (fun j j0 j1 => by rw [e3, u3_k (by omega)])
        · rw [show σ3 38 0 v1 = min (σ 38 0 v1) (σ 38 0 v2 + 1) by rw [e3, u3_s]]
          refine fewM_congr (F := σ 38 0) ?_ (by omega) (fun k k0 k1 => by rw [e3, u3_k (by omega)])
          refine ⟨?_, fun x x1 x2 x3 => ?_⟩
          · rcases (by omega : min (σ 38 0 v1) (σ 38 0 v2 + 1) = σ 38 0 v1 ∨ min (σ 38 0 v1) (σ 38 0 v2 + 1) = σ 38 0 v2 + 1) with z | z
            · obtain ⟨x, x1, x2, x3, x4⟩ := q6.1
              exact ⟨x, by omega, x2, x3, by rw [z]; exact x4⟩
            · exact ⟨v2, by omega, by omega, hp, z⟩
          · rcases (by omega : v2 < x ∨ x = v2) with z | rfl
            · have := q6.2 x z x2 x3; omega
            · omega
theorem e_Mi_fewest (σ : SS) (K : AV → SS → Prop) (hs : okS σ) (hG : S_Mi_fewest [vR 0 0] σ K) : VE_Mi_fewest σ K := by
  unfold VE_Mi_fewest
  obtain ⟨hT, hG⟩ := hG
  refine ⟨_, _, rfl, rfl, ?_⟩
  refine ⟨?_, ?_, ?_⟩
  · exact MQi.rf hT
  · first | rfl | assumption | omega
  · exact fun m m0 m1 => by omega
theorem H_Mi_fewest {d : Nat} (hd : 4 ≤ d) : Holds d I_Mi_fewest S_Mi_fewest := by
  refine holds_of (d' := d - 1) (rt := 1) (cal := [(I_Mi_middles, S_Mi_middles), (I_Mi_span, S_Mi_span), (I_Wo_size, S_Wo_size)]) (C := C_Mi_fewest) m_Mi_fewest o_Mi_fewest rfl rfl (by omega) ?_ ?_
  · intro x hx
    simp only [List.mem_cons, List.not_mem_nil, or_false] at hx
    rcases hx with rfl | rfl | rfl
    · exact H_Mi_middles (by omega)
    · exact H_Mi_span (by omega)
    · exact H_Wo_size (by omega)
  · intro as σ K has hσ hG
    have hG2 := hG
    unfold S_Mi_fewest at hG2
    split at hG2
    · skip
      refine ⟨Nat.le_of_ble_eq_true rfl, (Iv_Mi_fewest σ), ?_, 1000, ?_⟩
      · intro k n z L σ' hk hL hs hP
        unfold Iv_Mi_fewest at hk
        split at hk
        · cases hk
          obtain ⟨v1, rfl, hn, hQ⟩ := hP
          exact ⟨1000, l_Mi_fewest_2 σ K  hσ hG v1 σ' (hL _ (List.mem_of_getElem? (i := 1) rfl)) hs n hn hQ⟩
        · cases hk
          obtain ⟨v1, rfl, hn, hQ⟩ := hP
          exact ⟨1000, l_Mi_fewest_27 σ K  hσ hG v1 σ' (hL _ (List.mem_of_getElem? (i := 1) rfl)) hs n hn hQ⟩
        · cases hk
          obtain ⟨v1, v2, rfl, hn, hQ⟩ := hP
          exact ⟨1000, l_Mi_fewest_51 σ K  hσ hG v1 v2 σ' (hL _ (List.mem_of_getElem? (i := 1) rfl)) (hL _ (List.mem_of_getElem? (i := 2) rfl)) hs n hn hQ⟩
        · cases hk
      · exact e_Mi_fewest σ K  hσ hG
    · exact hG2.elim
def S_Wr_mirror : GS := fun as σ K => match as with
  | [some (.inr (.inr (11, 0))), some (.inl a1), some (.inl a2)] => TwC σ ∧ ∀ r, RMirr (cW σ) (σ 501 0 0) a1 a2 r → K (vI r) σ
  | _ => False
def VE_Wr_mirror (a1 : Int) (a2 : Int) (σ : SS) (K : AV → SS → Prop) : Prop :=
  (S_Wr_isPlace [vR 11 0, vI a1] σ (kI fun r1 σ1 =>
    ((r1 = 0 →
      (K (vI (-1)) σ1)) ∧
    (r1 ≠ 0 →
      (S_Mi_longestAt [vR 0 0, vI a1, vI a2] σ1 (kI fun r2 σ2 =>
        (K (vI r2) σ2)))))))
theorem e_Wr_mirror (a1 : Int) (a2 : Int) (σ : SS) (K : AV → SS → Prop) (ha1 : InR a1) (ha2 : InR a2) (hs : okS σ) (hG : S_Wr_mirror [vR 11 0, vI a1, vI a2] σ K) : VE_Wr_mirror a1 a2 σ K := by
  unfold VE_Wr_mirror
  obtain ⟨hT, hG⟩ := hG
  have hb := hT.n
  refine bS_b0 (fun p1 _ => ?_) (fun p1 _ => ?_)
  · skip
    refine ⟨(by exact ⟨hT, by omega, by omega⟩), ?_⟩
    intro _ _
    exact hG _ (gd_y (by omega) rfl)
  · skip
    exact hG _ (gd_n (by omega))
theorem H_Wr_mirror {d : Nat} (hd : 5 ≤ d) : Holds d I_Wr_mirror S_Wr_mirror := by
  refine holds_of (d' := d - 1) (rt := 1) (cal := [(I_Wr_isPlace, S_Wr_isPlace), (I_Mi_longestAt, S_Mi_longestAt)]) (C := C_Wr_mirror) m_Wr_mirror o_Wr_mirror rfl rfl (by omega) ?_ ?_
  · intro x hx
    simp only [List.mem_cons, List.not_mem_nil, or_false] at hx
    rcases hx with rfl | rfl
    · exact H_Wr_isPlace (by omega)
    · exact H_Mi_longestAt (by omega)
  · intro as σ K has hσ hG
    have hG2 := hG
    unfold S_Wr_mirror at hG2
    split at hG2
    · next a1 a2 =>
      refine ⟨Nat.le_of_ble_eq_true rfl, (fun _ => none), ?_, 1000, ?_⟩
      · intro k n z L σ' hk hL hs hP
        cases hk
      · exact e_Wr_mirror a1 a2 σ K (has _ (List.mem_of_getElem? (i := 1) rfl)) (has _ (List.mem_of_getElem? (i := 2) rfl)) hσ hG
    · exact hG2.elim
def S_Wr_mirrors : GS := fun as σ K => match as with
  | [some (.inr (.inr (11, 0))), some (.inl a1)] => TwC σ ∧ ∀ σ' r, MQi σ σ' → RMirs (cW σ) (σ 501 0 0) a1 r → K (vI r) σ'
  | _ => False
def VE_Wr_mirrors (a1 : Int) (σ : SS) (K : AV → SS → Prop) : Prop :=
  (((a1 = 0 →
    (S_Mi_all [vR 0 0] σ (kI fun r1 σ1 =>
      (K (vI r1) σ1)))) ∧
  ((a1 = 1 →
    (S_Mi_unlikeOnes [vR 0 0] σ (kI fun r2 σ2 =>
      (K (vI r2) σ2)))) ∧
  ((a1 = 2 →
    (S_Mi_fewest [vR 0 0] σ (kI fun r3 σ3 =>
      (K (vI r3) σ3)))) ∧
  ((a1 = 3 →
    (S_Mi_longestOnes [vR 0 0] σ (kR 7 fun i4 σ4 =>
      (S_Ta_told [vR 7 i4, vI 1] σ4 (kI fun r5 σ5 =>
        (K (vI r5) σ5)))))) ∧
  ((a1 = 4 →
    (S_Mi_longestOnes [vR 0 0] σ (kR 7 fun i6 σ6 =>
      (S_Ta_told [vR 7 i6, vI 2] σ6 (kI fun r7 σ7 =>
        (K (vI r7) σ7)))))) ∧
  True))))) ∧
  (a1 < 0 ∨ 4 < a1 →
    (K (vI (-1)) σ)))
theorem e_Wr_mirrors (a1 : Int) (σ : SS) (K : AV → SS → Prop) (ha1 : InR a1) (hs : okS σ) (hG : S_Wr_mirrors [vR 11 0, vI a1] σ K) : VE_Wr_mirrors a1 σ K := by
  unfold VE_Wr_mirrors
  obtain ⟨hT, hG⟩ := hG
  refine ⟨⟨fun c1 => ?_, fun c1 => ?_, fun c1 => ?_, fun c1 => ?_, fun c1 => ?_, trivial⟩, fun c1 => ?_⟩
  · skip
    refine ⟨(by first | assumption | omega | exact ⟨by first | assumption | omega, by omega⟩ | exact ⟨by assumption, by omega, by omega⟩ | exact ⟨by assumption, by omega, by omega, by omega⟩ | exact ⟨by assumption, by omega, by omega, by omega, by omega⟩ | exact ⟨by assumption, by omega, by omega, by omega, by omega, by omega⟩), ?_⟩
    intro _ _
    exact hG _ _ (MQi.rf hT) (Or.inl ⟨by omega, rfl⟩)
  · skip
    refine ⟨(by first | assumption | omega | exact ⟨by first | assumption | omega, by omega⟩ | exact ⟨by assumption, by omega, by omega⟩ | exact ⟨by assumption, by omega, by omega, by omega⟩ | exact ⟨by assumption, by omega, by omega, by omega, by omega⟩ | exact ⟨by assumption, by omega, by omega, by omega, by omega, by omega⟩), (fun σ2 h2a => ?_)⟩
    intro _ _
    exact hG _ _ ⟨Fr_mono (by assumption : TQ σ _).1 (by intro q hq; simp [MiL, hq]), (by assumption : TQ σ _).2⟩ (Or.inr (Or.inl ⟨by omega, rfl⟩))
  · skip
    refine ⟨(by first | assumption | omega | exact ⟨by first | assumption | omega, by omega⟩ | exact ⟨by assumption, by omega, by omega⟩ | exact ⟨by assumption, by omega, by omega, by omega⟩ | exact ⟨by assumption, by omega, by omega, by omega, by omega⟩ | exact ⟨by assumption, by omega, by omega, by omega, by omega, by omega⟩), (fun σ2 x2 h2a h2b => ?_)⟩
    intro _ _
    exact hG _ _ (by assumption) (Or.inr (Or.inr (Or.inl ⟨by omega, _, by assumption, rfl⟩)))
  · skip
    refine ⟨(by first | assumption | omega | exact ⟨by first | assumption | omega, by omega⟩ | exact ⟨by assumption, by omega, by omega⟩ | exact ⟨by assumption, by omega, by omega, by omega⟩ | exact ⟨by assumption, by omega, by omega, by omega, by omega⟩ | exact ⟨by assumption, by omega, by omega, by omega, by omega, by omega⟩), (fun σ2 h2a h2b => ?_)⟩
    refine ⟨rfl, ?_⟩
    intro _ _
    intro _ _
    exact hG _ _ (by assumption) (Or.inr (Or.inr (Or.inr (Or.inl ⟨by omega, by omega, _, _, by assumption, by rw [if_pos (by omega)]; rfl⟩))))
  · skip
    refine ⟨(by first | assumption | omega | exact ⟨by first | assumption | omega, by omega⟩ | exact ⟨by assumption, by omega, by omega⟩ | exact ⟨by assumption, by omega, by omega, by omega⟩ | exact ⟨by assumption, by omega, by omega, by omega, by omega⟩ | exact ⟨by assumption, by omega, by omega, by omega, by omega, by omega⟩), (fun σ2 h2a h2b => ?_)⟩
    refine ⟨rfl, ?_⟩
    intro _ _
    intro _ _
    exact hG _ _ (by assumption) (Or.inr (Or.inr (Or.inr (Or.inl ⟨by omega, by omega, _, _, by assumption, by rw [if_neg (by omega)]; rfl⟩))))
  · skip
    exact hG _ _ (MQi.rf hT) (Or.inr (Or.inr (Or.inr (Or.inr ⟨by omega, rfl⟩))))
theorem H_Wr_mirrors {d : Nat} (hd : 5 ≤ d) : Holds d I_Wr_mirrors S_Wr_mirrors := by
  refine holds_of (d' := d - 1) (rt := 1) (cal := [(I_Mi_all, S_Mi_all), (I_Mi_unlikeOnes, S_Mi_unlikeOnes), (I_Mi_fewest, S_Mi_fewest), (I_Mi_longestOnes, S_Mi_longestOnes), (I_Ta_told, S_Ta_told)]) (C := C_Wr_mirrors) m_Wr_mirrors o_Wr_mirrors rfl rfl (by omega) ?_ ?_
  · intro x hx
    simp only [List.mem_cons, List.not_mem_nil, or_false] at hx
    rcases hx with rfl | rfl | rfl | rfl | rfl
    · exact H_Mi_all (by omega)
    · exact H_Mi_unlikeOnes (by omega)
    · exact H_Mi_fewest (by omega)
    · exact H_Mi_longestOnes (by omega)
    · exact H_Ta_told (by omega)
  · intro as σ K has hσ hG
    have hG2 := hG
    unfold S_Wr_mirrors at hG2
    split at hG2
    · next a1 =>
      refine ⟨Nat.le_of_ble_eq_true rfl, (fun _ => none), ?_, 1000, ?_⟩
      · intro k n z L σ' hk hL hs hP
        cases hk
      · exact e_Wr_mirrors a1 σ K (has _ (List.mem_of_getElem? (i := 1) rfl)) hσ hG
    · exact hG2.elim
