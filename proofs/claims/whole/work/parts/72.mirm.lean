/-! the reference: palindromes -/
def S_Mo_mirrored : GS := fun as σ K => match as with
  | [some (.inr (.inr (12, 0))), some (.inl a1), some (.inl a2)] => (MoW σ ∧ -1 ≤ a1 ∧ a2 < (σ 40 0 0) ∧ 0 ≤ a1 + a2 + 1 ∧ a1 = (a1 + a2) / 2 ∧ a2 = (a1 + a2 + 1) / 2) ∧ K (vI (spn (mW σ) (σ 40 0 0) (a1 + a2))) σ
  | _ => False
abbrev Lp_Mo_mirrored_4 (a1 : Int) (a2 : Int) (σ0 : SS) (n : Nat) (L : List AV) (σ : SS) : Prop := ∃ (v3 : Int) (v4 : Int), L = [vR 12 0, vI a1, vI a2, vI v3, vI v4] ∧ n = (v3 + 1).toNat ∧ ((σ = σ0) ∧ (-1 ≤ v3 ∧ v3 ≤ a1 ∧ v3 + v4 = a1 + a2 ∧ v4 ≤ (σ0 40 0 0)) ∧ (∀ t, 0 ≤ t → t < a1 - v3 → mW σ0 (a1 - t) = mW σ0 (a2 + t)))
def Iv_Mo_mirrored (a1 : Int) (a2 : Int) (σ0 : SS) (k : Nat) : Option (List Nat × (Nat → List AV → SS → Prop)) := match k with
  | 4 => some ([], Lp_Mo_mirrored_4 a1 a2 σ0)
  | _ => none
def VE_Mo_mirrored (a1 : Int) (a2 : Int) (σ : SS) (K : AV → SS → Prop) : Prop :=
  (∃ n', Lp_Mo_mirrored_4 a1 a2 σ n' [vR 12 0, vI a1, vI a2, vI a1, vI a2] σ)
def VL_Mo_mirrored_4 (a1 : Int) (a2 : Int) (σ0 : SS) (K : AV → SS → Prop) (v3 : Int) (v4 : Int) (σ : SS) (n : Nat) : Prop :=
  ((v3 < 0 →
    (InR (v4 - v3) ∧
    (InR ((v4 - v3) - 1) ∧
    (K (vI ((v4 - v3) - 1)) σ)))) ∧
  ((0 : Int) ≤ v3 →
    (S_Mo_size [vR 12 0] σ (kI fun r1 σ1 =>
      ((r1 ≤ v4 →
        (InR (v4 - v3) ∧
        (InR ((v4 - v3) - 1) ∧
        (K (vI ((v4 - v3) - 1)) σ1)))) ∧
      (v4 < r1 →
        (S_Mo_at [vR 12 0, vI v3] σ1 (kI fun r2 σ2 =>
          (S_Mo_at [vR 12 0, vI v4] σ2 (kI fun r3 σ3 =>
            ((r2 ≠ r3 →
              (InR (v4 - v3) ∧
              (InR ((v4 - v3) - 1) ∧
              (K (vI ((v4 - v3) - 1)) σ3)))) ∧
            (r2 = r3 →
              (InR (v3 + (-1)) ∧
              (InR (v4 + 1) ∧
              (∃ n', n' < n ∧ Lp_Mo_mirrored_4 a1 a2 σ0 n' [vR 12 0, vI a1, vI a2, vI (v3 + (-1)), vI (v4 + 1)] σ3)))))))))))))))
theorem l_Mo_mirrored_4 (a1 : Int) (a2 : Int) (σ0 : SS) (K : AV → SS → Prop) (ha1 : InR a1) (ha2 : InR a2) (hs0 : okS σ0) (hG : S_Mo_mirrored [vR 12 0, vI a1, vI a2] σ0 K) (v3 : Int) (v4 : Int) (σ : SS) (hv3 : InR v3) (hv4 : InR v4) (hs : okS σ) (n : Nat) (hn : n = (v3 + 1).toNat) (hQ : (σ = σ0) ∧ (-1 ≤ v3 ∧ v3 ≤ a1 ∧ v3 + v4 = a1 + a2 ∧ v4 ≤ (σ0 40 0 0)) ∧ (∀ t, 0 ≤ t → t < a1 - v3 → mW σ0 (a1 - t) = mW σ0 (a2 + t))) : VL_Mo_mirrored_4 a1 a2 σ0 K v3 v4 σ n := by
  unfold VL_Mo_mirrored_4
  obtain ⟨⟨hM, h1, h2, h3, h4, h5⟩, hG⟩ := hG
  have hb := hM.n
  obtain ⟨rfl, q1, q2⟩ := hQ
  have fin : (v3 < 0 ∨ (σ 40 0 0) ≤ v4 ∨ mW σ v3 ≠ mW σ v4) → K (vI (v4 - v3 - 1)) σ := fun z => by
    rcases (by omega : a1 + a2 = -1 ∨ 0 ≤ a1 + a2) with y | y
    · rw [show spn (mW σ) (σ 40 0 0) (a1 + a2) = 0 from if_neg (by omega)] at hG
      rwa [show v4 - v3 - 1 = 0 by omega]
    · obtain ⟨r1, r2, r3, r4⟩ := radF_spec (mW σ) (min (a1 + 1) ((σ 40 0 0) - a2)).toNat a1 a2
      have er : radF (mW σ) (min (a1 + 1) ((σ 40 0 0) - a2)).toNat a1 a2 = rad (mW σ) (σ 40 0 0) a1 a2 := rfl
      rw [er] at r1 r2 r3 r4
      have hle : a1 - v3 ≤ rad (mW σ) (σ 40 0 0) a1 a2 := Classical.byContradiction (fun k => r4 (by omega) (q2 _ r1 (by omega)))
      have heq : a1 - v3 = rad (mW σ) (σ 40 0 0) a1 a2 := by
        refine Classical.byContradiction (fun k => ?_)
        have k2 := r3 (a1 - v3) (by omega) (by omega)
        rw [show a1 - (a1 - v3) = v3 by omega, show a2 + (a1 - v3) = v4 by omega] at k2
        omega
      have es : spn (mW σ) (σ 40 0 0) (a1 + a2) = a2 - a1 - 1 + 2 * rad (mW σ) (σ 40 0 0) a1 a2 := by
        unfold spn
        rw [if_pos (by omega), ← h4, ← h5]
      rw [es] at hG
      rwa [show v4 - v3 - 1 = a2 - a1 - 1 + 2 * rad (mW σ) (σ 40 0 0) a1 a2 by omega]
  refine ⟨fun c1 => ?_, fun c1 => ?_⟩
  · skip
    refine ⟨(by omega), ?_⟩
    refine ⟨(by omega), ?_⟩
    exact fin (by omega)
  · skip
    intro _ _
    refine ⟨fun c2 => ?_, fun c2 => ?_⟩
    · skip
      refine ⟨(by omega), ?_⟩
      refine ⟨(by omega), ?_⟩
      exact fin (by omega)
    · skip
      refine ⟨(by first | assumption | omega | exact ⟨by first | assumption | omega, by omega⟩ | exact ⟨by assumption, by omega, by omega⟩ | exact ⟨by assumption, by omega, by omega, by omega⟩ | exact ⟨by assumption, by omega, by omega, by omega, by omega⟩ | exact ⟨by assumption, by omega, by omega, by omega, by omega, by omega⟩), ?_⟩
      intro _ _
      refine ⟨(by first | assumption | omega | exact ⟨by first | assumption | omega, by omega⟩ | exact ⟨by assumption, by omega, by omega⟩ | exact ⟨by assumption, by omega, by omega, by omega⟩ | exact ⟨by assumption, by omega, by omega, by omega, by omega⟩ | exact ⟨by assumption, by omega, by omega, by omega, by omega, by omega⟩), ?_⟩
      intro _ _
      refine ⟨fun c3 => ?_, fun c3 => ?_⟩
      · skip
        refine ⟨(by omega), ?_⟩
        refine ⟨(by omega), ?_⟩
        exact fin (by omega)
      · skip
        refine ⟨(by omega), ?_⟩
        refine ⟨(by omega), ?_⟩
        refine ⟨_, ?_, _, _, rfl, rfl, ?_⟩
        · omega
        · refine ⟨?_, ?_, ?_⟩
          · first | rfl | assumption | omega
          · first | rfl | assumption | omega
          · intro t t0 t1
            rcases (by omega : t < a1 - v3 ∨ t = a1 - v3) with z | rfl
            · exact q2 t t0 z
            · rwa [show a1 - (a1 - v3) = v3 by omega, show a2 + (a1 - v3) = v4 by omega]
theorem e_Mo_mirrored (a1 : Int) (a2 : Int) (σ : SS) (K : AV → SS → Prop) (ha1 : InR a1) (ha2 : InR a2) (hs : okS σ) (hG : S_Mo_mirrored [vR 12 0, vI a1, vI a2] σ K) : VE_Mo_mirrored a1 a2 σ K := by
  unfold VE_Mo_mirrored
  obtain ⟨⟨hM, h1, h2, h3, h4, h5⟩, hG⟩ := hG
  have hb := hM.n
  refine ⟨_, _, _, rfl, rfl, ?_⟩
  refine ⟨?_, ?_, ?_⟩
  · first | rfl | assumption | omega
  · first | rfl | assumption | omega
  · exact fun t t0 t1 => by omega
theorem H_Mo_mirrored {d : Nat} (hd : 2 ≤ d) : Holds d I_Mo_mirrored S_Mo_mirrored := by
  refine holds_of (d' := d - 1) (rt := 1) (cal := [(I_Mo_size, S_Mo_size), (I_Mo_at, S_Mo_at)]) (C := C_Mo_mirrored) m_Mo_mirrored o_Mo_mirrored rfl rfl (by omega) ?_ ?_
  · intro x hx
    simp only [List.mem_cons, List.not_mem_nil, or_false] at hx
    rcases hx with rfl | rfl
    · exact H_Mo_size (by omega)
    · exact H_Mo_at (by omega)
  · intro as σ K has hσ hG
    have hG2 := hG
    unfold S_Mo_mirrored at hG2
    split at hG2
    · next a1 a2 =>
      refine ⟨Nat.le_of_ble_eq_true rfl, (Iv_Mo_mirrored a1 a2 σ), ?_, 1000, ?_⟩
      · intro k n z L σ' hk hL hs hP
        unfold Iv_Mo_mirrored at hk
        split at hk
        · cases hk
          obtain ⟨v3, v4, rfl, hn, hQ⟩ := hP
          exact ⟨1000, l_Mo_mirrored_4 a1 a2 σ K (has _ (List.mem_of_getElem? (i := 1) rfl)) (has _ (List.mem_of_getElem? (i := 2) rfl)) hσ hG v3 v4 σ' (hL _ (List.mem_of_getElem? (i := 3) rfl)) (hL _ (List.mem_of_getElem? (i := 4) rfl)) hs n hn hQ⟩
        · cases hk
      · exact e_Mo_mirrored a1 a2 σ K (has _ (List.mem_of_getElem? (i := 1) rfl)) (has _ (List.mem_of_getElem? (i := 2) rfl)) hσ hG
    · exact hG2.elim
def S_Mo_mirror : GS := fun as σ K => match as with
  | [some (.inr (.inr (12, 0))), some (.inl a1), some (.inl a2)] => MoW σ ∧ ∀ r, RMirr (mW σ) (σ 40 0 0) a1 a2 r → K (vI r) σ
  | _ => False
def VE_Mo_mirror (a1 : Int) (a2 : Int) (σ : SS) (K : AV → SS → Prop) : Prop :=
  (S_Mo_isPlace [vR 12 0, vI a1] σ (kI fun r1 σ1 =>
    ((r1 ≠ 0 →
      ((a2 = 0 →
        (S_Mo_mirrored [vR 12 0, vI a1, vI a1] σ1 (kI fun r2 σ2 =>
          (K (vI r2) σ2)))) ∧
      (a2 ≠ 0 →
        (InR (a1 - 1) ∧
        (S_Mo_mirrored [vR 12 0, vI (a1 - 1), vI a1] σ1 (kI fun r3 σ3 =>
          (K (vI r3) σ3))))))) ∧
    (r1 = 0 →
      (K (vI (-1)) σ1)))))
theorem e_Mo_mirror (a1 : Int) (a2 : Int) (σ : SS) (K : AV → SS → Prop) (ha1 : InR a1) (ha2 : InR a2) (hs : okS σ) (hG : S_Mo_mirror [vR 12 0, vI a1, vI a2] σ K) : VE_Mo_mirror a1 a2 σ K := by
  unfold VE_Mo_mirror
  obtain ⟨hM, hG⟩ := hG
  have hb := hM.n
  refine ⟨(by first | assumption | omega | exact ⟨by first | assumption | omega, by omega⟩ | exact ⟨by assumption, by omega, by omega⟩ | exact ⟨by assumption, by omega, by omega, by omega⟩ | exact ⟨by assumption, by omega, by omega, by omega, by omega⟩ | exact ⟨by assumption, by omega, by omega, by omega, by omega, by omega⟩), ?_⟩
  refine bS_b1 (fun p1 _ => ?_) (fun p1 _ => ?_)
  · skip
    refine ⟨fun c2 => ?_, fun c2 => ?_⟩
    · skip
      refine ⟨(by exact ⟨hM, by omega, by omega, by omega, by omega, by omega⟩), ?_⟩
      intro _ _
      exact hG _ (gd_y (by omega) (by rw [if_pos (by assumption)]; congr 1; omega))
    · skip
      refine ⟨(by omega), ?_⟩
      refine ⟨(by exact ⟨hM, by omega, by omega, by omega, by omega, by omega⟩), ?_⟩
      intro _ _
      exact hG _ (gd_y (by omega) (by rw [if_neg (by assumption)]; congr 1; omega))
  · skip
    exact hG _ (gd_n (by omega))
theorem H_Mo_mirror {d : Nat} (hd : 3 ≤ d) : Holds d I_Mo_mirror S_Mo_mirror := by
  refine holds_of (d' := d - 1) (rt := 1) (cal := [(I_Mo_isPlace, S_Mo_isPlace), (I_Mo_mirrored, S_Mo_mirrored)]) (C := C_Mo_mirror) m_Mo_mirror o_Mo_mirror rfl rfl (by omega) ?_ ?_
  · intro x hx
    simp only [List.mem_cons, List.not_mem_nil, or_false] at hx
    rcases hx with rfl | rfl
    · exact H_Mo_isPlace (by omega)
    · exact H_Mo_mirrored (by omega)
  · intro as σ K has hσ hG
    have hG2 := hG
    unfold S_Mo_mirror at hG2
    split at hG2
    · next a1 a2 =>
      refine ⟨Nat.le_of_ble_eq_true rfl, (fun _ => none), ?_, 1000, ?_⟩
      · intro k n z L σ' hk hL hs hP
        cases hk
      · exact e_Mo_mirror a1 a2 σ K (has _ (List.mem_of_getElem? (i := 1) rfl)) (has _ (List.mem_of_getElem? (i := 2) rfl)) hσ hG
    · exact hG2.elim
def S_Mo_isMirror : GS := fun as σ K => match as with
  | [some (.inr (.inr (12, 0))), some (.inl a1), some (.inl a2)] => (MoW σ ∧ 0 ≤ a1 ∧ a1 < a2 ∧ a2 ≤ (σ 40 0 0)) ∧ bS (pal (mW σ) a1 a2) K σ
  | _ => False
abbrev Lp_Mo_isMirror_2 (a1 : Int) (a2 : Int) (σ0 : SS) (n : Nat) (L : List AV) (σ : SS) : Prop := ∃ (v3 : Int), L = [vR 12 0, vI a1, vI a2, vI v3] ∧ n = (1000 - v3).toNat ∧ ((σ = σ0) ∧ (0 ≤ v3 ∧ v3 ≤ 120) ∧ (∀ k, 0 ≤ k → k < v3 → mW σ0 (a1 + k) = mW σ0 (a2 - 1 - k)))
def Iv_Mo_isMirror (a1 : Int) (a2 : Int) (σ0 : SS) (k : Nat) : Option (List Nat × (Nat → List AV → SS → Prop)) := match k with
  | 2 => some ([], Lp_Mo_isMirror_2 a1 a2 σ0)
  | _ => none
def VE_Mo_isMirror (a1 : Int) (a2 : Int) (σ : SS) (K : AV → SS → Prop) : Prop :=
  (∃ n', Lp_Mo_isMirror_2 a1 a2 σ n' [vR 12 0, vI a1, vI a2, vI 0] σ)
def VL_Mo_isMirror_2 (a1 : Int) (a2 : Int) (σ0 : SS) (K : AV → SS → Prop) (v3 : Int) (σ : SS) (n : Nat) : Prop :=
  (InR (a2 - a1) ∧
  (((2 : Int) ≠ 0 ∧ InR (Int.tdiv (a2 - a1) 2)) ∧
  (((Int.tdiv (a2 - a1) 2) ≤ v3 →
    ((0 ≤ (1 : Int) ∧ (1 : Int) ≤ 1) ∧ K (vI 1) σ)) ∧
  (v3 < (Int.tdiv (a2 - a1) 2) →
    (InR (a1 + v3) ∧
    (S_Mo_at [vR 12 0, vI (a1 + v3)] σ (kI fun r1 σ1 =>
      (InR (a2 - 1) ∧
      (InR ((a2 - 1) - v3) ∧
      (S_Mo_at [vR 12 0, vI ((a2 - 1) - v3)] σ1 (kI fun r2 σ2 =>
        ((r1 = r2 →
          (InR (v3 + 1) ∧
          (∃ n', n' < n ∧ Lp_Mo_isMirror_2 a1 a2 σ0 n' [vR 12 0, vI a1, vI a2, vI (v3 + 1)] σ2))) ∧
        (r1 ≠ r2 →
          ((0 ≤ (0 : Int) ∧ (0 : Int) ≤ 1) ∧ K (vI 0) σ2))))))))))))))
theorem l_Mo_isMirror_2 (a1 : Int) (a2 : Int) (σ0 : SS) (K : AV → SS → Prop) (ha1 : InR a1) (ha2 : InR a2) (hs0 : okS σ0) (hG : S_Mo_isMirror [vR 12 0, vI a1, vI a2] σ0 K) (v3 : Int) (σ : SS) (hv3 : InR v3) (hs : okS σ) (n : Nat) (hn : n = (1000 - v3).toNat) (hQ : (σ = σ0) ∧ (0 ≤ v3 ∧ v3 ≤ 120) ∧ (∀ k, 0 ≤ k → k < v3 → mW σ0 (a1 + k) = mW σ0 (a2 - 1 - k))) : VL_Mo_isMirror_2 a1 a2 σ0 K v3 σ n := by
  unfold VL_Mo_isMirror_2
  obtain ⟨⟨hM, h1, h2, h3⟩, hG⟩ := hG
  have hb := hM.n
  obtain ⟨rfl, q1, q2⟩ := hQ
  have td : Int.tdiv (a2 - a1) 2 = (a2 - a1) / 2 := Int.tdiv_eq_ediv_of_nonneg (by omega)
  refine ⟨(by omega), ?_⟩
  refine ⟨(by rw [td]; omega), ?_⟩
  refine ⟨fun c1 => ?_, fun c1 => ?_⟩
  · skip
    exact bS_y hG (fun k k0 k1 => by
      rw [td] at c1
      rcases (by omega : k < v3 ∨ a1 + k = a2 - 1 - k) with z | z
      · exact q2 k k0 z
      · rw [z])
  · skip
    refine ⟨(by omega), ?_⟩
    refine ⟨(by rw [td] at c1; omega), ?_⟩
    intro _ _
    refine ⟨(by omega), ?_⟩
    refine ⟨(by omega), ?_⟩
    rw [td] at c1
    refine ⟨(by first | assumption | omega | exact ⟨by first | assumption | omega, by omega⟩ | exact ⟨by assumption, by omega, by omega⟩ | exact ⟨by assumption, by omega, by omega, by omega⟩ | exact ⟨by assumption, by omega, by omega, by omega, by omega⟩ | exact ⟨by assumption, by omega, by omega, by omega, by omega, by omega⟩), ?_⟩
    intro _ _
    refine ⟨fun c2 => ?_, fun c2 => ?_⟩
    · skip
      refine ⟨(by omega), ?_⟩
      refine ⟨_, ?_, _, rfl, rfl, ?_⟩
      · omega
      · refine ⟨?_, ?_, ?_⟩
        · first | rfl | assumption | omega
        · first | rfl | assumption | omega
        · intro k k0 k1
          rcases (by omega : k < v3 ∨ k = v3) with z | rfl
          · exact q2 k k0 z
          · assumption
    · skip
      exact bS_n hG (fun z => c2 (z v3 q1.1 (by omega)))
theorem e_Mo_isMirror (a1 : Int) (a2 : Int) (σ : SS) (K : AV → SS → Prop) (ha1 : InR a1) (ha2 : InR a2) (hs : okS σ) (hG : S_Mo_isMirror [vR 12 0, vI a1, vI a2] σ K) : VE_Mo_isMirror a1 a2 σ K := by
  unfold VE_Mo_isMirror
  obtain ⟨⟨hM, h1, h2, h3⟩, hG⟩ := hG
  have hb := hM.n
  refine ⟨_, _, rfl, rfl, ?_⟩
  refine ⟨?_, ?_, ?_⟩
  · first | rfl | assumption | omega
  · first | rfl | assumption | omega
  · exact fun t t0 t1 => by omega
theorem H_Mo_isMirror {d : Nat} (hd : 2 ≤ d) : Holds d I_Mo_isMirror S_Mo_isMirror := by
  refine holds_of (d' := d - 1) (rt := 2) (cal := [(I_Mo_at, S_Mo_at)]) (C := C_Mo_isMirror) m_Mo_isMirror o_Mo_isMirror rfl rfl (by omega) ?_ ?_
  · intro x hx
    simp only [List.mem_cons, List.not_mem_nil, or_false] at hx
    subst hx
    exact H_Mo_at (by omega)
  · intro as σ K has hσ hG
    have hG2 := hG
    unfold S_Mo_isMirror at hG2
    split at hG2
    · next a1 a2 =>
      refine ⟨Nat.le_of_ble_eq_true rfl, (Iv_Mo_isMirror a1 a2 σ), ?_, 1000, ?_⟩
      · intro k n z L σ' hk hL hs hP
        unfold Iv_Mo_isMirror at hk
        split at hk
        · cases hk
          obtain ⟨v3, rfl, hn, hQ⟩ := hP
          exact ⟨1000, l_Mo_isMirror_2 a1 a2 σ K (has _ (List.mem_of_getElem? (i := 1) rfl)) (has _ (List.mem_of_getElem? (i := 2) rfl)) hσ hG v3 σ' (hL _ (List.mem_of_getElem? (i := 3) rfl)) hs n hn hQ⟩
        · cases hk
      · exact e_Mo_isMirror a1 a2 σ K (has _ (List.mem_of_getElem? (i := 1) rfl)) (has _ (List.mem_of_getElem? (i := 2) rfl)) hσ hG
    · exact hG2.elim
noncomputable def mirA (w : Int → Int) (n a i h : Int) : Prop := mirP w n i h ∧ (a ≠ 0 → ¬ isE w i h)
def S_Mo_mirrorsMany : GS := fun as σ K => match as with
  | [some (.inr (.inr (12, 0))), some (.inl a1)] => (MoW σ ∧ 0 ≤ a1 ∧ a1 ≤ 1) ∧ K (vI (dsum (mirA (mW σ) (σ 40 0 0) a1) (σ 40 0 0))) σ
  | _ => False
abbrev Lp_Mo_mirrorsMany_4 (a1 : Int) (σ0 : SS) (n : Nat) (L : List AV) (σ : SS) : Prop := ∃ (v2 : Int) (v3 : Int), L = [vR 12 0, vI a1, vI v2, vI v3, none] ∧ n = (1000 * (1000 - v3)).toNat ∧ ((σ = σ0) ∧ (0 ≤ v3 ∧ v3 ≤ (σ0 40 0 0)) ∧ (v2 = sumZ (rowS (mirA (mW σ0) (σ0 40 0 0) a1) (σ0 40 0 0)) 0 v3))
abbrev Lp_Mo_mirrorsMany_12 (a1 : Int) (σ0 : SS) (n : Nat) (L : List AV) (σ : SS) : Prop := ∃ (v2 : Int) (v3 : Int) (v4 : Int), L = [vR 12 0, vI a1, vI v2, vI v3, vI v4] ∧ n = (1000 * (1000 - v3) - v4).toNat ∧ ((σ = σ0) ∧ (0 ≤ v3 ∧ v3 < (σ0 40 0 0)) ∧ (v3 < v4 ∧ v4 ≤ (σ0 40 0 0) + 1) ∧ (v2 = sumZ (rowS (mirA (mW σ0) (σ0 40 0 0) a1) (σ0 40 0 0)) 0 v3 + sumZ (fun h => bi (mirA (mW σ0) (σ0 40 0 0) a1 v3 h)) 1 (v4 - v3)))
def Iv_Mo_mirrorsMany (a1 : Int) (σ0 : SS) (k : Nat) : Option (List Nat × (Nat → List AV → SS → Prop)) := match k with
  | 4 => some ([4], Lp_Mo_mirrorsMany_4 a1 σ0)
  | 12 => some ([], Lp_Mo_mirrorsMany_12 a1 σ0)
  | _ => none
def VE_Mo_mirrorsMany (a1 : Int) (σ : SS) (K : AV → SS → Prop) : Prop :=
  (∃ n', Lp_Mo_mirrorsMany_4 a1 σ n' [vR 12 0, vI a1, vI 0, vI 0, none] σ)
def VL_Mo_mirrorsMany_4 (a1 : Int) (σ0 : SS) (K : AV → SS → Prop) (v2 : Int) (v3 : Int) (σ : SS) (n : Nat) : Prop :=
  (S_Mo_size [vR 12 0] σ (kI fun r1 σ1 =>
    ((r1 ≤ v3 →
      (K (vI v2) σ1)) ∧
    (v3 < r1 →
      (InR (v3 + 1) ∧
      (∃ n', n' < n ∧ Lp_Mo_mirrorsMany_12 a1 σ0 n' [vR 12 0, vI a1, vI v2, vI v3, vI (v3 + 1)] σ1))))))
def VL_Mo_mirrorsMany_12 (a1 : Int) (σ0 : SS) (K : AV → SS → Prop) (v2 : Int) (v3 : Int) (v4 : Int) (σ : SS) (n : Nat) : Prop :=
  (S_Mo_size [vR 12 0] σ (kI fun r1 σ1 =>
    ((r1 < v4 →
      (InR (v3 + 1) ∧
      (∃ n', n' < n ∧ Lp_Mo_mirrorsMany_4 a1 σ0 n' [vR 12 0, vI a1, vI v2, vI (v3 + 1), none] σ1))) ∧
    (v4 ≤ r1 →
      (S_Mo_isMirror [vR 12 0, vI v3, vI v4] σ1 (kI fun r2 σ2 =>
        ((r2 = 0 →
          (InR (v2 + 0) ∧
          (InR (v4 + 1) ∧
          (∃ n', n' < n ∧ Lp_Mo_mirrorsMany_12 a1 σ0 n' [vR 12 0, vI a1, vI (v2 + 0), vI v3, vI (v4 + 1)] σ2)))) ∧
        (r2 ≠ 0 →
          ((a1 = 0 →
            (InR (v2 + 1) ∧
            (InR (v4 + 1) ∧
            (∃ n', n' < n ∧ Lp_Mo_mirrorsMany_12 a1 σ0 n' [vR 12 0, vI a1, vI (v2 + 1), vI v3, vI (v4 + 1)] σ2)))) ∧
          (a1 ≠ 0 →
            (InR (v4 - v3) ∧
            (S_Mo_isEarlier [vR 12 0, vI v3, vI (v4 - v3)] σ2 (kI fun r3 σ3 =>
              ((r3 ≠ 0 →
                (InR (v2 + 0) ∧
                (InR (v4 + 1) ∧
                (∃ n', n' < n ∧ Lp_Mo_mirrorsMany_12 a1 σ0 n' [vR 12 0, vI a1, vI (v2 + 0), vI v3, vI (v4 + 1)] σ3)))) ∧
              (r3 = 0 →
                (InR (v2 + 1) ∧
                (InR (v4 + 1) ∧
                (∃ n', n' < n ∧ Lp_Mo_mirrorsMany_12 a1 σ0 n' [vR 12 0, vI a1, vI (v2 + 1), vI v3, vI (v4 + 1)] σ3))))))))))))))))))
theorem l_Mo_mirrorsMany_4 (a1 : Int) (σ0 : SS) (K : AV → SS → Prop) (ha1 : InR a1) (hs0 : okS σ0) (hG : S_Mo_mirrorsMany [vR 12 0, vI a1] σ0 K) (v2 : Int) (v3 : Int) (σ : SS) (hv2 : InR v2) (hv3 : InR v3) (hs : okS σ) (n : Nat) (hn : n = (1000 * (1000 - v3)).toNat) (hQ : (σ = σ0) ∧ (0 ≤ v3 ∧ v3 ≤ (σ0 40 0 0)) ∧ (v2 = sumZ (rowS (mirA (mW σ0) (σ0 40 0 0) a1) (σ0 40 0 0)) 0 v3)) : VL_Mo_mirrorsMany_4 a1 σ0 K v2 v3 σ n := by
  unfold VL_Mo_mirrorsMany_4
  obtain ⟨⟨hM, h1, h2⟩, hG⟩ := hG
  have hb := hM.n
  obtain ⟨rfl, q1, q2⟩ := hQ
  intro _ _
  refine ⟨fun c1 => ?_, fun c1 => ?_⟩
  · skip
    rw [show v3 = (σ 40 0 0) by omega] at q2
    rw [q2]; exact hG
  · skip
    refine ⟨(by omega), ?_⟩
    refine ⟨_, ?_, _, _, _, rfl, rfl, ?_⟩
    · omega
    · refine ⟨?_, ?_, ?_, ?_⟩
      · first | rfl | assumption | omega
      · first | rfl | assumption | omega
      · first | rfl | assumption | omega
      · have z : sumZ (fun h => bi (mirA (mW σ) (σ 40 0 0) a1 v3 h)) 1 (v3 + 1 - v3) = 0 := sumZ_nil (by omega)
        omega
theorem l_Mo_mirrorsMany_12 (a1 : Int) (σ0 : SS) (K : AV → SS → Prop) (ha1 : InR a1) (hs0 : okS σ0) (hG : S_Mo_mirrorsMany [vR 12 0, vI a1] σ0 K) (v2 : Int) (v3 : Int) (v4 : Int) (σ : SS) (hv2 : InR v2) (hv3 : InR v3) (hv4 : InR v4) (hs : okS σ) (n : Nat) (hn : n = (1000 * (1000 - v3) - v4).toNat) (hQ : (σ = σ0) ∧ (0 ≤ v3 ∧ v3 < (σ0 40 0 0)) ∧ (v3 < v4 ∧ v4 ≤ (σ0 40 0 0) + 1) ∧ (v2 = sumZ (rowS (mirA (mW σ0) (σ0 40 0 0) a1) (σ0 40 0 0)) 0 v3 + sumZ (fun h => bi (mirA (mW σ0) (σ0 40 0 0) a1 v3 h)) 1 (v4 - v3))) : VL_Mo_mirrorsMany_12 a1 σ0 K v2 v3 v4 σ n := by
  unfold VL_Mo_mirrorsMany_12
  obtain ⟨⟨hM, h1, h2⟩, hG⟩ := hG
  have hb := hM.n
  obtain ⟨rfl, q1, q2, q3⟩ := hQ
  have d1 := dsum_in (P := mirA (mW σ) (σ 40 0 0) a1) (k := v3) hb.1 hb.2 (by omega)
  have d2 := sumZ_le (f := fun h => bi (mirA (mW σ) (σ 40 0 0) a1 v3 h)) (c := 1) (a := 1) (b := v4 - v3) (by omega) (fun x _ _ => bi_in _)
  have st : sumZ (fun h => bi (mirA (mW σ) (σ 40 0 0) a1 v3 h)) 1 (v4 + 1 - v3) = sumZ (fun h => bi (mirA (mW σ) (σ 40 0 0) a1 v3 h)) 1 (v4 - v3) + bi (mirA (mW σ) (σ 40 0 0) a1 v3 (v4 - v3)) := by
    rw [show v4 + 1 - v3 = v4 - v3 + 1 by omega]
    exact sumZ_succ (by omega)
  have mp : v4 ≤ (σ 40 0 0) → pal (mW σ) v3 v4 → mirP (mW σ) (σ 40 0 0) v3 (v4 - v3) := fun z y => ⟨q1.1, by omega, by omega, by rwa [show v3 + (v4 - v3) = v4 by omega]⟩
  have mq : ¬ pal (mW σ) v3 v4 → ¬ mirP (mW σ) (σ 40 0 0) v3 (v4 - v3) := fun z y => z (by have := y.2.2.2; rwa [show v3 + (v4 - v3) = v4 by omega] at this)
  intro _ _
  refine ⟨fun c1 => ?_, fun c1 => ?_⟩
  · skip
    refine ⟨(by omega), ?_⟩
    refine ⟨_, ?_, _, _, rfl, rfl, ?_⟩
    · omega
    · refine ⟨?_, ?_, ?_⟩
      · first | rfl | assumption | omega
      · first | rfl | assumption | omega
      · rw [sumZ_succ q1.1, q3]
        have e : sumZ (fun h => bi (mirA (mW σ) (σ 40 0 0) a1 v3 h)) 1 (v4 - v3) = rowS (mirA (mW σ) (σ 40 0 0) a1) (σ 40 0 0) v3 := sumZ_widen (Int.le_refl _) (by omega) (fun x g1 g2 g3 => bi_0 (fun z => by have := z.1.2.2.1; omega))
        omega
  · skip
    refine ⟨(by first | assumption | omega | exact ⟨by first | assumption | omega, by omega⟩ | exact ⟨by assumption, by omega, by omega⟩ | exact ⟨by assumption, by omega, by omega, by omega⟩ | exact ⟨by assumption, by omega, by omega, by omega, by omega⟩ | exact ⟨by assumption, by omega, by omega, by omega, by omega, by omega⟩), ?_⟩
    refine bS_b0 (fun p2 _ => ?_) (fun p2 _ => ?_)
    · skip
      refine ⟨fun c3 => ?_, fun c3 => ?_⟩
      · skip
        refine ⟨(by omega), ?_⟩
        refine ⟨(by omega), ?_⟩
        refine ⟨_, ?_, _, _, _, rfl, rfl, ?_⟩
        · omega
        · refine ⟨?_, ?_, ?_, ?_⟩
          · first | rfl | assumption | omega
          · first | rfl | assumption | omega
          · first | rfl | assumption | omega
          · rw [st, bi_1 ⟨mp (by omega) (by assumption), fun z => absurd (by assumption) z⟩]; omega
      · skip
        refine ⟨(by omega), ?_⟩
        refine ⟨(by exact ⟨hM, by omega, by omega, by omega⟩), ?_⟩
        refine bS_b1 (fun p4 _ => ?_) (fun p4 _ => ?_)
        · skip
          refine ⟨(by omega), ?_⟩
          refine ⟨(by omega), ?_⟩
          refine ⟨_, ?_, _, _, _, rfl, rfl, ?_⟩
          · omega
          · refine ⟨?_, ?_, ?_, ?_⟩
            · first | rfl | assumption | omega
            · first | rfl | assumption | omega
            · first | rfl | assumption | omega
            · rw [st, bi_0 (fun z => z.2 (by assumption) (by assumption))]; omega
        · skip
          refine ⟨(by omega), ?_⟩
          refine ⟨(by omega), ?_⟩
          refine ⟨_, ?_, _, _, _, rfl, rfl, ?_⟩
          · omega
          · refine ⟨?_, ?_, ?_, ?_⟩
            · first | rfl | assumption | omega
            · first | rfl | assumption | omega
            · first | rfl | assumption | omega
            · rw [st, bi_1 ⟨mp (by omega) (by assumption), fun _ => by assumption⟩]; omega
    · skip
      refine ⟨(by omega), ?_⟩
      refine ⟨(by omega), ?_⟩
      refine ⟨_, ?_, _, _, _, rfl, rfl, ?_⟩
      · omega
      · refine ⟨?_, ?_, ?_, ?_⟩
        · first | rfl | assumption | omega
        · first | rfl | assumption | omega
        · first | rfl | assumption | omega
        · rw [st, bi_0 (fun z => mq (by assumption) z.1)]; omega
theorem e_Mo_mirrorsMany (a1 : Int) (σ : SS) (K : AV → SS → Prop) (ha1 : InR a1) (hs : okS σ) (hG : S_Mo_mirrorsMany [vR 12 0, vI a1] σ K) : VE_Mo_mirrorsMany a1 σ K := by
  unfold VE_Mo_mirrorsMany
  obtain ⟨⟨hM, h1, h2⟩, hG⟩ := hG
  have hb := hM.n
  refine ⟨_, _, _, rfl, rfl, ?_⟩
  refine ⟨?_, ?_, ?_⟩
  · first | rfl | assumption | omega
  · first | rfl | assumption | omega
  · exact (sumZ_nil (by omega)).symm
theorem H_Mo_mirrorsMany {d : Nat} (hd : 5 ≤ d) : Holds d I_Mo_mirrorsMany S_Mo_mirrorsMany := by
  refine holds_of (d' := d - 1) (rt := 1) (cal := [(I_Mo_size, S_Mo_size), (I_Mo_isMirror, S_Mo_isMirror), (I_Mo_isEarlier, S_Mo_isEarlier)]) (C := C_Mo_mirrorsMany) m_Mo_mirrorsMany o_Mo_mirrorsMany rfl rfl (by omega) ?_ ?_
  · intro x hx
    simp only [List.mem_cons, List.not_mem_nil, or_false] at hx
    rcases hx with rfl | rfl | rfl
    · exact H_Mo_size (by omega)
    · exact H_Mo_isMirror (by omega)
    · exact H_Mo_isEarlier (by omega)
  · intro as σ K has hσ hG
    have hG2 := hG
    unfold S_Mo_mirrorsMany at hG2
    split at hG2
    · next a1 =>
      refine ⟨Nat.le_of_ble_eq_true rfl, (Iv_Mo_mirrorsMany a1 σ), ?_, 1000, ?_⟩
      · intro k n z L σ' hk hL hs hP
        unfold Iv_Mo_mirrorsMany at hk
        split at hk
        · cases hk
          obtain ⟨v2, v3, rfl, hn, hQ⟩ := hP
          exact ⟨1000, l_Mo_mirrorsMany_4 a1 σ K (has _ (List.mem_of_getElem? (i := 1) rfl)) hσ hG v2 v3 σ' (hL _ (List.mem_of_getElem? (i := 2) rfl)) (hL _ (List.mem_of_getElem? (i := 3) rfl)) hs n hn hQ⟩
        · cases hk
          obtain ⟨v2, v3, v4, rfl, hn, hQ⟩ := hP
          exact ⟨1000, l_Mo_mirrorsMany_12 a1 σ K (has _ (List.mem_of_getElem? (i := 1) rfl)) hσ hG v2 v3 v4 σ' (hL _ (List.mem_of_getElem? (i := 2) rfl)) (hL _ (List.mem_of_getElem? (i := 3) rfl)) (hL _ (List.mem_of_getElem? (i := 4) rfl)) hs n hn hQ⟩
        · cases hk
      · exact e_Mo_mirrorsMany a1 σ K (has _ (List.mem_of_getElem? (i := 1) rfl)) hσ hG
    · exact hG2.elim
def MfL : List (Nat × Nat) := [(46, 0)]
theorem mfF {σ σ' : SS} (h : Fr MfL σ σ') : mW σ' = mW σ ∧ (σ' 40 0 0) = (σ 40 0 0) := by
  have e : σ' 40 0 = σ 40 0 := h _ _ (by simp [MfL])
  unfold mW
  rw [e]
  exact ⟨rfl, rfl⟩
theorem mfM {σ σ' : SS} (hM : MoW σ) (h : Fr MfL σ σ') : MoW σ' := by
  obtain ⟨e1, e2⟩ := mfF h
  unfold MoW
  rw [e1, e2]
  exact hM
def S_Mo_fewest : GS := fun as σ K => match as with
  | [some (.inr (.inr (12, 0)))] => MoW σ ∧ ∀ σ' F, Fr MfL σ σ' → fewI (mW σ) (σ 40 0 0) F → K (vI (F (σ 40 0 0))) σ'
  | _ => False
abbrev Lp_Mo_fewest_7 (σ0 : SS) (n : Nat) (L : List AV) (σ : SS) : Prop := ∃ (v1 : Int), L = [vR 12 0, vI v1, none] ∧ n = (1000 * (1000 - v1)).toNat ∧ ((Fr MfL σ0 σ) ∧ (1 ≤ v1 ∧ v1 ≤ (σ0 40 0 0) + 1) ∧ (fewI (mW σ0) (v1 - 1) (σ 46 0)))
abbrev Lp_Mo_fewest_18 (σ0 : SS) (n : Nat) (L : List AV) (σ : SS) : Prop := ∃ (v1 : Int) (v2 : Int), L = [vR 12 0, vI v1, vI v2] ∧ n = (1000 * (1000 - v1) - v2 - 1).toNat ∧ ((Fr MfL σ0 σ) ∧ (1 ≤ v1 ∧ v1 ≤ (σ0 40 0 0)) ∧ (0 ≤ v2 ∧ v2 ≤ v1) ∧ (fewI (mW σ0) (v1 - 1) (σ 46 0)) ∧ ((σ 46 0 v1 = v1 ∨ ∃ i, 0 ≤ i ∧ i < v2 ∧ pal (mW σ0) i v1 ∧ σ 46 0 v1 = σ 46 0 i + 1) ∧ σ 46 0 v1 ≤ v1 ∧ ∀ i, 0 ≤ i → i < v2 → pal (mW σ0) i v1 → σ 46 0 v1 ≤ σ 46 0 i + 1))
def Iv_Mo_fewest (σ0 : SS) (k : Nat) : Option (List Nat × (Nat → List AV → SS → Prop)) := match k with
  | 7 => some ([2], Lp_Mo_fewest_7 σ0)
  | 18 => some ([], Lp_Mo_fewest_18 σ0)
  | _ => none
def VE_Mo_fewest (σ : SS) (K : AV → SS → Prop) : Prop :=
  ((0 ≤ (0 : Int) ∧ (0 : Int) < 121) ∧ ∀ σ1 : SS, σ1 = u3 σ 46 0 0 0 →
  (∃ n', Lp_Mo_fewest_7 σ n' [vR 12 0, vI 1, none] σ1))
def VL_Mo_fewest_7 (σ0 : SS) (K : AV → SS → Prop) (v1 : Int) (σ : SS) (n : Nat) : Prop :=
  (S_Mo_size [vR 12 0] σ (kI fun r1 σ1 =>
    ((r1 < v1 →
      (S_Mo_size [vR 12 0] σ1 (kI fun r2 σ2 =>
        ((0 ≤ (r2 : Int) ∧ (r2 : Int) < 121) ∧
        (K (vI (σ2 46 0 r2)) σ2))))) ∧
    (v1 ≤ r1 →
      ((0 ≤ (v1 : Int) ∧ (v1 : Int) < 121) ∧ ∀ σ3 : SS, σ3 = u3 σ1 46 0 v1 v1 →
      (∃ n', n' < n ∧ Lp_Mo_fewest_18 σ0 n' [vR 12 0, vI v1, vI 0] σ3))))))
def VL_Mo_fewest_18 (σ0 : SS) (K : AV → SS → Prop) (v1 : Int) (v2 : Int) (σ : SS) (n : Nat) : Prop :=
  ((v1 ≤ v2 →
    (InR (v1 + 1) ∧
    (∃ n', n' < n ∧ Lp_Mo_fewest_7 σ0 n' [vR 12 0, vI (v1 + 1), none] σ))) ∧
  (v2 < v1 →
    (S_Mo_isMirror [vR 12 0, vI v2, vI v1] σ (kI fun r1 σ1 =>
      ((r1 = 0 →
        (InR (v2 + 1) ∧
        (∃ n', n' < n ∧ Lp_Mo_fewest_18 σ0 n' [vR 12 0, vI v1, vI (v2 + 1)] σ1))) ∧
      (r1 ≠ 0 →
        ((0 ≤ (v1 : Int) ∧ (v1 : Int) < 121) ∧
        ((0 ≤ (v2 : Int) ∧ (v2 : Int) < 121) ∧
        (InR ((σ1 46 0 v2) + 1) ∧
        (S_Mo_least [vI (σ1 46 0 v1), vI ((σ1 46 0 v2) + 1)] σ1 (kI fun r2 σ2 =>
          ((0 ≤ (v1 : Int) ∧ (v1 : Int) < 121) ∧ ∀ σ3 : SS, σ3 = u3 σ2 46 0 v1 r2 →
          (InR (v2 + 1) ∧
          (∃ n', n' < n ∧ Lp_Mo_fewest_18 σ0 n' [vR 12 0, vI v1, vI (v2 + 1)] σ3))))))))))))))
theorem l_Mo_fewest_7 (σ0 : SS) (K : AV → SS → Prop) (hs0 : okS σ0) (hG : S_Mo_fewest [vR 12 0] σ0 K) (v1 : Int) (σ : SS) (hv1 : InR v1) (hs : okS σ) (n : Nat) (hn : n = (1000 * (1000 - v1)).toNat) (hQ : (Fr MfL σ0 σ) ∧ (1 ≤ v1 ∧ v1 ≤ (σ0 40 0 0) + 1) ∧ (fewI (mW σ0) (v1 - 1) (σ 46 0))) : VL_Mo_fewest_7 σ0 K v1 σ n := by
  unfold VL_Mo_fewest_7
  obtain ⟨hM, hG⟩ := hG
  have hb := hM.n
  obtain ⟨q0, q1, q2⟩ := hQ
  obtain ⟨w1, w2⟩ := mfF q0
  have hM1 := mfM hM q0
  intro _ _
  refine ⟨fun c1 => ?_, fun c1 => ?_⟩
  · skip
    intro _ _
    refine ⟨(by omega), ?_⟩
    rw [w2]
    exact hG _ _ q0 (by rwa [show v1 - 1 = (σ0 40 0 0) by omega] at q2)
  · skip
    refine ⟨(by omega), fun σ2 e2 => ?_⟩
    refine ⟨_, ?_, _, _, rfl, rfl, ?_⟩
    · omega
    · refine ⟨?_, ?_, ?_, ?_, ?_⟩
      · rw [e2]; exact Fr_trans q0 (Fr_u3 (by simp [MfL]))
      · first | rfl | assumption | omega
      · first | rfl | assumption | omega
      · exact fewI_congr q2 (by omega) (fun j j0 j1 => by rw [e2, u3_k (by omega)])
      · rw [e2, u3_s]
        exact ⟨Or.inl rfl, by omega, fun x x1 x2 => by omega⟩
theorem l_Mo_fewest_18 (σ0 : SS) (K : AV → SS → Prop) (hs0 : okS σ0) (hG : S_Mo_fewest [vR 12 0] σ0 K) (v1 : Int) (v2 : Int) (σ : SS) (hv1 : InR v1) (hv2 : InR v2) (hs : okS σ) (n : Nat) (hn : n = (1000 * (1000 - v1) - v2 - 1).toNat) (hQ : (Fr MfL σ0 σ) ∧ (1 ≤ v1 ∧ v1 ≤ (σ0 40 0 0)) ∧ (0 ≤ v2 ∧ v2 ≤ v1) ∧ (fewI (mW σ0) (v1 - 1) (σ 46 0)) ∧ ((σ 46 0 v1 = v1 ∨ ∃ i, 0 ≤ i ∧ i < v2 ∧ pal (mW σ0) i v1 ∧ σ 46 0 v1 = σ 46 0 i + 1) ∧ σ 46 0 v1 ≤ v1 ∧ ∀ i, 0 ≤ i → i < v2 → pal (mW σ0) i v1 → σ 46 0 v1 ≤ σ 46 0 i + 1)) : VL_Mo_fewest_18 σ0 K v1 v2 σ n := by
  unfold VL_Mo_fewest_18
  obtain ⟨hM, hG⟩ := hG
  have hb := hM.n
  obtain ⟨q0, q1, q2, q3, q4, q5, q6⟩ := hQ
  obtain ⟨w1, w2⟩ := mfF q0
  have hM1 := mfM hM q0
  have fl := fun z : v2 < v1 => fewI_le q3 (j := v2) q2.1 (by omega)
  refine ⟨fun c1 => ?_, fun c1 => ?_⟩
  · skip
    refine ⟨(by omega), ?_⟩
    refine ⟨_, ?_, _, rfl, rfl, ?_⟩
    · clear q4; omega
    · refine ⟨?_, ?_, ?_⟩
      · first | rfl | assumption | omega
      · first | rfl | assumption | omega
      · rw [show v1 + 1 - 1 = v1 by omega]
        have e : v2 = v1 := by omega
        rw [e] at q4 q6
        refine fewI_ext q3 q1.1 ⟨?_, fun x x1 x2 x3 => q6 x (by omega) x2 x3⟩
        rcases q4 with z | ⟨i, i0, i1, i2, i3⟩
        · have a := fewI_le q3 (j := v1 - 1) (by omega) (by omega)
          have b := q6 (v1 - 1) (by omega) (by omega) (pal_1 (by omega))
          exact ⟨v1 - 1, by omega, by omega, pal_1 (by omega), by omega⟩
        · exact ⟨i, by omega, i1, i2, i3⟩
  · skip
    refine ⟨(by rw [w2]; exact ⟨hM1, by omega, by omega, by omega⟩), ?_⟩
    refine bS_b0 (fun p2 _ => ?_) (fun p2 _ => ?_)
    · skip
      rw [w1] at p2
      refine ⟨(by omega), ?_⟩
      refine ⟨(by omega), ?_⟩
      refine ⟨(by
                        have := fl (by omega)
                        omega), ?_⟩
      intro _ _
      refine ⟨(by omega), fun σ3 e3 => ?_⟩
      refine ⟨(by omega), ?_⟩
      refine ⟨_, ?_, _, _, rfl, rfl, ?_⟩
      · clear q4; omega
      · refine ⟨?_, ?_, ?_, ?_, ?_⟩
        · rw [e3]; exact Fr_trans q0 (Fr_u3 (by simp [MfL]))
        · first | rfl | assumption | omega
        · first | rfl | assumption | omega
        · exact fewI_congr q3 (by omega) (fun j j0 j1 => by rw [e3, u3_k (by omega)])
        · have k1 : σ3 46 0 v1 = min (σ 46 0 v1) (σ 46 0 v2 + 1) := by rw [e3, u3_s]
          have k2 : ∀ i, i < v1 → σ3 46 0 i = σ 46 0 i := fun i hi => by rw [e3, u3_k (by omega)]
          rw [k1]
          refine ⟨?_, by omega, fun i i0 i1 i2 => ?_⟩
          · rcases (by omega : min (σ 46 0 v1) (σ 46 0 v2 + 1) = σ 46 0 v1 ∨ min (σ 46 0 v1) (σ 46 0 v2 + 1) = σ 46 0 v2 + 1) with z | z
            · rw [z]
              rcases q4 with y | ⟨i, i0, i1, i2, i3⟩
              · exact Or.inl y
              · exact Or.inr ⟨i, i0, by omega, i2, by rw [k2 i (by omega)]; exact i3⟩
            · exact Or.inr ⟨v2, q2.1, by omega, p2, by rw [k2 v2 (by omega)]; exact z⟩
          · rw [k2 i (by omega)]
            rcases (by omega : i < v2 ∨ i = v2) with z | rfl
            · have := q6 i i0 z i2; omega
            · omega
    · skip
      rw [w1] at p2
      refine ⟨(by omega), ?_⟩
      refine ⟨_, ?_, _, _, rfl, rfl, ?_⟩
      · clear q4; omega
      · refine ⟨?_, ?_, ?_, ?_, ?_⟩
        · first | rfl | assumption | omega
        · first | rfl | assumption | omega
        · first | rfl | assumption | omega
        · first | rfl | assumption | omega
        · refine ⟨?_, q5, fun i i0 i1 i2 => ?_⟩
          · rcases q4 with y | ⟨i, i0, i1, i2, i3⟩
            · exact Or.inl y
            · exact Or.inr ⟨i, i0, by omega, i2, i3⟩
          · rcases (by omega : i < v2 ∨ i = v2) with z | rfl
            · exact q6 i i0 z i2
            · exact absurd i2 p2
theorem e_Mo_fewest (σ : SS) (K : AV → SS → Prop) (hs : okS σ) (hG : S_Mo_fewest [vR 12 0] σ K) : VE_Mo_fewest σ K := by
  unfold VE_Mo_fewest
  obtain ⟨hM, hG⟩ := hG
  have hb := hM.n
  refine ⟨(by omega), fun σ1 e1 => ?_⟩
  refine ⟨_, _, rfl, rfl, ?_⟩
  refine ⟨?_, ?_, ?_⟩
  · rw [e1]; exact Fr_u3 (by simp [MfL])
  · first | rfl | assumption | omega
  · exact ⟨by rw [e1, u3_s], fun j j1 j2 => by omega⟩
theorem H_Mo_fewest {d : Nat} (hd : 3 ≤ d) : Holds d I_Mo_fewest S_Mo_fewest := by
  refine holds_of (d' := d - 1) (rt := 1) (cal := [(I_Mo_size, S_Mo_size), (I_Mo_isMirror, S_Mo_isMirror), (I_Mo_least, S_Mo_least)]) (C := C_Mo_fewest) m_Mo_fewest o_Mo_fewest rfl rfl (by omega) ?_ ?_
  · intro x hx
    simp only [List.mem_cons, List.not_mem_nil, or_false] at hx
    rcases hx with rfl | rfl | rfl
    · exact H_Mo_size (by omega)
    · exact H_Mo_isMirror (by omega)
    · exact H_Mo_least (by omega)
  · intro as σ K has hσ hG
    have hG2 := hG
    unfold S_Mo_fewest at hG2
    split at hG2
    · skip
      refine ⟨Nat.le_of_ble_eq_true rfl, (Iv_Mo_fewest σ), ?_, 1000, ?_⟩
      · intro k n z L σ' hk hL hs hP
        unfold Iv_Mo_fewest at hk
        split at hk
        · cases hk
          obtain ⟨v1, rfl, hn, hQ⟩ := hP
          exact ⟨1000, l_Mo_fewest_7 σ K  hσ hG v1 σ' (hL _ (List.mem_of_getElem? (i := 1) rfl)) hs n hn hQ⟩
        · cases hk
          obtain ⟨v1, v2, rfl, hn, hQ⟩ := hP
          exact ⟨1000, l_Mo_fewest_18 σ K  hσ hG v1 v2 σ' (hL _ (List.mem_of_getElem? (i := 1) rfl)) (hL _ (List.mem_of_getElem? (i := 2) rfl)) hs n hn hQ⟩
        · cases hk
      · exact e_Mo_fewest σ K  hσ hG
    · exact hG2.elim
def S_Mo_longestMirror : GS := fun as σ K => match as with
  | [some (.inr (.inr (12, 0))), some (.inl a1)] => (MoW σ ∧ 3 ≤ a1 ∧ a1 ≤ 4) ∧ ∀ l f, TL 1 (mirP (mW σ) (σ 40 0 0)) l f → K (vI (if a1 = 3 then l else f)) σ
  | _ => False
abbrev Lp_Mo_longestMirror_3 (a1 : Int) (σ0 : SS) (n : Nat) (L : List AV) (σ : SS) : Prop := ∃ (v2 : Int), L = [vR 12 0, vI a1, vI v2, none] ∧ n = (1000 * v2).toNat ∧ ((σ = σ0) ∧ (0 ≤ v2 ∧ v2 ≤ (σ0 40 0 0)) ∧ (∀ i h, mirP (mW σ0) (σ0 40 0 0) i h → h ≤ v2))
abbrev Lp_Mo_longestMirror_7 (a1 : Int) (σ0 : SS) (n : Nat) (L : List AV) (σ : SS) : Prop := ∃ (v2 : Int) (v3 : Int), L = [vR 12 0, vI a1, vI v2, vI v3] ∧ n = (1000 * v2 - v3 - 1).toNat ∧ ((σ = σ0) ∧ (1 ≤ v2 ∧ v2 ≤ (σ0 40 0 0)) ∧ (0 ≤ v3 ∧ v3 + v2 ≤ (σ0 40 0 0) + 1) ∧ (∀ i h, mirP (mW σ0) (σ0 40 0 0) i h → h < v2 ∨ (h = v2 ∧ v3 ≤ i)))
def Iv_Mo_longestMirror (a1 : Int) (σ0 : SS) (k : Nat) : Option (List Nat × (Nat → List AV → SS → Prop)) := match k with
  | 3 => some ([3], Lp_Mo_longestMirror_3 a1 σ0)
  | 7 => some ([], Lp_Mo_longestMirror_7 a1 σ0)
  | _ => none
def VE_Mo_longestMirror (a1 : Int) (σ : SS) (K : AV → SS → Prop) : Prop :=
  (S_Mo_size [vR 12 0] σ (kI fun r1 σ1 =>
    (∃ n', Lp_Mo_longestMirror_3 a1 σ n' [vR 12 0, vI a1, vI r1, none] σ1)))
def VL_Mo_longestMirror_3 (a1 : Int) (σ0 : SS) (K : AV → SS → Prop) (v2 : Int) (σ : SS) (n : Nat) : Prop :=
  ((v2 ≤ 0 →
    ((a1 ≠ 3 →
      (K (vI (-2)) σ)) ∧
    (a1 = 3 →
      (K (vI 0) σ)))) ∧
  ((0 : Int) < v2 →
    (∃ n', n' < n ∧ Lp_Mo_longestMirror_7 a1 σ0 n' [vR 12 0, vI a1, vI v2, vI 0] σ)))
def VL_Mo_longestMirror_7 (a1 : Int) (σ0 : SS) (K : AV → SS → Prop) (v2 : Int) (v3 : Int) (σ : SS) (n : Nat) : Prop :=
  (InR (v3 + v2) ∧
  (S_Mo_size [vR 12 0] σ (kI fun r1 σ1 =>
    ((r1 < (v3 + v2) →
      (InR (v2 + (-1)) ∧
      (∃ n', n' < n ∧ Lp_Mo_longestMirror_3 a1 σ0 n' [vR 12 0, vI a1, vI (v2 + (-1)), none] σ1))) ∧
    ((v3 + v2) ≤ r1 →
      (InR (v3 + v2) ∧
      (S_Mo_isMirror [vR 12 0, vI v3, vI (v3 + v2)] σ1 (kI fun r2 σ2 =>
        ((r2 = 0 →
          (InR (v3 + 1) ∧
          (∃ n', n' < n ∧ Lp_Mo_longestMirror_7 a1 σ0 n' [vR 12 0, vI a1, vI v2, vI (v3 + 1)] σ2))) ∧
        (r2 ≠ 0 →
          ((a1 ≠ 3 →
            (K (vI v3) σ2)) ∧
          (a1 = 3 →
            (K (vI v2) σ2)))))))))))))
theorem l_Mo_longestMirror_3 (a1 : Int) (σ0 : SS) (K : AV → SS → Prop) (ha1 : InR a1) (hs0 : okS σ0) (hG : S_Mo_longestMirror [vR 12 0, vI a1] σ0 K) (v2 : Int) (σ : SS) (hv2 : InR v2) (hs : okS σ) (n : Nat) (hn : n = (1000 * v2).toNat) (hQ : (σ = σ0) ∧ (0 ≤ v2 ∧ v2 ≤ (σ0 40 0 0)) ∧ (∀ i h, mirP (mW σ0) (σ0 40 0 0) i h → h ≤ v2)) : VL_Mo_longestMirror_3 a1 σ0 K v2 σ n := by
  unfold VL_Mo_longestMirror_3
  obtain ⟨⟨hM, h1, h2⟩, hG⟩ := hG
  have hb := hM.n
  obtain ⟨rfl, q1, q2⟩ := hQ
  have no : v2 ≤ 0 → TL 1 (mirP (mW σ) (σ 40 0 0)) 0 (-2) := fun z => TL_none (fun i h y => by have := q2 i h y; have := y.2.1; omega)
  refine ⟨fun c1 => ?_, fun c1 => ?_⟩
  · skip
    refine ⟨fun c2 => ?_, fun c2 => ?_⟩
    · skip
      have := hG _ _ (no (by omega))
      rwa [if_neg (by omega)] at this
    · skip
      have := hG _ _ (no (by omega))
      rwa [if_pos (by omega)] at this
  · skip
    refine ⟨_, ?_, _, _, rfl, rfl, ?_⟩
    · omega
    · refine ⟨?_, ?_, ?_, ?_⟩
      · first | rfl | assumption | omega
      · first | rfl | assumption | omega
      · first | rfl | assumption | omega
      · exact fun i h z => by have := q2 i h z; have := z.1; omega
theorem l_Mo_longestMirror_7 (a1 : Int) (σ0 : SS) (K : AV → SS → Prop) (ha1 : InR a1) (hs0 : okS σ0) (hG : S_Mo_longestMirror [vR 12 0, vI a1] σ0 K) (v2 : Int) (v3 : Int) (σ : SS) (hv2 : InR v2) (hv3 : InR v3) (hs : okS σ) (n : Nat) (hn : n = (1000 * v2 - v3 - 1).toNat) (hQ : (σ = σ0) ∧ (1 ≤ v2 ∧ v2 ≤ (σ0 40 0 0)) ∧ (0 ≤ v3 ∧ v3 + v2 ≤ (σ0 40 0 0) + 1) ∧ (∀ i h, mirP (mW σ0) (σ0 40 0 0) i h → h < v2 ∨ (h = v2 ∧ v3 ≤ i))) : VL_Mo_longestMirror_7 a1 σ0 K v2 v3 σ n := by
  unfold VL_Mo_longestMirror_7
  obtain ⟨⟨hM, h1, h2⟩, hG⟩ := hG
  have hb := hM.n
  obtain ⟨rfl, q1, q2, q3⟩ := hQ
  have yes : v3 + v2 ≤ (σ 40 0 0) → pal (mW σ) v3 (v3 + v2) → TL 1 (mirP (mW σ) (σ 40 0 0)) (1 * v2) v3 := fun z y => TL_top (Or.inl rfl) q3 q1.1 ⟨q2.1, q1.1, z, y⟩
  refine ⟨(by omega), ?_⟩
  intro _ _
  refine ⟨fun c1 => ?_, fun c1 => ?_⟩
  · skip
    refine ⟨(by omega), ?_⟩
    refine ⟨_, ?_, _, rfl, rfl, ?_⟩
    · omega
    · refine ⟨?_, ?_, ?_⟩
      · first | rfl | assumption | omega
      · first | rfl | assumption | omega
      · exact fun i h z => by have := q3 i h z; have := z.2.2.1; omega
  · skip
    refine ⟨(by omega), ?_⟩
    refine ⟨(by first | assumption | omega | exact ⟨by first | assumption | omega, by omega⟩ | exact ⟨by assumption, by omega, by omega⟩ | exact ⟨by assumption, by omega, by omega, by omega⟩ | exact ⟨by assumption, by omega, by omega, by omega, by omega⟩ | exact ⟨by assumption, by omega, by omega, by omega, by omega, by omega⟩), ?_⟩
    refine bS_b0 (fun p2 _ => ?_) (fun p2 _ => ?_)
    · skip
      refine ⟨fun c3 => ?_, fun c3 => ?_⟩
      · skip
        have := hG _ _ (yes (by omega) (by assumption))
        rwa [if_neg (by omega)] at this
      · skip
        have := hG _ _ (yes (by omega) (by assumption))
        rwa [if_pos (by omega), Int.one_mul] at this
    · skip
      refine ⟨(by omega), ?_⟩
      refine ⟨_, ?_, _, _, rfl, rfl, ?_⟩
      · omega
      · refine ⟨?_, ?_, ?_, ?_⟩
        · first | rfl | assumption | omega
        · first | rfl | assumption | omega
        · first | rfl | assumption | omega
        · intro i h z
          rcases (by have := q3 i h z; omega : h < v2 ∨ (h = v2 ∧ v3 < i) ∨ (h = v2 ∧ i = v3)) with y | y | ⟨rfl, rfl⟩
          · exact Or.inl y
          · exact Or.inr ⟨y.1, by omega⟩
          · exact absurd z.2.2.2 (by assumption)
theorem e_Mo_longestMirror (a1 : Int) (σ : SS) (K : AV → SS → Prop) (ha1 : InR a1) (hs : okS σ) (hG : S_Mo_longestMirror [vR 12 0, vI a1] σ K) : VE_Mo_longestMirror a1 σ K := by
  unfold VE_Mo_longestMirror
  obtain ⟨⟨hM, h1, h2⟩, hG⟩ := hG
  have hb := hM.n
  intro _ _
  refine ⟨_, _, rfl, rfl, ?_⟩
  refine ⟨?_, ?_, ?_⟩
  · first | rfl | assumption | omega
  · first | rfl | assumption | omega
  · exact fun i h z => by have := z.1; have := z.2.2.1; omega
theorem H_Mo_longestMirror {d : Nat} (hd : 3 ≤ d) : Holds d I_Mo_longestMirror S_Mo_longestMirror := by
  refine holds_of (d' := d - 1) (rt := 1) (cal := [(I_Mo_size, S_Mo_size), (I_Mo_isMirror, S_Mo_isMirror)]) (C := C_Mo_longestMirror) m_Mo_longestMirror o_Mo_longestMirror rfl rfl (by omega) ?_ ?_
  · intro x hx
    simp only [List.mem_cons, List.not_mem_nil, or_false] at hx
    rcases hx with rfl | rfl
    · exact H_Mo_size (by omega)
    · exact H_Mo_isMirror (by omega)
  · intro as σ K has hσ hG
    have hG2 := hG
    unfold S_Mo_longestMirror at hG2
    split at hG2
    · next a1 =>
      refine ⟨Nat.le_of_ble_eq_true rfl, (Iv_Mo_longestMirror a1 σ), ?_, 1000, ?_⟩
      · intro k n z L σ' hk hL hs hP
        unfold Iv_Mo_longestMirror at hk
        split at hk
        · cases hk
          obtain ⟨v2, rfl, hn, hQ⟩ := hP
          exact ⟨1000, l_Mo_longestMirror_3 a1 σ K (has _ (List.mem_of_getElem? (i := 1) rfl)) hσ hG v2 σ' (hL _ (List.mem_of_getElem? (i := 2) rfl)) hs n hn hQ⟩
        · cases hk
          obtain ⟨v2, v3, rfl, hn, hQ⟩ := hP
          exact ⟨1000, l_Mo_longestMirror_7 a1 σ K (has _ (List.mem_of_getElem? (i := 1) rfl)) hσ hG v2 v3 σ' (hL _ (List.mem_of_getElem? (i := 2) rfl)) (hL _ (List.mem_of_getElem? (i := 3) rfl)) hs n hn hQ⟩
        · cases hk
      · exact e_Mo_longestMirror a1 σ K (has _ (List.mem_of_getElem? (i := 1) rfl)) hσ hG
    · exact hG2.elim
def S_Mo_mirrors : GS := fun as σ K => match as with
  | [some (.inr (.inr (12, 0))), some (.inl a1)] => MoW σ ∧ ∀ σ' r, Fr MfL σ σ' → RMirs (mW σ) (σ 40 0 0) a1 r → K (vI r) σ'
  | _ => False
def VE_Mo_mirrors (a1 : Int) (σ : SS) (K : AV → SS → Prop) : Prop :=
  (((a1 = 0 →
    ((a1 ≠ 1 →
      (S_Mo_mirrorsMany [vR 12 0, vI 0] σ (kI fun r1 σ1 =>
        (K (vI r1) σ1)))) ∧
    (a1 = 1 →
      (S_Mo_mirrorsMany [vR 12 0, vI 1] σ (kI fun r2 σ2 =>
        (K (vI r2) σ2)))))) ∧
  ((a1 = 1 →
    ((a1 ≠ 1 →
      (S_Mo_mirrorsMany [vR 12 0, vI 0] σ (kI fun r3 σ3 =>
        (K (vI r3) σ3)))) ∧
    (a1 = 1 →
      (S_Mo_mirrorsMany [vR 12 0, vI 1] σ (kI fun r4 σ4 =>
        (K (vI r4) σ4)))))) ∧
  ((a1 = 2 →
    (S_Mo_fewest [vR 12 0] σ (kI fun r5 σ5 =>
      (K (vI r5) σ5)))) ∧
  ((a1 = 3 →
    (S_Mo_longestMirror [vR 12 0, vI a1] σ (kI fun r6 σ6 =>
      (K (vI r6) σ6)))) ∧
  ((a1 = 4 →
    (S_Mo_longestMirror [vR 12 0, vI a1] σ (kI fun r7 σ7 =>
      (K (vI r7) σ7)))) ∧
  True))))) ∧
  (a1 < 0 ∨ 4 < a1 →
    (K (vI (-1)) σ)))
theorem e_Mo_mirrors (a1 : Int) (σ : SS) (K : AV → SS → Prop) (ha1 : InR a1) (hs : okS σ) (hG : S_Mo_mirrors [vR 12 0, vI a1] σ K) : VE_Mo_mirrors a1 σ K := by
  unfold VE_Mo_mirrors
  obtain ⟨hM, hG⟩ := hG
  have m0 : dsum (mirA (mW σ) (σ 40 0 0) 0) (σ 40 0 0) = dsum (mirP (mW σ) (σ 40 0 0)) (σ 40 0 0) := sumZ_congr (fun i _ _ => sumZ_congr (fun h _ _ => bi_congr ⟨fun z => z.1, fun z => ⟨z, fun y => absurd rfl y⟩⟩))
  have m1 : dsum (mirA (mW σ) (σ 40 0 0) 1) (σ 40 0 0) = dsum (mirU (mW σ) (σ 40 0 0)) (σ 40 0 0) := sumZ_congr (fun i _ _ => sumZ_congr (fun h _ _ => bi_congr ⟨fun z => ⟨z.1, z.2 (by omega)⟩, fun z => ⟨z.1, fun _ => z.2⟩⟩))
  refine ⟨⟨fun c1 => ?_, fun c1 => ?_, fun c1 => ?_, fun c1 => ?_, fun c1 => ?_, trivial⟩, fun c1 => ?_⟩
  · skip
    refine ⟨fun c2 => ?_, fun c2 => ?_⟩
    · skip
      refine ⟨(by exact ⟨hM, by omega, by omega⟩), ?_⟩
      intro _ _
      rw [m0]; exact hG _ _ Fr_refl (Or.inl ⟨by omega, rfl⟩)
    · skip
      refine ⟨(by exact ⟨hM, by omega, by omega⟩), ?_⟩
      intro _ _
      exact absurd c1 (by omega)
  · skip
    refine ⟨fun c2 => ?_, fun c2 => ?_⟩
    · skip
      refine ⟨(by exact ⟨hM, by omega, by omega⟩), ?_⟩
      intro _ _
      exact absurd c1 (by omega)
    · skip
      refine ⟨(by exact ⟨hM, by omega, by omega⟩), ?_⟩
      intro _ _
      rw [m1]; exact hG _ _ Fr_refl (Or.inr (Or.inl ⟨by omega, rfl⟩))
  · skip
    refine ⟨(by first | assumption | omega | exact ⟨by first | assumption | omega, by omega⟩ | exact ⟨by assumption, by omega, by omega⟩ | exact ⟨by assumption, by omega, by omega, by omega⟩ | exact ⟨by assumption, by omega, by omega, by omega, by omega⟩ | exact ⟨by assumption, by omega, by omega, by omega, by omega, by omega⟩), (fun σ2 x2 h2a h2b => ?_)⟩
    intro _ _
    exact hG _ _ (by assumption) (Or.inr (Or.inr (Or.inl ⟨by omega, _, by assumption, rfl⟩)))
  · skip
    refine ⟨(by exact ⟨hM, by omega, by omega⟩), (fun l2 f2 h2a => ?_)⟩
    intro _ _
    exact hG _ _ Fr_refl (Or.inr (Or.inr (Or.inr (Or.inl ⟨by omega, by omega, _, _, by assumption, rfl⟩))))
  · skip
    refine ⟨(by exact ⟨hM, by omega, by omega⟩), (fun l2 f2 h2a => ?_)⟩
    intro _ _
    exact hG _ _ Fr_refl (Or.inr (Or.inr (Or.inr (Or.inl ⟨by omega, by omega, _, _, by assumption, rfl⟩))))
  · skip
    exact hG _ _ Fr_refl (Or.inr (Or.inr (Or.inr (Or.inr ⟨by omega, rfl⟩))))
theorem H_Mo_mirrors {d : Nat} (hd : 6 ≤ d) : Holds d I_Mo_mirrors S_Mo_mirrors := by
  refine holds_of (d' := d - 1) (rt := 1) (cal := [(I_Mo_mirrorsMany, S_Mo_mirrorsMany), (I_Mo_fewest, S_Mo_fewest), (I_Mo_longestMirror, S_Mo_longestMirror)]) (C := C_Mo_mirrors) m_Mo_mirrors o_Mo_mirrors rfl rfl (by omega) ?_ ?_
  · intro x hx
    simp only [List.mem_cons, List.not_mem_nil, or_false] at hx
    rcases hx with rfl | rfl | rfl
    · exact H_Mo_mirrorsMany (by omega)
    · exact H_Mo_fewest (by omega)
    · exact H_Mo_longestMirror (by omega)
  · intro as σ K has hσ hG
    have hG2 := hG
    unfold S_Mo_mirrors at hG2
    split at hG2
    · next a1 =>
      refine ⟨Nat.le_of_ble_eq_true rfl, (fun _ => none), ?_, 1000, ?_⟩
      · intro k n z L σ' hk hL hs hP
        cases hk
      · exact e_Mo_mirrors a1 σ K (has _ (List.mem_of_getElem? (i := 1) rfl)) hσ hG
    · exact hG2.elim
