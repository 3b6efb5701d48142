/-! the reference: seeds -/
def SmL : List (Nat × Nat) := [(45, 0), (589, 0), (590, 0)]
theorem smF {σ σ' : SS} (h : Fr SmL σ σ') : mW σ' = mW σ ∧ (σ' 40 0 0) = (σ 40 0 0) := by
  have e : σ' 40 0 = σ 40 0 := h _ _ (by simp [SmL])
  unfold mW
  rw [e]
  exact ⟨rfl, rfl⟩
theorem smM {σ σ' : SS} (hM : MoW σ) (h : Fr SmL σ σ') : MoW σ' := by
  obtain ⟨e1, e2⟩ := smF h
  unfold MoW
  rw [e1, e2]
  exact hM
def SmT (σ : SS) (w : Int → Int) (n : Int) : Prop := ∀ k, 0 ≤ k → k < σ 589 0 0 → kthP (sdP w n) n k (σ 45 0 (2 * k)) (σ 45 0 (2 * k + 1))
def SmV (σ : SS) : Prop := (σ 589 0 0 = allS (sdP (mW σ) (σ 40 0 0)) (σ 40 0 0) ∧ 0 ≤ σ 589 0 0 ∧ σ 589 0 0 ≤ 7260) ∧ SmT σ (mW σ) (σ 40 0 0)
def SmC (σ : SS) : Prop := σ 590 0 0 ≠ 0 → SmV σ
def S_Mo_liesAt : GS := fun as σ K => match as with
  | [some (.inr (.inr (12, 0))), some (.inl a1), some (.inl a2), some (.inl a3)] => (MoW σ ∧ 0 ≤ a1 ∧ 1 ≤ a2 ∧ a1 + a2 ≤ (σ 40 0 0) ∧ 1 - a2 ≤ a3 ∧ a3 < (σ 40 0 0)) ∧ bS (liesP (mW σ) (σ 40 0 0) a1 a2 a3) K σ
  | _ => False
def VE_Mo_liesAt (a1 : Int) (a2 : Int) (a3 : Int) (σ : SS) (K : AV → SS → Prop) : Prop :=
  (((0 : Int) ≤ a3 →
    (S_Mo_size [vR 12 0] σ (kI fun r1 σ1 =>
      (InR (r1 - a3) ∧
      (S_Mo_least [vI a2, vI (r1 - a3)] σ1 (kI fun r2 σ2 =>
        (InR (a1 + 0) ∧
        (InR (a3 + 0) ∧
        (InR (r2 - 0) ∧
        (S_Mo_areAlike [vR 12 0, vI (a1 + 0), vI (a3 + 0), vI (r2 - 0)] σ2 (kI fun r3 σ3 =>
          ((0 ≤ (r3 : Int) ∧ (r3 : Int) ≤ 1) ∧ K (vI r3) σ3)))))))))))) ∧
  (a3 < 0 →
    (InR (-a3) ∧
    (S_Mo_size [vR 12 0] σ (kI fun r4 σ4 =>
      (InR (r4 - a3) ∧
      (S_Mo_least [vI a2, vI (r4 - a3)] σ4 (kI fun r5 σ5 =>
        (InR (a1 + (-a3)) ∧
        (InR (a3 + (-a3)) ∧
        (InR (r5 - (-a3)) ∧
        (S_Mo_areAlike [vR 12 0, vI (a1 + (-a3)), vI (a3 + (-a3)), vI (r5 - (-a3))] σ5 (kI fun r6 σ6 =>
          ((0 ≤ (r6 : Int) ∧ (r6 : Int) ≤ 1) ∧ K (vI r6) σ6))))))))))))))
theorem e_Mo_liesAt (a1 : Int) (a2 : Int) (a3 : Int) (σ : SS) (K : AV → SS → Prop) (ha1 : InR a1) (ha2 : InR a2) (ha3 : InR a3) (hs : okS σ) (hG : S_Mo_liesAt [vR 12 0, vI a1, vI a2, vI a3] σ K) : VE_Mo_liesAt a1 a2 a3 σ K := by
  unfold VE_Mo_liesAt
  obtain ⟨⟨hM, h1, h2, h3, h4, h5⟩, hG⟩ := hG
  have hb := hM.n
  have key : ∀ f, f = max 0 (-a3) → (eqs (mW σ) (a1 + f) (a3 + f) (min a2 ((σ 40 0 0) - a3) - f) ↔ liesP (mW σ) (σ 40 0 0) a1 a2 a3) := fun f hf => by
    constructor
    · intro h t t0 t1 t2 t3
      have := h (t - f) (by omega) (by omega)
      rwa [show a1 + f + (t - f) = a1 + t by omega, show a3 + f + (t - f) = a3 + t by omega] at this
    · intro h t t0 t1
      have := h (f + t) (by omega) (by omega) (by omega) (by omega)
      rwa [show a1 + (f + t) = a1 + f + t by omega, show a3 + (f + t) = a3 + f + t by omega] at this
  refine ⟨fun c1 => ?_, fun c1 => ?_⟩
  · skip
    intro _ _
    refine ⟨(by omega), ?_⟩
    intro _ _
    refine ⟨(by omega), ?_⟩
    refine ⟨(by omega), ?_⟩
    refine ⟨(by omega), ?_⟩
    refine ⟨(by exact ⟨by omega, by omega, by omega, by omega, by omega, by omega⟩), ?_⟩
    refine bS_r (fun p2 _ => ?_) (fun p2 _ => ?_)
    · skip
      exact bS_y hG ((key 0 (by omega)).mp (by assumption))
    · skip
      exact bS_n hG (fun z => absurd ((key 0 (by omega)).mpr z) (by assumption))
  · skip
    refine ⟨(by omega), ?_⟩
    intro _ _
    refine ⟨(by omega), ?_⟩
    intro _ _
    refine ⟨(by omega), ?_⟩
    refine ⟨(by omega), ?_⟩
    refine ⟨(by omega), ?_⟩
    refine ⟨(by exact ⟨by omega, by omega, by omega, by omega, by omega, by omega⟩), ?_⟩
    refine bS_r (fun p2 _ => ?_) (fun p2 _ => ?_)
    · skip
      exact bS_y hG ((key (-a3) (by omega)).mp (by assumption))
    · skip
      exact bS_n hG (fun z => absurd ((key (-a3) (by omega)).mpr z) (by assumption))
theorem H_Mo_liesAt {d : Nat} (hd : 4 ≤ d) : Holds d I_Mo_liesAt S_Mo_liesAt := by
  refine holds_of (d' := d - 1) (rt := 2) (cal := [(I_Mo_size, S_Mo_size), (I_Mo_least, S_Mo_least), (I_Mo_areAlike, S_Mo_areAlike)]) (C := C_Mo_liesAt) m_Mo_liesAt o_Mo_liesAt rfl rfl (by omega) ?_ ?_
  · intro x hx
    simp only [List.mem_cons, List.not_mem_nil, or_false] at hx
    rcases hx with rfl | rfl | rfl
    · exact H_Mo_size (by omega)
    · exact H_Mo_least (by omega)
    · exact H_Mo_areAlike (by omega)
  · intro as σ K has hσ hG
    have hG2 := hG
    unfold S_Mo_liesAt at hG2
    split at hG2
    · next a1 a2 a3 =>
      refine ⟨Nat.le_of_ble_eq_true rfl, (fun _ => none), ?_, 1000, ?_⟩
      · intro k n z L σ' hk hL hs hP
        cases hk
      · exact e_Mo_liesAt a1 a2 a3 σ K (has _ (List.mem_of_getElem? (i := 1) rfl)) (has _ (List.mem_of_getElem? (i := 2) rfl)) (has _ (List.mem_of_getElem? (i := 3) rfl)) hσ hG
    · exact hG2.elim
def S_Mo_isSeed : GS := fun as σ K => match as with
  | [some (.inr (.inr (12, 0))), some (.inl a1), some (.inl a2)] => (MoW σ ∧ 0 ≤ a1 ∧ 1 ≤ a2 ∧ a1 + a2 ≤ (σ 40 0 0)) ∧ bS (sdC (mW σ) (σ 40 0 0) a1 a2) K σ
  | _ => False
abbrev Lp_Mo_isSeed_6 (a1 : Int) (a2 : Int) (σ0 : SS) (n : Nat) (L : List AV) (σ : SS) : Prop := ∃ (v3 : Int) (v4 : Int), L = [vR 12 0, vI a1, vI a2, vI v3, vI v4] ∧ n = (1000 - v4).toNat ∧ ((σ = σ0) ∧ (0 ≤ v3 ∧ v3 ≤ 240) ∧ (1 - a2 ≤ v4 ∧ v4 ≤ (σ0 40 0 0) ∧ v3 < v4 + a2) ∧ (∀ x, 0 ≤ x → x < v3 → x < (σ0 40 0 0) → ∃ o, o ≤ x ∧ x < o + a2 ∧ liesP (mW σ0) (σ0 40 0 0) a1 a2 o) ∧ (∀ o, 1 - a2 ≤ o → o < v4 → liesP (mW σ0) (σ0 40 0 0) a1 a2 o → o + a2 ≤ v3))
def Iv_Mo_isSeed (a1 : Int) (a2 : Int) (σ0 : SS) (k : Nat) : Option (List Nat × (Nat → List AV → SS → Prop)) := match k with
  | 6 => some ([], Lp_Mo_isSeed_6 a1 a2 σ0)
  | _ => none
def VE_Mo_isSeed (a1 : Int) (a2 : Int) (σ : SS) (K : AV → SS → Prop) : Prop :=
  (InR (1 - a2) ∧
  (∃ n', Lp_Mo_isSeed_6 a1 a2 σ n' [vR 12 0, vI a1, vI a2, vI 0, vI (1 - a2)] σ))
def VL_Mo_isSeed_6 (a1 : Int) (a2 : Int) (σ0 : SS) (K : AV → SS → Prop) (v3 : Int) (v4 : Int) (σ : SS) (n : Nat) : Prop :=
  (S_Mo_size [vR 12 0] σ (kI fun r1 σ1 =>
    ((r1 ≤ v4 →
      (S_Mo_size [vR 12 0] σ1 (kI fun r2 σ2 =>
        ((v3 < r2 →
          ((0 ≤ (0 : Int) ∧ (0 : Int) ≤ 1) ∧ K (vI 0) σ2)) ∧
        (r2 ≤ v3 →
          ((0 ≤ (1 : Int) ∧ (1 : Int) ≤ 1) ∧ K (vI 1) σ2)))))) ∧
    (v4 < r1 →
      ((v3 < v4 →
        (S_Mo_size [vR 12 0] σ1 (kI fun r3 σ3 =>
          ((v3 < r3 →
            ((0 ≤ (0 : Int) ∧ (0 : Int) ≤ 1) ∧ K (vI 0) σ3)) ∧
          (r3 ≤ v3 →
            ((0 ≤ (1 : Int) ∧ (1 : Int) ≤ 1) ∧ K (vI 1) σ3)))))) ∧
      (v4 ≤ v3 →
        (S_Mo_liesAt [vR 12 0, vI a1, vI a2, vI v4] σ1 (kI fun r4 σ4 =>
          ((r4 = 0 →
            (InR (v4 + 1) ∧
            (∃ n', n' < n ∧ Lp_Mo_isSeed_6 a1 a2 σ0 n' [vR 12 0, vI a1, vI a2, vI v3, vI (v4 + 1)] σ4))) ∧
          (r4 ≠ 0 →
            (InR (v4 + a2) ∧
            (InR (v4 + 1) ∧
            (∃ n', n' < n ∧ Lp_Mo_isSeed_6 a1 a2 σ0 n' [vR 12 0, vI a1, vI a2, vI (v4 + a2), vI (v4 + 1)] σ4)))))))))))))
theorem l_Mo_isSeed_6 (a1 : Int) (a2 : Int) (σ0 : SS) (K : AV → SS → Prop) (ha1 : InR a1) (ha2 : InR a2) (hs0 : okS σ0) (hG : S_Mo_isSeed [vR 12 0, vI a1, vI a2] σ0 K) (v3 : Int) (v4 : Int) (σ : SS) (hv3 : InR v3) (hv4 : InR v4) (hs : okS σ) (n : Nat) (hn : n = (1000 - v4).toNat) (hQ : (σ = σ0) ∧ (0 ≤ v3 ∧ v3 ≤ 240) ∧ (1 - a2 ≤ v4 ∧ v4 ≤ (σ0 40 0 0) ∧ v3 < v4 + a2) ∧ (∀ x, 0 ≤ x → x < v3 → x < (σ0 40 0 0) → ∃ o, o ≤ x ∧ x < o + a2 ∧ liesP (mW σ0) (σ0 40 0 0) a1 a2 o) ∧ (∀ o, 1 - a2 ≤ o → o < v4 → liesP (mW σ0) (σ0 40 0 0) a1 a2 o → o + a2 ≤ v3)) : VL_Mo_isSeed_6 a1 a2 σ0 K v3 v4 σ n := by
  unfold VL_Mo_isSeed_6
  obtain ⟨⟨hM, h1, h2, h3⟩, hG⟩ := hG
  have hb := hM.n
  obtain ⟨rfl, q1, q2, q3, q4⟩ := hQ
  have yes : (σ 40 0 0) ≤ v3 → sdC (mW σ) (σ 40 0 0) a1 a2 := fun z x x0 x1 => q3 x x0 (by omega) x1
  have no : v3 < (σ 40 0 0) → ((σ 40 0 0) ≤ v4 ∨ v3 < v4) → ¬ sdC (mW σ) (σ 40 0 0) a1 a2 := fun z y k => by
    obtain ⟨o, o1, o2, o3⟩ := k v3 q1.1 z
    have := q4 o (by omega) (by omega) o3
    omega
  intro _ _
  refine ⟨fun c1 => ?_, fun c1 => ?_⟩
  · skip
    intro _ _
    refine ⟨fun c2 => ?_, fun c2 => ?_⟩
    · skip
      first | exact bS_n hG (no (by omega) (by omega)) | exact bS_y hG (yes (by omega))
    · skip
      first | exact bS_n hG (no (by omega) (by omega)) | exact bS_y hG (yes (by omega))
  · skip
    refine ⟨fun c2 => ?_, fun c2 => ?_⟩
    · skip
      intro _ _
      refine ⟨fun c3 => ?_, fun c3 => ?_⟩
      · skip
        first | exact bS_n hG (no (by omega) (by omega)) | exact bS_y hG (yes (by omega))
      · skip
        first | exact bS_n hG (no (by omega) (by omega)) | exact bS_y hG (yes (by omega))
    · skip
      refine ⟨(by exact ⟨hM, h1, h2, h3, by omega, by omega⟩), ?_⟩
      refine bS_b0 (fun p3 _ => ?_) (fun p3 _ => ?_)
      · skip
        refine ⟨(by omega), ?_⟩
        refine ⟨(by omega), ?_⟩
        refine ⟨_, ?_, _, _, rfl, rfl, ?_⟩
        · omega
        · refine ⟨?_, ?_, ?_, ?_, ?_⟩
          · first | rfl | assumption | omega
          · first | rfl | assumption | omega
          · first | rfl | assumption | omega
          · intro x x0 x1 x2
            rcases (by omega : x < v3 ∨ v3 ≤ x) with z | z
            · exact q3 x x0 z x2
            · exact ⟨v4, by omega, x1, by assumption⟩
          · intro o o0 o1 o2
            rcases (by omega : o < v4 ∨ o = v4) with z | rfl
            · have := q4 o o0 z o2; omega
            · omega
      · skip
        refine ⟨(by omega), ?_⟩
        refine ⟨_, ?_, _, _, rfl, rfl, ?_⟩
        · omega
        · refine ⟨?_, ?_, ?_, ?_, ?_⟩
          · first | rfl | assumption | omega
          · first | rfl | assumption | omega
          · first | rfl | assumption | omega
          · first | rfl | assumption | omega
          · intro o o0 o1 o2
            rcases (by omega : o < v4 ∨ o = v4) with z | rfl
            · exact q4 o o0 z o2
            · exact absurd o2 (by assumption)
theorem e_Mo_isSeed (a1 : Int) (a2 : Int) (σ : SS) (K : AV → SS → Prop) (ha1 : InR a1) (ha2 : InR a2) (hs : okS σ) (hG : S_Mo_isSeed [vR 12 0, vI a1, vI a2] σ K) : VE_Mo_isSeed a1 a2 σ K := by
  unfold VE_Mo_isSeed
  obtain ⟨⟨hM, h1, h2, h3⟩, hG⟩ := hG
  have hb := hM.n
  refine ⟨(by omega), ?_⟩
  refine ⟨_, _, _, rfl, rfl, ?_⟩
  refine ⟨?_, ?_, ?_, ?_, ?_⟩
  · first | rfl | assumption | omega
  · first | rfl | assumption | omega
  · first | rfl | assumption | omega
  · exact fun x x0 x1 => by omega
  · exact fun o o0 o1 => by omega
theorem H_Mo_isSeed {d : Nat} (hd : 5 ≤ d) : Holds d I_Mo_isSeed S_Mo_isSeed := by
  refine holds_of (d' := d - 1) (rt := 2) (cal := [(I_Mo_size, S_Mo_size), (I_Mo_liesAt, S_Mo_liesAt)]) (C := C_Mo_isSeed) m_Mo_isSeed o_Mo_isSeed rfl rfl (by omega) ?_ ?_
  · intro x hx
    simp only [List.mem_cons, List.not_mem_nil, or_false] at hx
    rcases hx with rfl | rfl
    · exact H_Mo_size (by omega)
    · exact H_Mo_liesAt (by omega)
  · intro as σ K has hσ hG
    have hG2 := hG
    unfold S_Mo_isSeed at hG2
    split at hG2
    · next a1 a2 =>
      refine ⟨Nat.le_of_ble_eq_true rfl, (Iv_Mo_isSeed a1 a2 σ), ?_, 1000, ?_⟩
      · intro k n z L σ' hk hL hs hP
        unfold Iv_Mo_isSeed at hk
        split at hk
        · cases hk
          obtain ⟨v3, v4, rfl, hn, hQ⟩ := hP
          exact ⟨1000, l_Mo_isSeed_6 a1 a2 σ K (has _ (List.mem_of_getElem? (i := 1) rfl)) (has _ (List.mem_of_getElem? (i := 2) rfl)) hσ hG v3 v4 σ' (hL _ (List.mem_of_getElem? (i := 3) rfl)) (hL _ (List.mem_of_getElem? (i := 4) rfl)) hs n hn hQ⟩
        · cases hk
      · exact e_Mo_isSeed a1 a2 σ K (has _ (List.mem_of_getElem? (i := 1) rfl)) (has _ (List.mem_of_getElem? (i := 2) rfl)) hσ hG
    · exact hG2.elim
def S_Mo_laysSeeds : GS := fun as σ K => match as with
  | [some (.inr (.inr (12, 0)))] => (MoW σ ∧ SmC σ) ∧ ∀ σ', Fr SmL σ σ' → SmV σ' → K none σ'
  | _ => False
abbrev Lp_Mo_laysSeeds_12 (σ0 : SS) (n : Nat) (L : List AV) (σ : SS) : Prop := ∃ (v1 : Int), L = [vR 12 0, vI v1, none] ∧ n = (1000 * (1000 - v1)).toNat ∧ ((Fr SmL σ0 σ) ∧ (1 ≤ v1 ∧ v1 ≤ (σ0 40 0 0) + 1) ∧ (σ 589 0 0 = cbS (sdP (mW σ0) (σ0 40 0 0)) (σ0 40 0 0) v1 0) ∧ (σ 589 0 0 ≤ tri (σ0 40 0 0) - tri ((σ0 40 0 0) - v1 + 1)) ∧ (SmT σ (mW σ0) (σ0 40 0 0)))
abbrev Lp_Mo_laysSeeds_18 (σ0 : SS) (n : Nat) (L : List AV) (σ : SS) : Prop := ∃ (v1 : Int) (v2 : Int), L = [vR 12 0, vI v1, vI v2] ∧ n = (1000 * (1000 - v1) - v2 - 1).toNat ∧ ((Fr SmL σ0 σ) ∧ (1 ≤ v1 ∧ v1 ≤ (σ0 40 0 0)) ∧ (0 ≤ v2 ∧ v2 + v1 ≤ (σ0 40 0 0) + 1) ∧ (σ 589 0 0 = cbS (sdP (mW σ0) (σ0 40 0 0)) (σ0 40 0 0) v1 v2) ∧ (σ 589 0 0 ≤ tri (σ0 40 0 0) - tri ((σ0 40 0 0) - v1 + 1) + v2) ∧ (SmT σ (mW σ0) (σ0 40 0 0)))
def Iv_Mo_laysSeeds (σ0 : SS) (k : Nat) : Option (List Nat × (Nat → List AV → SS → Prop)) := match k with
  | 12 => some ([2], Lp_Mo_laysSeeds_12 σ0)
  | 18 => some ([], Lp_Mo_laysSeeds_18 σ0)
  | _ => none
def VE_Mo_laysSeeds (σ : SS) (K : AV → SS → Prop) : Prop :=
  (((σ 590 0 0) = 0 →
    ((0 ≤ (1 : Int) ∧ (1 : Int) ≤ 1) ∧ (∀ σ1 : SS, σ1 = u3 σ 590 0 0 1 →
    (∀ σ2 : SS, σ2 = u3 σ1 589 0 0 0 →
    (∃ n', Lp_Mo_laysSeeds_12 σ n' [vR 12 0, vI 1, none] σ2))))) ∧
  ((σ 590 0 0) ≠ 0 →
    (K none σ)))
def VL_Mo_laysSeeds_12 (σ0 : SS) (K : AV → SS → Prop) (v1 : Int) (σ : SS) (n : Nat) : Prop :=
  (S_Mo_size [vR 12 0] σ (kI fun r1 σ1 =>
    ((r1 < v1 →
      (K none σ1)) ∧
    (v1 ≤ r1 →
      (∃ n', n' < n ∧ Lp_Mo_laysSeeds_18 σ0 n' [vR 12 0, vI v1, vI 0] σ1)))))
def VL_Mo_laysSeeds_18 (σ0 : SS) (K : AV → SS → Prop) (v1 : Int) (v2 : Int) (σ : SS) (n : Nat) : Prop :=
  (InR (v2 + v1) ∧
  (S_Mo_size [vR 12 0] σ (kI fun r1 σ1 =>
    ((r1 < (v2 + v1) →
      (InR (v1 + 1) ∧
      (∃ n', n' < n ∧ Lp_Mo_laysSeeds_12 σ0 n' [vR 12 0, vI (v1 + 1), none] σ1))) ∧
    ((v2 + v1) ≤ r1 →
      (S_Mo_isSeed [vR 12 0, vI v2, vI v1] σ1 (kI fun r2 σ2 =>
        ((r2 = 0 →
          (InR (v2 + 1) ∧
          (∃ n', n' < n ∧ Lp_Mo_laysSeeds_18 σ0 n' [vR 12 0, vI v1, vI (v2 + 1)] σ2))) ∧
        (r2 ≠ 0 →
          (S_Mo_isEarlier [vR 12 0, vI v2, vI v1] σ2 (kI fun r3 σ3 =>
            ((r3 = 0 →
              (InR (2 * (σ3 589 0 0)) ∧
              ((0 ≤ (2 * (σ3 589 0 0) : Int) ∧ (2 * (σ3 589 0 0) : Int) < 14520) ∧ ∀ σ4 : SS, σ4 = u3 σ3 45 0 (2 * (σ3 589 0 0)) v1 →
              (InR (2 * (σ4 589 0 0)) ∧
              (InR ((2 * (σ4 589 0 0)) + 1) ∧
              ((0 ≤ ((2 * (σ4 589 0 0)) + 1 : Int) ∧ ((2 * (σ4 589 0 0)) + 1 : Int) < 14520) ∧ ∀ σ5 : SS, σ5 = u3 σ4 45 0 ((2 * (σ4 589 0 0)) + 1) v2 →
              (InR ((σ5 589 0 0) + 1) ∧
              (∀ σ6 : SS, σ6 = u3 σ5 589 0 0 ((σ5 589 0 0) + 1) →
              (InR (v2 + 1) ∧
              (∃ n', n' < n ∧ Lp_Mo_laysSeeds_18 σ0 n' [vR 12 0, vI v1, vI (v2 + 1)] σ6)))))))))) ∧
            (r3 ≠ 0 →
              (InR (v2 + 1) ∧
              (∃ n', n' < n ∧ Lp_Mo_laysSeeds_18 σ0 n' [vR 12 0, vI v1, vI (v2 + 1)] σ3)))))))))))))))
theorem l_Mo_laysSeeds_12 (σ0 : SS) (K : AV → SS → Prop) (hs0 : okS σ0) (hG : S_Mo_laysSeeds [vR 12 0] σ0 K) (v1 : Int) (σ : SS) (hv1 : InR v1) (hs : okS σ) (n : Nat) (hn : n = (1000 * (1000 - v1)).toNat) (hQ : (Fr SmL σ0 σ) ∧ (1 ≤ v1 ∧ v1 ≤ (σ0 40 0 0) + 1) ∧ (σ 589 0 0 = cbS (sdP (mW σ0) (σ0 40 0 0)) (σ0 40 0 0) v1 0) ∧ (σ 589 0 0 ≤ tri (σ0 40 0 0) - tri ((σ0 40 0 0) - v1 + 1)) ∧ (SmT σ (mW σ0) (σ0 40 0 0))) : VL_Mo_laysSeeds_12 σ0 K v1 σ n := by
  unfold VL_Mo_laysSeeds_12
  obtain ⟨⟨hM, hS⟩, hG⟩ := hG
  have hb := hM.n
  obtain ⟨q0, q1, q2, q3, q4⟩ := hQ
  obtain ⟨w1, w2⟩ := smF q0
  have t4 : tri (σ0 40 0 0) ≤ 7260 := by
    have e : tri 120 = 7260 := by decide
    rcases (by omega : (σ0 40 0 0) = 120 ∨ (σ0 40 0 0) < 120) with z | z
    · rw [z, e]; exact Int.le_refl _
    · have := tri_le hb.1 z; omega
  intro _ _
  refine ⟨fun c1 => ?_, fun c1 => ?_⟩
  · skip
    refine hG _ q0 ⟨?_, ?_⟩
    · have ci := CB_in (P := sdP (mW σ0) (σ0 40 0 0)) (n := (σ0 40 0 0)) (h0 := v1) (i0 := 0) rfl hb.1 hb.2 (by omega) (by omega)
      have t3 := tri_in (h := (σ0 40 0 0) - v1 + 1) (by omega) (by omega)
      refine ⟨?_, by omega, by omega⟩
      rw [w1, w2, q2, show v1 = (σ0 40 0 0) + 1 by omega]; rfl
    · rw [w1, w2]; exact q4
  · skip
    refine ⟨_, ?_, _, _, rfl, rfl, ?_⟩
    · omega
    · refine ⟨?_, ?_, ?_, ?_, ?_, ?_⟩
      · first | rfl | assumption | omega
      · first | rfl | assumption | omega
      · first | rfl | assumption | omega
      · first | rfl | assumption | omega
      · first | rfl | assumption | omega
      · first | rfl | assumption | omega
theorem l_Mo_laysSeeds_18 (σ0 : SS) (K : AV → SS → Prop) (hs0 : okS σ0) (hG : S_Mo_laysSeeds [vR 12 0] σ0 K) (v1 : Int) (v2 : Int) (σ : SS) (hv1 : InR v1) (hv2 : InR v2) (hs : okS σ) (n : Nat) (hn : n = (1000 * (1000 - v1) - v2 - 1).toNat) (hQ : (Fr SmL σ0 σ) ∧ (1 ≤ v1 ∧ v1 ≤ (σ0 40 0 0)) ∧ (0 ≤ v2 ∧ v2 + v1 ≤ (σ0 40 0 0) + 1) ∧ (σ 589 0 0 = cbS (sdP (mW σ0) (σ0 40 0 0)) (σ0 40 0 0) v1 v2) ∧ (σ 589 0 0 ≤ tri (σ0 40 0 0) - tri ((σ0 40 0 0) - v1 + 1) + v2) ∧ (SmT σ (mW σ0) (σ0 40 0 0))) : VL_Mo_laysSeeds_18 σ0 K v1 v2 σ n := by
  unfold VL_Mo_laysSeeds_18
  obtain ⟨⟨hM, hS⟩, hG⟩ := hG
  have hb := hM.n
  obtain ⟨q0, q1, q2, q3, q4, q5⟩ := hQ
  obtain ⟨w1, w2⟩ := smF q0
  have hM1 := smM hM q0
  have t1 := tri_succ (h := (σ0 40 0 0) - v1)
  have t2 := tri_in (h := (σ0 40 0 0)) hb.1 hb.2
  have t3 := tri_in (h := (σ0 40 0 0) - v1) (by omega) (by omega)
  have t4 : tri (σ0 40 0 0) ≤ 7260 := by
    have e : tri 120 = 7260 := by decide
    rcases (by omega : (σ0 40 0 0) = 120 ∨ (σ0 40 0 0) < 120) with z | z
    · rw [z, e]; exact Int.le_refl _
    · have := tri_le hb.1 z; omega
  have ci := CB_in (P := sdP (mW σ0) (σ0 40 0 0)) (n := (σ0 40 0 0)) (h0 := v1) (i0 := v2) rfl hb.1 hb.2 (by omega) (by omega)
  refine ⟨(by omega), ?_⟩
  intro _ _
  refine ⟨fun c1 => ?_, fun c1 => ?_⟩
  · skip
    refine ⟨(by omega), ?_⟩
    refine ⟨_, ?_, _, rfl, rfl, ?_⟩
    · omega
    · refine ⟨?_, ?_, ?_, ?_, ?_⟩
      · first | rfl | assumption | omega
      · first | rfl | assumption | omega
      · exact CB_row q3 q1.1 q2.1 (by omega) (fun x x0 z => by have := z.2.2.1; omega)
      · rw [show (σ0 40 0 0) - (v1 + 1) + 1 = (σ0 40 0 0) - v1 by omega]; omega
      · first | rfl | assumption | omega
  · skip
    refine ⟨(by rw [w2]; exact ⟨hM1, q2.1, q1.1, by omega⟩), ?_⟩
    refine bS_b0 (fun p2 _ => ?_) (fun p2 _ => ?_)
    · skip
      rw [w1, w2] at p2
      refine ⟨(by rw [w2]; exact ⟨hM1, q2.1, by omega, by omega⟩), ?_⟩
      refine bS_b0 (fun p3 _ => ?_) (fun p3 _ => ?_)
      · skip
        rw [w1] at p3
        refine ⟨(by omega), ?_⟩
        refine ⟨_, ?_, _, _, rfl, rfl, ?_⟩
        · omega
        · refine ⟨?_, ?_, ?_, ?_, ?_, ?_⟩
          · first | rfl | assumption | omega
          · first | rfl | assumption | omega
          · first | rfl | assumption | omega
          · exact CB_no q3 q2.1 (fun z => z.2.2.2.1 p3)
          · first | rfl | assumption | omega
          · first | rfl | assumption | omega
      · skip
        rw [w1] at p3
        have sd : sdP (mW σ0) (σ0 40 0 0) v2 v1 := ⟨q2.1, q1.1, by omega, p3, p2⟩
        refine ⟨(by omega), ?_⟩
        refine ⟨(by omega), fun σ4 e4 => ?_⟩
        have m4 : σ4 589 0 = σ 589 0 := by rw [e4, u3_F (by decide)]
        refine ⟨(by rw [m4]; omega), ?_⟩
        refine ⟨(by rw [m4]; omega), ?_⟩
        refine ⟨(by rw [m4]; omega), fun σ5 e5 => ?_⟩
        have m5 : σ5 589 0 = σ 589 0 := by rw [e5, u3_F (by decide), m4]
        have fr : Fr SmL σ σ5 := by rw [e5, e4]; exact Fr_trans (Fr_u3 (by simp [SmL])) (Fr_u3 (by simp [SmL]))
        have sv : ∀ x, σ5 45 0 x = if x = 2 * σ 589 0 0 + 1 then v2 else if x = 2 * σ 589 0 0 then v1 else σ 45 0 x := fun x => by rw [e5, u3_e, m4, e4, u3_e]
        refine ⟨(by rw [m5]; omega), ?_⟩
        refine fun σ6 e6 => ?_
        refine ⟨(by omega), ?_⟩
        refine ⟨_, ?_, _, _, rfl, rfl, ?_⟩
        · omega
        · refine ⟨?_, ?_, ?_, ?_, ?_, ?_⟩
          · rw [e6]; exact Fr_trans q0 (Fr_trans fr (Fr_u3 (by simp [SmL])))
          · first | rfl | assumption | omega
          · first | rfl | assumption | omega
          · rw [e6, u3_s, m5]; exact CB_yes q3 q2.1 sd
          · rw [e6, u3_s, m5]; omega
          · intro k k0 k1
            rw [e6, u3_s, m5] at k1
            rw [e6, u3_f (by decide), u3_f (by decide), sv, sv]
            rcases (by omega : k < σ 589 0 0 ∨ k = σ 589 0 0) with z | z
            · rw [if_neg (by omega), if_neg (by omega), if_neg (by omega), if_neg (by omega)]
              exact q5 k k0 z
            · rw [if_neg (by omega), if_pos (by omega), if_pos (by omega)]
              exact ⟨sd, by rw [z, q3]⟩
    · skip
      rw [w1, w2] at p2
      refine ⟨(by omega), ?_⟩
      refine ⟨_, ?_, _, _, rfl, rfl, ?_⟩
      · omega
      · refine ⟨?_, ?_, ?_, ?_, ?_, ?_⟩
        · first | rfl | assumption | omega
        · first | rfl | assumption | omega
        · first | rfl | assumption | omega
        · exact CB_no q3 q2.1 (fun z => p2 z.2.2.2.2)
        · first | rfl | assumption | omega
        · first | rfl | assumption | omega
theorem e_Mo_laysSeeds (σ : SS) (K : AV → SS → Prop) (hs : okS σ) (hG : S_Mo_laysSeeds [vR 12 0] σ K) : VE_Mo_laysSeeds σ K := by
  unfold VE_Mo_laysSeeds
  obtain ⟨⟨hM, hS⟩, hG⟩ := hG
  have hb := hM.n
  refine ⟨fun c1 => ?_, fun c1 => ?_⟩
  · skip
    refine ⟨(by omega), fun σ2 e2 => ?_⟩
    refine fun σ3 e3 => ?_
    refine ⟨_, _, rfl, rfl, ?_⟩
    refine ⟨?_, ?_, ?_, ?_, ?_⟩
    · rw [e3, e2]; exact Fr_trans (Fr_u3 (by simp [SmL])) (Fr_u3 (by simp [SmL]))
    · first | rfl | assumption | omega
    · rw [e3, u3_s]; exact CB_0.symm
    · rw [e3, u3_s, show (σ 40 0 0) - 1 + 1 = (σ 40 0 0) by omega]; omega
    · intro k k0 k1
      rw [e3, u3_s] at k1
      omega
  · skip
    exact hG _ Fr_refl (hS (by assumption))
theorem H_Mo_laysSeeds {d : Nat} (hd : 6 ≤ d) : Holds d I_Mo_laysSeeds S_Mo_laysSeeds := by
  refine holds_of (d' := d - 1) (rt := 0) (cal := [(I_Mo_size, S_Mo_size), (I_Mo_isSeed, S_Mo_isSeed), (I_Mo_isEarlier, S_Mo_isEarlier)]) (C := C_Mo_laysSeeds) m_Mo_laysSeeds o_Mo_laysSeeds rfl rfl (by omega) ?_ ?_
  · intro x hx
    simp only [List.mem_cons, List.not_mem_nil, or_false] at hx
    rcases hx with rfl | rfl | rfl
    · exact H_Mo_size (by omega)
    · exact H_Mo_isSeed (by omega)
    · exact H_Mo_isEarlier (by omega)
  · intro as σ K has hσ hG
    have hG2 := hG
    unfold S_Mo_laysSeeds at hG2
    split at hG2
    · skip
      refine ⟨Nat.le_of_ble_eq_true rfl, (Iv_Mo_laysSeeds σ), ?_, 1000, ?_⟩
      · intro k n z L σ' hk hL hs hP
        unfold Iv_Mo_laysSeeds at hk
        split at hk
        · cases hk
          obtain ⟨v1, rfl, hn, hQ⟩ := hP
          exact ⟨1000, l_Mo_laysSeeds_12 σ K  hσ hG v1 σ' (hL _ (List.mem_of_getElem? (i := 1) rfl)) hs n hn hQ⟩
        · cases hk
          obtain ⟨v1, v2, rfl, hn, hQ⟩ := hP
          exact ⟨1000, l_Mo_laysSeeds_18 σ K  hσ hG v1 v2 σ' (hL _ (List.mem_of_getElem? (i := 1) rfl)) (hL _ (List.mem_of_getElem? (i := 2) rfl)) hs n hn hQ⟩
        · cases hk
      · exact e_Mo_laysSeeds σ K  hσ hG
    · exact hG2.elim
def S_Mo_seed : GS := fun as σ K => match as with
  | [some (.inr (.inr (12, 0))), some (.inl a1), some (.inl a2)] => (MoW σ ∧ SmC σ) ∧ ∀ σ' r, Fr SmL σ σ' → SmV σ' → RSeed (mW σ) (σ 40 0 0) a1 a2 r → K (vI r) σ'
  | _ => False
def VE_Mo_seed (a1 : Int) (a2 : Int) (σ : SS) (K : AV → SS → Prop) : Prop :=
  (S_Mo_laysSeeds [vR 12 0] σ (kV fun σ1 =>
    ((a1 ≠ (-1) →
      (InR ((σ1 589 0 0) - 1) ∧
      (S_Mo_in [vL a1, vL 0, vL ((σ1 589 0 0) - 1)] σ1 (kI fun r2 σ2 =>
        ((r2 = 0 →
          (K (vI (-1)) σ2)) ∧
        (r2 ≠ 0 →
          (S_Mo_in [vL a2, vL 0, vL 1] σ2 (kI fun r3 σ3 =>
            ((r3 = 0 →
              (K (vI (-1)) σ3)) ∧
            (r3 ≠ 0 →
              (InR (2 * a1) ∧
              (InR ((2 * a1) + a2) ∧
              ((0 ≤ ((2 * a1) + a2 : Int) ∧ ((2 * a1) + a2 : Int) < 14520) ∧
              (K (vI (σ3 45 0 ((2 * a1) + a2))) σ3)))))))))))))) ∧
    (a1 = (-1) →
      ((a2 ≠ 0 →
        (InR ((σ1 589 0 0) - 1) ∧
        (S_Mo_in [vL a1, vL 0, vL ((σ1 589 0 0) - 1)] σ1 (kI fun r4 σ4 =>
          ((r4 = 0 →
            (K (vI (-1)) σ4)) ∧
          (r4 ≠ 0 →
            (S_Mo_in [vL a2, vL 0, vL 1] σ4 (kI fun r5 σ5 =>
              ((r5 = 0 →
                (K (vI (-1)) σ5)) ∧
              (r5 ≠ 0 →
                (InR (2 * a1) ∧
                (InR ((2 * a1) + a2) ∧
                ((0 ≤ ((2 * a1) + a2 : Int) ∧ ((2 * a1) + a2 : Int) < 14520) ∧
                (K (vI (σ5 45 0 ((2 * a1) + a2))) σ5)))))))))))))) ∧
      (a2 = 0 →
        (K (vI (σ1 589 0 0)) σ1)))))))
theorem e_Mo_seed (a1 : Int) (a2 : Int) (σ : SS) (K : AV → SS → Prop) (ha1 : InR a1) (ha2 : InR a2) (hs : okS σ) (hG : S_Mo_seed [vR 12 0, vI a1, vI a2] σ K) : VE_Mo_seed a1 a2 σ K := by
  unfold VE_Mo_seed
  obtain ⟨⟨hM, hS⟩, hG⟩ := hG
  have hb := hM.n
  refine ⟨(by exact ⟨hM, hS⟩), (fun σ1 h1a h1b => ?_)⟩
  intro _
  have hq := h1a
  have hv := h1b
  obtain ⟨w1, w2⟩ := smF hq
  obtain ⟨v1, v2⟩ := h1b
  rw [w1, w2] at v1 v2
  have val : 0 ≤ a1 → a1 < σ1 589 0 0 → 0 ≤ a2 → a2 ≤ 1 → K (vI (σ1 45 0 (2 * a1 + a2))) σ1 := fun x0 x1 x2 x3 => by
    have k1 := v2 a1 x0 x1
    have e : σ1 45 0 (2 * a1 + a2) = if a2 = 0 then σ1 45 0 (2 * a1) else σ1 45 0 (2 * a1 + 1) := by
      rcases (by omega : a2 = 0 ∨ a2 = 1) with z | z
      · rw [if_pos z, z, Int.add_zero]
      · rw [if_neg (by omega), z]
    rw [e]
    exact hG _ _ hq hv (Or.inr (Or.inl ⟨by omega, by omega, by omega, by omega, _, _, k1, rfl⟩))
  refine ⟨fun c2 => ?_, fun c2 => ?_⟩
  · skip
    refine ⟨(by omega), ?_⟩
    refine bS_b0 (fun p3 _ => ?_) (fun p3 _ => ?_)
    · skip
      refine bS_b0 (fun p4 _ => ?_) (fun p4 _ => ?_)
      · skip
        refine ⟨(by omega), ?_⟩
        refine ⟨(by omega), ?_⟩
        refine ⟨(by omega), ?_⟩
        first | exact val (by omega) (by omega) (by omega) (by omega) | exact hG _ _ hq hv (Or.inr (Or.inr ⟨fun z => by omega, fun z => by omega, rfl⟩)) | exact hG _ _ hq hv (Or.inl ⟨by omega, by omega, v1.1⟩)
      · skip
        first | exact val (by omega) (by omega) (by omega) (by omega) | exact hG _ _ hq hv (Or.inr (Or.inr ⟨fun z => by omega, fun z => by omega, rfl⟩)) | exact hG _ _ hq hv (Or.inl ⟨by omega, by omega, v1.1⟩)
    · skip
      first | exact val (by omega) (by omega) (by omega) (by omega) | exact hG _ _ hq hv (Or.inr (Or.inr ⟨fun z => by omega, fun z => by omega, rfl⟩)) | exact hG _ _ hq hv (Or.inl ⟨by omega, by omega, v1.1⟩)
  · skip
    refine ⟨fun c3 => ?_, fun c3 => ?_⟩
    · skip
      refine ⟨(by omega), ?_⟩
      refine bS_b0 (fun p4 _ => ?_) (fun p4 _ => ?_)
      · skip
        refine bS_b0 (fun p5 _ => ?_) (fun p5 _ => ?_)
        · skip
          refine ⟨(by omega), ?_⟩
          refine ⟨(by omega), ?_⟩
          refine ⟨(by omega), ?_⟩
          first | exact val (by omega) (by omega) (by omega) (by omega) | exact hG _ _ hq hv (Or.inr (Or.inr ⟨fun z => by omega, fun z => by omega, rfl⟩)) | exact hG _ _ hq hv (Or.inl ⟨by omega, by omega, v1.1⟩)
        · skip
          first | exact val (by omega) (by omega) (by omega) (by omega) | exact hG _ _ hq hv (Or.inr (Or.inr ⟨fun z => by omega, fun z => by omega, rfl⟩)) | exact hG _ _ hq hv (Or.inl ⟨by omega, by omega, v1.1⟩)
      · skip
        first | exact val (by omega) (by omega) (by omega) (by omega) | exact hG _ _ hq hv (Or.inr (Or.inr ⟨fun z => by omega, fun z => by omega, rfl⟩)) | exact hG _ _ hq hv (Or.inl ⟨by omega, by omega, v1.1⟩)
    · skip
      first | exact val (by omega) (by omega) (by omega) (by omega) | exact hG _ _ hq hv (Or.inr (Or.inr ⟨fun z => by omega, fun z => by omega, rfl⟩)) | exact hG _ _ hq hv (Or.inl ⟨by omega, by omega, v1.1⟩)
theorem H_Mo_seed {d : Nat} (hd : 7 ≤ d) : Holds d I_Mo_seed S_Mo_seed := by
  refine holds_of (d' := d - 1) (rt := 1) (cal := [(I_Mo_laysSeeds, S_Mo_laysSeeds), (I_Mo_in, S_Mo_in)]) (C := C_Mo_seed) m_Mo_seed o_Mo_seed rfl rfl (by omega) ?_ ?_
  · intro x hx
    simp only [List.mem_cons, List.not_mem_nil, or_false] at hx
    rcases hx with rfl | rfl
    · exact H_Mo_laysSeeds (by omega)
    · exact H_Mo_in (by omega)
  · intro as σ K has hσ hG
    have hG2 := hG
    unfold S_Mo_seed at hG2
    split at hG2
    · next a1 a2 =>
      refine ⟨Nat.le_of_ble_eq_true rfl, (fun _ => none), ?_, 1000, ?_⟩
      · intro k n z L σ' hk hL hs hP
        cases hk
      · exact e_Mo_seed a1 a2 σ K (has _ (List.mem_of_getElem? (i := 1) rfl)) (has _ (List.mem_of_getElem? (i := 2) rfl)) hσ hG
    · exact hG2.elim
