/-- where the PHRASES begin -/
def phF (w : Int → Int) (n : Int) : Nat → Int
  | 0 => 0
  | k + 1 => phF w n k + max 1 (earl w n (phF w n k))
theorem phF_le {w : Int → Int} {n : Int} : ∀ k : Nat, (k : Int) ≤ phF w n k
  | 0 => Int.le_refl _
  | k + 1 => by
    have := phF_le (w := w) (n := n) k
    show ((k + 1 : Nat) : Int) ≤ phF w n k + max 1 (earl w n (phF w n k))
    omega
theorem phF_mono {w : Int → Int} {n : Int} {j : Nat} : ∀ k : Nat, j ≤ k → phF w n j ≤ phF w n k := by
  intro k
  induction k with
  | zero => intro h; rw [show j = 0 by omega]; exact Int.le_refl _
  | succ k ih =>
    intro h
    rcases (by omega : j ≤ k ∨ j = k + 1) with z | z
    · have := ih z
      show phF w n j ≤ phF w n k + max 1 (earl w n (phF w n k))
      omega
    · rw [z]; exact Int.le_refl _
def srcIs (w : Int → Int) (b L r : Int) : Prop := 0 ≤ r ∧ r < b ∧ eqs w r b L ∧ ∀ x, 0 ≤ x → x < r → ¬ eqs w x b L
def phO (w : Int → Int) (n b a r : Int) : Prop := (a = 0 ∧ r = b) ∨ (a = 1 ∧ r = max 1 (earl w n b)) ∨ (a = 2 ∧ ((earl w n b = 0 ∧ r = -2) ∨ (0 < earl w n b ∧ srcIs w b (earl w n b) r))) ∨ ((a < 0 ∨ 2 < a) ∧ r = -1)
theorem phO_u {w : Int → Int} {n b a r r' : Int} (h : phO w n b a r) (h' : phO w n b a r') : r = r' := by
  unfold phO at *
  rcases h with h | h | ⟨h, h2⟩ | h <;> rcases h' with h' | h' | ⟨h', h2'⟩ | h' <;> try omega
  rcases h2 with h2 | ⟨h2, a1, a2, a3, a4⟩ <;> rcases h2' with h2' | ⟨h2', b1, b2, b3, b4⟩
  · omega
  · omega
  · omega
  · rcases (by omega : r < r' ∨ r = r' ∨ r' < r) with z | z | z
    · exact absurd a3 (b4 r a1 z)
    · exact z
    · exact absurd b3 (a4 r' b1 z)
def RPhr (w : Int → Int) (n k a r : Int) : Prop := (k = -1 ∧ a = 0 ∧ ∃ m : Nat, r = m ∧ n ≤ phF w n m ∧ ∀ j : Nat, j < m → phF w n j < n) ∨ (0 ≤ k ∧ phF w n k.toNat < n ∧ phO w n (phF w n k.toNat) a r) ∨ ((k < -1 ∨ (k = -1 ∧ a ≠ 0) ∨ (0 ≤ k ∧ n ≤ phF w n k.toNat)) ∧ r = -1)
theorem RPhr_u {w : Int → Int} {n k a r r' : Int} (h : RPhr w n k a r) (h' : RPhr w n k a r') : r = r' := by
  rcases h with ⟨h1, h2, m, h3, h4, h5⟩ | ⟨h1, h2, h3⟩ | ⟨h1, h2⟩ <;> rcases h' with ⟨g1, g2, m', g3, g4, g5⟩ | ⟨g1, g2, g3⟩ | ⟨g1, g2⟩ <;> try omega
  · rcases (by omega : m < m' ∨ m = m' ∨ m' < m) with z | z | z
    · have := g5 m z; omega
    · omega
    · have := h5 m' z; omega
  · exact phO_u h3 g3
def S_Rp_phraseBegin : GS := fun as σ K => match as with
  | [some (.inr (.inr (4, 0))), some (.inl a1)] => (TwC σ ∧ -1 ≤ a1) ∧ ∀ (σ' : SS) (r : Int), TQ σ σ' → ((a1 = -1 ∧ ∃ m : Nat, r = m ∧ (σ 501 0 0) ≤ phF (cW σ) (σ 501 0 0) m ∧ ∀ j : Nat, j < m → phF (cW σ) (σ 501 0 0) j < (σ 501 0 0)) ∨ (0 ≤ a1 ∧ phF (cW σ) (σ 501 0 0) a1.toNat < (σ 501 0 0) ∧ r = phF (cW σ) (σ 501 0 0) a1.toNat) ∨ (0 ≤ a1 ∧ (σ 501 0 0) ≤ phF (cW σ) (σ 501 0 0) a1.toNat ∧ r = -2)) → K (vI r) σ'
  | _ => False
abbrev Lp_Rp_phraseBegin_4 (a1 : Int) (σ0 : SS) (n : Nat) (L : List AV) (σ : SS) : Prop := ∃ (v2 : Int) (v3 : Int), L = [vR 4 0, vI a1, vI v2, vI v3] ∧ n = ((σ0 501 0 0) - v3).toNat ∧ ((TQ σ0 σ) ∧ (0 ≤ v2) ∧ (v3 = phF (cW σ0) (σ0 501 0 0) v2.toNat) ∧ (v3 ≤ (σ0 501 0 0)) ∧ (∀ j : Nat, j < v2.toNat → phF (cW σ0) (σ0 501 0 0) j < (σ0 501 0 0)) ∧ (0 ≤ a1 → v2 ≤ a1))
def Iv_Rp_phraseBegin (a1 : Int) (σ0 : SS) (k : Nat) : Option (List Nat × (Nat → List AV → SS → Prop)) := match k with
  | 4 => some ([], Lp_Rp_phraseBegin_4 a1 σ0)
  | _ => none
def VE_Rp_phraseBegin (a1 : Int) (σ : SS) (K : AV → SS → Prop) : Prop :=
  (∃ n', Lp_Rp_phraseBegin_4 a1 σ n' [vR 4 0, vI a1, vI 0, vI 0] σ)
def VL_Rp_phraseBegin_4 (a1 : Int) (σ0 : SS) (K : AV → SS → Prop) (v2 : Int) (v3 : Int) (σ : SS) (n : Nat) : Prop :=
  (S_Wo_size [vR 10 0] σ (kI fun r1 σ1 =>
    ((r1 ≤ v3 →
      ((a1 ≠ (-1) →
        (K (vI (-2)) σ1)) ∧
      (a1 = (-1) →
        (K (vI v2) σ1)))) ∧
    (v3 < r1 →
      ((v2 ≠ a1 →
        (InR (v2 + 1) ∧
        (S_Tw_earlier [vR 8 0, vI v3] σ1 (kI fun r2 σ2 =>
          (InR (v3 + (max 1 r2)) ∧
          (∃ n', n' < n ∧ Lp_Rp_phraseBegin_4 a1 σ0 n' [vR 4 0, vI a1, vI (v2 + 1), vI (v3 + (max 1 r2))] σ2)))))) ∧
      (v2 = a1 →
        (K (vI v3) σ1)))))))
theorem l_Rp_phraseBegin_4 (a1 : Int) (σ0 : SS) (K : AV → SS → Prop) (ha1 : InR a1) (hs0 : okS σ0) (hG : S_Rp_phraseBegin [vR 4 0, vI a1] σ0 K) (v2 : Int) (v3 : Int) (σ : SS) (hv2 : InR v2) (hv3 : InR v3) (hs : okS σ) (n : Nat) (hn : n = ((σ0 501 0 0) - v3).toNat) (hQ : (TQ σ0 σ) ∧ (0 ≤ v2) ∧ (v3 = phF (cW σ0) (σ0 501 0 0) v2.toNat) ∧ (v3 ≤ (σ0 501 0 0)) ∧ (∀ j : Nat, j < v2.toNat → phF (cW σ0) (σ0 501 0 0) j < (σ0 501 0 0)) ∧ (0 ≤ a1 → v2 ≤ a1)) : VL_Rp_phraseBegin_4 a1 σ0 K v2 v3 σ n := by
  unfold VL_Rp_phraseBegin_4
  obtain ⟨⟨hT, h1⟩, hG⟩ := hG
  have hb := hT.n
  obtain ⟨q0, q1, q2, q3, q4, q5⟩ := hQ
  obtain ⟨w1, w2⟩ := q0.w
  have hle := phF_le (w := cW σ0) (n := (σ0 501 0 0)) v2.toNat
  intro _ _
  refine ⟨fun h => ⟨fun g => ?_, fun g => ?_⟩, fun h => ⟨fun g => ⟨by omega, q0.2, fun σ' hF hT' => ?_⟩, fun g => ?_⟩⟩
  · have := phF_mono (w := cW σ0) (n := (σ0 501 0 0)) (j := v2.toNat) a1.toNat (by omega)
    exact hG _ _ q0 (Or.inr (Or.inr ⟨by omega, by omega, rfl⟩))
  · exact hG _ _ q0 (Or.inl ⟨g, v2.toNat, by omega, by omega, q4⟩)
  · rw [w1, w2]
    have q0' := q0.tr ⟨hF, hT'⟩
    have hlt : phF (cW σ0) (σ0 501 0 0) v2.toNat < (σ0 501 0 0) := by omega
    have he : earlR (cW σ0) (σ0 501 0 0) v3 = earl (cW σ0) (σ0 501 0 0) v3 := if_pos (by omega)
    rw [he]
    have hs := earl_spec (cW σ0) (n := (σ0 501 0 0)) (p := v3) (by omega)
    intro _ _
    refine ⟨by omega, _, ?_, _, _, rfl, rfl, q0', by omega, ?_, by omega, fun j hj => ?_, by omega⟩
    · omega
    · rw [show (v2 + 1).toNat = v2.toNat + 1 by omega]
      show _ = phF _ _ _ + max 1 (earl _ _ (phF _ _ _))
      rw [← q2]
    · rcases (by omega : j < v2.toNat ∨ j = v2.toNat) with z | z
      · exact q4 j z
      · rw [z]; exact hlt
  · refine hG _ _ q0 (Or.inr (Or.inl ⟨by omega, ?_, ?_⟩))
    · rw [← g, ← q2]; omega
    · rw [← g, ← q2]
theorem e_Rp_phraseBegin (a1 : Int) (σ : SS) (K : AV → SS → Prop) (ha1 : InR a1) (hs : okS σ) (hG : S_Rp_phraseBegin [vR 4 0, vI a1] σ K) : VE_Rp_phraseBegin a1 σ K := by
  unfold VE_Rp_phraseBegin
  obtain ⟨⟨hT, h1⟩, hG⟩ := hG
  have hb := hT.n
  exact ⟨_, _, _, rfl, rfl, TQ.rf hT, Int.le_refl _, rfl, by show (0 : Int) ≤ _; omega, fun j hj => by omega, fun z => by omega⟩
theorem H_Rp_phraseBegin {d : Nat} (hd : 3 ≤ d) : Holds d I_Rp_phraseBegin S_Rp_phraseBegin := by
  refine holds_of (d' := d - 1) (rt := 1) (cal := [(I_Wo_size, S_Wo_size), (I_Tw_earlier, S_Tw_earlier)]) (C := C_Rp_phraseBegin) m_Rp_phraseBegin o_Rp_phraseBegin rfl rfl (by omega) ?_ ?_
  · intro x hx
    simp only [List.mem_cons, List.not_mem_nil, or_false] at hx
    rcases hx with rfl | rfl
    · exact H_Wo_size (by omega)
    · exact H_Tw_earlier (by omega)
  · intro as σ K has hσ hG
    have hG2 := hG
    unfold S_Rp_phraseBegin at hG2
    split at hG2
    · next a1 =>
      refine ⟨Nat.le_of_ble_eq_true rfl, (Iv_Rp_phraseBegin a1 σ), ?_, 1000, ?_⟩
      · intro k n z L σ' hk hL hs hP
        unfold Iv_Rp_phraseBegin at hk
        split at hk
        · cases hk
          obtain ⟨v2, v3, rfl, hn, hQ⟩ := hP
          exact ⟨1000, l_Rp_phraseBegin_4 a1 σ K (has _ (List.mem_of_getElem? (i := 1) rfl)) hσ hG v2 v3 σ' (hL _ (List.mem_of_getElem? (i := 2) rfl)) (hL _ (List.mem_of_getElem? (i := 3) rfl)) hs n hn hQ⟩
        · cases hk
      · exact e_Rp_phraseBegin a1 σ K (has _ (List.mem_of_getElem? (i := 1) rfl)) hσ hG
    · exact hG2.elim
def S_Rp_phraseSource : GS := fun as σ K => match as with
  | [some (.inr (.inr (4, 0))), some (.inl a1)] => (TwC σ ∧ 0 ≤ a1 ∧ a1 < (σ 501 0 0)) ∧ ∀ σ' r, TQ σ σ' → ((earl (cW σ) (σ 501 0 0) a1 = 0 ∧ r = -2) ∨ (0 < earl (cW σ) (σ 501 0 0) a1 ∧ srcIs (cW σ) a1 (earl (cW σ) (σ 501 0 0) a1) r)) → K (vI r) σ'
  | _ => False
abbrev Lp_Rp_phraseSource_7 (a1 : Int) (σ0 : SS) (n : Nat) (L : List AV) (σ : SS) : Prop := ∃ (v2 : Int) (v3 : Int), L = [vR 4 0, vI a1, vI v2, vI v3] ∧ n = ((σ0 501 0 0) - v3).toNat ∧ ((TQ σ0 σ) ∧ (v2 = earl (cW σ0) (σ0 501 0 0) a1) ∧ (0 ≤ v3) ∧ (v3 ≤ a1) ∧ (∀ x, 0 ≤ x → x < v3 → ¬ eqs (cW σ0) x a1 v2))
def Iv_Rp_phraseSource (a1 : Int) (σ0 : SS) (k : Nat) : Option (List Nat × (Nat → List AV → SS → Prop)) := match k with
  | 7 => some ([], Lp_Rp_phraseSource_7 a1 σ0)
  | _ => none
def VE_Rp_phraseSource (a1 : Int) (σ : SS) (K : AV → SS → Prop) : Prop :=
  (S_Tw_earlier [vR 8 0, vI a1] σ (kI fun r1 σ1 =>
    (∃ n', Lp_Rp_phraseSource_7 a1 σ n' [vR 4 0, vI a1, vI r1, vI 0] σ1)))
def VL_Rp_phraseSource_7 (a1 : Int) (σ0 : SS) (K : AV → SS → Prop) (v2 : Int) (v3 : Int) (σ : SS) (n : Nat) : Prop :=
  ((v2 ≤ 0 →
    (K (vI (-2)) σ)) ∧
  ((0 : Int) < v2 →
    ((a1 ≤ v3 →
      (K (vI (-2)) σ)) ∧
    (v3 < a1 →
      (S_Tw_common [vR 8 0, vI v3, vI a1] σ (kI fun r1 σ1 =>
        ((r1 < v2 →
          (InR (v3 + 1) ∧
          (∃ n', n' < n ∧ Lp_Rp_phraseSource_7 a1 σ0 n' [vR 4 0, vI a1, vI v2, vI (v3 + 1)] σ1))) ∧
        (v2 ≤ r1 →
          (K (vI v3) σ1)))))))))
theorem l_Rp_phraseSource_7 (a1 : Int) (σ0 : SS) (K : AV → SS → Prop) (ha1 : InR a1) (hs0 : okS σ0) (hG : S_Rp_phraseSource [vR 4 0, vI a1] σ0 K) (v2 : Int) (v3 : Int) (σ : SS) (hv2 : InR v2) (hv3 : InR v3) (hs : okS σ) (n : Nat) (hn : n = ((σ0 501 0 0) - v3).toNat) (hQ : (TQ σ0 σ) ∧ (v2 = earl (cW σ0) (σ0 501 0 0) a1) ∧ (0 ≤ v3) ∧ (v3 ≤ a1) ∧ (∀ x, 0 ≤ x → x < v3 → ¬ eqs (cW σ0) x a1 v2)) : VL_Rp_phraseSource_7 a1 σ0 K v2 v3 σ n := by
  unfold VL_Rp_phraseSource_7
  obtain ⟨⟨hT, h1⟩, hG⟩ := hG
  have hb := hT.n
  obtain ⟨q0, q1, q2, q3, q4⟩ := hQ
  obtain ⟨w1, w2⟩ := q0.w
  have hs := earl_spec (cW σ0) (n := (σ0 501 0 0)) (p := a1) (by omega)
  refine ⟨fun h => hG _ _ q0 (Or.inl ⟨by omega, rfl⟩), fun h => ⟨fun g => ?_, fun g => ⟨q0.2, fun σ' hF hT' => ?_⟩⟩⟩
  · obtain ⟨o, o1, o2, o3⟩ := ((le_earl (cW σ0) (n := (σ0 501 0 0)) (p := a1) (L := v2) (by omega) (by omega)).mp (by omega)).2
    exact absurd o3 (q4 o o1 (by omega))
  · rw [w1, w2]
    have q0' := q0.tr ⟨hF, hT'⟩
    have hc := common_ge (w := cW σ0) (n := (σ0 501 0 0)) (i := v3) (j := a1) (L := v2) (by omega) (by omega) (by omega) (by omega) (by omega)
    intro _ _
    refine ⟨fun h2 => ⟨by omega, _, ?_, _, _, rfl, rfl, q0', q1, by omega, by omega, fun x x1 x2 => ?_⟩, fun h2 => hG _ _ q0' (Or.inr ⟨by omega, q2, g, q1 ▸ (hc.mp h2).2, q1 ▸ q4⟩)⟩
    · omega
    · rcases (by omega : x < v3 ∨ x = v3) with z | rfl
      · exact q4 x x1 z
      · intro y
        have := hc.mpr ⟨by omega, y⟩
        omega
theorem e_Rp_phraseSource (a1 : Int) (σ : SS) (K : AV → SS → Prop) (ha1 : InR a1) (hs : okS σ) (hG : S_Rp_phraseSource [vR 4 0, vI a1] σ K) : VE_Rp_phraseSource a1 σ K := by
  unfold VE_Rp_phraseSource
  obtain ⟨⟨hT, h1⟩, hG⟩ := hG
  have hb := hT.n
  refine ⟨hT, fun σ' hF hT' => ?_⟩
  have he : earlR (cW σ) (σ 501 0 0) a1 = earl (cW σ) (σ 501 0 0) a1 := if_pos (by omega)
  rw [he]
  intro _ _
  exact ⟨_, _, _, rfl, rfl, ⟨hF, hT'⟩, rfl, by omega, by omega, fun x x1 x2 => by omega⟩
theorem H_Rp_phraseSource {d : Nat} (hd : 3 ≤ d) : Holds d I_Rp_phraseSource S_Rp_phraseSource := by
  refine holds_of (d' := d - 1) (rt := 1) (cal := [(I_Tw_earlier, S_Tw_earlier), (I_Tw_common, S_Tw_common)]) (C := C_Rp_phraseSource) m_Rp_phraseSource o_Rp_phraseSource rfl rfl (by omega) ?_ ?_
  · intro x hx
    simp only [List.mem_cons, List.not_mem_nil, or_false] at hx
    rcases hx with rfl | rfl
    · exact H_Tw_earlier (by omega)
    · exact H_Tw_common (by omega)
  · intro as σ K has hσ hG
    have hG2 := hG
    unfold S_Rp_phraseSource at hG2
    split at hG2
    · next a1 =>
      refine ⟨Nat.le_of_ble_eq_true rfl, (Iv_Rp_phraseSource a1 σ), ?_, 1000, ?_⟩
      · intro k n z L σ' hk hL hs hP
        unfold Iv_Rp_phraseSource at hk
        split at hk
        · cases hk
          obtain ⟨v2, v3, rfl, hn, hQ⟩ := hP
          exact ⟨1000, l_Rp_phraseSource_7 a1 σ K (has _ (List.mem_of_getElem? (i := 1) rfl)) hσ hG v2 v3 σ' (hL _ (List.mem_of_getElem? (i := 2) rfl)) (hL _ (List.mem_of_getElem? (i := 3) rfl)) hs n hn hQ⟩
        · cases hk
      · exact e_Rp_phraseSource a1 σ K (has _ (List.mem_of_getElem? (i := 1) rfl)) hσ hG
    · exact hG2.elim
def S_Wr_phrase : GS := fun as σ K => match as with
  | [some (.inr (.inr (11, 0))), some (.inl a1), some (.inl a2)] => TwC σ ∧ ∀ σ' r, TQ σ σ' → RPhr (cW σ) (σ 501 0 0) a1 a2 r → K (vI r) σ'
  | _ => False
def VE_Wr_phrase (a1 : Int) (a2 : Int) (σ : SS) (K : AV → SS → Prop) : Prop :=
  ((a1 ≠ (-1) →
    (((0 : Int) ≤ a1 →
      (S_Rp_phraseBegin [vR 4 0, vI a1] σ (kI fun r1 σ1 =>
        (((0 : Int) ≤ r1 →
          (((a2 = 0 →
            (K (vI r1) σ1)) ∧
          ((a2 = 1 →
            (S_Tw_earlier [vR 8 0, vI r1] σ1 (kI fun r2 σ2 =>
              (K (vI (max 1 r2)) σ2)))) ∧
          ((a2 = 2 →
            (S_Rp_phraseSource [vR 4 0, vI r1] σ1 (kI fun r3 σ3 =>
              (K (vI r3) σ3)))) ∧
          True))) ∧
          (a2 < 0 ∨ 2 < a2 →
            (K (vI (-1)) σ1)))) ∧
        (r1 < 0 →
          (K (vI (-1)) σ1)))))) ∧
    (a1 < 0 →
      (((0 : Int) ≤ (-2 : Int) →
        (((a2 = 0 →
          (K (vI (-2)) σ)) ∧
        ((a2 = 1 →
          (S_Tw_earlier [vR 8 0, vI (-2)] σ (kI fun r4 σ4 =>
            (K (vI (max 1 r4)) σ4)))) ∧
        ((a2 = 2 →
          (S_Rp_phraseSource [vR 4 0, vI (-2)] σ (kI fun r5 σ5 =>
            (K (vI r5) σ5)))) ∧
        True))) ∧
        (a2 < 0 ∨ 2 < a2 →
          (K (vI (-1)) σ)))) ∧
      ((-2 : Int) < 0 →
        (K (vI (-1)) σ)))))) ∧
  (a1 = (-1) →
    ((a2 ≠ 0 →
      (((0 : Int) ≤ a1 →
        (S_Rp_phraseBegin [vR 4 0, vI a1] σ (kI fun r6 σ6 =>
          (((0 : Int) ≤ r6 →
            (((a2 = 0 →
              (K (vI r6) σ6)) ∧
            ((a2 = 1 →
              (S_Tw_earlier [vR 8 0, vI r6] σ6 (kI fun r7 σ7 =>
                (K (vI (max 1 r7)) σ7)))) ∧
            ((a2 = 2 →
              (S_Rp_phraseSource [vR 4 0, vI r6] σ6 (kI fun r8 σ8 =>
                (K (vI r8) σ8)))) ∧
            True))) ∧
            (a2 < 0 ∨ 2 < a2 →
              (K (vI (-1)) σ6)))) ∧
          (r6 < 0 →
            (K (vI (-1)) σ6)))))) ∧
      (a1 < 0 →
        (((0 : Int) ≤ (-2 : Int) →
          (((a2 = 0 →
            (K (vI (-2)) σ)) ∧
          ((a2 = 1 →
            (S_Tw_earlier [vR 8 0, vI (-2)] σ (kI fun r9 σ9 =>
              (K (vI (max 1 r9)) σ9)))) ∧
          ((a2 = 2 →
            (S_Rp_phraseSource [vR 4 0, vI (-2)] σ (kI fun r10 σ10 =>
              (K (vI r10) σ10)))) ∧
          True))) ∧
          (a2 < 0 ∨ 2 < a2 →
            (K (vI (-1)) σ)))) ∧
        ((-2 : Int) < 0 →
          (K (vI (-1)) σ)))))) ∧
    (a2 = 0 →
      (S_Rp_phraseBegin [vR 4 0, vI (-1)] σ (kI fun r11 σ11 =>
        (K (vI r11) σ11)))))))
theorem e_Wr_phrase (a1 : Int) (a2 : Int) (σ : SS) (K : AV → SS → Prop) (ha1 : InR a1) (ha2 : InR a2) (hs : okS σ) (hG : S_Wr_phrase [vR 11 0, vI a1, vI a2] σ K) : VE_Wr_phrase a1 a2 σ K := by
  unfold VE_Wr_phrase
  obtain ⟨hT, hG⟩ := hG
  have hb := hT.n
  have big : 0 ≤ a1 → ∀ (σ1 : SS) (r1 : Int), TQ σ σ1 → ((a1 = -1 ∧ ∃ m : Nat, r1 = m ∧ (σ 501 0 0) ≤ phF (cW σ) (σ 501 0 0) m ∧ ∀ j : Nat, j < m → phF (cW σ) (σ 501 0 0) j < (σ 501 0 0)) ∨ (0 ≤ a1 ∧ phF (cW σ) (σ 501 0 0) a1.toNat < (σ 501 0 0) ∧ r1 = phF (cW σ) (σ 501 0 0) a1.toNat) ∨ (0 ≤ a1 ∧ (σ 501 0 0) ≤ phF (cW σ) (σ 501 0 0) a1.toNat ∧ r1 = -2)) →
      (r1 < 0 → K (vI (-1)) σ1) ∧ (0 ≤ r1 → (TwC σ1 ∧ 0 ≤ r1 ∧ r1 < (σ 501 0 0)) ∧ (∀ σ2 r, TQ σ σ2 → phO (cW σ) (σ 501 0 0) r1 a2 r → K (vI r) σ2)) := fun h σ1 r1 hq hr => by
    have hle := phF_le (w := cW σ) (n := (σ 501 0 0)) a1.toNat
    rcases hr with hr | hr | hr
    · omega
    · obtain ⟨e1, e2, e3⟩ := hr
      refine ⟨fun z => by omega, fun z => ⟨⟨hq.2, z, by omega⟩, fun σ2 r hq2 hp => hG _ _ hq2 (Or.inr (Or.inl ⟨h, e2, ?_⟩))⟩⟩
      rw [← e3]; exact hp
    · exact ⟨fun z => hG _ _ hq (Or.inr (Or.inr ⟨by omega, rfl⟩)), fun z => by omega⟩
  refine ⟨fun h => ⟨fun g => ⟨⟨hT, by omega⟩, fun σ1 r1 hq hr => ?_⟩, fun g => ⟨fun z => by omega, fun _ => hG _ _ (TQ.rf hT) (Or.inr (Or.inr ⟨by omega, rfl⟩))⟩⟩, fun h => ⟨fun g => ⟨fun z => by omega, fun z => ⟨fun y => by omega, fun _ => hG _ _ (TQ.rf hT) (Or.inr (Or.inr ⟨by omega, rfl⟩))⟩⟩, fun g => ⟨⟨hT, by omega⟩, fun σ1 r1 hq hr => ?_⟩⟩⟩
  · obtain ⟨b1, b2⟩ := big g σ1 r1 hq hr
    obtain ⟨w1, w2⟩ := hq.w
    intro _ _
    refine ⟨fun z => ⟨⟨fun y => (b2 z).2 _ _ hq (Or.inl ⟨y, rfl⟩), fun y => ⟨hq.2, fun σ2 hF hT2 => ?_⟩, fun y => ⟨⟨hq.2, z, by have := (b2 z).1; omega⟩, fun σ2 r hq2 hr2 => ?_⟩, True.intro⟩, fun y => (b2 z).2 _ _ hq (Or.inr (Or.inr (Or.inr ⟨y, rfl⟩)))⟩, b1⟩
    · rw [w1, w2]
      have he : earlR (cW σ) (σ 501 0 0) r1 = earl (cW σ) (σ 501 0 0) r1 := if_pos (by have := (b2 z).1; omega)
      rw [he]
      intro _ _
      exact (b2 z).2 _ _ (hq.tr ⟨hF, hT2⟩) (Or.inr (Or.inl ⟨y, rfl⟩))
    · rw [w1, w2] at hr2
      intro _ _
      exact (b2 z).2 _ _ (hq.tr hq2) (Or.inr (Or.inr (Or.inl ⟨y, hr2⟩)))
  · intro _ _
    refine hG _ _ hq (Or.inl ⟨h, g, ?_⟩)
    rcases hr with hr | hr | hr
    · exact hr.2
    · omega
    · omega
theorem H_Wr_phrase {d : Nat} (hd : 4 ≤ d) : Holds d I_Wr_phrase S_Wr_phrase := by
  refine holds_of (d' := d - 1) (rt := 1) (cal := [(I_Rp_phraseBegin, S_Rp_phraseBegin), (I_Tw_earlier, S_Tw_earlier), (I_Rp_phraseSource, S_Rp_phraseSource)]) (C := C_Wr_phrase) m_Wr_phrase o_Wr_phrase rfl rfl (by omega) ?_ ?_
  · intro x hx
    simp only [List.mem_cons, List.not_mem_nil, or_false] at hx
    rcases hx with rfl | rfl | rfl
    · exact H_Rp_phraseBegin (by omega)
    · exact H_Tw_earlier (by omega)
    · exact H_Rp_phraseSource (by omega)
  · intro as σ K has hσ hG
    have hG2 := hG
    unfold S_Wr_phrase at hG2
    split at hG2
    · next a1 a2 =>
      refine ⟨Nat.le_of_ble_eq_true rfl, (fun _ => none), ?_, 1000, ?_⟩
      · intro k n z L σ' hk hL hs hP
        cases hk
      · exact e_Wr_phrase a1 a2 σ K (has _ (List.mem_of_getElem? (i := 1) rfl)) (has _ (List.mem_of_getElem? (i := 2) rfl)) hσ hG
    · exact hG2.elim
def S_Mo_copied : GS := fun as σ K => match as with
  | [some (.inr (.inr (12, 0))), some (.inl a1)] => (MoW σ ∧ 0 ≤ a1 ∧ a1 ≤ (σ 40 0 0)) ∧ K (vI (earl (mW σ) (σ 40 0 0) a1)) σ
  | _ => False
abbrev Lp_Mo_copied_4 (a1 : Int) (σ0 : SS) (n : Nat) (L : List AV) (σ : SS) : Prop := ∃ (v2 : Int) (v3 : Int), L = [vR 12 0, vI a1, vI v2, vI v3, none] ∧ n = (a1 - v3).toNat ∧ ((σ = σ0) ∧ (0 ≤ v3) ∧ (v3 ≤ a1) ∧ (v2 = mxZ (fun o => lce (mW σ0) (σ0 40 0 0) o a1) 0 v3))
def Iv_Mo_copied (a1 : Int) (σ0 : SS) (k : Nat) : Option (List Nat × (Nat → List AV → SS → Prop)) := match k with
  | 4 => some ([4], Lp_Mo_copied_4 a1 σ0)
  | _ => none
def VE_Mo_copied (a1 : Int) (σ : SS) (K : AV → SS → Prop) : Prop :=
  (∃ n', Lp_Mo_copied_4 a1 σ n' [vR 12 0, vI a1, vI 0, vI 0, none] σ)
def VL_Mo_copied_4 (a1 : Int) (σ0 : SS) (K : AV → SS → Prop) (v2 : Int) (v3 : Int) (σ : SS) (n : Nat) : Prop :=
  ((a1 ≤ v3 →
    (K (vI v2) σ)) ∧
  (v3 < a1 →
    (S_Mo_size [vR 12 0] σ (kI fun r1 σ1 =>
      (InR (r1 - a1) ∧
      (S_Mo_common [vR 12 0, vI v3, vI a1, vI (r1 - a1)] σ1 (kI fun r2 σ2 =>
        ((r2 ≤ v2 →
          (InR (v3 + 1) ∧
          (∃ n', n' < n ∧ Lp_Mo_copied_4 a1 σ0 n' [vR 12 0, vI a1, vI v2, vI (v3 + 1), none] σ2))) ∧
        (v2 < r2 →
          (InR (v3 + 1) ∧
          (∃ n', n' < n ∧ Lp_Mo_copied_4 a1 σ0 n' [vR 12 0, vI a1, vI r2, vI (v3 + 1), none] σ2)))))))))))
theorem l_Mo_copied_4 (a1 : Int) (σ0 : SS) (K : AV → SS → Prop) (ha1 : InR a1) (hs0 : okS σ0) (hG : S_Mo_copied [vR 12 0, vI a1] σ0 K) (v2 : Int) (v3 : Int) (σ : SS) (hv2 : InR v2) (hv3 : InR v3) (hs : okS σ) (n : Nat) (hn : n = (a1 - v3).toNat) (hQ : (σ = σ0) ∧ (0 ≤ v3) ∧ (v3 ≤ a1) ∧ (v2 = mxZ (fun o => lce (mW σ0) (σ0 40 0 0) o a1) 0 v3)) : VL_Mo_copied_4 a1 σ0 K v2 v3 σ n := by
  unfold VL_Mo_copied_4
  obtain ⟨⟨hM, h1⟩, hG⟩ := hG
  have hb := hM.n
  obtain ⟨rfl, q1, q2, q3⟩ := hQ
  refine ⟨fun h => ?_, fun h => ?_⟩
  · rw [q3, show v3 = a1 by omega]; exact hG
  intro _ _
  refine ⟨by omega, ⟨by omega, by omega, by omega, by omega, by omega⟩, ?_⟩
  have e : lceF (mW σ) ((σ 40 0 0) - a1).toNat v3 a1 = lce (mW σ) (σ 40 0 0) v3 a1 := by
    unfold lce
    rw [show max v3 a1 = a1 by omega]
  rw [e]
  have hm := mxZ_succ (f := fun o => lce (mW σ) (σ 40 0 0) o a1) q1
  intro _ _
  refine ⟨fun g => ⟨by omega, _, ?_, _, _, rfl, rfl, rfl, by omega, by omega, ?_⟩, fun g => ⟨by omega, _, ?_, _, _, rfl, rfl, rfl, by omega, by omega, ?_⟩⟩
  · omega
  · rw [hm, ← q3]; show _ = max v2 (lce (mW σ) (σ 40 0 0) v3 a1); omega
  · omega
  · rw [hm, ← q3]; show _ = max v2 (lce (mW σ) (σ 40 0 0) v3 a1); omega
theorem e_Mo_copied (a1 : Int) (σ : SS) (K : AV → SS → Prop) (ha1 : InR a1) (hs : okS σ) (hG : S_Mo_copied [vR 12 0, vI a1] σ K) : VE_Mo_copied a1 σ K := by
  unfold VE_Mo_copied
  obtain ⟨⟨hM, h1⟩, hG⟩ := hG
  exact ⟨_, _, _, rfl, rfl, rfl, by omega, by omega, (mxZ_nil (Int.le_refl _)).symm⟩
theorem H_Mo_copied {d : Nat} (hd : 3 ≤ d) : Holds d I_Mo_copied S_Mo_copied := by
  refine holds_of (d' := d - 1) (rt := 1) (cal := [(I_Mo_size, S_Mo_size), (I_Mo_common, S_Mo_common)]) (C := C_Mo_copied) m_Mo_copied o_Mo_copied rfl rfl (by omega) ?_ ?_
  · intro x hx
    simp only [List.mem_cons, List.not_mem_nil, or_false] at hx
    rcases hx with rfl | rfl
    · exact H_Mo_size (by omega)
    · exact H_Mo_common (by omega)
  · intro as σ K has hσ hG
    have hG2 := hG
    unfold S_Mo_copied at hG2
    split at hG2
    · next a1 =>
      refine ⟨Nat.le_of_ble_eq_true rfl, (Iv_Mo_copied a1 σ), ?_, 1000, ?_⟩
      · intro k n z L σ' hk hL hs hP
        unfold Iv_Mo_copied at hk
        split at hk
        · cases hk
          obtain ⟨v2, v3, rfl, hn, hQ⟩ := hP
          exact ⟨1000, l_Mo_copied_4 a1 σ K (has _ (List.mem_of_getElem? (i := 1) rfl)) hσ hG v2 v3 σ' (hL _ (List.mem_of_getElem? (i := 2) rfl)) (hL _ (List.mem_of_getElem? (i := 3) rfl)) hs n hn hQ⟩
        · cases hk
      · exact e_Mo_copied a1 σ K (has _ (List.mem_of_getElem? (i := 1) rfl)) hσ hG
    · exact hG2.elim
def S_Mo_copiedFrom : GS := fun as σ K => match as with
  | [some (.inr (.inr (12, 0))), some (.inl a1), some (.inl a2)] => (MoW σ ∧ 0 ≤ a1 ∧ 0 ≤ a2 ∧ a1 + a2 ≤ (σ 40 0 0) ∧ isE (mW σ) a1 a2) ∧ ∀ r, srcIs (mW σ) a1 a2 r → K (vI r) σ
  | _ => False
abbrev Lp_Mo_copiedFrom_2 (a1 : Int) (a2 : Int) (σ0 : SS) (n : Nat) (L : List AV) (σ : SS) : Prop := ∃ (v3 : Int), L = [vR 12 0, vI a1, vI a2, vI v3] ∧ n = (a1 - v3).toNat ∧ ((σ = σ0) ∧ (0 ≤ v3) ∧ (∀ x, 0 ≤ x → x < v3 → ¬ eqs (mW σ0) x a1 a2))
def Iv_Mo_copiedFrom (a1 : Int) (a2 : Int) (σ0 : SS) (k : Nat) : Option (List Nat × (Nat → List AV → SS → Prop)) := match k with
  | 2 => some ([], Lp_Mo_copiedFrom_2 a1 a2 σ0)
  | _ => none
def VE_Mo_copiedFrom (a1 : Int) (a2 : Int) (σ : SS) (K : AV → SS → Prop) : Prop :=
  (∃ n', Lp_Mo_copiedFrom_2 a1 a2 σ n' [vR 12 0, vI a1, vI a2, vI 0] σ)
def VL_Mo_copiedFrom_2 (a1 : Int) (a2 : Int) (σ0 : SS) (K : AV → SS → Prop) (v3 : Int) (σ : SS) (n : Nat) : Prop :=
  (S_Mo_areAlike [vR 12 0, vI v3, vI a1, vI a2] σ (kI fun r1 σ1 =>
    ((r1 ≠ 0 →
      (K (vI v3) σ1)) ∧
    (r1 = 0 →
      (InR (v3 + 1) ∧
      (∃ n', n' < n ∧ Lp_Mo_copiedFrom_2 a1 a2 σ0 n' [vR 12 0, vI a1, vI a2, vI (v3 + 1)] σ1))))))
theorem l_Mo_copiedFrom_2 (a1 : Int) (a2 : Int) (σ0 : SS) (K : AV → SS → Prop) (ha1 : InR a1) (ha2 : InR a2) (hs0 : okS σ0) (hG : S_Mo_copiedFrom [vR 12 0, vI a1, vI a2] σ0 K) (v3 : Int) (σ : SS) (hv3 : InR v3) (hs : okS σ) (n : Nat) (hn : n = (a1 - v3).toNat) (hQ : (σ = σ0) ∧ (0 ≤ v3) ∧ (∀ x, 0 ≤ x → x < v3 → ¬ eqs (mW σ0) x a1 a2)) : VL_Mo_copiedFrom_2 a1 a2 σ0 K v3 σ n := by
  unfold VL_Mo_copiedFrom_2
  obtain ⟨⟨hM, h1, h2, h3, o, o1, o2, o3⟩, hG⟩ := hG
  have hb := hM.n
  obtain ⟨rfl, q1, q2⟩ := hQ
  have hv : v3 ≤ o := by
    rcases (by omega : v3 ≤ o ∨ o < v3) with z | z
    · exact z
    · exact absurd o3 (q2 o o1 z)
  refine ⟨⟨q1, h1, h2, by omega, h3, hb.2⟩, bS_b1 (fun hp _ => hG _ ⟨q1, by omega, hp, q2⟩) (fun hp _ => ⟨by omega, _, ?_, _, rfl, rfl, rfl, by omega, fun x x1 x2 => ?_⟩)⟩
  · omega
  · rcases (by omega : x < v3 ∨ x = v3) with z | rfl
    · exact q2 x x1 z
    · exact hp
theorem e_Mo_copiedFrom (a1 : Int) (a2 : Int) (σ : SS) (K : AV → SS → Prop) (ha1 : InR a1) (ha2 : InR a2) (hs : okS σ) (hG : S_Mo_copiedFrom [vR 12 0, vI a1, vI a2] σ K) : VE_Mo_copiedFrom a1 a2 σ K := by
  unfold VE_Mo_copiedFrom
  exact ⟨_, _, rfl, rfl, rfl, by omega, fun x x1 x2 => by omega⟩
theorem H_Mo_copiedFrom {d : Nat} (hd : 4 ≤ d) : Holds d I_Mo_copiedFrom S_Mo_copiedFrom := by
  refine holds_of (d' := d - 1) (rt := 1) (cal := [(I_Mo_areAlike, S_Mo_areAlike)]) (C := C_Mo_copiedFrom) m_Mo_copiedFrom o_Mo_copiedFrom rfl rfl (by omega) ?_ ?_
  · intro x hx
    simp only [List.mem_cons, List.not_mem_nil, or_false] at hx
    subst hx
    exact H_Mo_areAlike (by omega)
  · intro as σ K has hσ hG
    have hG2 := hG
    unfold S_Mo_copiedFrom at hG2
    split at hG2
    · next a1 a2 =>
      refine ⟨Nat.le_of_ble_eq_true rfl, (Iv_Mo_copiedFrom a1 a2 σ), ?_, 1000, ?_⟩
      · intro k n z L σ' hk hL hs hP
        unfold Iv_Mo_copiedFrom at hk
        split at hk
        · cases hk
          obtain ⟨v3, rfl, hn, hQ⟩ := hP
          exact ⟨1000, l_Mo_copiedFrom_2 a1 a2 σ K (has _ (List.mem_of_getElem? (i := 1) rfl)) (has _ (List.mem_of_getElem? (i := 2) rfl)) hσ hG v3 σ' (hL _ (List.mem_of_getElem? (i := 3) rfl)) hs n hn hQ⟩
        · cases hk
      · exact e_Mo_copiedFrom a1 a2 σ K (has _ (List.mem_of_getElem? (i := 1) rfl)) (has _ (List.mem_of_getElem? (i := 2) rfl)) hσ hG
    · exact hG2.elim
def S_Mo_ofPhrase : GS := fun as σ K => match as with
  | [some (.inr (.inr (12, 0))), some (.inl a1), some (.inl a2), some (.inl a3)] => (MoW σ ∧ 0 ≤ a1 ∧ a1 ≤ (σ 40 0 0) ∧ a2 = earl (mW σ) (σ 40 0 0) a1) ∧ ∀ r, phO (mW σ) (σ 40 0 0) a1 a3 r → K (vI r) σ
  | _ => False
def VE_Mo_ofPhrase (a1 : Int) (a2 : Int) (a3 : Int) (σ : SS) (K : AV → SS → Prop) : Prop :=
  (((a3 = 0 →
    (K (vI a1) σ)) ∧
  ((a3 = 1 →
    ((a2 ≠ 0 →
      (K (vI a2) σ)) ∧
    (a2 = 0 →
      (K (vI 1) σ)))) ∧
  ((a3 = 2 →
    ((a2 ≠ 0 →
      (S_Mo_copiedFrom [vR 12 0, vI a1, vI a2] σ (kI fun r1 σ1 =>
        (K (vI r1) σ1)))) ∧
    (a2 = 0 →
      (K (vI (-2)) σ)))) ∧
  True))) ∧
  (a3 < 0 ∨ 2 < a3 →
    (K (vI (-1)) σ)))
theorem e_Mo_ofPhrase (a1 : Int) (a2 : Int) (a3 : Int) (σ : SS) (K : AV → SS → Prop) (ha1 : InR a1) (ha2 : InR a2) (ha3 : InR a3) (hs : okS σ) (hG : S_Mo_ofPhrase [vR 12 0, vI a1, vI a2, vI a3] σ K) : VE_Mo_ofPhrase a1 a2 a3 σ K := by
  unfold VE_Mo_ofPhrase
  obtain ⟨⟨hM, h1, h2, h3⟩, hG⟩ := hG
  have hb := hM.n
  have hs := earl_spec (mW σ) (n := (σ 40 0 0)) (p := a1) h2
  refine ⟨⟨fun h => hG _ (Or.inl ⟨h, rfl⟩), fun h => ⟨fun g => hG _ (Or.inr (Or.inl ⟨h, by omega⟩)), fun g => hG _ (Or.inr (Or.inl ⟨h, by omega⟩))⟩, fun h => ⟨fun g => ⟨⟨hM, h1, by omega, by omega, ((le_earl (mW σ) (n := (σ 40 0 0)) (p := a1) (L := a2) h2 (by omega)).mp (by omega)).2⟩, fun r hr => ?_⟩, fun g => hG _ (Or.inr (Or.inr (Or.inl ⟨h, Or.inl ⟨by omega, rfl⟩⟩)))⟩, True.intro⟩, fun h => hG _ (Or.inr (Or.inr (Or.inr ⟨h, rfl⟩)))⟩
  intro _ _
  exact hG _ (Or.inr (Or.inr (Or.inl ⟨h, Or.inr ⟨by omega, h3 ▸ hr⟩⟩)))
theorem H_Mo_ofPhrase {d : Nat} (hd : 5 ≤ d) : Holds d I_Mo_ofPhrase S_Mo_ofPhrase := by
  refine holds_of (d' := d - 1) (rt := 1) (cal := [(I_Mo_copiedFrom, S_Mo_copiedFrom)]) (C := C_Mo_ofPhrase) m_Mo_ofPhrase o_Mo_ofPhrase rfl rfl (by omega) ?_ ?_
  · intro x hx
    simp only [List.mem_cons, List.not_mem_nil, or_false] at hx
    subst hx
    exact H_Mo_copiedFrom (by omega)
  · intro as σ K has hσ hG
    have hG2 := hG
    unfold S_Mo_ofPhrase at hG2
    split at hG2
    · next a1 a2 a3 =>
      refine ⟨Nat.le_of_ble_eq_true rfl, (fun _ => none), ?_, 1000, ?_⟩
      · intro k n z L σ' hk hL hs hP
        cases hk
      · exact e_Mo_ofPhrase a1 a2 a3 σ K (has _ (List.mem_of_getElem? (i := 1) rfl)) (has _ (List.mem_of_getElem? (i := 2) rfl)) (has _ (List.mem_of_getElem? (i := 3) rfl)) hσ hG
    · exact hG2.elim
def S_Mo_phrase : GS := fun as σ K => match as with
  | [some (.inr (.inr (12, 0))), some (.inl a1), some (.inl a2)] => MoW σ ∧ ∀ r, RPhr (mW σ) (σ 40 0 0) a1 a2 r → K (vI r) σ
  | _ => False
abbrev Lp_Mo_phrase_4 (a1 : Int) (a2 : Int) (σ0 : SS) (n : Nat) (L : List AV) (σ : SS) : Prop := ∃ (v3 : Int) (v4 : Int), L = [vR 12 0, vI a1, vI a2, vI v3, vI v4, none] ∧ n = ((σ0 40 0 0) - v4).toNat ∧ ((σ = σ0) ∧ (0 ≤ v3) ∧ (v4 = phF (mW σ0) (σ0 40 0 0) v3.toNat) ∧ (v4 ≤ (σ0 40 0 0)) ∧ (∀ j : Nat, j < v3.toNat → phF (mW σ0) (σ0 40 0 0) j < (σ0 40 0 0)) ∧ (0 ≤ a1 → v3 ≤ a1))
def Iv_Mo_phrase (a1 : Int) (a2 : Int) (σ0 : SS) (k : Nat) : Option (List Nat × (Nat → List AV → SS → Prop)) := match k with
  | 4 => some ([5], Lp_Mo_phrase_4 a1 a2 σ0)
  | _ => none
def VE_Mo_phrase (a1 : Int) (a2 : Int) (σ : SS) (K : AV → SS → Prop) : Prop :=
  (∃ n', Lp_Mo_phrase_4 a1 a2 σ n' [vR 12 0, vI a1, vI a2, vI 0, vI 0, none] σ)
def VL_Mo_phrase_4 (a1 : Int) (a2 : Int) (σ0 : SS) (K : AV → SS → Prop) (v3 : Int) (v4 : Int) (σ : SS) (n : Nat) : Prop :=
  (S_Mo_size [vR 12 0] σ (kI fun r1 σ1 =>
    ((r1 ≤ v4 →
      ((a1 ≠ (-1) →
        (K (vI (-1)) σ1)) ∧
      (a1 = (-1) →
        ((a2 ≠ 0 →
          (K (vI (-1)) σ1)) ∧
        (a2 = 0 →
          (K (vI v3) σ1)))))) ∧
    (v4 < r1 →
      (S_Mo_copied [vR 12 0, vI v4] σ1 (kI fun r2 σ2 =>
        ((v3 ≠ a1 →
          ((r2 ≠ 0 →
            (InR (v4 + r2) ∧
            (InR (v3 + 1) ∧
            (∃ n', n' < n ∧ Lp_Mo_phrase_4 a1 a2 σ0 n' [vR 12 0, vI a1, vI a2, vI (v3 + 1), vI (v4 + r2), none] σ2)))) ∧
          (r2 = 0 →
            (InR (v4 + 1) ∧
            (InR (v3 + 1) ∧
            (∃ n', n' < n ∧ Lp_Mo_phrase_4 a1 a2 σ0 n' [vR 12 0, vI a1, vI a2, vI (v3 + 1), vI (v4 + 1), none] σ2)))))) ∧
        (v3 = a1 →
          (S_Mo_ofPhrase [vR 12 0, vI v4, vI r2, vI a2] σ2 (kI fun r3 σ3 =>
            (K (vI r3) σ3)))))))))))
theorem l_Mo_phrase_4 (a1 : Int) (a2 : Int) (σ0 : SS) (K : AV → SS → Prop) (ha1 : InR a1) (ha2 : InR a2) (hs0 : okS σ0) (hG : S_Mo_phrase [vR 12 0, vI a1, vI a2] σ0 K) (v3 : Int) (v4 : Int) (σ : SS) (hv3 : InR v3) (hv4 : InR v4) (hs : okS σ) (n : Nat) (hn : n = ((σ0 40 0 0) - v4).toNat) (hQ : (σ = σ0) ∧ (0 ≤ v3) ∧ (v4 = phF (mW σ0) (σ0 40 0 0) v3.toNat) ∧ (v4 ≤ (σ0 40 0 0)) ∧ (∀ j : Nat, j < v3.toNat → phF (mW σ0) (σ0 40 0 0) j < (σ0 40 0 0)) ∧ (0 ≤ a1 → v3 ≤ a1)) : VL_Mo_phrase_4 a1 a2 σ0 K v3 v4 σ n := by
  unfold VL_Mo_phrase_4
  obtain ⟨hM, hG⟩ := hG
  have hb := hM.n
  obtain ⟨rfl, q1, q2, q3, q4, q5⟩ := hQ
  have hle := phF_le (w := mW σ) (n := (σ 40 0 0)) v3.toNat
  have hs := earl_spec (mW σ) (n := (σ 40 0 0)) (p := v4) (by omega)
  intro _ _
  refine ⟨fun h => ⟨fun g => hG _ (Or.inr (Or.inr ⟨?_, rfl⟩)), fun g => ⟨fun z => hG _ (Or.inr (Or.inr ⟨by omega, rfl⟩)), fun z => hG _ (Or.inl ⟨g, z, v3.toNat, by omega, by omega, q4⟩)⟩⟩, fun h => ⟨⟨hM, by omega, by omega⟩, ?_⟩⟩
  · by_cases z : 0 ≤ a1
    · have := phF_mono (w := mW σ) (n := (σ 40 0 0)) (j := v3.toNat) a1.toNat (by omega)
      omega
    · omega
  have hlt : phF (mW σ) (σ 40 0 0) v3.toNat < (σ 40 0 0) := by omega
  have nx : phF (mW σ) (σ 40 0 0) (v3 + 1).toNat = v4 + max 1 (earl (mW σ) (σ 40 0 0) v4) := by
    rw [show (v3 + 1).toNat = v3.toNat + 1 by omega]
    show phF _ _ _ + max 1 (earl _ _ (phF _ _ _)) = _
    rw [← q2]
  have all : ∀ j : Nat, j < (v3 + 1).toNat → phF (mW σ) (σ 40 0 0) j < (σ 40 0 0) := fun j hj => by
    rcases (by omega : j < v3.toNat ∨ j = v3.toNat) with z | z
    · exact q4 j z
    · rw [z]; exact hlt
  intro _ _
  refine ⟨fun g => ⟨fun z => ⟨by omega, by omega, _, ?_, _, _, rfl, rfl, rfl, by omega, by omega, by omega, all, by omega⟩, fun z => ⟨by omega, by omega, _, ?_, _, _, rfl, rfl, rfl, by omega, by omega, by omega, all, by omega⟩⟩, fun g => ⟨⟨hM, by omega, by omega, rfl⟩, fun r hr => ?_⟩⟩
  · omega
  · omega
  · intro _ _
    refine hG _ (Or.inr (Or.inl ⟨by omega, ?_, ?_⟩))
    · rw [← g, ← q2]; omega
    · rw [← g, ← q2]; exact hr
theorem e_Mo_phrase (a1 : Int) (a2 : Int) (σ : SS) (K : AV → SS → Prop) (ha1 : InR a1) (ha2 : InR a2) (hs : okS σ) (hG : S_Mo_phrase [vR 12 0, vI a1, vI a2] σ K) : VE_Mo_phrase a1 a2 σ K := by
  unfold VE_Mo_phrase
  obtain ⟨hM, hG⟩ := hG
  have hb := hM.n
  exact ⟨_, _, _, rfl, rfl, rfl, Int.le_refl _, rfl, by show (0 : Int) ≤ _; omega, fun j hj => by omega, fun z => by omega⟩
theorem H_Mo_phrase {d : Nat} (hd : 6 ≤ d) : Holds d I_Mo_phrase S_Mo_phrase := by
  refine holds_of (d' := d - 1) (rt := 1) (cal := [(I_Mo_size, S_Mo_size), (I_Mo_copied, S_Mo_copied), (I_Mo_ofPhrase, S_Mo_ofPhrase)]) (C := C_Mo_phrase) m_Mo_phrase o_Mo_phrase rfl rfl (by omega) ?_ ?_
  · intro x hx
    simp only [List.mem_cons, List.not_mem_nil, or_false] at hx
    rcases hx with rfl | rfl | rfl
    · exact H_Mo_size (by omega)
    · exact H_Mo_copied (by omega)
    · exact H_Mo_ofPhrase (by omega)
  · intro as σ K has hσ hG
    have hG2 := hG
    unfold S_Mo_phrase at hG2
    split at hG2
    · next a1 a2 =>
      refine ⟨Nat.le_of_ble_eq_true rfl, (Iv_Mo_phrase a1 a2 σ), ?_, 1000, ?_⟩
      · intro k n z L σ' hk hL hs hP
        unfold Iv_Mo_phrase at hk
        split at hk
        · cases hk
          obtain ⟨v3, v4, rfl, hn, hQ⟩ := hP
          exact ⟨1000, l_Mo_phrase_4 a1 a2 σ K (has _ (List.mem_of_getElem? (i := 1) rfl)) (has _ (List.mem_of_getElem? (i := 2) rfl)) hσ hG v3 v4 σ' (hL _ (List.mem_of_getElem? (i := 3) rfl)) (hL _ (List.mem_of_getElem? (i := 4) rfl)) hs n hn hQ⟩
        · cases hk
      · exact e_Mo_phrase a1 a2 σ K (has _ (List.mem_of_getElem? (i := 1) rfl)) (has _ (List.mem_of_getElem? (i := 2) rfl)) hσ hG
    · exact hG2.elim
