/-- places under the first k of them, and as far as they reach -/
noncomputable def covN (w : Int → Int) (i L : Int) : Nat → Int × Int
  | 0 => (0, 0)
  | k + 1 => @ite (Int × Int) (eqs w i k L) (Classical.propDecidable _) ((covN w i L k).1 + ((k : Int) + L - max (k : Int) (covN w i L k).2), (k : Int) + L) (covN w i L k)
theorem covN_yes {w : Int → Int} {i L : Int} {k : Nat} (h : eqs w i k L) : covN w i L (k + 1) = ((covN w i L k).1 + ((k : Int) + L - max (k : Int) (covN w i L k).2), (k : Int) + L) := if_pos h
theorem covN_no {w : Int → Int} {i L : Int} {k : Nat} (h : ¬ eqs w i k L) : covN w i L (k + 1) = covN w i L k := if_neg h
theorem covN_in {w : Int → Int} {i L : Int} (hL : 1 ≤ L) : ∀ k : Nat, 0 ≤ (covN w i L k).1 ∧ (covN w i L k).1 ≤ (covN w i L k).2 ∧ ((covN w i L k).2 ≤ (k : Int) - 1 + L ∨ (covN w i L k).2 = 0) ∧ (0 ≤ i → i < k → 1 ≤ (covN w i L k).1) := by
  intro k
  induction k with
  | zero => exact ⟨Int.le_refl _, Int.le_refl _, Or.inr rfl, fun h1 h2 => by omega⟩
  | succ k ih =>
    obtain ⟨h1, h2, h3, h4⟩ := ih
    by_cases h : eqs w i k L
    · rw [covN_yes h]
      exact ⟨by show 0 ≤ _ + _; omega, by show _ + _ ≤ _ + _; omega, Or.inl (by show (k : Int) + L ≤ _; omega), fun _ _ => by show 1 ≤ _ + _; omega⟩
    · rw [covN_no h]
      refine ⟨h1, h2, by omega, fun g1 g2 => h4 g1 ?_⟩
      rcases (by omega : i < (k : Int) ∨ i = (k : Int)) with z | z
      · exact z
      · exact absurd (z ▸ eqs_refl) h
theorem covN_none {w : Int → Int} {i L : Int} : ∀ k : Nat, (∀ x : Nat, x < k → ¬ eqs w i x L) → covN w i L k = (0, 0) := by
  intro k
  induction k with
  | zero => exact fun _ => rfl
  | succ k ih => exact fun h => by rw [covN_no (h k (by omega)), ih (fun x hx => h x (by omega))]
theorem covN_alike {w : Int → Int} {i o L : Int} (h : eqs w o i L) : ∀ k : Nat, covN w i L k = covN w o L k := by
  intro k
  induction k with
  | zero => rfl
  | succ k ih =>
    by_cases g : eqs w i k L
    · rw [covN_yes g, covN_yes (eqs_trans h g), ih]
    · rw [covN_no g, covN_no (fun z => g (eqs_trans (eqs_symm h) z)), ih]
noncomputable def cov (w : Int → Int) (n L i : Int) : Int := (covN w i L (n - L + 1).toNat).1
theorem cov_in {w : Int → Int} {n L i : Int} (hL : 1 ≤ L) (h0 : 0 ≤ i) (h1 : i + L ≤ n) : 1 ≤ cov w n L i := (covN_in hL _).2.2.2 h0 (by omega)
theorem cov_alike {w : Int → Int} {n L i : Int} (h : isE w i L) : ∃ o, 0 ≤ o ∧ o < i ∧ cov w n L i = cov w n L o := by
  obtain ⟨o, h1, h2, h3⟩ := h
  exact ⟨o, h1, h2, by unfold cov; rw [covN_alike h3]⟩
/-- the largest ahead of x, and where it first is -/
def fmx (f : Int → Int) (x m b : Int) : Prop := 0 ≤ m ∧ (∀ i, 0 ≤ i → i < x → f i ≤ m) ∧ (∀ i, 0 ≤ i → i < b → f i < m) ∧ ((m = 0 ∧ b = 0 ∧ x = 0) ∨ (0 ≤ b ∧ b < x ∧ f b = m))
theorem fmx_0 {f : Int → Int} : fmx f 0 0 0 := ⟨by omega, fun i _ _ => by omega, fun i _ _ => by omega, Or.inl ⟨rfl, rfl, rfl⟩⟩
theorem fmx_yes {f : Int → Int} {x m b : Int} (h : fmx f x m b) (hx : 0 ≤ x) (hf : m < f x) : fmx f (x + 1) (f x) x := by
  obtain ⟨h1, h2, h3, h4⟩ := h
  refine ⟨by omega, fun i i1 i2 => ?_, fun i i1 i2 => by have := h2 i i1 i2; omega, Or.inr ⟨hx, by omega, rfl⟩⟩
  rcases (by omega : i < x ∨ i = x) with z | rfl
  · have := h2 i i1 z; omega
  · omega
theorem fmx_no {f : Int → Int} {x m b : Int} (h : fmx f x m b) (hx : 0 ≤ x) (hp : 1 ≤ f x) (hf : f x ≤ m) : fmx f (x + 1) m b := by
  obtain ⟨h1, h2, h3, h4⟩ := h
  refine ⟨h1, fun i i1 i2 => ?_, h3, Or.inr ?_⟩
  · rcases (by omega : i < x ∨ i = x) with z | rfl
    · exact h2 i i1 z
    · exact hf
  · rcases h4 with h4 | h4
    · omega
    · exact ⟨h4.1, by omega, h4.2.2⟩
theorem fmx_u {f : Int → Int} {x m b m' b' : Int} (hx : 0 < x) (h : fmx f x m b) (h' : fmx f x m' b') : m = m' ∧ b = b' := by
  obtain ⟨h1, h2, h3, h4⟩ := h
  obtain ⟨g1, g2, g3, g4⟩ := h'
  have a : 0 ≤ b ∧ b < x ∧ f b = m := by omega
  have c : 0 ≤ b' ∧ b' < x ∧ f b' = m' := by omega
  have d1 := h2 b' c.1 c.2.1
  have d2 := g2 b a.1 a.2.1
  refine ⟨by omega, ?_⟩
  rcases (by omega : b < b' ∨ b = b' ∨ b' < b) with z | z | z
  · have := g3 b a.1 z; omega
  · exact z
  · have := h3 b' c.1 z; omega
def RCloak (w : Int → Int) (n L a r : Int) : Prop := gd ((1 ≤ L ∧ L ≤ n) ∧ 0 ≤ a ∧ a ≤ 1) (-1) r (∃ m b, fmx (cov w n L) (n - L + 1) m b ∧ r = if a = 0 then m else b)
theorem RCloak_u {w : Int → Int} {n L a r r' : Int} (h : RCloak w n L a r) (h' : RCloak w n L a r') : r = r' := by
  refine gd_uniq h h' (fun p ⟨m, b, h1, h2⟩ ⟨m', b', g1, g2⟩ => ?_)
  obtain ⟨e1, e2⟩ := fmx_u (by omega) h1 g1
  rw [h2, g2, e1, e2]
def S_Un_placesUnder : GS := fun as σ K => match as with
  | [some (.inr (.inr (9, 0))), some (.inl a1), some (.inl a2)] => (TwC σ ∧ 0 ≤ a1 ∧ 1 ≤ a2 ∧ a1 + a2 ≤ (σ 501 0 0) ∧ ¬ isE (cW σ) a1 a2) ∧ ∀ σ', TQ σ σ' → K (vI (cov (cW σ) (σ 501 0 0) a2 a1)) σ'
  | _ => False
abbrev Lp_Un_placesUnder_6 (a1 : Int) (a2 : Int) (σ0 : SS) (n : Nat) (L : List AV) (σ : SS) : Prop := ∃ (v3 : Int) (v4 : Int) (v5 : Int), L = [vR 9 0, vI a1, vI a2, vI v3, vI v4, vI v5] ∧ n = (1000 - v5).toNat ∧ ((TQ σ0 σ) ∧ (a1 ≤ v5) ∧ (v5 + a2 ≤ (σ0 501 0 0) + 1) ∧ (v3 = (covN (cW σ0) a1 a2 v5.toNat).1) ∧ (v4 = (covN (cW σ0) a1 a2 v5.toNat).2))
def Iv_Un_placesUnder (a1 : Int) (a2 : Int) (σ0 : SS) (k : Nat) : Option (List Nat × (Nat → List AV → SS → Prop)) := match k with
  | 6 => some ([], Lp_Un_placesUnder_6 a1 a2 σ0)
  | _ => none
def VE_Un_placesUnder (a1 : Int) (a2 : Int) (σ : SS) (K : AV → SS → Prop) : Prop :=
  (∃ n', Lp_Un_placesUnder_6 a1 a2 σ n' [vR 9 0, vI a1, vI a2, vI 0, vI 0, vI a1] σ)
def VL_Un_placesUnder_6 (a1 : Int) (a2 : Int) (σ0 : SS) (K : AV → SS → Prop) (v3 : Int) (v4 : Int) (v5 : Int) (σ : SS) (n : Nat) : Prop :=
  (S_Wo_size [vR 10 0] σ (kI fun r1 σ1 =>
    (InR (r1 - a2) ∧
    (((r1 - a2) < v5 →
      (K (vI v3) σ1)) ∧
    (v5 ≤ (r1 - a2) →
      (S_Tw_common [vR 8 0, vI a1, vI v5] σ1 (kI fun r2 σ2 =>
        ((r2 < a2 →
          (InR (v5 + 1) ∧
          (∃ n', n' < n ∧ Lp_Un_placesUnder_6 a1 a2 σ0 n' [vR 9 0, vI a1, vI a2, vI v3, vI v4, vI (v5 + 1)] σ2))) ∧
        (a2 ≤ r2 →
          (InR (v5 + a2) ∧
          (InR ((v5 + a2) - (max v5 v4)) ∧
          (InR (v3 + ((v5 + a2) - (max v5 v4))) ∧
          (InR (v5 + a2) ∧
          (InR (v5 + 1) ∧
          (∃ n', n' < n ∧ Lp_Un_placesUnder_6 a1 a2 σ0 n' [vR 9 0, vI a1, vI a2, vI (v3 + ((v5 + a2) - (max v5 v4))), vI (v5 + a2), vI (v5 + 1)] σ2)))))))))))))))
theorem l_Un_placesUnder_6 (a1 : Int) (a2 : Int) (σ0 : SS) (K : AV → SS → Prop) (ha1 : InR a1) (ha2 : InR a2) (hs0 : okS σ0) (hG : S_Un_placesUnder [vR 9 0, vI a1, vI a2] σ0 K) (v3 : Int) (v4 : Int) (v5 : Int) (σ : SS) (hv3 : InR v3) (hv4 : InR v4) (hv5 : InR v5) (hs : okS σ) (n : Nat) (hn : n = (1000 - v5).toNat) (hQ : (TQ σ0 σ) ∧ (a1 ≤ v5) ∧ (v5 + a2 ≤ (σ0 501 0 0) + 1) ∧ (v3 = (covN (cW σ0) a1 a2 v5.toNat).1) ∧ (v4 = (covN (cW σ0) a1 a2 v5.toNat).2)) : VL_Un_placesUnder_6 a1 a2 σ0 K v3 v4 v5 σ n := by
  unfold VL_Un_placesUnder_6
  obtain ⟨⟨hT, h1, h2, h3, h4⟩, hG⟩ := hG
  have hb := hT.n
  obtain ⟨q0, q1, q2, q3, q4⟩ := hQ
  obtain ⟨w1, w2⟩ := q0.w
  have hi := covN_in (w := cW σ0) (i := a1) h2 v5.toNat
  rw [← q3, ← q4] at hi
  intro _ _
  refine ⟨by omega, fun h => ?_, fun h => ⟨q0.2, fun σ' hF hT' => ?_⟩⟩
  · have e : v3 = cov (cW σ0) (σ0 501 0 0) a2 a1 := by
      rw [q3, show v5 = (σ0 501 0 0) - a2 + 1 by omega]; rfl
    rw [e]
    exact hG _ q0
  · rw [w1, w2]
    have q0' := q0.tr ⟨hF, hT'⟩
    have hc := common_ge (w := cW σ0) (n := (σ0 501 0 0)) (i := a1) (j := v5) (L := a2) (by omega) (by omega) (by omega) (by omega) (by omega)
    have ex : ((v5.toNat : Nat) : Int) = v5 := by omega
    intro _ _
    refine ⟨fun g => ⟨by omega, _, ?_, _, _, _, rfl, rfl, q0', by omega, by omega, ?_, ?_⟩, fun g => ⟨by omega, by omega, by omega, by omega, by omega, _, ?_, _, _, _, rfl, rfl, q0', by omega, by omega, ?_, ?_⟩⟩
    · omega
    · rw [show (v5 + 1).toNat = v5.toNat + 1 by omega, covN_no (by rw [ex]; exact fun z => by have := hc.mpr ⟨by omega, z⟩; omega)]; exact q3
    · rw [show (v5 + 1).toNat = v5.toNat + 1 by omega, covN_no (by rw [ex]; exact fun z => by have := hc.mpr ⟨by omega, z⟩; omega)]; exact q4
    · omega
    · rw [show (v5 + 1).toNat = v5.toNat + 1 by omega, covN_yes (by rw [ex]; exact (hc.mp g).2), ← q3, ← q4, ex]
    · rw [show (v5 + 1).toNat = v5.toNat + 1 by omega, covN_yes (by rw [ex]; exact (hc.mp g).2), ex]
theorem e_Un_placesUnder (a1 : Int) (a2 : Int) (σ : SS) (K : AV → SS → Prop) (ha1 : InR a1) (ha2 : InR a2) (hs : okS σ) (hG : S_Un_placesUnder [vR 9 0, vI a1, vI a2] σ K) : VE_Un_placesUnder a1 a2 σ K := by
  unfold VE_Un_placesUnder
  obtain ⟨⟨hT, h1, h2, h3, h4⟩, hG⟩ := hG
  have e : covN (cW σ) a1 a2 a1.toNat = (0, 0) := covN_none _ (fun x hx z => h4 ⟨x, by omega, by omega, eqs_symm z⟩)
  exact ⟨_, _, _, _, rfl, rfl, TQ.rf hT, by omega, by omega, by rw [e], by rw [e]⟩
theorem H_Un_placesUnder {d : Nat} (hd : 3 ≤ d) : Holds d I_Un_placesUnder S_Un_placesUnder := by
  refine holds_of (d' := d - 1) (rt := 1) (cal := [(I_Wo_size, S_Wo_size), (I_Tw_common, S_Tw_common)]) (C := C_Un_placesUnder) m_Un_placesUnder o_Un_placesUnder rfl rfl (by omega) ?_ ?_
  · intro x hx
    simp only [List.mem_cons, List.not_mem_nil, or_false] at hx
    rcases hx with rfl | rfl
    · exact H_Wo_size (by omega)
    · exact H_Tw_common (by omega)
  · intro as σ K has hσ hG
    have hG2 := hG
    unfold S_Un_placesUnder at hG2
    split at hG2
    · next a1 a2 =>
      refine ⟨Nat.le_of_ble_eq_true rfl, (Iv_Un_placesUnder a1 a2 σ), ?_, 1000, ?_⟩
      · intro k n z L σ' hk hL hs hP
        unfold Iv_Un_placesUnder at hk
        split at hk
        · cases hk
          obtain ⟨v3, v4, v5, rfl, hn, hQ⟩ := hP
          exact ⟨1000, l_Un_placesUnder_6 a1 a2 σ K (has _ (List.mem_of_getElem? (i := 1) rfl)) (has _ (List.mem_of_getElem? (i := 2) rfl)) hσ hG v3 v4 v5 σ' (hL _ (List.mem_of_getElem? (i := 3) rfl)) (hL _ (List.mem_of_getElem? (i := 4) rfl)) (hL _ (List.mem_of_getElem? (i := 5) rfl)) hs n hn hQ⟩
        · cases hk
      · exact e_Un_placesUnder a1 a2 σ K (has _ (List.mem_of_getElem? (i := 1) rfl)) (has _ (List.mem_of_getElem? (i := 2) rfl)) hσ hG
    · exact hG2.elim
def S_Un_cloakAnswer : GS := fun as σ K => match as with
  | [some (.inr (.inr (9, 0))), some (.inl a1), some (.inl a2)] => (TwC σ ∧ (1 ≤ a1 ∧ a1 ≤ (σ 501 0 0)) ∧ 0 ≤ a2 ∧ a2 ≤ 1) ∧ ∀ σ' r, TQ σ σ' → RCloak (cW σ) (σ 501 0 0) a1 a2 r → K (vI r) σ'
  | _ => False
abbrev Lp_Un_cloakAnswer_6 (a1 : Int) (a2 : Int) (σ0 : SS) (n : Nat) (L : List AV) (σ : SS) : Prop := ∃ (v3 : Int) (v4 : Int) (v5 : Int), L = [vR 9 0, vI a1, vI a2, vI v3, vI v4, vI v5, none] ∧ n = (1000 - v5).toNat ∧ ((TQ σ0 σ) ∧ (0 ≤ v5) ∧ (v5 + a1 ≤ (σ0 501 0 0) + 1) ∧ (fmx (cov (cW σ0) (σ0 501 0 0) a1) v5 v3 v4))
def Iv_Un_cloakAnswer (a1 : Int) (a2 : Int) (σ0 : SS) (k : Nat) : Option (List Nat × (Nat → List AV → SS → Prop)) := match k with
  | 6 => some ([6], Lp_Un_cloakAnswer_6 a1 a2 σ0)
  | _ => none
def VE_Un_cloakAnswer (a1 : Int) (a2 : Int) (σ : SS) (K : AV → SS → Prop) : Prop :=
  (∃ n', Lp_Un_cloakAnswer_6 a1 a2 σ n' [vR 9 0, vI a1, vI a2, vI 0, vI 0, vI 0, none] σ)
def VL_Un_cloakAnswer_6 (a1 : Int) (a2 : Int) (σ0 : SS) (K : AV → SS → Prop) (v3 : Int) (v4 : Int) (v5 : Int) (σ : SS) (n : Nat) : Prop :=
  (S_Wo_size [vR 10 0] σ (kI fun r1 σ1 =>
    (InR (r1 - a1) ∧
    (((r1 - a1) < v5 →
      ((a2 ≠ 0 →
        (K (vI v4) σ1)) ∧
      (a2 = 0 →
        (K (vI v3) σ1)))) ∧
    (v5 ≤ (r1 - a1) →
      (S_Un_isFirst [vR 9 0, vI v5, vI a1] σ1 (kI fun r2 σ2 =>
        ((r2 = 0 →
          (((0 : Int) ≤ v3 →
            (InR (v5 + 1) ∧
            (∃ n', n' < n ∧ Lp_Un_cloakAnswer_6 a1 a2 σ0 n' [vR 9 0, vI a1, vI a2, vI v3, vI v4, vI (v5 + 1), none] σ2))) ∧
          (v3 < (0 : Int) →
            (InR (v5 + 1) ∧
            (∃ n', n' < n ∧ Lp_Un_cloakAnswer_6 a1 a2 σ0 n' [vR 9 0, vI a1, vI a2, vI 0, vI v5, vI (v5 + 1), none] σ2))))) ∧
        (r2 ≠ 0 →
          (S_Un_placesUnder [vR 9 0, vI v5, vI a1] σ2 (kI fun r3 σ3 =>
            ((r3 ≤ v3 →
              (InR (v5 + 1) ∧
              (∃ n', n' < n ∧ Lp_Un_cloakAnswer_6 a1 a2 σ0 n' [vR 9 0, vI a1, vI a2, vI v3, vI v4, vI (v5 + 1), none] σ3))) ∧
            (v3 < r3 →
              (InR (v5 + 1) ∧
              (∃ n', n' < n ∧ Lp_Un_cloakAnswer_6 a1 a2 σ0 n' [vR 9 0, vI a1, vI a2, vI r3, vI v5, vI (v5 + 1), none] σ3)))))))))))))))
theorem l_Un_cloakAnswer_6 (a1 : Int) (a2 : Int) (σ0 : SS) (K : AV → SS → Prop) (ha1 : InR a1) (ha2 : InR a2) (hs0 : okS σ0) (hG : S_Un_cloakAnswer [vR 9 0, vI a1, vI a2] σ0 K) (v3 : Int) (v4 : Int) (v5 : Int) (σ : SS) (hv3 : InR v3) (hv4 : InR v4) (hv5 : InR v5) (hs : okS σ) (n : Nat) (hn : n = (1000 - v5).toNat) (hQ : (TQ σ0 σ) ∧ (0 ≤ v5) ∧ (v5 + a1 ≤ (σ0 501 0 0) + 1) ∧ (fmx (cov (cW σ0) (σ0 501 0 0) a1) v5 v3 v4)) : VL_Un_cloakAnswer_6 a1 a2 σ0 K v3 v4 v5 σ n := by
  unfold VL_Un_cloakAnswer_6
  obtain ⟨⟨hT, h1⟩, hG⟩ := hG
  have hb := hT.n
  obtain ⟨q0, q1, q2, q3⟩ := hQ
  obtain ⟨w1, w2⟩ := q0.w
  have hm := q3.1
  intro _ _
  refine ⟨by omega, fun h => ?_, fun h => ⟨⟨q0.2, q1, by omega, by omega⟩, fun σ' tq => ?_⟩⟩
  · rw [show v5 = (σ0 501 0 0) - a1 + 1 by omega] at q3
    exact ⟨fun g => hG _ _ q0 (gd_y h1 ⟨_, _, q3, (if_neg g).symm⟩), fun g => hG _ _ q0 (gd_y h1 ⟨_, _, q3, (if_pos g).symm⟩)⟩
  · have q0' := q0.tr tq
    rw [w1]
    have hc := cov_in (w := cW σ0) (n := (σ0 501 0 0)) (L := a1) (i := v5) (by omega) q1 (by omega)
    refine bS_b0 (fun hp _ => ?_) (fun hp _ => ?_)
    · refine ⟨⟨q0'.2, q1, by omega, by rw [q0'.w.2]; omega, by rw [q0'.w.1]; exact hp⟩, fun σ2 tq2 => ?_⟩
      rw [q0'.w.1, q0'.w.2]
      intro _ _
      refine ⟨fun g => ⟨by omega, _, ?_, _, _, _, rfl, rfl, q0'.tr tq2, by omega, by omega, fmx_no q3 q1 hc g⟩, fun g => ⟨by omega, _, ?_, _, _, _, rfl, rfl, q0'.tr tq2, by omega, by omega, fmx_yes q3 q1 g⟩⟩
      · omega
      · omega
    · have hp2 : isE (cW σ0) v5 a1 := Classical.byContradiction (fun z => hp z)
      obtain ⟨o, o1, o2, o3⟩ := cov_alike (n := (σ0 501 0 0)) (L := a1) hp2
      refine ⟨fun _ => ⟨by omega, _, ?_, _, _, _, rfl, rfl, q0', by omega, by omega, ?_⟩, fun g => by omega⟩
      · omega
      · exact fmx_no q3 q1 hc (by rw [o3]; exact q3.2.1 o o1 o2)
theorem e_Un_cloakAnswer (a1 : Int) (a2 : Int) (σ : SS) (K : AV → SS → Prop) (ha1 : InR a1) (ha2 : InR a2) (hs : okS σ) (hG : S_Un_cloakAnswer [vR 9 0, vI a1, vI a2] σ K) : VE_Un_cloakAnswer a1 a2 σ K := by
  unfold VE_Un_cloakAnswer
  obtain ⟨⟨hT, h1⟩, hG⟩ := hG
  exact ⟨_, _, _, _, rfl, rfl, TQ.rf hT, by omega, by omega, fmx_0⟩
theorem H_Un_cloakAnswer {d : Nat} (hd : 4 ≤ d) : Holds d I_Un_cloakAnswer S_Un_cloakAnswer := by
  refine holds_of (d' := d - 1) (rt := 1) (cal := [(I_Wo_size, S_Wo_size), (I_Un_isFirst, S_Un_isFirst), (I_Un_placesUnder, S_Un_placesUnder)]) (C := C_Un_cloakAnswer) m_Un_cloakAnswer o_Un_cloakAnswer rfl rfl (by omega) ?_ ?_
  · intro x hx
    simp only [List.mem_cons, List.not_mem_nil, or_false] at hx
    rcases hx with rfl | rfl | rfl
    · exact H_Wo_size (by omega)
    · exact H_Un_isFirst (by omega)
    · exact H_Un_placesUnder (by omega)
  · intro as σ K has hσ hG
    have hG2 := hG
    unfold S_Un_cloakAnswer at hG2
    split at hG2
    · next a1 a2 =>
      refine ⟨Nat.le_of_ble_eq_true rfl, (Iv_Un_cloakAnswer a1 a2 σ), ?_, 1000, ?_⟩
      · intro k n z L σ' hk hL hs hP
        unfold Iv_Un_cloakAnswer at hk
        split at hk
        · cases hk
          obtain ⟨v3, v4, v5, rfl, hn, hQ⟩ := hP
          exact ⟨1000, l_Un_cloakAnswer_6 a1 a2 σ K (has _ (List.mem_of_getElem? (i := 1) rfl)) (has _ (List.mem_of_getElem? (i := 2) rfl)) hσ hG v3 v4 v5 σ' (hL _ (List.mem_of_getElem? (i := 3) rfl)) (hL _ (List.mem_of_getElem? (i := 4) rfl)) (hL _ (List.mem_of_getElem? (i := 5) rfl)) hs n hn hQ⟩
        · cases hk
      · exact e_Un_cloakAnswer a1 a2 σ K (has _ (List.mem_of_getElem? (i := 1) rfl)) (has _ (List.mem_of_getElem? (i := 2) rfl)) hσ hG
    · exact hG2.elim
def S_Wr_cloak : GS := fun as σ K => match as with
  | [some (.inr (.inr (11, 0))), some (.inl a1), some (.inl a2)] => TwC σ ∧ ∀ σ' r, TQ σ σ' → RCloak (cW σ) (σ 501 0 0) a1 a2 r → K (vI r) σ'
  | _ => False
def VE_Wr_cloak (a1 : Int) (a2 : Int) (σ : SS) (K : AV → SS → Prop) : Prop :=
  ((a1 < 1 →
    (K (vI (-1)) σ)) ∧
  ((1 : Int) ≤ a1 →
    (S_Wo_size [vR 10 0] σ (kI fun r1 σ1 =>
      ((r1 < a1 →
        (K (vI (-1)) σ1)) ∧
      (a1 ≤ r1 →
        ((a2 < 0 →
          (K (vI (-1)) σ1)) ∧
        ((0 : Int) ≤ a2 →
          ((a2 ≤ 1 →
            (S_Un_cloakAnswer [vR 9 0, vI a1, vI a2] σ1 (kI fun r2 σ2 =>
              (K (vI r2) σ2)))) ∧
          ((1 : Int) < a2 →
            (K (vI (-1)) σ1)))))))))))
theorem e_Wr_cloak (a1 : Int) (a2 : Int) (σ : SS) (K : AV → SS → Prop) (ha1 : InR a1) (ha2 : InR a2) (hs : okS σ) (hG : S_Wr_cloak [vR 11 0, vI a1, vI a2] σ K) : VE_Wr_cloak a1 a2 σ K := by
  unfold VE_Wr_cloak
  obtain ⟨hT, hG⟩ := hG
  have no : ¬ ((1 ≤ a1 ∧ a1 ≤ (σ 501 0 0)) ∧ 0 ≤ a2 ∧ a2 ≤ 1) → K (vI (-1)) σ := fun z => hG _ _ (TQ.rf hT) (gd_n z)
  refine ⟨fun h => no (by omega), fun h => ?_⟩
  intro _ _
  refine ⟨fun g => no (by omega), fun g => ⟨fun z => no (by omega), fun z => ⟨fun y => ⟨⟨hT, ⟨h, g⟩, z, y⟩, fun σ' r tq hr => ?_⟩, fun y => no (by omega)⟩⟩⟩
  intro _ _
  exact hG _ _ tq hr
theorem H_Wr_cloak {d : Nat} (hd : 5 ≤ d) : Holds d I_Wr_cloak S_Wr_cloak := by
  refine holds_of (d' := d - 1) (rt := 1) (cal := [(I_Wo_size, S_Wo_size), (I_Un_cloakAnswer, S_Un_cloakAnswer)]) (C := C_Wr_cloak) m_Wr_cloak o_Wr_cloak rfl rfl (by omega) ?_ ?_
  · intro x hx
    simp only [List.mem_cons, List.not_mem_nil, or_false] at hx
    rcases hx with rfl | rfl
    · exact H_Wo_size (by omega)
    · exact H_Un_cloakAnswer (by omega)
  · intro as σ K has hσ hG
    have hG2 := hG
    unfold S_Wr_cloak at hG2
    split at hG2
    · next a1 a2 =>
      refine ⟨Nat.le_of_ble_eq_true rfl, (fun _ => none), ?_, 1000, ?_⟩
      · intro k n z L σ' hk hL hs hP
        cases hk
      · exact e_Wr_cloak a1 a2 σ K (has _ (List.mem_of_getElem? (i := 1) rfl)) (has _ (List.mem_of_getElem? (i := 2) rfl)) hσ hG
    · exact hG2.elim
def S_Mo_covered : GS := fun as σ K => match as with
  | [some (.inr (.inr (12, 0))), some (.inl a1), some (.inl a2)] => (MoW σ ∧ 0 ≤ a1 ∧ 1 ≤ a2 ∧ a1 + a2 ≤ (σ 40 0 0)) ∧ K (vI (cov (mW σ) (σ 40 0 0) a2 a1)) σ
  | _ => False
abbrev Lp_Mo_covered_6 (a1 : Int) (a2 : Int) (σ0 : SS) (n : Nat) (L : List AV) (σ : SS) : Prop := ∃ (v3 : Int) (v4 : Int) (v5 : Int), L = [vR 12 0, vI a1, vI a2, vI v3, vI v4, vI v5] ∧ n = (1000 - v5).toNat ∧ ((σ = σ0) ∧ (0 ≤ v5) ∧ (v5 + a2 ≤ (σ0 40 0 0) + 1) ∧ (v3 = (covN (mW σ0) a1 a2 v5.toNat).1) ∧ (v4 = (covN (mW σ0) a1 a2 v5.toNat).2))
def Iv_Mo_covered (a1 : Int) (a2 : Int) (σ0 : SS) (k : Nat) : Option (List Nat × (Nat → List AV → SS → Prop)) := match k with
  | 6 => some ([], Lp_Mo_covered_6 a1 a2 σ0)
  | _ => none
def VE_Mo_covered (a1 : Int) (a2 : Int) (σ : SS) (K : AV → SS → Prop) : Prop :=
  (∃ n', Lp_Mo_covered_6 a1 a2 σ n' [vR 12 0, vI a1, vI a2, vI 0, vI 0, vI 0] σ)
def VL_Mo_covered_6 (a1 : Int) (a2 : Int) (σ0 : SS) (K : AV → SS → Prop) (v3 : Int) (v4 : Int) (v5 : Int) (σ : SS) (n : Nat) : Prop :=
  (InR (v5 + a2) ∧
  (S_Mo_size [vR 12 0] σ (kI fun r1 σ1 =>
    ((r1 < (v5 + a2) →
      (K (vI v3) σ1)) ∧
    ((v5 + a2) ≤ r1 →
      (S_Mo_areAlike [vR 12 0, vI a1, vI v5, vI a2] σ1 (kI fun r2 σ2 =>
        ((r2 ≠ 0 →
          (InR (v5 + a2) ∧
          ((v5 ≤ v4 →
            (InR ((v5 + a2) - v4) ∧
            (InR (v3 + ((v5 + a2) - v4)) ∧
            (InR (v5 + a2) ∧
            (InR (v5 + 1) ∧
            (∃ n', n' < n ∧ Lp_Mo_covered_6 a1 a2 σ0 n' [vR 12 0, vI a1, vI a2, vI (v3 + ((v5 + a2) - v4)), vI (v5 + a2), vI (v5 + 1)] σ2)))))) ∧
          (v4 < v5 →
            (InR ((v5 + a2) - v5) ∧
            (InR (v3 + ((v5 + a2) - v5)) ∧
            (InR (v5 + a2) ∧
            (InR (v5 + 1) ∧
            (∃ n', n' < n ∧ Lp_Mo_covered_6 a1 a2 σ0 n' [vR 12 0, vI a1, vI a2, vI (v3 + ((v5 + a2) - v5)), vI (v5 + a2), vI (v5 + 1)] σ2))))))))) ∧
        (r2 = 0 →
          (InR (v5 + 1) ∧
          (∃ n', n' < n ∧ Lp_Mo_covered_6 a1 a2 σ0 n' [vR 12 0, vI a1, vI a2, vI v3, vI v4, vI (v5 + 1)] σ2)))))))))))
theorem l_Mo_covered_6 (a1 : Int) (a2 : Int) (σ0 : SS) (K : AV → SS → Prop) (ha1 : InR a1) (ha2 : InR a2) (hs0 : okS σ0) (hG : S_Mo_covered [vR 12 0, vI a1, vI a2] σ0 K) (v3 : Int) (v4 : Int) (v5 : Int) (σ : SS) (hv3 : InR v3) (hv4 : InR v4) (hv5 : InR v5) (hs : okS σ) (n : Nat) (hn : n = (1000 - v5).toNat) (hQ : (σ = σ0) ∧ (0 ≤ v5) ∧ (v5 + a2 ≤ (σ0 40 0 0) + 1) ∧ (v3 = (covN (mW σ0) a1 a2 v5.toNat).1) ∧ (v4 = (covN (mW σ0) a1 a2 v5.toNat).2)) : VL_Mo_covered_6 a1 a2 σ0 K v3 v4 v5 σ n := by
  unfold VL_Mo_covered_6
  obtain ⟨⟨hM, h1, h2, h3⟩, hG⟩ := hG
  have hb := hM.n
  obtain ⟨rfl, q1, q2, q3, q4⟩ := hQ
  have hi := covN_in (w := mW σ) (i := a1) h2 v5.toNat
  rw [← q3, ← q4] at hi
  have ex : ((v5.toNat : Nat) : Int) = v5 := by omega
  refine ⟨by omega, ?_⟩
  intro _ _
  refine ⟨fun h => ?_, fun h => ⟨⟨by omega, by omega, by omega, by omega, by omega, by omega⟩, bS_b1 (fun hp _ => ⟨by omega, fun g => ⟨by omega, by omega, by omega, by omega, _, ?_, _, _, _, rfl, rfl, rfl, by omega, by omega, ?_, ?_⟩, fun g => ⟨by omega, by omega, by omega, by omega, _, ?_, _, _, _, rfl, rfl, rfl, by omega, by omega, ?_, ?_⟩⟩) (fun hp _ => ⟨by omega, _, ?_, _, _, _, rfl, rfl, rfl, by omega, by omega, ?_, ?_⟩)⟩⟩
  · have e : v3 = cov (mW σ) (σ 40 0 0) a2 a1 := by
      rw [q3, show v5 = (σ 40 0 0) - a2 + 1 by omega]; rfl
    rw [e]
    exact hG
  · omega
  · rw [show (v5 + 1).toNat = v5.toNat + 1 by omega, covN_yes (by rw [ex]; exact hp), ← q3, ← q4, ex]
    show _ = v3 + (v5 + a2 - max v5 v4)
    omega
  · rw [show (v5 + 1).toNat = v5.toNat + 1 by omega, covN_yes (by rw [ex]; exact hp), ex]
  · omega
  · rw [show (v5 + 1).toNat = v5.toNat + 1 by omega, covN_yes (by rw [ex]; exact hp), ← q3, ← q4, ex]
    show _ = v3 + (v5 + a2 - max v5 v4)
    omega
  · rw [show (v5 + 1).toNat = v5.toNat + 1 by omega, covN_yes (by rw [ex]; exact hp), ex]
  · omega
  · rw [show (v5 + 1).toNat = v5.toNat + 1 by omega, covN_no (by rw [ex]; exact hp)]; exact q3
  · rw [show (v5 + 1).toNat = v5.toNat + 1 by omega, covN_no (by rw [ex]; exact hp)]; exact q4
theorem e_Mo_covered (a1 : Int) (a2 : Int) (σ : SS) (K : AV → SS → Prop) (ha1 : InR a1) (ha2 : InR a2) (hs : okS σ) (hG : S_Mo_covered [vR 12 0, vI a1, vI a2] σ K) : VE_Mo_covered a1 a2 σ K := by
  unfold VE_Mo_covered
  obtain ⟨⟨hM, h1⟩, hG⟩ := hG
  exact ⟨_, _, _, _, rfl, rfl, rfl, by omega, by omega, rfl, rfl⟩
theorem H_Mo_covered {d : Nat} (hd : 4 ≤ d) : Holds d I_Mo_covered S_Mo_covered := by
  refine holds_of (d' := d - 1) (rt := 1) (cal := [(I_Mo_size, S_Mo_size), (I_Mo_areAlike, S_Mo_areAlike)]) (C := C_Mo_covered) m_Mo_covered o_Mo_covered rfl rfl (by omega) ?_ ?_
  · intro x hx
    simp only [List.mem_cons, List.not_mem_nil, or_false] at hx
    rcases hx with rfl | rfl
    · exact H_Mo_size (by omega)
    · exact H_Mo_areAlike (by omega)
  · intro as σ K has hσ hG
    have hG2 := hG
    unfold S_Mo_covered at hG2
    split at hG2
    · next a1 a2 =>
      refine ⟨Nat.le_of_ble_eq_true rfl, (Iv_Mo_covered a1 a2 σ), ?_, 1000, ?_⟩
      · intro k n z L σ' hk hL hs hP
        unfold Iv_Mo_covered at hk
        split at hk
        · cases hk
          obtain ⟨v3, v4, v5, rfl, hn, hQ⟩ := hP
          exact ⟨1000, l_Mo_covered_6 a1 a2 σ K (has _ (List.mem_of_getElem? (i := 1) rfl)) (has _ (List.mem_of_getElem? (i := 2) rfl)) hσ hG v3 v4 v5 σ' (hL _ (List.mem_of_getElem? (i := 3) rfl)) (hL _ (List.mem_of_getElem? (i := 4) rfl)) (hL _ (List.mem_of_getElem? (i := 5) rfl)) hs n hn hQ⟩
        · cases hk
      · exact e_Mo_covered a1 a2 σ K (has _ (List.mem_of_getElem? (i := 1) rfl)) (has _ (List.mem_of_getElem? (i := 2) rfl)) hσ hG
    · exact hG2.elim
def S_Mo_cloak : GS := fun as σ K => match as with
  | [some (.inr (.inr (12, 0))), some (.inl a1), some (.inl a2)] => MoW σ ∧ ∀ r, RCloak (mW σ) (σ 40 0 0) a1 a2 r → K (vI r) σ
  | _ => False
abbrev Lp_Mo_cloak_22 (a1 : Int) (a2 : Int) (σ0 : SS) (n : Nat) (L : List AV) (σ : SS) : Prop := ∃ (v3 : Int) (v4 : Int) (v5 : Int), L = [vR 12 0, vI a1, vI a2, vI v3, vI v4, vI v5, none] ∧ n = (1000 - v5).toNat ∧ ((σ = σ0) ∧ ((1 ≤ a1 ∧ a1 ≤ (σ0 40 0 0)) ∧ 0 ≤ a2 ∧ a2 ≤ 1) ∧ (0 ≤ v5) ∧ (v5 + a1 ≤ (σ0 40 0 0) + 1) ∧ (fmx (cov (mW σ0) (σ0 40 0 0) a1) v5 v4 v3))
def Iv_Mo_cloak (a1 : Int) (a2 : Int) (σ0 : SS) (k : Nat) : Option (List Nat × (Nat → List AV → SS → Prop)) := match k with
  | 22 => some ([6], Lp_Mo_cloak_22 a1 a2 σ0)
  | _ => none
def VE_Mo_cloak (a1 : Int) (a2 : Int) (σ : SS) (K : AV → SS → Prop) : Prop :=
  (S_Mo_size [vR 12 0] σ (kI fun r1 σ1 =>
    (S_Mo_in [vL a1, vL 1, vL r1] σ1 (kI fun r2 σ2 =>
      ((r2 = 0 →
        (K (vI (-1)) σ2)) ∧
      (r2 ≠ 0 →
        (S_Mo_in [vL a2, vL 0, vL 1] σ2 (kI fun r3 σ3 =>
          ((r3 ≠ 0 →
            (∃ n', Lp_Mo_cloak_22 a1 a2 σ n' [vR 12 0, vI a1, vI a2, vI 0, vI 0, vI 0, none] σ3)) ∧
          (r3 = 0 →
            (K (vI (-1)) σ3)))))))))))
def VL_Mo_cloak_22 (a1 : Int) (a2 : Int) (σ0 : SS) (K : AV → SS → Prop) (v3 : Int) (v4 : Int) (v5 : Int) (σ : SS) (n : Nat) : Prop :=
  (InR (v5 + a1) ∧
  (S_Mo_size [vR 12 0] σ (kI fun r1 σ1 =>
    ((r1 < (v5 + a1) →
      ((a2 ≠ 0 →
        (K (vI v3) σ1)) ∧
      (a2 = 0 →
        (K (vI v4) σ1)))) ∧
    ((v5 + a1) ≤ r1 →
      (S_Mo_covered [vR 12 0, vI v5, vI a1] σ1 (kI fun r2 σ2 =>
        ((v4 < r2 →
          (InR (v5 + 1) ∧
          (∃ n', n' < n ∧ Lp_Mo_cloak_22 a1 a2 σ0 n' [vR 12 0, vI a1, vI a2, vI v5, vI r2, vI (v5 + 1), none] σ2))) ∧
        (r2 ≤ v4 →
          (InR (v5 + 1) ∧
          (∃ n', n' < n ∧ Lp_Mo_cloak_22 a1 a2 σ0 n' [vR 12 0, vI a1, vI a2, vI v3, vI v4, vI (v5 + 1), none] σ2)))))))))))
theorem l_Mo_cloak_22 (a1 : Int) (a2 : Int) (σ0 : SS) (K : AV → SS → Prop) (ha1 : InR a1) (ha2 : InR a2) (hs0 : okS σ0) (hG : S_Mo_cloak [vR 12 0, vI a1, vI a2] σ0 K) (v3 : Int) (v4 : Int) (v5 : Int) (σ : SS) (hv3 : InR v3) (hv4 : InR v4) (hv5 : InR v5) (hs : okS σ) (n : Nat) (hn : n = (1000 - v5).toNat) (hQ : (σ = σ0) ∧ ((1 ≤ a1 ∧ a1 ≤ (σ0 40 0 0)) ∧ 0 ≤ a2 ∧ a2 ≤ 1) ∧ (0 ≤ v5) ∧ (v5 + a1 ≤ (σ0 40 0 0) + 1) ∧ (fmx (cov (mW σ0) (σ0 40 0 0) a1) v5 v4 v3)) : VL_Mo_cloak_22 a1 a2 σ0 K v3 v4 v5 σ n := by
  unfold VL_Mo_cloak_22
  obtain ⟨hM, hG⟩ := hG
  have hb := hM.n
  obtain ⟨rfl, h1, q1, q2, q3⟩ := hQ
  refine ⟨by omega, ?_⟩
  intro _ _
  refine ⟨fun h => ?_, fun h => ⟨⟨hM, q1, by omega, h⟩, ?_⟩⟩
  · rw [show v5 = (σ 40 0 0) - a1 + 1 by omega] at q3
    exact ⟨fun g => hG _ (gd_y h1 ⟨_, _, q3, (if_neg g).symm⟩), fun g => hG _ (gd_y h1 ⟨_, _, q3, (if_pos g).symm⟩)⟩
  · have hc := cov_in (w := mW σ) (n := (σ 40 0 0)) (L := a1) (i := v5) (by omega) q1 (by omega)
    intro _ _
    refine ⟨fun g => ⟨by omega, _, ?_, _, _, _, rfl, rfl, rfl, h1, by omega, by omega, fmx_yes q3 q1 g⟩, fun g => ⟨by omega, _, ?_, _, _, _, rfl, rfl, rfl, h1, by omega, by omega, fmx_no q3 q1 hc g⟩⟩
    · omega
    · omega
theorem e_Mo_cloak (a1 : Int) (a2 : Int) (σ : SS) (K : AV → SS → Prop) (ha1 : InR a1) (ha2 : InR a2) (hs : okS σ) (hG : S_Mo_cloak [vR 12 0, vI a1, vI a2] σ K) : VE_Mo_cloak a1 a2 σ K := by
  unfold VE_Mo_cloak
  obtain ⟨hM, hG⟩ := hG
  have hb := hM.n
  intro _ _
  refine bS_b0 (fun hp _ => bS_b1 (fun hp2 _ => ⟨_, _, _, _, rfl, rfl, rfl, ⟨hp, hp2⟩, by omega, by omega, fmx_0⟩) (fun hp2 _ => hG _ (gd_n (fun z => hp2 z.2)))) (fun hp _ => hG _ (gd_n (fun z => hp z.1)))
theorem H_Mo_cloak {d : Nat} (hd : 5 ≤ d) : Holds d I_Mo_cloak S_Mo_cloak := by
  refine holds_of (d' := d - 1) (rt := 1) (cal := [(I_Mo_size, S_Mo_size), (I_Mo_in, S_Mo_in), (I_Mo_covered, S_Mo_covered)]) (C := C_Mo_cloak) m_Mo_cloak o_Mo_cloak rfl rfl (by omega) ?_ ?_
  · intro x hx
    simp only [List.mem_cons, List.not_mem_nil, or_false] at hx
    rcases hx with rfl | rfl | rfl
    · exact H_Mo_size (by omega)
    · exact H_Mo_in (by omega)
    · exact H_Mo_covered (by omega)
  · intro as σ K has hσ hG
    have hG2 := hG
    unfold S_Mo_cloak at hG2
    split at hG2
    · next a1 a2 =>
      refine ⟨Nat.le_of_ble_eq_true rfl, (Iv_Mo_cloak a1 a2 σ), ?_, 1000, ?_⟩
      · intro k n z L σ' hk hL hs hP
        unfold Iv_Mo_cloak at hk
        split at hk
        · cases hk
          obtain ⟨v3, v4, v5, rfl, hn, hQ⟩ := hP
          exact ⟨1000, l_Mo_cloak_22 a1 a2 σ K (has _ (List.mem_of_getElem? (i := 1) rfl)) (has _ (List.mem_of_getElem? (i := 2) rfl)) hσ hG v3 v4 v5 σ' (hL _ (List.mem_of_getElem? (i := 3) rfl)) (hL _ (List.mem_of_getElem? (i := 4) rfl)) (hL _ (List.mem_of_getElem? (i := 5) rfl)) hs n hn hQ⟩
        · cases hk
      · exact e_Mo_cloak a1 a2 σ K (has _ (List.mem_of_getElem? (i := 1) rfl)) (has _ (List.mem_of_getElem? (i := 2) rfl)) hσ hG
    · exact hG2.elim
