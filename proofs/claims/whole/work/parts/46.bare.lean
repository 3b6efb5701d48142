theorem lceR_in {w : Int → Int} {n i j : Int} (hn : 0 ≤ n) : 0 ≤ lceR w n i j ∧ lceR w n i j ≤ n := by
  unfold lceR
  split
  · have := lce_spec w (n := n) (i := i) (j := j) (by omega) (by omega)
    omega
  · omega
def bareP (w : Int → Int) (n i h : Int) : Prop := 0 ≤ i ∧ 1 ≤ h ∧ i + h ≤ n ∧ ∀ p, 1 ≤ p → p < h → ¬ isP w i (i + h) p
/-- as far as a PART from i goes that begins again at a place ahead of j - 1 -/
def rchP (w : Int → Int) (n i r j : Int) : Prop := i ≤ r ∧ (∀ x, i < x → x < j - 1 → x + lceR w n i x ≤ r) ∧ (r = i ∨ ∃ x, i < x ∧ x < j - 1 ∧ x + lceR w n i x = r)
theorem rch_bare {w : Int → Int} {n i r j : Int} (h : rchP w n i r (j + 1)) (h0 : 0 ≤ i) (h1 : i < j) (h2 : j ≤ n) : r < j ↔ bareP w n i (j - i) := by
  obtain ⟨a1, a2, a3⟩ := h
  constructor
  · intro g
    refine ⟨h0, by omega, by omega, fun p p1 p2 z => ?_⟩
    have b1 := a2 (i + p) (by omega) (by omega)
    have b2 := (common_ge (w := w) (n := n) (i := i) (j := i + p) (L := j - i - p) h0 (by omega) (by omega) (by omega) (by omega)).mpr ⟨by omega, ?_⟩
    · omega
    · have := z
      unfold isP at this
      rwa [show i + (j - i) - i - p = j - i - p by omega] at this
  · rintro ⟨-, -, -, g⟩
    rcases a3 with a3 | ⟨x, b1, b2, b3⟩
    · omega
    · rcases (by omega : r < j ∨ j ≤ r) with y | y
      · exact y
      · have b4 := (common_ge (w := w) (n := n) (i := i) (j := x) (L := j - x) h0 (by omega) (by omega) (by omega) (by omega)).mp (by omega)
        refine absurd ?_ (g (x - i) (by omega) (by omega))
        unfold isP
        rw [show i + (x - i) = x by omega, show i + (j - i) - i - (x - i) = j - x by omega]
        exact b4.2
theorem rch_0 {w : Int → Int} {n i r j : Int} (h : rchP w n i r j) (h1 : j - 1 ≤ i) : rchP w n i r (j + 1) :=
  ⟨h.1, fun x g1 g2 => by omega, by
    rcases h.2.2 with h | ⟨x, b1, b2, b3⟩
    · exact Or.inl h
    · omega⟩
theorem rch_1 {w : Int → Int} {n i r j : Int} (h : rchP w n i r j) (h1 : i < j - 1) : rchP w n i (max r (j - 1 + lceR w n i (j - 1))) (j + 1) := by
  obtain ⟨a1, a2, a3⟩ := h
  refine ⟨by omega, fun x g1 g2 => ?_, ?_⟩
  · rcases (by omega : x < j - 1 ∨ x = j - 1) with y | rfl
    · have := a2 x g1 y; omega
    · omega
  · rcases (by omega : r ≤ j - 1 + lceR w n i (j - 1) ∨ j - 1 + lceR w n i (j - 1) < r) with y | y
    · exact Or.inr ⟨j - 1, by omega, by omega, by omega⟩
    · rcases a3 with a3 | ⟨x, b1, b2, b3⟩
      · exact Or.inl (by omega)
      · exact Or.inr ⟨x, b1, by omega, by omega⟩
def S_Rp_withoutBorder : GS := fun as σ K => match as with
  | [some (.inr (.inr (4, 0)))] => TwC σ ∧ ∀ σ', RQ σ σ' → σ' 380 0 0 = dsum (bareP (cW σ) (σ 501 0 0)) (σ 501 0 0) → TL 1 (bareP (cW σ) (σ 501 0 0)) (σ' 381 0 0) (σ' 382 0 0) → K (vR 7 0) σ'
  | _ => False
abbrev Lp_Rp_withoutBorder_5 (σ0 : SS) (n : Nat) (L : List AV) (σ : SS) : Prop := ∃ (v1 : Int), L = [vR 4 0, vI v1, none, none, none] ∧ n = (((σ0 501 0 0) - v1) * 1000).toNat ∧ ((RQ σ0 σ) ∧ (0 ≤ v1) ∧ (v1 ≤ (σ0 501 0 0)) ∧ (TA 1 (bareP (cW σ0) (σ0 501 0 0)) (σ0 501 0 0) v1 1 (σ 380 0 0) (σ 381 0 0) (σ 382 0 0)))
abbrev Lp_Rp_withoutBorder_16 (σ0 : SS) (n : Nat) (L : List AV) (σ : SS) : Prop := ∃ (v1 : Int) (v2 : Int) (v3 : Int), L = [vR 4 0, vI v1, vI v2, vI v3, none] ∧ n = (((σ0 501 0 0) - v1) * 1000 - (v3 - v1)).toNat ∧ ((RQ σ0 σ) ∧ (0 ≤ v1) ∧ (v1 < (σ0 501 0 0)) ∧ (v1 < v3) ∧ (v3 ≤ (σ0 501 0 0) + 1) ∧ (rchP (cW σ0) (σ0 501 0 0) v1 v2 v3) ∧ (TA 1 (bareP (cW σ0) (σ0 501 0 0)) (σ0 501 0 0) v1 (v3 - v1) (σ 380 0 0) (σ 381 0 0) (σ 382 0 0)))
def Iv_Rp_withoutBorder (σ0 : SS) (k : Nat) : Option (List Nat × (Nat → List AV → SS → Prop)) := match k with
  | 5 => some ([2, 3, 4], Lp_Rp_withoutBorder_5 σ0)
  | 16 => some ([4], Lp_Rp_withoutBorder_16 σ0)
  | _ => none
def VE_Rp_withoutBorder (σ : SS) (K : AV → SS → Prop) : Prop :=
  (S_Ta_clear [vR 7 0] σ (kV fun σ1 =>
    (∃ n', Lp_Rp_withoutBorder_5 σ n' [vR 4 0, vI 0, none, none, none] σ1)))
def VL_Rp_withoutBorder_5 (σ0 : SS) (K : AV → SS → Prop) (v1 : Int) (σ : SS) (n : Nat) : Prop :=
  (S_Wo_size [vR 10 0] σ (kI fun r1 σ1 =>
    ((r1 ≤ v1 →
      (K (vR 7 0) σ1)) ∧
    (v1 < r1 →
      (InR (v1 + 1) ∧
      (∃ n', n' < n ∧ Lp_Rp_withoutBorder_16 σ0 n' [vR 4 0, vI v1, vI v1, vI (v1 + 1), none] σ1))))))
def VL_Rp_withoutBorder_16 (σ0 : SS) (K : AV → SS → Prop) (v1 : Int) (v2 : Int) (v3 : Int) (σ : SS) (n : Nat) : Prop :=
  (S_Wo_size [vR 10 0] σ (kI fun r1 σ1 =>
    ((r1 < v3 →
      (InR (v1 + 1) ∧
      (∃ n', n' < n ∧ Lp_Rp_withoutBorder_5 σ0 n' [vR 4 0, vI (v1 + 1), none, none, none] σ1))) ∧
    (v3 ≤ r1 →
      (InR (v3 - 1) ∧
      (((v3 - 1) ≤ v1 →
        ((v3 ≤ v2 →
          (InR (v3 + 1) ∧
          (∃ n', n' < n ∧ Lp_Rp_withoutBorder_16 σ0 n' [vR 4 0, vI v1, vI v2, vI (v3 + 1), none] σ1))) ∧
        (v2 < v3 →
          (InR (v3 - v1) ∧
          (S_Ta_add [vR 7 0, vI v1, vI (v3 - v1)] σ1 (kV fun σ2 =>
            (InR (v3 + 1) ∧
            (∃ n', n' < n ∧ Lp_Rp_withoutBorder_16 σ0 n' [vR 4 0, vI v1, vI v2, vI (v3 + 1), none] σ2)))))))) ∧
      (v1 < (v3 - 1) →
        (S_Tw_common [vR 8 0, vI v1, vI (v3 - 1)] σ1 (kI fun r3 σ3 =>
          (InR ((v3 - 1) + r3) ∧
          ((v3 ≤ (max v2 ((v3 - 1) + r3)) →
            (InR (v3 + 1) ∧
            (∃ n', n' < n ∧ Lp_Rp_withoutBorder_16 σ0 n' [vR 4 0, vI v1, vI (max v2 ((v3 - 1) + r3)), vI (v3 + 1), none] σ3))) ∧
          ((max v2 ((v3 - 1) + r3)) < v3 →
            (InR (v3 - v1) ∧
            (S_Ta_add [vR 7 0, vI v1, vI (v3 - v1)] σ3 (kV fun σ4 =>
              (InR (v3 + 1) ∧
              (∃ n', n' < n ∧ Lp_Rp_withoutBorder_16 σ0 n' [vR 4 0, vI v1, vI (max v2 ((v3 - 1) + r3)), vI (v3 + 1), none] σ4)))))))))))))))))
theorem l_Rp_withoutBorder_5 (σ0 : SS) (K : AV → SS → Prop) (hs0 : okS σ0) (hG : S_Rp_withoutBorder [vR 4 0] σ0 K) (v1 : Int) (σ : SS) (hv1 : InR v1) (hs : okS σ) (n : Nat) (hn : n = (((σ0 501 0 0) - v1) * 1000).toNat) (hQ : (RQ σ0 σ) ∧ (0 ≤ v1) ∧ (v1 ≤ (σ0 501 0 0)) ∧ (TA 1 (bareP (cW σ0) (σ0 501 0 0)) (σ0 501 0 0) v1 1 (σ 380 0 0) (σ 381 0 0) (σ 382 0 0))) : VL_Rp_withoutBorder_5 σ0 K v1 σ n := by
  unfold VL_Rp_withoutBorder_5
  obtain ⟨hT, hG⟩ := hG
  obtain ⟨q0, q1, q2, q3⟩ := hQ
  have hb := hT.n
  obtain ⟨w1, w2⟩ := q0.w
  intro _ _
  refine ⟨fun h => ?_, fun h => ⟨by omega, _, ?_, _, _, _, rfl, rfl, q0, q1, by omega, by omega, by omega, ?_, ?_⟩⟩
  · rw [show v1 = (σ0 501 0 0) by omega] at q3
    obtain ⟨z1, z2⟩ := TA_end q3 (fun i h z => by have := z.2.1; have := z.2.2.1; omega)
    exact hG σ q0 z1 z2
  · omega
  · exact ⟨by omega, fun x g1 g2 => by omega, Or.inl rfl⟩
  · rw [show v1 + 1 - v1 = 1 by omega]; exact q3
theorem l_Rp_withoutBorder_16 (σ0 : SS) (K : AV → SS → Prop) (hs0 : okS σ0) (hG : S_Rp_withoutBorder [vR 4 0] σ0 K) (v1 : Int) (v2 : Int) (v3 : Int) (σ : SS) (hv1 : InR v1) (hv2 : InR v2) (hv3 : InR v3) (hs : okS σ) (n : Nat) (hn : n = (((σ0 501 0 0) - v1) * 1000 - (v3 - v1)).toNat) (hQ : (RQ σ0 σ) ∧ (0 ≤ v1) ∧ (v1 < (σ0 501 0 0)) ∧ (v1 < v3) ∧ (v3 ≤ (σ0 501 0 0) + 1) ∧ (rchP (cW σ0) (σ0 501 0 0) v1 v2 v3) ∧ (TA 1 (bareP (cW σ0) (σ0 501 0 0)) (σ0 501 0 0) v1 (v3 - v1) (σ 380 0 0) (σ 381 0 0) (σ 382 0 0))) : VL_Rp_withoutBorder_16 σ0 K v1 v2 v3 σ n := by
  unfold VL_Rp_withoutBorder_16
  obtain ⟨hT, hG⟩ := hG
  obtain ⟨q0, q1, q2, q3, q4, q5, q6⟩ := hQ
  have hb := hT.n
  obtain ⟨w1, w2⟩ := q0.w
  have hin := TA_in q6 hb.1 hb.2 (by omega) (by omega)
  intro _ _
  refine ⟨fun h => ⟨by omega, _, ?_, _, rfl, rfl, q0, by omega, by omega, TA_row q6 q1 (by omega) (by omega) (fun x g1 z => by have := z.2.2.1; omega) (fun i h z => z.2.1)⟩, fun h => ⟨by omega, fun h1 => ?_, fun h1 => ⟨q0.2, fun σ' hF hT' => ?_⟩⟩⟩
  · omega
  · have r1 := rch_0 q5 h1
    have r2 := rch_bare r1 q1 q3 (by omega)
    refine ⟨fun h2 => ⟨by omega, _, ?_, _, _, _, rfl, rfl, q0, q1, q2, by omega, by omega, r1, ?_⟩, fun h2 => ⟨by omega, by omega, fun σ2 hF2 k1 k2 k3 => ?_⟩⟩
    · omega
    · rw [show v3 + 1 - v1 = v3 - v1 + 1 by omega]
      exact TA_no q6 (by omega) (fun z => by have := r2.mpr z; omega)
    · intro _
      refine ⟨by omega, _, ?_, _, _, _, rfl, rfl, q0.tr (TaQ q0.2 hF2), q1, q2, by omega, by omega, r1, ?_⟩
      · omega
      · have := TA_yes (Or.inl rfl) q6 (by omega) (r2.mp h2)
        rw [show v3 + 1 - v1 = v3 - v1 + 1 by omega, k1, k2, k3]
        rwa [Int.one_mul] at this
  · rw [w1, w2]
    have tq : TQ σ σ' := ⟨hF, hT'⟩
    obtain ⟨t1, t2, t3⟩ := tq.ta
    have q0' := q0.tr tq.R
    have r1 := rch_1 q5 h1
    have r2 := rch_bare r1 q1 q3 (by omega)
    have hl := lceR_in (w := cW σ0) (n := (σ0 501 0 0)) (i := v1) (j := v3 - 1) hb.1
    intro _ _
    refine ⟨by omega, fun h2 => ⟨by omega, _, ?_, _, _, _, rfl, rfl, q0', q1, q2, by omega, by omega, r1, ?_⟩, fun h2 => ⟨by omega, by omega, fun σ2 hF2 k1 k2 k3 => ?_⟩⟩
    · omega
    · rw [show v3 + 1 - v1 = v3 - v1 + 1 by omega, t1, t2, t3]
      exact TA_no q6 (by omega) (fun z => by have := r2.mpr z; omega)
    · intro _
      refine ⟨by omega, _, ?_, _, _, _, rfl, rfl, q0'.tr (TaQ hT' hF2), q1, q2, by omega, by omega, r1, ?_⟩
      · omega
      · have := TA_yes (Or.inl rfl) q6 (by omega) (r2.mp h2)
        rw [show v3 + 1 - v1 = v3 - v1 + 1 by omega, k1, k2, k3, t1, t2, t3]
        rwa [Int.one_mul] at this
theorem e_Rp_withoutBorder (σ : SS) (K : AV → SS → Prop) (hs : okS σ) (hG : S_Rp_withoutBorder [vR 4 0] σ K) : VE_Rp_withoutBorder σ K := by
  unfold VE_Rp_withoutBorder
  obtain ⟨hT, hG⟩ := hG
  intro σ' hF e1 e2 e3 _
  have hb := hT.n
  refine ⟨_, _, rfl, rfl, TaQ hT hF, by omega, by omega, ?_⟩
  rw [e1, e2, e3]
  exact TA_0 (fun i h z => ⟨z.1, z.2.1⟩)
theorem H_Rp_withoutBorder {d : Nat} (hd : 3 ≤ d) : Holds d I_Rp_withoutBorder S_Rp_withoutBorder := by
  refine holds_of (d' := d - 1) (rt := 3) (cal := [(I_Ta_clear, S_Ta_clear), (I_Wo_size, S_Wo_size), (I_Tw_common, S_Tw_common), (I_Ta_add, S_Ta_add)]) (C := C_Rp_withoutBorder) m_Rp_withoutBorder o_Rp_withoutBorder rfl rfl (by omega) ?_ ?_
  · intro x hx
    simp only [List.mem_cons, List.not_mem_nil, or_false] at hx
    rcases hx with rfl | rfl | rfl | rfl
    · exact H_Ta_clear (by omega)
    · exact H_Wo_size (by omega)
    · exact H_Tw_common (by omega)
    · exact H_Ta_add (by omega)
  · intro as σ K has hσ hG
    have hG2 := hG
    unfold S_Rp_withoutBorder at hG2
    split at hG2
    · skip
      refine ⟨Nat.le_of_ble_eq_true rfl, (Iv_Rp_withoutBorder σ), ?_, 1000, ?_⟩
      · intro k n z L σ' hk hL hs hP
        unfold Iv_Rp_withoutBorder at hk
        split at hk
        · cases hk
          obtain ⟨v1, rfl, hn, hQ⟩ := hP
          exact ⟨1000, l_Rp_withoutBorder_5 σ K  hσ hG v1 σ' (hL _ (List.mem_of_getElem? (i := 1) rfl)) hs n hn hQ⟩
        · cases hk
          obtain ⟨v1, v2, v3, rfl, hn, hQ⟩ := hP
          exact ⟨1000, l_Rp_withoutBorder_16 σ K  hσ hG v1 v2 v3 σ' (hL _ (List.mem_of_getElem? (i := 1) rfl)) (hL _ (List.mem_of_getElem? (i := 2) rfl)) (hL _ (List.mem_of_getElem? (i := 3) rfl)) hs n hn hQ⟩
        · cases hk
      · exact e_Rp_withoutBorder σ K  hσ hG
    · exact hG2.elim
def RBare (w : Int → Int) (n a r : Int) : Prop := gd (0 ≤ a ∧ a ≤ 1) (-1) r (∃ l f, TL 1 (bareP w n) l f ∧ r = if a = 0 then l else f)
theorem RBare_u {w : Int → Int} {n a r r' : Int} (h : RBare w n a r) (h' : RBare w n a r') : r = r' := by
  refine gd_uniq h h' (fun _ ⟨l, f, h2, h3⟩ ⟨l', f', g2, g3⟩ => ?_)
  obtain ⟨e1, e2⟩ := TL_uniq (Or.inl rfl) (fun _ _ z => ⟨z.1, z.2.1⟩) h2 g2
  rw [h3, g3, e1, e2]
def S_Wr_bare : GS := fun as σ K => match as with
  | [some (.inr (.inr (11, 0))), some (.inl a1)] => TwC σ ∧ ∀ σ' r, RQ σ σ' → RBare (cW σ) (σ 501 0 0) a1 r → K (vI r) σ'
  | _ => False
def VE_Wr_bare (a1 : Int) (σ : SS) (K : AV → SS → Prop) : Prop :=
  ((a1 = 0 →
    (S_Rp_withoutBorder [vR 4 0] σ (kR 7 fun i1 σ1 =>
      (InR (a1 + 1) ∧
      (S_Ta_told [vR 7 i1, vI (a1 + 1)] σ1 (kI fun r2 σ2 =>
        (K (vI r2) σ2))))))) ∧
  (a1 ≠ 0 →
    ((a1 ≠ 1 →
      (K (vI (-1)) σ)) ∧
    (a1 = 1 →
      (S_Rp_withoutBorder [vR 4 0] σ (kR 7 fun i3 σ3 =>
        (InR (a1 + 1) ∧
        (S_Ta_told [vR 7 i3, vI (a1 + 1)] σ3 (kI fun r4 σ4 =>
          (K (vI r4) σ4))))))))))
theorem e_Wr_bare (a1 : Int) (σ : SS) (K : AV → SS → Prop) (ha1 : InR a1) (hs : okS σ) (hG : S_Wr_bare [vR 11 0, vI a1] σ K) : VE_Wr_bare a1 σ K := by
  unfold VE_Wr_bare
  obtain ⟨hT, hG⟩ := hG
  refine ⟨fun h => ⟨hT, fun σ' hq e1 e2 => ⟨rfl, ?_⟩⟩, fun h => ⟨fun h2 => hG σ _ (RQ.rf hT) (gd_n (by omega)), fun h2 => ⟨hT, fun σ' hq e1 e2 => ⟨rfl, ?_⟩⟩⟩⟩
  · subst h
    intro _ _
    refine ⟨by omega, ?_⟩
    intro _ _
    exact hG σ' _ hq (gd_y (by omega) ⟨_, _, e2, rfl⟩)
  · subst h2
    intro _ _
    refine ⟨by omega, ?_⟩
    intro _ _
    exact hG σ' _ hq (gd_y (by omega) ⟨_, _, e2, rfl⟩)
theorem H_Wr_bare {d : Nat} (hd : 4 ≤ d) : Holds d I_Wr_bare S_Wr_bare := by
  refine holds_of (d' := d - 1) (rt := 1) (cal := [(I_Rp_withoutBorder, S_Rp_withoutBorder), (I_Ta_told, S_Ta_told)]) (C := C_Wr_bare) m_Wr_bare o_Wr_bare rfl rfl (by omega) ?_ ?_
  · intro x hx
    simp only [List.mem_cons, List.not_mem_nil, or_false] at hx
    rcases hx with rfl | rfl
    · exact H_Rp_withoutBorder (by omega)
    · exact H_Ta_told (by omega)
  · intro as σ K has hσ hG
    have hG2 := hG
    unfold S_Wr_bare at hG2
    split at hG2
    · next a1 =>
      refine ⟨Nat.le_of_ble_eq_true rfl, (fun _ => none), ?_, 1000, ?_⟩
      · intro k n z L σ' hk hL hs hP
        cases hk
      · exact e_Wr_bare a1 σ K (has _ (List.mem_of_getElem? (i := 1) rfl)) hσ hG
    · exact hG2.elim
def S_Mo_isBare : GS := fun as σ K => match as with
  | [some (.inr (.inr (12, 0))), some (.inl a1), some (.inl a2)] => (MoW σ ∧ 0 ≤ a1 ∧ a1 < a2 ∧ a2 ≤ (σ 40 0 0)) ∧ bS (bareP (mW σ) (σ 40 0 0) a1 (a2 - a1)) K σ
  | _ => False
def VE_Mo_isBare (a1 : Int) (a2 : Int) (σ : SS) (K : AV → SS → Prop) : Prop :=
  (S_Mo_leastPeriod [vR 12 0, vI a1, vI a2] σ (kI fun r1 σ1 =>
    (InR (a2 - a1) ∧
    ((r1 ≠ (a2 - a1) →
      ((0 ≤ (0 : Int) ∧ (0 : Int) ≤ 1) ∧ K (vI 0) σ1)) ∧
    (r1 = (a2 - a1) →
      ((0 ≤ (1 : Int) ∧ (1 : Int) ≤ 1) ∧ K (vI 1) σ1))))))
theorem e_Mo_isBare (a1 : Int) (a2 : Int) (σ : SS) (K : AV → SS → Prop) (ha1 : InR a1) (ha2 : InR a2) (hs : okS σ) (hG : S_Mo_isBare [vR 12 0, vI a1, vI a2] σ K) : VE_Mo_isBare a1 a2 σ K := by
  unfold VE_Mo_isBare
  obtain ⟨⟨hM, h1⟩, hG⟩ := hG
  have hb := hM.n
  refine ⟨⟨hM, h1⟩, fun r hr1 hr2 => ?_⟩
  intro _ _
  refine ⟨by omega, fun h => bS_n hG (fun z => ?_), fun h => bS_y hG ⟨h1.1, by omega, by omega, fun p p1 p2 z => ?_⟩⟩
  · have := z.2.2.2 r hr2.1 (by omega)
    rw [show a1 + (a2 - a1) = a2 by omega] at this
    exact this hr2.2.1
  · rw [show a1 + (a2 - a1) = a2 by omega] at z
    exact hr2.2.2 p p1 (by omega) z
theorem H_Mo_isBare {d : Nat} (hd : 6 ≤ d) : Holds d I_Mo_isBare S_Mo_isBare := by
  refine holds_of (d' := d - 1) (rt := 2) (cal := [(I_Mo_leastPeriod, S_Mo_leastPeriod)]) (C := C_Mo_isBare) m_Mo_isBare o_Mo_isBare rfl rfl (by omega) ?_ ?_
  · intro x hx
    simp only [List.mem_cons, List.not_mem_nil, or_false] at hx
    subst hx
    exact H_Mo_leastPeriod (by omega)
  · intro as σ K has hσ hG
    have hG2 := hG
    unfold S_Mo_isBare at hG2
    split at hG2
    · next a1 a2 =>
      refine ⟨Nat.le_of_ble_eq_true rfl, (fun _ => none), ?_, 1000, ?_⟩
      · intro k n z L σ' hk hL hs hP
        cases hk
      · exact e_Mo_isBare a1 a2 σ K (has _ (List.mem_of_getElem? (i := 1) rfl)) (has _ (List.mem_of_getElem? (i := 2) rfl)) hσ hG
    · exact hG2.elim
def S_Mo_bare : GS := fun as σ K => match as with
  | [some (.inr (.inr (12, 0))), some (.inl a1)] => MoW σ ∧ ∀ r, RBare (mW σ) (σ 40 0 0) a1 r → K (vI r) σ
  | _ => False
abbrev Lp_Mo_bare_11 (a1 : Int) (σ0 : SS) (n : Nat) (L : List AV) (σ : SS) : Prop := ∃ (v2 : Int), L = [vR 12 0, vI a1, vI v2, none] ∧ n = (v2 * 1000).toNat ∧ ((σ = σ0) ∧ (0 ≤ a1 ∧ a1 ≤ 1) ∧ (0 ≤ v2) ∧ (v2 ≤ (σ0 40 0 0)) ∧ (∀ i h, bareP (mW σ0) (σ0 40 0 0) i h → h ≤ v2))
abbrev Lp_Mo_bare_15 (a1 : Int) (σ0 : SS) (n : Nat) (L : List AV) (σ : SS) : Prop := ∃ (v2 : Int) (v3 : Int), L = [vR 12 0, vI a1, vI v2, vI v3] ∧ n = (v2 * 1000 - v3 - 1).toNat ∧ ((σ = σ0) ∧ (0 ≤ a1 ∧ a1 ≤ 1) ∧ (1 ≤ v2) ∧ (v2 ≤ (σ0 40 0 0)) ∧ (0 ≤ v3) ∧ (v3 + v2 ≤ (σ0 40 0 0) + 1) ∧ (∀ i h, bareP (mW σ0) (σ0 40 0 0) i h → h ≤ v2 ∧ (h = v2 → v3 ≤ i)))
def Iv_Mo_bare (a1 : Int) (σ0 : SS) (k : Nat) : Option (List Nat × (Nat → List AV → SS → Prop)) := match k with
  | 11 => some ([3], Lp_Mo_bare_11 a1 σ0)
  | 15 => some ([], Lp_Mo_bare_15 a1 σ0)
  | _ => none
def VE_Mo_bare (a1 : Int) (σ : SS) (K : AV → SS → Prop) : Prop :=
  (S_Mo_in [vL a1, vL 0, vL 1] σ (kI fun r1 σ1 =>
    ((r1 ≠ 0 →
      (S_Mo_size [vR 12 0] σ1 (kI fun r2 σ2 =>
        (∃ n', Lp_Mo_bare_11 a1 σ n' [vR 12 0, vI a1, vI r2, none] σ2)))) ∧
    (r1 = 0 →
      (K (vI (-1)) σ1)))))
def VL_Mo_bare_11 (a1 : Int) (σ0 : SS) (K : AV → SS → Prop) (v2 : Int) (σ : SS) (n : Nat) : Prop :=
  ((v2 ≤ 0 →
    ((a1 ≠ 0 →
      (K (vI (-2)) σ)) ∧
    (a1 = 0 →
      (K (vI 0) σ)))) ∧
  ((0 : Int) < v2 →
    (∃ n', n' < n ∧ Lp_Mo_bare_15 a1 σ0 n' [vR 12 0, vI a1, vI v2, vI 0] σ)))
def VL_Mo_bare_15 (a1 : Int) (σ0 : SS) (K : AV → SS → Prop) (v2 : Int) (v3 : Int) (σ : SS) (n : Nat) : Prop :=
  (InR (v3 + v2) ∧
  (S_Mo_size [vR 12 0] σ (kI fun r1 σ1 =>
    ((r1 < (v3 + v2) →
      (InR (v2 + (-1)) ∧
      (∃ n', n' < n ∧ Lp_Mo_bare_11 a1 σ0 n' [vR 12 0, vI a1, vI (v2 + (-1)), none] σ1))) ∧
    ((v3 + v2) ≤ r1 →
      (InR (v3 + v2) ∧
      (S_Mo_isBare [vR 12 0, vI v3, vI (v3 + v2)] σ1 (kI fun r2 σ2 =>
        ((r2 = 0 →
          (InR (v3 + 1) ∧
          (∃ n', n' < n ∧ Lp_Mo_bare_15 a1 σ0 n' [vR 12 0, vI a1, vI v2, vI (v3 + 1)] σ2))) ∧
        (r2 ≠ 0 →
          ((a1 ≠ 0 →
            (K (vI v3) σ2)) ∧
          (a1 = 0 →
            (K (vI v2) σ2)))))))))))))
theorem l_Mo_bare_11 (a1 : Int) (σ0 : SS) (K : AV → SS → Prop) (ha1 : InR a1) (hs0 : okS σ0) (hG : S_Mo_bare [vR 12 0, vI a1] σ0 K) (v2 : Int) (σ : SS) (hv2 : InR v2) (hs : okS σ) (n : Nat) (hn : n = (v2 * 1000).toNat) (hQ : (σ = σ0) ∧ (0 ≤ a1 ∧ a1 ≤ 1) ∧ (0 ≤ v2) ∧ (v2 ≤ (σ0 40 0 0)) ∧ (∀ i h, bareP (mW σ0) (σ0 40 0 0) i h → h ≤ v2)) : VL_Mo_bare_11 a1 σ0 K v2 σ n := by
  unfold VL_Mo_bare_11
  obtain ⟨hM, hG⟩ := hG
  have hb := hM.n
  obtain ⟨rfl, q1, q2, q3, q4⟩ := hQ
  refine ⟨fun h => ?_, fun h => ⟨_, ?_, _, _, rfl, rfl, rfl, q1, by omega, q3, by omega, by omega, fun i x z => ⟨q4 i x z, fun _ => z.1⟩⟩⟩
  · have hl : TL 1 (bareP (mW σ) (σ 40 0 0)) 0 (-2) := TL_none (fun i x z => by have := q4 i x z; have := z.2.1; omega)
    exact ⟨fun g => hG _ (gd_y q1 ⟨_, _, hl, (if_neg g).symm⟩), fun g => hG _ (gd_y q1 ⟨_, _, hl, (if_pos g).symm⟩)⟩
  · omega
theorem l_Mo_bare_15 (a1 : Int) (σ0 : SS) (K : AV → SS → Prop) (ha1 : InR a1) (hs0 : okS σ0) (hG : S_Mo_bare [vR 12 0, vI a1] σ0 K) (v2 : Int) (v3 : Int) (σ : SS) (hv2 : InR v2) (hv3 : InR v3) (hs : okS σ) (n : Nat) (hn : n = (v2 * 1000 - v3 - 1).toNat) (hQ : (σ = σ0) ∧ (0 ≤ a1 ∧ a1 ≤ 1) ∧ (1 ≤ v2) ∧ (v2 ≤ (σ0 40 0 0)) ∧ (0 ≤ v3) ∧ (v3 + v2 ≤ (σ0 40 0 0) + 1) ∧ (∀ i h, bareP (mW σ0) (σ0 40 0 0) i h → h ≤ v2 ∧ (h = v2 → v3 ≤ i))) : VL_Mo_bare_15 a1 σ0 K v2 v3 σ n := by
  unfold VL_Mo_bare_15
  obtain ⟨hM, hG⟩ := hG
  have hb := hM.n
  obtain ⟨rfl, q1, q2, q3, q4, q5, q6⟩ := hQ
  refine ⟨by omega, ?_⟩
  intro _ _
  refine ⟨fun h => ⟨by omega, _, ?_, _, rfl, rfl, rfl, q1, by omega, by omega, fun i x z => ?_⟩, fun h => ⟨by omega, ⟨hM, by omega, by omega, by omega⟩, ?_⟩⟩
  · omega
  · have h1 := q6 i x z
    have h2 := z.2.2.1
    omega
  · rw [show v3 + v2 - v3 = v2 by omega]
    refine bS_b0 (fun hp _ => ?_) (fun hp _ => ⟨by omega, _, ?_, _, _, rfl, rfl, rfl, q1, q2, q3, by omega, by omega, fun i x z => ?_⟩)
    · have hl := TL_top (Or.inl rfl) (fun i x z => by have := q6 i x z; omega) q2 hp
      rw [Int.one_mul] at hl
      exact ⟨fun g => hG _ (gd_y q1 ⟨_, _, hl, (if_neg g).symm⟩), fun g => hG _ (gd_y q1 ⟨_, _, hl, (if_pos g).symm⟩)⟩
    · omega
    · have h1 := q6 i x z
      refine ⟨h1.1, fun g => ?_⟩
      have h2 := h1.2 g
      by_cases e : i = v3
      · subst e; subst g; exact absurd z hp
      · omega
theorem e_Mo_bare (a1 : Int) (σ : SS) (K : AV → SS → Prop) (ha1 : InR a1) (hs : okS σ) (hG : S_Mo_bare [vR 12 0, vI a1] σ K) : VE_Mo_bare a1 σ K := by
  unfold VE_Mo_bare
  obtain ⟨hM, hG⟩ := hG
  have hb := hM.n
  refine bS_b1 (fun hp _ => ?_) (fun hp _ => hG _ (gd_n hp))
  intro _ _
  exact ⟨_, _, rfl, rfl, rfl, hp, by omega, by omega, fun i h z => by have := z.1; have := z.2.2.1; omega⟩
theorem H_Mo_bare {d : Nat} (hd : 7 ≤ d) : Holds d I_Mo_bare S_Mo_bare := by
  refine holds_of (d' := d - 1) (rt := 1) (cal := [(I_Mo_in, S_Mo_in), (I_Mo_size, S_Mo_size), (I_Mo_isBare, S_Mo_isBare)]) (C := C_Mo_bare) m_Mo_bare o_Mo_bare rfl rfl (by omega) ?_ ?_
  · intro x hx
    simp only [List.mem_cons, List.not_mem_nil, or_false] at hx
    rcases hx with rfl | rfl | rfl
    · exact H_Mo_in (by omega)
    · exact H_Mo_size (by omega)
    · exact H_Mo_isBare (by omega)
  · intro as σ K has hσ hG
    have hG2 := hG
    unfold S_Mo_bare at hG2
    split at hG2
    · next a1 =>
      refine ⟨Nat.le_of_ble_eq_true rfl, (Iv_Mo_bare a1 σ), ?_, 1000, ?_⟩
      · intro k n z L σ' hk hL hs hP
        unfold Iv_Mo_bare at hk
        split at hk
        · cases hk
          obtain ⟨v2, rfl, hn, hQ⟩ := hP
          exact ⟨1000, l_Mo_bare_11 a1 σ K (has _ (List.mem_of_getElem? (i := 1) rfl)) hσ hG v2 σ' (hL _ (List.mem_of_getElem? (i := 2) rfl)) hs n hn hQ⟩
        · cases hk
          obtain ⟨v2, v3, rfl, hn, hQ⟩ := hP
          exact ⟨1000, l_Mo_bare_15 a1 σ K (has _ (List.mem_of_getElem? (i := 1) rfl)) hσ hG v2 v3 σ' (hL _ (List.mem_of_getElem? (i := 2) rfl)) (hL _ (List.mem_of_getElem? (i := 3) rfl)) hs n hn hQ⟩
        · cases hk
      · exact e_Mo_bare a1 σ K (has _ (List.mem_of_getElem? (i := 1) rfl)) hσ hG
    · exact hG2.elim
