def closedP (w : Int → Int) (n i h : Int) : Prop := 0 ≤ i ∧ 1 ≤ h ∧ i + h ≤ n ∧ (h = 1 ∨ ∃ p, leastIs (isP w i (i + h)) 1 p ∧ p < h ∧ ∀ o, i < o → o < i + p → ¬ eqs w i o (h - p))
def cloI (w : Int → Int) (n i x b j : Int) : Prop := i < x ∧ x ≤ j ∧ (∀ y, i < y → y < x → y + lceR w n i y < j) ∧ 0 ≤ b ∧ (∀ y, i < y → y < x → lceR w n i y ≤ b) ∧ (b = 0 ∨ ∃ y, i < y ∧ y < x ∧ lceR w n i y = b)
theorem isP_lce {w : Int → Int} {n i j y : Int} (h0 : 0 ≤ i) (h1 : i < y) (h2 : y < j) (h3 : j ≤ n) : isP w i (i + (j - i)) (y - i) ↔ j ≤ y + lceR w n i y := by
  have h := common_ge (w := w) (n := n) (i := i) (j := y) (L := j - y) h0 (by omega) (by omega) (by omega) (by omega)
  unfold isP
  rw [show i + (y - i) = y by omega, show i + (j - i) - i - (y - i) = j - y by omega]
  constructor
  · intro g
    have := h.mpr ⟨by omega, g⟩
    omega
  · intro g
    exact (h.mp (by omega)).2
theorem clo_iff {w : Int → Int} {n i x b j : Int} (h : cloI w n i x b j) (he : j ≤ x ∨ j ≤ x + lceR w n i x) (h0 : 0 ≤ i) (h1 : i + 2 ≤ j) (h2 : j ≤ n) : (x < j ∧ b < j - x) ↔ closedP w n i (j - i) := by
  obtain ⟨a1, a2, a3, a4, a5, a6⟩ := h
  constructor
  · rintro ⟨g1, g2⟩
    refine ⟨h0, by omega, by omega, Or.inr ⟨x - i, ⟨by omega, (isP_lce h0 a1 g1 h2).mpr (by omega), fun q q1 q2 z => ?_⟩, by omega, fun o o1 o2 z => ?_⟩⟩
    · rw [show q = (i + q) - i by omega] at z
      have := (isP_lce h0 (by omega) (by omega) h2).mp z
      have := a3 (i + q) (by omega) (by omega)
      omega
    · have g3 := (common_ge (w := w) (n := n) (i := i) (j := o) (L := j - x) h0 (by omega) (by omega) (by omega) (by omega)).mpr ⟨by omega, by rwa [show j - i - (x - i) = j - x by omega] at z⟩
      have := a5 o o1 (by omega)
      omega
  · rintro ⟨-, -, -, g | ⟨p, ⟨p1, p2, p3⟩, g2, g3⟩⟩
    · omega
    · have e1 : j ≤ i + p + lceR w n i (i + p) := (isP_lce h0 (by omega) (by omega) h2).mp (by rwa [show i + p - i = p by omega])
      have e2 : ¬ i + p < x := fun z => by have := a3 (i + p) (by omega) z; omega
      have e3 : ¬ x < i + p := fun z => p3 (x - i) (by omega) (by omega) ((isP_lce h0 a1 (by omega) h2).mpr (by omega))
      refine ⟨by omega, ?_⟩
      rcases a6 with a6 | ⟨y, b1, b2, b3⟩
      · omega
      · rcases (by omega : b < j - x ∨ j - x ≤ b) with z | z
        · exact z
        · have g4 := (common_ge (w := w) (n := n) (i := i) (j := y) (L := j - x) h0 (by omega) (by omega) (by omega) (by omega)).mp (by omega)
          exact absurd (by rw [show j - i - p = j - x by omega]; exact g4.2) (g3 y b1 (by omega))
theorem clo_1 {w : Int → Int} {n i h : Int} (h0 : 0 ≤ i) (h1 : i < n) : closedP w n i 1 := ⟨h0, by omega, by omega, Or.inl rfl⟩
theorem clo_step {w : Int → Int} {n i x b j : Int} (h : cloI w n i x b j) (h1 : x + lceR w n i x < j) (h2 : x < j) : cloI w n i (x + 1) (max b (lceR w n i x)) j := by
  obtain ⟨a1, a2, a3, a4, a5, a6⟩ := h
  refine ⟨by omega, by omega, fun y g1 g2 => ?_, by omega, fun y g1 g2 => ?_, ?_⟩
  · rcases (by omega : y < x ∨ y = x) with z | rfl
    · exact a3 y g1 z
    · exact h1
  · rcases (by omega : y < x ∨ y = x) with z | rfl
    · have := a5 y g1 z; omega
    · omega
  · rcases (by omega : b ≤ lceR w n i x ∨ lceR w n i x < b) with z | z
    · exact Or.inr ⟨x, a1, by omega, by omega⟩
    · rcases a6 with a6 | ⟨y, b1, b2, b3⟩
      · exact Or.inl (by omega)
      · exact Or.inr ⟨y, b1, by omega, by omega⟩
def S_Rp_addClosed : GS := fun as σ K => match as with
  | [some (.inr (.inr (4, 0))), some (.inl a1)] => (TwC σ ∧ 0 ≤ a1 ∧ a1 < (σ 501 0 0) ∧ TA 1 (closedP (cW σ) (σ 501 0 0)) (σ 501 0 0) a1 2 (σ 380 0 0) (σ 381 0 0) (σ 382 0 0)) ∧ ∀ σ', RQ σ σ' → TA 1 (closedP (cW σ) (σ 501 0 0)) (σ 501 0 0) (a1 + 1) 1 (σ' 380 0 0) (σ' 381 0 0) (σ' 382 0 0) → K none σ'
  | _ => False
abbrev Lp_Rp_addClosed_10 (a1 : Int) (σ0 : SS) (n : Nat) (L : List AV) (σ : SS) : Prop := ∃ (v2 : Int) (v3 : Int) (v4 : Int), L = [vR 4 0, vI a1, vI v2, vI v3, vI v4] ∧ n = (((σ0 501 0 0) + 1 - v4) * 1000 + 2 * ((σ0 501 0 0) + 1 - v2)).toNat ∧ ((RQ σ0 σ) ∧ (a1 + 2 ≤ v4) ∧ (v4 ≤ (σ0 501 0 0) + 1) ∧ (cloI (cW σ0) (σ0 501 0 0) a1 v2 v3 v4) ∧ (TA 1 (closedP (cW σ0) (σ0 501 0 0)) (σ0 501 0 0) a1 (v4 - a1) (σ 380 0 0) (σ 381 0 0) (σ 382 0 0)))
abbrev Lp_Rp_addClosed_15 (a1 : Int) (σ0 : SS) (n : Nat) (L : List AV) (σ : SS) : Prop := ∃ (v2 : Int) (v3 : Int) (v4 : Int), L = [vR 4 0, vI a1, vI v2, vI v3, vI v4] ∧ n = (((σ0 501 0 0) + 1 - v4) * 1000 + 2 * ((σ0 501 0 0) + 1 - v2) - 1).toNat ∧ ((RQ σ0 σ) ∧ (a1 + 2 ≤ v4) ∧ (v4 ≤ (σ0 501 0 0)) ∧ (cloI (cW σ0) (σ0 501 0 0) a1 v2 v3 v4) ∧ (TA 1 (closedP (cW σ0) (σ0 501 0 0)) (σ0 501 0 0) a1 (v4 - a1) (σ 380 0 0) (σ 381 0 0) (σ 382 0 0)))
abbrev Lp_Rp_addClosed_37 (a1 : Int) (σ0 : SS) (n : Nat) (L : List AV) (σ : SS) : Prop := ∃ (v2 : Int) (v3 : Int) (v4 : Int), L = [vR 4 0, vI a1, vI v2, vI v3, vI v4] ∧ n = (((σ0 501 0 0) + 1 - v4) * 1000 - 1).toNat ∧ ((RQ σ0 σ) ∧ (a1 + 2 ≤ v4) ∧ (v4 ≤ (σ0 501 0 0)) ∧ (cloI (cW σ0) (σ0 501 0 0) a1 v2 v3 v4) ∧ (v4 ≤ v2 ∨ v4 ≤ v2 + lceR (cW σ0) (σ0 501 0 0) a1 v2) ∧ (TA 1 (closedP (cW σ0) (σ0 501 0 0)) (σ0 501 0 0) a1 (v4 - a1) (σ 380 0 0) (σ 381 0 0) (σ 382 0 0)))
def Iv_Rp_addClosed (a1 : Int) (σ0 : SS) (k : Nat) : Option (List Nat × (Nat → List AV → SS → Prop)) := match k with
  | 10 => some ([], Lp_Rp_addClosed_10 a1 σ0)
  | 15 => some ([], Lp_Rp_addClosed_15 a1 σ0)
  | 37 => some ([], Lp_Rp_addClosed_37 a1 σ0)
  | _ => none
def VE_Rp_addClosed (a1 : Int) (σ : SS) (K : AV → SS → Prop) : Prop :=
  (InR (a1 + 1) ∧
  (InR (a1 + 2) ∧
  (∃ n', Lp_Rp_addClosed_10 a1 σ n' [vR 4 0, vI a1, vI (a1 + 1), vI 0, vI (a1 + 2)] σ)))
def VL_Rp_addClosed_10 (a1 : Int) (σ0 : SS) (K : AV → SS → Prop) (v2 : Int) (v3 : Int) (v4 : Int) (σ : SS) (n : Nat) : Prop :=
  (S_Wo_size [vR 10 0] σ (kI fun r1 σ1 =>
    ((r1 < v4 →
      (K none σ1)) ∧
    (v4 ≤ r1 →
      (∃ n', n' < n ∧ Lp_Rp_addClosed_15 a1 σ0 n' [vR 4 0, vI a1, vI v2, vI v3, vI v4] σ1)))))
def VL_Rp_addClosed_15 (a1 : Int) (σ0 : SS) (K : AV → SS → Prop) (v2 : Int) (v3 : Int) (v4 : Int) (σ : SS) (n : Nat) : Prop :=
  ((v4 ≤ v2 →
    (∃ n', n' < n ∧ Lp_Rp_addClosed_37 a1 σ0 n' [vR 4 0, vI a1, vI v2, vI v3, vI v4] σ)) ∧
  (v2 < v4 →
    (S_Tw_common [vR 8 0, vI a1, vI v2] σ (kI fun r1 σ1 =>
      (InR (v2 + r1) ∧
      ((v4 ≤ (v2 + r1) →
        (∃ n', n' < n ∧ Lp_Rp_addClosed_37 a1 σ0 n' [vR 4 0, vI a1, vI v2, vI v3, vI v4] σ1)) ∧
      ((v2 + r1) < v4 →
        (S_Tw_common [vR 8 0, vI a1, vI v2] σ1 (kI fun r2 σ2 =>
          (InR (v2 + 1) ∧
          (∃ n', n' < n ∧ Lp_Rp_addClosed_15 a1 σ0 n' [vR 4 0, vI a1, vI (v2 + 1), vI (max v3 r2), vI v4] σ2)))))))))))
def VL_Rp_addClosed_37 (a1 : Int) (σ0 : SS) (K : AV → SS → Prop) (v2 : Int) (v3 : Int) (v4 : Int) (σ : SS) (n : Nat) : Prop :=
  ((v4 ≤ v2 →
    (InR (v4 + 1) ∧
    (∃ n', n' < n ∧ Lp_Rp_addClosed_10 a1 σ0 n' [vR 4 0, vI a1, vI v2, vI v3, vI (v4 + 1)] σ))) ∧
  (v2 < v4 →
    (InR (v4 - v2) ∧
    (((v4 - v2) ≤ v3 →
      (InR (v4 + 1) ∧
      (∃ n', n' < n ∧ Lp_Rp_addClosed_10 a1 σ0 n' [vR 4 0, vI a1, vI v2, vI v3, vI (v4 + 1)] σ))) ∧
    (v3 < (v4 - v2) →
      (InR (v4 - a1) ∧
      (S_Ta_add [vR 7 0, vI a1, vI (v4 - a1)] σ (kV fun σ1 =>
        (InR (v4 + 1) ∧
        (∃ n', n' < n ∧ Lp_Rp_addClosed_10 a1 σ0 n' [vR 4 0, vI a1, vI v2, vI v3, vI (v4 + 1)] σ1))))))))))
theorem l_Rp_addClosed_10 (a1 : Int) (σ0 : SS) (K : AV → SS → Prop) (ha1 : InR a1) (hs0 : okS σ0) (hG : S_Rp_addClosed [vR 4 0, vI a1] σ0 K) (v2 : Int) (v3 : Int) (v4 : Int) (σ : SS) (hv2 : InR v2) (hv3 : InR v3) (hv4 : InR v4) (hs : okS σ) (n : Nat) (hn : n = (((σ0 501 0 0) + 1 - v4) * 1000 + 2 * ((σ0 501 0 0) + 1 - v2)).toNat) (hQ : (RQ σ0 σ) ∧ (a1 + 2 ≤ v4) ∧ (v4 ≤ (σ0 501 0 0) + 1) ∧ (cloI (cW σ0) (σ0 501 0 0) a1 v2 v3 v4) ∧ (TA 1 (closedP (cW σ0) (σ0 501 0 0)) (σ0 501 0 0) a1 (v4 - a1) (σ 380 0 0) (σ 381 0 0) (σ 382 0 0))) : VL_Rp_addClosed_10 a1 σ0 K v2 v3 v4 σ n := by
  unfold VL_Rp_addClosed_10
  obtain ⟨⟨hT, h1, h2, h3⟩, hG⟩ := hG
  have hb := hT.n
  obtain ⟨q0, q1, q2, q3, q4⟩ := hQ
  obtain ⟨w1, w2⟩ := q0.w
  have x1 := q3.1
  have x2 := q3.2.1
  intro _ _
  refine ⟨fun h => hG σ q0 (TA_row q4 h1 (by omega) (by omega) (fun x g1 z => by have := z.2.2.1; omega) (fun i h z => z.2.1)), fun h => ⟨_, ?_, _, _, _, rfl, rfl, q0, q1, by omega, q3, q4⟩⟩
  omega
theorem l_Rp_addClosed_15 (a1 : Int) (σ0 : SS) (K : AV → SS → Prop) (ha1 : InR a1) (hs0 : okS σ0) (hG : S_Rp_addClosed [vR 4 0, vI a1] σ0 K) (v2 : Int) (v3 : Int) (v4 : Int) (σ : SS) (hv2 : InR v2) (hv3 : InR v3) (hv4 : InR v4) (hs : okS σ) (n : Nat) (hn : n = (((σ0 501 0 0) + 1 - v4) * 1000 + 2 * ((σ0 501 0 0) + 1 - v2) - 1).toNat) (hQ : (RQ σ0 σ) ∧ (a1 + 2 ≤ v4) ∧ (v4 ≤ (σ0 501 0 0)) ∧ (cloI (cW σ0) (σ0 501 0 0) a1 v2 v3 v4) ∧ (TA 1 (closedP (cW σ0) (σ0 501 0 0)) (σ0 501 0 0) a1 (v4 - a1) (σ 380 0 0) (σ 381 0 0) (σ 382 0 0))) : VL_Rp_addClosed_15 a1 σ0 K v2 v3 v4 σ n := by
  unfold VL_Rp_addClosed_15
  obtain ⟨⟨hT, h1, h2, h3⟩, hG⟩ := hG
  have hb := hT.n
  obtain ⟨q0, q1, q2, q3, q4⟩ := hQ
  obtain ⟨w1, w2⟩ := q0.w
  have x1 := q3.1
  have x2 := q3.2.1
  have hl := lceR_in (w := cW σ0) (n := (σ0 501 0 0)) (i := a1) (j := v2) hb.1
  refine ⟨fun h => ⟨_, ?_, _, _, _, rfl, rfl, q0, q1, q2, q3, Or.inl h, q4⟩, fun h => ⟨q0.2, fun σ' hF hT' => ?_⟩⟩
  · omega
  · rw [w1, w2]
    have tq : TQ σ σ' := ⟨hF, hT'⟩
    obtain ⟨t1, t2, t3⟩ := tq.ta
    have q0' := q0.tr tq.R
    obtain ⟨w1', w2'⟩ := q0'.w
    intro _ _
    refine ⟨by omega, fun h2 => ⟨_, ?_, _, _, _, rfl, rfl, q0', q1, q2, q3, Or.inr h2, ?_⟩, fun h2 => ⟨hT', fun σ2 hF2 hT2 => ?_⟩⟩
    · omega
    · rw [t1, t2, t3]; exact q4
    · rw [w1', w2']
      have tq2 : TQ σ' σ2 := ⟨hF2, hT2⟩
      obtain ⟨s1, s2, s3⟩ := tq2.ta
      intro _ _
      refine ⟨by omega, _, ?_, _, _, _, rfl, rfl, q0'.tr tq2.R, q1, q2, clo_step q3 h2 h, ?_⟩
      · omega
      · rw [s1, s2, s3, t1, t2, t3]; exact q4
theorem l_Rp_addClosed_37 (a1 : Int) (σ0 : SS) (K : AV → SS → Prop) (ha1 : InR a1) (hs0 : okS σ0) (hG : S_Rp_addClosed [vR 4 0, vI a1] σ0 K) (v2 : Int) (v3 : Int) (v4 : Int) (σ : SS) (hv2 : InR v2) (hv3 : InR v3) (hv4 : InR v4) (hs : okS σ) (n : Nat) (hn : n = (((σ0 501 0 0) + 1 - v4) * 1000 - 1).toNat) (hQ : (RQ σ0 σ) ∧ (a1 + 2 ≤ v4) ∧ (v4 ≤ (σ0 501 0 0)) ∧ (cloI (cW σ0) (σ0 501 0 0) a1 v2 v3 v4) ∧ (v4 ≤ v2 ∨ v4 ≤ v2 + lceR (cW σ0) (σ0 501 0 0) a1 v2) ∧ (TA 1 (closedP (cW σ0) (σ0 501 0 0)) (σ0 501 0 0) a1 (v4 - a1) (σ 380 0 0) (σ 381 0 0) (σ 382 0 0))) : VL_Rp_addClosed_37 a1 σ0 K v2 v3 v4 σ n := by
  unfold VL_Rp_addClosed_37
  obtain ⟨⟨hT, h1, h2, h3⟩, hG⟩ := hG
  have hb := hT.n
  obtain ⟨q0, q1, q2, q3, qe, q4⟩ := hQ
  obtain ⟨w1, w2⟩ := q0.w
  have x1 := q3.1
  have x2 := q3.2.1
  have hc := clo_iff q3 qe h1 q1 q2
  have hin := TA_in q4 hb.1 hb.2 (by omega) (by omega)
  have nx : cloI (cW σ0) (σ0 501 0 0) a1 v2 v3 (v4 + 1) := ⟨x1, by omega, fun y g1 g2 => by have := q3.2.2.1 y g1 g2; omega, q3.2.2.2⟩
  have no : ¬ (v2 < v4 ∧ v3 < v4 - v2) → TA 1 (closedP (cW σ0) (σ0 501 0 0)) (σ0 501 0 0) a1 (v4 + 1 - a1) (σ 380 0 0) (σ 381 0 0) (σ 382 0 0) := fun z => by
    rw [show v4 + 1 - a1 = v4 - a1 + 1 by omega]
    exact TA_no q4 (by omega) (fun y => z (hc.mpr y))
  refine ⟨fun h => ⟨by omega, _, ?_, _, _, _, rfl, rfl, q0, by omega, by omega, nx, no (by omega)⟩, fun h => ⟨by omega, fun g => ⟨by omega, _, ?_, _, _, _, rfl, rfl, q0, by omega, by omega, nx, no (by omega)⟩, fun g => ⟨by omega, by omega, fun σ2 hF2 k1 k2 k3 => ?_⟩⟩⟩
  · omega
  · omega
  · intro _
    refine ⟨by omega, _, ?_, _, _, _, rfl, rfl, q0.tr (TaQ q0.2 hF2), by omega, by omega, nx, ?_⟩
    · omega
    · have := TA_yes (Or.inl rfl) q4 (by omega) (hc.mp ⟨h, g⟩)
      rw [show v4 + 1 - a1 = v4 - a1 + 1 by omega, k1, k2, k3]
      rwa [Int.one_mul] at this
theorem e_Rp_addClosed (a1 : Int) (σ : SS) (K : AV → SS → Prop) (ha1 : InR a1) (hs : okS σ) (hG : S_Rp_addClosed [vR 4 0, vI a1] σ K) : VE_Rp_addClosed a1 σ K := by
  unfold VE_Rp_addClosed
  obtain ⟨⟨hT, h1, h2, h3⟩, hG⟩ := hG
  have hb := hT.n
  refine ⟨by omega, by omega, _, _, _, _, rfl, rfl, RQ.rf hT, by omega, by omega, ⟨by omega, by omega, fun y g1 g2 => by omega, by omega, fun y g1 g2 => by omega, Or.inl rfl⟩, ?_⟩
  rw [show a1 + 2 - a1 = 2 by omega]
  exact h3
theorem H_Rp_addClosed {d : Nat} (hd : 3 ≤ d) : Holds d I_Rp_addClosed S_Rp_addClosed := by
  refine holds_of (d' := d - 1) (rt := 0) (cal := [(I_Wo_size, S_Wo_size), (I_Tw_common, S_Tw_common), (I_Ta_add, S_Ta_add)]) (C := C_Rp_addClosed) m_Rp_addClosed o_Rp_addClosed rfl rfl (by omega) ?_ ?_
  · intro x hx
    simp only [List.mem_cons, List.not_mem_nil, or_false] at hx
    rcases hx with rfl | rfl | rfl
    · exact H_Wo_size (by omega)
    · exact H_Tw_common (by omega)
    · exact H_Ta_add (by omega)
  · intro as σ K has hσ hG
    have hG2 := hG
    unfold S_Rp_addClosed at hG2
    split at hG2
    · next a1 =>
      refine ⟨Nat.le_of_ble_eq_true rfl, (Iv_Rp_addClosed a1 σ), ?_, 1000, ?_⟩
      · intro k n z L σ' hk hL hs hP
        unfold Iv_Rp_addClosed at hk
        split at hk
        · cases hk
          obtain ⟨v2, v3, v4, rfl, hn, hQ⟩ := hP
          exact ⟨1000, l_Rp_addClosed_10 a1 σ K (has _ (List.mem_of_getElem? (i := 1) rfl)) hσ hG v2 v3 v4 σ' (hL _ (List.mem_of_getElem? (i := 2) rfl)) (hL _ (List.mem_of_getElem? (i := 3) rfl)) (hL _ (List.mem_of_getElem? (i := 4) rfl)) hs n hn hQ⟩
        · cases hk
          obtain ⟨v2, v3, v4, rfl, hn, hQ⟩ := hP
          exact ⟨1000, l_Rp_addClosed_15 a1 σ K (has _ (List.mem_of_getElem? (i := 1) rfl)) hσ hG v2 v3 v4 σ' (hL _ (List.mem_of_getElem? (i := 2) rfl)) (hL _ (List.mem_of_getElem? (i := 3) rfl)) (hL _ (List.mem_of_getElem? (i := 4) rfl)) hs n hn hQ⟩
        · cases hk
          obtain ⟨v2, v3, v4, rfl, hn, hQ⟩ := hP
          exact ⟨1000, l_Rp_addClosed_37 a1 σ K (has _ (List.mem_of_getElem? (i := 1) rfl)) hσ hG v2 v3 v4 σ' (hL _ (List.mem_of_getElem? (i := 2) rfl)) (hL _ (List.mem_of_getElem? (i := 3) rfl)) (hL _ (List.mem_of_getElem? (i := 4) rfl)) hs n hn hQ⟩
        · cases hk
      · exact e_Rp_addClosed a1 σ K (has _ (List.mem_of_getElem? (i := 1) rfl)) hσ hG
    · exact hG2.elim
def S_Rp_closedParts : GS := fun as σ K => match as with
  | [some (.inr (.inr (4, 0)))] => TwC σ ∧ ∀ σ', RQ σ σ' → σ' 380 0 0 = dsum (closedP (cW σ) (σ 501 0 0)) (σ 501 0 0) → TL 1 (closedP (cW σ) (σ 501 0 0)) (σ' 381 0 0) (σ' 382 0 0) → K (vR 7 0) σ'
  | _ => False
abbrev Lp_Rp_closedParts_5 (σ0 : SS) (n : Nat) (L : List AV) (σ : SS) : Prop := ∃ (v1 : Int), L = [vR 4 0, vI v1] ∧ n = ((σ0 501 0 0) - v1).toNat ∧ ((RQ σ0 σ) ∧ (0 ≤ v1) ∧ (v1 ≤ (σ0 501 0 0)) ∧ (TA 1 (closedP (cW σ0) (σ0 501 0 0)) (σ0 501 0 0) v1 1 (σ 380 0 0) (σ 381 0 0) (σ 382 0 0)))
def Iv_Rp_closedParts (σ0 : SS) (k : Nat) : Option (List Nat × (Nat → List AV → SS → Prop)) := match k with
  | 5 => some ([], Lp_Rp_closedParts_5 σ0)
  | _ => none
def VE_Rp_closedParts (σ : SS) (K : AV → SS → Prop) : Prop :=
  (S_Ta_clear [vR 7 0] σ (kV fun σ1 =>
    (∃ n', Lp_Rp_closedParts_5 σ n' [vR 4 0, vI 0] σ1)))
def VL_Rp_closedParts_5 (σ0 : SS) (K : AV → SS → Prop) (v1 : Int) (σ : SS) (n : Nat) : Prop :=
  (S_Wo_size [vR 10 0] σ (kI fun r1 σ1 =>
    ((r1 ≤ v1 →
      (K (vR 7 0) σ1)) ∧
    (v1 < r1 →
      (S_Ta_add [vR 7 0, vI v1, vI 1] σ1 (kV fun σ2 =>
        (S_Rp_addClosed [vR 4 0, vI v1] σ2 (kV fun σ3 =>
          (InR (v1 + 1) ∧
          (∃ n', n' < n ∧ Lp_Rp_closedParts_5 σ0 n' [vR 4 0, vI (v1 + 1)] σ3))))))))))
theorem l_Rp_closedParts_5 (σ0 : SS) (K : AV → SS → Prop) (hs0 : okS σ0) (hG : S_Rp_closedParts [vR 4 0] σ0 K) (v1 : Int) (σ : SS) (hv1 : InR v1) (hs : okS σ) (n : Nat) (hn : n = ((σ0 501 0 0) - v1).toNat) (hQ : (RQ σ0 σ) ∧ (0 ≤ v1) ∧ (v1 ≤ (σ0 501 0 0)) ∧ (TA 1 (closedP (cW σ0) (σ0 501 0 0)) (σ0 501 0 0) v1 1 (σ 380 0 0) (σ 381 0 0) (σ 382 0 0))) : VL_Rp_closedParts_5 σ0 K v1 σ n := by
  unfold VL_Rp_closedParts_5
  obtain ⟨hT, hG⟩ := hG
  obtain ⟨q0, q1, q2, q3⟩ := hQ
  have hb := hT.n
  obtain ⟨w1, w2⟩ := q0.w
  have hin := TA_in q3 hb.1 hb.2 (by omega) (by omega)
  intro _ _
  refine ⟨fun h => ?_, fun h => ⟨by omega, fun σ1 hF1 k1 k2 k3 => ?_⟩⟩
  · rw [show v1 = (σ0 501 0 0) by omega] at q3
    obtain ⟨z1, z2⟩ := TA_end q3 (fun i h z => by have := z.2.1; have := z.2.2.1; omega)
    exact hG σ q0 z1 z2
  · intro _
    have q0' := q0.tr (TaQ q0.2 hF1)
    obtain ⟨w1', w2'⟩ := q0'.w
    have ty := TA_yes (Or.inl rfl) q3 (by omega) (clo_1 (w := cW σ0) (n := (σ0 501 0 0)) (h := 0) q1 (by omega))
    rw [Int.one_mul] at ty
    refine ⟨⟨q0'.2, q1, by omega, ?_⟩, fun σ2 hq hta => ?_⟩
    · rw [w1', w2', k1, k2, k3]
      exact ty
    · intro _
      rw [w1', w2'] at hta
      refine ⟨by omega, _, ?_, _, rfl, rfl, q0'.tr hq, by omega, by omega, hta⟩
      omega
theorem e_Rp_closedParts (σ : SS) (K : AV → SS → Prop) (hs : okS σ) (hG : S_Rp_closedParts [vR 4 0] σ K) : VE_Rp_closedParts σ K := by
  unfold VE_Rp_closedParts
  obtain ⟨hT, hG⟩ := hG
  intro σ' hF e1 e2 e3 _
  have hb := hT.n
  refine ⟨_, _, rfl, rfl, TaQ hT hF, by omega, by omega, ?_⟩
  rw [e1, e2, e3]
  exact TA_0 (fun i h z => ⟨z.1, z.2.1⟩)
theorem H_Rp_closedParts {d : Nat} (hd : 4 ≤ d) : Holds d I_Rp_closedParts S_Rp_closedParts := by
  refine holds_of (d' := d - 1) (rt := 3) (cal := [(I_Ta_clear, S_Ta_clear), (I_Wo_size, S_Wo_size), (I_Ta_add, S_Ta_add), (I_Rp_addClosed, S_Rp_addClosed)]) (C := C_Rp_closedParts) m_Rp_closedParts o_Rp_closedParts rfl rfl (by omega) ?_ ?_
  · intro x hx
    simp only [List.mem_cons, List.not_mem_nil, or_false] at hx
    rcases hx with rfl | rfl | rfl | rfl
    · exact H_Ta_clear (by omega)
    · exact H_Wo_size (by omega)
    · exact H_Ta_add (by omega)
    · exact H_Rp_addClosed (by omega)
  · intro as σ K has hσ hG
    have hG2 := hG
    unfold S_Rp_closedParts at hG2
    split at hG2
    · skip
      refine ⟨Nat.le_of_ble_eq_true rfl, (Iv_Rp_closedParts σ), ?_, 1000, ?_⟩
      · intro k n z L σ' hk hL hs hP
        unfold Iv_Rp_closedParts at hk
        split at hk
        · cases hk
          obtain ⟨v1, rfl, hn, hQ⟩ := hP
          exact ⟨1000, l_Rp_closedParts_5 σ K  hσ hG v1 σ' (hL _ (List.mem_of_getElem? (i := 1) rfl)) hs n hn hQ⟩
        · cases hk
      · exact e_Rp_closedParts σ K  hσ hG
    · exact hG2.elim
def S_Wr_closed : GS := fun as σ K => match as with
  | [some (.inr (.inr (11, 0))), some (.inl a1)] => TwC σ ∧ ∀ σ' r, RQ σ σ' → RTal 1 (closedP (cW σ) (σ 501 0 0)) (σ 501 0 0) a1 r → K (vI r) σ'
  | _ => False
def VE_Wr_closed (a1 : Int) (σ : SS) (K : AV → SS → Prop) : Prop :=
  (S_Rp_closedParts [vR 4 0] σ (kR 7 fun i1 σ1 =>
    (S_Ta_told [vR 7 i1, vI a1] σ1 (kI fun r2 σ2 =>
      (K (vI r2) σ2)))))
theorem e_Wr_closed (a1 : Int) (σ : SS) (K : AV → SS → Prop) (ha1 : InR a1) (hs : okS σ) (hG : S_Wr_closed [vR 11 0, vI a1] σ K) : VE_Wr_closed a1 σ K := by
  unfold VE_Wr_closed
  obtain ⟨hT, hG⟩ := hG
  refine ⟨hT, fun σ' hq e1 e2 => ⟨rfl, ?_⟩⟩
  intro _ _ _ _
  exact hG σ' _ hq (RTal_of e1 e2)
theorem H_Wr_closed {d : Nat} (hd : 5 ≤ d) : Holds d I_Wr_closed S_Wr_closed := by
  refine holds_of (d' := d - 1) (rt := 1) (cal := [(I_Rp_closedParts, S_Rp_closedParts), (I_Ta_told, S_Ta_told)]) (C := C_Wr_closed) m_Wr_closed o_Wr_closed rfl rfl (by omega) ?_ ?_
  · intro x hx
    simp only [List.mem_cons, List.not_mem_nil, or_false] at hx
    rcases hx with rfl | rfl
    · exact H_Rp_closedParts (by omega)
    · exact H_Ta_told (by omega)
  · intro as σ K has hσ hG
    have hG2 := hG
    unfold S_Wr_closed at hG2
    split at hG2
    · next a1 =>
      refine ⟨Nat.le_of_ble_eq_true rfl, (fun _ => none), ?_, 1000, ?_⟩
      · intro k n z L σ' hk hL hs hP
        cases hk
      · exact e_Wr_closed a1 σ K (has _ (List.mem_of_getElem? (i := 1) rfl)) hσ hG
    · exact hG2.elim
def S_Mo_isClosed : GS := fun as σ K => match as with
  | [some (.inr (.inr (12, 0))), some (.inl a1), some (.inl a2)] => (MoW σ ∧ 0 ≤ a1 ∧ a1 < a2 ∧ a2 ≤ (σ 40 0 0)) ∧ bS (closedP (mW σ) (σ 40 0 0) a1 (a2 - a1)) K σ
  | _ => False
def VE_Mo_isClosed (a1 : Int) (a2 : Int) (σ : SS) (K : AV → SS → Prop) : Prop :=
  (InR (a2 - a1) ∧
  (((a2 - a1) ≠ 1 →
    (InR (a2 - a1) ∧
    (S_Mo_leastPeriod [vR 12 0, vI a1, vI a2] σ (kI fun r1 σ1 =>
      (InR ((a2 - a1) - r1) ∧
      ((((a2 - a1) - r1) ≠ 0 →
        (InR (a1 + 1) ∧
        (S_Mo_nextOf [vR 12 0, vI a1, vI ((a2 - a1) - r1), vI (a1 + 1)] σ1 (kI fun r2 σ2 =>
          (InR (a2 - ((a2 - a1) - r1)) ∧
          ((r2 ≠ (a2 - ((a2 - a1) - r1)) →
            ((0 ≤ (0 : Int) ∧ (0 : Int) ≤ 1) ∧ K (vI 0) σ2)) ∧
          (r2 = (a2 - ((a2 - a1) - r1)) →
            ((0 ≤ (1 : Int) ∧ (1 : Int) ≤ 1) ∧ K (vI 1) σ2)))))))) ∧
      (((a2 - a1) - r1) = 0 →
        ((0 ≤ (0 : Int) ∧ (0 : Int) ≤ 1) ∧ K (vI 0) σ1)))))))) ∧
  ((a2 - a1) = 1 →
    ((0 ≤ (1 : Int) ∧ (1 : Int) ≤ 1) ∧ K (vI 1) σ))))
theorem e_Mo_isClosed (a1 : Int) (a2 : Int) (σ : SS) (K : AV → SS → Prop) (ha1 : InR a1) (ha2 : InR a2) (hs : okS σ) (hG : S_Mo_isClosed [vR 12 0, vI a1, vI a2] σ K) : VE_Mo_isClosed a1 a2 σ K := by
  unfold VE_Mo_isClosed
  obtain ⟨⟨hM, h1⟩, hG⟩ := hG
  have hb := hM.n
  refine ⟨by omega, fun h => ⟨by omega, ⟨hM, h1⟩, fun r hr1 hr2 => ?_⟩, fun h => bS_y hG ⟨h1.1, by omega, by omega, Or.inl h⟩⟩
  have e : a1 + (a2 - a1) = a2 := by omega
  have r1 := hr2.1
  intro _ _
  refine ⟨by omega, fun g => ⟨by omega, ⟨hM, by omega, by omega, by omega, by omega, by omega⟩, fun o o1 o2 o3 o4 => ?_, fun z => ?_⟩, fun g => bS_n hG (fun z => ?_)⟩
  · have hP := hr2.2.1
    unfold isP at hP
    have o5 : o ≤ a1 + r := by
      rcases (by omega : o ≤ a1 + r ∨ a1 + r < o) with y | y
      · exact y
      · exact absurd hP (by rw [show a2 - a1 - r = a2 - a1 - r by rfl]; exact o4 (a1 + r) (by omega) y)
    intro _ _
    refine ⟨by omega, fun f => bS_n hG (fun z => ?_), fun f => bS_y hG ⟨h1.1, by omega, by omega, Or.inr ⟨r, by rw [e]; exact hr2, by omega, fun x x1 x2 => o4 x (by omega) (by omega)⟩⟩⟩
    rcases z.2.2.2 with y | ⟨p, p1, p2, p3⟩
    · omega
    · rw [e] at p1
      have := leastIs_uniq p1 hr2
      subst this
      exact p3 o (by omega) (by omega) o3
  · have hP := hr2.2.1
    exact absurd hP (z (a1 + r) (by omega) (by omega))
  · rcases z.2.2.2 with y | ⟨p, p1, p2, p3⟩
    · omega
    · rw [e] at p1
      have := leastIs_uniq p1 hr2
      omega
theorem H_Mo_isClosed {d : Nat} (hd : 6 ≤ d) : Holds d I_Mo_isClosed S_Mo_isClosed := by
  refine holds_of (d' := d - 1) (rt := 2) (cal := [(I_Mo_leastPeriod, S_Mo_leastPeriod), (I_Mo_nextOf, S_Mo_nextOf)]) (C := C_Mo_isClosed) m_Mo_isClosed o_Mo_isClosed rfl rfl (by omega) ?_ ?_
  · intro x hx
    simp only [List.mem_cons, List.not_mem_nil, or_false] at hx
    rcases hx with rfl | rfl
    · exact H_Mo_leastPeriod (by omega)
    · exact H_Mo_nextOf (by omega)
  · intro as σ K has hσ hG
    have hG2 := hG
    unfold S_Mo_isClosed at hG2
    split at hG2
    · next a1 a2 =>
      refine ⟨Nat.le_of_ble_eq_true rfl, (fun _ => none), ?_, 1000, ?_⟩
      · intro k n z L σ' hk hL hs hP
        cases hk
      · exact e_Mo_isClosed a1 a2 σ K (has _ (List.mem_of_getElem? (i := 1) rfl)) (has _ (List.mem_of_getElem? (i := 2) rfl)) hσ hG
    · exact hG2.elim
def S_Mo_closed : GS := fun as σ K => match as with
  | [some (.inr (.inr (12, 0))), some (.inl a1)] => MoW σ ∧ ∀ r, RTal 1 (closedP (mW σ) (σ 40 0 0)) (σ 40 0 0) a1 r → K (vI r) σ
  | _ => False
abbrev Lp_Mo_closed_16 (a1 : Int) (σ0 : SS) (n : Nat) (L : List AV) (σ : SS) : Prop := ∃ (v2 : Int) (v3 : Int) (v4 : Int) (v5 : Int), L = [vR 12 0, vI a1, vI v2, vI v3, vI v4, vI v5, none] ∧ n = (((σ0 40 0 0) + 1 - v5) * 1000).toNat ∧ ((σ = σ0) ∧ (0 ≤ a1 ∧ a1 ≤ 2) ∧ (1 ≤ v5) ∧ (v5 ≤ (σ0 40 0 0) + 1) ∧ (TB 1 (closedP (mW σ0) (σ0 40 0 0)) (σ0 40 0 0) v5 0 v2 v3 v4))
abbrev Lp_Mo_closed_22 (a1 : Int) (σ0 : SS) (n : Nat) (L : List AV) (σ : SS) : Prop := ∃ (v2 : Int) (v3 : Int) (v4 : Int) (v5 : Int) (v6 : Int), L = [vR 12 0, vI a1, vI v2, vI v3, vI v4, vI v5, vI v6] ∧ n = (((σ0 40 0 0) + 1 - v5) * 1000 - v6 - 1).toNat ∧ ((σ = σ0) ∧ (0 ≤ a1 ∧ a1 ≤ 2) ∧ (1 ≤ v5) ∧ (v5 ≤ (σ0 40 0 0)) ∧ (0 ≤ v6) ∧ (v6 + v5 ≤ (σ0 40 0 0) + 1) ∧ (TB 1 (closedP (mW σ0) (σ0 40 0 0)) (σ0 40 0 0) v5 v6 v2 v3 v4))
def Iv_Mo_closed (a1 : Int) (σ0 : SS) (k : Nat) : Option (List Nat × (Nat → List AV → SS → Prop)) := match k with
  | 16 => some ([6], Lp_Mo_closed_16 a1 σ0)
  | 22 => some ([], Lp_Mo_closed_22 a1 σ0)
  | _ => none
def VE_Mo_closed (a1 : Int) (σ : SS) (K : AV → SS → Prop) : Prop :=
  (S_Mo_in [vL a1, vL 0, vL 2] σ (kI fun r1 σ1 =>
    ((r1 ≠ 0 →
      (∃ n', Lp_Mo_closed_16 a1 σ n' [vR 12 0, vI a1, vI 0, vI 0, vI (-2), vI 1, none] σ1)) ∧
    (r1 = 0 →
      (K (vI (-1)) σ1)))))
def VL_Mo_closed_16 (a1 : Int) (σ0 : SS) (K : AV → SS → Prop) (v2 : Int) (v3 : Int) (v4 : Int) (v5 : Int) (σ : SS) (n : Nat) : Prop :=
  (S_Mo_size [vR 12 0] σ (kI fun r1 σ1 =>
    ((r1 < v5 →
      ((a1 ≠ 0 →
        ((a1 ≠ 1 →
          (K (vI v4) σ1)) ∧
        (a1 = 1 →
          (K (vI v3) σ1)))) ∧
      (a1 = 0 →
        (K (vI v2) σ1)))) ∧
    (v5 ≤ r1 →
      (∃ n', n' < n ∧ Lp_Mo_closed_22 a1 σ0 n' [vR 12 0, vI a1, vI v2, vI v3, vI v4, vI v5, vI 0] σ1)))))
def VL_Mo_closed_22 (a1 : Int) (σ0 : SS) (K : AV → SS → Prop) (v2 : Int) (v3 : Int) (v4 : Int) (v5 : Int) (v6 : Int) (σ : SS) (n : Nat) : Prop :=
  (InR (v6 + v5) ∧
  (S_Mo_size [vR 12 0] σ (kI fun r1 σ1 =>
    ((r1 < (v6 + v5) →
      (InR (v5 + 1) ∧
      (∃ n', n' < n ∧ Lp_Mo_closed_16 a1 σ0 n' [vR 12 0, vI a1, vI v2, vI v3, vI v4, vI (v5 + 1), none] σ1))) ∧
    ((v6 + v5) ≤ r1 →
      (InR (v6 + v5) ∧
      (S_Mo_isClosed [vR 12 0, vI v6, vI (v6 + v5)] σ1 (kI fun r2 σ2 =>
        ((r2 ≠ 0 →
          (InR (v2 + 1) ∧
          ((v5 ≠ v3 →
            (InR (v6 + 1) ∧
            (∃ n', n' < n ∧ Lp_Mo_closed_22 a1 σ0 n' [vR 12 0, vI a1, vI (v2 + 1), vI v5, vI v6, vI v5, vI (v6 + 1)] σ2))) ∧
          (v5 = v3 →
            (InR (v6 + 1) ∧
            (∃ n', n' < n ∧ Lp_Mo_closed_22 a1 σ0 n' [vR 12 0, vI a1, vI (v2 + 1), vI v3, vI v4, vI v5, vI (v6 + 1)] σ2)))))) ∧
        (r2 = 0 →
          (InR (v6 + 1) ∧
          (∃ n', n' < n ∧ Lp_Mo_closed_22 a1 σ0 n' [vR 12 0, vI a1, vI v2, vI v3, vI v4, vI v5, vI (v6 + 1)] σ2))))))))))))
theorem l_Mo_closed_16 (a1 : Int) (σ0 : SS) (K : AV → SS → Prop) (ha1 : InR a1) (hs0 : okS σ0) (hG : S_Mo_closed [vR 12 0, vI a1] σ0 K) (v2 : Int) (v3 : Int) (v4 : Int) (v5 : Int) (σ : SS) (hv2 : InR v2) (hv3 : InR v3) (hv4 : InR v4) (hv5 : InR v5) (hs : okS σ) (n : Nat) (hn : n = (((σ0 40 0 0) + 1 - v5) * 1000).toNat) (hQ : (σ = σ0) ∧ (0 ≤ a1 ∧ a1 ≤ 2) ∧ (1 ≤ v5) ∧ (v5 ≤ (σ0 40 0 0) + 1) ∧ (TB 1 (closedP (mW σ0) (σ0 40 0 0)) (σ0 40 0 0) v5 0 v2 v3 v4)) : VL_Mo_closed_16 a1 σ0 K v2 v3 v4 v5 σ n := by
  unfold VL_Mo_closed_16
  obtain ⟨hM, hG⟩ := hG
  have hb := hM.n
  obtain ⟨rfl, q2, q3, q4, q5⟩ := hQ
  intro _ _
  refine ⟨fun h => ?_, fun h => ⟨_, ?_, _, _, _, _, _, rfl, rfl, rfl, q2, q3, by omega, by omega, by omega, q5⟩⟩
  · obtain ⟨e1, e2⟩ := TB_end q5 q3 q4 (fun i h z => by have := z.1; have := z.2.2.1; omega)
    exact ⟨fun h1 => ⟨fun h2 => hG _ (gd_y q2 ⟨_, _, _, e1, e2, toldW_2 (by omega)⟩), fun h2 => hG _ (gd_y q2 ⟨_, _, _, e1, e2, toldW_1 h2⟩)⟩, fun h1 => hG _ (gd_y q2 ⟨_, _, _, e1, e2, toldW_0 h1⟩)⟩
  · omega
theorem l_Mo_closed_22 (a1 : Int) (σ0 : SS) (K : AV → SS → Prop) (ha1 : InR a1) (hs0 : okS σ0) (hG : S_Mo_closed [vR 12 0, vI a1] σ0 K) (v2 : Int) (v3 : Int) (v4 : Int) (v5 : Int) (v6 : Int) (σ : SS) (hv2 : InR v2) (hv3 : InR v3) (hv4 : InR v4) (hv5 : InR v5) (hv6 : InR v6) (hs : okS σ) (n : Nat) (hn : n = (((σ0 40 0 0) + 1 - v5) * 1000 - v6 - 1).toNat) (hQ : (σ = σ0) ∧ (0 ≤ a1 ∧ a1 ≤ 2) ∧ (1 ≤ v5) ∧ (v5 ≤ (σ0 40 0 0)) ∧ (0 ≤ v6) ∧ (v6 + v5 ≤ (σ0 40 0 0) + 1) ∧ (TB 1 (closedP (mW σ0) (σ0 40 0 0)) (σ0 40 0 0) v5 v6 v2 v3 v4)) : VL_Mo_closed_22 a1 σ0 K v2 v3 v4 v5 v6 σ n := by
  unfold VL_Mo_closed_22
  obtain ⟨hM, hG⟩ := hG
  have hb := hM.n
  obtain ⟨rfl, q2, q3, q4, q5, q6, q7⟩ := hQ
  have hin := TB_in q7 hb.1 hb.2 (by omega) (by omega)
  refine ⟨by omega, ?_⟩
  intro _ _
  refine ⟨fun h => ⟨by omega, _, ?_, _, _, _, _, rfl, rfl, rfl, q2, by omega, by omega, TB_row q7 q3 q5 (by omega) (fun x g1 z => by have := z.2.2.1; omega) (fun i h z => z.1)⟩, fun h => ⟨by omega, ⟨hM, by omega, by omega, by omega⟩, ?_⟩⟩
  · omega
  · rw [show v6 + v5 - v6 = v5 by omega]
    refine bS_b1 (fun hp _ => ?_) (fun hp _ => ⟨by omega, _, ?_, _, _, _, _, _, rfl, rfl, rfl, q2, q3, q4, by omega, by omega, TB_no q7 q5 hp⟩)
    · have hn2 := TB_new (Or.inl rfl) q7 q5 q3 hp
      rw [Int.one_mul] at hn2
      refine ⟨by omega, fun h2 => ⟨by omega, _, ?_, _, _, _, _, _, rfl, rfl, rfl, q2, q3, q4, by omega, by omega, ?_⟩, fun h2 => ⟨by omega, _, ?_, _, _, _, _, _, rfl, rfl, rfl, q2, q3, q4, by omega, by omega, ?_⟩⟩
      · omega
      · rwa [if_neg h2] at hn2
      · omega
      · rw [if_pos h2] at hn2
        rw [← h2]; exact hn2
    · omega
theorem e_Mo_closed (a1 : Int) (σ : SS) (K : AV → SS → Prop) (ha1 : InR a1) (hs : okS σ) (hG : S_Mo_closed [vR 12 0, vI a1] σ K) : VE_Mo_closed a1 σ K := by
  unfold VE_Mo_closed
  obtain ⟨hM, hG⟩ := hG
  have hb := hM.n
  exact bS_b1 (fun hp _ => ⟨_, _, _, _, _, rfl, rfl, rfl, hp, by omega, by omega, TB_0 (fun i h z => ⟨z.1, z.2.1⟩)⟩) (fun hp _ => hG _ (gd_n hp))
theorem H_Mo_closed {d : Nat} (hd : 7 ≤ d) : Holds d I_Mo_closed S_Mo_closed := by
  refine holds_of (d' := d - 1) (rt := 1) (cal := [(I_Mo_in, S_Mo_in), (I_Mo_size, S_Mo_size), (I_Mo_isClosed, S_Mo_isClosed)]) (C := C_Mo_closed) m_Mo_closed o_Mo_closed rfl rfl (by omega) ?_ ?_
  · intro x hx
    simp only [List.mem_cons, List.not_mem_nil, or_false] at hx
    rcases hx with rfl | rfl | rfl
    · exact H_Mo_in (by omega)
    · exact H_Mo_size (by omega)
    · exact H_Mo_isClosed (by omega)
  · intro as σ K has hσ hG
    have hG2 := hG
    unfold S_Mo_closed at hG2
    split at hG2
    · next a1 =>
      refine ⟨Nat.le_of_ble_eq_true rfl, (Iv_Mo_closed a1 σ), ?_, 1000, ?_⟩
      · intro k n z L σ' hk hL hs hP
        unfold Iv_Mo_closed at hk
        split at hk
        · cases hk
          obtain ⟨v2, v3, v4, v5, rfl, hn, hQ⟩ := hP
          exact ⟨1000, l_Mo_closed_16 a1 σ K (has _ (List.mem_of_getElem? (i := 1) rfl)) hσ hG v2 v3 v4 v5 σ' (hL _ (List.mem_of_getElem? (i := 2) rfl)) (hL _ (List.mem_of_getElem? (i := 3) rfl)) (hL _ (List.mem_of_getElem? (i := 4) rfl)) (hL _ (List.mem_of_getElem? (i := 5) rfl)) hs n hn hQ⟩
        · cases hk
          obtain ⟨v2, v3, v4, v5, v6, rfl, hn, hQ⟩ := hP
          exact ⟨1000, l_Mo_closed_22 a1 σ K (has _ (List.mem_of_getElem? (i := 1) rfl)) hσ hG v2 v3 v4 v5 v6 σ' (hL _ (List.mem_of_getElem? (i := 2) rfl)) (hL _ (List.mem_of_getElem? (i := 3) rfl)) (hL _ (List.mem_of_getElem? (i := 4) rfl)) (hL _ (List.mem_of_getElem? (i := 5) rfl)) (hL _ (List.mem_of_getElem? (i := 6) rfl)) hs n hn hQ⟩
        · cases hk
      · exact e_Mo_closed a1 σ K (has _ (List.mem_of_getElem? (i := 1) rfl)) hσ hG
    · exact hG2.elim
