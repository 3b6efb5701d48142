def powAt (w : Int → Int) (k e p : Int) : Prop := ∃ r, p ≤ r ∧ r ≤ e ∧ isP w (e - r) e p ∧ k * p ≤ r * 1000
/-- s letters ahead of x go on as p letters before -/
def bkI (w : Int → Int) (p x s : Int) : Prop := 0 ≤ s ∧ s ≤ x - p ∧ (∀ t, x - s ≤ t → t < x → w t = w (t - p)) ∧ (s = x - p ∨ w (x - s - 1) ≠ w (x - s - 1 - p))
theorem bk_0 {w : Int → Int} {p : Int} : bkI w p p 0 := ⟨by omega, by omega, fun t g1 g2 => by omega, Or.inl (by omega)⟩
theorem bk_yes {w : Int → Int} {p x s : Int} (h : bkI w p x s) (he : w x = w (x - p)) : bkI w p (x + 1) (s + 1) := by
  obtain ⟨h1, h2, h3, h4⟩ := h
  refine ⟨by omega, by omega, fun t g1 g2 => ?_, ?_⟩
  · rcases (by omega : t < x ∨ t = x) with z | rfl
    · exact h3 t (by omega) z
    · exact he
  · rcases h4 with h4 | h4
    · exact Or.inl (by omega)
    · right
      rw [show x + 1 - (s + 1) - 1 = x - s - 1 by omega]
      exact h4
theorem bk_no {w : Int → Int} {p x s : Int} (h : bkI w p x s) (he : w x ≠ w (x - p)) : bkI w p (x + 1) 0 := by
  obtain ⟨h1, h2, h3, h4⟩ := h
  refine ⟨by omega, by omega, fun t g1 g2 => by omega, Or.inr ?_⟩
  rw [show x + 1 - 0 - 1 = x by omega]
  exact he
theorem pow_iff {w : Int → Int} {k p e s : Int} (h : bkI w p e s) (hp : 1 ≤ p) : powAt w k e p ↔ k * p ≤ (s + p) * 1000 := by
  obtain ⟨h1, h2, h3, h4⟩ := h
  constructor
  · rintro ⟨r, r1, r2, r3, r4⟩
    have : r ≤ s + p := by
      rcases (by omega : r ≤ s + p ∨ s + p < r) with z | z
      · exact z
      · rcases h4 with h4 | h4
        · omega
        · refine absurd ?_ h4
          have := r3 (r - p - s - 1) (by omega) (by omega)
          rw [show e - r + (r - p - s - 1) = e - s - 1 - p by omega, show e - r + p + (r - p - s - 1) = e - s - 1 by omega] at this
          exact this.symm
    omega
  · intro g
    refine ⟨s + p, by omega, by omega, fun t t1 t2 => ?_, g⟩
    have := h3 (e - (s + p) + p + t) (by omega) (by omega)
    rw [this, show e - (s + p) + p + t - p = e - (s + p) + t by omega]
theorem pow_not {w : Int → Int} {k e p : Int} (hk : 1001 ≤ k) (hp : 1 ≤ p) (he : e ≤ p) : ¬ powAt w k e p := by
  rintro ⟨r, r1, r2, -, r3⟩
  have h1 : 1001 * p ≤ k * p := Int.mul_le_mul_of_nonneg_right hk (by omega)
  omega
def RPow (w : Int → Int) (n k r : Int) : Prop := gd (1001 ≤ k ∧ k ≤ 120000) (-1) r ((1 ≤ r ∧ r ≤ n ∧ (∃ p, 1 ≤ p ∧ powAt w k r p) ∧ ∀ e p, 1 ≤ e → e < r → 1 ≤ p → ¬ powAt w k e p) ∨ (r = -2 ∧ ∀ e p, 1 ≤ e → e ≤ n → 1 ≤ p → ¬ powAt w k e p))
theorem RPow_u {w : Int → Int} {n k r r' : Int} (h : RPow w n k r) (h' : RPow w n k r') : r = r' := by
  refine gd_uniq h h' (fun _ a b => ?_)
  rcases a with ⟨a1, a2, ⟨p, a3, a4⟩, a5⟩ | ⟨a1, a2⟩ <;> rcases b with ⟨b1, b2, ⟨q, b3, b4⟩, b5⟩ | ⟨b1, b2⟩
  · rcases (by omega : r < r' ∨ r = r' ∨ r' < r) with z | z | z
    · exact absurd a4 (b5 r p a1 z a3)
    · exact z
    · exact absurd b4 (a5 r' q b1 z b3)
  · exact absurd a4 (b2 r p a1 a2 a3)
  · exact absurd b4 (a2 r' q b1 b2 b3)
  · omega
theorem kp_in {k p : Int} (h1 : 1001 ≤ k) (h2 : k ≤ 120000) (h3 : 1 ≤ p) (h4 : p ≤ 120) : 0 ≤ k * p ∧ k * p ≤ 14400000 := by
  have a1 : 0 ≤ k * p := Int.mul_nonneg (by omega) (by omega)
  have a2 : k * p ≤ 120000 * p := Int.mul_le_mul_of_nonneg_right h2 (by omega)
  omega
def S_Rp_endOfPower : GS := fun as σ K => match as with
  | [some (.inr (.inr (4, 0))), some (.inl a1)] => (TwC σ ∧ 1001 ≤ a1 ∧ a1 ≤ 120000) ∧ ∀ r, RPow (cW σ) (σ 501 0 0) a1 r → K (vI r) σ
  | _ => False
abbrev Lp_Rp_endOfPower_8 (a1 : Int) (σ0 : SS) (n : Nat) (L : List AV) (σ : SS) : Prop := ∃ (v2 : Int) (v3 : Int), L = [vR 4 0, vI a1, vI v2, vI v3, none, none] ∧ n = (130000 - v3 * 1000).toNat ∧ ((σ = σ0) ∧ (1 ≤ v3) ∧ (v3 ≤ max 1 (σ0 501 0 0)) ∧ (1 ≤ v2) ∧ (v2 ≤ (σ0 501 0 0) + 1) ∧ (v2 = (σ0 501 0 0) + 1 ∨ ∃ q, 1 ≤ q ∧ powAt (cW σ0) a1 v2 q) ∧ (∀ e q, 1 ≤ e → e < v2 → e ≤ (σ0 501 0 0) → 1 ≤ q → q < v3 → ¬ powAt (cW σ0) a1 e q))
abbrev Lp_Rp_endOfPower_17 (a1 : Int) (σ0 : SS) (n : Nat) (L : List AV) (σ : SS) : Prop := ∃ (v2 : Int) (v3 : Int) (v4 : Int) (v5 : Int), L = [vR 4 0, vI a1, vI v2, vI v3, vI v4, vI v5] ∧ n = (130000 - v3 * 1000 - 1 - v5).toNat ∧ ((σ = σ0) ∧ (1 ≤ v3) ∧ (v3 < (σ0 501 0 0)) ∧ (1 ≤ v2) ∧ (v2 ≤ (σ0 501 0 0) + 1) ∧ (v3 ≤ v5) ∧ (v5 ≤ (σ0 501 0 0)) ∧ (bkI (cW σ0) v3 v5 v4) ∧ (v2 = (σ0 501 0 0) + 1 ∨ ∃ q, 1 ≤ q ∧ powAt (cW σ0) a1 v2 q) ∧ (∀ e, 1 ≤ e → e ≤ v5 → e < v2 → ¬ powAt (cW σ0) a1 e v3) ∧ (∀ e q, 1 ≤ e → e < v2 → e ≤ (σ0 501 0 0) → 1 ≤ q → q < v3 → ¬ powAt (cW σ0) a1 e q))
def Iv_Rp_endOfPower (a1 : Int) (σ0 : SS) (k : Nat) : Option (List Nat × (Nat → List AV → SS → Prop)) := match k with
  | 8 => some ([4, 5], Lp_Rp_endOfPower_8 a1 σ0)
  | 17 => some ([], Lp_Rp_endOfPower_17 a1 σ0)
  | _ => none
def VE_Rp_endOfPower (a1 : Int) (σ : SS) (K : AV → SS → Prop) : Prop :=
  (S_Wo_size [vR 10 0] σ (kI fun r1 σ1 =>
    (InR (r1 + 1) ∧
    (∃ n', Lp_Rp_endOfPower_8 a1 σ n' [vR 4 0, vI a1, vI (r1 + 1), vI 1, none, none] σ1))))
def VL_Rp_endOfPower_8 (a1 : Int) (σ0 : SS) (K : AV → SS → Prop) (v2 : Int) (v3 : Int) (σ : SS) (n : Nat) : Prop :=
  (S_Wo_size [vR 10 0] σ (kI fun r1 σ1 =>
    ((r1 ≤ v3 →
      (S_Wo_size [vR 10 0] σ1 (kI fun r2 σ2 =>
        ((r2 < v2 →
          (K (vI (-2)) σ2)) ∧
        (v2 ≤ r2 →
          (K (vI v2) σ2)))))) ∧
    (v3 < r1 →
      (∃ n', n' < n ∧ Lp_Rp_endOfPower_17 a1 σ0 n' [vR 4 0, vI a1, vI v2, vI v3, vI 0, vI v3] σ1)))))
def VL_Rp_endOfPower_17 (a1 : Int) (σ0 : SS) (K : AV → SS → Prop) (v2 : Int) (v3 : Int) (v4 : Int) (v5 : Int) (σ : SS) (n : Nat) : Prop :=
  (InR (v2 - 1) ∧
  (((v2 - 1) ≤ v5 →
    (InR (v3 + 1) ∧
    (∃ n', n' < n ∧ Lp_Rp_endOfPower_8 a1 σ0 n' [vR 4 0, vI a1, vI v2, vI (v3 + 1), none, none] σ))) ∧
  (v5 < (v2 - 1) →
    (S_Wo_size [vR 10 0] σ (kI fun r1 σ1 =>
      ((r1 ≤ v5 →
        (InR (v3 + 1) ∧
        (∃ n', n' < n ∧ Lp_Rp_endOfPower_8 a1 σ0 n' [vR 4 0, vI a1, vI v2, vI (v3 + 1), none, none] σ1))) ∧
      (v5 < r1 →
        (S_Wo_at [vR 10 0, vI v5] σ1 (kI fun r2 σ2 =>
          (InR (v5 - v3) ∧
          (S_Wo_at [vR 10 0, vI (v5 - v3)] σ2 (kI fun r3 σ3 =>
            ((r2 ≠ r3 →
              (InR (0 + v3) ∧
              (InR ((0 + v3) * 1000) ∧
              (InR (a1 * v3) ∧
              ((((0 + v3) * 1000) < (a1 * v3) →
                (InR (v5 + 1) ∧
                (∃ n', n' < n ∧ Lp_Rp_endOfPower_17 a1 σ0 n' [vR 4 0, vI a1, vI v2, vI v3, vI 0, vI (v5 + 1)] σ3))) ∧
              ((a1 * v3) ≤ ((0 + v3) * 1000) →
                (InR (v5 + 1) ∧
                (InR (v5 + 1) ∧
                (∃ n', n' < n ∧ Lp_Rp_endOfPower_17 a1 σ0 n' [vR 4 0, vI a1, vI (v5 + 1), vI v3, vI 0, vI (v5 + 1)] σ3))))))))) ∧
            (r2 = r3 →
              (InR (v4 + 1) ∧
              (InR ((v4 + 1) + v3) ∧
              (InR (((v4 + 1) + v3) * 1000) ∧
              (InR (a1 * v3) ∧
              (((((v4 + 1) + v3) * 1000) < (a1 * v3) →
                (InR (v5 + 1) ∧
                (∃ n', n' < n ∧ Lp_Rp_endOfPower_17 a1 σ0 n' [vR 4 0, vI a1, vI v2, vI v3, vI (v4 + 1), vI (v5 + 1)] σ3))) ∧
              ((a1 * v3) ≤ (((v4 + 1) + v3) * 1000) →
                (InR (v5 + 1) ∧
                (InR (v5 + 1) ∧
                (∃ n', n' < n ∧ Lp_Rp_endOfPower_17 a1 σ0 n' [vR 4 0, vI a1, vI (v5 + 1), vI v3, vI (v4 + 1), vI (v5 + 1)] σ3)))))))))))))))))))))))
theorem l_Rp_endOfPower_8 (a1 : Int) (σ0 : SS) (K : AV → SS → Prop) (ha1 : InR a1) (hs0 : okS σ0) (hG : S_Rp_endOfPower [vR 4 0, vI a1] σ0 K) (v2 : Int) (v3 : Int) (σ : SS) (hv2 : InR v2) (hv3 : InR v3) (hs : okS σ) (n : Nat) (hn : n = (130000 - v3 * 1000).toNat) (hQ : (σ = σ0) ∧ (1 ≤ v3) ∧ (v3 ≤ max 1 (σ0 501 0 0)) ∧ (1 ≤ v2) ∧ (v2 ≤ (σ0 501 0 0) + 1) ∧ (v2 = (σ0 501 0 0) + 1 ∨ ∃ q, 1 ≤ q ∧ powAt (cW σ0) a1 v2 q) ∧ (∀ e q, 1 ≤ e → e < v2 → e ≤ (σ0 501 0 0) → 1 ≤ q → q < v3 → ¬ powAt (cW σ0) a1 e q)) : VL_Rp_endOfPower_8 a1 σ0 K v2 v3 σ n := by
  unfold VL_Rp_endOfPower_8
  obtain ⟨⟨hT, h1, h2⟩, hG⟩ := hG
  have hb := hT.n
  obtain ⟨rfl, q1, q2, q3, q4, q5, q6⟩ := hQ
  intro _ _
  refine ⟨fun h => ?_, fun h => ⟨_, ?_, _, _, _, _, rfl, rfl, rfl, q1, by omega, q3, q4, by omega, by omega, bk_0, q5, fun e e1 e2 e3 => ?_, q6⟩⟩
  · have all : ∀ e p, 1 ≤ e → e < v2 → e ≤ (σ 501 0 0) → 1 ≤ p → ¬ powAt (cW σ) a1 e p := fun e p e1 e2 e3 p1 => by
      rcases (by omega : p < v3 ∨ e ≤ p) with z | z
      · exact q6 e p e1 e2 e3 p1 z
      · exact pow_not h1 p1 z
    intro _ _
    refine ⟨fun g => hG _ (gd_y ⟨h1, h2⟩ (Or.inr ⟨rfl, fun e p e1 e2 p1 => all e p e1 (by omega) e2 p1⟩)), fun g => hG _ (gd_y ⟨h1, h2⟩ (Or.inl ⟨q3, g, ?_, fun e p e1 e2 p1 => all e p e1 e2 (by omega) p1⟩))⟩
    rcases q5 with q5 | q5
    · omega
    · exact q5
  · omega
  · exact pow_not h1 q1 e2
theorem l_Rp_endOfPower_17 (a1 : Int) (σ0 : SS) (K : AV → SS → Prop) (ha1 : InR a1) (hs0 : okS σ0) (hG : S_Rp_endOfPower [vR 4 0, vI a1] σ0 K) (v2 : Int) (v3 : Int) (v4 : Int) (v5 : Int) (σ : SS) (hv2 : InR v2) (hv3 : InR v3) (hv4 : InR v4) (hv5 : InR v5) (hs : okS σ) (n : Nat) (hn : n = (130000 - v3 * 1000 - 1 - v5).toNat) (hQ : (σ = σ0) ∧ (1 ≤ v3) ∧ (v3 < (σ0 501 0 0)) ∧ (1 ≤ v2) ∧ (v2 ≤ (σ0 501 0 0) + 1) ∧ (v3 ≤ v5) ∧ (v5 ≤ (σ0 501 0 0)) ∧ (bkI (cW σ0) v3 v5 v4) ∧ (v2 = (σ0 501 0 0) + 1 ∨ ∃ q, 1 ≤ q ∧ powAt (cW σ0) a1 v2 q) ∧ (∀ e, 1 ≤ e → e ≤ v5 → e < v2 → ¬ powAt (cW σ0) a1 e v3) ∧ (∀ e q, 1 ≤ e → e < v2 → e ≤ (σ0 501 0 0) → 1 ≤ q → q < v3 → ¬ powAt (cW σ0) a1 e q)) : VL_Rp_endOfPower_17 a1 σ0 K v2 v3 v4 v5 σ n := by
  unfold VL_Rp_endOfPower_17
  obtain ⟨⟨hT, h1, h2⟩, hG⟩ := hG
  have hb := hT.n
  obtain ⟨rfl, q1, q2, q3, q4, q5, q6, q7, q8, q9, q10⟩ := hQ
  have bs := q7.1
  have bs2 := q7.2.1
  have nxt : (v2 - 1 ≤ v5 ∨ (σ 501 0 0) ≤ v5) → ∀ e q, 1 ≤ e → e < v2 → e ≤ (σ 501 0 0) → 1 ≤ q → q < v3 + 1 → ¬ powAt (cW σ) a1 e q := fun h e q e1 e2 e3 z1 z2 => by
    rcases (by omega : q < v3 ∨ q = v3) with z | rfl
    · exact q10 e q e1 e2 e3 z1 z
    · exact q9 e e1 (by omega) e2
  refine ⟨by omega, fun h => ⟨by omega, _, ?_, _, _, rfl, rfl, rfl, by omega, by omega, q3, q4, q8, nxt (Or.inl h)⟩, fun h => ?_⟩
  · omega
  intro _ _
  refine ⟨fun h3 => ⟨by omega, _, ?_, _, _, rfl, rfl, rfl, by omega, by omega, q3, q4, q8, nxt (Or.inr h3)⟩, fun h3 => ⟨by omega, ?_⟩⟩
  · omega
  intro _ _
  refine ⟨by omega, by omega, ?_⟩
  intro _ _
  have hk := kp_in h1 h2 q1 (by omega)
  have old : ∀ {s : Int}, bkI (cW σ) v3 (v5 + 1) s → (s + v3) * 1000 < a1 * v3 → ∀ e, 1 ≤ e → e ≤ v5 + 1 → e < v2 → ¬ powAt (cW σ) a1 e v3 := fun {s} hs hl e e1 e2 e3 => by
    rcases (by omega : e ≤ v5 ∨ e = v5 + 1) with z | rfl
    · exact q9 e e1 z e3
    · rw [pow_iff hs q1]; omega
  have new : ∀ {s : Int}, bkI (cW σ) v3 (v5 + 1) s → a1 * v3 ≤ (s + v3) * 1000 → powAt (cW σ) a1 (v5 + 1) v3 := fun {s} hs hl => (pow_iff hs q1).mpr hl
  refine ⟨fun hne => ?_, fun he => ?_⟩
  · have hs : bkI (cW σ) v3 (v5 + 1) 0 := bk_no q7 hne
    refine ⟨by omega, by omega, by omega, fun hl => ⟨by omega, _, ?_, _, _, _, _, rfl, rfl, rfl, q1, q2, q3, q4, by omega, by omega, hs, q8, old hs hl, q10⟩, fun hl => ⟨by omega, by omega, _, ?_, _, _, _, _, rfl, rfl, rfl, q1, q2, by omega, by omega, by omega, by omega, hs, Or.inr ⟨_, q1, new hs hl⟩, fun e e1 e2 e3 => q9 e e1 (by omega) (by omega), fun e q e1 e2 e3 => q10 e q e1 (by omega) e3⟩⟩
    · clear q8; omega
    · clear q8; omega
  · have hs : bkI (cW σ) v3 (v5 + 1) (v4 + 1) := bk_yes q7 he
    refine ⟨by omega, by omega, by omega, by omega, fun hl => ⟨by omega, _, ?_, _, _, _, _, rfl, rfl, rfl, q1, q2, q3, q4, by omega, by omega, hs, q8, old hs hl, q10⟩, fun hl => ⟨by omega, by omega, _, ?_, _, _, _, _, rfl, rfl, rfl, q1, q2, by omega, by omega, by omega, by omega, hs, Or.inr ⟨_, q1, new hs hl⟩, fun e e1 e2 e3 => q9 e e1 (by omega) (by omega), fun e q e1 e2 e3 => q10 e q e1 (by omega) e3⟩⟩
    · clear q8; omega
    · clear q8; omega
theorem e_Rp_endOfPower (a1 : Int) (σ : SS) (K : AV → SS → Prop) (ha1 : InR a1) (hs : okS σ) (hG : S_Rp_endOfPower [vR 4 0, vI a1] σ K) : VE_Rp_endOfPower a1 σ K := by
  unfold VE_Rp_endOfPower
  obtain ⟨⟨hT, h1, h2⟩, hG⟩ := hG
  have hb := hT.n
  intro _ _
  exact ⟨by omega, _, _, _, rfl, rfl, rfl, by omega, by omega, by omega, by omega, Or.inl rfl, fun e q e1 e2 e3 q1 q2 => by omega⟩
theorem H_Rp_endOfPower {d : Nat} (hd : 2 ≤ d) : Holds d I_Rp_endOfPower S_Rp_endOfPower := by
  refine holds_of (d' := d - 1) (rt := 1) (cal := [(I_Wo_size, S_Wo_size), (I_Wo_at, S_Wo_at)]) (C := C_Rp_endOfPower) m_Rp_endOfPower o_Rp_endOfPower rfl rfl (by omega) ?_ ?_
  · intro x hx
    simp only [List.mem_cons, List.not_mem_nil, or_false] at hx
    rcases hx with rfl | rfl
    · exact H_Wo_size (by omega)
    · exact H_Wo_at (by omega)
  · intro as σ K has hσ hG
    have hG2 := hG
    unfold S_Rp_endOfPower at hG2
    split at hG2
    · next a1 =>
      refine ⟨Nat.le_of_ble_eq_true rfl, (Iv_Rp_endOfPower a1 σ), ?_, 1000, ?_⟩
      · intro k n z L σ' hk hL hs hP
        unfold Iv_Rp_endOfPower at hk
        split at hk
        · cases hk
          obtain ⟨v2, v3, rfl, hn, hQ⟩ := hP
          exact ⟨1000, l_Rp_endOfPower_8 a1 σ K (has _ (List.mem_of_getElem? (i := 1) rfl)) hσ hG v2 v3 σ' (hL _ (List.mem_of_getElem? (i := 2) rfl)) (hL _ (List.mem_of_getElem? (i := 3) rfl)) hs n hn hQ⟩
        · cases hk
          obtain ⟨v2, v3, v4, v5, rfl, hn, hQ⟩ := hP
          exact ⟨1000, l_Rp_endOfPower_17 a1 σ K (has _ (List.mem_of_getElem? (i := 1) rfl)) hσ hG v2 v3 v4 v5 σ' (hL _ (List.mem_of_getElem? (i := 2) rfl)) (hL _ (List.mem_of_getElem? (i := 3) rfl)) (hL _ (List.mem_of_getElem? (i := 4) rfl)) (hL _ (List.mem_of_getElem? (i := 5) rfl)) hs n hn hQ⟩
        · cases hk
      · exact e_Rp_endOfPower a1 σ K (has _ (List.mem_of_getElem? (i := 1) rfl)) hσ hG
    · exact hG2.elim
def S_Wr_power : GS := fun as σ K => match as with
  | [some (.inr (.inr (11, 0))), some (.inl a1)] => TwC σ ∧ ∀ r, RPow (cW σ) (σ 501 0 0) a1 r → K (vI r) σ
  | _ => False
def VE_Wr_power (a1 : Int) (σ : SS) (K : AV → SS → Prop) : Prop :=
  ((a1 ≤ 1000 →
    (K (vI (-1)) σ)) ∧
  ((1000 : Int) < a1 →
    ((a1 ≤ 120000 →
      (S_Rp_endOfPower [vR 4 0, vI a1] σ (kI fun r1 σ1 =>
        (K (vI r1) σ1)))) ∧
    ((120000 : Int) < a1 →
      (K (vI (-1)) σ)))))
theorem e_Wr_power (a1 : Int) (σ : SS) (K : AV → SS → Prop) (ha1 : InR a1) (hs : okS σ) (hG : S_Wr_power [vR 11 0, vI a1] σ K) : VE_Wr_power a1 σ K := by
  unfold VE_Wr_power
  obtain ⟨hT, hG⟩ := hG
  refine ⟨fun h => hG _ (gd_n (by omega)), fun h => ⟨fun h2 => ⟨⟨hT, by omega, by omega⟩, fun r hr => ?_⟩, fun h2 => hG _ (gd_n (by omega))⟩⟩
  intro _ _
  exact hG r hr
theorem H_Wr_power {d : Nat} (hd : 3 ≤ d) : Holds d I_Wr_power S_Wr_power := by
  refine holds_of (d' := d - 1) (rt := 1) (cal := [(I_Rp_endOfPower, S_Rp_endOfPower)]) (C := C_Wr_power) m_Wr_power o_Wr_power rfl rfl (by omega) ?_ ?_
  · intro x hx
    simp only [List.mem_cons, List.not_mem_nil, or_false] at hx
    subst hx
    exact H_Rp_endOfPower (by omega)
  · intro as σ K has hσ hG
    have hG2 := hG
    unfold S_Wr_power at hG2
    split at hG2
    · next a1 =>
      refine ⟨Nat.le_of_ble_eq_true rfl, (fun _ => none), ?_, 1000, ?_⟩
      · intro k n z L σ' hk hL hs hP
        cases hk
      · exact e_Wr_power a1 σ K (has _ (List.mem_of_getElem? (i := 1) rfl)) hσ hG
    · exact hG2.elim
def S_Mo_backBy : GS := fun as σ K => match as with
  | [some (.inr (.inr (12, 0))), some (.inl a1), some (.inl a2)] => (MoW σ ∧ 1 ≤ a2 ∧ a2 ≤ a1 ∧ a1 ≤ (σ 40 0 0)) ∧ ∀ s, bkI (mW σ) a2 a1 s → K (vI (s + a2)) σ
  | _ => False
abbrev Lp_Mo_backBy_4 (a1 : Int) (a2 : Int) (σ0 : SS) (n : Nat) (L : List AV) (σ : SS) : Prop := ∃ (v3 : Int), L = [vR 12 0, vI a1, vI a2, vI v3] ∧ n = (v3).toNat ∧ ((σ = σ0) ∧ (0 ≤ v3) ∧ (v3 ≤ a1 - a2) ∧ (∀ t, v3 + a2 ≤ t → t < a1 → mW σ0 t = mW σ0 (t - a2)))
def Iv_Mo_backBy (a1 : Int) (a2 : Int) (σ0 : SS) (k : Nat) : Option (List Nat × (Nat → List AV → SS → Prop)) := match k with
  | 4 => some ([], Lp_Mo_backBy_4 a1 a2 σ0)
  | _ => none
def VE_Mo_backBy (a1 : Int) (a2 : Int) (σ : SS) (K : AV → SS → Prop) : Prop :=
  (InR (a1 - a2) ∧
  (∃ n', Lp_Mo_backBy_4 a1 a2 σ n' [vR 12 0, vI a1, vI a2, vI (a1 - a2)] σ))
def VL_Mo_backBy_4 (a1 : Int) (a2 : Int) (σ0 : SS) (K : AV → SS → Prop) (v3 : Int) (σ : SS) (n : Nat) : Prop :=
  ((v3 ≤ 0 →
    (InR (a1 - v3) ∧
    (K (vI (a1 - v3)) σ))) ∧
  ((0 : Int) < v3 →
    (InR (v3 - 1) ∧
    (S_Mo_at [vR 12 0, vI (v3 - 1)] σ (kI fun r1 σ1 =>
      (InR (v3 - 1) ∧
      (InR ((v3 - 1) + a2) ∧
      (S_Mo_at [vR 12 0, vI ((v3 - 1) + a2)] σ1 (kI fun r2 σ2 =>
        ((r1 ≠ r2 →
          (InR (a1 - v3) ∧
          (K (vI (a1 - v3)) σ2))) ∧
        (r1 = r2 →
          (InR (v3 + (-1)) ∧
          (∃ n', n' < n ∧ Lp_Mo_backBy_4 a1 a2 σ0 n' [vR 12 0, vI a1, vI a2, vI (v3 + (-1))] σ2)))))))))))))
theorem l_Mo_backBy_4 (a1 : Int) (a2 : Int) (σ0 : SS) (K : AV → SS → Prop) (ha1 : InR a1) (ha2 : InR a2) (hs0 : okS σ0) (hG : S_Mo_backBy [vR 12 0, vI a1, vI a2] σ0 K) (v3 : Int) (σ : SS) (hv3 : InR v3) (hs : okS σ) (n : Nat) (hn : n = (v3).toNat) (hQ : (σ = σ0) ∧ (0 ≤ v3) ∧ (v3 ≤ a1 - a2) ∧ (∀ t, v3 + a2 ≤ t → t < a1 → mW σ0 t = mW σ0 (t - a2))) : VL_Mo_backBy_4 a1 a2 σ0 K v3 σ n := by
  unfold VL_Mo_backBy_4
  obtain ⟨⟨hM, h1⟩, hG⟩ := hG
  have hb := hM.n
  obtain ⟨rfl, q1, q2, q3⟩ := hQ
  have e : a1 - v3 = (a1 - a2 - v3) + a2 := by omega
  have fin : (a1 - a2 - v3 = a1 - a2 ∨ mW σ (v3 + a2 - 1) ≠ mW σ (v3 - 1)) → K (vI (a1 - v3)) σ := fun z => by
    rw [e]
    refine hG _ ⟨by omega, by omega, fun t t1 t2 => q3 t (by omega) t2, ?_⟩
    rw [show a1 - (a1 - a2 - v3) - 1 = v3 + a2 - 1 by omega, show v3 + a2 - 1 - a2 = v3 - 1 by omega]
    exact z
  refine ⟨fun h => ⟨by omega, fin (by omega)⟩, fun h => ⟨by omega, ⟨by omega, by omega, by omega⟩, ?_⟩⟩
  intro _ _
  refine ⟨by omega, by omega, ⟨by omega, by omega, by omega⟩, ?_⟩
  rw [show v3 - 1 + a2 = v3 + a2 - 1 by omega]
  intro _ _
  refine ⟨fun g => ⟨by omega, fin (Or.inr (fun y => g y.symm))⟩, fun g => ⟨by omega, _, ?_, _, rfl, rfl, rfl, by omega, by omega, fun t t1 t2 => ?_⟩⟩
  · omega
  · rcases (by omega : v3 + a2 ≤ t ∨ t = v3 + a2 - 1) with z | rfl
    · exact q3 t z t2
    · rw [show v3 + a2 - 1 - a2 = v3 - 1 by omega]; exact g.symm
theorem e_Mo_backBy (a1 : Int) (a2 : Int) (σ : SS) (K : AV → SS → Prop) (ha1 : InR a1) (ha2 : InR a2) (hs : okS σ) (hG : S_Mo_backBy [vR 12 0, vI a1, vI a2] σ K) : VE_Mo_backBy a1 a2 σ K := by
  unfold VE_Mo_backBy
  obtain ⟨⟨hM, h1⟩, hG⟩ := hG
  have hb := hM.n
  exact ⟨by omega, _, _, rfl, rfl, rfl, by omega, by omega, fun t t1 t2 => by omega⟩
theorem H_Mo_backBy {d : Nat} (hd : 2 ≤ d) : Holds d I_Mo_backBy S_Mo_backBy := by
  refine holds_of (d' := d - 1) (rt := 1) (cal := [(I_Mo_at, S_Mo_at)]) (C := C_Mo_backBy) m_Mo_backBy o_Mo_backBy rfl rfl (by omega) ?_ ?_
  · intro x hx
    simp only [List.mem_cons, List.not_mem_nil, or_false] at hx
    subst hx
    exact H_Mo_at (by omega)
  · intro as σ K has hσ hG
    have hG2 := hG
    unfold S_Mo_backBy at hG2
    split at hG2
    · next a1 a2 =>
      refine ⟨Nat.le_of_ble_eq_true rfl, (Iv_Mo_backBy a1 a2 σ), ?_, 1000, ?_⟩
      · intro k n z L σ' hk hL hs hP
        unfold Iv_Mo_backBy at hk
        split at hk
        · cases hk
          obtain ⟨v3, rfl, hn, hQ⟩ := hP
          exact ⟨1000, l_Mo_backBy_4 a1 a2 σ K (has _ (List.mem_of_getElem? (i := 1) rfl)) (has _ (List.mem_of_getElem? (i := 2) rfl)) hσ hG v3 σ' (hL _ (List.mem_of_getElem? (i := 3) rfl)) hs n hn hQ⟩
        · cases hk
      · exact e_Mo_backBy a1 a2 σ K (has _ (List.mem_of_getElem? (i := 1) rfl)) (has _ (List.mem_of_getElem? (i := 2) rfl)) hσ hG
    · exact hG2.elim
def S_Mo_power : GS := fun as σ K => match as with
  | [some (.inr (.inr (12, 0))), some (.inl a1)] => MoW σ ∧ ∀ r, RPow (mW σ) (σ 40 0 0) a1 r → K (vI r) σ
  | _ => False
abbrev Lp_Mo_power_10 (a1 : Int) (σ0 : SS) (n : Nat) (L : List AV) (σ : SS) : Prop := ∃ (v2 : Int), L = [vR 12 0, vI a1, vI v2, none] ∧ n = (130000 - v2 * 1000).toNat ∧ ((σ = σ0) ∧ (1001 ≤ a1 ∧ a1 ≤ 120000) ∧ (1 ≤ v2) ∧ (v2 ≤ (σ0 40 0 0) + 1) ∧ (∀ e p, 1 ≤ e → e < v2 → 1 ≤ p → ¬ powAt (mW σ0) a1 e p))
abbrev Lp_Mo_power_16 (a1 : Int) (σ0 : SS) (n : Nat) (L : List AV) (σ : SS) : Prop := ∃ (v2 : Int) (v3 : Int), L = [vR 12 0, vI a1, vI v2, vI v3] ∧ n = (130000 - v2 * 1000 - v3).toNat ∧ ((σ = σ0) ∧ (1001 ≤ a1 ∧ a1 ≤ 120000) ∧ (1 ≤ v2) ∧ (v2 ≤ (σ0 40 0 0)) ∧ (1 ≤ v3) ∧ (v3 ≤ v2 + 1) ∧ (∀ p, 1 ≤ p → p < v3 → ¬ powAt (mW σ0) a1 v2 p) ∧ (∀ e p, 1 ≤ e → e < v2 → 1 ≤ p → ¬ powAt (mW σ0) a1 e p))
def Iv_Mo_power (a1 : Int) (σ0 : SS) (k : Nat) : Option (List Nat × (Nat → List AV → SS → Prop)) := match k with
  | 10 => some ([3], Lp_Mo_power_10 a1 σ0)
  | 16 => some ([], Lp_Mo_power_16 a1 σ0)
  | _ => none
def VE_Mo_power (a1 : Int) (σ : SS) (K : AV → SS → Prop) : Prop :=
  (S_Mo_in [vL a1, vL 1001, vL 120000] σ (kI fun r1 σ1 =>
    ((r1 ≠ 0 →
      (∃ n', Lp_Mo_power_10 a1 σ n' [vR 12 0, vI a1, vI 1, none] σ1)) ∧
    (r1 = 0 →
      (K (vI (-1)) σ1)))))
def VL_Mo_power_10 (a1 : Int) (σ0 : SS) (K : AV → SS → Prop) (v2 : Int) (σ : SS) (n : Nat) : Prop :=
  (S_Mo_size [vR 12 0] σ (kI fun r1 σ1 =>
    ((r1 < v2 →
      (K (vI (-2)) σ1)) ∧
    (v2 ≤ r1 →
      (∃ n', n' < n ∧ Lp_Mo_power_16 a1 σ0 n' [vR 12 0, vI a1, vI v2, vI 1] σ1)))))
def VL_Mo_power_16 (a1 : Int) (σ0 : SS) (K : AV → SS → Prop) (v2 : Int) (v3 : Int) (σ : SS) (n : Nat) : Prop :=
  ((v2 < v3 →
    (InR (v2 + 1) ∧
    (∃ n', n' < n ∧ Lp_Mo_power_10 a1 σ0 n' [vR 12 0, vI a1, vI (v2 + 1), none] σ))) ∧
  (v3 ≤ v2 →
    (S_Mo_backBy [vR 12 0, vI v2, vI v3] σ (kI fun r1 σ1 =>
      (InR (r1 * 1000) ∧
      (InR (a1 * v3) ∧
      (((r1 * 1000) < (a1 * v3) →
        (InR (v3 + 1) ∧
        (∃ n', n' < n ∧ Lp_Mo_power_16 a1 σ0 n' [vR 12 0, vI a1, vI v2, vI (v3 + 1)] σ1))) ∧
      ((a1 * v3) ≤ (r1 * 1000) →
        (K (vI v2) σ1)))))))))
theorem l_Mo_power_10 (a1 : Int) (σ0 : SS) (K : AV → SS → Prop) (ha1 : InR a1) (hs0 : okS σ0) (hG : S_Mo_power [vR 12 0, vI a1] σ0 K) (v2 : Int) (σ : SS) (hv2 : InR v2) (hs : okS σ) (n : Nat) (hn : n = (130000 - v2 * 1000).toNat) (hQ : (σ = σ0) ∧ (1001 ≤ a1 ∧ a1 ≤ 120000) ∧ (1 ≤ v2) ∧ (v2 ≤ (σ0 40 0 0) + 1) ∧ (∀ e p, 1 ≤ e → e < v2 → 1 ≤ p → ¬ powAt (mW σ0) a1 e p)) : VL_Mo_power_10 a1 σ0 K v2 σ n := by
  unfold VL_Mo_power_10
  obtain ⟨hM, hG⟩ := hG
  have hb := hM.n
  obtain ⟨rfl, q1, q2, q3, q4⟩ := hQ
  intro _ _
  refine ⟨fun h => hG _ (gd_y q1 (Or.inr ⟨rfl, fun e p e1 e2 p1 => q4 e p e1 (by omega) p1⟩)), fun h => ⟨_, ?_, _, _, rfl, rfl, rfl, q1, q2, h, by omega, by omega, fun p p1 p2 => by omega, q4⟩⟩
  omega
theorem l_Mo_power_16 (a1 : Int) (σ0 : SS) (K : AV → SS → Prop) (ha1 : InR a1) (hs0 : okS σ0) (hG : S_Mo_power [vR 12 0, vI a1] σ0 K) (v2 : Int) (v3 : Int) (σ : SS) (hv2 : InR v2) (hv3 : InR v3) (hs : okS σ) (n : Nat) (hn : n = (130000 - v2 * 1000 - v3).toNat) (hQ : (σ = σ0) ∧ (1001 ≤ a1 ∧ a1 ≤ 120000) ∧ (1 ≤ v2) ∧ (v2 ≤ (σ0 40 0 0)) ∧ (1 ≤ v3) ∧ (v3 ≤ v2 + 1) ∧ (∀ p, 1 ≤ p → p < v3 → ¬ powAt (mW σ0) a1 v2 p) ∧ (∀ e p, 1 ≤ e → e < v2 → 1 ≤ p → ¬ powAt (mW σ0) a1 e p)) : VL_Mo_power_16 a1 σ0 K v2 v3 σ n := by
  unfold VL_Mo_power_16
  obtain ⟨hM, hG⟩ := hG
  have hb := hM.n
  obtain ⟨rfl, q1, q2, q3, q4, q5, q6, q7⟩ := hQ
  refine ⟨fun h => ⟨by omega, _, ?_, _, rfl, rfl, rfl, q1, by omega, by omega, fun e p e1 e2 p1 => ?_⟩, fun h => ⟨⟨hM, q4, h, q3⟩, fun s hs => ?_⟩⟩
  · omega
  · rcases (by omega : e < v2 ∨ e = v2) with z | rfl
    · exact q7 e p e1 z p1
    · exact q6 p p1 |> fun g => by
        rcases (by omega : p < v3 ∨ e ≤ p) with z | z
        · exact g z
        · exact pow_not q1.1 p1 z
  · have hk := kp_in q1.1 q1.2 q4 (by omega)
    have s1 := hs.1
    have s2 := hs.2.1
    intro _ _
    refine ⟨by omega, by omega, fun g => ⟨by omega, _, ?_, _, _, rfl, rfl, rfl, q1, q2, q3, by omega, by omega, fun p p1 p2 => ?_, q7⟩, fun g => hG _ (gd_y q1 (Or.inl ⟨q2, q3, ⟨_, q4, (pow_iff hs q4).mpr g⟩, q7⟩))⟩
    · omega
    · rcases (by omega : p < v3 ∨ p = v3) with z | rfl
      · exact q6 p p1 z
      · rw [pow_iff hs q4]; omega
theorem e_Mo_power (a1 : Int) (σ : SS) (K : AV → SS → Prop) (ha1 : InR a1) (hs : okS σ) (hG : S_Mo_power [vR 12 0, vI a1] σ K) : VE_Mo_power a1 σ K := by
  unfold VE_Mo_power
  obtain ⟨hM, hG⟩ := hG
  have hb := hM.n
  exact bS_b1 (fun hp _ => ⟨_, _, rfl, rfl, rfl, hp, by omega, by omega, fun e p e1 e2 => by omega⟩) (fun hp _ => hG _ (gd_n hp))
theorem H_Mo_power {d : Nat} (hd : 3 ≤ d) : Holds d I_Mo_power S_Mo_power := by
  refine holds_of (d' := d - 1) (rt := 1) (cal := [(I_Mo_in, S_Mo_in), (I_Mo_size, S_Mo_size), (I_Mo_backBy, S_Mo_backBy)]) (C := C_Mo_power) m_Mo_power o_Mo_power rfl rfl (by omega) ?_ ?_
  · intro x hx
    simp only [List.mem_cons, List.not_mem_nil, or_false] at hx
    rcases hx with rfl | rfl | rfl
    · exact H_Mo_in (by omega)
    · exact H_Mo_size (by omega)
    · exact H_Mo_backBy (by omega)
  · intro as σ K has hσ hG
    have hG2 := hG
    unfold S_Mo_power at hG2
    split at hG2
    · next a1 =>
      refine ⟨Nat.le_of_ble_eq_true rfl, (Iv_Mo_power a1 σ), ?_, 1000, ?_⟩
      · intro k n z L σ' hk hL hs hP
        unfold Iv_Mo_power at hk
        split at hk
        · cases hk
          obtain ⟨v2, rfl, hn, hQ⟩ := hP
          exact ⟨1000, l_Mo_power_10 a1 σ K (has _ (List.mem_of_getElem? (i := 1) rfl)) hσ hG v2 σ' (hL _ (List.mem_of_getElem? (i := 2) rfl)) hs n hn hQ⟩
        · cases hk
          obtain ⟨v2, v3, rfl, hn, hQ⟩ := hP
          exact ⟨1000, l_Mo_power_16 a1 σ K (has _ (List.mem_of_getElem? (i := 1) rfl)) hσ hG v2 v3 σ' (hL _ (List.mem_of_getElem? (i := 2) rfl)) (hL _ (List.mem_of_getElem? (i := 3) rfl)) hs n hn hQ⟩
        · cases hk
      · exact e_Mo_power a1 σ K (has _ (List.mem_of_getElem? (i := 1) rfl)) hσ hG
    · exact hG2.elim
def twP (w : Int → Int) (ap n i j L : Int) : Prop := 0 ≤ i ∧ i < j ∧ 1 ≤ L ∧ j + L ≤ n ∧ eqs w i j L ∧ (ap ≠ 0 → L ≤ j - i)
def twB (S : Int → Int → Int → Prop) (l f x : Int) : Prop := (∀ i j L, S i j L → L < l ∨ (L = l ∧ (f < i ∨ (f = i ∧ x ≤ j)))) ∧ ((l = 0 ∧ f = -2 ∧ x = -2) ∨ (1 ≤ l ∧ S f x l))
theorem twB_u {S : Int → Int → Int → Prop} {l f x l' f' x' : Int} (hS : ∀ i j L, S i j L → 1 ≤ L) (h : twB S l f x) (h' : twB S l' f' x') : l = l' ∧ f = f' ∧ x = x' := by
  obtain ⟨a1, a2⟩ := h
  obtain ⟨b1, b2⟩ := h'
  rcases a2 with ⟨a2, a3, a4⟩ | ⟨a2, a3⟩ <;> rcases b2 with ⟨b2, b3, b4⟩ | ⟨b2, b3⟩
  · omega
  · have := a1 _ _ _ b3; omega
  · have := b1 _ _ _ a3; omega
  · have := a1 _ _ _ b3
    have := b1 _ _ _ a3
    omega
def RTw (w : Int → Int) (n ap a r : Int) : Prop := gd (0 ≤ a ∧ a ≤ 2) (-1) r (∃ l f x, twB (twP w ap n) l f x ∧ r = toldW l f x a)
theorem RTw_u {w : Int → Int} {n ap a r r' : Int} (h : RTw w n ap a r) (h' : RTw w n ap a r') : r = r' := by
  refine gd_uniq h h' (fun _ ⟨l, f, x, h1, h3⟩ ⟨l', f', x', g1, g3⟩ => ?_)
  obtain ⟨e1, e2, e3⟩ := twB_u (fun i j L z => z.2.2.1) h1 g1
  rw [h3, g3, e1, e2, e3]
/-- the pairs ahead of i0, j0 in their order -/
def twS (w : Int → Int) (ap n i0 j0 : Int) (i j L : Int) : Prop := twP w ap n i j L ∧ (i < i0 ∨ (i = i0 ∧ j < j0))
theorem tw_same {w : Int → Int} {ap n i j : Int} (hi : 0 ≤ i) (hij : i < j) (hj : j < n) : ∀ L, 1 ≤ L → (twP w ap n i j L ↔ L ≤ (if ap = 0 then lceR w n i j else min (lceR w n i j) (j - i))) := fun L hL => by
  have hc := common_ge (w := w) (n := n) (i := i) (j := j) (L := L) hi (by omega) (by omega) hj (by omega)
  by_cases z : ap = 0
  · rw [if_pos z]
    constructor
    · intro h
      have h3 := h.2.2.2
      exact hc.mpr ⟨by omega, h3.2.1⟩
    · intro h
      have h2 := hc.mp h
      exact ⟨hi, hij, hL, by omega, h2.2, fun y => absurd z y⟩
  · rw [if_neg z]
    constructor
    · intro h
      have h3 := h.2.2.2
      have h1 := hc.mpr ⟨by omega, h3.2.1⟩
      have h2 := h3.2.2 z
      omega
    · intro h
      have h2 := hc.mp (by omega)
      exact ⟨hi, hij, hL, by omega, h2.2, fun _ => by omega⟩
theorem tw_no {w : Int → Int} {ap n i0 j0 l f x s : Int} (h : twB (twS w ap n i0 j0) l f x) (hs : ∀ L, 1 ≤ L → (twP w ap n i0 j0 L ↔ L ≤ s)) (hl : s ≤ l) (hf : l = 0 ∨ f < i0 ∨ (f = i0 ∧ x < j0)) : twB (twS w ap n i0 (j0 + 1)) l f x := by
  obtain ⟨h1, h2⟩ := h
  refine ⟨fun i j L ⟨z1, z2⟩ => ?_, ?_⟩
  · rcases (by omega : (i < i0 ∨ (i = i0 ∧ j < j0)) ∨ (i = i0 ∧ j = j0)) with y | ⟨rfl, rfl⟩
    · exact h1 i j L ⟨z1, y⟩
    · have a1 := z1.2.2.1
      have a2 := (hs L a1).mp z1
      omega
  · rcases h2 with h2 | ⟨h2, h3, h4⟩
    · exact Or.inl h2
    · exact Or.inr ⟨h2, h3, by omega⟩
theorem tw_yes {w : Int → Int} {ap n i0 j0 l f x s : Int} (h : twB (twS w ap n i0 j0) l f x) (hs : ∀ L, 1 ≤ L → (twP w ap n i0 j0 L ↔ L ≤ s)) (hl : l < s) (h0 : 0 ≤ l) : twB (twS w ap n i0 (j0 + 1)) s i0 j0 := by
  obtain ⟨h1, h2⟩ := h
  refine ⟨fun i j L ⟨z1, z2⟩ => ?_, Or.inr ⟨by omega, (hs s (by omega)).mpr (by omega), by omega⟩⟩
  rcases (by omega : (i < i0 ∨ (i = i0 ∧ j < j0)) ∨ (i = i0 ∧ j = j0)) with y | ⟨rfl, rfl⟩
  · have := h1 i j L ⟨z1, y⟩; omega
  · have a1 := z1.2.2.1
    have a2 := (hs L a1).mp z1
    omega
theorem tw_row {w : Int → Int} {ap n i0 j0 l f x : Int} (h : twB (twS w ap n i0 j0) l f x) (hj : n ≤ j0) : twB (twS w ap n (i0 + 1) (i0 + 2)) l f x := by
  obtain ⟨h1, h2⟩ := h
  refine ⟨fun i j L ⟨z1, z2⟩ => h1 i j L ⟨z1, ?_⟩, ?_⟩
  · have := z1.2.1
    have := z1.2.2.1
    have := z1.2.2.2.1
    omega
  · rcases h2 with h2 | ⟨h2, h3, h4⟩
    · exact Or.inl h2
    · exact Or.inr ⟨h2, h3, by omega⟩
theorem tw_end {w : Int → Int} {ap n i0 l f x : Int} (h : twB (twS w ap n i0 (i0 + 1)) l f x) (hi : n ≤ i0) : twB (twP w ap n) l f x := by
  obtain ⟨h1, h2⟩ := h
  refine ⟨fun i j L z => h1 i j L ⟨z, ?_⟩, ?_⟩
  · have := z.2.1
    have := z.2.2.1
    have := z.2.2.2.1
    omega
  · rcases h2 with h2 | ⟨h2, h3, h4⟩
    · exact Or.inl h2
    · exact Or.inr ⟨h2, h3⟩
def S_Rp_twiceAnswer : GS := fun as σ K => match as with
  | [some (.inr (.inr (4, 0))), some (.inl a1), some (.inl a2)] => TwC σ ∧ ∀ σ' r, TQ σ σ' → RTw (cW σ) (σ 501 0 0) a1 a2 r → K (vI r) σ'
  | _ => False
abbrev Lp_Rp_twiceAnswer_8 (a1 : Int) (a2 : Int) (σ0 : SS) (n : Nat) (L : List AV) (σ : SS) : Prop := ∃ (v3 : Int) (v4 : Int) (v5 : Int) (v6 : Int), L = [vR 4 0, vI a1, vI a2, vI v3, vI v4, vI v5, vI v6, none, none] ∧ n = (130000 - v6 * 1000).toNat ∧ ((TQ σ0 σ) ∧ (0 ≤ v6) ∧ (v6 ≤ (σ0 501 0 0)) ∧ (0 ≤ v3) ∧ (v3 = 0 ∨ v4 < v6) ∧ (twB (twS (cW σ0) a1 (σ0 501 0 0) v6 (v6 + 1)) v3 v4 v5))
abbrev Lp_Rp_twiceAnswer_17 (a1 : Int) (a2 : Int) (σ0 : SS) (n : Nat) (L : List AV) (σ : SS) : Prop := ∃ (v3 : Int) (v4 : Int) (v5 : Int) (v6 : Int) (v7 : Int), L = [vR 4 0, vI a1, vI a2, vI v3, vI v4, vI v5, vI v6, vI v7, none] ∧ n = (130000 - v6 * 1000 - v7).toNat ∧ ((TQ σ0 σ) ∧ (0 ≤ v6) ∧ (v6 < (σ0 501 0 0)) ∧ (v6 < v7) ∧ (v7 ≤ (σ0 501 0 0)) ∧ (0 ≤ v3) ∧ (v3 = 0 ∨ v4 < v6 ∨ (v4 = v6 ∧ v5 < v7)) ∧ (twB (twS (cW σ0) a1 (σ0 501 0 0) v6 v7) v3 v4 v5))
def Iv_Rp_twiceAnswer (a1 : Int) (a2 : Int) (σ0 : SS) (k : Nat) : Option (List Nat × (Nat → List AV → SS → Prop)) := match k with
  | 8 => some ([7, 8], Lp_Rp_twiceAnswer_8 a1 a2 σ0)
  | 17 => some ([8], Lp_Rp_twiceAnswer_17 a1 a2 σ0)
  | _ => none
def VE_Rp_twiceAnswer (a1 : Int) (a2 : Int) (σ : SS) (K : AV → SS → Prop) : Prop :=
  (∃ n', Lp_Rp_twiceAnswer_8 a1 a2 σ n' [vR 4 0, vI a1, vI a2, vI 0, vI (-2), vI (-2), vI 0, none, none] σ)
def VL_Rp_twiceAnswer_8 (a1 : Int) (a2 : Int) (σ0 : SS) (K : AV → SS → Prop) (v3 : Int) (v4 : Int) (v5 : Int) (v6 : Int) (σ : SS) (n : Nat) : Prop :=
  (S_Wo_size [vR 10 0] σ (kI fun r1 σ1 =>
    ((r1 ≤ v6 →
      (((a2 = 0 →
        (K (vI v3) σ1)) ∧
      ((a2 = 1 →
        (K (vI v4) σ1)) ∧
      ((a2 = 2 →
        (K (vI v5) σ1)) ∧
      True))) ∧
      (a2 < 0 ∨ 2 < a2 →
        (K (vI (-1)) σ1)))) ∧
    (v6 < r1 →
      (InR (v6 + 1) ∧
      (∃ n', n' < n ∧ Lp_Rp_twiceAnswer_17 a1 a2 σ0 n' [vR 4 0, vI a1, vI a2, vI v3, vI v4, vI v5, vI v6, vI (v6 + 1), none] σ1))))))
def VL_Rp_twiceAnswer_17 (a1 : Int) (a2 : Int) (σ0 : SS) (K : AV → SS → Prop) (v3 : Int) (v4 : Int) (v5 : Int) (v6 : Int) (v7 : Int) (σ : SS) (n : Nat) : Prop :=
  (S_Wo_size [vR 10 0] σ (kI fun r1 σ1 =>
    ((r1 ≤ v7 →
      (InR (v6 + 1) ∧
      (∃ n', n' < n ∧ Lp_Rp_twiceAnswer_8 a1 a2 σ0 n' [vR 4 0, vI a1, vI a2, vI v3, vI v4, vI v5, vI (v6 + 1), none, none] σ1))) ∧
    (v7 < r1 →
      (S_Tw_common [vR 8 0, vI v6, vI v7] σ1 (kI fun r2 σ2 =>
        ((a1 = 0 →
          ((r2 ≤ v3 →
            (InR (v7 + 1) ∧
            (∃ n', n' < n ∧ Lp_Rp_twiceAnswer_17 a1 a2 σ0 n' [vR 4 0, vI a1, vI a2, vI v3, vI v4, vI v5, vI v6, vI (v7 + 1), none] σ2))) ∧
          (v3 < r2 →
            (InR (v7 + 1) ∧
            (∃ n', n' < n ∧ Lp_Rp_twiceAnswer_17 a1 a2 σ0 n' [vR 4 0, vI a1, vI a2, vI r2, vI v6, vI v7, vI v6, vI (v7 + 1), none] σ2))))) ∧
        (a1 ≠ 0 →
          (InR (v7 - v6) ∧
          (((min r2 (v7 - v6)) ≤ v3 →
            (InR (v7 + 1) ∧
            (∃ n', n' < n ∧ Lp_Rp_twiceAnswer_17 a1 a2 σ0 n' [vR 4 0, vI a1, vI a2, vI v3, vI v4, vI v5, vI v6, vI (v7 + 1), none] σ2))) ∧
          (v3 < (min r2 (v7 - v6)) →
            (InR (v7 + 1) ∧
            (∃ n', n' < n ∧ Lp_Rp_twiceAnswer_17 a1 a2 σ0 n' [vR 4 0, vI a1, vI a2, vI (min r2 (v7 - v6)), vI v6, vI v7, vI v6, vI (v7 + 1), none] σ2)))))))))))))
theorem l_Rp_twiceAnswer_8 (a1 : Int) (a2 : Int) (σ0 : SS) (K : AV → SS → Prop) (ha1 : InR a1) (ha2 : InR a2) (hs0 : okS σ0) (hG : S_Rp_twiceAnswer [vR 4 0, vI a1, vI a2] σ0 K) (v3 : Int) (v4 : Int) (v5 : Int) (v6 : Int) (σ : SS) (hv3 : InR v3) (hv4 : InR v4) (hv5 : InR v5) (hv6 : InR v6) (hs : okS σ) (n : Nat) (hn : n = (130000 - v6 * 1000).toNat) (hQ : (TQ σ0 σ) ∧ (0 ≤ v6) ∧ (v6 ≤ (σ0 501 0 0)) ∧ (0 ≤ v3) ∧ (v3 = 0 ∨ v4 < v6) ∧ (twB (twS (cW σ0) a1 (σ0 501 0 0) v6 (v6 + 1)) v3 v4 v5)) : VL_Rp_twiceAnswer_8 a1 a2 σ0 K v3 v4 v5 v6 σ n := by
  unfold VL_Rp_twiceAnswer_8
  obtain ⟨hT, hG⟩ := hG
  have hb := hT.n
  obtain ⟨q0, q1, q2, q3, q4, q5⟩ := hQ
  obtain ⟨w1, w2⟩ := q0.w
  intro _ _
  refine ⟨fun h => ?_, fun h => ⟨by omega, _, ?_, _, _, _, _, _, rfl, rfl, q0, q1, by omega, by omega, by omega, q3, by omega, q5⟩⟩
  · have z := tw_end q5 (by omega)
    exact ⟨⟨fun h1 => hG _ _ q0 (gd_y (by omega) ⟨_, _, _, z, toldW_0 h1⟩), fun h1 => hG _ _ q0 (gd_y (by omega) ⟨_, _, _, z, toldW_1 h1⟩), fun h1 => hG _ _ q0 (gd_y (by omega) ⟨_, _, _, z, toldW_2 h1⟩), True.intro⟩, fun h1 => hG _ _ q0 (gd_n (by omega))⟩
  · omega
theorem l_Rp_twiceAnswer_17 (a1 : Int) (a2 : Int) (σ0 : SS) (K : AV → SS → Prop) (ha1 : InR a1) (ha2 : InR a2) (hs0 : okS σ0) (hG : S_Rp_twiceAnswer [vR 4 0, vI a1, vI a2] σ0 K) (v3 : Int) (v4 : Int) (v5 : Int) (v6 : Int) (v7 : Int) (σ : SS) (hv3 : InR v3) (hv4 : InR v4) (hv5 : InR v5) (hv6 : InR v6) (hv7 : InR v7) (hs : okS σ) (n : Nat) (hn : n = (130000 - v6 * 1000 - v7).toNat) (hQ : (TQ σ0 σ) ∧ (0 ≤ v6) ∧ (v6 < (σ0 501 0 0)) ∧ (v6 < v7) ∧ (v7 ≤ (σ0 501 0 0)) ∧ (0 ≤ v3) ∧ (v3 = 0 ∨ v4 < v6 ∨ (v4 = v6 ∧ v5 < v7)) ∧ (twB (twS (cW σ0) a1 (σ0 501 0 0) v6 v7) v3 v4 v5)) : VL_Rp_twiceAnswer_17 a1 a2 σ0 K v3 v4 v5 v6 v7 σ n := by
  unfold VL_Rp_twiceAnswer_17
  obtain ⟨hT, hG⟩ := hG
  have hb := hT.n
  obtain ⟨q0, q1, q2, q3, q4, q5, q6, q7⟩ := hQ
  obtain ⟨w1, w2⟩ := q0.w
  intro _ _
  refine ⟨fun h => ⟨by omega, _, ?_, _, _, _, _, rfl, rfl, q0, by omega, by omega, q5, by omega, ?_⟩, fun h => ⟨q0.2, fun σ' hF hT' => ?_⟩⟩
  · omega
  · rw [show v6 + 1 + 1 = v6 + 2 by omega]; exact tw_row q7 (by omega)
  · rw [w1, w2]
    have q0' := q0.tr ⟨hF, hT'⟩
    have hs := tw_same (w := cW σ0) (ap := a1) (n := (σ0 501 0 0)) (i := v6) (j := v7) q1 q3 (by omega)
    intro _ _
    refine ⟨fun z => ?_, fun z => ⟨by omega, ?_⟩⟩
    · rw [if_pos z] at hs
      refine ⟨fun g => ⟨by omega, _, ?_, _, _, _, _, _, rfl, rfl, q0', q1, q2, by omega, by omega, q5, by omega, tw_no q7 hs g q6⟩, fun g => ⟨by omega, _, ?_, _, _, _, _, _, rfl, rfl, q0', q1, q2, by omega, by omega, by omega, by omega, tw_yes q7 hs g q5⟩⟩
      · omega
      · omega
    · rw [if_neg z] at hs
      refine ⟨fun g => ⟨by omega, _, ?_, _, _, _, _, _, rfl, rfl, q0', q1, q2, by omega, by omega, q5, by omega, tw_no q7 hs g q6⟩, fun g => ⟨by omega, _, ?_, _, _, _, _, _, rfl, rfl, q0', q1, q2, by omega, by omega, by omega, by omega, tw_yes q7 hs g q5⟩⟩
      · omega
      · omega
theorem e_Rp_twiceAnswer (a1 : Int) (a2 : Int) (σ : SS) (K : AV → SS → Prop) (ha1 : InR a1) (ha2 : InR a2) (hs : okS σ) (hG : S_Rp_twiceAnswer [vR 4 0, vI a1, vI a2] σ K) : VE_Rp_twiceAnswer a1 a2 σ K := by
  unfold VE_Rp_twiceAnswer
  obtain ⟨hT, hG⟩ := hG
  have hb := hT.n
  exact ⟨_, _, _, _, _, rfl, rfl, TQ.rf hT, by omega, by omega, by omega, Or.inl rfl, fun i j L z => by have := z.1.1; have := z.1.2.1; have := z.2; omega, Or.inl ⟨rfl, rfl, rfl⟩⟩
theorem H_Rp_twiceAnswer {d : Nat} (hd : 3 ≤ d) : Holds d I_Rp_twiceAnswer S_Rp_twiceAnswer := by
  refine holds_of (d' := d - 1) (rt := 1) (cal := [(I_Wo_size, S_Wo_size), (I_Tw_common, S_Tw_common)]) (C := C_Rp_twiceAnswer) m_Rp_twiceAnswer o_Rp_twiceAnswer rfl rfl (by omega) ?_ ?_
  · intro x hx
    simp only [List.mem_cons, List.not_mem_nil, or_false] at hx
    rcases hx with rfl | rfl
    · exact H_Wo_size (by omega)
    · exact H_Tw_common (by omega)
  · intro as σ K has hσ hG
    have hG2 := hG
    unfold S_Rp_twiceAnswer at hG2
    split at hG2
    · next a1 a2 =>
      refine ⟨Nat.le_of_ble_eq_true rfl, (Iv_Rp_twiceAnswer a1 a2 σ), ?_, 1000, ?_⟩
      · intro k n z L σ' hk hL hs hP
        unfold Iv_Rp_twiceAnswer at hk
        split at hk
        · cases hk
          obtain ⟨v3, v4, v5, v6, rfl, hn, hQ⟩ := hP
          exact ⟨1000, l_Rp_twiceAnswer_8 a1 a2 σ K (has _ (List.mem_of_getElem? (i := 1) rfl)) (has _ (List.mem_of_getElem? (i := 2) rfl)) hσ hG v3 v4 v5 v6 σ' (hL _ (List.mem_of_getElem? (i := 3) rfl)) (hL _ (List.mem_of_getElem? (i := 4) rfl)) (hL _ (List.mem_of_getElem? (i := 5) rfl)) (hL _ (List.mem_of_getElem? (i := 6) rfl)) hs n hn hQ⟩
        · cases hk
          obtain ⟨v3, v4, v5, v6, v7, rfl, hn, hQ⟩ := hP
          exact ⟨1000, l_Rp_twiceAnswer_17 a1 a2 σ K (has _ (List.mem_of_getElem? (i := 1) rfl)) (has _ (List.mem_of_getElem? (i := 2) rfl)) hσ hG v3 v4 v5 v6 v7 σ' (hL _ (List.mem_of_getElem? (i := 3) rfl)) (hL _ (List.mem_of_getElem? (i := 4) rfl)) (hL _ (List.mem_of_getElem? (i := 5) rfl)) (hL _ (List.mem_of_getElem? (i := 6) rfl)) (hL _ (List.mem_of_getElem? (i := 7) rfl)) hs n hn hQ⟩
        · cases hk
      · exact e_Rp_twiceAnswer a1 a2 σ K (has _ (List.mem_of_getElem? (i := 1) rfl)) (has _ (List.mem_of_getElem? (i := 2) rfl)) hσ hG
    · exact hG2.elim
def S_Wr_twice : GS := fun as σ K => match as with
  | [some (.inr (.inr (11, 0))), some (.inl a1), some (.inl a2)] => TwC σ ∧ ∀ σ' r, TQ σ σ' → RTw (cW σ) (σ 501 0 0) a1 a2 r → K (vI r) σ'
  | _ => False
def VE_Wr_twice (a1 : Int) (a2 : Int) (σ : SS) (K : AV → SS → Prop) : Prop :=
  (S_Rp_twiceAnswer [vR 4 0, vI a1, vI a2] σ (kI fun r1 σ1 =>
    (K (vI r1) σ1)))
theorem e_Wr_twice (a1 : Int) (a2 : Int) (σ : SS) (K : AV → SS → Prop) (ha1 : InR a1) (ha2 : InR a2) (hs : okS σ) (hG : S_Wr_twice [vR 11 0, vI a1, vI a2] σ K) : VE_Wr_twice a1 a2 σ K := by
  unfold VE_Wr_twice
  obtain ⟨hT, hG⟩ := hG
  refine ⟨hT, fun σ' r hq hr => ?_⟩
  intro _ _
  exact hG σ' r hq hr
theorem H_Wr_twice {d : Nat} (hd : 4 ≤ d) : Holds d I_Wr_twice S_Wr_twice := by
  refine holds_of (d' := d - 1) (rt := 1) (cal := [(I_Rp_twiceAnswer, S_Rp_twiceAnswer)]) (C := C_Wr_twice) m_Wr_twice o_Wr_twice rfl rfl (by omega) ?_ ?_
  · intro x hx
    simp only [List.mem_cons, List.not_mem_nil, or_false] at hx
    subst hx
    exact H_Rp_twiceAnswer (by omega)
  · intro as σ K has hσ hG
    have hG2 := hG
    unfold S_Wr_twice at hG2
    split at hG2
    · next a1 a2 =>
      refine ⟨Nat.le_of_ble_eq_true rfl, (fun _ => none), ?_, 1000, ?_⟩
      · intro k n z L σ' hk hL hs hP
        cases hk
      · exact e_Wr_twice a1 a2 σ K (has _ (List.mem_of_getElem? (i := 1) rfl)) (has _ (List.mem_of_getElem? (i := 2) rfl)) hσ hG
    · exact hG2.elim
def S_Mo_twice : GS := fun as σ K => match as with
  | [some (.inr (.inr (12, 0))), some (.inl a1), some (.inl a2)] => MoW σ ∧ ∀ r, RTw (mW σ) (σ 40 0 0) a1 a2 r → K (vI r) σ
  | _ => False
abbrev Lp_Mo_twice_13 (a1 : Int) (a2 : Int) (σ0 : SS) (n : Nat) (L : List AV) (σ : SS) : Prop := ∃ (v3 : Int), L = [vR 12 0, vI a1, vI a2, vI v3, none, none] ∧ n = (v3 * 1000).toNat ∧ ((σ = σ0) ∧ (0 ≤ a2 ∧ a2 ≤ 2) ∧ (v3 ≤ 120) ∧ (∀ i j L, twP (mW σ0) a1 (σ0 40 0 0) i j L → L ≤ v3))
abbrev Lp_Mo_twice_17 (a1 : Int) (a2 : Int) (σ0 : SS) (n : Nat) (L : List AV) (σ : SS) : Prop := ∃ (v3 : Int) (v4 : Int), L = [vR 12 0, vI a1, vI a2, vI v3, vI v4, none] ∧ n = (v3 * 1000 - v4 - 1).toNat ∧ ((σ = σ0) ∧ (0 ≤ a2 ∧ a2 ≤ 2) ∧ (1 ≤ v3) ∧ (0 ≤ v4) ∧ (v4 ≤ 121) ∧ (v3 ≤ 120) ∧ (∀ i j L, twP (mW σ0) a1 (σ0 40 0 0) i j L → L ≤ v3 ∧ (L = v3 → v4 ≤ i)))
def Iv_Mo_twice (a1 : Int) (a2 : Int) (σ0 : SS) (k : Nat) : Option (List Nat × (Nat → List AV → SS → Prop)) := match k with
  | 13 => some ([4, 5], Lp_Mo_twice_13 a1 a2 σ0)
  | 17 => some ([5], Lp_Mo_twice_17 a1 a2 σ0)
  | _ => none
def VE_Mo_twice (a1 : Int) (a2 : Int) (σ : SS) (K : AV → SS → Prop) : Prop :=
  (S_Mo_in [vL a2, vL 0, vL 2] σ (kI fun r1 σ1 =>
    ((r1 ≠ 0 →
      (S_Mo_size [vR 12 0] σ1 (kI fun r2 σ2 =>
        (InR (r2 - 1) ∧
        (∃ n', Lp_Mo_twice_13 a1 a2 σ n' [vR 12 0, vI a1, vI a2, vI (r2 - 1), none, none] σ2))))) ∧
    (r1 = 0 →
      (K (vI (-1)) σ1)))))
def VL_Mo_twice_13 (a1 : Int) (a2 : Int) (σ0 : SS) (K : AV → SS → Prop) (v3 : Int) (σ : SS) (n : Nat) : Prop :=
  ((v3 ≤ 0 →
    ((a2 ≠ 0 →
      (K (vI (-2)) σ)) ∧
    (a2 = 0 →
      (K (vI 0) σ)))) ∧
  ((0 : Int) < v3 →
    (∃ n', n' < n ∧ Lp_Mo_twice_17 a1 a2 σ0 n' [vR 12 0, vI a1, vI a2, vI v3, vI 0, none] σ)))
def VL_Mo_twice_17 (a1 : Int) (a2 : Int) (σ0 : SS) (K : AV → SS → Prop) (v3 : Int) (v4 : Int) (σ : SS) (n : Nat) : Prop :=
  (InR (v4 + v3) ∧
  (S_Mo_size [vR 12 0] σ (kI fun r1 σ1 =>
    ((r1 < (v4 + v3) →
      (InR (v3 + (-1)) ∧
      (∃ n', n' < n ∧ Lp_Mo_twice_13 a1 a2 σ0 n' [vR 12 0, vI a1, vI a2, vI (v3 + (-1)), none, none] σ1))) ∧
    ((v4 + v3) ≤ r1 →
      ((a1 = 0 →
        (InR (v4 + 1) ∧
        (S_Mo_nextOf [vR 12 0, vI v4, vI v3, vI (v4 + 1)] σ1 (kI fun r2 σ2 =>
          ((r2 = (-1) →
            (InR (v4 + 1) ∧
            (∃ n', n' < n ∧ Lp_Mo_twice_17 a1 a2 σ0 n' [vR 12 0, vI a1, vI a2, vI v3, vI (v4 + 1), none] σ2))) ∧
          (r2 ≠ (-1) →
            ((a2 ≠ 0 →
              ((a2 ≠ 1 →
                (K (vI r2) σ2)) ∧
              (a2 = 1 →
                (K (vI v4) σ2)))) ∧
            (a2 = 0 →
              (K (vI v3) σ2))))))))) ∧
      (a1 ≠ 0 →
        (InR (v4 + v3) ∧
        (S_Mo_nextOf [vR 12 0, vI v4, vI v3, vI (v4 + v3)] σ1 (kI fun r3 σ3 =>
          ((r3 = (-1) →
            (InR (v4 + 1) ∧
            (∃ n', n' < n ∧ Lp_Mo_twice_17 a1 a2 σ0 n' [vR 12 0, vI a1, vI a2, vI v3, vI (v4 + 1), none] σ3))) ∧
          (r3 ≠ (-1) →
            ((a2 ≠ 0 →
              ((a2 ≠ 1 →
                (K (vI r3) σ3)) ∧
              (a2 = 1 →
                (K (vI v4) σ3)))) ∧
            (a2 = 0 →
              (K (vI v3) σ3)))))))))))))))
theorem l_Mo_twice_13 (a1 : Int) (a2 : Int) (σ0 : SS) (K : AV → SS → Prop) (ha1 : InR a1) (ha2 : InR a2) (hs0 : okS σ0) (hG : S_Mo_twice [vR 12 0, vI a1, vI a2] σ0 K) (v3 : Int) (σ : SS) (hv3 : InR v3) (hs : okS σ) (n : Nat) (hn : n = (v3 * 1000).toNat) (hQ : (σ = σ0) ∧ (0 ≤ a2 ∧ a2 ≤ 2) ∧ (v3 ≤ 120) ∧ (∀ i j L, twP (mW σ0) a1 (σ0 40 0 0) i j L → L ≤ v3)) : VL_Mo_twice_13 a1 a2 σ0 K v3 σ n := by
  unfold VL_Mo_twice_13
  obtain ⟨hM, hG⟩ := hG
  have hb := hM.n
  obtain ⟨rfl, q1, q2, q3⟩ := hQ
  refine ⟨fun h => ?_, fun h => ⟨_, ?_, _, _, rfl, rfl, rfl, q1, by omega, by omega, by omega, q2, fun i j L z => ⟨q3 i j L z, fun _ => z.1⟩⟩⟩
  · have z : twB (twP (mW σ) a1 (σ 40 0 0)) 0 (-2) (-2) := ⟨fun i j L z => by have := q3 i j L z; have := z.2.2.1; omega, Or.inl ⟨rfl, rfl, rfl⟩⟩
    refine ⟨fun g => hG _ (gd_y q1 ⟨_, _, _, z, ?_⟩), fun g => hG _ (gd_y q1 ⟨_, _, _, z, toldW_0 g⟩)⟩
    rcases (by omega : a2 = 1 ∨ a2 = 2) with y | y
    · exact toldW_1 y
    · exact toldW_2 y
  · omega
theorem l_Mo_twice_17 (a1 : Int) (a2 : Int) (σ0 : SS) (K : AV → SS → Prop) (ha1 : InR a1) (ha2 : InR a2) (hs0 : okS σ0) (hG : S_Mo_twice [vR 12 0, vI a1, vI a2] σ0 K) (v3 : Int) (v4 : Int) (σ : SS) (hv3 : InR v3) (hv4 : InR v4) (hs : okS σ) (n : Nat) (hn : n = (v3 * 1000 - v4 - 1).toNat) (hQ : (σ = σ0) ∧ (0 ≤ a2 ∧ a2 ≤ 2) ∧ (1 ≤ v3) ∧ (0 ≤ v4) ∧ (v4 ≤ 121) ∧ (v3 ≤ 120) ∧ (∀ i j L, twP (mW σ0) a1 (σ0 40 0 0) i j L → L ≤ v3 ∧ (L = v3 → v4 ≤ i))) : VL_Mo_twice_17 a1 a2 σ0 K v3 v4 σ n := by
  unfold VL_Mo_twice_17
  obtain ⟨hM, hG⟩ := hG
  have hb := hM.n
  obtain ⟨rfl, q1, q2, q3, q4, q5, q6⟩ := hQ
  have no : (∀ j, ¬ twP (mW σ) a1 (σ 40 0 0) v4 j v3) → ∀ i j L, twP (mW σ) a1 (σ 40 0 0) i j L → L ≤ v3 ∧ (L = v3 → v4 + 1 ≤ i) := fun hn i j L z => by
    have h1 := q6 i j L z
    refine ⟨h1.1, fun g => ?_⟩
    have h2 := h1.2 g
    by_cases e : i = v4
    · subst e; subst g; exact absurd z (hn j)
    · omega
  have yes : ∀ r, twP (mW σ) a1 (σ 40 0 0) v4 r v3 → (∀ j, twP (mW σ) a1 (σ 40 0 0) v4 j v3 → r ≤ j) → twB (twP (mW σ) a1 (σ 40 0 0)) v3 v4 r := fun r hr hj => ⟨fun i j L z => by
    have h1 := q6 i j L z
    by_cases e : L = v3
    · have h2 := h1.2 e
      by_cases e2 : i = v4
      · subst e; subst e2
        exact Or.inr ⟨rfl, Or.inr ⟨rfl, hj j z⟩⟩
      · exact Or.inr ⟨e, Or.inl (by omega)⟩
    · exact Or.inl (by omega), Or.inr ⟨q2, hr⟩⟩
  refine ⟨by omega, ?_⟩
  intro _ _
  refine ⟨fun h => ⟨by omega, _, ?_, _, rfl, rfl, rfl, q1, by omega, fun i j L z => ?_⟩, fun h => ⟨fun g => ⟨by omega, ⟨hM, q3, q2, h, by omega, by omega⟩, fun o o1 o2 o3 o4 => ?_, fun o4 => ?_⟩, fun g => ⟨by omega, ⟨hM, q3, q2, h, by omega, by omega⟩, fun o o1 o2 o3 o4 => ?_, fun o4 => ?_⟩⟩⟩
  · omega
  · have h1 := q6 i j L z
    have h2 := z.2.1
    have h3 := z.2.2.2.1
    omega
  · intro _ _
    have z := yes o ⟨q3, by omega, q2, o2, o3, fun y => absurd g y⟩ (fun j y => by
      rcases (by omega : o ≤ j ∨ j < o) with x | x
      · exact x
      · exact absurd y.2.2.2.2.1 (o4 j (by have := y.2.1; omega) x))
    refine ⟨fun k => by omega, fun k => ⟨fun k1 => ⟨fun k2 => hG _ (gd_y q1 ⟨_, _, _, z, toldW_2 (by omega)⟩), fun k2 => hG _ (gd_y q1 ⟨_, _, _, z, toldW_1 k2⟩)⟩, fun k1 => hG _ (gd_y q1 ⟨_, _, _, z, toldW_0 k1⟩)⟩⟩
  · intro _ _
    refine ⟨fun k => ⟨by omega, _, ?_, _, _, rfl, rfl, rfl, q1, q2, by omega, by omega, q5, no (fun j y => o4 j (by have := y.2.1; omega) y.2.2.2.1 y.2.2.2.2.1)⟩, fun k => absurd rfl k⟩
    omega
  · intro _ _
    have z := yes o ⟨q3, by omega, q2, o2, o3, fun y => by omega⟩ (fun j y => by
      rcases (by omega : o ≤ j ∨ j < o) with x | x
      · exact x
      · exact absurd y.2.2.2.2.1 (o4 j (by have := y.2.2.2.2.2 g; omega) x))
    refine ⟨fun k => by omega, fun k => ⟨fun k1 => ⟨fun k2 => hG _ (gd_y q1 ⟨_, _, _, z, toldW_2 (by omega)⟩), fun k2 => hG _ (gd_y q1 ⟨_, _, _, z, toldW_1 k2⟩)⟩, fun k1 => hG _ (gd_y q1 ⟨_, _, _, z, toldW_0 k1⟩)⟩⟩
  · intro _ _
    refine ⟨fun k => ⟨by omega, _, ?_, _, _, rfl, rfl, rfl, q1, q2, by omega, by omega, q5, no (fun j y => o4 j (by have := y.2.2.2.2.2 g; omega) y.2.2.2.1 y.2.2.2.2.1)⟩, fun k => absurd rfl k⟩
    omega
theorem e_Mo_twice (a1 : Int) (a2 : Int) (σ : SS) (K : AV → SS → Prop) (ha1 : InR a1) (ha2 : InR a2) (hs : okS σ) (hG : S_Mo_twice [vR 12 0, vI a1, vI a2] σ K) : VE_Mo_twice a1 a2 σ K := by
  unfold VE_Mo_twice
  obtain ⟨hM, hG⟩ := hG
  have hb := hM.n
  refine bS_b1 (fun hp _ => ?_) (fun hp _ => hG _ (gd_n hp))
  intro _ _
  exact ⟨by omega, _, _, rfl, rfl, rfl, hp, by omega, fun i j L z => by have := z.1; have := z.2.1; have := z.2.2.2.1; omega⟩
theorem H_Mo_twice {d : Nat} (hd : 5 ≤ d) : Holds d I_Mo_twice S_Mo_twice := by
  refine holds_of (d' := d - 1) (rt := 1) (cal := [(I_Mo_in, S_Mo_in), (I_Mo_size, S_Mo_size), (I_Mo_nextOf, S_Mo_nextOf)]) (C := C_Mo_twice) m_Mo_twice o_Mo_twice rfl rfl (by omega) ?_ ?_
  · intro x hx
    simp only [List.mem_cons, List.not_mem_nil, or_false] at hx
    rcases hx with rfl | rfl | rfl
    · exact H_Mo_in (by omega)
    · exact H_Mo_size (by omega)
    · exact H_Mo_nextOf (by omega)
  · intro as σ K has hσ hG
    have hG2 := hG
    unfold S_Mo_twice at hG2
    split at hG2
    · next a1 a2 =>
      refine ⟨Nat.le_of_ble_eq_true rfl, (Iv_Mo_twice a1 a2 σ), ?_, 1000, ?_⟩
      · intro k n z L σ' hk hL hs hP
        unfold Iv_Mo_twice at hk
        split at hk
        · cases hk
          obtain ⟨v3, rfl, hn, hQ⟩ := hP
          exact ⟨1000, l_Mo_twice_13 a1 a2 σ K (has _ (List.mem_of_getElem? (i := 1) rfl)) (has _ (List.mem_of_getElem? (i := 2) rfl)) hσ hG v3 σ' (hL _ (List.mem_of_getElem? (i := 3) rfl)) hs n hn hQ⟩
        · cases hk
          obtain ⟨v3, v4, rfl, hn, hQ⟩ := hP
          exact ⟨1000, l_Mo_twice_17 a1 a2 σ K (has _ (List.mem_of_getElem? (i := 1) rfl)) (has _ (List.mem_of_getElem? (i := 2) rfl)) hσ hG v3 v4 σ' (hL _ (List.mem_of_getElem? (i := 3) rfl)) (hL _ (List.mem_of_getElem? (i := 4) rfl)) hs n hn hQ⟩
        · cases hk
      · exact e_Mo_twice a1 a2 σ K (has _ (List.mem_of_getElem? (i := 1) rfl)) (has _ (List.mem_of_getElem? (i := 2) rfl)) hσ hG
    · exact hG2.elim
