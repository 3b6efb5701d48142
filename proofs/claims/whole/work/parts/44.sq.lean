/-! counting pairs measure by measure -/
noncomputable def cbS (P : Int → Int → Prop) (n h0 i0 : Int) : Int := sumZ (colS P n) 1 h0 + sumZ (fun i => bi (P i h0)) 0 i0
theorem CB_0 {P : Int → Int → Prop} {n : Int} : cbS P n 1 0 = 0 := by
  unfold cbS
  rw [sumZ_nil (by omega), sumZ_nil (by omega)]; rfl
theorem CB_no {P : Int → Int → Prop} {n h0 i0 m : Int} (h : m = cbS P n h0 i0) (hi : 0 ≤ i0) (hp : ¬ P i0 h0) : m = cbS P n h0 (i0 + 1) := by
  unfold cbS at *
  rw [sumZ_succ hi, bi_0 hp]; omega
theorem CB_yes {P : Int → Int → Prop} {n h0 i0 m : Int} (h : m = cbS P n h0 i0) (hi : 0 ≤ i0) (hp : P i0 h0) : m + 1 = cbS P n h0 (i0 + 1) := by
  unfold cbS at *
  rw [sumZ_succ hi, bi_1 hp]; omega
theorem CB_row {P : Int → Int → Prop} {n h0 i0 m : Int} (h : m = cbS P n h0 i0) (hh : 1 ≤ h0) (h1 : 0 ≤ i0) (h2 : i0 ≤ n) (hp : ∀ x, i0 ≤ x → ¬ P x h0) : m = cbS P n (h0 + 1) 0 := by
  rw [h]
  unfold cbS
  rw [sumZ_succ hh, sumZ_nil (a := 0) (b := 0) (by omega)]
  have e : sumZ (fun i => bi (P i h0)) 0 i0 = colS P n h0 := sumZ_widen (Int.le_refl _) h2 (fun x g1 g2 g3 => bi_0 (hp x (by omega)))
  rw [← e]
  omega
theorem CB_end {P : Int → Int → Prop} {n h0 m : Int} (h : m = cbS P n h0 0) (h1 : 1 ≤ h0) (h2 : h0 ≤ n + 1) (hP : ∀ i h, P i h → h < h0) : m = dsum P n := by
  rw [h]
  unfold cbS
  rw [sumZ_nil (a := 0) (b := 0) (by omega)]
  have e : sumZ (colS P n) 1 h0 = sumZ (colS P n) 1 (n + 1) := sumZ_widen (Int.le_refl _) h2 (fun x g1 g2 g3 => sumZ_zero (fun i _ _ => bi_0 (fun z => by have := hP i x z; omega)))
  rw [e]
  have e2 : sumZ (colS P n) 1 (n + 1) = dsum P n := (sumZ_swap (f := fun i h => bi (P i h))).symm
  rw [e2]
  omega
theorem CB_in {P : Int → Int → Prop} {n h0 i0 m : Int} (h : m = cbS P n h0 i0) (hn : 0 ≤ n) (hn2 : n ≤ 120) (hi : i0 ≤ n) (hh : h0 ≤ n + 1) : 0 ≤ m ∧ m ≤ 20000 := by
  have h1 := sumZ_le (f := colS P n) (c := 120) (a := 1) (b := h0) (by omega) (fun x _ _ => by
    have := sumZ_le (f := fun i => bi (P i x)) (c := 1) (a := 0) (b := n) (by omega) (fun y _ _ => bi_in _)
    unfold colS
    omega)
  have h2 := sumZ_le (f := fun i => bi (P i h0)) (c := 1) (a := 0) (b := i0) (by omega) (fun x _ _ => bi_in _)
  unfold cbS at h
  omega
/-- falling measures: the first that is found -/
theorem TL_top {c h0 i0 : Int} {P : Int → Int → Prop} (hc : c = 1 ∨ c = 2) (h1 : ∀ i h, P i h → h < h0 ∨ (h = h0 ∧ i0 ≤ i)) (hh : 1 ≤ h0) (hp : P i0 h0) : TL c P (c * h0) i0 := by
  refine ⟨fun i h hs => ?_, Or.inr ⟨h0, rfl, hh, hp⟩⟩
  have := h1 i h hs
  rcases hc with rfl | rfl <;> omega
theorem TL_none {c : Int} {P : Int → Int → Prop} (h : ∀ i h, ¬ P i h) : TL c P 0 (-2) := ⟨fun i x hs => absurd hs (h i x), Or.inl ⟨rfl, rfl⟩⟩
def sqP (w : Int → Int) (n i h : Int) : Prop := 0 ≤ i ∧ 1 ≤ h ∧ i + 2 * h ≤ n ∧ eqs w i (i + h) h
def cuP (w : Int → Int) (n i h : Int) : Prop := 0 ≤ i ∧ 1 ≤ h ∧ i + 3 * h ≤ n ∧ eqs w i (i + h) (2 * h)
def nuP (w : Int → Int) (n i h : Int) : Prop := sqP w n i h ∧ ¬ isE w i (2 * h)
def rtP (w : Int → Int) (n i h : Int) : Prop := nuP w n i h ∧ leastIs (isRt w i (i + h)) 1 h
theorem cu_sq {w : Int → Int} {n i h : Int} (z : cuP w n i h) : sqP w n i h := ⟨z.1, z.2.1, by have := z.2.1; have := z.2.2.1; omega, eqs_mono z.2.2.2 (by have := z.2.1; omega)⟩
def RSq (w : Int → Int) (n a r : Int) : Prop := gd (0 ≤ a ∧ a ≤ 5) (-1) r (∃ l f, TL 2 (sqP w n) l f ∧ r = (if a = 0 then dsum (sqP w n) n else if a = 1 then dsum (nuP w n) n else if a = 2 then dsum (rtP w n) n else if a = 3 then dsum (cuP w n) n else if a = 4 then l else f))
theorem RSq_u {w : Int → Int} {n a r r' : Int} (h : RSq w n a r) (h' : RSq w n a r') : r = r' := by
  refine gd_uniq h h' (fun _ ⟨l, f, h2, h3⟩ ⟨l', f', g2, g3⟩ => ?_)
  obtain ⟨e1, e2⟩ := TL_uniq (Or.inr rfl) (fun _ _ z => ⟨z.1, z.2.1⟩) h2 g2
  rw [h3, g3, e1, e2]
def S_Rp_squareAnswer : GS := fun as σ K => match as with
  | [some (.inr (.inr (4, 0))), some (.inl a1)] => TwC σ ∧ ∀ σ' r, RQ σ σ' → RSq (cW σ) (σ 501 0 0) a1 r → K (vI r) σ'
  | _ => False
abbrev Lp_Rp_squareAnswer_11 (a1 : Int) (σ0 : SS) (n : Nat) (L : List AV) (σ : SS) : Prop := ∃ (v2 : Int) (v3 : Int) (v4 : Int) (v5 : Int), L = [vR 4 0, vI a1, vI v2, vI v3, vI v4, vI v5, none, none] ∧ n = (((σ0 501 0 0) + 1 - v5) * 1000).toNat ∧ ((RQ σ0 σ) ∧ (1 ≤ v5) ∧ (v5 ≤ (σ0 501 0 0) + 1) ∧ (TB 2 (sqP (cW σ0) (σ0 501 0 0)) (σ0 501 0 0) v5 0 (σ 380 0 0) (σ 381 0 0) (σ 382 0 0)) ∧ (v2 = cbS (nuP (cW σ0) (σ0 501 0 0)) (σ0 501 0 0) v5 0) ∧ (v3 = cbS (rtP (cW σ0) (σ0 501 0 0)) (σ0 501 0 0) v5 0) ∧ (v4 = cbS (cuP (cW σ0) (σ0 501 0 0)) (σ0 501 0 0) v5 0))
abbrev Lp_Rp_squareAnswer_20 (a1 : Int) (σ0 : SS) (n : Nat) (L : List AV) (σ : SS) : Prop := ∃ (v2 : Int) (v3 : Int) (v4 : Int) (v5 : Int) (v6 : Int), L = [vR 4 0, vI a1, vI v2, vI v3, vI v4, vI v5, vI v6, none] ∧ n = (((σ0 501 0 0) + 1 - v5) * 1000 - 4 * v6 - 1).toNat ∧ ((RQ σ0 σ) ∧ (1 ≤ v5) ∧ (2 * v5 ≤ (σ0 501 0 0)) ∧ (0 ≤ v6) ∧ (v6 + 2 * v5 ≤ (σ0 501 0 0) + 1) ∧ (TB 2 (sqP (cW σ0) (σ0 501 0 0)) (σ0 501 0 0) v5 v6 (σ 380 0 0) (σ 381 0 0) (σ 382 0 0)) ∧ (v2 = cbS (nuP (cW σ0) (σ0 501 0 0)) (σ0 501 0 0) v5 v6) ∧ (v3 = cbS (rtP (cW σ0) (σ0 501 0 0)) (σ0 501 0 0) v5 v6) ∧ (v4 = cbS (cuP (cW σ0) (σ0 501 0 0)) (σ0 501 0 0) v5 v6))
abbrev Lp_Rp_squareAnswer_59 (a1 : Int) (σ0 : SS) (n : Nat) (L : List AV) (σ : SS) : Prop := ∃ (v2 : Int) (v3 : Int) (v4 : Int) (v5 : Int) (v6 : Int) (v7 : Int), L = [vR 4 0, vI a1, vI v2, vI v3, vI v4, vI v5, vI v6, vI v7] ∧ n = (((σ0 501 0 0) + 1 - v5) * 1000 - 4 * v6 - 2).toNat ∧ ((RQ σ0 σ) ∧ (1 ≤ v5) ∧ (2 * v5 ≤ (σ0 501 0 0)) ∧ (0 ≤ v6) ∧ (v6 + 2 * v5 ≤ (σ0 501 0 0)) ∧ (sqP (cW σ0) (σ0 501 0 0) v6 v5) ∧ (TB 2 (sqP (cW σ0) (σ0 501 0 0)) (σ0 501 0 0) v5 (v6 + 1) (σ 380 0 0) (σ 381 0 0) (σ 382 0 0)) ∧ (v2 = cbS (nuP (cW σ0) (σ0 501 0 0)) (σ0 501 0 0) v5 v6) ∧ (v3 = cbS (rtP (cW σ0) (σ0 501 0 0)) (σ0 501 0 0) v5 v6) ∧ (v4 = cbS (cuP (cW σ0) (σ0 501 0 0)) (σ0 501 0 0) v5 (v6 + 1)))
abbrev Lp_Rp_squareAnswer_83 (a1 : Int) (σ0 : SS) (n : Nat) (L : List AV) (σ : SS) : Prop := ∃ (v2 : Int) (v3 : Int) (v4 : Int) (v5 : Int) (v6 : Int) (v7 : Int), L = [vR 4 0, vI a1, vI v2, vI v3, vI v4, vI v5, vI v6, vI v7] ∧ n = (((σ0 501 0 0) + 1 - v5) * 1000 - 4 * v6 - 4).toNat ∧ ((RQ σ0 σ) ∧ (1 ≤ v5) ∧ (2 * v5 ≤ (σ0 501 0 0)) ∧ (0 ≤ v6) ∧ (v6 + 2 * v5 ≤ (σ0 501 0 0)) ∧ (TB 2 (sqP (cW σ0) (σ0 501 0 0)) (σ0 501 0 0) v5 (v6 + 1) (σ 380 0 0) (σ 381 0 0) (σ 382 0 0)) ∧ (v2 = cbS (nuP (cW σ0) (σ0 501 0 0)) (σ0 501 0 0) v5 (v6 + 1)) ∧ (v3 = cbS (rtP (cW σ0) (σ0 501 0 0)) (σ0 501 0 0) v5 (v6 + 1)) ∧ (v4 = cbS (cuP (cW σ0) (σ0 501 0 0)) (σ0 501 0 0) v5 (v6 + 1)))
def Iv_Rp_squareAnswer (a1 : Int) (σ0 : SS) (k : Nat) : Option (List Nat × (Nat → List AV → SS → Prop)) := match k with
  | 11 => some ([6, 7], Lp_Rp_squareAnswer_11 a1 σ0)
  | 20 => some ([7], Lp_Rp_squareAnswer_20 a1 σ0)
  | 59 => some ([], Lp_Rp_squareAnswer_59 a1 σ0)
  | 83 => some ([], Lp_Rp_squareAnswer_83 a1 σ0)
  | _ => none
def VE_Rp_squareAnswer (a1 : Int) (σ : SS) (K : AV → SS → Prop) : Prop :=
  (S_Ta_clear [vR 7 0] σ (kV fun σ1 =>
    (∃ n', Lp_Rp_squareAnswer_11 a1 σ n' [vR 4 0, vI a1, vI 0, vI 0, vI 0, vI 1, none, none] σ1)))
def VL_Rp_squareAnswer_11 (a1 : Int) (σ0 : SS) (K : AV → SS → Prop) (v2 : Int) (v3 : Int) (v4 : Int) (v5 : Int) (σ : SS) (n : Nat) : Prop :=
  (InR (2 * v5) ∧
  (S_Wo_size [vR 10 0] σ (kI fun r1 σ1 =>
    ((r1 < (2 * v5) →
      (((a1 = 0 →
        (S_Ta_told [vR 7 0, vI 0] σ1 (kI fun r2 σ2 =>
          (K (vI r2) σ2)))) ∧
      ((a1 = 1 →
        (K (vI v2) σ1)) ∧
      ((a1 = 2 →
        (K (vI v3) σ1)) ∧
      ((a1 = 3 →
        (K (vI v4) σ1)) ∧
      ((a1 = 4 →
        (S_Ta_told [vR 7 0, vI 1] σ1 (kI fun r3 σ3 =>
          (K (vI r3) σ3)))) ∧
      ((a1 = 5 →
        (S_Ta_told [vR 7 0, vI 2] σ1 (kI fun r4 σ4 =>
          (K (vI r4) σ4)))) ∧
      True)))))) ∧
      (a1 < 0 ∨ 5 < a1 →
        (K (vI (-1)) σ1)))) ∧
    ((2 * v5) ≤ r1 →
      (∃ n', n' < n ∧ Lp_Rp_squareAnswer_20 a1 σ0 n' [vR 4 0, vI a1, vI v2, vI v3, vI v4, vI v5, vI 0, none] σ1))))))
def VL_Rp_squareAnswer_20 (a1 : Int) (σ0 : SS) (K : AV → SS → Prop) (v2 : Int) (v3 : Int) (v4 : Int) (v5 : Int) (v6 : Int) (σ : SS) (n : Nat) : Prop :=
  (InR (2 * v5) ∧
  (InR (v6 + (2 * v5)) ∧
  (S_Wo_size [vR 10 0] σ (kI fun r1 σ1 =>
    ((r1 < (v6 + (2 * v5)) →
      (InR (v5 + 1) ∧
      (∃ n', n' < n ∧ Lp_Rp_squareAnswer_11 a1 σ0 n' [vR 4 0, vI a1, vI v2, vI v3, vI v4, vI (v5 + 1), none, none] σ1))) ∧
    ((v6 + (2 * v5)) ≤ r1 →
      (InR (v6 + v5) ∧
      (S_Tw_common [vR 8 0, vI v6, vI (v6 + v5)] σ1 (kI fun r2 σ2 =>
        ((v5 ≤ r2 →
          (InR (2 * v5) ∧
          (S_Ta_add [vR 7 0, vI v6, vI (2 * v5)] σ2 (kV fun σ3 =>
            (InR (2 * v5) ∧
            ((r2 < (2 * v5) →
              (InR (v4 + 0) ∧
              (∃ n', n' < n ∧ Lp_Rp_squareAnswer_59 a1 σ0 n' [vR 4 0, vI a1, vI v2, vI v3, vI (v4 + 0), vI v5, vI v6, vI r2] σ3))) ∧
            ((2 * v5) ≤ r2 →
              (InR (v4 + 1) ∧
              (∃ n', n' < n ∧ Lp_Rp_squareAnswer_59 a1 σ0 n' [vR 4 0, vI a1, vI v2, vI v3, vI (v4 + 1), vI v5, vI v6, vI r2] σ3))))))))) ∧
        (r2 < v5 →
          (∃ n', n' < n ∧ Lp_Rp_squareAnswer_83 a1 σ0 n' [vR 4 0, vI a1, vI v2, vI v3, vI v4, vI v5, vI v6, vI r2] σ2))))))))))))
def VL_Rp_squareAnswer_59 (a1 : Int) (σ0 : SS) (K : AV → SS → Prop) (v2 : Int) (v3 : Int) (v4 : Int) (v5 : Int) (v6 : Int) (v7 : Int) (σ : SS) (n : Nat) : Prop :=
  (InR (2 * v5) ∧
  (S_Tw_earlier [vR 8 0, vI v6] σ (kI fun r1 σ1 =>
    (((2 * v5) ≤ r1 →
      (∃ n', n' < n ∧ Lp_Rp_squareAnswer_83 a1 σ0 n' [vR 4 0, vI a1, vI v2, vI v3, vI v4, vI v5, vI v6, vI v7] σ1)) ∧
    (r1 < (2 * v5) →
      (InR (v2 + 1) ∧
      (InR (v6 + v5) ∧
      (S_Sh_rootSize [vR 6 0, vI v6, vI (v6 + v5)] σ1 (kI fun r2 σ2 =>
        ((r2 ≠ v5 →
          (InR (v3 + 0) ∧
          (∃ n', n' < n ∧ Lp_Rp_squareAnswer_83 a1 σ0 n' [vR 4 0, vI a1, vI (v2 + 1), vI (v3 + 0), vI v4, vI v5, vI v6, vI v7] σ2))) ∧
        (r2 = v5 →
          (InR (v3 + 1) ∧
          (∃ n', n' < n ∧ Lp_Rp_squareAnswer_83 a1 σ0 n' [vR 4 0, vI a1, vI (v2 + 1), vI (v3 + 1), vI v4, vI v5, vI v6, vI v7] σ2)))))))))))))
def VL_Rp_squareAnswer_83 (a1 : Int) (σ0 : SS) (K : AV → SS → Prop) (v2 : Int) (v3 : Int) (v4 : Int) (v5 : Int) (v6 : Int) (v7 : Int) (σ : SS) (n : Nat) : Prop :=
  (InR (v6 + 1) ∧
  (∃ n', n' < n ∧ Lp_Rp_squareAnswer_20 a1 σ0 n' [vR 4 0, vI a1, vI v2, vI v3, vI v4, vI v5, vI (v6 + 1), none] σ))
theorem l_Rp_squareAnswer_11 (a1 : Int) (σ0 : SS) (K : AV → SS → Prop) (ha1 : InR a1) (hs0 : okS σ0) (hG : S_Rp_squareAnswer [vR 4 0, vI a1] σ0 K) (v2 : Int) (v3 : Int) (v4 : Int) (v5 : Int) (σ : SS) (hv2 : InR v2) (hv3 : InR v3) (hv4 : InR v4) (hv5 : InR v5) (hs : okS σ) (n : Nat) (hn : n = (((σ0 501 0 0) + 1 - v5) * 1000).toNat) (hQ : (RQ σ0 σ) ∧ (1 ≤ v5) ∧ (v5 ≤ (σ0 501 0 0) + 1) ∧ (TB 2 (sqP (cW σ0) (σ0 501 0 0)) (σ0 501 0 0) v5 0 (σ 380 0 0) (σ 381 0 0) (σ 382 0 0)) ∧ (v2 = cbS (nuP (cW σ0) (σ0 501 0 0)) (σ0 501 0 0) v5 0) ∧ (v3 = cbS (rtP (cW σ0) (σ0 501 0 0)) (σ0 501 0 0) v5 0) ∧ (v4 = cbS (cuP (cW σ0) (σ0 501 0 0)) (σ0 501 0 0) v5 0)) : VL_Rp_squareAnswer_11 a1 σ0 K v2 v3 v4 v5 σ n := by
  unfold VL_Rp_squareAnswer_11
  obtain ⟨hT, hG⟩ := hG
  obtain ⟨q0, q1, q2, q3, q4, q5, q6⟩ := hQ
  have hb := hT.n
  obtain ⟨w1, w2⟩ := q0.w
  refine ⟨by omega, ?_⟩
  intro _ _
  refine ⟨fun h => ?_, fun h => ⟨_, ?_, _, _, _, _, _, rfl, rfl, q0, q1, by omega, by omega, by omega, q3, q4, q5, q6⟩⟩
  · obtain ⟨z1, z2⟩ := TB_end q3 q1 q2 (fun i h z => by have := z.2.2.1; have := z.1; omega)
    have z3 := CB_end q4 q1 q2 (fun i h z => by have := z.1.2.2.1; have := z.1.1; omega)
    have z4 := CB_end q5 q1 q2 (fun i h z => by have := z.1.1.2.2.1; have := z.1.1.1; omega)
    have z5 := CB_end q6 q1 q2 (fun i h z => by have := z.2.2.1; have := z.1; have := z.2.1; omega)
    have key : ∀ r, 0 ≤ a1 ∧ a1 ≤ 5 → r = (if a1 = 0 then dsum (sqP (cW σ0) (σ0 501 0 0)) (σ0 501 0 0) else if a1 = 1 then dsum (nuP (cW σ0) (σ0 501 0 0)) (σ0 501 0 0) else if a1 = 2 then dsum (rtP (cW σ0) (σ0 501 0 0)) (σ0 501 0 0) else if a1 = 3 then dsum (cuP (cW σ0) (σ0 501 0 0)) (σ0 501 0 0) else if a1 = 4 then (σ 381 0 0) else (σ 382 0 0)) → K (vI r) σ := fun r h1 h2 => hG σ r q0 (gd_y h1 ⟨_, _, z2, h2⟩)
    refine ⟨⟨fun h1 => ?_, fun h1 => key _ (by omega) ?_, fun h1 => key _ (by omega) ?_, fun h1 => key _ (by omega) ?_, fun h1 => ?_, fun h1 => ?_, True.intro⟩, fun h1 => hG σ _ q0 (gd_n (by omega))⟩
    · intro _ _
      refine key _ (by omega) ?_
      subst h1; exact z1
    · subst h1; exact z3
    · subst h1; exact z4
    · subst h1; exact z5
    · intro _ _
      refine key _ (by omega) ?_
      subst h1; rfl
    · intro _ _
      refine key _ (by omega) ?_
      subst h1; rfl
  · omega
theorem l_Rp_squareAnswer_20 (a1 : Int) (σ0 : SS) (K : AV → SS → Prop) (ha1 : InR a1) (hs0 : okS σ0) (hG : S_Rp_squareAnswer [vR 4 0, vI a1] σ0 K) (v2 : Int) (v3 : Int) (v4 : Int) (v5 : Int) (v6 : Int) (σ : SS) (hv2 : InR v2) (hv3 : InR v3) (hv4 : InR v4) (hv5 : InR v5) (hv6 : InR v6) (hs : okS σ) (n : Nat) (hn : n = (((σ0 501 0 0) + 1 - v5) * 1000 - 4 * v6 - 1).toNat) (hQ : (RQ σ0 σ) ∧ (1 ≤ v5) ∧ (2 * v5 ≤ (σ0 501 0 0)) ∧ (0 ≤ v6) ∧ (v6 + 2 * v5 ≤ (σ0 501 0 0) + 1) ∧ (TB 2 (sqP (cW σ0) (σ0 501 0 0)) (σ0 501 0 0) v5 v6 (σ 380 0 0) (σ 381 0 0) (σ 382 0 0)) ∧ (v2 = cbS (nuP (cW σ0) (σ0 501 0 0)) (σ0 501 0 0) v5 v6) ∧ (v3 = cbS (rtP (cW σ0) (σ0 501 0 0)) (σ0 501 0 0) v5 v6) ∧ (v4 = cbS (cuP (cW σ0) (σ0 501 0 0)) (σ0 501 0 0) v5 v6)) : VL_Rp_squareAnswer_20 a1 σ0 K v2 v3 v4 v5 v6 σ n := by
  unfold VL_Rp_squareAnswer_20
  obtain ⟨hT, hG⟩ := hG
  obtain ⟨q0, q1, q2, q3, q4, q5, q6, q7, q8⟩ := hQ
  have hb := hT.n
  obtain ⟨w1, w2⟩ := q0.w
  have hin := TB_in q5 hb.1 hb.2 (by omega) (by omega)
  have hc4 := CB_in q8 hb.1 hb.2 (by omega) (by omega)
  refine ⟨by omega, by omega, ?_⟩
  intro _ _
  refine ⟨fun h => ⟨by omega, _, ?_, _, _, _, _, rfl, rfl, q0, by omega, by omega, ?_, ?_, ?_, ?_⟩, fun h => ⟨by omega, q0.2, fun σ' hF hT' => ?_⟩⟩
  · omega
  · exact TB_row q5 q1 q3 (by omega) (fun x g1 z => by have := z.2.2.1; omega) (fun i h z => z.1)
  · exact CB_row q6 q1 q3 (by omega) (fun x g1 z => by have := z.1.2.2.1; omega)
  · exact CB_row q7 q1 q3 (by omega) (fun x g1 z => by have := z.1.1.2.2.1; omega)
  · exact CB_row q8 q1 q3 (by omega) (fun x g1 z => by have := (cu_sq z).2.2.1; omega)
  · rw [w1, w2]
    intro _ _
    have hc := fun L (hL : 0 ≤ L) => common_ge (w := cW σ0) (n := (σ0 501 0 0)) (i := v6) (j := v6 + v5) (L := L) (by omega) (by omega) (by omega) (by omega) hL
    have tq : TQ σ σ' := ⟨hF, hT'⟩
    obtain ⟨t1, t2, t3⟩ := tq.ta
    have q0' := q0.tr tq.R
    have hcu : cuP (cW σ0) (σ0 501 0 0) v6 v5 ↔ 2 * v5 ≤ lceR (cW σ0) (σ0 501 0 0) v6 (v6 + v5) := by
      rw [hc _ (by omega)]
      exact ⟨fun z => ⟨by have := z.2.2.1; omega, z.2.2.2⟩, fun z => ⟨q3, q1, by omega, z.2⟩⟩
    refine ⟨fun h2 => ⟨by omega, by omega, fun σ2 hF2 k1 k2 k3 => ?_⟩, fun h2 => ⟨_, ?_, _, _, _, _, _, _, rfl, rfl, q0', q1, q2, q3, by omega, ?_, ?_, ?_, ?_⟩⟩
    · have sq : sqP (cW σ0) (σ0 501 0 0) v6 v5 := ⟨q3, q1, by omega, ((hc _ (by omega)).mp h2).2⟩
      have ty := TB_yes (Or.inr rfl) q5 q3 q1 sq
      intro _
      refine ⟨by omega, fun h3 => ⟨by omega, _, ?_, _, _, _, _, _, _, rfl, rfl, q0'.tr (TaQ hT' hF2), q1, q2, q3, by omega, sq, ?_, q6, q7, ?_⟩, fun h3 => ⟨by omega, _, ?_, _, _, _, _, _, _, rfl, rfl, q0'.tr (TaQ hT' hF2), q1, q2, q3, by omega, sq, ?_, q6, q7, ?_⟩⟩
      · omega
      · rw [k1, k2, k3, t1, t2, t3]; exact ty
      · rw [Int.add_zero]; exact CB_no q8 q3 (fun z => by have := hcu.mp z; omega)
      · omega
      · rw [k1, k2, k3, t1, t2, t3]; exact ty
      · exact CB_yes q8 q3 (hcu.mpr h3)
    · omega
    · have nsq : ¬ sqP (cW σ0) (σ0 501 0 0) v6 v5 := fun z => by have := (hc v5 (by omega)).mpr ⟨by omega, z.2.2.2⟩; omega
      rw [t1, t2, t3]
      exact TB_no q5 q3 nsq
    · exact CB_no q6 q3 (fun z => by have := (hc v5 (by omega)).mpr ⟨by omega, z.1.2.2.2⟩; omega)
    · exact CB_no q7 q3 (fun z => by have := (hc v5 (by omega)).mpr ⟨by omega, z.1.1.2.2.2⟩; omega)
    · exact CB_no q8 q3 (fun z => by have := (hc v5 (by omega)).mpr ⟨by omega, (cu_sq z).2.2.2⟩; omega)
theorem l_Rp_squareAnswer_59 (a1 : Int) (σ0 : SS) (K : AV → SS → Prop) (ha1 : InR a1) (hs0 : okS σ0) (hG : S_Rp_squareAnswer [vR 4 0, vI a1] σ0 K) (v2 : Int) (v3 : Int) (v4 : Int) (v5 : Int) (v6 : Int) (v7 : Int) (σ : SS) (hv2 : InR v2) (hv3 : InR v3) (hv4 : InR v4) (hv5 : InR v5) (hv6 : InR v6) (hv7 : InR v7) (hs : okS σ) (n : Nat) (hn : n = (((σ0 501 0 0) + 1 - v5) * 1000 - 4 * v6 - 2).toNat) (hQ : (RQ σ0 σ) ∧ (1 ≤ v5) ∧ (2 * v5 ≤ (σ0 501 0 0)) ∧ (0 ≤ v6) ∧ (v6 + 2 * v5 ≤ (σ0 501 0 0)) ∧ (sqP (cW σ0) (σ0 501 0 0) v6 v5) ∧ (TB 2 (sqP (cW σ0) (σ0 501 0 0)) (σ0 501 0 0) v5 (v6 + 1) (σ 380 0 0) (σ 381 0 0) (σ 382 0 0)) ∧ (v2 = cbS (nuP (cW σ0) (σ0 501 0 0)) (σ0 501 0 0) v5 v6) ∧ (v3 = cbS (rtP (cW σ0) (σ0 501 0 0)) (σ0 501 0 0) v5 v6) ∧ (v4 = cbS (cuP (cW σ0) (σ0 501 0 0)) (σ0 501 0 0) v5 (v6 + 1))) : VL_Rp_squareAnswer_59 a1 σ0 K v2 v3 v4 v5 v6 v7 σ n := by
  unfold VL_Rp_squareAnswer_59
  obtain ⟨hT, hG⟩ := hG
  obtain ⟨q0, q1, q2, q3, q4, sq, q5, q6, q7, q8⟩ := hQ
  have hb := hT.n
  obtain ⟨w1, w2⟩ := q0.w
  have hc2 := CB_in q6 hb.1 hb.2 (by omega) (by omega)
  have hc3 := CB_in q7 hb.1 hb.2 (by omega) (by omega)
  refine ⟨by omega, q0.2, fun σ' hF hT' => ?_⟩
  have tq : TQ σ σ' := ⟨hF, hT'⟩
  obtain ⟨t1, t2, t3⟩ := tq.ta
  have q0' := q0.tr tq.R
  obtain ⟨w1', w2'⟩ := q0'.w
  rw [w1, w2]
  intro _ _
  have he : earlR (cW σ0) (σ0 501 0 0) v6 = earl (cW σ0) (σ0 501 0 0) v6 := if_pos (by omega)
  have hE := le_earl (cW σ0) (n := (σ0 501 0 0)) (p := v6) (L := 2 * v5) (by omega) (by omega)
  rw [he]
  refine ⟨fun h2 => ⟨_, ?_, _, _, _, _, _, _, rfl, rfl, q0', q1, q2, q3, q4, ?_, ?_, ?_, q8⟩, fun h2 => ⟨by omega, by omega, ⟨hT', by omega⟩, fun σ2 r tq2 hr1 hr2 => ?_⟩⟩
  · omega
  · rw [t1, t2, t3]; exact q5
  · exact CB_no q6 q3 (fun z => z.2 (hE.mp h2).2)
  · exact CB_no q7 q3 (fun z => z.1.2 (hE.mp h2).2)
  · intro _ _
    obtain ⟨s1, s2, s3⟩ := tq2.ta
    rw [w1'] at hr1
    have nu : nuP (cW σ0) (σ0 501 0 0) v6 v5 := ⟨sq, fun z => by have := hE.mpr ⟨q4, z⟩; omega⟩
    refine ⟨fun h3 => ⟨by omega, _, ?_, _, _, _, _, _, _, rfl, rfl, q0'.tr tq2.R, q1, q2, q3, q4, ?_, CB_yes q6 q3 nu, ?_, q8⟩, fun h3 => ⟨by omega, _, ?_, _, _, _, _, _, _, rfl, rfl, q0'.tr tq2.R, q1, q2, q3, q4, ?_, CB_yes q6 q3 nu, CB_yes q7 q3 ⟨nu, ?_⟩, q8⟩⟩
    · omega
    · rw [s1, s2, s3, t1, t2, t3]; exact q5
    · rw [Int.add_zero]; exact CB_no q7 q3 (fun z => h3 (leastIs_uniq hr1 z.2))
    · omega
    · rw [s1, s2, s3, t1, t2, t3]; exact q5
    · exact h3 ▸ hr1
theorem l_Rp_squareAnswer_83 (a1 : Int) (σ0 : SS) (K : AV → SS → Prop) (ha1 : InR a1) (hs0 : okS σ0) (hG : S_Rp_squareAnswer [vR 4 0, vI a1] σ0 K) (v2 : Int) (v3 : Int) (v4 : Int) (v5 : Int) (v6 : Int) (v7 : Int) (σ : SS) (hv2 : InR v2) (hv3 : InR v3) (hv4 : InR v4) (hv5 : InR v5) (hv6 : InR v6) (hv7 : InR v7) (hs : okS σ) (n : Nat) (hn : n = (((σ0 501 0 0) + 1 - v5) * 1000 - 4 * v6 - 4).toNat) (hQ : (RQ σ0 σ) ∧ (1 ≤ v5) ∧ (2 * v5 ≤ (σ0 501 0 0)) ∧ (0 ≤ v6) ∧ (v6 + 2 * v5 ≤ (σ0 501 0 0)) ∧ (TB 2 (sqP (cW σ0) (σ0 501 0 0)) (σ0 501 0 0) v5 (v6 + 1) (σ 380 0 0) (σ 381 0 0) (σ 382 0 0)) ∧ (v2 = cbS (nuP (cW σ0) (σ0 501 0 0)) (σ0 501 0 0) v5 (v6 + 1)) ∧ (v3 = cbS (rtP (cW σ0) (σ0 501 0 0)) (σ0 501 0 0) v5 (v6 + 1)) ∧ (v4 = cbS (cuP (cW σ0) (σ0 501 0 0)) (σ0 501 0 0) v5 (v6 + 1))) : VL_Rp_squareAnswer_83 a1 σ0 K v2 v3 v4 v5 v6 v7 σ n := by
  unfold VL_Rp_squareAnswer_83
  obtain ⟨hT, hG⟩ := hG
  obtain ⟨q0, q1, q2, q3, q4, q5, q6, q7, q8⟩ := hQ
  have hb := hT.n
  refine ⟨by omega, _, ?_, _, _, _, _, _, rfl, rfl, q0, q1, q2, by omega, by omega, q5, q6, q7, q8⟩
  omega
theorem e_Rp_squareAnswer (a1 : Int) (σ : SS) (K : AV → SS → Prop) (ha1 : InR a1) (hs : okS σ) (hG : S_Rp_squareAnswer [vR 4 0, vI a1] σ K) : VE_Rp_squareAnswer a1 σ K := by
  unfold VE_Rp_squareAnswer
  obtain ⟨hT, hG⟩ := hG
  intro σ' hF e1 e2 e3 _
  have hb := hT.n
  refine ⟨_, _, _, _, _, rfl, rfl, TaQ hT hF, by omega, by omega, ?_, CB_0.symm, CB_0.symm, CB_0.symm⟩
  rw [e1, e2, e3]
  exact TB_0 (fun i h z => ⟨z.1, z.2.1⟩)
theorem H_Rp_squareAnswer {d : Nat} (hd : 5 ≤ d) : Holds d I_Rp_squareAnswer S_Rp_squareAnswer := by
  refine holds_of (d' := d - 1) (rt := 1) (cal := [(I_Ta_clear, S_Ta_clear), (I_Wo_size, S_Wo_size), (I_Tw_common, S_Tw_common), (I_Ta_add, S_Ta_add), (I_Tw_earlier, S_Tw_earlier), (I_Sh_rootSize, S_Sh_rootSize), (I_Ta_told, S_Ta_told)]) (C := C_Rp_squareAnswer) m_Rp_squareAnswer o_Rp_squareAnswer rfl rfl (by omega) ?_ ?_
  · intro x hx
    simp only [List.mem_cons, List.not_mem_nil, or_false] at hx
    rcases hx with rfl | rfl | rfl | rfl | rfl | rfl | rfl
    · exact H_Ta_clear (by omega)
    · exact H_Wo_size (by omega)
    · exact H_Tw_common (by omega)
    · exact H_Ta_add (by omega)
    · exact H_Tw_earlier (by omega)
    · exact H_Sh_rootSize (by omega)
    · exact H_Ta_told (by omega)
  · intro as σ K has hσ hG
    have hG2 := hG
    unfold S_Rp_squareAnswer at hG2
    split at hG2
    · next a1 =>
      refine ⟨Nat.le_of_ble_eq_true rfl, (Iv_Rp_squareAnswer a1 σ), ?_, 1000, ?_⟩
      · intro k n z L σ' hk hL hs hP
        unfold Iv_Rp_squareAnswer at hk
        split at hk
        · cases hk
          obtain ⟨v2, v3, v4, v5, rfl, hn, hQ⟩ := hP
          exact ⟨1000, l_Rp_squareAnswer_11 a1 σ K (has _ (List.mem_of_getElem? (i := 1) rfl)) hσ hG v2 v3 v4 v5 σ' (hL _ (List.mem_of_getElem? (i := 2) rfl)) (hL _ (List.mem_of_getElem? (i := 3) rfl)) (hL _ (List.mem_of_getElem? (i := 4) rfl)) (hL _ (List.mem_of_getElem? (i := 5) rfl)) hs n hn hQ⟩
        · cases hk
          obtain ⟨v2, v3, v4, v5, v6, rfl, hn, hQ⟩ := hP
          exact ⟨1000, l_Rp_squareAnswer_20 a1 σ K (has _ (List.mem_of_getElem? (i := 1) rfl)) hσ hG v2 v3 v4 v5 v6 σ' (hL _ (List.mem_of_getElem? (i := 2) rfl)) (hL _ (List.mem_of_getElem? (i := 3) rfl)) (hL _ (List.mem_of_getElem? (i := 4) rfl)) (hL _ (List.mem_of_getElem? (i := 5) rfl)) (hL _ (List.mem_of_getElem? (i := 6) rfl)) hs n hn hQ⟩
        · cases hk
          obtain ⟨v2, v3, v4, v5, v6, v7, rfl, hn, hQ⟩ := hP
          exact ⟨1000, l_Rp_squareAnswer_59 a1 σ K (has _ (List.mem_of_getElem? (i := 1) rfl)) hσ hG v2 v3 v4 v5 v6 v7 σ' (hL _ (List.mem_of_getElem? (i := 2) rfl)) (hL _ (List.mem_of_getElem? (i := 3) rfl)) (hL _ (List.mem_of_getElem? (i := 4) rfl)) (hL _ (List.mem_of_getElem? (i := 5) rfl)) (hL _ (List.mem_of_getElem? (i := 6) rfl)) (hL _ (List.mem_of_getElem? (i := 7) rfl)) hs n hn hQ⟩
        · cases hk
          obtain ⟨v2, v3, v4, v5, v6, v7, rfl, hn, hQ⟩ := hP
          exact ⟨1000, l_Rp_squareAnswer_83 a1 σ K (has _ (List.mem_of_getElem? (i := 1) rfl)) hσ hG v2 v3 v4 v5 v6 v7 σ' (hL _ (List.mem_of_getElem? (i := 2) rfl)) (hL _ (List.mem_of_getElem? (i := 3) rfl)) (hL _ (List.mem_of_getElem? (i := 4) rfl)) (hL _ (List.mem_of_getElem? (i := 5) rfl)) (hL _ (List.mem_of_getElem? (i := 6) rfl)) (hL _ (List.mem_of_getElem? (i := 7) rfl)) hs n hn hQ⟩
        · cases hk
      · exact e_Rp_squareAnswer a1 σ K (has _ (List.mem_of_getElem? (i := 1) rfl)) hσ hG
    · exact hG2.elim
def S_Wr_squares : GS := fun as σ K => match as with
  | [some (.inr (.inr (11, 0))), some (.inl a1)] => TwC σ ∧ ∀ σ' r, RQ σ σ' → RSq (cW σ) (σ 501 0 0) a1 r → K (vI r) σ'
  | _ => False
def VE_Wr_squares (a1 : Int) (σ : SS) (K : AV → SS → Prop) : Prop :=
  (S_Rp_squareAnswer [vR 4 0, vI a1] σ (kI fun r1 σ1 =>
    (K (vI r1) σ1)))
theorem e_Wr_squares (a1 : Int) (σ : SS) (K : AV → SS → Prop) (ha1 : InR a1) (hs : okS σ) (hG : S_Wr_squares [vR 11 0, vI a1] σ K) : VE_Wr_squares a1 σ K := by
  unfold VE_Wr_squares
  obtain ⟨hT, hG⟩ := hG
  refine ⟨hT, fun σ' r hq hr => ?_⟩
  intro _ _
  exact hG σ' r hq hr
theorem H_Wr_squares {d : Nat} (hd : 6 ≤ d) : Holds d I_Wr_squares S_Wr_squares := by
  refine holds_of (d' := d - 1) (rt := 1) (cal := [(I_Rp_squareAnswer, S_Rp_squareAnswer)]) (C := C_Wr_squares) m_Wr_squares o_Wr_squares rfl rfl (by omega) ?_ ?_
  · intro x hx
    simp only [List.mem_cons, List.not_mem_nil, or_false] at hx
    subst hx
    exact H_Rp_squareAnswer (by omega)
  · intro as σ K has hσ hG
    have hG2 := hG
    unfold S_Wr_squares at hG2
    split at hG2
    · next a1 =>
      refine ⟨Nat.le_of_ble_eq_true rfl, (fun _ => none), ?_, 1000, ?_⟩
      · intro k n z L σ' hk hL hs hP
        cases hk
      · exact e_Wr_squares a1 σ K (has _ (List.mem_of_getElem? (i := 1) rfl)) hσ hG
    · exact hG2.elim
