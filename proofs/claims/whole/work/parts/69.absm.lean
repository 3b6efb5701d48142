/-! the reference: words that are absent -/
theorem absG_n {w : Int → Int} {n i L : Int} (h : n ≤ L) : absG w n i L = 0 := by
  by_cases hg : abG w n i L
  · unfold absG
    rw [iT_y hg]
    refine sumZ_zero (fun a _ _ => cntZ_zero.mpr (fun b _ _ z => ?_))
    obtain ⟨⟨x, x1, x2, x3, _⟩, _⟩ := z
    have := hg.2.2.1
    omega
  · exact absG_0 hg
def twoP (w : Int → Int) (n a b : Int) : Prop := botU w n 0 0 (n + 1) a b
noncomputable def twR (w : Int → Int) (n a k : Int) : Int := sumZ (fun y => iT (fstP w y) (bi (¬ twoP w n a (w y)))) 0 k
theorem absM_0 {w : Int → Int} {n : Int} (hn : 0 ≤ n) (hw : ∀ x, 0 ≤ x → x < n → 0 ≤ w x ∧ w x < 26) : absM w n 0 0 = sumZ (fun x => iT (fstP w x) (twR w n (w x) n)) 0 n := by
  rw [fst_sum (f := fun a => twR w n a n) hn hw]
  refine sumZ_congr (fun a _ _ => ?_)
  have et : n - 0 + 1 = n + 1 := by omega
  have ea : ahdU w n 0 0 (n + 1) a ↔ occ w n a :=
    ⟨fun ⟨x, x1, x2, x3, x4, x5⟩ => ⟨x - 1, by omega, by omega, x5⟩, fun ⟨y, y0, y1, y2⟩ => ⟨y + 1, by omega, by omega, by omega, eqs_0 (Int.le_refl _), by rw [← y2]; congr 1; omega⟩⟩
  have eb : ∀ b, behU w n 0 0 (n + 1) b ↔ occ w n b := fun b =>
    ⟨fun ⟨x, x1, x2, x3, x4, x5⟩ => ⟨x, by omega, by omega, by rw [← x5]; congr 1; omega⟩, fun ⟨y, y0, y1, y2⟩ => ⟨y, by omega, by omega, by omega, eqs_0 (Int.le_refl _), by rw [← y2]; congr 1; omega⟩⟩
  by_cases h : occ w n a
  · rw [iT_y h]
    have := fst_sum (w := w) (f := fun b => bi (¬ twoP w n a b)) hn hw
    unfold twR
    rw [this]
    refine sumZ_congr (fun b _ _ => ?_)
    by_cases g : occ w n b
    · rw [iT_y g]
      refine bi_congr ?_
      unfold inP twoP
      rw [et]
      exact ⟨fun z => z.2.2, fun z => ⟨ea.mpr h, (eb b).mpr g, z⟩⟩
    · rw [iT_n g]
      exact bi_0 (fun z => g ((eb b).mp (by rw [← et]; exact z.2.1)))
  · rw [iT_n h]
    exact cntZ_zero.mpr (fun b _ _ z => h (ea.mp (by rw [← et]; exact z.1)))
theorem twR_in {w : Int → Int} {n a k : Int} : 0 ≤ twR w n a k ∧ twR w n a k ≤ max 0 k := by
  have := sumZ_le (f := fun y => iT (fstP w y) (bi (¬ twoP w n a (w y)))) (c := 1) (a := 0) (b := k) (by omega) (fun x _ _ => iT_in (bi_in _))
  unfold twR
  omega
def S_Mo_isTwo : GS := fun as σ K => match as with
  | [some (.inr (.inr (12, 0))), some (.inl a1), some (.inl a2)] => MoW σ ∧ bS (twoP (mW σ) (σ 40 0 0) a1 a2) K σ
  | _ => False
abbrev Lp_Mo_isTwo_2 (a1 : Int) (a2 : Int) (σ0 : SS) (n : Nat) (L : List AV) (σ : SS) : Prop := ∃ (v3 : Int), L = [vR 12 0, vI a1, vI a2, vI v3] ∧ n = (1000 - v3).toNat ∧ ((σ = σ0) ∧ (0 ≤ v3) ∧ (v3 ≤ (σ0 40 0 0)) ∧ (∀ x, 1 ≤ x → x ≤ v3 → ¬ (mW σ0 (x - 1) = a1 ∧ mW σ0 x = a2)))
def Iv_Mo_isTwo (a1 : Int) (a2 : Int) (σ0 : SS) (k : Nat) : Option (List Nat × (Nat → List AV → SS → Prop)) := match k with
  | 2 => some ([], Lp_Mo_isTwo_2 a1 a2 σ0)
  | _ => none
def VE_Mo_isTwo (a1 : Int) (a2 : Int) (σ : SS) (K : AV → SS → Prop) : Prop :=
  (∃ n', Lp_Mo_isTwo_2 a1 a2 σ n' [vR 12 0, vI a1, vI a2, vI 0] σ)
def VL_Mo_isTwo_2 (a1 : Int) (a2 : Int) (σ0 : SS) (K : AV → SS → Prop) (v3 : Int) (σ : SS) (n : Nat) : Prop :=
  (InR (v3 + 1) ∧
  (S_Mo_size [vR 12 0] σ (kI fun r1 σ1 =>
    ((r1 ≤ (v3 + 1) →
      ((0 ≤ (0 : Int) ∧ (0 : Int) ≤ 1) ∧ K (vI 0) σ1)) ∧
    ((v3 + 1) < r1 →
      (S_Mo_at [vR 12 0, vI v3] σ1 (kI fun r2 σ2 =>
        ((r2 ≠ a1 →
          (InR (v3 + 1) ∧
          (∃ n', n' < n ∧ Lp_Mo_isTwo_2 a1 a2 σ0 n' [vR 12 0, vI a1, vI a2, vI (v3 + 1)] σ2))) ∧
        (r2 = a1 →
          (InR (v3 + 1) ∧
          (S_Mo_at [vR 12 0, vI (v3 + 1)] σ2 (kI fun r3 σ3 =>
            ((r3 ≠ a2 →
              (InR (v3 + 1) ∧
              (∃ n', n' < n ∧ Lp_Mo_isTwo_2 a1 a2 σ0 n' [vR 12 0, vI a1, vI a2, vI (v3 + 1)] σ3))) ∧
            (r3 = a2 →
              ((0 ≤ (1 : Int) ∧ (1 : Int) ≤ 1) ∧ K (vI 1) σ3)))))))))))))))
theorem l_Mo_isTwo_2 (a1 : Int) (a2 : Int) (σ0 : SS) (K : AV → SS → Prop) (ha1 : InR a1) (ha2 : InR a2) (hs0 : okS σ0) (hG : S_Mo_isTwo [vR 12 0, vI a1, vI a2] σ0 K) (v3 : Int) (σ : SS) (hv3 : InR v3) (hs : okS σ) (n : Nat) (hn : n = (1000 - v3).toNat) (hQ : (σ = σ0) ∧ (0 ≤ v3) ∧ (v3 ≤ (σ0 40 0 0)) ∧ (∀ x, 1 ≤ x → x ≤ v3 → ¬ (mW σ0 (x - 1) = a1 ∧ mW σ0 x = a2))) : VL_Mo_isTwo_2 a1 a2 σ0 K v3 σ n := by
  unfold VL_Mo_isTwo_2
  obtain ⟨hM, hG⟩ := hG
  have hb := hM.n
  obtain ⟨rfl, q1, q2, q3⟩ := hQ
  refine ⟨(by omega), ?_⟩
  intro _ _
  refine ⟨fun c1 => ?_, fun c1 => ?_⟩
  · skip
    exact bS_n hG (fun ⟨x, x1, x2, x3, x4, x5, x6⟩ => q3 x x1 (by omega) ⟨x5, by rw [← x6]; congr 1; omega⟩)
  · skip
    refine ⟨(by first | assumption | omega | exact ⟨by first | assumption | omega, by omega⟩ | exact ⟨by assumption, by omega, by omega⟩ | exact ⟨by assumption, by omega, by omega, by omega⟩ | exact ⟨by assumption, by omega, by omega, by omega, by omega⟩ | exact ⟨by assumption, by omega, by omega, by omega, by omega, by omega⟩), ?_⟩
    intro _ _
    refine ⟨fun c2 => ?_, fun c2 => ?_⟩
    · skip
      refine ⟨(by omega), ?_⟩
      refine ⟨_, ?_, _, rfl, rfl, ?_⟩
      · omega
      · refine ⟨?_, ?_, ?_, ?_⟩
        · first | rfl | assumption | omega
        · first | rfl | assumption | omega
        · first | rfl | assumption | omega
        · intro x x1 x2 x3
          rcases (by omega : x ≤ v3 ∨ x = v3 + 1) with z | rfl
          · exact q3 x x1 z x3
          · have e : v3 + 1 - 1 = v3 := by omega
            rw [e] at x3
            first | exact c2 x3.1 | exact c3 x3.2
    · skip
      refine ⟨(by omega), ?_⟩
      refine ⟨(by first | assumption | omega | exact ⟨by first | assumption | omega, by omega⟩ | exact ⟨by assumption, by omega, by omega⟩ | exact ⟨by assumption, by omega, by omega, by omega⟩ | exact ⟨by assumption, by omega, by omega, by omega, by omega⟩ | exact ⟨by assumption, by omega, by omega, by omega, by omega, by omega⟩), ?_⟩
      intro _ _
      refine ⟨fun c3 => ?_, fun c3 => ?_⟩
      · skip
        refine ⟨(by omega), ?_⟩
        refine ⟨_, ?_, _, rfl, rfl, ?_⟩
        · omega
        · refine ⟨?_, ?_, ?_, ?_⟩
          · first | rfl | assumption | omega
          · first | rfl | assumption | omega
          · first | rfl | assumption | omega
          · intro x x1 x2 x3
            rcases (by omega : x ≤ v3 ∨ x = v3 + 1) with z | rfl
            · exact q3 x x1 z x3
            · have e : v3 + 1 - 1 = v3 := by omega
              rw [e] at x3
              first | exact c2 x3.1 | exact c3 x3.2
      · skip
        exact bS_y hG ⟨v3 + 1, by omega, by omega, by omega, eqs_0 (Int.le_refl _), by rw [← c2]; congr 1; omega, by rw [← c3]; congr 1; omega⟩
theorem e_Mo_isTwo (a1 : Int) (a2 : Int) (σ : SS) (K : AV → SS → Prop) (ha1 : InR a1) (ha2 : InR a2) (hs : okS σ) (hG : S_Mo_isTwo [vR 12 0, vI a1, vI a2] σ K) : VE_Mo_isTwo a1 a2 σ K := by
  unfold VE_Mo_isTwo
  obtain ⟨hM, hG⟩ := hG
  have hb := hM.n
  refine ⟨_, _, rfl, rfl, ?_⟩
  refine ⟨?_, ?_, ?_, ?_⟩
  · first | rfl | assumption | omega
  · first | rfl | assumption | omega
  · first | rfl | assumption | omega
  · exact fun x x1 x2 => by omega
theorem H_Mo_isTwo {d : Nat} (hd : 2 ≤ d) : Holds d I_Mo_isTwo S_Mo_isTwo := by
  refine holds_of (d' := d - 1) (rt := 2) (cal := [(I_Mo_size, S_Mo_size), (I_Mo_at, S_Mo_at)]) (C := C_Mo_isTwo) m_Mo_isTwo o_Mo_isTwo rfl rfl (by omega) ?_ ?_
  · intro x hx
    simp only [List.mem_cons, List.not_mem_nil, or_false] at hx
    rcases hx with rfl | rfl
    · exact H_Mo_size (by omega)
    · exact H_Mo_at (by omega)
  · intro as σ K has hσ hG
    have hG2 := hG
    unfold S_Mo_isTwo at hG2
    split at hG2
    · next a1 a2 =>
      refine ⟨Nat.le_of_ble_eq_true rfl, (Iv_Mo_isTwo a1 a2 σ), ?_, 1000, ?_⟩
      · intro k n z L σ' hk hL hs hP
        unfold Iv_Mo_isTwo at hk
        split at hk
        · cases hk
          obtain ⟨v3, rfl, hn, hQ⟩ := hP
          exact ⟨1000, l_Mo_isTwo_2 a1 a2 σ K (has _ (List.mem_of_getElem? (i := 1) rfl)) (has _ (List.mem_of_getElem? (i := 2) rfl)) hσ hG v3 σ' (hL _ (List.mem_of_getElem? (i := 3) rfl)) hs n hn hQ⟩
        · cases hk
      · exact e_Mo_isTwo a1 a2 σ K (has _ (List.mem_of_getElem? (i := 1) rfl)) (has _ (List.mem_of_getElem? (i := 2) rfl)) hσ hG
    · exact hG2.elim
def S_Mo_absentTwos : GS := fun as σ K => match as with
  | [some (.inr (.inr (12, 0)))] => MoW σ ∧ K (vI (absM (mW σ) (σ 40 0 0) 0 0)) σ
  | _ => False
abbrev Lp_Mo_absentTwos_4 (σ0 : SS) (n : Nat) (L : List AV) (σ : SS) : Prop := ∃ (v1 : Int) (v2 : Int), L = [vR 12 0, vI v1, vI v2, none] ∧ n = (1000 * (1000 - v2)).toNat ∧ ((σ = σ0) ∧ (0 ≤ v2) ∧ (v2 ≤ (σ0 40 0 0)) ∧ (v1 = sumZ (fun x => iT (fstP (mW σ0) x) (twR (mW σ0) (σ0 40 0 0) (mW σ0 x) (σ0 40 0 0))) 0 v2))
abbrev Lp_Mo_absentTwos_19 (σ0 : SS) (n : Nat) (L : List AV) (σ : SS) : Prop := ∃ (v1 : Int) (v2 : Int) (v3 : Int), L = [vR 12 0, vI v1, vI v2, vI v3] ∧ n = (1000 * (1000 - v2) - v3 - 1).toNat ∧ ((σ = σ0) ∧ (0 ≤ v2) ∧ (v2 < (σ0 40 0 0)) ∧ (0 ≤ v3 ∧ v3 ≤ (σ0 40 0 0)) ∧ (fstP (mW σ0) v2) ∧ (0 ≤ v1) ∧ (v1 = sumZ (fun x => iT (fstP (mW σ0) x) (twR (mW σ0) (σ0 40 0 0) (mW σ0 x) (σ0 40 0 0))) 0 v2 + twR (mW σ0) (σ0 40 0 0) (mW σ0 v2) v3))
def Iv_Mo_absentTwos (σ0 : SS) (k : Nat) : Option (List Nat × (Nat → List AV → SS → Prop)) := match k with
  | 4 => some ([3], Lp_Mo_absentTwos_4 σ0)
  | 19 => some ([], Lp_Mo_absentTwos_19 σ0)
  | _ => none
def VE_Mo_absentTwos (σ : SS) (K : AV → SS → Prop) : Prop :=
  (∃ n', Lp_Mo_absentTwos_4 σ n' [vR 12 0, vI 0, vI 0, none] σ)
def VL_Mo_absentTwos_4 (σ0 : SS) (K : AV → SS → Prop) (v1 : Int) (v2 : Int) (σ : SS) (n : Nat) : Prop :=
  (S_Mo_size [vR 12 0] σ (kI fun r1 σ1 =>
    ((r1 ≤ v2 →
      (K (vI v1) σ1)) ∧
    (v2 < r1 →
      (S_Mo_at [vR 12 0, vI v2] σ1 (kI fun r2 σ2 =>
        (S_Mo_isIn [vR 12 0, vI r2, vI 0, vI v2] σ2 (kI fun r3 σ3 =>
          ((r3 = 0 →
            (∃ n', n' < n ∧ Lp_Mo_absentTwos_19 σ0 n' [vR 12 0, vI v1, vI v2, vI 0] σ3)) ∧
          (r3 ≠ 0 →
            (InR (v2 + 1) ∧
            (∃ n', n' < n ∧ Lp_Mo_absentTwos_4 σ0 n' [vR 12 0, vI v1, vI (v2 + 1), none] σ3))))))))))))
def VL_Mo_absentTwos_19 (σ0 : SS) (K : AV → SS → Prop) (v1 : Int) (v2 : Int) (v3 : Int) (σ : SS) (n : Nat) : Prop :=
  (S_Mo_size [vR 12 0] σ (kI fun r1 σ1 =>
    ((r1 ≤ v3 →
      (InR (v2 + 1) ∧
      (∃ n', n' < n ∧ Lp_Mo_absentTwos_4 σ0 n' [vR 12 0, vI v1, vI (v2 + 1), none] σ1))) ∧
    (v3 < r1 →
      (S_Mo_at [vR 12 0, vI v3] σ1 (kI fun r2 σ2 =>
        (S_Mo_isIn [vR 12 0, vI r2, vI 0, vI v3] σ2 (kI fun r3 σ3 =>
          ((r3 ≠ 0 →
            (InR (v1 + 0) ∧
            (InR (v3 + 1) ∧
            (∃ n', n' < n ∧ Lp_Mo_absentTwos_19 σ0 n' [vR 12 0, vI (v1 + 0), vI v2, vI (v3 + 1)] σ3)))) ∧
          (r3 = 0 →
            (S_Mo_at [vR 12 0, vI v2] σ3 (kI fun r4 σ4 =>
              (S_Mo_at [vR 12 0, vI v3] σ4 (kI fun r5 σ5 =>
                (S_Mo_isTwo [vR 12 0, vI r4, vI r5] σ5 (kI fun r6 σ6 =>
                  ((r6 ≠ 0 →
                    (InR (v1 + 0) ∧
                    (InR (v3 + 1) ∧
                    (∃ n', n' < n ∧ Lp_Mo_absentTwos_19 σ0 n' [vR 12 0, vI (v1 + 0), vI v2, vI (v3 + 1)] σ6)))) ∧
                  (r6 = 0 →
                    (InR (v1 + 1) ∧
                    (InR (v3 + 1) ∧
                    (∃ n', n' < n ∧ Lp_Mo_absentTwos_19 σ0 n' [vR 12 0, vI (v1 + 1), vI v2, vI (v3 + 1)] σ6)))))))))))))))))))))
theorem l_Mo_absentTwos_4 (σ0 : SS) (K : AV → SS → Prop) (hs0 : okS σ0) (hG : S_Mo_absentTwos [vR 12 0] σ0 K) (v1 : Int) (v2 : Int) (σ : SS) (hv1 : InR v1) (hv2 : InR v2) (hs : okS σ) (n : Nat) (hn : n = (1000 * (1000 - v2)).toNat) (hQ : (σ = σ0) ∧ (0 ≤ v2) ∧ (v2 ≤ (σ0 40 0 0)) ∧ (v1 = sumZ (fun x => iT (fstP (mW σ0) x) (twR (mW σ0) (σ0 40 0 0) (mW σ0 x) (σ0 40 0 0))) 0 v2)) : VL_Mo_absentTwos_4 σ0 K v1 v2 σ n := by
  unfold VL_Mo_absentTwos_4
  obtain ⟨hM, hG⟩ := hG
  have hb := hM.n
  obtain ⟨rfl, q1, q2, q3⟩ := hQ
  have ss := sumZ_succ (f := fun x => iT (fstP (mW σ) x) (twR (mW σ) (σ 40 0 0) (mW σ x) (σ 40 0 0))) (a := 0) (b := v2) q1
  have tot := sumZ_le (f := fun x => iT (fstP (mW σ) x) (twR (mW σ) (σ 40 0 0) (mW σ x) (σ 40 0 0))) (c := 120) (a := 0) (b := v2) (by omega) (fun x _ _ => iT_in (by have := twR_in (w := mW σ) (n := (σ 40 0 0)) (a := mW σ x) (k := (σ 40 0 0)); omega))
  intro _ _
  refine ⟨fun c1 => ?_, fun c1 => ?_⟩
  · skip
    have e : v1 = absM (mW σ) (σ 40 0 0) 0 0 := by
      rw [absM_0 hb.1 (fun x g1 g2 => hM.let g1 g2), q3, show v2 = (σ 40 0 0) by omega]
    rw [e]; exact hG
  · skip
    refine ⟨(by first | assumption | omega | exact ⟨by first | assumption | omega, by omega⟩ | exact ⟨by assumption, by omega, by omega⟩ | exact ⟨by assumption, by omega, by omega, by omega⟩ | exact ⟨by assumption, by omega, by omega, by omega, by omega⟩ | exact ⟨by assumption, by omega, by omega, by omega, by omega, by omega⟩), ?_⟩
    intro _ _
    refine ⟨(by exact ⟨hM, by omega, by omega⟩), ?_⟩
    refine bS_b0 (fun p2 _ => ?_) (fun p2 _ => ?_)
    · skip
      refine ⟨(by omega), ?_⟩
      refine ⟨_, ?_, _, _, rfl, rfl, ?_⟩
      · omega
      · refine ⟨?_, ?_, ?_, ?_⟩
        · first | rfl | assumption | omega
        · first | rfl | assumption | omega
        · first | rfl | assumption | omega
        · rw [ss, iT_n (P := fstP (mW σ) v2) (fun z => by obtain ⟨k, k1, k2, k3⟩ := p2; exact z k k1 k2 k3)]; omega
    · skip
      refine ⟨_, ?_, _, _, _, rfl, rfl, ?_⟩
      · omega
      · refine ⟨?_, ?_, ?_, ?_, ?_, ?_, ?_⟩
        · first | rfl | assumption | omega
        · first | rfl | assumption | omega
        · first | rfl | assumption | omega
        · first | rfl | assumption | omega
        · exact fun y y1 y2 y3 => p2 ⟨y, y1, y2, y3⟩
        · first | rfl | assumption | omega
        · have : twR (mW σ) (σ 40 0 0) (mW σ v2) 0 = 0 := sumZ_nil (by omega)
          omega
theorem l_Mo_absentTwos_19 (σ0 : SS) (K : AV → SS → Prop) (hs0 : okS σ0) (hG : S_Mo_absentTwos [vR 12 0] σ0 K) (v1 : Int) (v2 : Int) (v3 : Int) (σ : SS) (hv1 : InR v1) (hv2 : InR v2) (hv3 : InR v3) (hs : okS σ) (n : Nat) (hn : n = (1000 * (1000 - v2) - v3 - 1).toNat) (hQ : (σ = σ0) ∧ (0 ≤ v2) ∧ (v2 < (σ0 40 0 0)) ∧ (0 ≤ v3 ∧ v3 ≤ (σ0 40 0 0)) ∧ (fstP (mW σ0) v2) ∧ (0 ≤ v1) ∧ (v1 = sumZ (fun x => iT (fstP (mW σ0) x) (twR (mW σ0) (σ0 40 0 0) (mW σ0 x) (σ0 40 0 0))) 0 v2 + twR (mW σ0) (σ0 40 0 0) (mW σ0 v2) v3)) : VL_Mo_absentTwos_19 σ0 K v1 v2 v3 σ n := by
  unfold VL_Mo_absentTwos_19
  obtain ⟨hM, hG⟩ := hG
  have hb := hM.n
  obtain ⟨rfl, q1, q2, q3, q4, q5, q6⟩ := hQ
  have ss := sumZ_succ (f := fun x => iT (fstP (mW σ) x) (twR (mW σ) (σ 40 0 0) (mW σ x) (σ 40 0 0))) (a := 0) (b := v2) q1
  have tot := sumZ_le (f := fun x => iT (fstP (mW σ) x) (twR (mW σ) (σ 40 0 0) (mW σ x) (σ 40 0 0))) (c := 120) (a := 0) (b := v2) (by omega) (fun x _ _ => iT_in (by have := twR_in (w := mW σ) (n := (σ 40 0 0)) (a := mW σ x) (k := (σ 40 0 0)); omega))
  have tw := twR_in (w := mW σ) (n := (σ 40 0 0)) (a := mW σ v2) (k := v3)
  have st : twR (mW σ) (σ 40 0 0) (mW σ v2) (v3 + 1) = twR (mW σ) (σ 40 0 0) (mW σ v2) v3 + iT (fstP (mW σ) v3) (bi (¬ twoP (mW σ) (σ 40 0 0) (mW σ v2) (mW σ v3))) := sumZ_succ (by omega)
  intro _ _
  refine ⟨fun c1 => ?_, fun c1 => ?_⟩
  · skip
    refine ⟨(by omega), ?_⟩
    refine ⟨_, ?_, _, _, rfl, rfl, ?_⟩
    · omega
    · refine ⟨?_, ?_, ?_, ?_⟩
      · first | rfl | assumption | omega
      · first | rfl | assumption | omega
      · first | rfl | assumption | omega
      · rw [ss, iT_y q4, q6, show v3 = (σ 40 0 0) by omega]
  · skip
    refine ⟨(by first | assumption | omega | exact ⟨by first | assumption | omega, by omega⟩ | exact ⟨by assumption, by omega, by omega⟩ | exact ⟨by assumption, by omega, by omega, by omega⟩ | exact ⟨by assumption, by omega, by omega, by omega, by omega⟩ | exact ⟨by assumption, by omega, by omega, by omega, by omega, by omega⟩), ?_⟩
    intro _ _
    refine ⟨(by exact ⟨hM, by omega, by omega⟩), ?_⟩
    refine bS_b1 (fun p2 _ => ?_) (fun p2 _ => ?_)
    · skip
      refine ⟨(by omega), ?_⟩
      refine ⟨(by omega), ?_⟩
      refine ⟨_, ?_, _, _, _, rfl, rfl, ?_⟩
      · omega
      · refine ⟨?_, ?_, ?_, ?_, ?_, ?_, ?_⟩
        · first | rfl | assumption | omega
        · first | rfl | assumption | omega
        · first | rfl | assumption | omega
        · first | rfl | assumption | omega
        · first | rfl | assumption | omega
        · first | rfl | assumption | omega
        · rw [st, iT_n (P := fstP (mW σ) v3) (fun z => by obtain ⟨k, k1, k2, k3⟩ := p2; exact z k k1 k2 k3)]; omega
    · skip
      refine ⟨(by first | assumption | omega | exact ⟨by first | assumption | omega, by omega⟩ | exact ⟨by assumption, by omega, by omega⟩ | exact ⟨by assumption, by omega, by omega, by omega⟩ | exact ⟨by assumption, by omega, by omega, by omega, by omega⟩ | exact ⟨by assumption, by omega, by omega, by omega, by omega, by omega⟩), ?_⟩
      intro _ _
      refine ⟨(by first | assumption | omega | exact ⟨by first | assumption | omega, by omega⟩ | exact ⟨by assumption, by omega, by omega⟩ | exact ⟨by assumption, by omega, by omega, by omega⟩ | exact ⟨by assumption, by omega, by omega, by omega, by omega⟩ | exact ⟨by assumption, by omega, by omega, by omega, by omega, by omega⟩), ?_⟩
      intro _ _
      refine ⟨(by first | assumption | omega | exact ⟨by first | assumption | omega, by omega⟩ | exact ⟨by assumption, by omega, by omega⟩ | exact ⟨by assumption, by omega, by omega, by omega⟩ | exact ⟨by assumption, by omega, by omega, by omega, by omega⟩ | exact ⟨by assumption, by omega, by omega, by omega, by omega, by omega⟩), ?_⟩
      refine bS_b1 (fun p3 _ => ?_) (fun p3 _ => ?_)
      · skip
        refine ⟨(by omega), ?_⟩
        refine ⟨(by omega), ?_⟩
        refine ⟨_, ?_, _, _, _, rfl, rfl, ?_⟩
        · omega
        · refine ⟨?_, ?_, ?_, ?_, ?_, ?_, ?_⟩
          · first | rfl | assumption | omega
          · first | rfl | assumption | omega
          · first | rfl | assumption | omega
          · first | rfl | assumption | omega
          · first | rfl | assumption | omega
          · first | rfl | assumption | omega
          · rw [st, iT_y (P := fstP (mW σ) v3) (fun y y1 y2 y3 => p2 ⟨y, y1, y2, y3⟩), bi_0 (fun z => z p3)]; omega
      · skip
        refine ⟨(by omega), ?_⟩
        refine ⟨(by omega), ?_⟩
        refine ⟨_, ?_, _, _, _, rfl, rfl, ?_⟩
        · omega
        · refine ⟨?_, ?_, ?_, ?_, ?_, ?_, ?_⟩
          · first | rfl | assumption | omega
          · first | rfl | assumption | omega
          · first | rfl | assumption | omega
          · first | rfl | assumption | omega
          · first | rfl | assumption | omega
          · first | rfl | assumption | omega
          · rw [st, iT_y (P := fstP (mW σ) v3) (fun y y1 y2 y3 => p2 ⟨y, y1, y2, y3⟩), bi_1 p3]; omega
theorem e_Mo_absentTwos (σ : SS) (K : AV → SS → Prop) (hs : okS σ) (hG : S_Mo_absentTwos [vR 12 0] σ K) : VE_Mo_absentTwos σ K := by
  unfold VE_Mo_absentTwos
  obtain ⟨hM, hG⟩ := hG
  have hb := hM.n
  refine ⟨_, _, _, rfl, rfl, ?_⟩
  refine ⟨?_, ?_, ?_, ?_⟩
  · first | rfl | assumption | omega
  · first | rfl | assumption | omega
  · first | rfl | assumption | omega
  · exact (sumZ_nil (by omega)).symm
theorem H_Mo_absentTwos {d : Nat} (hd : 3 ≤ d) : Holds d I_Mo_absentTwos S_Mo_absentTwos := by
  refine holds_of (d' := d - 1) (rt := 1) (cal := [(I_Mo_size, S_Mo_size), (I_Mo_at, S_Mo_at), (I_Mo_isIn, S_Mo_isIn), (I_Mo_isTwo, S_Mo_isTwo)]) (C := C_Mo_absentTwos) m_Mo_absentTwos o_Mo_absentTwos rfl rfl (by omega) ?_ ?_
  · intro x hx
    simp only [List.mem_cons, List.not_mem_nil, or_false] at hx
    rcases hx with rfl | rfl | rfl | rfl
    · exact H_Mo_size (by omega)
    · exact H_Mo_at (by omega)
    · exact H_Mo_isIn (by omega)
    · exact H_Mo_isTwo (by omega)
  · intro as σ K has hσ hG
    have hG2 := hG
    unfold S_Mo_absentTwos at hG2
    split at hG2
    · skip
      refine ⟨Nat.le_of_ble_eq_true rfl, (Iv_Mo_absentTwos σ), ?_, 1000, ?_⟩
      · intro k n z L σ' hk hL hs hP
        unfold Iv_Mo_absentTwos at hk
        split at hk
        · cases hk
          obtain ⟨v1, v2, rfl, hn, hQ⟩ := hP
          exact ⟨1000, l_Mo_absentTwos_4 σ K  hσ hG v1 v2 σ' (hL _ (List.mem_of_getElem? (i := 1) rfl)) (hL _ (List.mem_of_getElem? (i := 2) rfl)) hs n hn hQ⟩
        · cases hk
          obtain ⟨v1, v2, v3, rfl, hn, hQ⟩ := hP
          exact ⟨1000, l_Mo_absentTwos_19 σ K  hσ hG v1 v2 v3 σ' (hL _ (List.mem_of_getElem? (i := 1) rfl)) (hL _ (List.mem_of_getElem? (i := 2) rfl)) (hL _ (List.mem_of_getElem? (i := 3) rfl)) hs n hn hQ⟩
        · cases hk
      · exact e_Mo_absentTwos σ K  hσ hG
    · exact hG2.elim
def S_Mo_absentAround : GS := fun as σ K => match as with
  | [some (.inr (.inr (12, 0))), some (.inl a1), some (.inl a2)] => (MoW σ ∧ 0 ≤ a1 ∧ 0 ≤ a2 ∧ a1 + a2 ≤ (σ 40 0 0)) ∧ ∀ σ', Fr AroL σ σ' → K (vI (absM (mW σ) (σ 40 0 0) a1 a2)) σ'
  | _ => False
abbrev Lp_Mo_absentAround_8 (a1 : Int) (a2 : Int) (σ0 : SS) (n : Nat) (L : List AV) (σ : SS) : Prop := ∃ (v3 : Int) (v4 : Int), L = [vR 12 0, vI a1, vI a2, vI v3, vI v4, none] ∧ n = (1000 * (1000 - v4)).toNat ∧ ((Fr AroL σ0 σ) ∧ (0 ≤ v4) ∧ (v4 ≤ 26) ∧ (bR (σ 56 0) (ahdU (mW σ0) (σ0 40 0 0) a1 a2 ((σ0 40 0 0) - a2 + 1)) 26) ∧ (bR (σ 57 0) (behU (mW σ0) (σ0 40 0 0) a1 a2 ((σ0 40 0 0) - a2 + 1)) 26) ∧ (bR2 (σ 58 0) (botU (mW σ0) (σ0 40 0 0) a1 a2 ((σ0 40 0 0) - a2 + 1))) ∧ (v3 = sumZ (absR (mW σ0) (σ0 40 0 0) a1 a2) 0 v4))
abbrev Lp_Mo_absentAround_13 (a1 : Int) (a2 : Int) (σ0 : SS) (n : Nat) (L : List AV) (σ : SS) : Prop := ∃ (v3 : Int) (v4 : Int) (v5 : Int), L = [vR 12 0, vI a1, vI a2, vI v3, vI v4, vI v5] ∧ n = (1000 * (1000 - v4) - v5 - 1).toNat ∧ ((Fr AroL σ0 σ) ∧ (0 ≤ v4) ∧ (v4 < 26) ∧ (bR (σ 56 0) (ahdU (mW σ0) (σ0 40 0 0) a1 a2 ((σ0 40 0 0) - a2 + 1)) 26) ∧ (bR (σ 57 0) (behU (mW σ0) (σ0 40 0 0) a1 a2 ((σ0 40 0 0) - a2 + 1)) 26) ∧ (bR2 (σ 58 0) (botU (mW σ0) (σ0 40 0 0) a1 a2 ((σ0 40 0 0) - a2 + 1))) ∧ (0 ≤ v5) ∧ (v5 ≤ 26) ∧ (v3 = sumZ (absR (mW σ0) (σ0 40 0 0) a1 a2) 0 v4 + cntZ (inP (mW σ0) (σ0 40 0 0) a1 a2 v4) 0 v5))
def Iv_Mo_absentAround (a1 : Int) (a2 : Int) (σ0 : SS) (k : Nat) : Option (List Nat × (Nat → List AV → SS → Prop)) := match k with
  | 8 => some ([5], Lp_Mo_absentAround_8 a1 a2 σ0)
  | 13 => some ([], Lp_Mo_absentAround_13 a1 a2 σ0)
  | _ => none
def VE_Mo_absentAround (a1 : Int) (a2 : Int) (σ : SS) (K : AV → SS → Prop) : Prop :=
  (S_Mo_laysAround [vR 12 0, vI a1, vI a2] σ (kV fun σ1 =>
    (∃ n', Lp_Mo_absentAround_8 a1 a2 σ n' [vR 12 0, vI a1, vI a2, vI 0, vI 0, none] σ1)))
def VL_Mo_absentAround_8 (a1 : Int) (a2 : Int) (σ0 : SS) (K : AV → SS → Prop) (v3 : Int) (v4 : Int) (σ : SS) (n : Nat) : Prop :=
  (((26 : Int) ≤ v4 →
    (K (vI v3) σ)) ∧
  (v4 < 26 →
    (∃ n', n' < n ∧ Lp_Mo_absentAround_13 a1 a2 σ0 n' [vR 12 0, vI a1, vI a2, vI v3, vI v4, vI 0] σ)))
def VL_Mo_absentAround_13 (a1 : Int) (a2 : Int) (σ0 : SS) (K : AV → SS → Prop) (v3 : Int) (v4 : Int) (v5 : Int) (σ : SS) (n : Nat) : Prop :=
  (((26 : Int) ≤ v5 →
    (InR (v4 + 1) ∧
    (∃ n', n' < n ∧ Lp_Mo_absentAround_8 a1 a2 σ0 n' [vR 12 0, vI a1, vI a2, vI v3, vI (v4 + 1), none] σ))) ∧
  (v5 < 26 →
    ((0 ≤ (v4 : Int) ∧ (v4 : Int) < 26) ∧
    (((σ 56 0 v4) = 0 →
      (InR (v3 + 0) ∧
      (InR (v5 + 1) ∧
      (∃ n', n' < n ∧ Lp_Mo_absentAround_13 a1 a2 σ0 n' [vR 12 0, vI a1, vI a2, vI (v3 + 0), vI v4, vI (v5 + 1)] σ)))) ∧
    ((σ 56 0 v4) ≠ 0 →
      ((0 ≤ (v5 : Int) ∧ (v5 : Int) < 26) ∧
      (((σ 57 0 v5) = 0 →
        (InR (v3 + 0) ∧
        (InR (v5 + 1) ∧
        (∃ n', n' < n ∧ Lp_Mo_absentAround_13 a1 a2 σ0 n' [vR 12 0, vI a1, vI a2, vI (v3 + 0), vI v4, vI (v5 + 1)] σ)))) ∧
      ((σ 57 0 v5) ≠ 0 →
        (InR (26 * v4) ∧
        (InR ((26 * v4) + v5) ∧
        ((0 ≤ ((26 * v4) + v5 : Int) ∧ ((26 * v4) + v5 : Int) < 676) ∧
        (((σ 58 0 ((26 * v4) + v5)) ≠ 0 →
          (InR (v3 + 0) ∧
          (InR (v5 + 1) ∧
          (∃ n', n' < n ∧ Lp_Mo_absentAround_13 a1 a2 σ0 n' [vR 12 0, vI a1, vI a2, vI (v3 + 0), vI v4, vI (v5 + 1)] σ)))) ∧
        ((σ 58 0 ((26 * v4) + v5)) = 0 →
          (InR (v3 + 1) ∧
          (InR (v5 + 1) ∧
          (∃ n', n' < n ∧ Lp_Mo_absentAround_13 a1 a2 σ0 n' [vR 12 0, vI a1, vI a2, vI (v3 + 1), vI v4, vI (v5 + 1)] σ))))))))))))))))
theorem l_Mo_absentAround_8 (a1 : Int) (a2 : Int) (σ0 : SS) (K : AV → SS → Prop) (ha1 : InR a1) (ha2 : InR a2) (hs0 : okS σ0) (hG : S_Mo_absentAround [vR 12 0, vI a1, vI a2] σ0 K) (v3 : Int) (v4 : Int) (σ : SS) (hv3 : InR v3) (hv4 : InR v4) (hs : okS σ) (n : Nat) (hn : n = (1000 * (1000 - v4)).toNat) (hQ : (Fr AroL σ0 σ) ∧ (0 ≤ v4) ∧ (v4 ≤ 26) ∧ (bR (σ 56 0) (ahdU (mW σ0) (σ0 40 0 0) a1 a2 ((σ0 40 0 0) - a2 + 1)) 26) ∧ (bR (σ 57 0) (behU (mW σ0) (σ0 40 0 0) a1 a2 ((σ0 40 0 0) - a2 + 1)) 26) ∧ (bR2 (σ 58 0) (botU (mW σ0) (σ0 40 0 0) a1 a2 ((σ0 40 0 0) - a2 + 1))) ∧ (v3 = sumZ (absR (mW σ0) (σ0 40 0 0) a1 a2) 0 v4)) : VL_Mo_absentAround_8 a1 a2 σ0 K v3 v4 σ n := by
  unfold VL_Mo_absentAround_8
  obtain ⟨⟨hM, h1, h2, h3⟩, hG⟩ := hG
  obtain ⟨q1, q2, q3, q4, q5, q6, q7⟩ := hQ
  refine ⟨fun c1 => ?_, fun c1 => ?_⟩
  · skip
    have e : v3 = absM (mW σ0) (σ0 40 0 0) a1 a2 := by rw [q7, show v4 = 26 by omega]; rfl
    rw [e]; exact hG _ q1
  · skip
    refine ⟨_, ?_, _, _, _, rfl, rfl, ?_⟩
    · omega
    · refine ⟨?_, ?_, ?_, ?_, ?_, ?_, ?_, ?_, ?_⟩
      · first | rfl | assumption | omega
      · first | rfl | assumption | omega
      · first | rfl | assumption | omega
      · first | rfl | assumption | omega
      · first | rfl | assumption | omega
      · first | rfl | assumption | omega
      · first | rfl | assumption | omega
      · first | rfl | assumption | omega
      · rw [cntZ_nil (by omega)]; omega
theorem l_Mo_absentAround_13 (a1 : Int) (a2 : Int) (σ0 : SS) (K : AV → SS → Prop) (ha1 : InR a1) (ha2 : InR a2) (hs0 : okS σ0) (hG : S_Mo_absentAround [vR 12 0, vI a1, vI a2] σ0 K) (v3 : Int) (v4 : Int) (v5 : Int) (σ : SS) (hv3 : InR v3) (hv4 : InR v4) (hv5 : InR v5) (hs : okS σ) (n : Nat) (hn : n = (1000 * (1000 - v4) - v5 - 1).toNat) (hQ : (Fr AroL σ0 σ) ∧ (0 ≤ v4) ∧ (v4 < 26) ∧ (bR (σ 56 0) (ahdU (mW σ0) (σ0 40 0 0) a1 a2 ((σ0 40 0 0) - a2 + 1)) 26) ∧ (bR (σ 57 0) (behU (mW σ0) (σ0 40 0 0) a1 a2 ((σ0 40 0 0) - a2 + 1)) 26) ∧ (bR2 (σ 58 0) (botU (mW σ0) (σ0 40 0 0) a1 a2 ((σ0 40 0 0) - a2 + 1))) ∧ (0 ≤ v5) ∧ (v5 ≤ 26) ∧ (v3 = sumZ (absR (mW σ0) (σ0 40 0 0) a1 a2) 0 v4 + cntZ (inP (mW σ0) (σ0 40 0 0) a1 a2 v4) 0 v5)) : VL_Mo_absentAround_13 a1 a2 σ0 K v3 v4 v5 σ n := by
  unfold VL_Mo_absentAround_13
  obtain ⟨⟨hM, h1, h2, h3⟩, hG⟩ := hG
  obtain ⟨q1, q2, q3, q4, q5, q6, q7, q8, q9⟩ := hQ
  have sb := absRs_in (w := mW σ0) (n := (σ0 40 0 0)) (i := a1) (L := a2) (k := v4) (by omega)
  have cb := cntZ_in (P := inP (mW σ0) (σ0 40 0 0) a1 a2 v4) (a := 0) (b := v5)
  have k1 := q4 v4 q2 q3
  have k2 := fun z => q5 v5 q7 z
  have k3 := fun z => q6 v4 v5 q2 q3 q7 z
  have no : v5 < 26 → ¬ inP (mW σ0) (σ0 40 0 0) a1 a2 v4 v5 → v3 = sumZ (absR (mW σ0) (σ0 40 0 0) a1 a2) 0 v4 + cntZ (inP (mW σ0) (σ0 40 0 0) a1 a2 v4) 0 (v5 + 1) := fun _ z => by rw [cntZ_no q7 z]; exact q9
  refine ⟨fun c1 => ?_, fun c1 => ?_⟩
  · skip
    refine ⟨(by omega), ?_⟩
    refine ⟨_, ?_, _, _, rfl, rfl, ?_⟩
    · omega
    · refine ⟨?_, ?_, ?_, ?_, ?_, ?_, ?_⟩
      · first | rfl | assumption | omega
      · first | rfl | assumption | omega
      · first | rfl | assumption | omega
      · first | rfl | assumption | omega
      · first | rfl | assumption | omega
      · first | rfl | assumption | omega
      · rw [sumZ_succ q2, q9, show v5 = 26 by omega]; rfl
  · skip
    refine ⟨(by omega), ?_⟩
    refine ⟨fun c2 => ?_, fun c2 => ?_⟩
    · skip
      refine ⟨(by omega), ?_⟩
      refine ⟨(by omega), ?_⟩
      refine ⟨_, ?_, _, _, _, rfl, rfl, ?_⟩
      · omega
      · refine ⟨?_, ?_, ?_, ?_, ?_, ?_, ?_, ?_, ?_⟩
        · first | rfl | assumption | omega
        · first | rfl | assumption | omega
        · first | rfl | assumption | omega
        · first | rfl | assumption | omega
        · first | rfl | assumption | omega
        · first | rfl | assumption | omega
        · first | rfl | assumption | omega
        · first | rfl | assumption | omega
        · rw [← no (by omega) (fun z => by rw [bi_1 z.1] at k1; omega)]; omega
    · skip
      refine ⟨(by omega), ?_⟩
      refine ⟨fun c3 => ?_, fun c3 => ?_⟩
      · skip
        refine ⟨(by omega), ?_⟩
        refine ⟨(by omega), ?_⟩
        refine ⟨_, ?_, _, _, _, rfl, rfl, ?_⟩
        · omega
        · refine ⟨?_, ?_, ?_, ?_, ?_, ?_, ?_, ?_, ?_⟩
          · first | rfl | assumption | omega
          · first | rfl | assumption | omega
          · first | rfl | assumption | omega
          · first | rfl | assumption | omega
          · first | rfl | assumption | omega
          · first | rfl | assumption | omega
          · first | rfl | assumption | omega
          · first | rfl | assumption | omega
          · rw [← no (by omega) (fun z => by have := k2 (by omega); rw [bi_1 z.2.1] at this; omega)]; omega
      · skip
        refine ⟨(by omega), ?_⟩
        refine ⟨(by omega), ?_⟩
        refine ⟨(by omega), ?_⟩
        refine ⟨fun c4 => ?_, fun c4 => ?_⟩
        · skip
          refine ⟨(by omega), ?_⟩
          refine ⟨(by omega), ?_⟩
          refine ⟨_, ?_, _, _, _, rfl, rfl, ?_⟩
          · omega
          · refine ⟨?_, ?_, ?_, ?_, ?_, ?_, ?_, ?_, ?_⟩
            · first | rfl | assumption | omega
            · first | rfl | assumption | omega
            · first | rfl | assumption | omega
            · first | rfl | assumption | omega
            · first | rfl | assumption | omega
            · first | rfl | assumption | omega
            · first | rfl | assumption | omega
            · first | rfl | assumption | omega
            · rw [← no (by omega) (fun z => by have := k3 (by omega); rw [bi_0 z.2.2] at this; omega)]; omega
        · skip
          refine ⟨(by omega), ?_⟩
          refine ⟨(by omega), ?_⟩
          refine ⟨_, ?_, _, _, _, rfl, rfl, ?_⟩
          · omega
          · refine ⟨?_, ?_, ?_, ?_, ?_, ?_, ?_, ?_, ?_⟩
            · first | rfl | assumption | omega
            · first | rfl | assumption | omega
            · first | rfl | assumption | omega
            · first | rfl | assumption | omega
            · first | rfl | assumption | omega
            · first | rfl | assumption | omega
            · first | rfl | assumption | omega
            · first | rfl | assumption | omega
            · have k4 := k2 (by omega)
              have k5 := k3 (by omega)
              rw [cntZ_yes q7 ⟨Classical.byContradiction (fun z => by rw [bi_0 z] at k1; omega), Classical.byContradiction (fun z => by rw [bi_0 z] at k4; omega), fun z => by rw [bi_1 z] at k5; omega⟩]; omega
theorem e_Mo_absentAround (a1 : Int) (a2 : Int) (σ : SS) (K : AV → SS → Prop) (ha1 : InR a1) (ha2 : InR a2) (hs : okS σ) (hG : S_Mo_absentAround [vR 12 0, vI a1, vI a2] σ K) : VE_Mo_absentAround a1 a2 σ K := by
  unfold VE_Mo_absentAround
  obtain ⟨⟨hM, h1, h2, h3⟩, hG⟩ := hG
  refine ⟨(by first | assumption | omega | exact ⟨by first | assumption | omega, by omega⟩ | exact ⟨by assumption, by omega, by omega⟩ | exact ⟨by assumption, by omega, by omega, by omega⟩ | exact ⟨by assumption, by omega, by omega, by omega, by omega⟩ | exact ⟨by assumption, by omega, by omega, by omega, by omega, by omega⟩), (fun σ1 h1a h1b h1c h1d => ?_)⟩
  intro _
  refine ⟨_, _, _, rfl, rfl, ?_⟩
  refine ⟨?_, ?_, ?_, ?_, ?_, ?_, ?_⟩
  · assumption
  · first | rfl | assumption | omega
  · first | rfl | assumption | omega
  · first | rfl | assumption | omega
  · first | rfl | assumption | omega
  · first | rfl | assumption | omega
  · exact (sumZ_nil (by omega)).symm
theorem H_Mo_absentAround {d : Nat} (hd : 5 ≤ d) : Holds d I_Mo_absentAround S_Mo_absentAround := by
  refine holds_of (d' := d - 1) (rt := 1) (cal := [(I_Mo_laysAround, S_Mo_laysAround)]) (C := C_Mo_absentAround) m_Mo_absentAround o_Mo_absentAround rfl rfl (by omega) ?_ ?_
  · intro x hx
    simp only [List.mem_cons, List.not_mem_nil, or_false] at hx
    subst hx
    exact H_Mo_laysAround (by omega)
  · intro as σ K has hσ hG
    have hG2 := hG
    unfold S_Mo_absentAround at hG2
    split at hG2
    · next a1 a2 =>
      refine ⟨Nat.le_of_ble_eq_true rfl, (Iv_Mo_absentAround a1 a2 σ), ?_, 1000, ?_⟩
      · intro k n z L σ' hk hL hs hP
        unfold Iv_Mo_absentAround at hk
        split at hk
        · cases hk
          obtain ⟨v3, v4, rfl, hn, hQ⟩ := hP
          exact ⟨1000, l_Mo_absentAround_8 a1 a2 σ K (has _ (List.mem_of_getElem? (i := 1) rfl)) (has _ (List.mem_of_getElem? (i := 2) rfl)) hσ hG v3 v4 σ' (hL _ (List.mem_of_getElem? (i := 3) rfl)) (hL _ (List.mem_of_getElem? (i := 4) rfl)) hs n hn hQ⟩
        · cases hk
          obtain ⟨v3, v4, v5, rfl, hn, hQ⟩ := hP
          exact ⟨1000, l_Mo_absentAround_13 a1 a2 σ K (has _ (List.mem_of_getElem? (i := 1) rfl)) (has _ (List.mem_of_getElem? (i := 2) rfl)) hσ hG v3 v4 v5 σ' (hL _ (List.mem_of_getElem? (i := 3) rfl)) (hL _ (List.mem_of_getElem? (i := 4) rfl)) (hL _ (List.mem_of_getElem? (i := 5) rfl)) hs n hn hQ⟩
        · cases hk
      · exact e_Mo_absentAround a1 a2 σ K (has _ (List.mem_of_getElem? (i := 1) rfl)) (has _ (List.mem_of_getElem? (i := 2) rfl)) hσ hG
    · exact hG2.elim
theorem AT_top {S : Int → Prop} {s l k : Int} (h : AT S s l) (hS : ∀ x, S x → 2 ≤ x ∧ x ≤ k) (hk : 2 ≤ k) : AT (fun x => S x ∨ x = k) (if s = 0 then k else s) k := by
  have := AT_add h (k := k) (by omega)
  rcases h with ⟨h1, h2, h3⟩ | ⟨h1, h2, h3⟩
  · rw [if_pos h1] at this
    rw [if_pos h2]
    rwa [show max l k = k by omega] at this
  · rw [if_neg (fun z => z s h1)] at this
    have a := hS _ h1
    have b := hS _ h2
    rw [if_neg (by omega)]
    rwa [show max l k = k by omega, show min s k = s by omega] at this
def absC (w : Int → Int) (n L0 i0 l : Int) : Prop := (l = 2 ∧ 0 < absM w n 0 0) ∨ ∃ i L, l = L + 2 ∧ 0 < absG w n i L ∧ (L < L0 ∨ (L = L0 ∧ i < i0))
theorem absG_p {w : Int → Int} {n i L : Int} (h : 0 < absG w n i L) : abG w n i L := Classical.byContradiction (fun z => by rw [absG_0 z] at h; omega)
noncomputable def absV (w : Int → Int) (n L0 i0 : Int) : Int := absM w n 0 0 + sumZ (fun L => sumZ (fun i => absG w n i L) 0 n) 1 L0 + sumZ (fun i => absG w n i L0) 0 i0
theorem absV_in {w : Int → Int} {n L0 i0 : Int} (hn : 0 ≤ n) (hn2 : n ≤ 120) (h1 : L0 ≤ 121) (h2 : i0 ≤ 120) : 0 ≤ absV w n L0 i0 ∧ absV w n L0 i0 ≤ 10000000 := by
  have a := absM_in (w := w) (n := n) (i := 0) (L := 0)
  have row : ∀ L k, k ≤ 120 → 0 ≤ sumZ (fun i => absG w n i L) 0 k ∧ sumZ (fun i => absG w n i L) 0 k ≤ 81120 := fun L k hk => by
    have := sumZ_le (f := fun i => absG w n i L) (c := 676) (a := 0) (b := k) (by omega) (fun x _ _ => absG_in)
    omega
  have b := sumZ_le (f := fun L => sumZ (fun i => absG w n i L) 0 n) (c := 81120) (a := 1) (b := L0) (by omega) (fun x _ _ => row x n hn2)
  have c := row L0 i0 h2
  unfold absV
  omega
theorem absC_s {w : Int → Int} {n L0 i0 l : Int} : absC w n L0 (i0 + 1) l ↔ absC w n L0 i0 l ∨ (l = L0 + 2 ∧ 0 < absG w n i0 L0) := by
  constructor
  · rintro (z | ⟨i, L, z1, z2, z3⟩)
    · exact Or.inl (Or.inl z)
    · rcases (by omega : (L < L0 ∨ (L = L0 ∧ i < i0)) ∨ (L = L0 ∧ i = i0)) with y | ⟨rfl, rfl⟩
      · exact Or.inl (Or.inr ⟨i, L, z1, z2, y⟩)
      · exact Or.inr ⟨z1, z2⟩
  · rintro ((z | ⟨i, L, z1, z2, z3⟩) | z)
    · exact Or.inl z
    · exact Or.inr ⟨i, L, z1, z2, by omega⟩
    · exact Or.inr ⟨i0, L0, z.1, z.2, by omega⟩
theorem absC_row {w : Int → Int} {n L0 i0 l : Int} (h : n < i0 + L0) : absC w n (L0 + 1) 0 l ↔ absC w n L0 i0 l := by
  constructor
  · rintro (z | ⟨i, L, z1, z2, z3⟩)
    · exact Or.inl z
    · have g := absG_p z2
      have := g.2.1; have := g.2.2.1
      exact Or.inr ⟨i, L, z1, z2, by omega⟩
  · rintro (z | ⟨i, L, z1, z2, z3⟩)
    · exact Or.inl z
    · exact Or.inr ⟨i, L, z1, z2, by omega⟩
theorem absV_s {w : Int → Int} {n L0 i0 : Int} (h : 0 ≤ i0) : absV w n L0 (i0 + 1) = absV w n L0 i0 + absG w n i0 L0 := by
  unfold absV
  rw [sumZ_succ h]
  omega
theorem absV_row {w : Int → Int} {n L0 i0 : Int} (h : n < i0 + L0) (hL : 1 ≤ L0) (hi : i0 ≤ n) : absV w n (L0 + 1) 0 = absV w n L0 i0 := by
  have e : sumZ (fun i => absG w n i L0) 0 i0 = sumZ (fun i => absG w n i L0) 0 n := sumZ_widen (Int.le_refl _) hi (fun x x1 x2 x3 => absG_0 (fun z => by have := z.2.2.1; omega))
  unfold absV
  rw [sumZ_succ hL, e, sumZ_nil (Int.le_refl 0)]
  omega
theorem absV_end {w : Int → Int} {n L0 : Int} (h : n ≤ L0) (hL : 1 ≤ L0) (hL2 : L0 ≤ n + 1) : absV w n L0 0 = absT w n := by
  have e : sumZ (fun L => sumZ (fun i => absG w n i L) 0 n) 1 L0 = sumZ (fun L => sumZ (fun i => absG w n i L) 0 n) 1 (n + 1) := sumZ_widen (Int.le_refl _) hL2 (fun x x1 x2 x3 => sumZ_zero (fun i _ _ => absG_n (by omega)))
  unfold absV absT
  have s : sumZ (fun L => sumZ (fun i => absG w n i L) 0 n) 1 (n + 1) = sumZ (fun i => sumZ (absG w n i) 1 (n + 1)) 0 n := sumZ_swap
  rw [e, sumZ_nil (Int.le_refl 0), s]
  omega
theorem absC_end {w : Int → Int} {n L0 l : Int} (h : n ≤ L0) : absS w n l ↔ absC w n L0 0 l := by
  constructor
  · rintro (z | ⟨i, L, z1, z2⟩)
    · exact Or.inl z
    · refine Or.inr ⟨i, L, z1, z2, Or.inl ?_⟩
      exact Classical.byContradiction (fun z => by rw [absG_n (by omega)] at z2; omega)
  · rintro (z | ⟨i, L, z1, z2, z3⟩)
    · exact Or.inl z
    · exact Or.inr ⟨i, L, z1, z2⟩
def S_Mo_absent : GS := fun as σ K => match as with
  | [some (.inr (.inr (12, 0))), some (.inl a1)] => MoW σ ∧ ∀ σ' r, Fr AroL σ σ' → RAbs (mW σ) (σ 40 0 0) a1 r → K (vI r) σ'
  | _ => False
abbrev Lp_Mo_absent_21 (a1 : Int) (σ0 : SS) (n : Nat) (L : List AV) (σ : SS) : Prop := ∃ (v2 : Int) (v3 : Int) (v4 : Int) (v5 : Int), L = [vR 12 0, vI a1, vI v2, vI v3, vI v4, vI v5, none, none] ∧ n = (1000 * (1000 - v5)).toNat ∧ ((Fr AroL σ0 σ) ∧ (0 ≤ a1 ∧ a1 ≤ 2) ∧ (1 ≤ v5) ∧ (v5 ≤ (σ0 40 0 0) + 1) ∧ (v2 = absV (mW σ0) (σ0 40 0 0) v5 0) ∧ (AT (absC (mW σ0) (σ0 40 0 0) v5 0) v3 v4))
abbrev Lp_Mo_absent_27 (a1 : Int) (σ0 : SS) (n : Nat) (L : List AV) (σ : SS) : Prop := ∃ (v2 : Int) (v3 : Int) (v4 : Int) (v5 : Int) (v6 : Int), L = [vR 12 0, vI a1, vI v2, vI v3, vI v4, vI v5, vI v6, none] ∧ n = (1000 * (1000 - v5) - 2 * v6 - 1).toNat ∧ ((Fr AroL σ0 σ) ∧ (0 ≤ a1 ∧ a1 ≤ 2) ∧ (1 ≤ v5) ∧ (v5 < (σ0 40 0 0)) ∧ (v2 = absV (mW σ0) (σ0 40 0 0) v5 v6) ∧ (AT (absC (mW σ0) (σ0 40 0 0) v5 v6) v3 v4) ∧ (0 ≤ v6) ∧ (v6 + v5 ≤ (σ0 40 0 0) + 1))
abbrev Lp_Mo_absent_45 (a1 : Int) (σ0 : SS) (n : Nat) (L : List AV) (σ : SS) : Prop := ∃ (v2 : Int) (v3 : Int) (v4 : Int) (v5 : Int) (v6 : Int) (v7 : Int), L = [vR 12 0, vI a1, vI v2, vI v3, vI v4, vI v5, vI v6, vI v7] ∧ n = (1000 * (1000 - v5) - 2 * v6 - 2).toNat ∧ ((Fr AroL σ0 σ) ∧ (0 ≤ a1 ∧ a1 ≤ 2) ∧ (1 ≤ v5) ∧ (v5 < (σ0 40 0 0)) ∧ (v2 = absV (mW σ0) (σ0 40 0 0) v5 v6) ∧ (AT (absC (mW σ0) (σ0 40 0 0) v5 v6) v3 v4) ∧ (0 ≤ v6) ∧ (v6 + v5 ≤ (σ0 40 0 0)) ∧ (v7 = absG (mW σ0) (σ0 40 0 0) v6 v5))
def Iv_Mo_absent (a1 : Int) (σ0 : SS) (k : Nat) : Option (List Nat × (Nat → List AV → SS → Prop)) := match k with
  | 21 => some ([6, 7], Lp_Mo_absent_21 a1 σ0)
  | 27 => some ([7], Lp_Mo_absent_27 a1 σ0)
  | 45 => some ([], Lp_Mo_absent_45 a1 σ0)
  | _ => none
def VE_Mo_absent (a1 : Int) (σ : SS) (K : AV → SS → Prop) : Prop :=
  (S_Mo_in [vL a1, vL 0, vL 2] σ (kI fun r1 σ1 =>
    ((r1 ≠ 0 →
      (S_Mo_absentTwos [vR 12 0] σ1 (kI fun r2 σ2 =>
        ((r2 ≤ 0 →
          (∃ n', Lp_Mo_absent_21 a1 σ n' [vR 12 0, vI a1, vI r2, vI 0, vI 0, vI 1, none, none] σ2)) ∧
        ((0 : Int) < r2 →
          (∃ n', Lp_Mo_absent_21 a1 σ n' [vR 12 0, vI a1, vI r2, vI 2, vI 2, vI 1, none, none] σ2)))))) ∧
    (r1 = 0 →
      (K (vI (-1)) σ1)))))
def VL_Mo_absent_21 (a1 : Int) (σ0 : SS) (K : AV → SS → Prop) (v2 : Int) (v3 : Int) (v4 : Int) (v5 : Int) (σ : SS) (n : Nat) : Prop :=
  (S_Mo_size [vR 12 0] σ (kI fun r1 σ1 =>
    ((r1 ≤ v5 →
      ((a1 ≠ 0 →
        ((a1 ≠ 1 →
          (K (vI v4) σ1)) ∧
        (a1 = 1 →
          (K (vI v3) σ1)))) ∧
      (a1 = 0 →
        (K (vI v2) σ1)))) ∧
    (v5 < r1 →
      (∃ n', n' < n ∧ Lp_Mo_absent_27 a1 σ0 n' [vR 12 0, vI a1, vI v2, vI v3, vI v4, vI v5, vI 0, none] σ1)))))
def VL_Mo_absent_27 (a1 : Int) (σ0 : SS) (K : AV → SS → Prop) (v2 : Int) (v3 : Int) (v4 : Int) (v5 : Int) (v6 : Int) (σ : SS) (n : Nat) : Prop :=
  (InR (v6 + v5) ∧
  (S_Mo_size [vR 12 0] σ (kI fun r1 σ1 =>
    ((r1 < (v6 + v5) →
      (InR (v5 + 1) ∧
      (∃ n', n' < n ∧ Lp_Mo_absent_21 a1 σ0 n' [vR 12 0, vI a1, vI v2, vI v3, vI v4, vI (v5 + 1), none, none] σ1))) ∧
    ((v6 + v5) ≤ r1 →
      (S_Mo_isOnce [vR 12 0, vI v6, vI v5] σ1 (kI fun r2 σ2 =>
        ((r2 = 0 →
          (∃ n', n' < n ∧ Lp_Mo_absent_45 a1 σ0 n' [vR 12 0, vI a1, vI v2, vI v3, vI v4, vI v5, vI v6, vI 0] σ2)) ∧
        (r2 ≠ 0 →
          (S_Mo_absentAround [vR 12 0, vI v6, vI v5] σ2 (kI fun r3 σ3 =>
            (∃ n', n' < n ∧ Lp_Mo_absent_45 a1 σ0 n' [vR 12 0, vI a1, vI v2, vI v3, vI v4, vI v5, vI v6, vI r3] σ3))))))))))))
def VL_Mo_absent_45 (a1 : Int) (σ0 : SS) (K : AV → SS → Prop) (v2 : Int) (v3 : Int) (v4 : Int) (v5 : Int) (v6 : Int) (v7 : Int) (σ : SS) (n : Nat) : Prop :=
  ((v7 ≠ 0 →
    (InR (v2 + v7) ∧
    ((v3 ≠ 0 →
      (InR (v5 + 2) ∧
      (InR (v6 + 1) ∧
      (∃ n', n' < n ∧ Lp_Mo_absent_27 a1 σ0 n' [vR 12 0, vI a1, vI (v2 + v7), vI v3, vI (v5 + 2), vI v5, vI (v6 + 1), none] σ)))) ∧
    (v3 = 0 →
      (InR (v5 + 2) ∧
      (InR (v5 + 2) ∧
      (InR (v6 + 1) ∧
      (∃ n', n' < n ∧ Lp_Mo_absent_27 a1 σ0 n' [vR 12 0, vI a1, vI (v2 + v7), vI (v5 + 2), vI (v5 + 2), vI v5, vI (v6 + 1), none] σ)))))))) ∧
  (v7 = 0 →
    (InR (v6 + 1) ∧
    (∃ n', n' < n ∧ Lp_Mo_absent_27 a1 σ0 n' [vR 12 0, vI a1, vI v2, vI v3, vI v4, vI v5, vI (v6 + 1), none] σ))))
theorem l_Mo_absent_21 (a1 : Int) (σ0 : SS) (K : AV → SS → Prop) (ha1 : InR a1) (hs0 : okS σ0) (hG : S_Mo_absent [vR 12 0, vI a1] σ0 K) (v2 : Int) (v3 : Int) (v4 : Int) (v5 : Int) (σ : SS) (hv2 : InR v2) (hv3 : InR v3) (hv4 : InR v4) (hv5 : InR v5) (hs : okS σ) (n : Nat) (hn : n = (1000 * (1000 - v5)).toNat) (hQ : (Fr AroL σ0 σ) ∧ (0 ≤ a1 ∧ a1 ≤ 2) ∧ (1 ≤ v5) ∧ (v5 ≤ (σ0 40 0 0) + 1) ∧ (v2 = absV (mW σ0) (σ0 40 0 0) v5 0) ∧ (AT (absC (mW σ0) (σ0 40 0 0) v5 0) v3 v4)) : VL_Mo_absent_21 a1 σ0 K v2 v3 v4 v5 σ n := by
  unfold VL_Mo_absent_21
  obtain ⟨hM, hG⟩ := hG
  have hb := hM.n
  obtain ⟨q1, q2, q3, q4, q5, q6⟩ := hQ
  obtain ⟨w1, w2⟩ := aroF q1
  intro _ _
  refine ⟨fun c1 => ?_, fun c1 => ?_⟩
  · skip
    refine ⟨fun c2 => ?_, fun c2 => ?_⟩
    · skip
      refine ⟨fun c3 => ?_, fun c3 => ?_⟩
      · skip
        exact hG _ _ q1 (gd_y q2 ⟨v3, v4, AT_iff q6 (fun x => absC_end (by omega)), by rw [if_neg (by omega), if_neg (by omega)]⟩)
      · skip
        exact hG _ _ q1 (gd_y q2 ⟨v3, v4, AT_iff q6 (fun x => absC_end (by omega)), by rw [if_neg (by omega), if_pos (by omega)]⟩)
    · skip
      exact hG _ _ q1 (gd_y q2 ⟨v3, v4, AT_iff q6 (fun x => absC_end (by omega)), by rw [if_pos (by omega), q5]; exact absV_end (by omega) q3 q4⟩)
  · skip
    refine ⟨_, ?_, _, _, _, _, _, rfl, rfl, ?_⟩
    · omega
    · refine ⟨?_, ?_, ?_, ?_, ?_, ?_, ?_, ?_⟩
      · first | rfl | assumption | omega
      · first | rfl | assumption | omega
      · first | rfl | assumption | omega
      · first | rfl | assumption | omega
      · first | rfl | assumption | omega
      · first | rfl | assumption | omega
      · first | rfl | assumption | omega
      · first | rfl | assumption | omega
theorem l_Mo_absent_27 (a1 : Int) (σ0 : SS) (K : AV → SS → Prop) (ha1 : InR a1) (hs0 : okS σ0) (hG : S_Mo_absent [vR 12 0, vI a1] σ0 K) (v2 : Int) (v3 : Int) (v4 : Int) (v5 : Int) (v6 : Int) (σ : SS) (hv2 : InR v2) (hv3 : InR v3) (hv4 : InR v4) (hv5 : InR v5) (hv6 : InR v6) (hs : okS σ) (n : Nat) (hn : n = (1000 * (1000 - v5) - 2 * v6 - 1).toNat) (hQ : (Fr AroL σ0 σ) ∧ (0 ≤ a1 ∧ a1 ≤ 2) ∧ (1 ≤ v5) ∧ (v5 < (σ0 40 0 0)) ∧ (v2 = absV (mW σ0) (σ0 40 0 0) v5 v6) ∧ (AT (absC (mW σ0) (σ0 40 0 0) v5 v6) v3 v4) ∧ (0 ≤ v6) ∧ (v6 + v5 ≤ (σ0 40 0 0) + 1)) : VL_Mo_absent_27 a1 σ0 K v2 v3 v4 v5 v6 σ n := by
  unfold VL_Mo_absent_27
  obtain ⟨hM, hG⟩ := hG
  have hb := hM.n
  obtain ⟨q1, q2, q3, q4, q5, q6, q7, q8⟩ := hQ
  obtain ⟨w1, w2⟩ := aroF q1
  have hM1 := aroM hM q1
  have vi := absV_in (w := mW σ0) (n := (σ0 40 0 0)) (L0 := v5) (i0 := v6) hb.1 hb.2 (by omega) (by omega)
  have vs := absV_s (w := mW σ0) (n := (σ0 40 0 0)) (L0 := v5) q7
  have gb := absG_in (w := mW σ0) (n := (σ0 40 0 0)) (i := v6) (L := v5)
  have no : absG (mW σ0) (σ0 40 0 0) v6 v5 = 0 → AT (absC (mW σ0) (σ0 40 0 0) v5 (v6 + 1)) v3 v4 := fun z => AT_iff q6 (fun x => absC_s.trans ⟨fun y => y.elim id (fun k => by omega), Or.inl⟩)
  have hS : ∀ x, absC (mW σ0) (σ0 40 0 0) v5 v6 x → 2 ≤ x ∧ x ≤ v5 + 2 := by
    rintro x (z | ⟨i, L, z1, z2, z3⟩)
    · omega
    · have g := absG_p z2
      have := g.1
      omega
  have yes : 0 < absG (mW σ0) (σ0 40 0 0) v6 v5 → AT (absC (mW σ0) (σ0 40 0 0) v5 (v6 + 1)) (if v3 = 0 then v5 + 2 else v3) (v5 + 2) := fun z => AT_iff (AT_top q6 hS (by omega)) (fun x => absC_s.trans ⟨fun y => y.elim Or.inl (fun k => Or.inr k.1), fun y => y.elim Or.inl (fun k => Or.inr ⟨k, z⟩)⟩)
  refine ⟨(by omega), ?_⟩
  intro _ _
  refine ⟨fun c1 => ?_, fun c1 => ?_⟩
  · skip
    refine ⟨(by omega), ?_⟩
    refine ⟨_, ?_, _, _, _, _, rfl, rfl, ?_⟩
    · omega
    · refine ⟨?_, ?_, ?_, ?_, ?_, ?_⟩
      · first | rfl | assumption | omega
      · first | rfl | assumption | omega
      · first | rfl | assumption | omega
      · first | rfl | assumption | omega
      · rw [absV_row (i0 := v6) (by omega) q3 (by omega)]; exact q5
      · exact AT_iff q6 (fun x => absC_row (by omega))
  · skip
    refine ⟨(by rw [w2]; exact ⟨hM1, by omega, by omega, by omega⟩), ?_⟩
    refine bS_b0 (fun p2 _ => ?_) (fun p2 _ => ?_)
    · skip
      rw [w1, if_neg (by omega)] at p2
      have hg : absG (mW σ0) (σ0 40 0 0) v6 v5 = absM (mW σ0) (σ0 40 0 0) v6 v5 := iT_y ⟨q3, q7, by omega, p2⟩
      refine ⟨(by rw [w2]; exact ⟨hM1, by omega, by omega, by omega⟩), (fun σ3 h3a => ?_)⟩
      intro _ _
      rw [w1, w2]
      rw [← hg]
      have f2 := Fr_trans q1 h3a
      refine ⟨_, ?_, _, _, _, _, _, _, rfl, rfl, ?_⟩
      · omega
      · refine ⟨?_, ?_, ?_, ?_, ?_, ?_, ?_, ?_, ?_⟩
        · exact f2
        · first | rfl | assumption | omega
        · first | rfl | assumption | omega
        · first | rfl | assumption | omega
        · first | rfl | assumption | omega
        · first | rfl | assumption | omega
        · first | rfl | assumption | omega
        · first | rfl | assumption | omega
        · rfl
    · skip
      rw [w1, if_neg (by omega)] at p2
      have hg : absG (mW σ0) (σ0 40 0 0) v6 v5 = 0 := absG_0 (fun z => p2 z.2.2.2)
      refine ⟨_, ?_, _, _, _, _, _, _, rfl, rfl, ?_⟩
      · omega
      · refine ⟨?_, ?_, ?_, ?_, ?_, ?_, ?_, ?_, ?_⟩
        · first | rfl | assumption | omega
        · first | rfl | assumption | omega
        · first | rfl | assumption | omega
        · first | rfl | assumption | omega
        · first | rfl | assumption | omega
        · first | rfl | assumption | omega
        · first | rfl | assumption | omega
        · first | rfl | assumption | omega
        · exact hg.symm
theorem l_Mo_absent_45 (a1 : Int) (σ0 : SS) (K : AV → SS → Prop) (ha1 : InR a1) (hs0 : okS σ0) (hG : S_Mo_absent [vR 12 0, vI a1] σ0 K) (v2 : Int) (v3 : Int) (v4 : Int) (v5 : Int) (v6 : Int) (v7 : Int) (σ : SS) (hv2 : InR v2) (hv3 : InR v3) (hv4 : InR v4) (hv5 : InR v5) (hv6 : InR v6) (hv7 : InR v7) (hs : okS σ) (n : Nat) (hn : n = (1000 * (1000 - v5) - 2 * v6 - 2).toNat) (hQ : (Fr AroL σ0 σ) ∧ (0 ≤ a1 ∧ a1 ≤ 2) ∧ (1 ≤ v5) ∧ (v5 < (σ0 40 0 0)) ∧ (v2 = absV (mW σ0) (σ0 40 0 0) v5 v6) ∧ (AT (absC (mW σ0) (σ0 40 0 0) v5 v6) v3 v4) ∧ (0 ≤ v6) ∧ (v6 + v5 ≤ (σ0 40 0 0)) ∧ (v7 = absG (mW σ0) (σ0 40 0 0) v6 v5)) : VL_Mo_absent_45 a1 σ0 K v2 v3 v4 v5 v6 v7 σ n := by
  unfold VL_Mo_absent_45
  obtain ⟨hM, hG⟩ := hG
  have hb := hM.n
  obtain ⟨q1, q2, q3, q4, q5, q6, q7, q8, q9⟩ := hQ
  obtain ⟨w1, w2⟩ := aroF q1
  have hM1 := aroM hM q1
  have vi := absV_in (w := mW σ0) (n := (σ0 40 0 0)) (L0 := v5) (i0 := v6) hb.1 hb.2 (by omega) (by omega)
  have vs := absV_s (w := mW σ0) (n := (σ0 40 0 0)) (L0 := v5) q7
  have gb := absG_in (w := mW σ0) (n := (σ0 40 0 0)) (i := v6) (L := v5)
  have no : absG (mW σ0) (σ0 40 0 0) v6 v5 = 0 → AT (absC (mW σ0) (σ0 40 0 0) v5 (v6 + 1)) v3 v4 := fun z => AT_iff q6 (fun x => absC_s.trans ⟨fun y => y.elim id (fun k => by omega), Or.inl⟩)
  have hS : ∀ x, absC (mW σ0) (σ0 40 0 0) v5 v6 x → 2 ≤ x ∧ x ≤ v5 + 2 := by
    rintro x (z | ⟨i, L, z1, z2, z3⟩)
    · omega
    · have g := absG_p z2
      have := g.1
      omega
  have yes : 0 < absG (mW σ0) (σ0 40 0 0) v6 v5 → AT (absC (mW σ0) (σ0 40 0 0) v5 (v6 + 1)) (if v3 = 0 then v5 + 2 else v3) (v5 + 2) := fun z => AT_iff (AT_top q6 hS (by omega)) (fun x => absC_s.trans ⟨fun y => y.elim Or.inl (fun k => Or.inr k.1), fun y => y.elim Or.inl (fun k => Or.inr ⟨k, z⟩)⟩)
  refine ⟨fun c1 => ?_, fun c1 => ?_⟩
  · skip
    refine ⟨(by omega), ?_⟩
    refine ⟨fun c2 => ?_, fun c2 => ?_⟩
    · skip
      refine ⟨(by omega), ?_⟩
      refine ⟨(by omega), ?_⟩
      refine ⟨_, ?_, _, _, _, _, _, rfl, rfl, ?_⟩
      · omega
      · refine ⟨?_, ?_, ?_, ?_, ?_, ?_, ?_, ?_⟩
        · first | rfl | assumption | omega
        · first | rfl | assumption | omega
        · first | rfl | assumption | omega
        · first | rfl | assumption | omega
        · rw [vs]; omega
        · have y := yes (by omega)
          rwa [if_neg (by omega)] at y
        · first | rfl | assumption | omega
        · first | rfl | assumption | omega
    · skip
      refine ⟨(by omega), ?_⟩
      refine ⟨(by omega), ?_⟩
      refine ⟨(by omega), ?_⟩
      refine ⟨_, ?_, _, _, _, _, _, rfl, rfl, ?_⟩
      · omega
      · refine ⟨?_, ?_, ?_, ?_, ?_, ?_, ?_, ?_⟩
        · first | rfl | assumption | omega
        · first | rfl | assumption | omega
        · first | rfl | assumption | omega
        · first | rfl | assumption | omega
        · rw [vs]; omega
        · have y := yes (by omega)
          rwa [if_pos (by omega)] at y
        · first | rfl | assumption | omega
        · first | rfl | assumption | omega
  · skip
    refine ⟨(by omega), ?_⟩
    refine ⟨_, ?_, _, _, _, _, _, rfl, rfl, ?_⟩
    · omega
    · refine ⟨?_, ?_, ?_, ?_, ?_, ?_, ?_, ?_⟩
      · first | rfl | assumption | omega
      · first | rfl | assumption | omega
      · first | rfl | assumption | omega
      · first | rfl | assumption | omega
      · rw [vs]; omega
      · exact no (by omega)
      · first | rfl | assumption | omega
      · first | rfl | assumption | omega
theorem e_Mo_absent (a1 : Int) (σ : SS) (K : AV → SS → Prop) (ha1 : InR a1) (hs : okS σ) (hG : S_Mo_absent [vR 12 0, vI a1] σ K) : VE_Mo_absent a1 σ K := by
  unfold VE_Mo_absent
  obtain ⟨hM, hG⟩ := hG
  have hb := hM.n
  have am := absM_in (w := mW σ) (n := (σ 40 0 0)) (i := 0) (L := 0)
  have c0 : ∀ l, absC (mW σ) (σ 40 0 0) 1 0 l ↔ (l = 2 ∧ 0 < absM (mW σ) (σ 40 0 0) 0 0) := fun l => by
    constructor
    · rintro (z | ⟨i, L, z1, z2, z3⟩)
      · exact z
      · have g := absG_p z2
        have := g.1; have := g.2.1
        omega
    · exact Or.inl
  have v0 : absV (mW σ) (σ 40 0 0) 1 0 = absM (mW σ) (σ 40 0 0) 0 0 := by
    unfold absV
    rw [sumZ_nil (Int.le_refl _), sumZ_nil (Int.le_refl _)]
    omega
  refine bS_b1 (fun p1 _ => ?_) (fun p1 _ => ?_)
  · skip
    refine ⟨(by first | assumption | omega | exact ⟨by first | assumption | omega, by omega⟩ | exact ⟨by assumption, by omega, by omega⟩ | exact ⟨by assumption, by omega, by omega, by omega⟩ | exact ⟨by assumption, by omega, by omega, by omega, by omega⟩ | exact ⟨by assumption, by omega, by omega, by omega, by omega, by omega⟩), ?_⟩
    intro _ _
    refine ⟨fun c2 => ?_, fun c2 => ?_⟩
    · skip
      refine ⟨_, _, _, _, _, rfl, rfl, ?_⟩
      refine ⟨?_, ?_, ?_, ?_, ?_, ?_⟩
      · exact Fr_refl
      · first | rfl | assumption | omega
      · first | rfl | assumption | omega
      · first | rfl | assumption | omega
      · exact v0.symm
      · exact AT_iff (S := fun _ => False) (Or.inl ⟨fun _ z => z, rfl, rfl⟩) (fun x => by rw [c0 x]; exact ⟨fun z => by omega, fun z => z.elim⟩)
    · skip
      refine ⟨_, _, _, _, _, rfl, rfl, ?_⟩
      refine ⟨?_, ?_, ?_, ?_, ?_, ?_⟩
      · exact Fr_refl
      · first | rfl | assumption | omega
      · first | rfl | assumption | omega
      · first | rfl | assumption | omega
      · exact v0.symm
      · exact AT_iff (S := fun l => l = 2) (Or.inr ⟨rfl, rfl, fun x z => by omega⟩) (fun x => by rw [c0 x]; exact ⟨fun z => z.1, fun z => ⟨z, by omega⟩⟩)
  · skip
    exact hG _ _ Fr_refl (gd_n (by omega))
theorem H_Mo_absent {d : Nat} (hd : 6 ≤ d) : Holds d I_Mo_absent S_Mo_absent := by
  refine holds_of (d' := d - 1) (rt := 1) (cal := [(I_Mo_in, S_Mo_in), (I_Mo_absentTwos, S_Mo_absentTwos), (I_Mo_size, S_Mo_size), (I_Mo_isOnce, S_Mo_isOnce), (I_Mo_absentAround, S_Mo_absentAround)]) (C := C_Mo_absent) m_Mo_absent o_Mo_absent rfl rfl (by omega) ?_ ?_
  · intro x hx
    simp only [List.mem_cons, List.not_mem_nil, or_false] at hx
    rcases hx with rfl | rfl | rfl | rfl | rfl
    · exact H_Mo_in (by omega)
    · exact H_Mo_absentTwos (by omega)
    · exact H_Mo_size (by omega)
    · exact H_Mo_isOnce (by omega)
    · exact H_Mo_absentAround (by omega)
  · intro as σ K has hσ hG
    have hG2 := hG
    unfold S_Mo_absent at hG2
    split at hG2
    · next a1 =>
      refine ⟨Nat.le_of_ble_eq_true rfl, (Iv_Mo_absent a1 σ), ?_, 1000, ?_⟩
      · intro k n z L σ' hk hL hs hP
        unfold Iv_Mo_absent at hk
        split at hk
        · cases hk
          obtain ⟨v2, v3, v4, v5, rfl, hn, hQ⟩ := hP
          exact ⟨1000, l_Mo_absent_21 a1 σ K (has _ (List.mem_of_getElem? (i := 1) rfl)) hσ hG v2 v3 v4 v5 σ' (hL _ (List.mem_of_getElem? (i := 2) rfl)) (hL _ (List.mem_of_getElem? (i := 3) rfl)) (hL _ (List.mem_of_getElem? (i := 4) rfl)) (hL _ (List.mem_of_getElem? (i := 5) rfl)) hs n hn hQ⟩
        · cases hk
          obtain ⟨v2, v3, v4, v5, v6, rfl, hn, hQ⟩ := hP
          exact ⟨1000, l_Mo_absent_27 a1 σ K (has _ (List.mem_of_getElem? (i := 1) rfl)) hσ hG v2 v3 v4 v5 v6 σ' (hL _ (List.mem_of_getElem? (i := 2) rfl)) (hL _ (List.mem_of_getElem? (i := 3) rfl)) (hL _ (List.mem_of_getElem? (i := 4) rfl)) (hL _ (List.mem_of_getElem? (i := 5) rfl)) (hL _ (List.mem_of_getElem? (i := 6) rfl)) hs n hn hQ⟩
        · cases hk
          obtain ⟨v2, v3, v4, v5, v6, v7, rfl, hn, hQ⟩ := hP
          exact ⟨1000, l_Mo_absent_45 a1 σ K (has _ (List.mem_of_getElem? (i := 1) rfl)) hσ hG v2 v3 v4 v5 v6 v7 σ' (hL _ (List.mem_of_getElem? (i := 2) rfl)) (hL _ (List.mem_of_getElem? (i := 3) rfl)) (hL _ (List.mem_of_getElem? (i := 4) rfl)) (hL _ (List.mem_of_getElem? (i := 5) rfl)) (hL _ (List.mem_of_getElem? (i := 6) rfl)) (hL _ (List.mem_of_getElem? (i := 7) rfl)) hs n hn hQ⟩
        · cases hk
      · exact e_Mo_absent a1 σ K (has _ (List.mem_of_getElem? (i := 1) rfl)) hσ hG
    · exact hG2.elim
