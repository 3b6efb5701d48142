/-! Lyndon words: both sides -/
theorem vU_in {w : Int → Int} {up x : Int} (h : 0 ≤ w x ∧ w x < 26) : -26 < vU w up x ∧ vU w up x < 26 := by
  unfold vU
  split <;> omega
def S_Or_factorSize : GS := fun as σ K => match as with
  | [some (.inr (.inr (1, 0))), some (.inl a1), some (.inl a2)] => (TwC σ ∧ 0 ≤ a2 ∧ a2 < (σ 501 0 0)) ∧ ∀ r, lgL (vU (cW σ) a1) (σ 501 0 0) a2 r → K (vI r) σ
  | _ => False
abbrev Lp_Or_factorSize_6 (a1 : Int) (a2 : Int) (σ0 : SS) (n : Nat) (L : List AV) (σ : SS) : Prop := ∃ (v3 : Int) (v4 : Int), L = [vR 1 0, vI a1, vI a2, vI v3, vI v4, none] ∧ n = (1000 - v4).toNat ∧ ((σ = σ0) ∧ (a2 < v4 ∧ v4 ≤ (σ0 501 0 0)) ∧ (a2 ≤ v3 ∧ v3 < v4) ∧ (lynS (vU (cW σ0) a1) a2 (a2 + (v4 - v3))) ∧ (per (vU (cW σ0) a1) a2 v4 (v4 - v3)))
def Iv_Or_factorSize (a1 : Int) (a2 : Int) (σ0 : SS) (k : Nat) : Option (List Nat × (Nat → List AV → SS → Prop)) := match k with
  | 6 => some ([5], Lp_Or_factorSize_6 a1 a2 σ0)
  | _ => none
def VE_Or_factorSize (a1 : Int) (a2 : Int) (σ : SS) (K : AV → SS → Prop) : Prop :=
  (InR (a2 + 1) ∧
  (∃ n', Lp_Or_factorSize_6 a1 a2 σ n' [vR 1 0, vI a1, vI a2, vI a2, vI (a2 + 1), none] σ))
def VL_Or_factorSize_6 (a1 : Int) (a2 : Int) (σ0 : SS) (K : AV → SS → Prop) (v3 : Int) (v4 : Int) (σ : SS) (n : Nat) : Prop :=
  (S_Wo_size [vR 10 0] σ (kI fun r1 σ1 =>
    ((r1 ≤ v4 →
      (InR (v4 - v3) ∧
      (K (vI (v4 - v3)) σ1))) ∧
    (v4 < r1 →
      ((a1 = 0 →
        (S_Wo_at [vR 10 0, vI v3] σ1 (kI fun r2 σ2 =>
          (S_Wo_at [vR 10 0, vI v4] σ2 (kI fun r3 σ3 =>
            (InR (r2 - r3) ∧
            (((0 : Int) ≤ (r2 - r3) →
              (((r2 - r3) ≠ 0 →
                (InR (v4 + 1) ∧
                (∃ n', n' < n ∧ Lp_Or_factorSize_6 a1 a2 σ0 n' [vR 1 0, vI a1, vI a2, vI a2, vI (v4 + 1), none] σ3))) ∧
              ((r2 - r3) = 0 →
                (InR (v3 + 1) ∧
                (InR (v4 + 1) ∧
                (∃ n', n' < n ∧ Lp_Or_factorSize_6 a1 a2 σ0 n' [vR 1 0, vI a1, vI a2, vI (v3 + 1), vI (v4 + 1), none] σ3)))))) ∧
            ((r2 - r3) < 0 →
              (InR (v4 - v3) ∧
              (K (vI (v4 - v3)) σ3)))))))))) ∧
      (a1 ≠ 0 →
        (S_Wo_at [vR 10 0, vI v4] σ1 (kI fun r4 σ4 =>
          (S_Wo_at [vR 10 0, vI v3] σ4 (kI fun r5 σ5 =>
            (InR (r4 - r5) ∧
            (((0 : Int) ≤ (r4 - r5) →
              (((r4 - r5) ≠ 0 →
                (InR (v4 + 1) ∧
                (∃ n', n' < n ∧ Lp_Or_factorSize_6 a1 a2 σ0 n' [vR 1 0, vI a1, vI a2, vI a2, vI (v4 + 1), none] σ5))) ∧
              ((r4 - r5) = 0 →
                (InR (v3 + 1) ∧
                (InR (v4 + 1) ∧
                (∃ n', n' < n ∧ Lp_Or_factorSize_6 a1 a2 σ0 n' [vR 1 0, vI a1, vI a2, vI (v3 + 1), vI (v4 + 1), none] σ5)))))) ∧
            ((r4 - r5) < 0 →
              (InR (v4 - v3) ∧
              (K (vI (v4 - v3)) σ5)))))))))))))))
theorem l_Or_factorSize_6 (a1 : Int) (a2 : Int) (σ0 : SS) (K : AV → SS → Prop) (ha1 : InR a1) (ha2 : InR a2) (hs0 : okS σ0) (hG : S_Or_factorSize [vR 1 0, vI a1, vI a2] σ0 K) (v3 : Int) (v4 : Int) (σ : SS) (hv3 : InR v3) (hv4 : InR v4) (hs : okS σ) (n : Nat) (hn : n = (1000 - v4).toNat) (hQ : (σ = σ0) ∧ (a2 < v4 ∧ v4 ≤ (σ0 501 0 0)) ∧ (a2 ≤ v3 ∧ v3 < v4) ∧ (lynS (vU (cW σ0) a1) a2 (a2 + (v4 - v3))) ∧ (per (vU (cW σ0) a1) a2 v4 (v4 - v3))) : VL_Or_factorSize_6 a1 a2 σ0 K v3 v4 σ n := by
  unfold VL_Or_factorSize_6
  obtain ⟨⟨hT, h1, h2⟩, hG⟩ := hG
  have hb := hT.n
  obtain ⟨rfl, q1, q2, q3, q4⟩ := hQ
  have at1 : ∀ p, atW (σ 20 0) (σ 501 0 0) p = cW σ p := fun p => rfl
  have fin : (v4 = (σ 501 0 0) ∨ vU (cW σ) a1 v4 < vU (cW σ) a1 v3) → K (vI (v4 - v3)) σ := fun z =>
    hG _ (lgL_of q3 (by omega) (by omega) q1.2 q4 (by rwa [show v4 - (v4 - v3) = v3 by omega]))
  have la := hT.let (x := v3) (by omega) (by omega)
  have lx := fun z : v4 < (σ 501 0 0) => hT.let (x := v4) (by omega) z
  have eqc : vU (cW σ) a1 v4 = vU (cW σ) a1 v3 → per (vU (cW σ) a1) a2 (v4 + 1) (v4 + 1 - (v3 + 1)) := fun z y y0 y1 => by
    rw [show v4 + 1 - (v3 + 1) = v4 - v3 by omega] at y1 ⊢
    rcases (by omega : y + (v4 - v3) < v4 ∨ y = v3) with g | g
    · exact q4 y y0 g
    · rw [g, show v3 + (v4 - v3) = v4 by omega]; exact z.symm
  have gtc : vU (cW σ) a1 v3 < vU (cW σ) a1 v4 → lynS (vU (cW σ) a1) a2 (v4 + 1) := fun z =>
    lyn_ext q3 (by omega) (by omega) q4 (by rwa [show v4 - (v4 - v3) = v3 by omega])
  have up1 : a1 ≠ 0 → ∀ x, vU (cW σ) a1 x = cW σ x := fun z x => if_neg z
  have up0 : a1 = 0 → ∀ x, vU (cW σ) a1 x = -(cW σ x) := fun z x => if_pos z
  intro _ _
  refine ⟨fun c1 => ?_, fun c1 => ?_⟩
  · skip
    refine ⟨(by omega), ?_⟩
    exact fin (Or.inl (by omega))
  · skip
    refine ⟨fun c2 => ?_, fun c2 => ?_⟩
    · skip
      refine ⟨(by first | assumption | omega | exact ⟨by first | assumption | omega, by omega⟩ | exact ⟨by assumption, by omega, by omega⟩ | exact ⟨by assumption, by omega, by omega, by omega⟩ | exact ⟨by assumption, by omega, by omega, by omega, by omega⟩ | exact ⟨by assumption, by omega, by omega, by omega, by omega, by omega⟩), ?_⟩
      intro _ _
      rw [at1]
      have lx1 := lx (by omega)
      refine ⟨(by first | assumption | omega | exact ⟨by first | assumption | omega, by omega⟩ | exact ⟨by assumption, by omega, by omega⟩ | exact ⟨by assumption, by omega, by omega, by omega⟩ | exact ⟨by assumption, by omega, by omega, by omega, by omega⟩ | exact ⟨by assumption, by omega, by omega, by omega, by omega, by omega⟩), ?_⟩
      intro _ _
      rw [at1]
      have lx1 := lx (by omega)
      refine ⟨(by omega), ?_⟩
      refine ⟨fun c3 => ?_, fun c3 => ?_⟩
      · skip
        refine ⟨fun c4 => ?_, fun c4 => ?_⟩
        · skip
          refine ⟨(by omega), ?_⟩
          refine ⟨_, ?_, _, _, rfl, rfl, ?_⟩
          · omega
          · refine ⟨?_, ?_, ?_, ?_, ?_⟩
            · first | rfl | assumption | omega
            · first | rfl | assumption | omega
            · first | rfl | assumption | omega
            · first | (rw [show a2 + (v4 + 1 - a2) = v4 + 1 by omega]; exact gtc (by first | (rw [up1 (by assumption), up1 (by assumption)]; omega) | (rw [up0 (by assumption), up0 (by assumption)]; omega))) | (rw [show a2 + (v4 + 1 - (v3 + 1)) = a2 + (v4 - v3) by omega]; exact q3)
            · first | exact eqc (by first | (rw [up1 (by assumption), up1 (by assumption)]; omega) | (rw [up0 (by assumption), up0 (by assumption)]; omega)) | exact fun y y0 y1 => by omega
        · skip
          refine ⟨(by omega), ?_⟩
          refine ⟨(by omega), ?_⟩
          refine ⟨_, ?_, _, _, rfl, rfl, ?_⟩
          · omega
          · refine ⟨?_, ?_, ?_, ?_, ?_⟩
            · first | rfl | assumption | omega
            · first | rfl | assumption | omega
            · first | rfl | assumption | omega
            · first | (rw [show a2 + (v4 + 1 - a2) = v4 + 1 by omega]; exact gtc (by first | (rw [up1 (by assumption), up1 (by assumption)]; omega) | (rw [up0 (by assumption), up0 (by assumption)]; omega))) | (rw [show a2 + (v4 + 1 - (v3 + 1)) = a2 + (v4 - v3) by omega]; exact q3)
            · first | exact eqc (by first | (rw [up1 (by assumption), up1 (by assumption)]; omega) | (rw [up0 (by assumption), up0 (by assumption)]; omega)) | exact fun y y0 y1 => by omega
      · skip
        refine ⟨(by omega), ?_⟩
        exact fin (Or.inr (by first | (rw [up1 (by assumption), up1 (by assumption)]; omega) | (rw [up0 (by assumption), up0 (by assumption)]; omega)))
    · skip
      refine ⟨(by first | assumption | omega | exact ⟨by first | assumption | omega, by omega⟩ | exact ⟨by assumption, by omega, by omega⟩ | exact ⟨by assumption, by omega, by omega, by omega⟩ | exact ⟨by assumption, by omega, by omega, by omega, by omega⟩ | exact ⟨by assumption, by omega, by omega, by omega, by omega, by omega⟩), ?_⟩
      intro _ _
      rw [at1]
      have lx1 := lx (by omega)
      refine ⟨(by first | assumption | omega | exact ⟨by first | assumption | omega, by omega⟩ | exact ⟨by assumption, by omega, by omega⟩ | exact ⟨by assumption, by omega, by omega, by omega⟩ | exact ⟨by assumption, by omega, by omega, by omega, by omega⟩ | exact ⟨by assumption, by omega, by omega, by omega, by omega, by omega⟩), ?_⟩
      intro _ _
      rw [at1]
      have lx1 := lx (by omega)
      refine ⟨(by omega), ?_⟩
      refine ⟨fun c3 => ?_, fun c3 => ?_⟩
      · skip
        refine ⟨fun c4 => ?_, fun c4 => ?_⟩
        · skip
          refine ⟨(by omega), ?_⟩
          refine ⟨_, ?_, _, _, rfl, rfl, ?_⟩
          · omega
          · refine ⟨?_, ?_, ?_, ?_, ?_⟩
            · first | rfl | assumption | omega
            · first | rfl | assumption | omega
            · first | rfl | assumption | omega
            · first | (rw [show a2 + (v4 + 1 - a2) = v4 + 1 by omega]; exact gtc (by first | (rw [up1 (by assumption), up1 (by assumption)]; omega) | (rw [up0 (by assumption), up0 (by assumption)]; omega))) | (rw [show a2 + (v4 + 1 - (v3 + 1)) = a2 + (v4 - v3) by omega]; exact q3)
            · first | exact eqc (by first | (rw [up1 (by assumption), up1 (by assumption)]; omega) | (rw [up0 (by assumption), up0 (by assumption)]; omega)) | exact fun y y0 y1 => by omega
        · skip
          refine ⟨(by omega), ?_⟩
          refine ⟨(by omega), ?_⟩
          refine ⟨_, ?_, _, _, rfl, rfl, ?_⟩
          · omega
          · refine ⟨?_, ?_, ?_, ?_, ?_⟩
            · first | rfl | assumption | omega
            · first | rfl | assumption | omega
            · first | rfl | assumption | omega
            · first | (rw [show a2 + (v4 + 1 - a2) = v4 + 1 by omega]; exact gtc (by first | (rw [up1 (by assumption), up1 (by assumption)]; omega) | (rw [up0 (by assumption), up0 (by assumption)]; omega))) | (rw [show a2 + (v4 + 1 - (v3 + 1)) = a2 + (v4 - v3) by omega]; exact q3)
            · first | exact eqc (by first | (rw [up1 (by assumption), up1 (by assumption)]; omega) | (rw [up0 (by assumption), up0 (by assumption)]; omega)) | exact fun y y0 y1 => by omega
      · skip
        refine ⟨(by omega), ?_⟩
        exact fin (Or.inr (by first | (rw [up1 (by assumption), up1 (by assumption)]; omega) | (rw [up0 (by assumption), up0 (by assumption)]; omega)))
theorem e_Or_factorSize (a1 : Int) (a2 : Int) (σ : SS) (K : AV → SS → Prop) (ha1 : InR a1) (ha2 : InR a2) (hs : okS σ) (hG : S_Or_factorSize [vR 1 0, vI a1, vI a2] σ K) : VE_Or_factorSize a1 a2 σ K := by
  unfold VE_Or_factorSize
  obtain ⟨⟨hT, h1, h2⟩, hG⟩ := hG
  have hb := hT.n
  refine ⟨(by omega), ?_⟩
  refine ⟨_, _, _, rfl, rfl, ?_⟩
  refine ⟨?_, ?_, ?_, ?_, ?_⟩
  · first | rfl | assumption | omega
  · first | rfl | assumption | omega
  · first | rfl | assumption | omega
  · rw [show a2 + (a2 + 1 - a2) = a2 + 1 by omega]; exact lyn_1
  · exact fun y y0 y1 => by omega
theorem H_Or_factorSize {d : Nat} (hd : 2 ≤ d) : Holds d I_Or_factorSize S_Or_factorSize := by
  refine holds_of (d' := d - 1) (rt := 1) (cal := [(I_Wo_size, S_Wo_size), (I_Wo_at, S_Wo_at)]) (C := C_Or_factorSize) m_Or_factorSize o_Or_factorSize rfl rfl (by omega) ?_ ?_
  · intro x hx
    simp only [List.mem_cons, List.not_mem_nil, or_false] at hx
    rcases hx with rfl | rfl
    · exact H_Wo_size (by omega)
    · exact H_Wo_at (by omega)
  · intro as σ K has hσ hG
    have hG2 := hG
    unfold S_Or_factorSize at hG2
    split at hG2
    · next a1 a2 =>
      refine ⟨Nat.le_of_ble_eq_true rfl, (Iv_Or_factorSize a1 a2 σ), ?_, 1000, ?_⟩
      · intro k n z L σ' hk hL hs hP
        unfold Iv_Or_factorSize at hk
        split at hk
        · cases hk
          obtain ⟨v3, v4, rfl, hn, hQ⟩ := hP
          exact ⟨1000, l_Or_factorSize_6 a1 a2 σ K (has _ (List.mem_of_getElem? (i := 1) rfl)) (has _ (List.mem_of_getElem? (i := 2) rfl)) hσ hG v3 v4 σ' (hL _ (List.mem_of_getElem? (i := 3) rfl)) (hL _ (List.mem_of_getElem? (i := 4) rfl)) hs n hn hQ⟩
        · cases hk
      · exact e_Or_factorSize a1 a2 σ K (has _ (List.mem_of_getElem? (i := 1) rfl)) (has _ (List.mem_of_getElem? (i := 2) rfl)) hσ hG
    · exact hG2.elim
def S_Or_factorBegin : GS := fun as σ K => match as with
  | [some (.inr (.inr (1, 0))), some (.inl a1), some (.inl a2)] => (TwC σ ∧ -1 ≤ a2) ∧ ∀ r, RLyn (cW σ) (σ 501 0 0) a1 a2 r → K (vI r) σ
  | _ => False
abbrev Lp_Or_factorBegin_4 (a1 : Int) (a2 : Int) (σ0 : SS) (n : Nat) (L : List AV) (σ : SS) : Prop := ∃ (v3 : Int) (v4 : Int), L = [vR 1 0, vI a1, vI a2, vI v3, vI v4] ∧ n = (1000 - v4).toNat ∧ ((σ = σ0) ∧ (0 ≤ v3 ∧ (0 ≤ a2 → v3 ≤ a2)) ∧ (v4 = lyF (vU (cW σ0) a1) (σ0 501 0 0) v3.toNat) ∧ (v4 ≤ (σ0 501 0 0)) ∧ (∀ j : Nat, (j : Int) < v3 → lyF (vU (cW σ0) a1) (σ0 501 0 0) j < (σ0 501 0 0)))
def Iv_Or_factorBegin (a1 : Int) (a2 : Int) (σ0 : SS) (k : Nat) : Option (List Nat × (Nat → List AV → SS → Prop)) := match k with
  | 4 => some ([], Lp_Or_factorBegin_4 a1 a2 σ0)
  | _ => none
def VE_Or_factorBegin (a1 : Int) (a2 : Int) (σ : SS) (K : AV → SS → Prop) : Prop :=
  (∃ n', Lp_Or_factorBegin_4 a1 a2 σ n' [vR 1 0, vI a1, vI a2, vI 0, vI 0] σ)
def VL_Or_factorBegin_4 (a1 : Int) (a2 : Int) (σ0 : SS) (K : AV → SS → Prop) (v3 : Int) (v4 : Int) (σ : SS) (n : Nat) : Prop :=
  (S_Wo_size [vR 10 0] σ (kI fun r1 σ1 =>
    ((r1 ≤ v4 →
      ((a2 ≠ (-1) →
        (K (vI (-2)) σ1)) ∧
      (a2 = (-1) →
        (K (vI v3) σ1)))) ∧
    (v4 < r1 →
      ((v3 ≠ a2 →
        (InR (v3 + 1) ∧
        (S_Or_factorSize [vR 1 0, vI a1, vI v4] σ1 (kI fun r2 σ2 =>
          (InR (v4 + (max 1 r2)) ∧
          (∃ n', n' < n ∧ Lp_Or_factorBegin_4 a1 a2 σ0 n' [vR 1 0, vI a1, vI a2, vI (v3 + 1), vI (v4 + (max 1 r2))] σ2)))))) ∧
      (v3 = a2 →
        (K (vI v4) σ1)))))))
theorem l_Or_factorBegin_4 (a1 : Int) (a2 : Int) (σ0 : SS) (K : AV → SS → Prop) (ha1 : InR a1) (ha2 : InR a2) (hs0 : okS σ0) (hG : S_Or_factorBegin [vR 1 0, vI a1, vI a2] σ0 K) (v3 : Int) (v4 : Int) (σ : SS) (hv3 : InR v3) (hv4 : InR v4) (hs : okS σ) (n : Nat) (hn : n = (1000 - v4).toNat) (hQ : (σ = σ0) ∧ (0 ≤ v3 ∧ (0 ≤ a2 → v3 ≤ a2)) ∧ (v4 = lyF (vU (cW σ0) a1) (σ0 501 0 0) v3.toNat) ∧ (v4 ≤ (σ0 501 0 0)) ∧ (∀ j : Nat, (j : Int) < v3 → lyF (vU (cW σ0) a1) (σ0 501 0 0) j < (σ0 501 0 0))) : VL_Or_factorBegin_4 a1 a2 σ0 K v3 v4 σ n := by
  unfold VL_Or_factorBegin_4
  obtain ⟨⟨hT, h1⟩, hG⟩ := hG
  have hb := hT.n
  obtain ⟨rfl, q1, q2, q3, q4⟩ := hQ
  have le := lyF_le (v := vU (cW σ) a1) (n := (σ 501 0 0)) v3.toNat
  intro _ _
  refine ⟨fun c1 => ?_, fun c1 => ?_⟩
  · skip
    refine ⟨fun c2 => ?_, fun c2 => ?_⟩
    · skip
      have mo := lyF_mono (v := vU (cW σ) a1) (n := (σ 501 0 0)) (j := v3.toNat) a2.toNat (by omega)
      exact hG _ (Or.inr (Or.inr (Or.inr ⟨by omega, by omega, rfl⟩)))
    · skip
      exact hG _ (Or.inr (Or.inl ⟨by omega, v3.toNat, by omega, by omega, fun j hj => q4 j (by omega)⟩))
  · skip
    refine ⟨fun c2 => ?_, fun c2 => ?_⟩
    · skip
      refine ⟨(by omega), ?_⟩
      refine ⟨(by exact ⟨hT, by omega, by omega⟩), (fun r3 h3a => ?_)⟩
      intro _ _
      have hl := h3a
      have ge := lgF_eq hl
      have st : lyF (vU (cW σ) a1) (σ 501 0 0) (v3.toNat + 1) = lyF (vU (cW σ) a1) (σ 501 0 0) v3.toNat + lgF (vU (cW σ) a1) (σ 501 0 0) (lyF (vU (cW σ) a1) (σ 501 0 0) v3.toNat) := rfl
      rw [← q2, ge] at st
      have hl1 := hl.1
      have hl2 := hl.2.1
      refine ⟨(by omega), ?_⟩
      refine ⟨_, ?_, _, _, rfl, rfl, ?_⟩
      · omega
      · refine ⟨?_, ?_, ?_, ?_, ?_⟩
        · first | rfl | assumption | omega
        · first | rfl | assumption | omega
        · rw [show (v3 + 1).toNat = v3.toNat + 1 by omega, st]; omega
        · first | rfl | assumption | omega
        · intro j hj
          rcases (by omega : (j : Int) < v3 ∨ j = v3.toNat) with z | z
          · exact q4 j z
          · rw [z, ← q2]; omega
    · skip
      exact hG _ (Or.inr (Or.inr (Or.inl ⟨by omega, by rw [show a2 = v3 by omega]; omega, by rw [show a2 = v3 by omega]; exact q2⟩)))
theorem e_Or_factorBegin (a1 : Int) (a2 : Int) (σ : SS) (K : AV → SS → Prop) (ha1 : InR a1) (ha2 : InR a2) (hs : okS σ) (hG : S_Or_factorBegin [vR 1 0, vI a1, vI a2] σ K) : VE_Or_factorBegin a1 a2 σ K := by
  unfold VE_Or_factorBegin
  obtain ⟨⟨hT, h1⟩, hG⟩ := hG
  have hb := hT.n
  refine ⟨_, _, _, rfl, rfl, ?_⟩
  refine ⟨?_, ?_, ?_, ?_, ?_⟩
  · first | rfl | assumption | omega
  · first | rfl | assumption | omega
  · first | rfl | assumption | omega
  · first | rfl | assumption | omega
  · exact fun j j0 => by omega
theorem H_Or_factorBegin {d : Nat} (hd : 3 ≤ d) : Holds d I_Or_factorBegin S_Or_factorBegin := by
  refine holds_of (d' := d - 1) (rt := 1) (cal := [(I_Wo_size, S_Wo_size), (I_Or_factorSize, S_Or_factorSize)]) (C := C_Or_factorBegin) m_Or_factorBegin o_Or_factorBegin rfl rfl (by omega) ?_ ?_
  · intro x hx
    simp only [List.mem_cons, List.not_mem_nil, or_false] at hx
    rcases hx with rfl | rfl
    · exact H_Wo_size (by omega)
    · exact H_Or_factorSize (by omega)
  · intro as σ K has hσ hG
    have hG2 := hG
    unfold S_Or_factorBegin at hG2
    split at hG2
    · next a1 a2 =>
      refine ⟨Nat.le_of_ble_eq_true rfl, (Iv_Or_factorBegin a1 a2 σ), ?_, 1000, ?_⟩
      · intro k n z L σ' hk hL hs hP
        unfold Iv_Or_factorBegin at hk
        split at hk
        · cases hk
          obtain ⟨v3, v4, rfl, hn, hQ⟩ := hP
          exact ⟨1000, l_Or_factorBegin_4 a1 a2 σ K (has _ (List.mem_of_getElem? (i := 1) rfl)) (has _ (List.mem_of_getElem? (i := 2) rfl)) hσ hG v3 v4 σ' (hL _ (List.mem_of_getElem? (i := 3) rfl)) (hL _ (List.mem_of_getElem? (i := 4) rfl)) hs n hn hQ⟩
        · cases hk
      · exact e_Or_factorBegin a1 a2 σ K (has _ (List.mem_of_getElem? (i := 1) rfl)) (has _ (List.mem_of_getElem? (i := 2) rfl)) hσ hG
    · exact hG2.elim
def S_Wr_lyndon : GS := fun as σ K => match as with
  | [some (.inr (.inr (11, 0))), some (.inl a1), some (.inl a2)] => TwC σ ∧ ∀ r, RLyn (cW σ) (σ 501 0 0) a1 a2 r → K (vI r) σ
  | _ => False
def VE_Wr_lyndon (a1 : Int) (a2 : Int) (σ : SS) (K : AV → SS → Prop) : Prop :=
  ((a2 < (-1) →
    (K (vI (-1)) σ)) ∧
  ((-1 : Int) ≤ a2 →
    (S_Or_factorBegin [vR 1 0, vI a1, vI a2] σ (kI fun r1 σ1 =>
      (K (vI r1) σ1)))))
theorem e_Wr_lyndon (a1 : Int) (a2 : Int) (σ : SS) (K : AV → SS → Prop) (ha1 : InR a1) (ha2 : InR a2) (hs : okS σ) (hG : S_Wr_lyndon [vR 11 0, vI a1, vI a2] σ K) : VE_Wr_lyndon a1 a2 σ K := by
  unfold VE_Wr_lyndon
  obtain ⟨hT, hG⟩ := hG
  refine ⟨fun c1 => ?_, fun c1 => ?_⟩
  · skip
    exact hG _ (Or.inl ⟨by omega, rfl⟩)
  · skip
    refine ⟨(by exact ⟨hT, by omega⟩), (fun r2 h2a => ?_)⟩
    intro _ _
    exact hG _ (by assumption)
theorem H_Wr_lyndon {d : Nat} (hd : 4 ≤ d) : Holds d I_Wr_lyndon S_Wr_lyndon := by
  refine holds_of (d' := d - 1) (rt := 1) (cal := [(I_Or_factorBegin, S_Or_factorBegin)]) (C := C_Wr_lyndon) m_Wr_lyndon o_Wr_lyndon rfl rfl (by omega) ?_ ?_
  · intro x hx
    simp only [List.mem_cons, List.not_mem_nil, or_false] at hx
    subst hx
    exact H_Or_factorBegin (by omega)
  · intro as σ K has hσ hG
    have hG2 := hG
    unfold S_Wr_lyndon at hG2
    split at hG2
    · next a1 a2 =>
      refine ⟨Nat.le_of_ble_eq_true rfl, (fun _ => none), ?_, 1000, ?_⟩
      · intro k n z L σ' hk hL hs hP
        cases hk
      · exact e_Wr_lyndon a1 a2 σ K (has _ (List.mem_of_getElem? (i := 1) rfl)) (has _ (List.mem_of_getElem? (i := 2) rfl)) hσ hG
    · exact hG2.elim
def S_Wr_longest : GS := fun as σ K => match as with
  | [some (.inr (.inr (11, 0))), some (.inl a1), some (.inl a2)] => TwC σ ∧ ∀ r, RLon (cW σ) (σ 501 0 0) a1 a2 r → K (vI r) σ
  | _ => False
def VE_Wr_longest (a1 : Int) (a2 : Int) (σ : SS) (K : AV → SS → Prop) : Prop :=
  (S_Wr_isPlace [vR 11 0, vI a2] σ (kI fun r1 σ1 =>
    ((r1 = 0 →
      (K (vI (-1)) σ1)) ∧
    (r1 ≠ 0 →
      (S_Or_factorSize [vR 1 0, vI a1, vI a2] σ1 (kI fun r2 σ2 =>
        (K (vI r2) σ2)))))))
theorem e_Wr_longest (a1 : Int) (a2 : Int) (σ : SS) (K : AV → SS → Prop) (ha1 : InR a1) (ha2 : InR a2) (hs : okS σ) (hG : S_Wr_longest [vR 11 0, vI a1, vI a2] σ K) : VE_Wr_longest a1 a2 σ K := by
  unfold VE_Wr_longest
  obtain ⟨hT, hG⟩ := hG
  refine bS_b0 (fun p1 _ => ?_) (fun p1 _ => ?_)
  · skip
    refine ⟨(by exact ⟨hT, by omega, by omega⟩), (fun r2 h2a => ?_)⟩
    intro _ _
    exact hG _ (gd_y (by omega) (by assumption))
  · skip
    exact hG _ (gd_n (by omega))
theorem H_Wr_longest {d : Nat} (hd : 3 ≤ d) : Holds d I_Wr_longest S_Wr_longest := by
  refine holds_of (d' := d - 1) (rt := 1) (cal := [(I_Wr_isPlace, S_Wr_isPlace), (I_Or_factorSize, S_Or_factorSize)]) (C := C_Wr_longest) m_Wr_longest o_Wr_longest rfl rfl (by omega) ?_ ?_
  · intro x hx
    simp only [List.mem_cons, List.not_mem_nil, or_false] at hx
    rcases hx with rfl | rfl
    · exact H_Wr_isPlace (by omega)
    · exact H_Or_factorSize (by omega)
  · intro as σ K has hσ hG
    have hG2 := hG
    unfold S_Wr_longest at hG2
    split at hG2
    · next a1 a2 =>
      refine ⟨Nat.le_of_ble_eq_true rfl, (fun _ => none), ?_, 1000, ?_⟩
      · intro k n z L σ' hk hL hs hP
        cases hk
      · exact e_Wr_longest a1 a2 σ K (has _ (List.mem_of_getElem? (i := 1) rfl)) (has _ (List.mem_of_getElem? (i := 2) rfl)) hσ hG
    · exact hG2.elim
def S_Mo_isLyndon : GS := fun as σ K => match as with
  | [some (.inr (.inr (12, 0))), some (.inl a1), some (.inl a2), some (.inl a3)] => (MoW σ ∧ 0 ≤ a1 ∧ a1 < a2 ∧ a2 ≤ (σ 40 0 0)) ∧ bS (lynS (vU (mW σ) a3) a1 a2) K σ
  | _ => False
abbrev Lp_Mo_isLyndon_2 (a1 : Int) (a2 : Int) (a3 : Int) (σ0 : SS) (n : Nat) (L : List AV) (σ : SS) : Prop := ∃ (v4 : Int), L = [vR 12 0, vI a1, vI a2, vI a3, vI v4] ∧ n = (1000 - v4).toNat ∧ ((σ = σ0) ∧ (1 ≤ v4 ∧ v4 ≤ a2 - a1) ∧ (∀ r, 1 ≤ r → r < v4 → rotLt (vU (mW σ0) a3) a1 (a2 - a1) 0 r))
def Iv_Mo_isLyndon (a1 : Int) (a2 : Int) (a3 : Int) (σ0 : SS) (k : Nat) : Option (List Nat × (Nat → List AV → SS → Prop)) := match k with
  | 2 => some ([], Lp_Mo_isLyndon_2 a1 a2 a3 σ0)
  | _ => none
def VE_Mo_isLyndon (a1 : Int) (a2 : Int) (a3 : Int) (σ : SS) (K : AV → SS → Prop) : Prop :=
  (∃ n', Lp_Mo_isLyndon_2 a1 a2 a3 σ n' [vR 12 0, vI a1, vI a2, vI a3, vI 1] σ)
def VL_Mo_isLyndon_2 (a1 : Int) (a2 : Int) (a3 : Int) (σ0 : SS) (K : AV → SS → Prop) (v4 : Int) (σ : SS) (n : Nat) : Prop :=
  (InR (a2 - a1) ∧
  (((a2 - a1) ≤ v4 →
    ((0 ≤ (1 : Int) ∧ (1 : Int) ≤ 1) ∧ K (vI 1) σ)) ∧
  (v4 < (a2 - a1) →
    (S_Mo_rotated [vR 12 0, vI a1, vI a2, vI v4, vI 0, vI a3] σ (kI fun r1 σ1 =>
      (((0 : Int) < r1 →
        (InR (v4 + 1) ∧
        (∃ n', n' < n ∧ Lp_Mo_isLyndon_2 a1 a2 a3 σ0 n' [vR 12 0, vI a1, vI a2, vI a3, vI (v4 + 1)] σ1))) ∧
      (r1 ≤ 0 →
        ((0 ≤ (0 : Int) ∧ (0 : Int) ≤ 1) ∧ K (vI 0) σ1))))))))
theorem l_Mo_isLyndon_2 (a1 : Int) (a2 : Int) (a3 : Int) (σ0 : SS) (K : AV → SS → Prop) (ha1 : InR a1) (ha2 : InR a2) (ha3 : InR a3) (hs0 : okS σ0) (hG : S_Mo_isLyndon [vR 12 0, vI a1, vI a2, vI a3] σ0 K) (v4 : Int) (σ : SS) (hv4 : InR v4) (hs : okS σ) (n : Nat) (hn : n = (1000 - v4).toNat) (hQ : (σ = σ0) ∧ (1 ≤ v4 ∧ v4 ≤ a2 - a1) ∧ (∀ r, 1 ≤ r → r < v4 → rotLt (vU (mW σ0) a3) a1 (a2 - a1) 0 r)) : VL_Mo_isLyndon_2 a1 a2 a3 σ0 K v4 σ n := by
  unfold VL_Mo_isLyndon_2
  obtain ⟨⟨hM, h1, h2, h3⟩, hG⟩ := hG
  have hb := hM.n
  obtain ⟨rfl, q1, q2⟩ := hQ
  refine ⟨(by omega), ?_⟩
  refine ⟨fun c1 => ?_, fun c1 => ?_⟩
  · skip
    exact bS_y hG (lyn_SR.mp ⟨h2, fun r r0 r1 => q2 r r0 (by omega)⟩)
  · skip
    refine ⟨(by exact ⟨hM, by omega, by omega, by omega, by omega, by omega, by omega, by omega⟩), (fun r2 h2a => ?_)⟩
    intro _ _
    have rp := rotC_pos h2a
    refine ⟨fun c3 => ?_, fun c3 => ?_⟩
    · skip
      refine ⟨(by omega), ?_⟩
      refine ⟨_, ?_, _, rfl, rfl, ?_⟩
      · omega
      · refine ⟨?_, ?_, ?_⟩
        · first | rfl | assumption | omega
        · first | rfl | assumption | omega
        · intro r r0 r1
          rcases (by omega : r < v4 ∨ r = v4) with z | rfl
          · exact q2 r r0 z
          · exact rp.mp (by assumption)
    · skip
      refine bS_n hG (fun z => ?_)
      have := rp.mpr ((lyn_SR.mpr z).2 v4 q1.1 (by omega))
      omega
theorem e_Mo_isLyndon (a1 : Int) (a2 : Int) (a3 : Int) (σ : SS) (K : AV → SS → Prop) (ha1 : InR a1) (ha2 : InR a2) (ha3 : InR a3) (hs : okS σ) (hG : S_Mo_isLyndon [vR 12 0, vI a1, vI a2, vI a3] σ K) : VE_Mo_isLyndon a1 a2 a3 σ K := by
  unfold VE_Mo_isLyndon
  obtain ⟨⟨hM, h1, h2, h3⟩, hG⟩ := hG
  have hb := hM.n
  refine ⟨_, _, rfl, rfl, ?_⟩
  refine ⟨?_, ?_, ?_⟩
  · first | rfl | assumption | omega
  · first | rfl | assumption | omega
  · exact fun r r0 r1 => by omega
theorem H_Mo_isLyndon {d : Nat} (hd : 3 ≤ d) : Holds d I_Mo_isLyndon S_Mo_isLyndon := by
  refine holds_of (d' := d - 1) (rt := 2) (cal := [(I_Mo_rotated, S_Mo_rotated)]) (C := C_Mo_isLyndon) m_Mo_isLyndon o_Mo_isLyndon rfl rfl (by omega) ?_ ?_
  · intro x hx
    simp only [List.mem_cons, List.not_mem_nil, or_false] at hx
    subst hx
    exact H_Mo_rotated (by omega)
  · intro as σ K has hσ hG
    have hG2 := hG
    unfold S_Mo_isLyndon at hG2
    split at hG2
    · next a1 a2 a3 =>
      refine ⟨Nat.le_of_ble_eq_true rfl, (Iv_Mo_isLyndon a1 a2 a3 σ), ?_, 1000, ?_⟩
      · intro k n z L σ' hk hL hs hP
        unfold Iv_Mo_isLyndon at hk
        split at hk
        · cases hk
          obtain ⟨v4, rfl, hn, hQ⟩ := hP
          exact ⟨1000, l_Mo_isLyndon_2 a1 a2 a3 σ K (has _ (List.mem_of_getElem? (i := 1) rfl)) (has _ (List.mem_of_getElem? (i := 2) rfl)) (has _ (List.mem_of_getElem? (i := 3) rfl)) hσ hG v4 σ' (hL _ (List.mem_of_getElem? (i := 4) rfl)) hs n hn hQ⟩
        · cases hk
      · exact e_Mo_isLyndon a1 a2 a3 σ K (has _ (List.mem_of_getElem? (i := 1) rfl)) (has _ (List.mem_of_getElem? (i := 2) rfl)) (has _ (List.mem_of_getElem? (i := 3) rfl)) hσ hG
    · exact hG2.elim
def S_Mo_longestFrom : GS := fun as σ K => match as with
  | [some (.inr (.inr (12, 0))), some (.inl a1), some (.inl a2)] => (MoW σ ∧ 0 ≤ a1 ∧ a1 < (σ 40 0 0)) ∧ ∀ r, lgL (vU (mW σ) a2) (σ 40 0 0) a1 r → K (vI r) σ
  | _ => False
abbrev Lp_Mo_longestFrom_3 (a1 : Int) (a2 : Int) (σ0 : SS) (n : Nat) (L : List AV) (σ : SS) : Prop := ∃ (v3 : Int), L = [vR 12 0, vI a1, vI a2, vI v3] ∧ n = (v3).toNat ∧ ((σ = σ0) ∧ (a1 < v3 ∧ v3 ≤ (σ0 40 0 0)) ∧ (∀ l, v3 - a1 < l → a1 + l ≤ (σ0 40 0 0) → ¬ lynS (vU (mW σ0) a2) a1 (a1 + l)))
def Iv_Mo_longestFrom (a1 : Int) (a2 : Int) (σ0 : SS) (k : Nat) : Option (List Nat × (Nat → List AV → SS → Prop)) := match k with
  | 3 => some ([], Lp_Mo_longestFrom_3 a1 a2 σ0)
  | _ => none
def VE_Mo_longestFrom (a1 : Int) (a2 : Int) (σ : SS) (K : AV → SS → Prop) : Prop :=
  (S_Mo_size [vR 12 0] σ (kI fun r1 σ1 =>
    (∃ n', Lp_Mo_longestFrom_3 a1 a2 σ n' [vR 12 0, vI a1, vI a2, vI r1] σ1)))
def VL_Mo_longestFrom_3 (a1 : Int) (a2 : Int) (σ0 : SS) (K : AV → SS → Prop) (v3 : Int) (σ : SS) (n : Nat) : Prop :=
  (S_Mo_isLyndon [vR 12 0, vI a1, vI v3, vI a2] σ (kI fun r1 σ1 =>
    ((r1 ≠ 0 →
      (InR (v3 - a1) ∧
      (K (vI (v3 - a1)) σ1))) ∧
    (r1 = 0 →
      (InR (v3 + (-1)) ∧
      (∃ n', n' < n ∧ Lp_Mo_longestFrom_3 a1 a2 σ0 n' [vR 12 0, vI a1, vI a2, vI (v3 + (-1))] σ1))))))
theorem l_Mo_longestFrom_3 (a1 : Int) (a2 : Int) (σ0 : SS) (K : AV → SS → Prop) (ha1 : InR a1) (ha2 : InR a2) (hs0 : okS σ0) (hG : S_Mo_longestFrom [vR 12 0, vI a1, vI a2] σ0 K) (v3 : Int) (σ : SS) (hv3 : InR v3) (hs : okS σ) (n : Nat) (hn : n = (v3).toNat) (hQ : (σ = σ0) ∧ (a1 < v3 ∧ v3 ≤ (σ0 40 0 0)) ∧ (∀ l, v3 - a1 < l → a1 + l ≤ (σ0 40 0 0) → ¬ lynS (vU (mW σ0) a2) a1 (a1 + l))) : VL_Mo_longestFrom_3 a1 a2 σ0 K v3 σ n := by
  unfold VL_Mo_longestFrom_3
  obtain ⟨⟨hM, h1, h2⟩, hG⟩ := hG
  have hb := hM.n
  obtain ⟨rfl, q1, q2⟩ := hQ
  refine ⟨(by first | assumption | omega | exact ⟨by first | assumption | omega, by omega⟩ | exact ⟨by assumption, by omega, by omega⟩ | exact ⟨by assumption, by omega, by omega, by omega⟩ | exact ⟨by assumption, by omega, by omega, by omega, by omega⟩ | exact ⟨by assumption, by omega, by omega, by omega, by omega, by omega⟩), ?_⟩
  refine bS_b1 (fun p1 _ => ?_) (fun p1 _ => ?_)
  · skip
    refine ⟨(by omega), ?_⟩
    exact hG _ ⟨by omega, by omega, by rwa [show a1 + (v3 - a1) = v3 by omega], q2⟩
  · skip
    have ne : v3 ≠ a1 + 1 := fun z => p1 (by rw [z]; exact lyn_1)
    refine ⟨(by omega), ?_⟩
    refine ⟨_, ?_, _, rfl, rfl, ?_⟩
    · omega
    · refine ⟨?_, ?_, ?_⟩
      · first | rfl | assumption | omega
      · first | rfl | assumption | omega
      · intro l l0 l1
        rcases (by omega : v3 - a1 < l ∨ a1 + l = v3) with z | z
        · exact q2 l z l1
        · rw [z]; assumption
theorem e_Mo_longestFrom (a1 : Int) (a2 : Int) (σ : SS) (K : AV → SS → Prop) (ha1 : InR a1) (ha2 : InR a2) (hs : okS σ) (hG : S_Mo_longestFrom [vR 12 0, vI a1, vI a2] σ K) : VE_Mo_longestFrom a1 a2 σ K := by
  unfold VE_Mo_longestFrom
  obtain ⟨⟨hM, h1, h2⟩, hG⟩ := hG
  have hb := hM.n
  intro _ _
  refine ⟨_, _, rfl, rfl, ?_⟩
  refine ⟨?_, ?_, ?_⟩
  · first | rfl | assumption | omega
  · first | rfl | assumption | omega
  · exact fun l l0 l1 => by omega
theorem H_Mo_longestFrom {d : Nat} (hd : 4 ≤ d) : Holds d I_Mo_longestFrom S_Mo_longestFrom := by
  refine holds_of (d' := d - 1) (rt := 1) (cal := [(I_Mo_size, S_Mo_size), (I_Mo_isLyndon, S_Mo_isLyndon)]) (C := C_Mo_longestFrom) m_Mo_longestFrom o_Mo_longestFrom rfl rfl (by omega) ?_ ?_
  · intro x hx
    simp only [List.mem_cons, List.not_mem_nil, or_false] at hx
    rcases hx with rfl | rfl
    · exact H_Mo_size (by omega)
    · exact H_Mo_isLyndon (by omega)
  · intro as σ K has hσ hG
    have hG2 := hG
    unfold S_Mo_longestFrom at hG2
    split at hG2
    · next a1 a2 =>
      refine ⟨Nat.le_of_ble_eq_true rfl, (Iv_Mo_longestFrom a1 a2 σ), ?_, 1000, ?_⟩
      · intro k n z L σ' hk hL hs hP
        unfold Iv_Mo_longestFrom at hk
        split at hk
        · cases hk
          obtain ⟨v3, rfl, hn, hQ⟩ := hP
          exact ⟨1000, l_Mo_longestFrom_3 a1 a2 σ K (has _ (List.mem_of_getElem? (i := 1) rfl)) (has _ (List.mem_of_getElem? (i := 2) rfl)) hσ hG v3 σ' (hL _ (List.mem_of_getElem? (i := 3) rfl)) hs n hn hQ⟩
        · cases hk
      · exact e_Mo_longestFrom a1 a2 σ K (has _ (List.mem_of_getElem? (i := 1) rfl)) (has _ (List.mem_of_getElem? (i := 2) rfl)) hσ hG
    · exact hG2.elim
def S_Mo_lyndon : GS := fun as σ K => match as with
  | [some (.inr (.inr (12, 0))), some (.inl a1), some (.inl a2)] => MoW σ ∧ ∀ r, RLyn (mW σ) (σ 40 0 0) a1 a2 r → K (vI r) σ
  | _ => False
abbrev Lp_Mo_lyndon_9 (a1 : Int) (a2 : Int) (σ0 : SS) (n : Nat) (L : List AV) (σ : SS) : Prop := ∃ (v3 : Int) (v4 : Int), L = [vR 12 0, vI a1, vI a2, vI v3, vI v4] ∧ n = (1000 - v4).toNat ∧ ((σ = σ0) ∧ (-1 ≤ a2) ∧ (0 ≤ v3 ∧ (0 ≤ a2 → v3 ≤ a2)) ∧ (v4 = lyF (vU (mW σ0) a1) (σ0 40 0 0) v3.toNat) ∧ (v4 ≤ (σ0 40 0 0)) ∧ (∀ j : Nat, (j : Int) < v3 → lyF (vU (mW σ0) a1) (σ0 40 0 0) j < (σ0 40 0 0)))
def Iv_Mo_lyndon (a1 : Int) (a2 : Int) (σ0 : SS) (k : Nat) : Option (List Nat × (Nat → List AV → SS → Prop)) := match k with
  | 9 => some ([], Lp_Mo_lyndon_9 a1 a2 σ0)
  | _ => none
def VE_Mo_lyndon (a1 : Int) (a2 : Int) (σ : SS) (K : AV → SS → Prop) : Prop :=
  (((-1 : Int) ≤ a2 →
    (∃ n', Lp_Mo_lyndon_9 a1 a2 σ n' [vR 12 0, vI a1, vI a2, vI 0, vI 0] σ)) ∧
  (a2 < (-1) →
    (K (vI (-1)) σ)))
def VL_Mo_lyndon_9 (a1 : Int) (a2 : Int) (σ0 : SS) (K : AV → SS → Prop) (v3 : Int) (v4 : Int) (σ : SS) (n : Nat) : Prop :=
  (S_Mo_size [vR 12 0] σ (kI fun r1 σ1 =>
    ((r1 ≤ v4 →
      ((a2 ≠ (-1) →
        (K (vI (-2)) σ1)) ∧
      (a2 = (-1) →
        (K (vI v3) σ1)))) ∧
    (v4 < r1 →
      ((v3 ≠ a2 →
        (InR (v3 + 1) ∧
        (S_Mo_longestFrom [vR 12 0, vI v4, vI a1] σ1 (kI fun r2 σ2 =>
          (InR (v4 + r2) ∧
          (∃ n', n' < n ∧ Lp_Mo_lyndon_9 a1 a2 σ0 n' [vR 12 0, vI a1, vI a2, vI (v3 + 1), vI (v4 + r2)] σ2)))))) ∧
      (v3 = a2 →
        (K (vI v4) σ1)))))))
theorem l_Mo_lyndon_9 (a1 : Int) (a2 : Int) (σ0 : SS) (K : AV → SS → Prop) (ha1 : InR a1) (ha2 : InR a2) (hs0 : okS σ0) (hG : S_Mo_lyndon [vR 12 0, vI a1, vI a2] σ0 K) (v3 : Int) (v4 : Int) (σ : SS) (hv3 : InR v3) (hv4 : InR v4) (hs : okS σ) (n : Nat) (hn : n = (1000 - v4).toNat) (hQ : (σ = σ0) ∧ (-1 ≤ a2) ∧ (0 ≤ v3 ∧ (0 ≤ a2 → v3 ≤ a2)) ∧ (v4 = lyF (vU (mW σ0) a1) (σ0 40 0 0) v3.toNat) ∧ (v4 ≤ (σ0 40 0 0)) ∧ (∀ j : Nat, (j : Int) < v3 → lyF (vU (mW σ0) a1) (σ0 40 0 0) j < (σ0 40 0 0))) : VL_Mo_lyndon_9 a1 a2 σ0 K v3 v4 σ n := by
  unfold VL_Mo_lyndon_9
  obtain ⟨hM, hG⟩ := hG
  have hb := hM.n
  obtain ⟨rfl, q0, q1, q2, q3, q4⟩ := hQ
  have le := lyF_le (v := vU (mW σ) a1) (n := (σ 40 0 0)) v3.toNat
  intro _ _
  refine ⟨fun c1 => ?_, fun c1 => ?_⟩
  · skip
    refine ⟨fun c2 => ?_, fun c2 => ?_⟩
    · skip
      have mo := lyF_mono (v := vU (mW σ) a1) (n := (σ 40 0 0)) (j := v3.toNat) a2.toNat (by omega)
      exact hG _ (Or.inr (Or.inr (Or.inr ⟨by omega, by omega, rfl⟩)))
    · skip
      exact hG _ (Or.inr (Or.inl ⟨by omega, v3.toNat, by omega, by omega, fun j hj => q4 j (by omega)⟩))
  · skip
    refine ⟨fun c2 => ?_, fun c2 => ?_⟩
    · skip
      refine ⟨(by omega), ?_⟩
      refine ⟨(by exact ⟨hM, by omega, by omega⟩), (fun r3 h3a => ?_)⟩
      intro _ _
      have hl := h3a
      have ge := lgF_eq hl
      have st : lyF (vU (mW σ) a1) (σ 40 0 0) (v3.toNat + 1) = lyF (vU (mW σ) a1) (σ 40 0 0) v3.toNat + lgF (vU (mW σ) a1) (σ 40 0 0) (lyF (vU (mW σ) a1) (σ 40 0 0) v3.toNat) := rfl
      rw [← q2, ge] at st
      have hl1 := hl.1
      have hl2 := hl.2.1
      refine ⟨(by omega), ?_⟩
      refine ⟨_, ?_, _, _, rfl, rfl, ?_⟩
      · omega
      · refine ⟨?_, ?_, ?_, ?_, ?_, ?_⟩
        · first | rfl | assumption | omega
        · first | rfl | assumption | omega
        · first | rfl | assumption | omega
        · rw [show (v3 + 1).toNat = v3.toNat + 1 by omega, st]
        · first | rfl | assumption | omega
        · intro j hj
          rcases (by omega : (j : Int) < v3 ∨ j = v3.toNat) with z | z
          · exact q4 j z
          · rw [z, ← q2]; omega
    · skip
      exact hG _ (Or.inr (Or.inr (Or.inl ⟨by omega, by rw [show a2 = v3 by omega]; omega, by rw [show a2 = v3 by omega]; exact q2⟩)))
theorem e_Mo_lyndon (a1 : Int) (a2 : Int) (σ : SS) (K : AV → SS → Prop) (ha1 : InR a1) (ha2 : InR a2) (hs : okS σ) (hG : S_Mo_lyndon [vR 12 0, vI a1, vI a2] σ K) : VE_Mo_lyndon a1 a2 σ K := by
  unfold VE_Mo_lyndon
  obtain ⟨hM, hG⟩ := hG
  have hb := hM.n
  refine ⟨fun c1 => ?_, fun c1 => ?_⟩
  · skip
    refine ⟨_, _, _, rfl, rfl, ?_⟩
    refine ⟨?_, ?_, ?_, ?_, ?_, ?_⟩
    · first | rfl | assumption | omega
    · first | rfl | assumption | omega
    · first | rfl | assumption | omega
    · first | rfl | assumption | omega
    · first | rfl | assumption | omega
    · exact fun j j0 => by omega
  · skip
    exact hG _ (Or.inl ⟨by omega, rfl⟩)
theorem H_Mo_lyndon {d : Nat} (hd : 5 ≤ d) : Holds d I_Mo_lyndon S_Mo_lyndon := by
  refine holds_of (d' := d - 1) (rt := 1) (cal := [(I_Mo_size, S_Mo_size), (I_Mo_longestFrom, S_Mo_longestFrom)]) (C := C_Mo_lyndon) m_Mo_lyndon o_Mo_lyndon rfl rfl (by omega) ?_ ?_
  · intro x hx
    simp only [List.mem_cons, List.not_mem_nil, or_false] at hx
    rcases hx with rfl | rfl
    · exact H_Mo_size (by omega)
    · exact H_Mo_longestFrom (by omega)
  · intro as σ K has hσ hG
    have hG2 := hG
    unfold S_Mo_lyndon at hG2
    split at hG2
    · next a1 a2 =>
      refine ⟨Nat.le_of_ble_eq_true rfl, (Iv_Mo_lyndon a1 a2 σ), ?_, 1000, ?_⟩
      · intro k n z L σ' hk hL hs hP
        unfold Iv_Mo_lyndon at hk
        split at hk
        · cases hk
          obtain ⟨v3, v4, rfl, hn, hQ⟩ := hP
          exact ⟨1000, l_Mo_lyndon_9 a1 a2 σ K (has _ (List.mem_of_getElem? (i := 1) rfl)) (has _ (List.mem_of_getElem? (i := 2) rfl)) hσ hG v3 v4 σ' (hL _ (List.mem_of_getElem? (i := 3) rfl)) (hL _ (List.mem_of_getElem? (i := 4) rfl)) hs n hn hQ⟩
        · cases hk
      · exact e_Mo_lyndon a1 a2 σ K (has _ (List.mem_of_getElem? (i := 1) rfl)) (has _ (List.mem_of_getElem? (i := 2) rfl)) hσ hG
    · exact hG2.elim
def S_Mo_longest : GS := fun as σ K => match as with
  | [some (.inr (.inr (12, 0))), some (.inl a1), some (.inl a2)] => MoW σ ∧ ∀ r, RLon (mW σ) (σ 40 0 0) a1 a2 r → K (vI r) σ
  | _ => False
def VE_Mo_longest (a1 : Int) (a2 : Int) (σ : SS) (K : AV → SS → Prop) : Prop :=
  (S_Mo_isPlace [vR 12 0, vI a2] σ (kI fun r1 σ1 =>
    ((r1 = 0 →
      (K (vI (-1)) σ1)) ∧
    (r1 ≠ 0 →
      (S_Mo_longestFrom [vR 12 0, vI a2, vI a1] σ1 (kI fun r2 σ2 =>
        (K (vI r2) σ2)))))))
theorem e_Mo_longest (a1 : Int) (a2 : Int) (σ : SS) (K : AV → SS → Prop) (ha1 : InR a1) (ha2 : InR a2) (hs : okS σ) (hG : S_Mo_longest [vR 12 0, vI a1, vI a2] σ K) : VE_Mo_longest a1 a2 σ K := by
  unfold VE_Mo_longest
  obtain ⟨hM, hG⟩ := hG
  refine ⟨(by first | assumption | omega | exact ⟨by first | assumption | omega, by omega⟩ | exact ⟨by assumption, by omega, by omega⟩ | exact ⟨by assumption, by omega, by omega, by omega⟩ | exact ⟨by assumption, by omega, by omega, by omega, by omega⟩ | exact ⟨by assumption, by omega, by omega, by omega, by omega, by omega⟩), ?_⟩
  refine bS_b0 (fun p1 _ => ?_) (fun p1 _ => ?_)
  · skip
    refine ⟨(by exact ⟨hM, by omega, by omega⟩), (fun r2 h2a => ?_)⟩
    intro _ _
    exact hG _ (gd_y (by omega) (by assumption))
  · skip
    exact hG _ (gd_n (by omega))
theorem H_Mo_longest {d : Nat} (hd : 5 ≤ d) : Holds d I_Mo_longest S_Mo_longest := by
  refine holds_of (d' := d - 1) (rt := 1) (cal := [(I_Mo_isPlace, S_Mo_isPlace), (I_Mo_longestFrom, S_Mo_longestFrom)]) (C := C_Mo_longest) m_Mo_longest o_Mo_longest rfl rfl (by omega) ?_ ?_
  · intro x hx
    simp only [List.mem_cons, List.not_mem_nil, or_false] at hx
    rcases hx with rfl | rfl
    · exact H_Mo_isPlace (by omega)
    · exact H_Mo_longestFrom (by omega)
  · intro as σ K has hσ hG
    have hG2 := hG
    unfold S_Mo_longest at hG2
    split at hG2
    · next a1 a2 =>
      refine ⟨Nat.le_of_ble_eq_true rfl, (fun _ => none), ?_, 1000, ?_⟩
      · intro k n z L σ' hk hL hs hP
        cases hk
      · exact e_Mo_longest a1 a2 σ K (has _ (List.mem_of_getElem? (i := 1) rfl)) (has _ (List.mem_of_getElem? (i := 2) rfl)) hσ hG
    · exact hG2.elim
