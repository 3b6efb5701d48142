/-! TEXT: the class's reader; what it puts on the pile -/
theorem pl_more {σ0 σ σ' : SS} {t m a : Int} {f : Int → Int} (h : plI σ0 σ t (nW f m)) (he : a = f m) (ha : 0 ≤ a ∧ a < 26) (e : u3 (u3 σ 24 0 (σ 223 0 0) a) 223 0 0 (σ 223 0 0 + 1) = σ') : plI σ0 σ' t (nW f (m + 1)) ∧ Fr [(223, 0), (24, 0)] σ σ' ∧ σ' 223 0 0 = t + m + 1 := by
  obtain ⟨p1, p2, p3⟩ := pl_push h ha e
  refine ⟨pl_cg p1 rfl (fun x x0 x1 => ?_), p2, p3⟩
  unfold catW
  split
  · rfl
  · next c => rw [he]; exact congrArg f (by omega)
theorem pl_at {σ0 σ : SS} {t m x : Int} {f : Int → Int} (h : plI σ0 σ t (nW f m)) (x0 : 0 ≤ x) (x1 : x < m) : σ 24 0 (t + x) = f x ∧ 0 ≤ f x ∧ f x < 26 := by
  have := h.2.2 x x0 x1
  rwa [show (nW f m).1 x = f x from atW_in x0 x1] at this
theorem pl_n {σ0 σ : SS} {t m : Int} {f : Int → Int} (h : plI σ0 σ t (nW f m)) : 0 ≤ m ∧ σ 223 0 0 = t + m := h.1
theorem pl_e {σ : SS} {f : Int → Int} : plI σ σ (σ 223 0 0) (nW f 0) := ⟨⟨Int.le_refl _, by show _ = _ + (0 : Int); omega⟩, fun _ _ => rfl, fun x x0 x1 => absurd x1 (by show ¬ x < 0; omega)⟩
theorem fbN_b {k : Nat} (hk : k ≤ 21) : 1 ≤ fbN k ∧ fbN k ≤ 17711 := by
  have h : ∀ j : Fin 22, 1 ≤ fbN j.val ∧ fbN j.val ≤ 17711 := by decide
  exact h ⟨k, by omega⟩
theorem fbN_le (k : Nat) : 1 ≤ fbN k ∧ fbN k ≤ fbN (k + 1) := by
  have h : ∀ k : Nat, 1 ≤ fbN k ∧ 1 ≤ fbN (k + 1) := by
    intro k
    induction k with
    | zero => decide
    | succ k ih =>
      refine ⟨ih.2, ?_⟩
      show 1 ≤ fbN (k + 1) + fbN k
      omega
  refine ⟨(h k).1, ?_⟩
  cases k with
  | zero => decide
  | succ k =>
    show fbN (k + 1) ≤ fbN (k + 1) + fbN k
    have := (h k).1
    omega
theorem fbN_mo {j k : Nat} (h : j ≤ k) : fbN j ≤ fbN k := by
  induction k with
  | zero => rw [show j = 0 by omega]; exact Int.le_refl _
  | succ k ih =>
    rcases (by omega : j ≤ k ∨ j = k + 1) with c | c
    · exact Int.le_trans (ih c) (fbN_le k).2
    · rw [c]; exact Int.le_refl _
theorem fbN_s {v : Int} (hv : 3 ≤ v) : fbN v.toNat = fbN (v - 1).toNat + fbN (v - 2).toNat := by
  obtain ⟨k, rfl⟩ : ∃ k : Nat, v = (k : Int) + 3 := ⟨(v - 3).toNat, by omega⟩
  rw [show ((k : Int) + 3).toNat = k + 1 + 2 by omega, show ((k : Int) + 3 - 1).toNat = k + 1 + 1 by omega, show ((k : Int) + 3 - 2).toNat = k + 1 by omega]
  rfl
theorem fbF_lo {k : Nat} {x : Int} (hx : x < fbN (k + 1)) : fbF (k + 2) x = fbF (k + 1) x := by
  show (if x < fbN (k + 1) then fbF (k + 1) x else fbF k (x - fbN (k + 1))) = _
  rw [if_pos hx]
theorem fbF_hi {k : Nat} {x : Int} (hx : 0 ≤ x) : fbF (k + 2) (fbN (k + 1) + x) = fbF k x := by
  show (if fbN (k + 1) + x < fbN (k + 1) then fbF (k + 1) (fbN (k + 1) + x) else fbF k (fbN (k + 1) + x - fbN (k + 1))) = _
  rw [if_neg (by omega)]
  exact congrArg _ (by omega)
theorem fb_app {v x : Int} (hv : 3 ≤ v) (h0 : 0 ≤ x) (h1 : x < fbN (v - 2).toNat) : fbF v.toNat (fbN (v - 1).toNat + x) = fbF v.toNat x ∧ x < fbN (v - 1).toNat ∧ fbN v.toNat = fbN (v - 1).toNat + fbN (v - 2).toNat := by
  obtain ⟨k, rfl⟩ : ∃ k : Nat, v = (k : Int) + 3 := ⟨(v - 3).toNat, by omega⟩
  rw [show ((k : Int) + 3).toNat = k + 1 + 2 by omega, show ((k : Int) + 3 - 1).toNat = k + 1 + 1 by omega]
  rw [show ((k : Int) + 3 - 2).toNat = k + 1 by omega] at h1 ⊢
  have le := (fbN_le (k + 1)).2
  rw [fbF_hi h0, fbF_lo (by omega)]
  have e : fbF (k + 1 + 1) x = fbF (k + 1) x := fbF_lo h1
  exact ⟨e.symm, by omega, rfl⟩
theorem fb_st {v x : Int} (hv : 3 ≤ v) (h1 : x < fbN (v - 1).toNat) : fbF (v - 1).toNat x = fbF v.toNat x := by
  obtain ⟨k, rfl⟩ : ∃ k : Nat, v = (k : Int) + 3 := ⟨(v - 3).toNat, by omega⟩
  rw [show ((k : Int) + 3 - 1).toNat = k + 1 + 1 by omega] at h1 ⊢
  rw [show ((k : Int) + 3).toNat = k + 1 + 2 by omega]
  exact (fbF_lo h1).symm
def S_Re_fibSize : GS := fun as σ K => match as with
  | [some (.inr (.inr (3, 0))), some (.inl a1)] => (0 ≤ a1 ∧ a1 ≤ 20) ∧ K (vI (fbN a1.toNat)) σ
  | _ => False
abbrev Lp_Re_fibSize_6 (a1 : Int) (σ0 : SS) (n : Nat) (L : List AV) (σ : SS) : Prop := ∃ (v2 : Int) (v3 : Int) (v4 : Int), L = [vR 3 0, vI a1, vI v2, vI v3, vI v4, none] ∧ n = (1000 - v4).toNat ∧ ((σ = σ0) ∧ (2 ≤ v4 ∧ v4 ≤ max 2 (a1 + 1)) ∧ (v2 = fbN (v4 - 2).toNat) ∧ (v3 = fbN (v4 - 1).toNat))
def Iv_Re_fibSize (a1 : Int) (σ0 : SS) (k : Nat) : Option (List Nat × (Nat → List AV → SS → Prop)) := match k with
  | 6 => some ([5], Lp_Re_fibSize_6 a1 σ0)
  | _ => none
def VE_Re_fibSize (a1 : Int) (σ : SS) (K : AV → SS → Prop) : Prop :=
  (∃ n', Lp_Re_fibSize_6 a1 σ n' [vR 3 0, vI a1, vI 1, vI 1, vI 2, none] σ)
def VL_Re_fibSize_6 (a1 : Int) (σ0 : SS) (K : AV → SS → Prop) (v2 : Int) (v3 : Int) (v4 : Int) (σ : SS) (n : Nat) : Prop :=
  ((a1 < v4 →
    (K (vI v3) σ)) ∧
  (v4 ≤ a1 →
    (InR (v3 + v2) ∧
    (InR (v4 + 1) ∧
    (∃ n', n' < n ∧ Lp_Re_fibSize_6 a1 σ0 n' [vR 3 0, vI a1, vI v3, vI (v3 + v2), vI (v4 + 1), none] σ)))))
theorem l_Re_fibSize_6 (a1 : Int) (σ0 : SS) (K : AV → SS → Prop) (ha1 : InR a1) (hs0 : okS σ0) (hG : S_Re_fibSize [vR 3 0, vI a1] σ0 K) (v2 : Int) (v3 : Int) (v4 : Int) (σ : SS) (hv2 : InR v2) (hv3 : InR v3) (hv4 : InR v4) (hs : okS σ) (n : Nat) (hn : n = (1000 - v4).toNat) (hQ : (σ = σ0) ∧ (2 ≤ v4 ∧ v4 ≤ max 2 (a1 + 1)) ∧ (v2 = fbN (v4 - 2).toNat) ∧ (v3 = fbN (v4 - 1).toNat)) : VL_Re_fibSize_6 a1 σ0 K v2 v3 v4 σ n := by
  unfold VL_Re_fibSize_6
  obtain ⟨h1, hG⟩ := hG
  obtain ⟨rfl, q1, q2, q3⟩ := hQ
  have b2 := fbN_b (k := (v4 - 2).toNat) (by omega)
  have b3 := fbN_b (k := (v4 - 1).toNat) (by omega)
  rw [← q2] at b2
  rw [← q3] at b3
  refine ⟨fun c1 => ?_, fun c1 => ?_⟩
  · skip
    rcases (by omega : a1 = 0 ∨ a1 = v4 - 1) with z | z
    · rw [show v3 = fbN a1.toNat by rw [q3, show (v4 - 1).toNat = 1 by omega, z]; decide]
      exact hG
    · rw [q3, ← z]
      exact hG
  · skip
    refine ⟨(by omega), ?_⟩
    refine ⟨(by omega), ?_⟩
    refine ⟨_, ?_, _, _, _, rfl, rfl, ?_⟩
    · omega
    · refine ⟨?_, ?_, ?_, ?_⟩
      · first | rfl | assumption | omega
      · first | rfl | assumption | omega
      · rw [q3, show v4 + 1 - 2 = v4 - 1 by omega]
      · rw [q2, q3, show (v4 + 1 - 1).toNat = (v4 - 2).toNat + 2 by omega, show (v4 - 1).toNat = (v4 - 2).toNat + 1 by omega]
        rfl
theorem e_Re_fibSize (a1 : Int) (σ : SS) (K : AV → SS → Prop) (ha1 : InR a1) (hs : okS σ) (hG : S_Re_fibSize [vR 3 0, vI a1] σ K) : VE_Re_fibSize a1 σ K := by
  unfold VE_Re_fibSize
  obtain ⟨h1, hG⟩ := hG
  refine ⟨_, _, _, _, rfl, rfl, ?_⟩
  refine ⟨?_, ?_, ?_, ?_⟩
  · first | rfl | assumption | omega
  · first | rfl | assumption | omega
  · decide
  · decide
theorem H_Re_fibSize {d : Nat} (hd : 1 ≤ d) : Holds d I_Re_fibSize S_Re_fibSize := by
  refine holds_of (d' := d - 1) (rt := 1) (cal := []) (C := C_Re_fibSize) m_Re_fibSize o_Re_fibSize rfl rfl (by omega) ?_ ?_
  · intro x hx
    cases hx
  · intro as σ K has hσ hG
    have hG2 := hG
    unfold S_Re_fibSize at hG2
    split at hG2
    · next a1 =>
      refine ⟨Nat.le_of_ble_eq_true rfl, (Iv_Re_fibSize a1 σ), ?_, 1000, ?_⟩
      · intro k n z L σ' hk hL hs hP
        unfold Iv_Re_fibSize at hk
        split at hk
        · cases hk
          obtain ⟨v2, v3, v4, rfl, hn, hQ⟩ := hP
          exact ⟨1000, l_Re_fibSize_6 a1 σ K (has _ (List.mem_of_getElem? (i := 1) rfl)) hσ hG v2 v3 v4 σ' (hL _ (List.mem_of_getElem? (i := 2) rfl)) (hL _ (List.mem_of_getElem? (i := 3) rfl)) (hL _ (List.mem_of_getElem? (i := 4) rfl)) hs n hn hQ⟩
        · cases hk
      · exact e_Re_fibSize a1 σ K (has _ (List.mem_of_getElem? (i := 1) rfl)) hσ hG
    · exact hG2.elim
def S_Re_growFib : GS := fun as σ K => match as with
  | [some (.inr (.inr (3, 0))), some (.inl a1)] => ((0 ≤ a1 ∧ a1 ≤ 20) ∧ 0 ≤ σ 223 0 0 ∧ σ 223 0 0 + fbN a1.toNat ≤ 840) ∧ ∀ σ', Fr [(223, 0), (24, 0)] σ σ' → plI σ σ' (σ 223 0 0) (fibW a1) → K none σ'
  | _ => False
abbrev Lp_Re_growFib_18 (a1 : Int) (σ0 : SS) (n : Nat) (L : List AV) (σ : SS) : Prop := ∃ (v2 : Int) (v3 : Int), L = [vR 3 0, vI a1, vI v2, vI v3, none, none] ∧ n = (100000 * (1000 - v3)).toNat ∧ ((Fr [(223, 0), (24, 0)] σ0 σ) ∧ (v2 = σ0 223 0 0) ∧ ((a1 < 2 ∧ v3 = 3 ∧ plI σ0 σ (σ0 223 0 0) (nW (fbF a1.toNat) (fbN a1.toNat))) ∨ (2 ≤ a1 ∧ 3 ≤ v3 ∧ v3 ≤ a1 + 1 ∧ plI σ0 σ (σ0 223 0 0) (nW (fbF (v3 - 1).toNat) (fbN (v3 - 1).toNat)))))
abbrev Lp_Re_growFib_29 (a1 : Int) (σ0 : SS) (n : Nat) (L : List AV) (σ : SS) : Prop := ∃ (v2 : Int) (v3 : Int) (v4 : Int) (v5 : Int), L = [vR 3 0, vI a1, vI v2, vI v3, vI v4, vI v5] ∧ n = (100000 * (1000 - v3) - v5 - 1).toNat ∧ ((Fr [(223, 0), (24, 0)] σ0 σ) ∧ (v2 = σ0 223 0 0) ∧ (2 ≤ a1 ∧ 3 ≤ v3 ∧ v3 ≤ a1 ∧ v4 = fbN (v3 - 2).toNat ∧ 0 ≤ v5 ∧ v5 ≤ v4) ∧ (plI σ0 σ (σ0 223 0 0) (nW (fbF v3.toNat) (fbN (v3 - 1).toNat + v5))))
def Iv_Re_growFib (a1 : Int) (σ0 : SS) (k : Nat) : Option (List Nat × (Nat → List AV → SS → Prop)) := match k with
  | 18 => some ([4, 5], Lp_Re_growFib_18 a1 σ0)
  | 29 => some ([], Lp_Re_growFib_29 a1 σ0)
  | _ => none
def VE_Re_growFib (a1 : Int) (σ : SS) (K : AV → SS → Prop) : Prop :=
  ((a1 ≠ 0 →
    (S_Re_push [vR 3 0, vI 0] σ (kV fun σ1 =>
      ((a1 < 2 →
        (∃ n', Lp_Re_growFib_18 a1 σ n' [vR 3 0, vI a1, vI (σ 223 0 0), vI 3, none, none] σ1)) ∧
      ((2 : Int) ≤ a1 →
        (S_Re_push [vR 3 0, vI 1] σ1 (kV fun σ2 =>
          (∃ n', Lp_Re_growFib_18 a1 σ n' [vR 3 0, vI a1, vI (σ 223 0 0), vI 3, none, none] σ2)))))))) ∧
  (a1 = 0 →
    (S_Re_push [vR 3 0, vI 1] σ (kV fun σ3 =>
      ((a1 < 2 →
        (∃ n', Lp_Re_growFib_18 a1 σ n' [vR 3 0, vI a1, vI (σ 223 0 0), vI 3, none, none] σ3)) ∧
      ((2 : Int) ≤ a1 →
        (S_Re_push [vR 3 0, vI 1] σ3 (kV fun σ4 =>
          (∃ n', Lp_Re_growFib_18 a1 σ n' [vR 3 0, vI a1, vI (σ 223 0 0), vI 3, none, none] σ4)))))))))
def VL_Re_growFib_18 (a1 : Int) (σ0 : SS) (K : AV → SS → Prop) (v2 : Int) (v3 : Int) (σ : SS) (n : Nat) : Prop :=
  ((a1 < v3 →
    (K none σ)) ∧
  (v3 ≤ a1 →
    (InR (v3 - 2) ∧
    (S_Re_fibSize [vR 3 0, vI (v3 - 2)] σ (kI fun r1 σ1 =>
      (∃ n', n' < n ∧ Lp_Re_growFib_29 a1 σ0 n' [vR 3 0, vI a1, vI v2, vI v3, vI r1, vI 0] σ1))))))
def VL_Re_growFib_29 (a1 : Int) (σ0 : SS) (K : AV → SS → Prop) (v2 : Int) (v3 : Int) (v4 : Int) (v5 : Int) (σ : SS) (n : Nat) : Prop :=
  ((v4 ≤ v5 →
    (InR (v3 + 1) ∧
    (∃ n', n' < n ∧ Lp_Re_growFib_18 a1 σ0 n' [vR 3 0, vI a1, vI v2, vI (v3 + 1), none, none] σ))) ∧
  (v5 < v4 →
    (InR (v2 + v5) ∧
    (S_Re_pileAt [vR 3 0, vI (v2 + v5)] σ (kI fun r1 σ1 =>
      (S_Re_push [vR 3 0, vI r1] σ1 (kV fun σ2 =>
        (InR (v5 + 1) ∧
        (∃ n', n' < n ∧ Lp_Re_growFib_29 a1 σ0 n' [vR 3 0, vI a1, vI v2, vI v3, vI v4, vI (v5 + 1)] σ2)))))))))
theorem l_Re_growFib_18 (a1 : Int) (σ0 : SS) (K : AV → SS → Prop) (ha1 : InR a1) (hs0 : okS σ0) (hG : S_Re_growFib [vR 3 0, vI a1] σ0 K) (v2 : Int) (v3 : Int) (σ : SS) (hv2 : InR v2) (hv3 : InR v3) (hs : okS σ) (n : Nat) (hn : n = (100000 * (1000 - v3)).toNat) (hQ : (Fr [(223, 0), (24, 0)] σ0 σ) ∧ (v2 = σ0 223 0 0) ∧ ((a1 < 2 ∧ v3 = 3 ∧ plI σ0 σ (σ0 223 0 0) (nW (fbF a1.toNat) (fbN a1.toNat))) ∨ (2 ≤ a1 ∧ 3 ≤ v3 ∧ v3 ≤ a1 + 1 ∧ plI σ0 σ (σ0 223 0 0) (nW (fbF (v3 - 1).toNat) (fbN (v3 - 1).toNat))))) : VL_Re_growFib_18 a1 σ0 K v2 v3 σ n := by
  unfold VL_Re_growFib_18
  obtain ⟨⟨h1, h2, h3⟩, hG⟩ := hG
  obtain ⟨q0, rfl, q1⟩ := hQ
  have bd : 3 ≤ v3 ∧ v3 ≤ 21 := by
    rcases q1 with q1 | q1
    · exact ⟨by omega, by omega⟩
    · exact ⟨by omega, by omega⟩
  refine ⟨fun c1 => ?_, fun c1 => ?_⟩
  · skip
    rcases q1 with q1 | q1
    · exact hG _ q0 q1.2.2
    · have := q1.2.2.2
      rw [show v3 - 1 = a1 by omega] at this
      exact hG _ q0 this
  · skip
    refine ⟨(by omega), ?_⟩
    refine ⟨(by first | assumption | omega | exact ⟨by first | assumption | omega, by omega⟩ | exact ⟨by assumption, by omega, by omega⟩ | exact ⟨by assumption, by omega, by omega, by omega⟩ | exact ⟨by assumption, by omega, by omega, by omega, by omega⟩ | exact ⟨by assumption, by omega, by omega, by omega, by omega, by omega⟩), ?_⟩
    intro _ _
    have fb := fbN_b (k := (v3 - 2).toNat) (by omega)
    refine ⟨_, ?_, _, _, _, _, rfl, rfl, ?_⟩
    · omega
    · refine ⟨?_, ?_, ?_, ?_⟩
      · first | rfl | assumption | omega
      · first | rfl | assumption | omega
      · exact ⟨by omega, by omega, by omega, by omega, by omega⟩
      · rcases q1 with q1 | q1
        · exact absurd q1.1 (by omega)
        · exact pl_cg q1.2.2.2 (by omega) (fun x x0 x1 => fb_st (by omega) (by omega))
theorem l_Re_growFib_29 (a1 : Int) (σ0 : SS) (K : AV → SS → Prop) (ha1 : InR a1) (hs0 : okS σ0) (hG : S_Re_growFib [vR 3 0, vI a1] σ0 K) (v2 : Int) (v3 : Int) (v4 : Int) (v5 : Int) (σ : SS) (hv2 : InR v2) (hv3 : InR v3) (hv4 : InR v4) (hv5 : InR v5) (hs : okS σ) (n : Nat) (hn : n = (100000 * (1000 - v3) - v5 - 1).toNat) (hQ : (Fr [(223, 0), (24, 0)] σ0 σ) ∧ (v2 = σ0 223 0 0) ∧ (2 ≤ a1 ∧ 3 ≤ v3 ∧ v3 ≤ a1 ∧ v4 = fbN (v3 - 2).toNat ∧ 0 ≤ v5 ∧ v5 ≤ v4) ∧ (plI σ0 σ (σ0 223 0 0) (nW (fbF v3.toNat) (fbN (v3 - 1).toNat + v5)))) : VL_Re_growFib_29 a1 σ0 K v2 v3 v4 v5 σ n := by
  unfold VL_Re_growFib_29
  obtain ⟨⟨h1, h2, h3⟩, hG⟩ := hG
  obtain ⟨q0, rfl, ⟨q1, q2, q3, q4, q5, q6⟩, q7⟩ := hQ
  have pn := pl_n q7
  have n3 := fbN_s q2
  have n4 := fbN_mo (show v3.toNat ≤ a1.toNat by omega)
  have n5 := fbN_b (k := (v3 - 1).toNat) (by omega)
  have n6 := fbN_b (k := (v3 - 2).toNat) (by omega)
  refine ⟨fun c1 => ?_, fun c1 => ?_⟩
  · skip
    refine ⟨(by omega), ?_⟩
    refine ⟨_, ?_, _, _, rfl, rfl, ?_⟩
    · omega
    · refine ⟨?_, ?_, ?_⟩
      · first | rfl | assumption | omega
      · first | rfl | assumption | omega
      · exact Or.inr ⟨q1, by omega, by omega, pl_cg q7 (by rw [show v3 + 1 - 1 = v3 by omega]; omega) (fun x _ _ => by rw [show v3 + 1 - 1 = v3 by omega])⟩
  · skip
    refine ⟨(by omega), ?_⟩
    refine ⟨(by omega), ?_⟩
    intro _ _
    have pa := pl_at q7 (x := v5) q5 (by omega)
    have ap := fb_app q2 q5 (by omega)
    rw [pa.1]
    refine ⟨(by omega), ?_⟩
    intro _
    generalize hτ : u3 (u3 _ 24 0 _ _) 223 0 0 _ = τ
    obtain ⟨g, dd, tt⟩ := pl_more q7 ap.1.symm pa.2 hτ
    refine ⟨(by omega), ?_⟩
    refine ⟨_, ?_, _, _, _, _, rfl, rfl, ?_⟩
    · omega
    · refine ⟨?_, ?_, ?_, ?_⟩
      · exact Fr_trans q0 dd
      · first | rfl | assumption | omega
      · first | rfl | assumption | omega
      · exact pl_cg g (by omega) (fun _ _ _ => rfl)
theorem e_Re_growFib (a1 : Int) (σ : SS) (K : AV → SS → Prop) (ha1 : InR a1) (hs : okS σ) (hG : S_Re_growFib [vR 3 0, vI a1] σ K) : VE_Re_growFib a1 σ K := by
  unfold VE_Re_growFib
  obtain ⟨⟨h1, h2, h3⟩, hG⟩ := hG
  have fb := fbN_le a1.toNat
  have f2 : a1 < 2 ∨ 2 ≤ fbN a1.toNat := by
    rcases (by omega : a1 < 2 ∨ 2 ≤ a1) with z | z
    · exact Or.inl z
    · obtain ⟨k, e⟩ : ∃ k : Nat, a1.toNat = k + 2 := ⟨(a1 - 2).toNat, by omega⟩
      rw [e]
      have x1 := (fbN_le k).1
      have x2 := (fbN_le (k + 1)).1
      exact Or.inr (by show 2 ≤ fbN (k + 1) + fbN k; omega)
  have g : plI σ σ (σ 223 0 0) (nW (fun _ => 0) 0) := pl_e
  have d : Fr [(223, 0), (24, 0)] σ σ := Fr_refl
  refine ⟨fun c1 => ?_, fun c1 => ?_⟩
  · skip
    refine ⟨(by omega), ?_⟩
    intro _
    generalize hτ : u3 (u3 _ 24 0 _ _) 223 0 0 _ = τ
    obtain ⟨g, dd, tt⟩ := pl_push g (by omega) hτ
    have d := Fr_trans d dd
    refine ⟨fun c2 => ?_, fun c2 => ?_⟩
    · skip
      refine ⟨_, _, _, rfl, rfl, ?_⟩
      refine ⟨?_, ?_, ?_⟩
      · exact d
      · first | rfl | assumption | omega
      · first
          | exact absurd h1 (by omega)
          | exact Or.inl ⟨by omega, rfl, pl_cg (f' := fbF a1.toNat) (m' := fbN a1.toNat) g (by rw [show a1.toNat = 0 by omega]; decide) (fun x x0 x1 => by rw [show a1.toNat = 0 by omega, show x = 0 by omega]; decide)⟩
          | exact Or.inl ⟨by omega, rfl, pl_cg (f' := fbF a1.toNat) (m' := fbN a1.toNat) g (by rw [show a1.toNat = 1 by omega]; decide) (fun x x0 x1 => by rw [show a1.toNat = 1 by omega, show x = 0 by omega]; decide)⟩
          | exact Or.inr ⟨by omega, by omega, by omega, pl_cg (f' := fbF 2) (m' := fbN 2) g (by decide) (fun x x0 x1 => by
              rcases (by omega : x = 0 ∨ x = 1) with rfl | rfl <;> decide)⟩
    · skip
      refine ⟨(by omega), ?_⟩
      intro _
      generalize hτ : u3 (u3 _ 24 0 _ _) 223 0 0 _ = τ
      obtain ⟨g, dd, tt⟩ := pl_push g (by omega) hτ
      have d := Fr_trans d dd
      refine ⟨_, _, _, rfl, rfl, ?_⟩
      refine ⟨?_, ?_, ?_⟩
      · exact d
      · first | rfl | assumption | omega
      · first
          | exact absurd h1 (by omega)
          | exact Or.inl ⟨by omega, rfl, pl_cg (f' := fbF a1.toNat) (m' := fbN a1.toNat) g (by rw [show a1.toNat = 0 by omega]; decide) (fun x x0 x1 => by rw [show a1.toNat = 0 by omega, show x = 0 by omega]; decide)⟩
          | exact Or.inl ⟨by omega, rfl, pl_cg (f' := fbF a1.toNat) (m' := fbN a1.toNat) g (by rw [show a1.toNat = 1 by omega]; decide) (fun x x0 x1 => by rw [show a1.toNat = 1 by omega, show x = 0 by omega]; decide)⟩
          | exact Or.inr ⟨by omega, by omega, by omega, pl_cg (f' := fbF 2) (m' := fbN 2) g (by decide) (fun x x0 x1 => by
              rcases (by omega : x = 0 ∨ x = 1) with rfl | rfl <;> decide)⟩
  · skip
    refine ⟨(by omega), ?_⟩
    intro _
    generalize hτ : u3 (u3 _ 24 0 _ _) 223 0 0 _ = τ
    obtain ⟨g, dd, tt⟩ := pl_push g (by omega) hτ
    have d := Fr_trans d dd
    refine ⟨fun c2 => ?_, fun c2 => ?_⟩
    · skip
      refine ⟨_, _, _, rfl, rfl, ?_⟩
      refine ⟨?_, ?_, ?_⟩
      · exact d
      · first | rfl | assumption | omega
      · first
          | exact absurd h1 (by omega)
          | exact Or.inl ⟨by omega, rfl, pl_cg (f' := fbF a1.toNat) (m' := fbN a1.toNat) g (by rw [show a1.toNat = 0 by omega]; decide) (fun x x0 x1 => by rw [show a1.toNat = 0 by omega, show x = 0 by omega]; decide)⟩
          | exact Or.inl ⟨by omega, rfl, pl_cg (f' := fbF a1.toNat) (m' := fbN a1.toNat) g (by rw [show a1.toNat = 1 by omega]; decide) (fun x x0 x1 => by rw [show a1.toNat = 1 by omega, show x = 0 by omega]; decide)⟩
          | exact Or.inr ⟨by omega, by omega, by omega, pl_cg (f' := fbF 2) (m' := fbN 2) g (by decide) (fun x x0 x1 => by
              rcases (by omega : x = 0 ∨ x = 1) with rfl | rfl <;> decide)⟩
    · skip
      refine ⟨(by omega), ?_⟩
      intro _
      generalize hτ : u3 (u3 _ 24 0 _ _) 223 0 0 _ = τ
      obtain ⟨g, dd, tt⟩ := pl_push g (by omega) hτ
      have d := Fr_trans d dd
      refine ⟨_, _, _, rfl, rfl, ?_⟩
      refine ⟨?_, ?_, ?_⟩
      · exact d
      · first | rfl | assumption | omega
      · first
          | exact absurd h1 (by omega)
          | exact Or.inl ⟨by omega, rfl, pl_cg (f' := fbF a1.toNat) (m' := fbN a1.toNat) g (by rw [show a1.toNat = 0 by omega]; decide) (fun x x0 x1 => by rw [show a1.toNat = 0 by omega, show x = 0 by omega]; decide)⟩
          | exact Or.inl ⟨by omega, rfl, pl_cg (f' := fbF a1.toNat) (m' := fbN a1.toNat) g (by rw [show a1.toNat = 1 by omega]; decide) (fun x x0 x1 => by rw [show a1.toNat = 1 by omega, show x = 0 by omega]; decide)⟩
          | exact Or.inr ⟨by omega, by omega, by omega, pl_cg (f' := fbF 2) (m' := fbN 2) g (by decide) (fun x x0 x1 => by
              rcases (by omega : x = 0 ∨ x = 1) with rfl | rfl <;> decide)⟩
theorem H_Re_growFib {d : Nat} (hd : 2 ≤ d) : Holds d I_Re_growFib S_Re_growFib := by
  refine holds_of (d' := d - 1) (rt := 0) (cal := [(I_Re_push, S_Re_push), (I_Re_fibSize, S_Re_fibSize), (I_Re_pileAt, S_Re_pileAt)]) (C := C_Re_growFib) m_Re_growFib o_Re_growFib rfl rfl (by omega) ?_ ?_
  · intro x hx
    simp only [List.mem_cons, List.not_mem_nil, or_false] at hx
    rcases hx with rfl | rfl | rfl
    · exact H_Re_push (by omega)
    · exact H_Re_fibSize (by omega)
    · exact H_Re_pileAt (by omega)
  · intro as σ K has hσ hG
    have hG2 := hG
    unfold S_Re_growFib at hG2
    split at hG2
    · next a1 =>
      refine ⟨Nat.le_of_ble_eq_true rfl, (Iv_Re_growFib a1 σ), ?_, 1000, ?_⟩
      · intro k n z L σ' hk hL hs hP
        unfold Iv_Re_growFib at hk
        split at hk
        · cases hk
          obtain ⟨v2, v3, rfl, hn, hQ⟩ := hP
          exact ⟨1000, l_Re_growFib_18 a1 σ K (has _ (List.mem_of_getElem? (i := 1) rfl)) hσ hG v2 v3 σ' (hL _ (List.mem_of_getElem? (i := 2) rfl)) (hL _ (List.mem_of_getElem? (i := 3) rfl)) hs n hn hQ⟩
        · cases hk
          obtain ⟨v2, v3, v4, v5, rfl, hn, hQ⟩ := hP
          exact ⟨1000, l_Re_growFib_29 a1 σ K (has _ (List.mem_of_getElem? (i := 1) rfl)) hσ hG v2 v3 v4 v5 σ' (hL _ (List.mem_of_getElem? (i := 2) rfl)) (hL _ (List.mem_of_getElem? (i := 3) rfl)) (hL _ (List.mem_of_getElem? (i := 4) rfl)) (hL _ (List.mem_of_getElem? (i := 5) rfl)) hs n hn hQ⟩
        · cases hk
      · exact e_Re_growFib a1 σ K (has _ (List.mem_of_getElem? (i := 1) rfl)) hσ hG
    · exact hG2.elim
theorem p2_s {v : Int} (hv : 1 ≤ v) : (2 : Int) ^ v.toNat = 2 * 2 ^ (v - 1).toNat := by
  rw [show v.toNat = (v - 1).toNat + 1 by omega, Int.pow_succ, Int.mul_comm]
theorem p2_b {k : Nat} (h : k ≤ 8) : (1 : Int) ≤ 2 ^ k ∧ (2 : Int) ^ k ≤ 256 := by
  have h2 : ∀ j : Fin 9, (1 : Int) ≤ 2 ^ j.val ∧ (2 : Int) ^ j.val ≤ 256 := by decide
  exact h2 ⟨k, by omega⟩
theorem p2_mo {j k : Nat} (h : j ≤ k) : (2 : Int) ^ j ≤ 2 ^ k ∧ (1 : Int) ≤ 2 ^ j := by
  have p1 : ∀ j : Nat, (1 : Int) ≤ 2 ^ j := by
    intro j
    induction j with
    | zero => decide
    | succ j ih => rw [Int.pow_succ]; omega
  refine ⟨?_, p1 j⟩
  induction k with
  | zero => rw [show j = 0 by omega]; exact Int.le_refl _
  | succ k ih =>
    rcases (by omega : j ≤ k ∨ j = k + 1) with c | c
    · have a := ih c
      have b := p1 k
      rw [Int.pow_succ]
      omega
    · rw [c]; exact Int.le_refl _
theorem mz_lo {v x : Int} (hv : 1 ≤ v) (hx : x < 2 ^ (v - 1).toNat) : mzF v.toNat x = mzF (v - 1).toNat x := by
  rw [show v.toNat = (v - 1).toNat + 1 by omega]
  show (if x < 2 ^ (v - 1).toNat then mzF (v - 1).toNat x else _) = _
  rw [if_pos hx]
theorem mz_hi {v x : Int} (hv : 1 ≤ v) (hx : 0 ≤ x) : mzF v.toNat (2 ^ (v - 1).toNat + x) = 1 - mzF (v - 1).toNat x := by
  rw [show v.toNat = (v - 1).toNat + 1 by omega]
  show (if 2 ^ (v - 1).toNat + x < 2 ^ (v - 1).toNat then _ else 1 - mzF (v - 1).toNat (2 ^ (v - 1).toNat + x - 2 ^ (v - 1).toNat)) = _
  rw [if_neg (by omega), show (2 : Int) ^ (v - 1).toNat + x - 2 ^ (v - 1).toNat = x by omega]
theorem mz_01 : ∀ (k : Nat) (x : Int), mzF k x = 0 ∨ mzF k x = 1 := by
  intro k
  induction k with
  | zero => intro x; exact Or.inl rfl
  | succ k ih =>
    intro x
    show (if x < 2 ^ k then mzF k x else 1 - mzF k (x - 2 ^ k)) = 0 ∨ (if x < 2 ^ k then mzF k x else 1 - mzF k (x - 2 ^ k)) = 1
    split
    · exact ih x
    · have := ih (x - 2 ^ k)
      omega
def S_Re_growMorse : GS := fun as σ K => match as with
  | [some (.inr (.inr (3, 0))), some (.inl a1)] => ((0 ≤ a1 ∧ a1 ≤ 8) ∧ 0 ≤ σ 223 0 0 ∧ σ 223 0 0 + 2 ^ a1.toNat ≤ 840) ∧ ∀ σ', Fr [(223, 0), (24, 0)] σ σ' → plI σ σ' (σ 223 0 0) (morW a1) → K none σ'
  | _ => False
abbrev Lp_Re_growMorse_8 (a1 : Int) (σ0 : SS) (n : Nat) (L : List AV) (σ : SS) : Prop := ∃ (v2 : Int) (v3 : Int), L = [vR 3 0, vI a1, vI v2, vI v3, none, none] ∧ n = (100000 * (1000 - v3)).toNat ∧ ((Fr [(223, 0), (24, 0)] σ0 σ) ∧ (v2 = σ0 223 0 0) ∧ (1 ≤ v3 ∧ v3 ≤ a1 + 1) ∧ (plI σ0 σ (σ0 223 0 0) (nW (mzF (v3 - 1).toNat) (2 ^ (v3 - 1).toNat))))
abbrev Lp_Re_growMorse_19 (a1 : Int) (σ0 : SS) (n : Nat) (L : List AV) (σ : SS) : Prop := ∃ (v2 : Int) (v3 : Int) (v4 : Int) (v5 : Int), L = [vR 3 0, vI a1, vI v2, vI v3, vI v4, vI v5] ∧ n = (100000 * (1000 - v3) - v5 - 1).toNat ∧ ((Fr [(223, 0), (24, 0)] σ0 σ) ∧ (v2 = σ0 223 0 0) ∧ (1 ≤ v3 ∧ v3 ≤ a1 ∧ v4 = 2 ^ (v3 - 1).toNat ∧ 0 ≤ v5 ∧ v5 ≤ v4) ∧ (plI σ0 σ (σ0 223 0 0) (nW (mzF v3.toNat) (2 ^ (v3 - 1).toNat + v5))))
def Iv_Re_growMorse (a1 : Int) (σ0 : SS) (k : Nat) : Option (List Nat × (Nat → List AV → SS → Prop)) := match k with
  | 8 => some ([4, 5], Lp_Re_growMorse_8 a1 σ0)
  | 19 => some ([], Lp_Re_growMorse_19 a1 σ0)
  | _ => none
def VE_Re_growMorse (a1 : Int) (σ : SS) (K : AV → SS → Prop) : Prop :=
  (S_Re_push [vR 3 0, vI 0] σ (kV fun σ1 =>
    (∃ n', Lp_Re_growMorse_8 a1 σ n' [vR 3 0, vI a1, vI (σ 223 0 0), vI 1, none, none] σ1)))
def VL_Re_growMorse_8 (a1 : Int) (σ0 : SS) (K : AV → SS → Prop) (v2 : Int) (v3 : Int) (σ : SS) (n : Nat) : Prop :=
  ((a1 < v3 →
    (K none σ)) ∧
  (v3 ≤ a1 →
    (InR (v3 - 1) ∧
    ((0 ≤ (v3 - 1 : Int) ∧ (v3 - 1 : Int) < 32 ∧ InR (shlI 1 (v3 - 1))) ∧
    (∃ n', n' < n ∧ Lp_Re_growMorse_19 a1 σ0 n' [vR 3 0, vI a1, vI v2, vI v3, vI (shlI 1 (v3 - 1)), vI 0] σ)))))
def VL_Re_growMorse_19 (a1 : Int) (σ0 : SS) (K : AV → SS → Prop) (v2 : Int) (v3 : Int) (v4 : Int) (v5 : Int) (σ : SS) (n : Nat) : Prop :=
  ((v4 ≤ v5 →
    (InR (v3 + 1) ∧
    (∃ n', n' < n ∧ Lp_Re_growMorse_8 a1 σ0 n' [vR 3 0, vI a1, vI v2, vI (v3 + 1), none, none] σ))) ∧
  (v5 < v4 →
    (InR (v2 + v5) ∧
    (S_Re_pileAt [vR 3 0, vI (v2 + v5)] σ (kI fun r1 σ1 =>
      (InR (1 - r1) ∧
      (S_Re_push [vR 3 0, vI (1 - r1)] σ1 (kV fun σ2 =>
        (InR (v5 + 1) ∧
        (∃ n', n' < n ∧ Lp_Re_growMorse_19 a1 σ0 n' [vR 3 0, vI a1, vI v2, vI v3, vI v4, vI (v5 + 1)] σ2))))))))))
theorem l_Re_growMorse_8 (a1 : Int) (σ0 : SS) (K : AV → SS → Prop) (ha1 : InR a1) (hs0 : okS σ0) (hG : S_Re_growMorse [vR 3 0, vI a1] σ0 K) (v2 : Int) (v3 : Int) (σ : SS) (hv2 : InR v2) (hv3 : InR v3) (hs : okS σ) (n : Nat) (hn : n = (100000 * (1000 - v3)).toNat) (hQ : (Fr [(223, 0), (24, 0)] σ0 σ) ∧ (v2 = σ0 223 0 0) ∧ (1 ≤ v3 ∧ v3 ≤ a1 + 1) ∧ (plI σ0 σ (σ0 223 0 0) (nW (mzF (v3 - 1).toNat) (2 ^ (v3 - 1).toNat)))) : VL_Re_growMorse_8 a1 σ0 K v2 v3 σ n := by
  unfold VL_Re_growMorse_8
  obtain ⟨⟨h1, h2, h3⟩, hG⟩ := hG
  obtain ⟨q0, rfl, q1, q2⟩ := hQ
  have pb := p2_b (k := (v3 - 1).toNat) (by omega)
  have sh := shl1 (c := v3 - 1) (by omega) (by omega)
  refine ⟨fun c1 => ?_, fun c1 => ?_⟩
  · skip
    rw [show v3 - 1 = a1 by omega] at q2
    exact hG _ q0 q2
  · skip
    refine ⟨(by omega), ?_⟩
    refine ⟨(by exact ⟨by omega, by omega, by omega⟩), ?_⟩
    refine ⟨_, ?_, _, _, _, _, rfl, rfl, ?_⟩
    · omega
    · refine ⟨?_, ?_, ?_, ?_⟩
      · first | rfl | assumption | omega
      · first | rfl | assumption | omega
      · exact ⟨q1.1, by omega, by rw [sh.1]; exact Int.natCast_pow 2 _, by omega, by omega⟩
      · exact pl_cg q2 (by omega) (fun x x0 x1 => (mz_lo q1.1 x1).symm)
theorem l_Re_growMorse_19 (a1 : Int) (σ0 : SS) (K : AV → SS → Prop) (ha1 : InR a1) (hs0 : okS σ0) (hG : S_Re_growMorse [vR 3 0, vI a1] σ0 K) (v2 : Int) (v3 : Int) (v4 : Int) (v5 : Int) (σ : SS) (hv2 : InR v2) (hv3 : InR v3) (hv4 : InR v4) (hv5 : InR v5) (hs : okS σ) (n : Nat) (hn : n = (100000 * (1000 - v3) - v5 - 1).toNat) (hQ : (Fr [(223, 0), (24, 0)] σ0 σ) ∧ (v2 = σ0 223 0 0) ∧ (1 ≤ v3 ∧ v3 ≤ a1 ∧ v4 = 2 ^ (v3 - 1).toNat ∧ 0 ≤ v5 ∧ v5 ≤ v4) ∧ (plI σ0 σ (σ0 223 0 0) (nW (mzF v3.toNat) (2 ^ (v3 - 1).toNat + v5)))) : VL_Re_growMorse_19 a1 σ0 K v2 v3 v4 v5 σ n := by
  unfold VL_Re_growMorse_19
  obtain ⟨⟨h1, h2, h3⟩, hG⟩ := hG
  obtain ⟨q0, rfl, ⟨q1, q2, q4, q5, q6⟩, q7⟩ := hQ
  have pn := pl_n q7
  have n3 := p2_s q1
  have n4 := p2_mo (show v3.toNat ≤ a1.toNat by omega)
  have n5 := p2_b (k := (v3 - 1).toNat) (by omega)
  rw [← q4] at q7 pn n3 n5
  refine ⟨fun c1 => ?_, fun c1 => ?_⟩
  · skip
    refine ⟨(by omega), ?_⟩
    refine ⟨_, ?_, _, _, rfl, rfl, ?_⟩
    · omega
    · refine ⟨?_, ?_, ?_, ?_⟩
      · first | rfl | assumption | omega
      · first | rfl | assumption | omega
      · first | rfl | assumption | omega
      · rw [show v3 + 1 - 1 = v3 by omega]
        exact pl_cg q7 (by omega) (fun x _ _ => rfl)
  · skip
    refine ⟨(by omega), ?_⟩
    refine ⟨(by omega), ?_⟩
    intro _ _
    have pa := pl_at q7 (x := v5) q5 (by omega)
    have m1 := mz_lo (x := v5) q1 (by rw [← q4]; omega)
    have m2 := mz_hi (x := v5) q1 q5
    have m3 := mz_01 (v3 - 1).toNat v5
    rw [pa.1]
    rw [← q4] at m2
    refine ⟨(by omega), ?_⟩
    refine ⟨(by omega), ?_⟩
    intro _
    generalize hτ : u3 (u3 _ 24 0 _ _) 223 0 0 _ = τ
    obtain ⟨g, dd, tt⟩ := pl_more q7 (by rw [m2, m1]) (by omega) hτ
    refine ⟨(by omega), ?_⟩
    refine ⟨_, ?_, _, _, _, _, rfl, rfl, ?_⟩
    · omega
    · refine ⟨?_, ?_, ?_, ?_⟩
      · exact Fr_trans q0 dd
      · first | rfl | assumption | omega
      · first | rfl | assumption | omega
      · rw [← q4]
        exact pl_cg g (by omega) (fun _ _ _ => rfl)
theorem e_Re_growMorse (a1 : Int) (σ : SS) (K : AV → SS → Prop) (ha1 : InR a1) (hs : okS σ) (hG : S_Re_growMorse [vR 3 0, vI a1] σ K) : VE_Re_growMorse a1 σ K := by
  unfold VE_Re_growMorse
  obtain ⟨⟨h1, h2, h3⟩, hG⟩ := hG
  have pb := p2_b (k := a1.toNat) (by omega)
  have g : plI σ σ (σ 223 0 0) (nW (fun _ => 0) 0) := pl_e
  refine ⟨(by omega), ?_⟩
  intro _
  generalize hτ : u3 (u3 _ 24 0 _ _) 223 0 0 _ = τ
  obtain ⟨g, dd, tt⟩ := pl_push g (by omega) hτ
  refine ⟨_, _, _, rfl, rfl, ?_⟩
  refine ⟨?_, ?_, ?_, ?_⟩
  · exact dd
  · first | rfl | assumption | omega
  · first | rfl | assumption | omega
  · exact pl_cg (f' := mzF 0) (m' := 1) g (by decide) (fun x x0 x1 => by
      rw [show x = 0 by omega]; decide)
theorem H_Re_growMorse {d : Nat} (hd : 2 ≤ d) : Holds d I_Re_growMorse S_Re_growMorse := by
  refine holds_of (d' := d - 1) (rt := 0) (cal := [(I_Re_push, S_Re_push), (I_Re_pileAt, S_Re_pileAt)]) (C := C_Re_growMorse) m_Re_growMorse o_Re_growMorse rfl rfl (by omega) ?_ ?_
  · intro x hx
    simp only [List.mem_cons, List.not_mem_nil, or_false] at hx
    rcases hx with rfl | rfl
    · exact H_Re_push (by omega)
    · exact H_Re_pileAt (by omega)
  · intro as σ K has hσ hG
    have hG2 := hG
    unfold S_Re_growMorse at hG2
    split at hG2
    · next a1 =>
      refine ⟨Nat.le_of_ble_eq_true rfl, (Iv_Re_growMorse a1 σ), ?_, 1000, ?_⟩
      · intro k n z L σ' hk hL hs hP
        unfold Iv_Re_growMorse at hk
        split at hk
        · cases hk
          obtain ⟨v2, v3, rfl, hn, hQ⟩ := hP
          exact ⟨1000, l_Re_growMorse_8 a1 σ K (has _ (List.mem_of_getElem? (i := 1) rfl)) hσ hG v2 v3 σ' (hL _ (List.mem_of_getElem? (i := 2) rfl)) (hL _ (List.mem_of_getElem? (i := 3) rfl)) hs n hn hQ⟩
        · cases hk
          obtain ⟨v2, v3, v4, v5, rfl, hn, hQ⟩ := hP
          exact ⟨1000, l_Re_growMorse_19 a1 σ K (has _ (List.mem_of_getElem? (i := 1) rfl)) hσ hG v2 v3 v4 v5 σ' (hL _ (List.mem_of_getElem? (i := 2) rfl)) (hL _ (List.mem_of_getElem? (i := 3) rfl)) (hL _ (List.mem_of_getElem? (i := 4) rfl)) (hL _ (List.mem_of_getElem? (i := 5) rfl)) hs n hn hQ⟩
        · cases hk
      · exact e_Re_growMorse a1 σ K (has _ (List.mem_of_getElem? (i := 1) rfl)) hσ hG
    · exact hG2.elim
