/-! how often a letter comes; the longest part without a letter twice; unlike letters -/
def dst (w : Int → Int) (i j : Int) : Prop := ∀ x y, i ≤ x → x < y → y < j → w x ≠ w y
theorem dst_mono {w : Int → Int} {i j j' : Int} (h : dst w i j) (hj : j' ≤ j) : dst w i j' := fun x y h1 h2 h3 => h x y h1 h2 (by omega)
theorem dst_s {w : Int → Int} {i j : Int} (h : dst w i j) (hn : ∀ x, i ≤ x → x < j → w x ≠ w j) : dst w i (j + 1) := fun x y h1 h2 h3 => by
  rcases (by omega : y < j ∨ y = j) with z | rfl
  · exact h x y h1 h2 z
  · exact hn x h1 h2
def luI (w : Int → Int) (n k m : Int) : Prop := 0 ≤ m ∧ m ≤ n ∧ (m = 0 ∨ ∃ i, 0 ≤ i ∧ i < k ∧ i + m ≤ n ∧ dst w i (i + m)) ∧ ∀ i j, 0 ≤ i → i < k → i ≤ j → j ≤ n → dst w i j → j - i ≤ m
theorem lu_0 {w : Int → Int} {n : Int} (hn : 0 ≤ n) : luI w n 0 0 := ⟨by omega, hn, Or.inl rfl, fun i j h1 h2 => by omega⟩
theorem lu_s {w : Int → Int} {n k m j : Int} (h : luI w n k m) (hk : 0 ≤ k) (h1 : k ≤ j) (h2 : j ≤ n) (hd : dst w k j) (he : j = n ∨ ∃ x, k ≤ x ∧ x < j ∧ w x = w j) : luI w n (k + 1) (max m (j - k)) := by
  obtain ⟨g1, g2, g3, g4⟩ := h
  refine ⟨by omega, by omega, ?_, fun i y i0 i1 i2 i3 i4 => ?_⟩
  · rcases (by omega : max m (j - k) = m ∨ max m (j - k) = j - k) with z | z
    · rw [z]
      rcases g3 with g3 | ⟨i, k1, k2, k3, k4⟩
      · exact Or.inl g3
      · exact Or.inr ⟨i, k1, by omega, k3, k4⟩
    · rw [z]
      exact Or.inr ⟨k, hk, by omega, by omega, by rwa [show k + (j - k) = j by omega]⟩
  · rcases (by omega : i < k ∨ i = k) with z | rfl
    · have := g4 i y i0 z i2 i3 i4; omega
    · have : y ≤ j := by
        refine Classical.byContradiction (fun c => ?_)
        rcases he with he | ⟨x, x1, x2, x3⟩
        · omega
        · exact i4 x j x1 x2 (by omega) x3
      omega
theorem lu_u {w : Int → Int} {n m m' : Int} (h : luI w n n m) (h' : luI w n n m') : m = m' := by
  obtain ⟨g1, g2, g3, g4⟩ := h
  obtain ⟨k1, k2, k3, k4⟩ := h'
  have a : m ≤ m' := by
    rcases g3 with g3 | ⟨i, i0, i1, i2, i3⟩
    · omega
    · have := k4 i (i + m) i0 i1 (by omega) i2 i3; omega
  have b : m' ≤ m := by
    rcases k3 with g3 | ⟨i, i0, i1, i2, i3⟩
    · omega
    · have := g4 i (i + m') i0 i1 (by omega) i2 i3; omega
  omega
def ROft (w : Int → Int) (n c r : Int) : Prop := (c = -1 ∧ luI w n n r) ∨ (0 ≤ c ∧ c < 26 ∧ r = cntZ (fun x => w x = c) 0 n) ∨ ((c < -1 ∨ 26 ≤ c) ∧ r = -1)
theorem ROft_u {w : Int → Int} {n c r r' : Int} (h : ROft w n c r) (h' : ROft w n c r') : r = r' := by
  rcases h with ⟨h1, h2⟩ | ⟨h1, h2, h3⟩ | ⟨h1, h2⟩ <;> rcases h' with ⟨g1, g2⟩ | ⟨g1, g2, g3⟩ | ⟨g1, g2⟩ <;> first | omega | exact lu_u h2 g2
def aW (σ : SS) (i : Nat) : Int → Int := atW (σ 20 i) (σ 501 i 0)
theorem WI_let {σ : SS} {i : Nat} (h : WI σ i) {x : Int} (h0 : 0 ≤ x) (h1 : x < σ 501 i 0) : 0 ≤ aW σ i x ∧ aW σ i x < 26 := by
  have := (h.2.2 x h0 h1).2
  rw [aW, atW_in h0 h1]
  exact this
def S_Wo_timesOf : GS := fun as σ K => match as with
  | [some (.inr (.inr (10, i))), some (.inl a1)] => WI σ i ∧ K (vI (cntZ (fun x => aW σ i x = a1) 0 (σ 501 i 0))) σ
  | _ => False
abbrev Lp_Wo_timesOf_4 (i : Nat) (a1 : Int) (σ0 : SS) (n : Nat) (L : List AV) (σ : SS) : Prop := ∃ (v2 : Int) (v3 : Int), L = [vR 10 i, vI a1, vI v2, vI v3] ∧ n = (1000 - v3).toNat ∧ ((σ = σ0) ∧ (0 ≤ v3 ∧ v3 ≤ σ0 501 i 0) ∧ (v2 = cntZ (fun x => aW σ0 i x = a1) 0 v3))
def Iv_Wo_timesOf (i : Nat) (a1 : Int) (σ0 : SS) (k : Nat) : Option (List Nat × (Nat → List AV → SS → Prop)) := match k with
  | 4 => some ([], Lp_Wo_timesOf_4 i a1 σ0)
  | _ => none
def VE_Wo_timesOf (i : Nat) (a1 : Int) (σ : SS) (K : AV → SS → Prop) : Prop :=
  (∃ n', Lp_Wo_timesOf_4 i a1 σ n' [vR 10 i, vI a1, vI 0, vI 0] σ)
def VL_Wo_timesOf_4 (i : Nat) (a1 : Int) (σ0 : SS) (K : AV → SS → Prop) (v2 : Int) (v3 : Int) (σ : SS) (n : Nat) : Prop :=
  (((σ 501 i 0) ≤ v3 →
    (K (vI v2) σ)) ∧
  (v3 < (σ 501 i 0) →
    (S_Wo_at [vR 10 i, vI v3] σ (kI fun r1 σ1 =>
      ((r1 ≠ a1 →
        (InR (v3 + 1) ∧
        (∃ n', n' < n ∧ Lp_Wo_timesOf_4 i a1 σ0 n' [vR 10 i, vI a1, vI v2, vI (v3 + 1)] σ1))) ∧
      (r1 = a1 →
        (InR (v2 + 1) ∧
        (InR (v3 + 1) ∧
        (∃ n', n' < n ∧ Lp_Wo_timesOf_4 i a1 σ0 n' [vR 10 i, vI a1, vI (v2 + 1), vI (v3 + 1)] σ1)))))))))
theorem l_Wo_timesOf_4 (i : Nat) (a1 : Int) (σ0 : SS) (K : AV → SS → Prop) (hi : i < 14) (ha1 : InR a1) (hs0 : okS σ0) (hG : S_Wo_timesOf [vR 10 i, vI a1] σ0 K) (v2 : Int) (v3 : Int) (σ : SS) (hv2 : InR v2) (hv3 : InR v3) (hs : okS σ) (n : Nat) (hn : n = (1000 - v3).toNat) (hQ : (σ = σ0) ∧ (0 ≤ v3 ∧ v3 ≤ σ0 501 i 0) ∧ (v2 = cntZ (fun x => aW σ0 i x = a1) 0 v3)) : VL_Wo_timesOf_4 i a1 σ0 K v2 v3 σ n := by
  unfold VL_Wo_timesOf_4
  obtain ⟨hT, hG⟩ := hG
  have hb := hT.1
  obtain ⟨rfl, q1, q2⟩ := hQ
  have hin := cntZ_in (P := fun x => aW σ i x = a1) (a := 0) (b := v3)
  have at1 : ∀ p, atW (σ 20 i) (σ 501 i 0) p = aW σ i p := fun p => rfl
  refine ⟨fun c1 => ?_, fun c1 => ?_⟩
  · skip
    rw [q2, show v3 = σ 501 i 0 by omega]; exact hG
  · skip
    refine ⟨(by first | assumption | omega | exact ⟨by first | assumption | omega, by omega⟩ | exact ⟨by assumption, by omega, by omega⟩ | exact ⟨by assumption, by omega, by omega, by omega⟩ | exact ⟨by assumption, by omega, by omega, by omega, by omega⟩ | exact ⟨by assumption, by omega, by omega, by omega, by omega, by omega⟩), ?_⟩
    intro _ _
    rw [at1]
    refine ⟨fun c2 => ?_, fun c2 => ?_⟩
    · skip
      refine ⟨(by omega), ?_⟩
      refine ⟨_, ?_, _, _, rfl, rfl, ?_⟩
      · omega
      · refine ⟨?_, ?_, ?_⟩
        · first | rfl | assumption | omega
        · first | rfl | assumption | omega
        · rw [cntZ_no q1.1 (by assumption)]; exact q2
    · skip
      refine ⟨(by omega), ?_⟩
      refine ⟨(by omega), ?_⟩
      refine ⟨_, ?_, _, _, rfl, rfl, ?_⟩
      · omega
      · refine ⟨?_, ?_, ?_⟩
        · first | rfl | assumption | omega
        · first | rfl | assumption | omega
        · rw [cntZ_yes q1.1 (by assumption)]; omega
theorem e_Wo_timesOf (i : Nat) (a1 : Int) (σ : SS) (K : AV → SS → Prop) (hi : i < 14) (ha1 : InR a1) (hs : okS σ) (hG : S_Wo_timesOf [vR 10 i, vI a1] σ K) : VE_Wo_timesOf i a1 σ K := by
  unfold VE_Wo_timesOf
  obtain ⟨hT, hG⟩ := hG
  have hb := hT.1
  refine ⟨_, _, _, rfl, rfl, ?_⟩
  refine ⟨?_, ?_, ?_⟩
  · first | rfl | assumption | omega
  · first | rfl | assumption | omega
  · exact (cntZ_nil (by omega)).symm
theorem H_Wo_timesOf {d : Nat} (hd : 2 ≤ d) : Holds d I_Wo_timesOf S_Wo_timesOf := by
  refine holds_of (d' := d - 1) (rt := 1) (cal := [(I_Wo_at, S_Wo_at)]) (C := C_Wo_timesOf) m_Wo_timesOf o_Wo_timesOf rfl rfl (by omega) ?_ ?_
  · intro x hx
    simp only [List.mem_cons, List.not_mem_nil, or_false] at hx
    subst hx
    exact H_Wo_at (by omega)
  · intro as σ K has hσ hG
    have hG2 := hG
    unfold S_Wo_timesOf at hG2
    split at hG2
    · next i a1 =>
      refine ⟨Nat.le_of_ble_eq_true rfl, (Iv_Wo_timesOf i a1 σ), ?_, 1000, ?_⟩
      · intro k n z L σ' hk hL hs hP
        unfold Iv_Wo_timesOf at hk
        split at hk
        · cases hk
          obtain ⟨v2, v3, rfl, hn, hQ⟩ := hP
          exact ⟨1000, l_Wo_timesOf_4 i a1 σ K (has _ (List.mem_of_getElem? (i := 0) rfl)) (has _ (List.mem_of_getElem? (i := 1) rfl)) hσ hG v2 v3 σ' (hL _ (List.mem_of_getElem? (i := 2) rfl)) (hL _ (List.mem_of_getElem? (i := 3) rfl)) hs n hn hQ⟩
        · cases hk
      · exact e_Wo_timesOf i a1 σ K (has _ (List.mem_of_getElem? (i := 0) rfl)) (has _ (List.mem_of_getElem? (i := 1) rfl)) hσ hG
    · exact hG2.elim
def S_Wo_lettersBut : GS := fun as σ K => match as with
  | [some (.inr (.inr (10, i))), some (.inl a1)] => WI σ i ∧ ∀ r, bB r (fun c => ∃ x, 0 ≤ x ∧ x < σ 501 i 0 ∧ x ≠ a1 ∧ aW σ i x = c) → K (vI r) σ
  | _ => False
abbrev Lp_Wo_lettersBut_4 (i : Nat) (a1 : Int) (σ0 : SS) (n : Nat) (L : List AV) (σ : SS) : Prop := ∃ (v2 : Int) (v3 : Int), L = [vR 10 i, vI a1, vI v2, vI v3] ∧ n = (1000 - v3).toNat ∧ ((σ = σ0) ∧ (0 ≤ v3 ∧ v3 ≤ σ0 501 i 0) ∧ (bB v2 (fun c => ∃ x, 0 ≤ x ∧ x < v3 ∧ x ≠ a1 ∧ aW σ0 i x = c)))
def Iv_Wo_lettersBut (i : Nat) (a1 : Int) (σ0 : SS) (k : Nat) : Option (List Nat × (Nat → List AV → SS → Prop)) := match k with
  | 4 => some ([], Lp_Wo_lettersBut_4 i a1 σ0)
  | _ => none
def VE_Wo_lettersBut (i : Nat) (a1 : Int) (σ : SS) (K : AV → SS → Prop) : Prop :=
  (∃ n', Lp_Wo_lettersBut_4 i a1 σ n' [vR 10 i, vI a1, vI 0, vI 0] σ)
def VL_Wo_lettersBut_4 (i : Nat) (a1 : Int) (σ0 : SS) (K : AV → SS → Prop) (v2 : Int) (v3 : Int) (σ : SS) (n : Nat) : Prop :=
  (((σ 501 i 0) ≤ v3 →
    (K (vI v2) σ)) ∧
  (v3 < (σ 501 i 0) →
    ((v3 = a1 →
      (InR (v3 + 1) ∧
      (∃ n', n' < n ∧ Lp_Wo_lettersBut_4 i a1 σ0 n' [vR 10 i, vI a1, vI v2, vI (v3 + 1)] σ))) ∧
    (v3 ≠ a1 →
      (S_Wo_at [vR 10 i, vI v3] σ (kI fun r1 σ1 =>
        ((0 ≤ (r1 : Int) ∧ (r1 : Int) < 32 ∧ InR (shlI 1 r1)) ∧
        (InR (v3 + 1) ∧
        (∃ n', n' < n ∧ Lp_Wo_lettersBut_4 i a1 σ0 n' [vR 10 i, vI a1, vI (orI v2 (shlI 1 r1)), vI (v3 + 1)] σ1)))))))))
theorem l_Wo_lettersBut_4 (i : Nat) (a1 : Int) (σ0 : SS) (K : AV → SS → Prop) (hi : i < 14) (ha1 : InR a1) (hs0 : okS σ0) (hG : S_Wo_lettersBut [vR 10 i, vI a1] σ0 K) (v2 : Int) (v3 : Int) (σ : SS) (hv2 : InR v2) (hv3 : InR v3) (hs : okS σ) (n : Nat) (hn : n = (1000 - v3).toNat) (hQ : (σ = σ0) ∧ (0 ≤ v3 ∧ v3 ≤ σ0 501 i 0) ∧ (bB v2 (fun c => ∃ x, 0 ≤ x ∧ x < v3 ∧ x ≠ a1 ∧ aW σ0 i x = c))) : VL_Wo_lettersBut_4 i a1 σ0 K v2 v3 σ n := by
  unfold VL_Wo_lettersBut_4
  obtain ⟨hT, hG⟩ := hG
  have hb := hT.1
  obtain ⟨rfl, q1, q2⟩ := hQ
  have at1 : ∀ p, atW (σ 20 i) (σ 501 i 0) p = aW σ i p := fun p => rfl
  refine ⟨fun c1 => ?_, fun c1 => ?_⟩
  · skip
    exact hG _ (by rwa [show v3 = σ 501 i 0 by omega] at q2)
  · skip
    refine ⟨fun c2 => ?_, fun c2 => ?_⟩
    · skip
      refine ⟨(by omega), ?_⟩
      refine ⟨_, ?_, _, _, rfl, rfl, ?_⟩
      · omega
      · refine ⟨?_, ?_, ?_⟩
        · first | rfl | assumption | omega
        · first | rfl | assumption | omega
        · refine bB_iff q2 (fun c => ⟨fun ⟨x, x1, x2, x3, x4⟩ => ⟨x, x1, by omega, x3, x4⟩, fun ⟨x, x1, x2, x3, x4⟩ => ⟨x, x1, by omega, x3, x4⟩⟩)
    · skip
      refine ⟨(by first | assumption | omega | exact ⟨by first | assumption | omega, by omega⟩ | exact ⟨by assumption, by omega, by omega⟩ | exact ⟨by assumption, by omega, by omega, by omega⟩ | exact ⟨by assumption, by omega, by omega, by omega, by omega⟩ | exact ⟨by assumption, by omega, by omega, by omega, by omega, by omega⟩), ?_⟩
      intro _ _
      rw [at1]
      have hl := WI_let hT (x := v3) (by omega) (by omega)
      refine ⟨(by exact sh26 hl.1 hl.2), ?_⟩
      refine ⟨(by omega), ?_⟩
      refine ⟨_, ?_, _, _, rfl, rfl, ?_⟩
      · omega
      · refine ⟨?_, ?_, ?_⟩
        · first | rfl | assumption | omega
        · first | rfl | assumption | omega
        · refine bB_or q2 hl.1 hl.2 (fun c => ⟨fun ⟨x, x1, x2, x3, x4⟩ => ?_, fun z => ?_⟩)
          · rcases (by omega : x < v3 ∨ x = v3) with z | rfl
            · exact Or.inl ⟨x, x1, z, x3, x4⟩
            · exact Or.inr x4.symm
          · rcases z with ⟨x, x1, x2, x3, x4⟩ | rfl
            · exact ⟨x, x1, by omega, x3, x4⟩
            · exact ⟨v3, q1.1, by omega, by assumption, rfl⟩
theorem e_Wo_lettersBut (i : Nat) (a1 : Int) (σ : SS) (K : AV → SS → Prop) (hi : i < 14) (ha1 : InR a1) (hs : okS σ) (hG : S_Wo_lettersBut [vR 10 i, vI a1] σ K) : VE_Wo_lettersBut i a1 σ K := by
  unfold VE_Wo_lettersBut
  obtain ⟨hT, hG⟩ := hG
  have hb := hT.1
  refine ⟨_, _, _, rfl, rfl, ?_⟩
  refine ⟨?_, ?_, ?_⟩
  · first | rfl | assumption | omega
  · first | rfl | assumption | omega
  · exact bB_0 (fun c ⟨x, x1, x2, _⟩ => by omega)
theorem H_Wo_lettersBut {d : Nat} (hd : 2 ≤ d) : Holds d I_Wo_lettersBut S_Wo_lettersBut := by
  refine holds_of (d' := d - 1) (rt := 1) (cal := [(I_Wo_at, S_Wo_at)]) (C := C_Wo_lettersBut) m_Wo_lettersBut o_Wo_lettersBut rfl rfl (by omega) ?_ ?_
  · intro x hx
    simp only [List.mem_cons, List.not_mem_nil, or_false] at hx
    subst hx
    exact H_Wo_at (by omega)
  · intro as σ K has hσ hG
    have hG2 := hG
    unfold S_Wo_lettersBut at hG2
    split at hG2
    · next i a1 =>
      refine ⟨Nat.le_of_ble_eq_true rfl, (Iv_Wo_lettersBut i a1 σ), ?_, 1000, ?_⟩
      · intro k n z L σ' hk hL hs hP
        unfold Iv_Wo_lettersBut at hk
        split at hk
        · cases hk
          obtain ⟨v2, v3, rfl, hn, hQ⟩ := hP
          exact ⟨1000, l_Wo_lettersBut_4 i a1 σ K (has _ (List.mem_of_getElem? (i := 0) rfl)) (has _ (List.mem_of_getElem? (i := 1) rfl)) hσ hG v2 v3 σ' (hL _ (List.mem_of_getElem? (i := 2) rfl)) (hL _ (List.mem_of_getElem? (i := 3) rfl)) hs n hn hQ⟩
        · cases hk
      · exact e_Wo_lettersBut i a1 σ K (has _ (List.mem_of_getElem? (i := 0) rfl)) (has _ (List.mem_of_getElem? (i := 1) rfl)) hσ hG
    · exact hG2.elim
def S_Wo_longestUnlike : GS := fun as σ K => match as with
  | [some (.inr (.inr (10, i)))] => WI σ i ∧ ∀ r, luI (aW σ i) (σ 501 i 0) (σ 501 i 0) r → K (vI r) σ
  | _ => False
abbrev Lp_Wo_longestUnlike_4 (i : Nat) (σ0 : SS) (n : Nat) (L : List AV) (σ : SS) : Prop := ∃ (v1 : Int) (v2 : Int), L = [vR 10 i, vI v1, vI v2, none, none] ∧ n = (1000 * (1000 - v2)).toNat ∧ ((σ = σ0) ∧ (0 ≤ v2 ∧ v2 ≤ σ0 501 i 0) ∧ (luI (aW σ0 i) (σ0 501 i 0) v2 v1))
abbrev Lp_Wo_longestUnlike_12 (i : Nat) (σ0 : SS) (n : Nat) (L : List AV) (σ : SS) : Prop := ∃ (v1 : Int) (v2 : Int) (v3 : Int) (v4 : Int), L = [vR 10 i, vI v1, vI v2, vI v3, vI v4] ∧ n = (1000 * (1000 - v2) - v4 - 1).toNat ∧ ((σ = σ0) ∧ (0 ≤ v2 ∧ v2 < σ0 501 i 0) ∧ (luI (aW σ0 i) (σ0 501 i 0) v2 v1) ∧ (v2 ≤ v4 ∧ v4 ≤ σ0 501 i 0) ∧ (dst (aW σ0 i) v2 v4) ∧ (bB v3 (fun c => ∃ x, v2 ≤ x ∧ x < v4 ∧ aW σ0 i x = c)))
def Iv_Wo_longestUnlike (i : Nat) (σ0 : SS) (k : Nat) : Option (List Nat × (Nat → List AV → SS → Prop)) := match k with
  | 4 => some ([3, 4], Lp_Wo_longestUnlike_4 i σ0)
  | 12 => some ([], Lp_Wo_longestUnlike_12 i σ0)
  | _ => none
def VE_Wo_longestUnlike (i : Nat) (σ : SS) (K : AV → SS → Prop) : Prop :=
  (∃ n', Lp_Wo_longestUnlike_4 i σ n' [vR 10 i, vI 0, vI 0, none, none] σ)
def VL_Wo_longestUnlike_4 (i : Nat) (σ0 : SS) (K : AV → SS → Prop) (v1 : Int) (v2 : Int) (σ : SS) (n : Nat) : Prop :=
  (((σ 501 i 0) ≤ v2 →
    (K (vI v1) σ)) ∧
  (v2 < (σ 501 i 0) →
    (∃ n', n' < n ∧ Lp_Wo_longestUnlike_12 i σ0 n' [vR 10 i, vI v1, vI v2, vI 0, vI v2] σ)))
def VL_Wo_longestUnlike_12 (i : Nat) (σ0 : SS) (K : AV → SS → Prop) (v1 : Int) (v2 : Int) (v3 : Int) (v4 : Int) (σ : SS) (n : Nat) : Prop :=
  (((σ 501 i 0) ≤ v4 →
    (InR (v4 - v2) ∧
    (InR (v2 + 1) ∧
    (∃ n', n' < n ∧ Lp_Wo_longestUnlike_4 i σ0 n' [vR 10 i, vI (max v1 (v4 - v2)), vI (v2 + 1), none, none] σ)))) ∧
  (v4 < (σ 501 i 0) →
    (S_Wo_at [vR 10 i, vI v4] σ (kI fun r1 σ1 =>
      ((0 ≤ (r1 : Int) ∧ (r1 : Int) < 32 ∧ InR (shrI v3 r1)) ∧
      (((andI (shrI v3 r1) 1) ≠ 0 →
        (InR (v4 - v2) ∧
        (InR (v2 + 1) ∧
        (∃ n', n' < n ∧ Lp_Wo_longestUnlike_4 i σ0 n' [vR 10 i, vI (max v1 (v4 - v2)), vI (v2 + 1), none, none] σ1)))) ∧
      ((andI (shrI v3 r1) 1) = 0 →
        (S_Wo_at [vR 10 i, vI v4] σ1 (kI fun r2 σ2 =>
          ((0 ≤ (r2 : Int) ∧ (r2 : Int) < 32 ∧ InR (shlI 1 r2)) ∧
          (InR (v4 + 1) ∧
          (∃ n', n' < n ∧ Lp_Wo_longestUnlike_12 i σ0 n' [vR 10 i, vI v1, vI v2, vI (orI v3 (shlI 1 r2)), vI (v4 + 1)] σ2))))))))))))
theorem l_Wo_longestUnlike_4 (i : Nat) (σ0 : SS) (K : AV → SS → Prop) (hi : i < 14) (hs0 : okS σ0) (hG : S_Wo_longestUnlike [vR 10 i] σ0 K) (v1 : Int) (v2 : Int) (σ : SS) (hv1 : InR v1) (hv2 : InR v2) (hs : okS σ) (n : Nat) (hn : n = (1000 * (1000 - v2)).toNat) (hQ : (σ = σ0) ∧ (0 ≤ v2 ∧ v2 ≤ σ0 501 i 0) ∧ (luI (aW σ0 i) (σ0 501 i 0) v2 v1)) : VL_Wo_longestUnlike_4 i σ0 K v1 v2 σ n := by
  unfold VL_Wo_longestUnlike_4
  obtain ⟨hT, hG⟩ := hG
  have hb := hT.1
  obtain ⟨rfl, q1, q2⟩ := hQ
  refine ⟨fun c1 => ?_, fun c1 => ?_⟩
  · skip
    exact hG _ (by rwa [show v2 = σ 501 i 0 by omega] at q2)
  · skip
    refine ⟨_, ?_, _, _, _, _, rfl, rfl, ?_⟩
    · omega
    · refine ⟨?_, ?_, ?_, ?_, ?_, ?_⟩
      · first | rfl | assumption | omega
      · first | rfl | assumption | omega
      · first | rfl | assumption | omega
      · first | rfl | assumption | omega
      · exact fun x y h1 h2 h3 => by omega
      · exact bB_0 (fun c ⟨x, x1, x2, _⟩ => by omega)
theorem l_Wo_longestUnlike_12 (i : Nat) (σ0 : SS) (K : AV → SS → Prop) (hi : i < 14) (hs0 : okS σ0) (hG : S_Wo_longestUnlike [vR 10 i] σ0 K) (v1 : Int) (v2 : Int) (v3 : Int) (v4 : Int) (σ : SS) (hv1 : InR v1) (hv2 : InR v2) (hv3 : InR v3) (hv4 : InR v4) (hs : okS σ) (n : Nat) (hn : n = (1000 * (1000 - v2) - v4 - 1).toNat) (hQ : (σ = σ0) ∧ (0 ≤ v2 ∧ v2 < σ0 501 i 0) ∧ (luI (aW σ0 i) (σ0 501 i 0) v2 v1) ∧ (v2 ≤ v4 ∧ v4 ≤ σ0 501 i 0) ∧ (dst (aW σ0 i) v2 v4) ∧ (bB v3 (fun c => ∃ x, v2 ≤ x ∧ x < v4 ∧ aW σ0 i x = c))) : VL_Wo_longestUnlike_12 i σ0 K v1 v2 v3 v4 σ n := by
  unfold VL_Wo_longestUnlike_12
  obtain ⟨hT, hG⟩ := hG
  have hb := hT.1
  obtain ⟨rfl, q1, q2, q3, q4, q5⟩ := hQ
  have at1 : ∀ p, atW (σ 20 i) (σ 501 i 0) p = aW σ i p := fun p => rfl
  have q2a := q2.1
  have q2b := q2.2.1
  refine ⟨fun c1 => ?_, fun c1 => ?_⟩
  · skip
    refine ⟨(by omega), ?_⟩
    refine ⟨(by omega), ?_⟩
    refine ⟨_, ?_, _, _, rfl, rfl, ?_⟩
    · omega
    · refine ⟨?_, ?_, ?_⟩
      · first | rfl | assumption | omega
      · first | rfl | assumption | omega
      · exact lu_s q2 q1.1 q3.1 q3.2 q4 (Or.inl (by omega))
  · skip
    refine ⟨(by first | assumption | omega | exact ⟨by first | assumption | omega, by omega⟩ | exact ⟨by assumption, by omega, by omega⟩ | exact ⟨by assumption, by omega, by omega, by omega⟩ | exact ⟨by assumption, by omega, by omega, by omega, by omega⟩ | exact ⟨by assumption, by omega, by omega, by omega, by omega, by omega⟩), ?_⟩
    intro _ _
    rw [at1]
    have hl := WI_let hT (x := v4) (by omega) (by omega)
    have sb := shr_bit (a := v3) (c := aW σ i v4) q5.1.1 (by have := q5.1.2; omega) hl.1 (by omega)
    refine ⟨(by exact ⟨hl.1, by omega, sb.1⟩), ?_⟩
    refine ⟨fun c2 => ?_, fun c2 => ?_⟩
    · skip
      refine ⟨(by omega), ?_⟩
      refine ⟨(by omega), ?_⟩
      refine ⟨_, ?_, _, _, rfl, rfl, ?_⟩
      · omega
      · refine ⟨?_, ?_, ?_⟩
        · first | rfl | assumption | omega
        · first | rfl | assumption | omega
        · exact lu_s q2 q1.1 q3.1 q3.2 q4 (Or.inr ((q5.2 _ hl.1).mp (sb.2.2.mp (by assumption))))
    · skip
      refine ⟨(by first | assumption | omega | exact ⟨by first | assumption | omega, by omega⟩ | exact ⟨by assumption, by omega, by omega⟩ | exact ⟨by assumption, by omega, by omega, by omega⟩ | exact ⟨by assumption, by omega, by omega, by omega, by omega⟩ | exact ⟨by assumption, by omega, by omega, by omega, by omega, by omega⟩), ?_⟩
      intro _ _
      rw [at1]
      have hl := WI_let hT (x := v4) (by omega) (by omega)
      have sb := shr_bit (a := v3) (c := aW σ i v4) q5.1.1 (by have := q5.1.2; omega) hl.1 (by omega)
      refine ⟨(by exact sh26 hl.1 hl.2), ?_⟩
      refine ⟨(by omega), ?_⟩
      refine ⟨_, ?_, _, _, _, _, rfl, rfl, ?_⟩
      · omega
      · refine ⟨?_, ?_, ?_, ?_, ?_, ?_⟩
        · first | rfl | assumption | omega
        · first | rfl | assumption | omega
        · first | rfl | assumption | omega
        · first | rfl | assumption | omega
        · exact dst_s q4 (fun x x1 x2 x3 => by
            have := sb.2.2.mpr ((q5.2 _ hl.1).mpr ⟨x, x1, x2, x3⟩)
            omega)
        · refine bB_or q5 hl.1 hl.2 (fun c => ⟨fun ⟨x, x1, x2, x4⟩ => ?_, fun z => ?_⟩)
          · rcases (by omega : x < v4 ∨ x = v4) with z | rfl
            · exact Or.inl ⟨x, x1, z, x4⟩
            · exact Or.inr x4.symm
          · rcases z with ⟨x, x1, x2, x4⟩ | rfl
            · exact ⟨x, x1, by omega, x4⟩
            · exact ⟨v4, q3.1, by omega, rfl⟩
theorem e_Wo_longestUnlike (i : Nat) (σ : SS) (K : AV → SS → Prop) (hi : i < 14) (hs : okS σ) (hG : S_Wo_longestUnlike [vR 10 i] σ K) : VE_Wo_longestUnlike i σ K := by
  unfold VE_Wo_longestUnlike
  obtain ⟨hT, hG⟩ := hG
  have hb := hT.1
  refine ⟨_, _, _, rfl, rfl, ?_⟩
  refine ⟨?_, ?_, ?_⟩
  · first | rfl | assumption | omega
  · first | rfl | assumption | omega
  · exact lu_0 hb.1
theorem H_Wo_longestUnlike {d : Nat} (hd : 2 ≤ d) : Holds d I_Wo_longestUnlike S_Wo_longestUnlike := by
  refine holds_of (d' := d - 1) (rt := 1) (cal := [(I_Wo_at, S_Wo_at)]) (C := C_Wo_longestUnlike) m_Wo_longestUnlike o_Wo_longestUnlike rfl rfl (by omega) ?_ ?_
  · intro x hx
    simp only [List.mem_cons, List.not_mem_nil, or_false] at hx
    subst hx
    exact H_Wo_at (by omega)
  · intro as σ K has hσ hG
    have hG2 := hG
    unfold S_Wo_longestUnlike at hG2
    split at hG2
    · next i =>
      refine ⟨Nat.le_of_ble_eq_true rfl, (Iv_Wo_longestUnlike i σ), ?_, 1000, ?_⟩
      · intro k n z L σ' hk hL hs hP
        unfold Iv_Wo_longestUnlike at hk
        split at hk
        · cases hk
          obtain ⟨v1, v2, rfl, hn, hQ⟩ := hP
          exact ⟨1000, l_Wo_longestUnlike_4 i σ K (has _ (List.mem_of_getElem? (i := 0) rfl)) hσ hG v1 v2 σ' (hL _ (List.mem_of_getElem? (i := 1) rfl)) (hL _ (List.mem_of_getElem? (i := 2) rfl)) hs n hn hQ⟩
        · cases hk
          obtain ⟨v1, v2, v3, v4, rfl, hn, hQ⟩ := hP
          exact ⟨1000, l_Wo_longestUnlike_12 i σ K (has _ (List.mem_of_getElem? (i := 0) rfl)) hσ hG v1 v2 v3 v4 σ' (hL _ (List.mem_of_getElem? (i := 1) rfl)) (hL _ (List.mem_of_getElem? (i := 2) rfl)) (hL _ (List.mem_of_getElem? (i := 3) rfl)) (hL _ (List.mem_of_getElem? (i := 4) rfl)) hs n hn hQ⟩
        · cases hk
      · exact e_Wo_longestUnlike i σ K (has _ (List.mem_of_getElem? (i := 0) rfl)) hσ hG
    · exact hG2.elim
def S_Wr_often : GS := fun as σ K => match as with
  | [some (.inr (.inr (11, 0))), some (.inl a1)] => TwC σ ∧ ∀ r, ROft (cW σ) (σ 501 0 0) a1 r → K (vI r) σ
  | _ => False
def VE_Wr_often (a1 : Int) (σ : SS) (K : AV → SS → Prop) : Prop :=
  ((a1 ≠ (-1) →
    (S_Wr_isLetter [vR 11 0, vI a1] σ (kI fun r1 σ1 =>
      ((r1 = 0 →
        (K (vI (-1)) σ1)) ∧
      (r1 ≠ 0 →
        (S_Wo_timesOf [vR 10 0, vI a1] σ1 (kI fun r2 σ2 =>
          (K (vI r2) σ2)))))))) ∧
  (a1 = (-1) →
    (S_Wo_longestUnlike [vR 10 0] σ (kI fun r3 σ3 =>
      (K (vI r3) σ3)))))
theorem e_Wr_often (a1 : Int) (σ : SS) (K : AV → SS → Prop) (ha1 : InR a1) (hs : okS σ) (hG : S_Wr_often [vR 11 0, vI a1] σ K) : VE_Wr_often a1 σ K := by
  unfold VE_Wr_often
  obtain ⟨hT, hG⟩ := hG
  have hW : WI σ 0 := hT.1
  refine ⟨fun c1 => ?_, fun c1 => ?_⟩
  · skip
    refine bS_b0 (fun p2 _ => ?_) (fun p2 _ => ?_)
    · skip
      refine ⟨(by first | assumption | omega | exact ⟨by first | assumption | omega, by omega⟩ | exact ⟨by assumption, by omega, by omega⟩ | exact ⟨by assumption, by omega, by omega, by omega⟩ | exact ⟨by assumption, by omega, by omega, by omega, by omega⟩ | exact ⟨by assumption, by omega, by omega, by omega, by omega, by omega⟩), ?_⟩
      intro _ _
      exact hG _ (Or.inr (Or.inl ⟨by omega, by omega, rfl⟩))
    · skip
      exact hG _ (Or.inr (Or.inr ⟨by omega, rfl⟩))
  · skip
    refine ⟨(by first | assumption | omega | exact ⟨by first | assumption | omega, by omega⟩ | exact ⟨by assumption, by omega, by omega⟩ | exact ⟨by assumption, by omega, by omega, by omega⟩ | exact ⟨by assumption, by omega, by omega, by omega, by omega⟩ | exact ⟨by assumption, by omega, by omega, by omega, by omega, by omega⟩), (fun r2 h2a => ?_)⟩
    intro _ _
    exact hG _ (Or.inl ⟨by omega, by assumption⟩)
theorem H_Wr_often {d : Nat} (hd : 3 ≤ d) : Holds d I_Wr_often S_Wr_often := by
  refine holds_of (d' := d - 1) (rt := 1) (cal := [(I_Wo_longestUnlike, S_Wo_longestUnlike), (I_Wr_isLetter, S_Wr_isLetter), (I_Wo_timesOf, S_Wo_timesOf)]) (C := C_Wr_often) m_Wr_often o_Wr_often rfl rfl (by omega) ?_ ?_
  · intro x hx
    simp only [List.mem_cons, List.not_mem_nil, or_false] at hx
    rcases hx with rfl | rfl | rfl
    · exact H_Wo_longestUnlike (by omega)
    · exact H_Wr_isLetter (by omega)
    · exact H_Wo_timesOf (by omega)
  · intro as σ K has hσ hG
    have hG2 := hG
    unfold S_Wr_often at hG2
    split at hG2
    · next a1 =>
      refine ⟨Nat.le_of_ble_eq_true rfl, (fun _ => none), ?_, 1000, ?_⟩
      · intro k n z L σ' hk hL hs hP
        cases hk
      · exact e_Wr_often a1 σ K (has _ (List.mem_of_getElem? (i := 1) rfl)) hσ hG
    · exact hG2.elim
def S_Mo_longestUnlike : GS := fun as σ K => match as with
  | [some (.inr (.inr (12, 0)))] => MoW σ ∧ ∀ r, luI (mW σ) (σ 40 0 0) (σ 40 0 0) r → K (vI r) σ
  | _ => False
abbrev Lp_Mo_longestUnlike_4 (σ0 : SS) (n : Nat) (L : List AV) (σ : SS) : Prop := ∃ (v1 : Int) (v2 : Int), L = [vR 12 0, vI v1, vI v2, none] ∧ n = (1000 * (1000 - v2)).toNat ∧ ((σ = σ0) ∧ (0 ≤ v2 ∧ v2 ≤ (σ0 40 0 0)) ∧ (luI (mW σ0) (σ0 40 0 0) v2 v1))
abbrev Lp_Mo_longestUnlike_10 (σ0 : SS) (n : Nat) (L : List AV) (σ : SS) : Prop := ∃ (v1 : Int) (v2 : Int) (v3 : Int), L = [vR 12 0, vI v1, vI v2, vI v3] ∧ n = (1000 * (1000 - v2) - v3 - 1).toNat ∧ ((σ = σ0) ∧ (0 ≤ v2 ∧ v2 < (σ0 40 0 0)) ∧ (luI (mW σ0) (σ0 40 0 0) v2 v1) ∧ (v2 ≤ v3 ∧ v3 ≤ (σ0 40 0 0)) ∧ (dst (mW σ0) v2 v3))
def Iv_Mo_longestUnlike (σ0 : SS) (k : Nat) : Option (List Nat × (Nat → List AV → SS → Prop)) := match k with
  | 4 => some ([3], Lp_Mo_longestUnlike_4 σ0)
  | 10 => some ([], Lp_Mo_longestUnlike_10 σ0)
  | _ => none
def VE_Mo_longestUnlike (σ : SS) (K : AV → SS → Prop) : Prop :=
  (∃ n', Lp_Mo_longestUnlike_4 σ n' [vR 12 0, vI 0, vI 0, none] σ)
def VL_Mo_longestUnlike_4 (σ0 : SS) (K : AV → SS → Prop) (v1 : Int) (v2 : Int) (σ : SS) (n : Nat) : Prop :=
  (S_Mo_size [vR 12 0] σ (kI fun r1 σ1 =>
    ((r1 ≤ v2 →
      (K (vI v1) σ1)) ∧
    (v2 < r1 →
      (∃ n', n' < n ∧ Lp_Mo_longestUnlike_10 σ0 n' [vR 12 0, vI v1, vI v2, vI v2] σ1)))))
def VL_Mo_longestUnlike_10 (σ0 : SS) (K : AV → SS → Prop) (v1 : Int) (v2 : Int) (v3 : Int) (σ : SS) (n : Nat) : Prop :=
  (S_Mo_size [vR 12 0] σ (kI fun r1 σ1 =>
    ((r1 ≤ v3 →
      (InR (v3 - v2) ∧
      (((v3 - v2) ≤ v1 →
        (InR (v2 + 1) ∧
        (∃ n', n' < n ∧ Lp_Mo_longestUnlike_4 σ0 n' [vR 12 0, vI v1, vI (v2 + 1), none] σ1))) ∧
      (v1 < (v3 - v2) →
        (InR (v3 - v2) ∧
        (InR (v2 + 1) ∧
        (∃ n', n' < n ∧ Lp_Mo_longestUnlike_4 σ0 n' [vR 12 0, vI (v3 - v2), vI (v2 + 1), none] σ1))))))) ∧
    (v3 < r1 →
      (S_Mo_at [vR 12 0, vI v3] σ1 (kI fun r2 σ2 =>
        (S_Mo_isIn [vR 12 0, vI r2, vI v2, vI v3] σ2 (kI fun r3 σ3 =>
          ((r3 ≠ 0 →
            (InR (v3 - v2) ∧
            (((v3 - v2) ≤ v1 →
              (InR (v2 + 1) ∧
              (∃ n', n' < n ∧ Lp_Mo_longestUnlike_4 σ0 n' [vR 12 0, vI v1, vI (v2 + 1), none] σ3))) ∧
            (v1 < (v3 - v2) →
              (InR (v3 - v2) ∧
              (InR (v2 + 1) ∧
              (∃ n', n' < n ∧ Lp_Mo_longestUnlike_4 σ0 n' [vR 12 0, vI (v3 - v2), vI (v2 + 1), none] σ3))))))) ∧
          (r3 = 0 →
            (InR (v3 + 1) ∧
            (∃ n', n' < n ∧ Lp_Mo_longestUnlike_10 σ0 n' [vR 12 0, vI v1, vI v2, vI (v3 + 1)] σ3))))))))))))
theorem l_Mo_longestUnlike_4 (σ0 : SS) (K : AV → SS → Prop) (hs0 : okS σ0) (hG : S_Mo_longestUnlike [vR 12 0] σ0 K) (v1 : Int) (v2 : Int) (σ : SS) (hv1 : InR v1) (hv2 : InR v2) (hs : okS σ) (n : Nat) (hn : n = (1000 * (1000 - v2)).toNat) (hQ : (σ = σ0) ∧ (0 ≤ v2 ∧ v2 ≤ (σ0 40 0 0)) ∧ (luI (mW σ0) (σ0 40 0 0) v2 v1)) : VL_Mo_longestUnlike_4 σ0 K v1 v2 σ n := by
  unfold VL_Mo_longestUnlike_4
  obtain ⟨hM, hG⟩ := hG
  have hb := hM.n
  obtain ⟨rfl, q1, q2⟩ := hQ
  intro _ _
  refine ⟨fun c1 => ?_, fun c1 => ?_⟩
  · skip
    exact hG _ (by rwa [show v2 = (σ 40 0 0) by omega] at q2)
  · skip
    refine ⟨_, ?_, _, _, _, rfl, rfl, ?_⟩
    · omega
    · refine ⟨?_, ?_, ?_, ?_, ?_⟩
      · first | rfl | assumption | omega
      · first | rfl | assumption | omega
      · first | rfl | assumption | omega
      · first | rfl | assumption | omega
      · exact fun x y h1 h2 h3 => by omega
theorem l_Mo_longestUnlike_10 (σ0 : SS) (K : AV → SS → Prop) (hs0 : okS σ0) (hG : S_Mo_longestUnlike [vR 12 0] σ0 K) (v1 : Int) (v2 : Int) (v3 : Int) (σ : SS) (hv1 : InR v1) (hv2 : InR v2) (hv3 : InR v3) (hs : okS σ) (n : Nat) (hn : n = (1000 * (1000 - v2) - v3 - 1).toNat) (hQ : (σ = σ0) ∧ (0 ≤ v2 ∧ v2 < (σ0 40 0 0)) ∧ (luI (mW σ0) (σ0 40 0 0) v2 v1) ∧ (v2 ≤ v3 ∧ v3 ≤ (σ0 40 0 0)) ∧ (dst (mW σ0) v2 v3)) : VL_Mo_longestUnlike_10 σ0 K v1 v2 v3 σ n := by
  unfold VL_Mo_longestUnlike_10
  obtain ⟨hM, hG⟩ := hG
  have hb := hM.n
  obtain ⟨rfl, q1, q2, q3, q4⟩ := hQ
  have q2a := q2.1
  have q2b := q2.2.1
  intro _ _
  refine ⟨fun c1 => ?_, fun c1 => ?_⟩
  · skip
    refine ⟨(by omega), ?_⟩
    refine ⟨fun c2 => ?_, fun c2 => ?_⟩
    · skip
      refine ⟨(by omega), ?_⟩
      refine ⟨_, ?_, _, _, rfl, rfl, ?_⟩
      · omega
      · refine ⟨?_, ?_, ?_⟩
        · first | rfl | assumption | omega
        · first | rfl | assumption | omega
        · have := lu_s q2 q1.1 q3.1 q3.2 q4 (Or.inl (by omega))
          rwa [show max v1 (v3 - v2) = v1 by omega] at this
    · skip
      refine ⟨(by omega), ?_⟩
      refine ⟨(by omega), ?_⟩
      refine ⟨_, ?_, _, _, rfl, rfl, ?_⟩
      · omega
      · refine ⟨?_, ?_, ?_⟩
        · first | rfl | assumption | omega
        · first | rfl | assumption | omega
        · have := lu_s q2 q1.1 q3.1 q3.2 q4 (Or.inl (by omega))
          rwa [show max v1 (v3 - v2) = v3 - v2 by omega] at this
  · skip
    refine ⟨(by first | assumption | omega | exact ⟨by first | assumption | omega, by omega⟩ | exact ⟨by assumption, by omega, by omega⟩ | exact ⟨by assumption, by omega, by omega, by omega⟩ | exact ⟨by assumption, by omega, by omega, by omega, by omega⟩ | exact ⟨by assumption, by omega, by omega, by omega, by omega, by omega⟩), ?_⟩
    intro _ _
    refine ⟨(by exact ⟨hM, by omega, by omega⟩), ?_⟩
    refine bS_b1 (fun p2 _ => ?_) (fun p2 _ => ?_)
    · skip
      refine ⟨(by omega), ?_⟩
      refine ⟨fun c3 => ?_, fun c3 => ?_⟩
      · skip
        refine ⟨(by omega), ?_⟩
        refine ⟨_, ?_, _, _, rfl, rfl, ?_⟩
        · omega
        · refine ⟨?_, ?_, ?_⟩
          · first | rfl | assumption | omega
          · first | rfl | assumption | omega
          · have := lu_s q2 q1.1 q3.1 q3.2 q4 (Or.inr (by assumption))
            rwa [show max v1 (v3 - v2) = v1 by omega] at this
      · skip
        refine ⟨(by omega), ?_⟩
        refine ⟨(by omega), ?_⟩
        refine ⟨_, ?_, _, _, rfl, rfl, ?_⟩
        · omega
        · refine ⟨?_, ?_, ?_⟩
          · first | rfl | assumption | omega
          · first | rfl | assumption | omega
          · have := lu_s q2 q1.1 q3.1 q3.2 q4 (Or.inr (by assumption))
            rwa [show max v1 (v3 - v2) = v3 - v2 by omega] at this
    · skip
      refine ⟨(by omega), ?_⟩
      refine ⟨_, ?_, _, _, _, rfl, rfl, ?_⟩
      · omega
      · refine ⟨?_, ?_, ?_, ?_, ?_⟩
        · first | rfl | assumption | omega
        · first | rfl | assumption | omega
        · first | rfl | assumption | omega
        · first | rfl | assumption | omega
        · exact dst_s q4 (fun x x1 x2 x3 => p2 ⟨x, x1, x2, x3⟩)
theorem e_Mo_longestUnlike (σ : SS) (K : AV → SS → Prop) (hs : okS σ) (hG : S_Mo_longestUnlike [vR 12 0] σ K) : VE_Mo_longestUnlike σ K := by
  unfold VE_Mo_longestUnlike
  obtain ⟨hM, hG⟩ := hG
  have hb := hM.n
  refine ⟨_, _, _, rfl, rfl, ?_⟩
  refine ⟨?_, ?_, ?_⟩
  · first | rfl | assumption | omega
  · first | rfl | assumption | omega
  · exact lu_0 hb.1
theorem H_Mo_longestUnlike {d : Nat} (hd : 3 ≤ d) : Holds d I_Mo_longestUnlike S_Mo_longestUnlike := by
  refine holds_of (d' := d - 1) (rt := 1) (cal := [(I_Mo_size, S_Mo_size), (I_Mo_at, S_Mo_at), (I_Mo_isIn, S_Mo_isIn)]) (C := C_Mo_longestUnlike) m_Mo_longestUnlike o_Mo_longestUnlike rfl rfl (by omega) ?_ ?_
  · intro x hx
    simp only [List.mem_cons, List.not_mem_nil, or_false] at hx
    rcases hx with rfl | rfl | rfl
    · exact H_Mo_size (by omega)
    · exact H_Mo_at (by omega)
    · exact H_Mo_isIn (by omega)
  · intro as σ K has hσ hG
    have hG2 := hG
    unfold S_Mo_longestUnlike at hG2
    split at hG2
    · skip
      refine ⟨Nat.le_of_ble_eq_true rfl, (Iv_Mo_longestUnlike σ), ?_, 1000, ?_⟩
      · intro k n z L σ' hk hL hs hP
        unfold Iv_Mo_longestUnlike at hk
        split at hk
        · cases hk
          obtain ⟨v1, v2, rfl, hn, hQ⟩ := hP
          exact ⟨1000, l_Mo_longestUnlike_4 σ K  hσ hG v1 v2 σ' (hL _ (List.mem_of_getElem? (i := 1) rfl)) (hL _ (List.mem_of_getElem? (i := 2) rfl)) hs n hn hQ⟩
        · cases hk
          obtain ⟨v1, v2, v3, rfl, hn, hQ⟩ := hP
          exact ⟨1000, l_Mo_longestUnlike_10 σ K  hσ hG v1 v2 v3 σ' (hL _ (List.mem_of_getElem? (i := 1) rfl)) (hL _ (List.mem_of_getElem? (i := 2) rfl)) (hL _ (List.mem_of_getElem? (i := 3) rfl)) hs n hn hQ⟩
        · cases hk
      · exact e_Mo_longestUnlike σ K  hσ hG
    · exact hG2.elim
def S_Mo_often : GS := fun as σ K => match as with
  | [some (.inr (.inr (12, 0))), some (.inl a1)] => MoW σ ∧ ∀ r, ROft (mW σ) (σ 40 0 0) a1 r → K (vI r) σ
  | _ => False
abbrev Lp_Mo_often_18 (a1 : Int) (σ0 : SS) (n : Nat) (L : List AV) (σ : SS) : Prop := ∃ (v2 : Int) (v3 : Int), L = [vR 12 0, vI a1, vI v2, vI v3] ∧ n = (1000 - v3).toNat ∧ ((σ = σ0) ∧ (0 ≤ a1 ∧ a1 < 26) ∧ (0 ≤ v3 ∧ v3 ≤ (σ0 40 0 0)) ∧ (v2 = cntZ (fun x => mW σ0 x = a1) 0 v3))
def Iv_Mo_often (a1 : Int) (σ0 : SS) (k : Nat) : Option (List Nat × (Nat → List AV → SS → Prop)) := match k with
  | 18 => some ([], Lp_Mo_often_18 a1 σ0)
  | _ => none
def VE_Mo_often (a1 : Int) (σ : SS) (K : AV → SS → Prop) : Prop :=
  ((a1 ≠ (-1) →
    (S_Mo_in [vL a1, vL 0, vL 25] σ (kI fun r1 σ1 =>
      ((r1 ≠ 0 →
        (∃ n', Lp_Mo_often_18 a1 σ n' [vR 12 0, vI a1, vI 0, vI 0] σ1)) ∧
      (r1 = 0 →
        (K (vI (-1)) σ1)))))) ∧
  (a1 = (-1) →
    (S_Mo_longestUnlike [vR 12 0] σ (kI fun r2 σ2 =>
      (K (vI r2) σ2)))))
def VL_Mo_often_18 (a1 : Int) (σ0 : SS) (K : AV → SS → Prop) (v2 : Int) (v3 : Int) (σ : SS) (n : Nat) : Prop :=
  (S_Mo_size [vR 12 0] σ (kI fun r1 σ1 =>
    ((r1 ≤ v3 →
      (K (vI v2) σ1)) ∧
    (v3 < r1 →
      (S_Mo_at [vR 12 0, vI v3] σ1 (kI fun r2 σ2 =>
        ((r2 ≠ a1 →
          (InR (v2 + 0) ∧
          (InR (v3 + 1) ∧
          (∃ n', n' < n ∧ Lp_Mo_often_18 a1 σ0 n' [vR 12 0, vI a1, vI (v2 + 0), vI (v3 + 1)] σ2)))) ∧
        (r2 = a1 →
          (InR (v2 + 1) ∧
          (InR (v3 + 1) ∧
          (∃ n', n' < n ∧ Lp_Mo_often_18 a1 σ0 n' [vR 12 0, vI a1, vI (v2 + 1), vI (v3 + 1)] σ2)))))))))))
theorem l_Mo_often_18 (a1 : Int) (σ0 : SS) (K : AV → SS → Prop) (ha1 : InR a1) (hs0 : okS σ0) (hG : S_Mo_often [vR 12 0, vI a1] σ0 K) (v2 : Int) (v3 : Int) (σ : SS) (hv2 : InR v2) (hv3 : InR v3) (hs : okS σ) (n : Nat) (hn : n = (1000 - v3).toNat) (hQ : (σ = σ0) ∧ (0 ≤ a1 ∧ a1 < 26) ∧ (0 ≤ v3 ∧ v3 ≤ (σ0 40 0 0)) ∧ (v2 = cntZ (fun x => mW σ0 x = a1) 0 v3)) : VL_Mo_often_18 a1 σ0 K v2 v3 σ n := by
  unfold VL_Mo_often_18
  obtain ⟨hM, hG⟩ := hG
  have hb := hM.n
  obtain ⟨rfl, q0, q1, q2⟩ := hQ
  have hin := cntZ_in (P := fun x => mW σ x = a1) (a := 0) (b := v3)
  intro _ _
  refine ⟨fun c1 => ?_, fun c1 => ?_⟩
  · skip
    exact hG _ (Or.inr (Or.inl ⟨by omega, by omega, by rw [q2, show v3 = (σ 40 0 0) by omega]⟩))
  · skip
    refine ⟨(by first | assumption | omega | exact ⟨by first | assumption | omega, by omega⟩ | exact ⟨by assumption, by omega, by omega⟩ | exact ⟨by assumption, by omega, by omega, by omega⟩ | exact ⟨by assumption, by omega, by omega, by omega, by omega⟩ | exact ⟨by assumption, by omega, by omega, by omega, by omega, by omega⟩), ?_⟩
    intro _ _
    refine ⟨fun c2 => ?_, fun c2 => ?_⟩
    · skip
      refine ⟨(by omega), ?_⟩
      refine ⟨(by omega), ?_⟩
      refine ⟨_, ?_, _, _, rfl, rfl, ?_⟩
      · omega
      · refine ⟨?_, ?_, ?_, ?_⟩
        · first | rfl | assumption | omega
        · first | rfl | assumption | omega
        · first | rfl | assumption | omega
        · rw [cntZ_no q1.1 (by assumption)]; omega
    · skip
      refine ⟨(by omega), ?_⟩
      refine ⟨(by omega), ?_⟩
      refine ⟨_, ?_, _, _, rfl, rfl, ?_⟩
      · omega
      · refine ⟨?_, ?_, ?_, ?_⟩
        · first | rfl | assumption | omega
        · first | rfl | assumption | omega
        · first | rfl | assumption | omega
        · rw [cntZ_yes q1.1 (by assumption)]; omega
theorem e_Mo_often (a1 : Int) (σ : SS) (K : AV → SS → Prop) (ha1 : InR a1) (hs : okS σ) (hG : S_Mo_often [vR 12 0, vI a1] σ K) : VE_Mo_often a1 σ K := by
  unfold VE_Mo_often
  obtain ⟨hM, hG⟩ := hG
  have hb := hM.n
  refine ⟨fun c1 => ?_, fun c1 => ?_⟩
  · skip
    refine bS_b1 (fun p2 _ => ?_) (fun p2 _ => ?_)
    · skip
      refine ⟨_, _, _, rfl, rfl, ?_⟩
      refine ⟨?_, ?_, ?_, ?_⟩
      · first | rfl | assumption | omega
      · first | rfl | assumption | omega
      · first | rfl | assumption | omega
      · exact (cntZ_nil (by omega)).symm
    · skip
      exact hG _ (Or.inr (Or.inr ⟨by omega, rfl⟩))
  · skip
    refine ⟨(by first | assumption | omega | exact ⟨by first | assumption | omega, by omega⟩ | exact ⟨by assumption, by omega, by omega⟩ | exact ⟨by assumption, by omega, by omega, by omega⟩ | exact ⟨by assumption, by omega, by omega, by omega, by omega⟩ | exact ⟨by assumption, by omega, by omega, by omega, by omega, by omega⟩), (fun r2 h2a => ?_)⟩
    intro _ _
    exact hG _ (Or.inl ⟨by omega, by assumption⟩)
theorem H_Mo_often {d : Nat} (hd : 4 ≤ d) : Holds d I_Mo_often S_Mo_often := by
  refine holds_of (d' := d - 1) (rt := 1) (cal := [(I_Mo_longestUnlike, S_Mo_longestUnlike), (I_Mo_in, S_Mo_in), (I_Mo_size, S_Mo_size), (I_Mo_at, S_Mo_at)]) (C := C_Mo_often) m_Mo_often o_Mo_often rfl rfl (by omega) ?_ ?_
  · intro x hx
    simp only [List.mem_cons, List.not_mem_nil, or_false] at hx
    rcases hx with rfl | rfl | rfl | rfl
    · exact H_Mo_longestUnlike (by omega)
    · exact H_Mo_in (by omega)
    · exact H_Mo_size (by omega)
    · exact H_Mo_at (by omega)
  · intro as σ K has hσ hG
    have hG2 := hG
    unfold S_Mo_often at hG2
    split at hG2
    · next a1 =>
      refine ⟨Nat.le_of_ble_eq_true rfl, (Iv_Mo_often a1 σ), ?_, 1000, ?_⟩
      · intro k n z L σ' hk hL hs hP
        unfold Iv_Mo_often at hk
        split at hk
        · cases hk
          obtain ⟨v2, v3, rfl, hn, hQ⟩ := hP
          exact ⟨1000, l_Mo_often_18 a1 σ K (has _ (List.mem_of_getElem? (i := 1) rfl)) hσ hG v2 v3 σ' (hL _ (List.mem_of_getElem? (i := 2) rfl)) (hL _ (List.mem_of_getElem? (i := 3) rfl)) hs n hn hQ⟩
        · cases hk
      · exact e_Mo_often a1 σ K (has _ (List.mem_of_getElem? (i := 1) rfl)) hσ hG
    · exact hG2.elim
