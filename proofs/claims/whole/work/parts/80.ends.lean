/-! ends in order: both sides put one end after the other in its place -/
def lsE (w : Int → Int) (n a b : Int) : Prop := cmpP w a n b n < 0
def scnF (w : Int → Int) (n j : Int) (E : Int → Int) : Nat → Int
  | 0 => 0
  | x + 1 => if cmpP w j n (E x) n < 0 then scnF w n j E x else (x : Int) + 1
def insE (w : Int → Int) (n : Int) : Nat → Int → Int
  | 0 => fun _ => 0
  | j + 1 => fun k => if k < scnF w n j (insE w n j) j then insE w n j k else if k = scnF w n j (insE w n j) j then (j : Int) else insE w n j (k - 1)
theorem scn_in {w : Int → Int} {n j : Int} {E : Int → Int} : ∀ x : Nat, 0 ≤ scnF w n j E x ∧ scnF w n j E x ≤ x := by
  intro x
  induction x with
  | zero => exact ⟨Int.le_refl _, Int.le_refl _⟩
  | succ x ih =>
    unfold scnF
    split <;> omega
theorem ins_in {w : Int → Int} {n : Int} : ∀ (j : Nat) (k : Int), 0 ≤ k → k < j → 0 ≤ insE w n j k ∧ insE w n j k < j := by
  intro j
  induction j with
  | zero => intro k k0 k1; omega
  | succ j ih =>
    intro k k0 k1
    have s := scn_in (w := w) (n := n) (j := (j : Int)) (E := insE w n j) j
    unfold insE
    split
    · have := ih k k0 (by omega); omega
    · split
      · omega
      · have := ih (k - 1) (by omega) (by omega); omega
theorem scn_s {w : Int → Int} {n j x : Int} {E : Int → Int} (hx : 0 < x) : scnF w n j E x.toNat = if cmpP w j n (E (x - 1)) n < 0 then scnF w n j E (x - 1).toNat else x := by
  rw [show x.toNat = (x - 1).toNat + 1 by omega]
  show (if cmpP w j n (E ((x - 1).toNat : Int)) n < 0 then scnF w n j E (x - 1).toNat else ((x - 1).toNat : Int) + 1) = _
  rw [show (((x - 1).toNat : Nat) : Int) = x - 1 by omega, show x - 1 + 1 = x by omega]
/-- the ends while the j-th is on its way down: it has come to x -/
def onW (w : Int → Int) (n j x : Int) (A : Int → Int) : Prop := (∀ k, 0 ≤ k → k < x → A k = insE w n j.toNat k) ∧ (∀ k, x < k → k ≤ j → A k = insE w n j.toNat (k - 1)) ∧ scnF w n j (insE w n j.toNat) x.toNat = scnF w n j (insE w n j.toNat) j.toNat
theorem onW_0 {w A : Int → Int} {n j : Int} (h : ∀ k, 0 ≤ k → k < j → A k = insE w n j.toNat k) : onW w n j j A := ⟨h, fun k k0 k1 => by omega, rfl⟩
theorem onW_s {w A B : Int → Int} {n j x : Int} (h : onW w n j x A) (hx : 0 < x) (hc : cmpP w j n (insE w n j.toNat (x - 1)) n < 0) (hB : ∀ k, B k = if k = x then A (x - 1) else A k) : onW w n j (x - 1) B := by
  obtain ⟨h1, h2, h3⟩ := h
  refine ⟨fun k k0 k1 => by rw [hB, if_neg (by omega)]; exact h1 k k0 (by omega), fun k k0 k1 => ?_, ?_⟩
  · rw [hB]
    by_cases z : k = x
    · rw [if_pos z, z]; exact h1 _ (by omega) (by omega)
    · rw [if_neg z]; exact h2 k (by omega) k1
  · rw [← h3, scn_s hx, if_pos hc]
theorem onW_end {w A B : Int → Int} {n j x : Int} (h : onW w n j x A) (hj : 0 ≤ j) (hx : 0 ≤ x) (hc : x = 0 ∨ ¬ cmpP w j n (insE w n j.toNat (x - 1)) n < 0) (hB : ∀ k, B k = if k = x then j else A k) : ∀ k, 0 ≤ k → k < j + 1 → B k = insE w n (j + 1).toNat k := by
  obtain ⟨h1, h2, h3⟩ := h
  have e : scnF w n j (insE w n j.toNat) j.toNat = x := by
    rw [← h3]
    rcases hc with rfl | hc
    · rfl
    · by_cases z : x = 0
      · subst z; rfl
      · rw [scn_s (by omega), if_neg hc]
  intro k k0 k1
  rw [show (j + 1).toNat = j.toNat + 1 by omega]
  unfold insE
  rw [show ((j.toNat : Nat) : Int) = j by omega, e, hB]
  by_cases z : k = x
  · rw [if_pos z, if_neg (by omega), if_pos z]
  · rw [if_neg z]
    by_cases y : k < x
    · rw [if_pos y]; exact h1 k k0 y
    · rw [if_neg y, if_neg z]; exact h2 k (by omega) (by omega)
def REnds (w : Int → Int) (n k a r : Int) : Prop := gd ((0 ≤ k ∧ k < n) ∧ 0 ≤ a ∧ a ≤ 1) (-1) r (r = if a = 0 then insE w n n.toNat k else if k = 0 then 0 else lce w n (insE w n n.toNat (k - 1)) (insE w n n.toNat k))
theorem REnds_u {w : Int → Int} {n k a r r' : Int} (h : REnds w n k a r) (h' : REnds w n k a r') : r = r' := gd_uniq h h' (fun _ a b => a.trans b.symm)
def OrL : List (Nat × Nat) := [(34, 0), (143, 0)]
def EQ (σ σ' : SS) : Prop := Fr (TwL ++ OrL) σ σ' ∧ TwC σ'
theorem EQ.rf {σ : SS} (h : TwC σ) : EQ σ σ := ⟨Fr_refl, h⟩
theorem EQ.tr {σ σ1 σ2 : SS} (h : EQ σ σ1) (h2 : EQ σ1 σ2) : EQ σ σ2 := ⟨Fr_trans h.1 h2.1, h2.2⟩
theorem EQ.w {σ σ' : SS} (h : EQ σ σ') : cW σ' = cW σ ∧ σ' 501 0 0 = σ 501 0 0 := by
  have e1 : σ' 20 0 = σ 20 0 := h.1 _ _ (by simp [OrL, TwL])
  have e2 : σ' 501 0 = σ 501 0 := h.1 _ _ (by simp [OrL, TwL])
  exact ⟨cW_fr e1 e2, by rw [e2]⟩
theorem TQ.E {σ σ' : SS} (h : TQ σ σ') : EQ σ σ' := ⟨Fr_mono h.1 (by intro q hq; simp [hq]), h.2⟩
def OrV (σ : SS) : Prop := ∀ k, 0 ≤ k → k < (σ 501 0 0) → σ 34 0 k = insE (cW σ) (σ 501 0 0) (σ 501 0 0).toNat k
def OrC (σ : SS) : Prop := σ 143 0 0 ≠ 0 → OrV σ
def S_Or_sort : GS := fun as σ K => match as with
  | [some (.inr (.inr (1, 0)))] => TwC σ ∧ ∀ σ', EQ σ σ' → OrV σ' → K none σ'
  | _ => False
abbrev Lp_Or_sort_9 (σ0 : SS) (n : Nat) (L : List AV) (σ : SS) : Prop := ∃ (v1 : Int) (v2 : Int), L = [vR 1 0, vI v1, vI v2, none] ∧ n = (1000 * (1000 - v2)).toNat ∧ ((EQ σ0 σ) ∧ (v1 = (σ0 501 0 0)) ∧ (0 ≤ v2 ∧ v2 ≤ (σ0 501 0 0)) ∧ (∀ k, 0 ≤ k → k < v2 → σ 34 0 k = insE (cW σ0) (σ0 501 0 0) v2.toNat k))
abbrev Lp_Or_sort_17 (σ0 : SS) (n : Nat) (L : List AV) (σ : SS) : Prop := ∃ (v1 : Int) (v2 : Int) (v3 : Int), L = [vR 1 0, vI v1, vI v2, vI v3] ∧ n = (1000 * (1000 - v2) - 500 + v3).toNat ∧ ((EQ σ0 σ) ∧ (v1 = (σ0 501 0 0)) ∧ (0 ≤ v2 ∧ v2 < (σ0 501 0 0)) ∧ (0 ≤ v3 ∧ v3 ≤ v2) ∧ (onW (cW σ0) (σ0 501 0 0) v2 v3 (σ 34 0)))
def Iv_Or_sort (σ0 : SS) (k : Nat) : Option (List Nat × (Nat → List AV → SS → Prop)) := match k with
  | 9 => some ([3], Lp_Or_sort_9 σ0)
  | 17 => some ([], Lp_Or_sort_17 σ0)
  | _ => none
def VE_Or_sort (σ : SS) (K : AV → SS → Prop) : Prop :=
  ((0 ≤ (1 : Int) ∧ (1 : Int) ≤ 1) ∧ (∀ σ1 : SS, σ1 = u3 σ 143 0 0 1 →
  (S_Wo_size [vR 10 0] σ1 (kI fun r2 σ2 =>
    (∃ n', Lp_Or_sort_9 σ n' [vR 1 0, vI r2, vI 0, none] σ2)))))
def VL_Or_sort_9 (σ0 : SS) (K : AV → SS → Prop) (v1 : Int) (v2 : Int) (σ : SS) (n : Nat) : Prop :=
  ((v1 ≤ v2 →
    (K none σ)) ∧
  (v2 < v1 →
    (((120 : Int) ≤ v2 →
      (K none σ)) ∧
    (v2 < 120 →
      (∃ n', n' < n ∧ Lp_Or_sort_17 σ0 n' [vR 1 0, vI v1, vI v2, vI v2] σ)))))
def VL_Or_sort_17 (σ0 : SS) (K : AV → SS → Prop) (v1 : Int) (v2 : Int) (v3 : Int) (σ : SS) (n : Nat) : Prop :=
  ((v3 ≤ 0 →
    ((0 ≤ (v3 : Int) ∧ (v3 : Int) < 120) ∧ ∀ σ1 : SS, σ1 = u3 σ 34 0 v3 v2 →
    (InR (v2 + 1) ∧
    (∃ n', n' < n ∧ Lp_Or_sort_9 σ0 n' [vR 1 0, vI v1, vI (v2 + 1), none] σ1)))) ∧
  ((0 : Int) < v3 →
    (InR (v3 - 1) ∧
    ((0 ≤ (v3 - 1 : Int) ∧ (v3 - 1 : Int) < 120) ∧
    (S_Or_lesserPart [vR 1 0, vI v2, vI v1, vI (σ 34 0 (v3 - 1)), vI v1] σ (kI fun r2 σ2 =>
      (((0 : Int) ≤ r2 →
        ((0 ≤ (v3 : Int) ∧ (v3 : Int) < 120) ∧ ∀ σ3 : SS, σ3 = u3 σ2 34 0 v3 v2 →
        (InR (v2 + 1) ∧
        (∃ n', n' < n ∧ Lp_Or_sort_9 σ0 n' [vR 1 0, vI v1, vI (v2 + 1), none] σ3)))) ∧
      (r2 < 0 →
        (InR (v3 - 1) ∧
        ((0 ≤ (v3 - 1 : Int) ∧ (v3 - 1 : Int) < 120) ∧
        ((0 ≤ (v3 : Int) ∧ (v3 : Int) < 120) ∧ ∀ σ4 : SS, σ4 = u3 σ2 34 0 v3 (σ2 34 0 (v3 - 1)) →
        (InR (v3 + (-1)) ∧
        (∃ n', n' < n ∧ Lp_Or_sort_17 σ0 n' [vR 1 0, vI v1, vI v2, vI (v3 + (-1))] σ4)))))))))))))
theorem l_Or_sort_9 (σ0 : SS) (K : AV → SS → Prop) (hs0 : okS σ0) (hG : S_Or_sort [vR 1 0] σ0 K) (v1 : Int) (v2 : Int) (σ : SS) (hv1 : InR v1) (hv2 : InR v2) (hs : okS σ) (n : Nat) (hn : n = (1000 * (1000 - v2)).toNat) (hQ : (EQ σ0 σ) ∧ (v1 = (σ0 501 0 0)) ∧ (0 ≤ v2 ∧ v2 ≤ (σ0 501 0 0)) ∧ (∀ k, 0 ≤ k → k < v2 → σ 34 0 k = insE (cW σ0) (σ0 501 0 0) v2.toNat k)) : VL_Or_sort_9 σ0 K v1 v2 σ n := by
  unfold VL_Or_sort_9
  obtain ⟨hT, hG⟩ := hG
  have hb := hT.n
  obtain ⟨q0, rfl, q1, q2⟩ := hQ
  obtain ⟨w1, w2⟩ := q0.w
  refine ⟨fun c1 => ?_, fun c1 => ?_⟩
  · skip
    refine hG _ q0 ?_
    unfold OrV
    rw [w1, w2]
    rwa [show v2 = (σ0 501 0 0) by omega] at q2
  · skip
    refine ⟨fun c2 => ?_, fun c2 => ?_⟩
    · skip
      refine hG _ q0 ?_
      unfold OrV
      rw [w1, w2]
      rwa [show v2 = (σ0 501 0 0) by omega] at q2
    · skip
      refine ⟨_, ?_, _, _, _, rfl, rfl, ?_⟩
      · omega
      · refine ⟨?_, ?_, ?_, ?_, ?_⟩
        · first | rfl | assumption | omega
        · first | rfl | assumption | omega
        · first | rfl | assumption | omega
        · first | rfl | assumption | omega
        · exact onW_0 q2
theorem l_Or_sort_17 (σ0 : SS) (K : AV → SS → Prop) (hs0 : okS σ0) (hG : S_Or_sort [vR 1 0] σ0 K) (v1 : Int) (v2 : Int) (v3 : Int) (σ : SS) (hv1 : InR v1) (hv2 : InR v2) (hv3 : InR v3) (hs : okS σ) (n : Nat) (hn : n = (1000 * (1000 - v2) - 500 + v3).toNat) (hQ : (EQ σ0 σ) ∧ (v1 = (σ0 501 0 0)) ∧ (0 ≤ v2 ∧ v2 < (σ0 501 0 0)) ∧ (0 ≤ v3 ∧ v3 ≤ v2) ∧ (onW (cW σ0) (σ0 501 0 0) v2 v3 (σ 34 0))) : VL_Or_sort_17 σ0 K v1 v2 v3 σ n := by
  unfold VL_Or_sort_17
  obtain ⟨hT, hG⟩ := hG
  have hb := hT.n
  obtain ⟨q0, rfl, q1, q2, q3⟩ := hQ
  have hT1 := q0.2
  obtain ⟨w1, w2⟩ := q0.w
  have ev := fun z : 0 < v3 => q3.1 (v3 - 1) (by omega) (by omega)
  have eb := fun z : 0 < v3 => ins_in (w := cW σ0) (n := (σ0 501 0 0)) v2.toNat (v3 - 1) (by omega) (by omega)
  refine ⟨fun c1 => ?_, fun c1 => ?_⟩
  · skip
    refine ⟨(by omega), fun σ2 e2 => ?_⟩
    refine ⟨(by omega), ?_⟩
    refine ⟨_, ?_, _, _, rfl, rfl, ?_⟩
    · omega
    · refine ⟨?_, ?_, ?_, ?_⟩
      · exact q0.tr ⟨Fr_mono (show Fr [(34, 0)] _ _ by rw [e2]; exact Fr_u3 (by simp)) (by simp [OrL]), TwC_o (l := [(34, 0)]) hT1 (by rw [e2]; exact Fr_u3 (by simp)) (by simp)⟩
      · first | rfl | assumption | omega
      · first | rfl | assumption | omega
      · exact onW_end q3 q1.1 q2.1 (Or.inl (by omega)) (fun k => by rw [e2, u3_e])
  · skip
    refine ⟨(by omega), ?_⟩
    refine ⟨(by omega), ?_⟩
    rw [ev (by omega)]
    have eb1 := eb (by omega)
    refine ⟨(by rw [w2]; exact ⟨hT1, by omega, by omega⟩), (fun σ2 h2a => ?_)⟩
    intro _ _
    rw [w1]
    have tq := q0.tr (h2a).E
    have e3 : σ2 34 0 = σ 34 0 := (h2a).1 _ _ (by simp [TwL])
    refine ⟨fun c3 => ?_, fun c3 => ?_⟩
    · skip
      refine ⟨(by omega), fun σ4 e4 => ?_⟩
      refine ⟨(by omega), ?_⟩
      refine ⟨_, ?_, _, _, rfl, rfl, ?_⟩
      · omega
      · refine ⟨?_, ?_, ?_, ?_⟩
        · exact tq.tr ⟨Fr_mono (show Fr [(34, 0)] _ _ by rw [e4]; exact Fr_u3 (by simp)) (by simp [OrL]), TwC_o (l := [(34, 0)]) tq.2 (by rw [e4]; exact Fr_u3 (by simp)) (by simp)⟩
        · first | rfl | assumption | omega
        · first | rfl | assumption | omega
        · exact onW_end q3 q1.1 q2.1 (Or.inr (by omega)) (fun k => by rw [e4, u3_e, e3])
    · skip
      refine ⟨(by omega), ?_⟩
      refine ⟨(by omega), ?_⟩
      refine ⟨(by omega), fun σ4 e4 => ?_⟩
      refine ⟨(by omega), ?_⟩
      refine ⟨_, ?_, _, _, _, rfl, rfl, ?_⟩
      · omega
      · refine ⟨?_, ?_, ?_, ?_, ?_⟩
        · exact tq.tr ⟨Fr_mono (show Fr [(34, 0)] _ _ by rw [e4]; exact Fr_u3 (by simp)) (by simp [OrL]), TwC_o (l := [(34, 0)]) tq.2 (by rw [e4]; exact Fr_u3 (by simp)) (by simp)⟩
        · first | rfl | assumption | omega
        · first | rfl | assumption | omega
        · first | rfl | assumption | omega
        · exact onW_s q3 (by omega) (by assumption) (fun k => by rw [e4, u3_e, e3])
theorem e_Or_sort (σ : SS) (K : AV → SS → Prop) (hs : okS σ) (hG : S_Or_sort [vR 1 0] σ K) : VE_Or_sort σ K := by
  unfold VE_Or_sort
  obtain ⟨hT, hG⟩ := hG
  have hb := hT.n
  refine ⟨(by omega), fun σ1 e1 => ?_⟩
  have fr : Fr [(143, 0)] σ σ1 := by rw [e1]; exact Fr_u3 (by simp)
  have e2 : σ1 501 0 = σ 501 0 := fr _ _ (by simp)
  intro _ _
  rw [e2]
  refine ⟨_, _, _, rfl, rfl, ?_⟩
  refine ⟨?_, ?_, ?_, ?_⟩
  · exact ⟨Fr_mono fr (by simp [OrL]), TwC_o hT fr (by simp)⟩
  · first | rfl | assumption | omega
  · first | rfl | assumption | omega
  · exact fun k k0 k1 => by omega
theorem H_Or_sort {d : Nat} (hd : 4 ≤ d) : Holds d I_Or_sort S_Or_sort := by
  refine holds_of (d' := d - 1) (rt := 0) (cal := [(I_Wo_size, S_Wo_size), (I_Or_lesserPart, S_Or_lesserPart)]) (C := C_Or_sort) m_Or_sort o_Or_sort rfl rfl (by omega) ?_ ?_
  · intro x hx
    simp only [List.mem_cons, List.not_mem_nil, or_false] at hx
    rcases hx with rfl | rfl
    · exact H_Wo_size (by omega)
    · exact H_Or_lesserPart (by omega)
  · intro as σ K has hσ hG
    have hG2 := hG
    unfold S_Or_sort at hG2
    split at hG2
    · skip
      refine ⟨Nat.le_of_ble_eq_true rfl, (Iv_Or_sort σ), ?_, 1000, ?_⟩
      · intro k n z L σ' hk hL hs hP
        unfold Iv_Or_sort at hk
        split at hk
        · cases hk
          obtain ⟨v1, v2, rfl, hn, hQ⟩ := hP
          exact ⟨1000, l_Or_sort_9 σ K  hσ hG v1 v2 σ' (hL _ (List.mem_of_getElem? (i := 1) rfl)) (hL _ (List.mem_of_getElem? (i := 2) rfl)) hs n hn hQ⟩
        · cases hk
          obtain ⟨v1, v2, v3, rfl, hn, hQ⟩ := hP
          exact ⟨1000, l_Or_sort_17 σ K  hσ hG v1 v2 v3 σ' (hL _ (List.mem_of_getElem? (i := 1) rfl)) (hL _ (List.mem_of_getElem? (i := 2) rfl)) (hL _ (List.mem_of_getElem? (i := 3) rfl)) hs n hn hQ⟩
        · cases hk
      · exact e_Or_sort σ K  hσ hG
    · exact hG2.elim
def S_Or_endAt : GS := fun as σ K => match as with
  | [some (.inr (.inr (1, 0))), some (.inl a1)] => (TwC σ ∧ OrC σ ∧ 0 ≤ a1 ∧ a1 < (σ 501 0 0)) ∧ ∀ σ', EQ σ σ' → OrV σ' → K (vI (insE (cW σ) (σ 501 0 0) (σ 501 0 0).toNat a1)) σ'
  | _ => False
def VE_Or_endAt (a1 : Int) (σ : SS) (K : AV → SS → Prop) : Prop :=
  (((σ 143 0 0) ≠ 0 →
    ((a1 < 0 →
      (K (vI (-1)) σ)) ∧
    ((0 : Int) ≤ a1 →
      (S_Wo_size [vR 10 0] σ (kI fun r1 σ1 =>
        ((r1 ≤ a1 →
          (K (vI (-1)) σ1)) ∧
        (a1 < r1 →
          (((120 : Int) ≤ a1 →
            (K (vI (-1)) σ1)) ∧
          (a1 < 120 →
            ((0 ≤ (a1 : Int) ∧ (a1 : Int) < 120) ∧
            (K (vI (σ1 34 0 a1)) σ1))))))))))) ∧
  ((σ 143 0 0) = 0 →
    (S_Or_sort [vR 1 0] σ (kV fun σ2 =>
      ((a1 < 0 →
        (K (vI (-1)) σ2)) ∧
      ((0 : Int) ≤ a1 →
        (S_Wo_size [vR 10 0] σ2 (kI fun r3 σ3 =>
          ((r3 ≤ a1 →
            (K (vI (-1)) σ3)) ∧
          (a1 < r3 →
            (((120 : Int) ≤ a1 →
              (K (vI (-1)) σ3)) ∧
            (a1 < 120 →
              ((0 ≤ (a1 : Int) ∧ (a1 : Int) < 120) ∧
              (K (vI (σ3 34 0 a1)) σ3))))))))))))))
theorem e_Or_endAt (a1 : Int) (σ : SS) (K : AV → SS → Prop) (ha1 : InR a1) (hs : okS σ) (hG : S_Or_endAt [vR 1 0, vI a1] σ K) : VE_Or_endAt a1 σ K := by
  unfold VE_Or_endAt
  obtain ⟨⟨hT, hO, h1, h2⟩, hG⟩ := hG
  have hb := hT.n
  refine ⟨fun c1 => ?_, fun c1 => ?_⟩
  · skip
    refine ⟨fun c2 => ?_, fun c2 => ?_⟩
    · skip
      first | exact absurd h1 (by omega) | exact absurd h2 (by omega) | (rw [hO (by assumption) a1 h1 h2]; exact hG _ (EQ.rf hT) (hO (by assumption))) | (rw [hv]; exact hG _ (by assumption) (by assumption))
    · skip
      intro _ _
      refine ⟨fun c3 => ?_, fun c3 => ?_⟩
      · skip
        first | exact absurd h1 (by omega) | exact absurd h2 (by omega) | (rw [hO (by assumption) a1 h1 h2]; exact hG _ (EQ.rf hT) (hO (by assumption))) | (rw [hv]; exact hG _ (by assumption) (by assumption))
      · skip
        refine ⟨fun c4 => ?_, fun c4 => ?_⟩
        · skip
          first | exact absurd h1 (by omega) | exact absurd h2 (by omega) | (rw [hO (by assumption) a1 h1 h2]; exact hG _ (EQ.rf hT) (hO (by assumption))) | (rw [hv]; exact hG _ (by assumption) (by assumption))
        · skip
          refine ⟨(by omega), ?_⟩
          first | exact absurd h1 (by omega) | exact absurd h2 (by omega) | (rw [hO (by assumption) a1 h1 h2]; exact hG _ (EQ.rf hT) (hO (by assumption))) | (rw [hv]; exact hG _ (by assumption) (by assumption))
  · skip
    refine ⟨(by exact hT), (fun σ2 h2a h2b => ?_)⟩
    intro _
    have w := (h2a).w
    have hv := h2b a1 h1 (by rw [w.2]; exact h2)
    rw [w.1, w.2] at hv
    have w2 := w.2
    refine ⟨fun c3 => ?_, fun c3 => ?_⟩
    · skip
      first | exact absurd h1 (by omega) | exact absurd h2 (by omega) | (rw [hO (by assumption) a1 h1 h2]; exact hG _ (EQ.rf hT) (hO (by assumption))) | (rw [hv]; exact hG _ (by assumption) (by assumption))
    · skip
      intro _ _
      refine ⟨fun c4 => ?_, fun c4 => ?_⟩
      · skip
        first | exact absurd h1 (by omega) | exact absurd h2 (by omega) | (rw [hO (by assumption) a1 h1 h2]; exact hG _ (EQ.rf hT) (hO (by assumption))) | (rw [hv]; exact hG _ (by assumption) (by assumption))
      · skip
        refine ⟨fun c5 => ?_, fun c5 => ?_⟩
        · skip
          first | exact absurd h1 (by omega) | exact absurd h2 (by omega) | (rw [hO (by assumption) a1 h1 h2]; exact hG _ (EQ.rf hT) (hO (by assumption))) | (rw [hv]; exact hG _ (by assumption) (by assumption))
        · skip
          refine ⟨(by omega), ?_⟩
          first | exact absurd h1 (by omega) | exact absurd h2 (by omega) | (rw [hO (by assumption) a1 h1 h2]; exact hG _ (EQ.rf hT) (hO (by assumption))) | (rw [hv]; exact hG _ (by assumption) (by assumption))
theorem H_Or_endAt {d : Nat} (hd : 5 ≤ d) : Holds d I_Or_endAt S_Or_endAt := by
  refine holds_of (d' := d - 1) (rt := 1) (cal := [(I_Or_sort, S_Or_sort), (I_Wo_size, S_Wo_size)]) (C := C_Or_endAt) m_Or_endAt o_Or_endAt rfl rfl (by omega) ?_ ?_
  · intro x hx
    simp only [List.mem_cons, List.not_mem_nil, or_false] at hx
    rcases hx with rfl | rfl
    · exact H_Or_sort (by omega)
    · exact H_Wo_size (by omega)
  · intro as σ K has hσ hG
    have hG2 := hG
    unfold S_Or_endAt at hG2
    split at hG2
    · next a1 =>
      refine ⟨Nat.le_of_ble_eq_true rfl, (fun _ => none), ?_, 1000, ?_⟩
      · intro k n z L σ' hk hL hs hP
        cases hk
      · exact e_Or_endAt a1 σ K (has _ (List.mem_of_getElem? (i := 1) rfl)) hσ hG
    · exact hG2.elim
def S_Wr_ends : GS := fun as σ K => match as with
  | [some (.inr (.inr (11, 0))), some (.inl a1), some (.inl a2)] => (TwC σ ∧ OrC σ) ∧ ∀ σ' r, EQ σ σ' → OrC σ' → REnds (cW σ) (σ 501 0 0) a1 a2 r → K (vI r) σ'
  | _ => False
def VE_Wr_ends (a1 : Int) (a2 : Int) (σ : SS) (K : AV → SS → Prop) : Prop :=
  ((a1 < 0 →
    (K (vI (-1)) σ)) ∧
  ((0 : Int) ≤ a1 →
    (S_Wo_size [vR 10 0] σ (kI fun r1 σ1 =>
      ((a1 < r1 →
        ((a2 = 0 →
          (S_Or_endAt [vR 1 0, vI a1] σ1 (kI fun r5 σ5 =>
            (K (vI r5) σ5)))) ∧
        (a2 ≠ 0 →
        ((a2 = 1 →
          ((a1 ≠ 0 →
            (InR (a1 - 1) ∧
            (S_Or_endAt [vR 1 0, vI (a1 - 1)] σ1 (kI fun r2 σ2 =>
              (S_Or_endAt [vR 1 0, vI a1] σ2 (kI fun r3 σ3 =>
                (S_Tw_common [vR 8 0, vI r2, vI r3] σ3 (kI fun r4 σ4 =>
                  (K (vI r4) σ4))))))))) ∧
          (a1 = 0 →
            (K (vI 0) σ1)))) ∧
        (a2 ≠ 1 →
          (K (vI (-1)) σ1)))))) ∧
      (r1 ≤ a1 →
        (K (vI (-1)) σ1)))))))
theorem e_Wr_ends (a1 : Int) (a2 : Int) (σ : SS) (K : AV → SS → Prop) (ha1 : InR a1) (ha2 : InR a2) (hs : okS σ) (hG : S_Wr_ends [vR 11 0, vI a1, vI a2] σ K) : VE_Wr_ends a1 a2 σ K := by
  unfold VE_Wr_ends
  obtain ⟨⟨hT, hO⟩, hG⟩ := hG
  have hb := hT.n
  have no : ¬ ((0 ≤ a1 ∧ a1 < (σ 501 0 0)) ∧ 0 ≤ a2 ∧ a2 ≤ 1) → K (vI (-1)) σ := fun z => hG _ _ (EQ.rf hT) hO (gd_n z)
  refine ⟨fun c1 => ?_, fun c1 => ?_⟩
  · skip
    exact no (by omega)
  · skip
    intro _ _
    refine ⟨fun c2 => ?_, fun c2 => ?_⟩
    · skip
      refine ⟨fun c3 => ?_, fun c3 => ?_⟩
      · skip
        refine ⟨(by exact ⟨hT, hO, by omega, by omega⟩), (fun σ4 h4a h4b => ?_)⟩
        intro _ _
        exact hG _ _ (by assumption) (fun _ => by assumption) (gd_y (by omega) (by rw [if_pos (by omega)]))
      · skip
        refine ⟨fun c4 => ?_, fun c4 => ?_⟩
        · skip
          refine ⟨fun c5 => ?_, fun c5 => ?_⟩
          · skip
            refine ⟨(by omega), ?_⟩
            refine ⟨(by exact ⟨hT, hO, by omega, by omega⟩), (fun σ6 h6a h6b => ?_)⟩
            intro _ _
            have hq1 := h6a
            have hT1 := (h6a).2
            have hO1 : OrC σ6 := fun _ => h6b
            obtain ⟨w1, w2⟩ := (h6a).w
            refine ⟨(by exact ⟨hT1, hO1, by omega, by rw [w2]; omega⟩), (fun σ7 h7a h7b => ?_)⟩
            intro _ _
            rw [w1, w2]
            have hq2 := hq1.tr h7a
            have hv2 := h7b
            obtain ⟨y1, y2⟩ := hq2.w
            have b1 := ins_in (w := cW σ) (n := (σ 501 0 0)) (σ 501 0 0).toNat (a1 - 1) (by omega) (by omega)
            have b2 := ins_in (w := cW σ) (n := (σ 501 0 0)) (σ 501 0 0).toNat a1 (by omega) (by omega)
            refine ⟨(by exact hq2.2), (fun σ8 h8a h8b => ?_)⟩
            intro _ _
            rw [y1, y2]
            have tq := TQ.E ⟨h8a, h8b⟩
            have ev : OrV σ8 := by
              obtain ⟨x1, x2⟩ := (TQ.w ⟨h8a, h8b⟩)
              unfold OrV
              rw [x1, x2, (h8a) _ _ (by simp [TwL])]
              exact hv2
            exact hG _ _ (hq2.tr tq) (fun _ => ev) (gd_y (by omega) (by rw [if_neg (by omega), if_neg (by omega), lceR, if_pos (by omega)]))
          · skip
            exact hG _ _ (EQ.rf hT) hO (gd_y (by omega) (by rw [if_neg (by omega), if_pos (by omega)]))
        · skip
          exact no (by omega)
    · skip
      exact no (by omega)
theorem H_Wr_ends {d : Nat} (hd : 6 ≤ d) : Holds d I_Wr_ends S_Wr_ends := by
  refine holds_of (d' := d - 1) (rt := 1) (cal := [(I_Wo_size, S_Wo_size), (I_Or_endAt, S_Or_endAt), (I_Tw_common, S_Tw_common)]) (C := C_Wr_ends) m_Wr_ends o_Wr_ends rfl rfl (by omega) ?_ ?_
  · intro x hx
    simp only [List.mem_cons, List.not_mem_nil, or_false] at hx
    rcases hx with rfl | rfl | rfl
    · exact H_Wo_size (by omega)
    · exact H_Or_endAt (by omega)
    · exact H_Tw_common (by omega)
  · intro as σ K has hσ hG
    have hG2 := hG
    unfold S_Wr_ends at hG2
    split at hG2
    · next a1 a2 =>
      refine ⟨Nat.le_of_ble_eq_true rfl, (fun _ => none), ?_, 1000, ?_⟩
      · intro k n z L σ' hk hL hs hP
        cases hk
      · exact e_Wr_ends a1 a2 σ K (has _ (List.mem_of_getElem? (i := 1) rfl)) (has _ (List.mem_of_getElem? (i := 2) rfl)) hσ hG
    · exact hG2.elim
/-! the reference's ends -/
def MeL : List (Nat × Nat) := [(47, 0)]
theorem meF {σ σ' : SS} (h : Fr MeL σ σ') : mW σ' = mW σ ∧ (σ' 40 0 0) = (σ 40 0 0) := by
  have e : σ' 40 0 = σ 40 0 := h _ _ (by simp [MeL])
  unfold mW
  rw [e]
  exact ⟨rfl, rfl⟩
theorem meM {σ σ' : SS} (hM : MoW σ) (h : Fr MeL σ σ') : MoW σ' := by
  obtain ⟨e1, e2⟩ := meF h
  unfold MoW
  rw [e1, e2]
  exact hM
def S_Mo_isAhead : GS := fun as σ K => match as with
  | [some (.inr (.inr (12, 0))), some (.inl a1), some (.inl a2)] => (MoW σ ∧ 0 ≤ a1 ∧ a1 ≤ (σ 40 0 0) ∧ 0 ≤ a2 ∧ a2 ≤ (σ 40 0 0)) ∧ bS (cmpP (mW σ) a1 (σ 40 0 0) a2 (σ 40 0 0) < 0) K σ
  | _ => False
def VE_Mo_isAhead (a1 : Int) (a2 : Int) (σ : SS) (K : AV → SS → Prop) : Prop :=
  (S_Mo_size [vR 12 0] σ (kI fun r1 σ1 =>
    (S_Mo_size [vR 12 0] σ1 (kI fun r2 σ2 =>
      (S_Mo_compare [vR 12 0, vI a1, vI r1, vI a2, vI r2] σ2 (kI fun r3 σ3 =>
        (((0 : Int) ≤ r3 →
          ((0 ≤ (0 : Int) ∧ (0 : Int) ≤ 1) ∧ K (vI 0) σ3)) ∧
        (r3 < 0 →
          ((0 ≤ (1 : Int) ∧ (1 : Int) ≤ 1) ∧ K (vI 1) σ3)))))))))
theorem e_Mo_isAhead (a1 : Int) (a2 : Int) (σ : SS) (K : AV → SS → Prop) (ha1 : InR a1) (ha2 : InR a2) (hs : okS σ) (hG : S_Mo_isAhead [vR 12 0, vI a1, vI a2] σ K) : VE_Mo_isAhead a1 a2 σ K := by
  unfold VE_Mo_isAhead
  obtain ⟨⟨hM, h1, h2, h3, h4⟩, hG⟩ := hG
  intro _ _
  intro _ _
  refine ⟨(by first | assumption | omega | exact ⟨by first | assumption | omega, by omega⟩ | exact ⟨by assumption, by omega, by omega⟩ | exact ⟨by assumption, by omega, by omega, by omega⟩ | exact ⟨by assumption, by omega, by omega, by omega, by omega⟩ | exact ⟨by assumption, by omega, by omega, by omega, by omega, by omega⟩), (fun r1 h1a => ?_)⟩
  intro _ _
  have hc := h1a.1 (by omega)
  rw [hc]
  refine ⟨fun c2 => ?_, fun c2 => ?_⟩
  · skip
    exact bS_n hG (by omega)
  · skip
    exact bS_y hG (by omega)
theorem H_Mo_isAhead {d : Nat} (hd : 4 ≤ d) : Holds d I_Mo_isAhead S_Mo_isAhead := by
  refine holds_of (d' := d - 1) (rt := 2) (cal := [(I_Mo_size, S_Mo_size), (I_Mo_compare, S_Mo_compare)]) (C := C_Mo_isAhead) m_Mo_isAhead o_Mo_isAhead rfl rfl (by omega) ?_ ?_
  · intro x hx
    simp only [List.mem_cons, List.not_mem_nil, or_false] at hx
    rcases hx with rfl | rfl
    · exact H_Mo_size (by omega)
    · exact H_Mo_compare (by omega)
  · intro as σ K has hσ hG
    have hG2 := hG
    unfold S_Mo_isAhead at hG2
    split at hG2
    · next a1 a2 =>
      refine ⟨Nat.le_of_ble_eq_true rfl, (fun _ => none), ?_, 1000, ?_⟩
      · intro k n z L σ' hk hL hs hP
        cases hk
      · exact e_Mo_isAhead a1 a2 σ K (has _ (List.mem_of_getElem? (i := 1) rfl)) (has _ (List.mem_of_getElem? (i := 2) rfl)) hσ hG
    · exact hG2.elim
def S_Mo_laysEnds : GS := fun as σ K => match as with
  | [some (.inr (.inr (12, 0)))] => MoW σ ∧ ∀ σ', Fr MeL σ σ' → (∀ k, 0 ≤ k → k < (σ 40 0 0) → σ' 47 0 k = insE (mW σ) (σ 40 0 0) (σ 40 0 0).toNat k) → K none σ'
  | _ => False
abbrev Lp_Mo_laysEnds_2 (σ0 : SS) (n : Nat) (L : List AV) (σ : SS) : Prop := ∃ (v1 : Int), L = [vR 12 0, vI v1, none] ∧ n = (1000 * (1000 - v1)).toNat ∧ ((Fr MeL σ0 σ) ∧ (0 ≤ v1 ∧ v1 ≤ (σ0 40 0 0)) ∧ (∀ k, 0 ≤ k → k < v1 → σ 47 0 k = insE (mW σ0) (σ0 40 0 0) v1.toNat k))
abbrev Lp_Mo_laysEnds_8 (σ0 : SS) (n : Nat) (L : List AV) (σ : SS) : Prop := ∃ (v1 : Int) (v2 : Int), L = [vR 12 0, vI v1, vI v2] ∧ n = (1000 * (1000 - v1) - 500 + v2).toNat ∧ ((Fr MeL σ0 σ) ∧ (0 ≤ v1 ∧ v1 < (σ0 40 0 0)) ∧ (0 ≤ v2 ∧ v2 ≤ v1) ∧ (onW (mW σ0) (σ0 40 0 0) v1 v2 (σ 47 0)))
def Iv_Mo_laysEnds (σ0 : SS) (k : Nat) : Option (List Nat × (Nat → List AV → SS → Prop)) := match k with
  | 2 => some ([2], Lp_Mo_laysEnds_2 σ0)
  | 8 => some ([], Lp_Mo_laysEnds_8 σ0)
  | _ => none
def VE_Mo_laysEnds (σ : SS) (K : AV → SS → Prop) : Prop :=
  (∃ n', Lp_Mo_laysEnds_2 σ n' [vR 12 0, vI 0, none] σ)
def VL_Mo_laysEnds_2 (σ0 : SS) (K : AV → SS → Prop) (v1 : Int) (σ : SS) (n : Nat) : Prop :=
  (S_Mo_size [vR 12 0] σ (kI fun r1 σ1 =>
    ((r1 ≤ v1 →
      (K none σ1)) ∧
    (v1 < r1 →
      (∃ n', n' < n ∧ Lp_Mo_laysEnds_8 σ0 n' [vR 12 0, vI v1, vI v1] σ1)))))
def VL_Mo_laysEnds_8 (σ0 : SS) (K : AV → SS → Prop) (v1 : Int) (v2 : Int) (σ : SS) (n : Nat) : Prop :=
  ((v2 ≤ 0 →
    ((0 ≤ (v2 : Int) ∧ (v2 : Int) < 120) ∧ ∀ σ1 : SS, σ1 = u3 σ 47 0 v2 v1 →
    (InR (v1 + 1) ∧
    (∃ n', n' < n ∧ Lp_Mo_laysEnds_2 σ0 n' [vR 12 0, vI (v1 + 1), none] σ1)))) ∧
  ((0 : Int) < v2 →
    (InR (v2 - 1) ∧
    ((0 ≤ (v2 - 1 : Int) ∧ (v2 - 1 : Int) < 120) ∧
    (S_Mo_isAhead [vR 12 0, vI v1, vI (σ 47 0 (v2 - 1))] σ (kI fun r2 σ2 =>
      ((r2 = 0 →
        ((0 ≤ (v2 : Int) ∧ (v2 : Int) < 120) ∧ ∀ σ3 : SS, σ3 = u3 σ2 47 0 v2 v1 →
        (InR (v1 + 1) ∧
        (∃ n', n' < n ∧ Lp_Mo_laysEnds_2 σ0 n' [vR 12 0, vI (v1 + 1), none] σ3)))) ∧
      (r2 ≠ 0 →
        (InR (v2 - 1) ∧
        ((0 ≤ (v2 - 1 : Int) ∧ (v2 - 1 : Int) < 120) ∧
        ((0 ≤ (v2 : Int) ∧ (v2 : Int) < 120) ∧ ∀ σ4 : SS, σ4 = u3 σ2 47 0 v2 (σ2 47 0 (v2 - 1)) →
        (InR (v2 + (-1)) ∧
        (∃ n', n' < n ∧ Lp_Mo_laysEnds_8 σ0 n' [vR 12 0, vI v1, vI (v2 + (-1))] σ4)))))))))))))
theorem l_Mo_laysEnds_2 (σ0 : SS) (K : AV → SS → Prop) (hs0 : okS σ0) (hG : S_Mo_laysEnds [vR 12 0] σ0 K) (v1 : Int) (σ : SS) (hv1 : InR v1) (hs : okS σ) (n : Nat) (hn : n = (1000 * (1000 - v1)).toNat) (hQ : (Fr MeL σ0 σ) ∧ (0 ≤ v1 ∧ v1 ≤ (σ0 40 0 0)) ∧ (∀ k, 0 ≤ k → k < v1 → σ 47 0 k = insE (mW σ0) (σ0 40 0 0) v1.toNat k)) : VL_Mo_laysEnds_2 σ0 K v1 σ n := by
  unfold VL_Mo_laysEnds_2
  obtain ⟨hM, hG⟩ := hG
  have hb := hM.n
  obtain ⟨q0, q1, q2⟩ := hQ
  obtain ⟨w1, w2⟩ := meF q0
  intro _ _
  refine ⟨fun c1 => ?_, fun c1 => ?_⟩
  · skip
    refine hG _ q0 ?_
    rwa [show v1 = (σ0 40 0 0) by omega] at q2
  · skip
    refine ⟨_, ?_, _, _, rfl, rfl, ?_⟩
    · omega
    · refine ⟨?_, ?_, ?_, ?_⟩
      · first | rfl | assumption | omega
      · first | rfl | assumption | omega
      · first | rfl | assumption | omega
      · exact onW_0 q2
theorem l_Mo_laysEnds_8 (σ0 : SS) (K : AV → SS → Prop) (hs0 : okS σ0) (hG : S_Mo_laysEnds [vR 12 0] σ0 K) (v1 : Int) (v2 : Int) (σ : SS) (hv1 : InR v1) (hv2 : InR v2) (hs : okS σ) (n : Nat) (hn : n = (1000 * (1000 - v1) - 500 + v2).toNat) (hQ : (Fr MeL σ0 σ) ∧ (0 ≤ v1 ∧ v1 < (σ0 40 0 0)) ∧ (0 ≤ v2 ∧ v2 ≤ v1) ∧ (onW (mW σ0) (σ0 40 0 0) v1 v2 (σ 47 0))) : VL_Mo_laysEnds_8 σ0 K v1 v2 σ n := by
  unfold VL_Mo_laysEnds_8
  obtain ⟨hM, hG⟩ := hG
  have hb := hM.n
  obtain ⟨q0, q1, q2, q3⟩ := hQ
  obtain ⟨w1, w2⟩ := meF q0
  have hM1 := meM hM q0
  have ev := fun z : 0 < v2 => q3.1 (v2 - 1) (by omega) (by omega)
  have eb := fun z : 0 < v2 => ins_in (w := mW σ0) (n := (σ0 40 0 0)) v1.toNat (v2 - 1) (by omega) (by omega)
  refine ⟨fun c1 => ?_, fun c1 => ?_⟩
  · skip
    refine ⟨(by omega), fun σ2 e2 => ?_⟩
    refine ⟨(by omega), ?_⟩
    refine ⟨_, ?_, _, rfl, rfl, ?_⟩
    · omega
    · refine ⟨?_, ?_, ?_⟩
      · rw [e2]; exact Fr_trans q0 (Fr_u3 (by simp [MeL]))
      · first | rfl | assumption | omega
      · exact onW_end q3 q1.1 q2.1 (Or.inl (by omega)) (fun k => by rw [e2, u3_e])
  · skip
    refine ⟨(by omega), ?_⟩
    refine ⟨(by omega), ?_⟩
    rw [ev (by omega)]
    have eb1 := eb (by omega)
    refine ⟨(by rw [w2]; exact ⟨hM1, by omega, by omega, by omega, by omega⟩), ?_⟩
    refine bS_b0 (fun p2 _ => ?_) (fun p2 _ => ?_)
    · skip
      rw [w1, w2] at p2
      refine ⟨(by omega), ?_⟩
      refine ⟨(by omega), ?_⟩
      refine ⟨(by omega), fun σ3 e3 => ?_⟩
      refine ⟨(by omega), ?_⟩
      refine ⟨_, ?_, _, _, rfl, rfl, ?_⟩
      · omega
      · refine ⟨?_, ?_, ?_, ?_⟩
        · rw [e3]; exact Fr_trans q0 (Fr_u3 (by simp [MeL]))
        · first | rfl | assumption | omega
        · first | rfl | assumption | omega
        · exact onW_s q3 (by omega) p2 (fun k => by rw [e3, u3_e])
    · skip
      rw [w1, w2] at p2
      refine ⟨(by omega), fun σ3 e3 => ?_⟩
      refine ⟨(by omega), ?_⟩
      refine ⟨_, ?_, _, rfl, rfl, ?_⟩
      · omega
      · refine ⟨?_, ?_, ?_⟩
        · rw [e3]; exact Fr_trans q0 (Fr_u3 (by simp [MeL]))
        · first | rfl | assumption | omega
        · exact onW_end q3 q1.1 q2.1 (Or.inr p2) (fun k => by rw [e3, u3_e])
theorem e_Mo_laysEnds (σ : SS) (K : AV → SS → Prop) (hs : okS σ) (hG : S_Mo_laysEnds [vR 12 0] σ K) : VE_Mo_laysEnds σ K := by
  unfold VE_Mo_laysEnds
  obtain ⟨hM, hG⟩ := hG
  have hb := hM.n
  refine ⟨_, _, rfl, rfl, ?_⟩
  refine ⟨?_, ?_, ?_⟩
  · exact Fr_refl
  · first | rfl | assumption | omega
  · exact fun k k0 k1 => by omega
theorem H_Mo_laysEnds {d : Nat} (hd : 5 ≤ d) : Holds d I_Mo_laysEnds S_Mo_laysEnds := by
  refine holds_of (d' := d - 1) (rt := 0) (cal := [(I_Mo_size, S_Mo_size), (I_Mo_isAhead, S_Mo_isAhead)]) (C := C_Mo_laysEnds) m_Mo_laysEnds o_Mo_laysEnds rfl rfl (by omega) ?_ ?_
  · intro x hx
    simp only [List.mem_cons, List.not_mem_nil, or_false] at hx
    rcases hx with rfl | rfl
    · exact H_Mo_size (by omega)
    · exact H_Mo_isAhead (by omega)
  · intro as σ K has hσ hG
    have hG2 := hG
    unfold S_Mo_laysEnds at hG2
    split at hG2
    · skip
      refine ⟨Nat.le_of_ble_eq_true rfl, (Iv_Mo_laysEnds σ), ?_, 1000, ?_⟩
      · intro k n z L σ' hk hL hs hP
        unfold Iv_Mo_laysEnds at hk
        split at hk
        · cases hk
          obtain ⟨v1, rfl, hn, hQ⟩ := hP
          exact ⟨1000, l_Mo_laysEnds_2 σ K  hσ hG v1 σ' (hL _ (List.mem_of_getElem? (i := 1) rfl)) hs n hn hQ⟩
        · cases hk
          obtain ⟨v1, v2, rfl, hn, hQ⟩ := hP
          exact ⟨1000, l_Mo_laysEnds_8 σ K  hσ hG v1 v2 σ' (hL _ (List.mem_of_getElem? (i := 1) rfl)) (hL _ (List.mem_of_getElem? (i := 2) rfl)) hs n hn hQ⟩
        · cases hk
      · exact e_Mo_laysEnds σ K  hσ hG
    · exact hG2.elim
def S_Mo_ends : GS := fun as σ K => match as with
  | [some (.inr (.inr (12, 0))), some (.inl a1), some (.inl a2)] => MoW σ ∧ ∀ σ' r, Fr MeL σ σ' → REnds (mW σ) (σ 40 0 0) a1 a2 r → K (vI r) σ'
  | _ => False
def VE_Mo_ends (a1 : Int) (a2 : Int) (σ : SS) (K : AV → SS → Prop) : Prop :=
  (S_Mo_isPlace [vR 12 0, vI a1] σ (kI fun r1 σ1 =>
    ((r1 = 0 →
      (K (vI (-1)) σ1)) ∧
    (r1 ≠ 0 →
      (S_Mo_in [vL a2, vL 0, vL 1] σ1 (kI fun r2 σ2 =>
        ((r2 ≠ 0 →
          (S_Mo_laysEnds [vR 12 0] σ2 (kV fun σ3 =>
            ((a2 ≠ 0 →
              ((a1 ≠ 0 →
                (InR (a1 - 1) ∧
                ((0 ≤ (a1 - 1 : Int) ∧ (a1 - 1 : Int) < 120) ∧
                ((0 ≤ (a1 : Int) ∧ (a1 : Int) < 120) ∧
                (S_Mo_size [vR 12 0] σ3 (kI fun r4 σ4 =>
                  (((σ3 47 0 (a1 - 1)) ≤ (σ3 47 0 a1) →
                    (InR (r4 - (σ3 47 0 a1)) ∧
                    (S_Mo_common [vR 12 0, vI (σ3 47 0 (a1 - 1)), vI (σ3 47 0 a1), vI (r4 - (σ3 47 0 a1))] σ4 (kI fun r5 σ5 =>
                      (K (vI r5) σ5))))) ∧
                  ((σ3 47 0 a1) < (σ3 47 0 (a1 - 1)) →
                    (InR (r4 - (σ3 47 0 (a1 - 1))) ∧
                    (S_Mo_common [vR 12 0, vI (σ3 47 0 (a1 - 1)), vI (σ3 47 0 a1), vI (r4 - (σ3 47 0 (a1 - 1)))] σ4 (kI fun r6 σ6 =>
                      (K (vI r6) σ6)))))))))))) ∧
              (a1 = 0 →
                (K (vI 0) σ3)))) ∧
            (a2 = 0 →
              ((0 ≤ (a1 : Int) ∧ (a1 : Int) < 120) ∧
              (K (vI (σ3 47 0 a1)) σ3))))))) ∧
        (r2 = 0 →
          (K (vI (-1)) σ2)))))))))
theorem e_Mo_ends (a1 : Int) (a2 : Int) (σ : SS) (K : AV → SS → Prop) (ha1 : InR a1) (ha2 : InR a2) (hs : okS σ) (hG : S_Mo_ends [vR 12 0, vI a1, vI a2] σ K) : VE_Mo_ends a1 a2 σ K := by
  unfold VE_Mo_ends
  obtain ⟨hM, hG⟩ := hG
  have hb := hM.n
  refine ⟨(by first | assumption | omega | exact ⟨by first | assumption | omega, by omega⟩ | exact ⟨by assumption, by omega, by omega⟩ | exact ⟨by assumption, by omega, by omega, by omega⟩ | exact ⟨by assumption, by omega, by omega, by omega, by omega⟩ | exact ⟨by assumption, by omega, by omega, by omega, by omega, by omega⟩), ?_⟩
  refine bS_b0 (fun p1 _ => ?_) (fun p1 _ => ?_)
  · skip
    refine bS_b1 (fun p2 _ => ?_) (fun p2 _ => ?_)
    · skip
      refine ⟨(by first | assumption | omega | exact ⟨by first | assumption | omega, by omega⟩ | exact ⟨by assumption, by omega, by omega⟩ | exact ⟨by assumption, by omega, by omega, by omega⟩ | exact ⟨by assumption, by omega, by omega, by omega, by omega⟩ | exact ⟨by assumption, by omega, by omega, by omega, by omega, by omega⟩), (fun σ3 h3a h3b => ?_)⟩
      intro _
      obtain ⟨w1, w2⟩ := meF h3a
      have hq := h3a
      have hv := h3b
      have hv1 := hv a1 (by omega) (by omega)
      refine ⟨fun c4 => ?_, fun c4 => ?_⟩
      · skip
        refine ⟨fun c5 => ?_, fun c5 => ?_⟩
        · skip
          have hv2 := hv (a1 - 1) (by omega) (by omega)
          have b1 := ins_in (w := mW σ) (n := (σ 40 0 0)) (σ 40 0 0).toNat (a1 - 1) (by omega) (by omega)
          have b2 := ins_in (w := mW σ) (n := (σ 40 0 0)) (σ 40 0 0).toNat a1 (by omega) (by omega)
          rw [hv1, hv2]
          refine ⟨(by omega), ?_⟩
          refine ⟨(by omega), ?_⟩
          refine ⟨(by omega), ?_⟩
          intro _ _
          refine ⟨fun c6 => ?_, fun c6 => ?_⟩
          · skip
            refine ⟨(by omega), ?_⟩
            refine ⟨(by omega), ?_⟩
            intro _ _
            rw [w1, w2]
            refine hG _ _ hq (gd_y (by omega) ?_)
            rw [if_neg (by omega), if_neg (by omega)]
            unfold lce
            rw [Int.max_eq_right (by omega)]
          · skip
            refine ⟨(by omega), ?_⟩
            refine ⟨(by omega), ?_⟩
            intro _ _
            rw [w1, w2]
            refine hG _ _ hq (gd_y (by omega) ?_)
            rw [if_neg (by omega), if_neg (by omega)]
            unfold lce
            rw [Int.max_eq_left (by omega)]
        · skip
          exact hG _ _ hq (gd_y (by omega) (by rw [if_neg (by omega), if_pos (by omega)]))
      · skip
        refine ⟨(by omega), ?_⟩
        rw [hv1]
        exact hG _ _ hq (gd_y (by omega) (by rw [if_pos (by omega)]))
    · skip
      exact hG _ _ Fr_refl (gd_n (by omega))
  · skip
    exact hG _ _ Fr_refl (gd_n (by omega))
theorem H_Mo_ends {d : Nat} (hd : 6 ≤ d) : Holds d I_Mo_ends S_Mo_ends := by
  refine holds_of (d' := d - 1) (rt := 1) (cal := [(I_Mo_isPlace, S_Mo_isPlace), (I_Mo_in, S_Mo_in), (I_Mo_laysEnds, S_Mo_laysEnds), (I_Mo_size, S_Mo_size), (I_Mo_common, S_Mo_common)]) (C := C_Mo_ends) m_Mo_ends o_Mo_ends rfl rfl (by omega) ?_ ?_
  · intro x hx
    simp only [List.mem_cons, List.not_mem_nil, or_false] at hx
    rcases hx with rfl | rfl | rfl | rfl | rfl
    · exact H_Mo_isPlace (by omega)
    · exact H_Mo_in (by omega)
    · exact H_Mo_laysEnds (by omega)
    · exact H_Mo_size (by omega)
    · exact H_Mo_common (by omega)
  · intro as σ K has hσ hG
    have hG2 := hG
    unfold S_Mo_ends at hG2
    split at hG2
    · next a1 a2 =>
      refine ⟨Nat.le_of_ble_eq_true rfl, (fun _ => none), ?_, 1000, ?_⟩
      · intro k n z L σ' hk hL hs hP
        cases hk
      · exact e_Mo_ends a1 a2 σ K (has _ (List.mem_of_getElem? (i := 1) rfl)) (has _ (List.mem_of_getElem? (i := 2) rfl)) hσ hG
    · exact hG2.elim
