/-! TEXT: the class's reader; its small parts -/
theorem and255 {x : Int} : 0 ≤ andI x 255 ∧ andI x 255 ≤ 255 := by
  have h : (Int32.ofInt x &&& Int32.ofInt 255).toBitVec.toNat ≤ 255 := by
    rw [Int32.toBitVec_and, BitVec.toNat_and]
    exact Nat.le_trans Nat.and_le_right (by decide)
  have e : andI x 255 = ((Int32.ofInt x &&& Int32.ofInt 255).toBitVec.toNat : Int) := by
    show (Int32.ofInt x &&& Int32.ofInt 255).toBitVec.toInt = _
    exact BitVec.toInt_eq_toNat_of_lt (by omega)
  omega
def tpC (σ : SS) : Int → Int := fun x => if 0 ≤ x ∧ x < σ 221 0 0 then andI (σ 23 0 x) 255 else -1
theorem tp_in {σ : SS} {x : Int} (h0 : 0 ≤ x) (h1 : x < σ 221 0 0) : 0 ≤ tpC σ x ∧ tpC σ x ≤ 255 := by
  unfold tpC
  rw [if_pos ⟨h0, h1⟩]
  exact and255
theorem tp_out {σ : SS} {x : Int} (h1 : σ 221 0 0 ≤ x) : tpC σ x = -1 := if_neg (by omega)
def RdL : List (Nat × Nat) := [(228, 0), (223, 0), (24, 0), (229, 0)]
theorem tp_fr {σ σ' : SS} {l : List (Nat × Nat)} (h : Fr l σ σ') (h1 : (23, 0) ∉ l) (h2 : (221, 0) ∉ l) : tpC σ' = tpC σ ∧ σ' 221 0 0 = σ 221 0 0 := by
  unfold tpC
  rw [h _ _ h1, h _ _ h2]
  exact ⟨rfl, rfl⟩
theorem bl_t {b : Int} : bl b = true ↔ b = 32 := decide_eq_true_iff
theorem sm_t {b : Int} : sm b = true ↔ 97 ≤ b ∧ b ≤ 122 := decide_eq_true_iff
theorem dg_t {b : Int} : dg b = true ↔ 48 ≤ b ∧ b ≤ 57 := decide_eq_true_iff
theorem ib_t {b : Int} : ib b = true ↔ b = 39 ∨ (48 ≤ b ∧ b ≤ 57) ∨ (97 ≤ b ∧ b ≤ 122) := decide_eq_true_iff
theorem bl_f {b : Int} : bl b = false ↔ ¬ b = 32 := by rw [← bl_t]; cases bl b <;> simp
theorem sm_f {b : Int} : sm b = false ↔ ¬ (97 ≤ b ∧ b ≤ 122) := by rw [← sm_t]; cases sm b <;> simp
theorem dg_f {b : Int} : dg b = false ↔ ¬ (48 ≤ b ∧ b ≤ 57) := by rw [← dg_t]; cases dg b <;> simp
theorem ib_f {b : Int} : ib b = false ↔ ¬ (b = 39 ∨ (48 ≤ b ∧ b ≤ 57) ∨ (97 ≤ b ∧ b ≤ 122)) := by rw [← ib_t]; cases ib b <;> simp
/-- the scan has come to v, from a on -/
def scI (T : Int → Int) (p : Int → Bool) (a v : Int) : Prop := a ≤ v ∧ ∀ y, a ≤ y → y < v → p (T y) = true
theorem scI_0 {T : Int → Int} {p : Int → Bool} {a : Int} : scI T p a a := ⟨Int.le_refl _, fun y y0 y1 => by omega⟩
theorem scI_s {T : Int → Int} {p : Int → Bool} {a v : Int} (h : scI T p a v) (hv : p (T v) = true) : scI T p a (v + 1) := by
  have h0 := h.1
  refine ⟨by omega, fun y y0 y1 => ?_⟩
  rcases (by omega : y < v ∨ y = v) with c | c
  · exact h.2 y y0 c
  · rw [c]; exact hv
theorem scI_e {T : Int → Int} {p : Int → Bool} {a v : Int} (h : scI T p a v) (h0 : 0 ≤ a) (h1 : v ≤ 300) (hv : p (T v) = false) : scF T p 301 a = v := sc_is hv 301 a h.1 (by omega) h.2
def S_Re_byteAt : GS := fun as σ K => match as with
  | [some (.inr (.inr (3, 0))), some (.inl a1)] => σ 221 0 0 ≤ 300 ∧ K (vI (tpC σ a1)) σ
  | _ => False
def VE_Re_byteAt (a1 : Int) (σ : SS) (K : AV → SS → Prop) : Prop :=
  ((a1 < 0 →
    (K (vI (-1)) σ)) ∧
  ((0 : Int) ≤ a1 →
    (((σ 221 0 0) ≤ a1 →
      (K (vI (-1)) σ)) ∧
    (a1 < (σ 221 0 0) →
      (((300 : Int) ≤ a1 →
        (K (vI (-1)) σ)) ∧
      (a1 < 300 →
        ((0 ≤ (a1 : Int) ∧ (a1 : Int) < 300) ∧
        (K (vI (andI (σ 23 0 a1) 255)) σ))))))))
theorem e_Re_byteAt (a1 : Int) (σ : SS) (K : AV → SS → Prop) (ha1 : InR a1) (hs : okS σ) (hG : S_Re_byteAt [vR 3 0, vI a1] σ K) : VE_Re_byteAt a1 σ K := by
  unfold VE_Re_byteAt
  obtain ⟨h1, hG⟩ := hG
  have e1 : ¬ (0 ≤ a1 ∧ a1 < σ 221 0 0) → tpC σ a1 = -1 := fun z => if_neg z
  have e2 : 0 ≤ a1 ∧ a1 < σ 221 0 0 → tpC σ a1 = andI (σ 23 0 a1) 255 := fun z => if_pos z
  refine ⟨fun c1 => ?_, fun c1 => ?_⟩
  · skip
    first
      | (rw [e1 (by omega)] at hG; exact hG)
      | (rw [e2 (by omega)] at hG; exact hG)
  · skip
    refine ⟨fun c2 => ?_, fun c2 => ?_⟩
    · skip
      first
        | (rw [e1 (by omega)] at hG; exact hG)
        | (rw [e2 (by omega)] at hG; exact hG)
    · skip
      refine ⟨fun c3 => ?_, fun c3 => ?_⟩
      · skip
        first
          | (rw [e1 (by omega)] at hG; exact hG)
          | (rw [e2 (by omega)] at hG; exact hG)
      · skip
        refine ⟨(by omega), ?_⟩
        first
          | (rw [e1 (by omega)] at hG; exact hG)
          | (rw [e2 (by omega)] at hG; exact hG)
theorem H_Re_byteAt {d : Nat} (hd : 1 ≤ d) : Holds d I_Re_byteAt S_Re_byteAt := by
  refine holds_of (d' := d - 1) (rt := 1) (cal := []) (C := C_Re_byteAt) m_Re_byteAt o_Re_byteAt rfl rfl (by omega) ?_ ?_
  · intro x hx
    cases hx
  · intro as σ K has hσ hG
    have hG2 := hG
    unfold S_Re_byteAt at hG2
    split at hG2
    · next a1 =>
      refine ⟨Nat.le_of_ble_eq_true rfl, (fun _ => none), ?_, 1000, ?_⟩
      · intro k n z L σ' hk hL hs hP
        cases hk
      · exact e_Re_byteAt a1 σ K (has _ (List.mem_of_getElem? (i := 1) rfl)) hσ hG
    · exact hG2.elim
def S_Re_isDigit : GS := fun as σ K => match as with
  | [some (.inr (.inr (3, 0))), some (.inl a1)] => bS (48 ≤ a1 ∧ a1 ≤ 57) K σ
  | _ => False
def VE_Re_isDigit (a1 : Int) (σ : SS) (K : AV → SS → Prop) : Prop :=
  ((a1 < 48 →
    ((0 ≤ (0 : Int) ∧ (0 : Int) ≤ 1) ∧ K (vI 0) σ)) ∧
  ((48 : Int) ≤ a1 →
    (((57 : Int) < a1 →
      ((0 ≤ (0 : Int) ∧ (0 : Int) ≤ 1) ∧ K (vI 0) σ)) ∧
    (a1 ≤ 57 →
      ((0 ≤ (1 : Int) ∧ (1 : Int) ≤ 1) ∧ K (vI 1) σ)))))
theorem e_Re_isDigit (a1 : Int) (σ : SS) (K : AV → SS → Prop) (ha1 : InR a1) (hs : okS σ) (hG : S_Re_isDigit [vR 3 0, vI a1] σ K) : VE_Re_isDigit a1 σ K := by
  unfold VE_Re_isDigit
  exact ⟨fun h => bS_n hG (by omega), fun h => ⟨fun h2 => bS_n hG (by omega), fun h2 => bS_y hG (by omega)⟩⟩
theorem H_Re_isDigit {d : Nat} (hd : 1 ≤ d) : Holds d I_Re_isDigit S_Re_isDigit := by
  refine holds_of (d' := d - 1) (rt := 2) (cal := []) (C := C_Re_isDigit) m_Re_isDigit o_Re_isDigit rfl rfl (by omega) ?_ ?_
  · intro x hx
    cases hx
  · intro as σ K has hσ hG
    have hG2 := hG
    unfold S_Re_isDigit at hG2
    split at hG2
    · next a1 =>
      refine ⟨Nat.le_of_ble_eq_true rfl, (fun _ => none), ?_, 1000, ?_⟩
      · intro k n z L σ' hk hL hs hP
        cases hk
      · exact e_Re_isDigit a1 σ K (has _ (List.mem_of_getElem? (i := 1) rfl)) hσ hG
    · exact hG2.elim
def S_Re_isSmall : GS := fun as σ K => match as with
  | [some (.inr (.inr (3, 0))), some (.inl a1)] => bS (97 ≤ a1 ∧ a1 ≤ 122) K σ
  | _ => False
def VE_Re_isSmall (a1 : Int) (σ : SS) (K : AV → SS → Prop) : Prop :=
  ((a1 < 97 →
    ((0 ≤ (0 : Int) ∧ (0 : Int) ≤ 1) ∧ K (vI 0) σ)) ∧
  ((97 : Int) ≤ a1 →
    (((122 : Int) < a1 →
      ((0 ≤ (0 : Int) ∧ (0 : Int) ≤ 1) ∧ K (vI 0) σ)) ∧
    (a1 ≤ 122 →
      ((0 ≤ (1 : Int) ∧ (1 : Int) ≤ 1) ∧ K (vI 1) σ)))))
theorem e_Re_isSmall (a1 : Int) (σ : SS) (K : AV → SS → Prop) (ha1 : InR a1) (hs : okS σ) (hG : S_Re_isSmall [vR 3 0, vI a1] σ K) : VE_Re_isSmall a1 σ K := by
  unfold VE_Re_isSmall
  exact ⟨fun h => bS_n hG (by omega), fun h => ⟨fun h2 => bS_n hG (by omega), fun h2 => bS_y hG (by omega)⟩⟩
theorem H_Re_isSmall {d : Nat} (hd : 1 ≤ d) : Holds d I_Re_isSmall S_Re_isSmall := by
  refine holds_of (d' := d - 1) (rt := 2) (cal := []) (C := C_Re_isSmall) m_Re_isSmall o_Re_isSmall rfl rfl (by omega) ?_ ?_
  · intro x hx
    cases hx
  · intro as σ K has hσ hG
    have hG2 := hG
    unfold S_Re_isSmall at hG2
    split at hG2
    · next a1 =>
      refine ⟨Nat.le_of_ble_eq_true rfl, (fun _ => none), ?_, 1000, ?_⟩
      · intro k n z L σ' hk hL hs hP
        cases hk
      · exact e_Re_isSmall a1 σ K (has _ (List.mem_of_getElem? (i := 1) rfl)) hσ hG
    · exact hG2.elim
def S_Re_isItemBegin : GS := fun as σ K => match as with
  | [some (.inr (.inr (3, 0))), some (.inl a1)] => bS (a1 = 39 ∨ (48 ≤ a1 ∧ a1 ≤ 57) ∨ (97 ≤ a1 ∧ a1 ≤ 122)) K σ
  | _ => False
def VE_Re_isItemBegin (a1 : Int) (σ : SS) (K : AV → SS → Prop) : Prop :=
  ((a1 = 39 →
    ((0 ≤ (1 : Int) ∧ (1 : Int) ≤ 1) ∧ K (vI 1) σ)) ∧
  (a1 ≠ 39 →
    (S_Re_isDigit [vR 3 0, vI a1] σ (kI fun r1 σ1 =>
      ((r1 ≠ 0 →
        ((0 ≤ (1 : Int) ∧ (1 : Int) ≤ 1) ∧ K (vI 1) σ1)) ∧
      (r1 = 0 →
        (S_Re_isSmall [vR 3 0, vI a1] σ1 (kI fun r2 σ2 =>
          ((r2 = 0 →
            ((0 ≤ (0 : Int) ∧ (0 : Int) ≤ 1) ∧ K (vI 0) σ2)) ∧
          (r2 ≠ 0 →
            ((0 ≤ (1 : Int) ∧ (1 : Int) ≤ 1) ∧ K (vI 1) σ2)))))))))))
theorem e_Re_isItemBegin (a1 : Int) (σ : SS) (K : AV → SS → Prop) (ha1 : InR a1) (hs : okS σ) (hG : S_Re_isItemBegin [vR 3 0, vI a1] σ K) : VE_Re_isItemBegin a1 σ K := by
  unfold VE_Re_isItemBegin
  refine ⟨fun h => bS_y hG (Or.inl h), fun h => ?_⟩
  refine bS_b1 (fun p1 _ => bS_y hG (Or.inr (Or.inl p1))) (fun p1 _ => ?_)
  exact bS_b0 (fun p2 _ => bS_y hG (Or.inr (Or.inr p2))) (fun p2 _ => bS_n hG (fun z => by omega))
theorem H_Re_isItemBegin {d : Nat} (hd : 2 ≤ d) : Holds d I_Re_isItemBegin S_Re_isItemBegin := by
  refine holds_of (d' := d - 1) (rt := 2) (cal := [(I_Re_isDigit, S_Re_isDigit), (I_Re_isSmall, S_Re_isSmall)]) (C := C_Re_isItemBegin) m_Re_isItemBegin o_Re_isItemBegin rfl rfl (by omega) ?_ ?_
  · intro x hx
    simp only [List.mem_cons, List.not_mem_nil, or_false] at hx
    rcases hx with rfl | rfl
    · exact H_Re_isDigit (by omega)
    · exact H_Re_isSmall (by omega)
  · intro as σ K has hσ hG
    have hG2 := hG
    unfold S_Re_isItemBegin at hG2
    split at hG2
    · next a1 =>
      refine ⟨Nat.le_of_ble_eq_true rfl, (fun _ => none), ?_, 1000, ?_⟩
      · intro k n z L σ' hk hL hs hP
        cases hk
      · exact e_Re_isItemBegin a1 σ K (has _ (List.mem_of_getElem? (i := 1) rfl)) hσ hG
    · exact hG2.elim
def S_Re_fail : GS := fun as σ K => match as with
  | [some (.inr (.inr (3, 0))), some (.inl a1), some (.inl a2)] => (0 ≤ a1 ∧ a1 ≤ 1000 ∧ 0 ≤ a2 ∧ a2 ≤ 8) ∧ K (vI 0) (u3 σ 229 0 0 (8 * a1 + a2))
  | _ => False
def VE_Re_fail (a1 : Int) (a2 : Int) (σ : SS) (K : AV → SS → Prop) : Prop :=
  (InR (8 * a1) ∧
  (InR ((8 * a1) + a2) ∧
  (∀ σ1 : SS, σ1 = u3 σ 229 0 0 ((8 * a1) + a2) →
  ((0 ≤ (0 : Int) ∧ (0 : Int) ≤ 1) ∧ K (vI 0) σ1))))
theorem e_Re_fail (a1 : Int) (a2 : Int) (σ : SS) (K : AV → SS → Prop) (ha1 : InR a1) (ha2 : InR a2) (hs : okS σ) (hG : S_Re_fail [vR 3 0, vI a1, vI a2] σ K) : VE_Re_fail a1 a2 σ K := by
  unfold VE_Re_fail
  obtain ⟨h1, hG⟩ := hG
  refine ⟨by omega, by omega, fun σ1 e1 => ⟨by omega, ?_⟩⟩
  rw [e1]
  exact hG
theorem H_Re_fail {d : Nat} (hd : 1 ≤ d) : Holds d I_Re_fail S_Re_fail := by
  refine holds_of (d' := d - 1) (rt := 2) (cal := []) (C := C_Re_fail) m_Re_fail o_Re_fail rfl rfl (by omega) ?_ ?_
  · intro x hx
    cases hx
  · intro as σ K has hσ hG
    have hG2 := hG
    unfold S_Re_fail at hG2
    split at hG2
    · next a1 a2 =>
      refine ⟨Nat.le_of_ble_eq_true rfl, (fun _ => none), ?_, 1000, ?_⟩
      · intro k n z L σ' hk hL hs hP
        cases hk
      · exact e_Re_fail a1 a2 σ K (has _ (List.mem_of_getElem? (i := 1) rfl)) (has _ (List.mem_of_getElem? (i := 2) rfl)) hσ hG
    · exact hG2.elim
def S_Re_skipBlanks : GS := fun as σ K => match as with
  | [some (.inr (.inr (3, 0)))] => (0 ≤ σ 228 0 0 ∧ σ 228 0 0 ≤ σ 221 0 0 ∧ σ 221 0 0 ≤ 300) ∧ ∀ σ', Fr [(228, 0)] σ σ' → σ' 228 0 0 = sk (tpC σ) (σ 228 0 0) → σ 228 0 0 ≤ σ' 228 0 0 ∧ σ' 228 0 0 ≤ σ 221 0 0 → K none σ'
  | _ => False
abbrev Lp_Re_skipBlanks_0 (σ0 : SS) (n : Nat) (L : List AV) (σ : SS) : Prop := L = [vR 3 0] ∧ n = (1000 - σ 228 0 0).toNat ∧ ((Fr [(228, 0)] σ0 σ) ∧ (0 ≤ σ 228 0 0 ∧ σ 228 0 0 ≤ σ0 221 0 0) ∧ (scI (tpC σ0) bl (σ0 228 0 0) (σ 228 0 0)))
def Iv_Re_skipBlanks (σ0 : SS) (k : Nat) : Option (List Nat × (Nat → List AV → SS → Prop)) := match k with
  | 0 => some ([], Lp_Re_skipBlanks_0 σ0)
  | _ => none
def VE_Re_skipBlanks (σ : SS) (K : AV → SS → Prop) : Prop :=
  (((σ 221 0 0) ≤ (σ 228 0 0) →
    (K none σ)) ∧
  ((σ 228 0 0) < (σ 221 0 0) →
    (S_Re_byteAt [vR 3 0, vI (σ 228 0 0)] σ (kI fun r1 σ1 =>
      ((r1 ≠ 32 →
        (K none σ1)) ∧
      (r1 = 32 →
        (InR ((σ1 228 0 0) + 1) ∧
        (∀ σ2 : SS, σ2 = u3 σ1 228 0 0 ((σ1 228 0 0) + 1) →
        (∃ n', Lp_Re_skipBlanks_0 σ n' [vR 3 0] σ2)))))))))
def VL_Re_skipBlanks_0 (σ0 : SS) (K : AV → SS → Prop) (σ : SS) (n : Nat) : Prop :=
  (((σ 221 0 0) ≤ (σ 228 0 0) →
    (K none σ)) ∧
  ((σ 228 0 0) < (σ 221 0 0) →
    (S_Re_byteAt [vR 3 0, vI (σ 228 0 0)] σ (kI fun r1 σ1 =>
      ((r1 ≠ 32 →
        (K none σ1)) ∧
      (r1 = 32 →
        (InR ((σ1 228 0 0) + 1) ∧
        (∀ σ2 : SS, σ2 = u3 σ1 228 0 0 ((σ1 228 0 0) + 1) →
        (∃ n', n' < n ∧ Lp_Re_skipBlanks_0 σ0 n' [vR 3 0] σ2)))))))))
theorem l_Re_skipBlanks_0 (σ0 : SS) (K : AV → SS → Prop) (hs0 : okS σ0) (hG : S_Re_skipBlanks [vR 3 0] σ0 K) (σ : SS) (hs : okS σ) (n : Nat) (hn : n = (1000 - σ 228 0 0).toNat) (hQ : (Fr [(228, 0)] σ0 σ) ∧ (0 ≤ σ 228 0 0 ∧ σ 228 0 0 ≤ σ0 221 0 0) ∧ (scI (tpC σ0) bl (σ0 228 0 0) (σ 228 0 0))) : VL_Re_skipBlanks_0 σ0 K σ n := by
  unfold VL_Re_skipBlanks_0
  obtain ⟨h1, hG⟩ := hG
  obtain ⟨q0, q1, q2⟩ := hQ
  obtain ⟨t1, t2⟩ := tp_fr q0 (by simp) (by simp)
  have q3 := q2.1
  have fin : bl (tpC σ0 (σ 228 0 0)) = false → K none σ := fun z => hG _ q0 (scI_e q2 h1.1 (by omega) z).symm (by omega)
  refine ⟨fun c1 => ?_, fun c1 => ?_⟩
  · skip
    exact fin (by rw [tp_out (by omega)]; decide)
  · skip
    refine ⟨(by first | assumption | omega | exact ⟨by first | assumption | omega, by omega⟩ | exact ⟨by assumption, by omega, by omega⟩ | exact ⟨by assumption, by omega, by omega, by omega⟩ | exact ⟨by assumption, by omega, by omega, by omega, by omega⟩ | exact ⟨by assumption, by omega, by omega, by omega, by omega, by omega⟩), ?_⟩
    intro _ _
    rw [t1]
    refine ⟨fun c2 => ?_, fun c2 => ?_⟩
    · skip
      exact fin (bl_f.mpr (by assumption))
    · skip
      refine ⟨(by omega), ?_⟩
      refine fun σ3 e3 => ?_
      refine ⟨_, ?_, rfl, rfl, ?_⟩
      · rw [e3, u3_s]; omega
      · refine ⟨?_, ?_, ?_⟩
        · rw [e3]; exact Fr_trans q0 (Fr_u3 (by simp))
        · rw [e3, u3_s]; omega
        · rw [e3, u3_s]; exact scI_s q2 (bl_t.mpr (by assumption))
theorem e_Re_skipBlanks (σ : SS) (K : AV → SS → Prop) (hs : okS σ) (hG : S_Re_skipBlanks [vR 3 0] σ K) : VE_Re_skipBlanks σ K := by
  unfold VE_Re_skipBlanks
  obtain ⟨h1, hG⟩ := hG
  have fin : bl (tpC σ (σ 228 0 0)) = false → K none σ := fun z => hG _ Fr_refl (scI_e scI_0 h1.1 (by omega) z).symm (by omega)
  refine ⟨fun c1 => ?_, fun c1 => ?_⟩
  · skip
    exact fin (by rw [tp_out (by omega)]; decide)
  · skip
    refine ⟨(by first | assumption | omega | exact ⟨by first | assumption | omega, by omega⟩ | exact ⟨by assumption, by omega, by omega⟩ | exact ⟨by assumption, by omega, by omega, by omega⟩ | exact ⟨by assumption, by omega, by omega, by omega, by omega⟩ | exact ⟨by assumption, by omega, by omega, by omega, by omega, by omega⟩), ?_⟩
    intro _ _
    refine ⟨fun c2 => ?_, fun c2 => ?_⟩
    · skip
      exact fin (bl_f.mpr (by assumption))
    · skip
      refine ⟨(by omega), ?_⟩
      refine fun σ3 e3 => ?_
      refine ⟨_, rfl, rfl, ?_⟩
      refine ⟨?_, ?_, ?_⟩
      · rw [e3]; exact Fr_u3 (by simp)
      · rw [e3, u3_s]; exact ⟨by omega, by omega⟩
      · rw [e3, u3_s]; exact scI_s scI_0 (bl_t.mpr (by assumption))
theorem H_Re_skipBlanks {d : Nat} (hd : 2 ≤ d) : Holds d I_Re_skipBlanks S_Re_skipBlanks := by
  refine holds_of (d' := d - 1) (rt := 0) (cal := [(I_Re_byteAt, S_Re_byteAt)]) (C := C_Re_skipBlanks) m_Re_skipBlanks o_Re_skipBlanks rfl rfl (by omega) ?_ ?_
  · intro x hx
    simp only [List.mem_cons, List.not_mem_nil, or_false] at hx
    subst hx
    exact H_Re_byteAt (by omega)
  · intro as σ K has hσ hG
    have hG2 := hG
    unfold S_Re_skipBlanks at hG2
    split at hG2
    · skip
      refine ⟨Nat.le_of_ble_eq_true rfl, (Iv_Re_skipBlanks σ), ?_, 1000, ?_⟩
      · intro k n z L σ' hk hL hs hP
        unfold Iv_Re_skipBlanks at hk
        split at hk
        · cases hk
          obtain ⟨rfl, hn, hQ⟩ := hP
          exact ⟨1000, l_Re_skipBlanks_0 σ K  hσ hG  σ'  hs n hn hQ⟩
        · cases hk
      · exact e_Re_skipBlanks σ K  hσ hG
    · exact hG2.elim
def S_Re_wordEnd : GS := fun as σ K => match as with
  | [some (.inr (.inr (3, 0))), some (.inl a1)] => (0 ≤ a1 ∧ a1 ≤ σ 221 0 0 ∧ σ 221 0 0 ≤ 300) ∧ ∀ r, r = we (tpC σ) a1 → a1 ≤ r ∧ r ≤ σ 221 0 0 → scI (tpC σ) sm a1 r → K (vI r) σ
  | _ => False
abbrev Lp_Re_wordEnd_2 (a1 : Int) (σ0 : SS) (n : Nat) (L : List AV) (σ : SS) : Prop := ∃ (v2 : Int), L = [vR 3 0, vI a1, vI v2] ∧ n = (1000 - v2).toNat ∧ ((σ = σ0) ∧ (v2 ≤ σ0 221 0 0) ∧ (scI (tpC σ0) sm a1 v2))
def Iv_Re_wordEnd (a1 : Int) (σ0 : SS) (k : Nat) : Option (List Nat × (Nat → List AV → SS → Prop)) := match k with
  | 2 => some ([], Lp_Re_wordEnd_2 a1 σ0)
  | _ => none
def VE_Re_wordEnd (a1 : Int) (σ : SS) (K : AV → SS → Prop) : Prop :=
  (∃ n', Lp_Re_wordEnd_2 a1 σ n' [vR 3 0, vI a1, vI a1] σ)
def VL_Re_wordEnd_2 (a1 : Int) (σ0 : SS) (K : AV → SS → Prop) (v2 : Int) (σ : SS) (n : Nat) : Prop :=
  (((σ 221 0 0) ≤ v2 →
    (K (vI v2) σ)) ∧
  (v2 < (σ 221 0 0) →
    (S_Re_byteAt [vR 3 0, vI v2] σ (kI fun r1 σ1 =>
      (S_Re_isSmall [vR 3 0, vI r1] σ1 (kI fun r2 σ2 =>
        ((r2 = 0 →
          (K (vI v2) σ2)) ∧
        (r2 ≠ 0 →
          (InR (v2 + 1) ∧
          (∃ n', n' < n ∧ Lp_Re_wordEnd_2 a1 σ0 n' [vR 3 0, vI a1, vI (v2 + 1)] σ2))))))))))
theorem l_Re_wordEnd_2 (a1 : Int) (σ0 : SS) (K : AV → SS → Prop) (ha1 : InR a1) (hs0 : okS σ0) (hG : S_Re_wordEnd [vR 3 0, vI a1] σ0 K) (v2 : Int) (σ : SS) (hv2 : InR v2) (hs : okS σ) (n : Nat) (hn : n = (1000 - v2).toNat) (hQ : (σ = σ0) ∧ (v2 ≤ σ0 221 0 0) ∧ (scI (tpC σ0) sm a1 v2)) : VL_Re_wordEnd_2 a1 σ0 K v2 σ n := by
  unfold VL_Re_wordEnd_2
  obtain ⟨h1, hG⟩ := hG
  obtain ⟨rfl, q1, q2⟩ := hQ
  have q3 := q2.1
  have fin : sm (tpC σ v2) = false → K (vI v2) σ := fun z => hG _ (scI_e q2 h1.1 (by omega) z).symm (by omega) q2
  refine ⟨fun c1 => ?_, fun c1 => ?_⟩
  · skip
    exact fin (by rw [tp_out (by omega)]; decide)
  · skip
    refine ⟨(by first | assumption | omega | exact ⟨by first | assumption | omega, by omega⟩ | exact ⟨by assumption, by omega, by omega⟩ | exact ⟨by assumption, by omega, by omega, by omega⟩ | exact ⟨by assumption, by omega, by omega, by omega, by omega⟩ | exact ⟨by assumption, by omega, by omega, by omega, by omega, by omega⟩), ?_⟩
    intro _ _
    refine bS_b0 (fun p2 _ => ?_) (fun p2 _ => ?_)
    · skip
      refine ⟨(by omega), ?_⟩
      refine ⟨_, ?_, _, rfl, rfl, ?_⟩
      · omega
      · refine ⟨?_, ?_, ?_⟩
        · first | rfl | assumption | omega
        · first | rfl | assumption | omega
        · exact scI_s q2 (sm_t.mpr (by assumption))
    · skip
      exact fin (sm_f.mpr (by assumption))
theorem e_Re_wordEnd (a1 : Int) (σ : SS) (K : AV → SS → Prop) (ha1 : InR a1) (hs : okS σ) (hG : S_Re_wordEnd [vR 3 0, vI a1] σ K) : VE_Re_wordEnd a1 σ K := by
  unfold VE_Re_wordEnd
  obtain ⟨h1, hG⟩ := hG
  refine ⟨_, _, rfl, rfl, ?_⟩
  refine ⟨?_, ?_, ?_⟩
  · first | rfl | assumption | omega
  · first | rfl | assumption | omega
  · exact scI_0
theorem H_Re_wordEnd {d : Nat} (hd : 2 ≤ d) : Holds d I_Re_wordEnd S_Re_wordEnd := by
  refine holds_of (d' := d - 1) (rt := 1) (cal := [(I_Re_byteAt, S_Re_byteAt), (I_Re_isSmall, S_Re_isSmall)]) (C := C_Re_wordEnd) m_Re_wordEnd o_Re_wordEnd rfl rfl (by omega) ?_ ?_
  · intro x hx
    simp only [List.mem_cons, List.not_mem_nil, or_false] at hx
    rcases hx with rfl | rfl
    · exact H_Re_byteAt (by omega)
    · exact H_Re_isSmall (by omega)
  · intro as σ K has hσ hG
    have hG2 := hG
    unfold S_Re_wordEnd at hG2
    split at hG2
    · next a1 =>
      refine ⟨Nat.le_of_ble_eq_true rfl, (Iv_Re_wordEnd a1 σ), ?_, 1000, ?_⟩
      · intro k n z L σ' hk hL hs hP
        unfold Iv_Re_wordEnd at hk
        split at hk
        · cases hk
          obtain ⟨v2, rfl, hn, hQ⟩ := hP
          exact ⟨1000, l_Re_wordEnd_2 a1 σ K (has _ (List.mem_of_getElem? (i := 1) rfl)) hσ hG v2 σ' (hL _ (List.mem_of_getElem? (i := 2) rfl)) hs n hn hQ⟩
        · cases hk
      · exact e_Re_wordEnd a1 σ K (has _ (List.mem_of_getElem? (i := 1) rfl)) hσ hG
    · exact hG2.elim
theorem cdF_b {T : Int → Int} {a : Int} {m : Int} (h : ∀ y, a ≤ y → y < m → sm (T y) = true) (k : Nat) (hk : k ≤ 5) (hm : a + k ≤ m) : 0 ≤ cdF T a k ∧ cdF T a k ≤ 14348906 ∧ (k ≤ 4 → cdF T a k ≤ 531440) := by
  have g : ∀ j : Nat, j < k → 97 ≤ T (a + j) ∧ T (a + j) ≤ 122 := fun j hj => sm_t.mp (h (a + j) (by omega) (by omega))
  rcases (by omega : k = 0 ∨ k = 1 ∨ k = 2 ∨ k = 3 ∨ k = 4 ∨ k = 5) with rfl | rfl | rfl | rfl | rfl | rfl
  · simp only [cdF]; omega
  · have g0 := g 0 (by omega)
    simp only [cdF]; omega
  · have g0 := g 0 (by omega)
    have g1 := g 1 (by omega)
    simp only [cdF]; omega
  · have g0 := g 0 (by omega)
    have g1 := g 1 (by omega)
    have g2 := g 2 (by omega)
    simp only [cdF]; omega
  · have g0 := g 0 (by omega)
    have g1 := g 1 (by omega)
    have g2 := g 2 (by omega)
    have g3 := g 3 (by omega)
    simp only [cdF]; omega
  · have g0 := g 0 (by omega)
    have g1 := g 1 (by omega)
    have g2 := g 2 (by omega)
    have g3 := g 3 (by omega)
    have g4 := g 4 (by omega)
    simp only [cdF]; omega
def S_Re_codeOf : GS := fun as σ K => match as with
  | [some (.inr (.inr (3, 0))), some (.inl a1), some (.inl a2)] => ((0 ≤ a1 ∧ a1 ≤ a2 ∧ a2 ≤ 300 ∧ σ 221 0 0 ≤ 300) ∧ a2 = we (tpC σ) a1 ∧ scI (tpC σ) sm a1 a2) ∧ K (vI (cd (tpC σ) a1)) σ
  | _ => False
abbrev Lp_Re_codeOf_11 (a1 : Int) (a2 : Int) (σ0 : SS) (n : Nat) (L : List AV) (σ : SS) : Prop := ∃ (v3 : Int) (v4 : Int), L = [vR 3 0, vI a1, vI a2, vI v3, vI v4] ∧ n = (1000 - v4).toNat ∧ ((σ = σ0) ∧ ((a1 ≤ v4 ∧ v4 ≤ a2) ∧ a2 - a1 ≤ 5) ∧ (v3 = cdF (tpC σ0) a1 (v4 - a1).toNat))
def Iv_Re_codeOf (a1 : Int) (a2 : Int) (σ0 : SS) (k : Nat) : Option (List Nat × (Nat → List AV → SS → Prop)) := match k with
  | 11 => some ([], Lp_Re_codeOf_11 a1 a2 σ0)
  | _ => none
def VE_Re_codeOf (a1 : Int) (a2 : Int) (σ : SS) (K : AV → SS → Prop) : Prop :=
  (InR (a2 - a1) ∧
  (((a2 - a1) ≤ 5 →
    (∃ n', Lp_Re_codeOf_11 a1 a2 σ n' [vR 3 0, vI a1, vI a2, vI 0, vI a1] σ)) ∧
  ((5 : Int) < (a2 - a1) →
    (K (vI 0) σ))))
def VL_Re_codeOf_11 (a1 : Int) (a2 : Int) (σ0 : SS) (K : AV → SS → Prop) (v3 : Int) (v4 : Int) (σ : SS) (n : Nat) : Prop :=
  ((a2 ≤ v4 →
    (K (vI v3) σ)) ∧
  (v4 < a2 →
    (InR (v3 * 27) ∧
    (S_Re_byteAt [vR 3 0, vI v4] σ (kI fun r1 σ1 =>
      (InR ((v3 * 27) + r1) ∧
      (InR (((v3 * 27) + r1) - 96) ∧
      (InR (v4 + 1) ∧
      (∃ n', n' < n ∧ Lp_Re_codeOf_11 a1 a2 σ0 n' [vR 3 0, vI a1, vI a2, vI (((v3 * 27) + r1) - 96), vI (v4 + 1)] σ1)))))))))
theorem l_Re_codeOf_11 (a1 : Int) (a2 : Int) (σ0 : SS) (K : AV → SS → Prop) (ha1 : InR a1) (ha2 : InR a2) (hs0 : okS σ0) (hG : S_Re_codeOf [vR 3 0, vI a1, vI a2] σ0 K) (v3 : Int) (v4 : Int) (σ : SS) (hv3 : InR v3) (hv4 : InR v4) (hs : okS σ) (n : Nat) (hn : n = (1000 - v4).toNat) (hQ : (σ = σ0) ∧ ((a1 ≤ v4 ∧ v4 ≤ a2) ∧ a2 - a1 ≤ 5) ∧ (v3 = cdF (tpC σ0) a1 (v4 - a1).toNat)) : VL_Re_codeOf_11 a1 a2 σ0 K v3 v4 σ n := by
  unfold VL_Re_codeOf_11
  obtain ⟨⟨h1, h2, h3⟩, hG⟩ := hG
  obtain ⟨rfl, q1, q2⟩ := hQ
  have b := cdF_b (a := a1) (m := a2) h3.2 (v4 - a1).toNat (by omega) (by omega)
  rw [← q2] at b
  have b3 : a2 ≤ v4 ∨ v3 ≤ 531440 := by
    rcases (by omega : a2 ≤ v4 ∨ v4 < a2) with z | z
    · exact Or.inl z
    · exact Or.inr (b.2.2 (by omega))
  have bt : a2 ≤ v4 ∨ (97 ≤ tpC σ v4 ∧ tpC σ v4 ≤ 122) := by
    rcases (by omega : a2 ≤ v4 ∨ v4 < a2) with z | z
    · exact Or.inl z
    · exact Or.inr (sm_t.mp (h3.2 v4 q1.1.1 z))
  refine ⟨fun c1 => ?_, fun c1 => ?_⟩
  · skip
    unfold cd at hG
    rw [← h2, if_pos (by omega), show a2 = v4 by omega, ← q2] at hG
    exact hG
  · skip
    refine ⟨(by omega), ?_⟩
    refine ⟨(by omega), ?_⟩
    intro _ _
    refine ⟨(by omega), ?_⟩
    refine ⟨(by omega), ?_⟩
    refine ⟨(by omega), ?_⟩
    refine ⟨_, ?_, _, _, rfl, rfl, ?_⟩
    · omega
    · refine ⟨?_, ?_, ?_⟩
      · first | rfl | assumption | omega
      · first | rfl | assumption | omega
      · rw [show (v4 + 1 - a1).toNat = (v4 - a1).toNat + 1 by omega]
        show _ = cdF (tpC σ) a1 (v4 - a1).toNat * 27 + tpC σ (a1 + ((v4 - a1).toNat : Nat)) - 96
        rw [← q2, show a1 + ((v4 - a1).toNat : Nat) = v4 by omega]
theorem e_Re_codeOf (a1 : Int) (a2 : Int) (σ : SS) (K : AV → SS → Prop) (ha1 : InR a1) (ha2 : InR a2) (hs : okS σ) (hG : S_Re_codeOf [vR 3 0, vI a1, vI a2] σ K) : VE_Re_codeOf a1 a2 σ K := by
  unfold VE_Re_codeOf
  obtain ⟨⟨h1, h2, h3⟩, hG⟩ := hG
  refine ⟨(by omega), ?_⟩
  refine ⟨fun c1 => ?_, fun c1 => ?_⟩
  · skip
    refine ⟨_, _, _, rfl, rfl, ?_⟩
    refine ⟨?_, ?_, ?_⟩
    · first | rfl | assumption | omega
    · first | rfl | assumption | omega
    · rw [show (a1 - a1).toNat = 0 by omega]; rfl
  · skip
    unfold cd at hG
    rw [← h2, if_neg (by omega)] at hG
    exact hG
theorem H_Re_codeOf {d : Nat} (hd : 2 ≤ d) : Holds d I_Re_codeOf S_Re_codeOf := by
  refine holds_of (d' := d - 1) (rt := 1) (cal := [(I_Re_byteAt, S_Re_byteAt)]) (C := C_Re_codeOf) m_Re_codeOf o_Re_codeOf rfl rfl (by omega) ?_ ?_
  · intro x hx
    simp only [List.mem_cons, List.not_mem_nil, or_false] at hx
    subst hx
    exact H_Re_byteAt (by omega)
  · intro as σ K has hσ hG
    have hG2 := hG
    unfold S_Re_codeOf at hG2
    split at hG2
    · next a1 a2 =>
      refine ⟨Nat.le_of_ble_eq_true rfl, (Iv_Re_codeOf a1 a2 σ), ?_, 1000, ?_⟩
      · intro k n z L σ' hk hL hs hP
        unfold Iv_Re_codeOf at hk
        split at hk
        · cases hk
          obtain ⟨v3, v4, rfl, hn, hQ⟩ := hP
          exact ⟨1000, l_Re_codeOf_11 a1 a2 σ K (has _ (List.mem_of_getElem? (i := 1) rfl)) (has _ (List.mem_of_getElem? (i := 2) rfl)) hσ hG v3 v4 σ' (hL _ (List.mem_of_getElem? (i := 3) rfl)) (hL _ (List.mem_of_getElem? (i := 4) rfl)) hs n hn hQ⟩
        · cases hk
      · exact e_Re_codeOf a1 a2 σ K (has _ (List.mem_of_getElem? (i := 1) rfl)) (has _ (List.mem_of_getElem? (i := 2) rfl)) hσ hG
    · exact hG2.elim
theorem nvF_0 {T : Int → Int} {a : Int} {m : Int} (h : ∀ y, a ≤ y → y < m → dg (T y) = true) : ∀ k : Nat, a + k ≤ m → 0 ≤ nvF T a k := by
  intro k
  induction k with
  | zero => intro _; exact Int.le_refl _
  | succ k ih =>
    intro hk
    have a1 := ih (by omega)
    have a2 := dg_t.mp (h (a + k) (by omega) (by omega))
    show 0 ≤ 10 * nvF T a k + (T (a + k) - 48)
    omega
theorem nvF_s {T : Int → Int} {a v : Int} (h : a ≤ v) : nvF T a (v + 1 - a).toNat = 10 * nvF T a (v - a).toNat + (T v - 48) := by
  rw [show (v + 1 - a).toNat = (v - a).toNat + 1 by omega]
  show 10 * nvF T a (v - a).toNat + (T (a + ((v - a).toNat : Nat)) - 48) = _
  rw [show a + ((v - a).toNat : Nat) = v by omega]
def S_Re_readNumber : GS := fun as σ K => match as with
  | [some (.inr (.inr (3, 0))), some (.inl a1)] => ((0 ≤ σ 228 0 0 ∧ σ 228 0 0 ≤ σ 221 0 0 ∧ σ 221 0 0 ≤ 300) ∧ 0 ≤ a1 ∧ a1 ≤ 100) ∧ ∀ σ' r, Fr [(228, 0), (229, 0)] σ σ' → (nv (tpC σ) (σ 228 0 0) ≤ a1 → r = nv (tpC σ) (σ 228 0 0) ∧ 0 ≤ r ∧ σ' 229 0 = σ 229 0 ∧ σ' 228 0 0 = de (tpC σ) (σ 228 0 0) ∧ σ 228 0 0 ≤ σ' 228 0 0 ∧ σ' 228 0 0 ≤ σ 221 0 0 ∧ scI (tpC σ) dg (σ 228 0 0) (σ' 228 0 0)) → (a1 < nv (tpC σ) (σ 228 0 0) → r = -1 ∧ σ' 229 0 0 = 8 * σ 228 0 0 + 2) → K (vI r) σ'
  | _ => False
abbrev Lp_Re_readNumber_5 (a1 : Int) (σ0 : SS) (n : Nat) (L : List AV) (σ : SS) : Prop := ∃ (v2 : Int) (v3 : Int), L = [vR 3 0, vI a1, vI v2, vI v3] ∧ n = (1000 - σ 228 0 0).toNat ∧ ((Fr [(228, 0)] σ0 σ) ∧ (v2 = σ0 228 0 0 ∧ σ 228 0 0 ≤ σ0 221 0 0) ∧ (scI (tpC σ0) dg (σ0 228 0 0) (σ 228 0 0)) ∧ (v3 = min (nvF (tpC σ0) (σ0 228 0 0) (σ 228 0 0 - σ0 228 0 0).toNat) 1000))
def Iv_Re_readNumber (a1 : Int) (σ0 : SS) (k : Nat) : Option (List Nat × (Nat → List AV → SS → Prop)) := match k with
  | 5 => some ([], Lp_Re_readNumber_5 a1 σ0)
  | _ => none
def VE_Re_readNumber (a1 : Int) (σ : SS) (K : AV → SS → Prop) : Prop :=
  (∃ n', Lp_Re_readNumber_5 a1 σ n' [vR 3 0, vI a1, vI (σ 228 0 0), vI 0] σ)
def VL_Re_readNumber_5 (a1 : Int) (σ0 : SS) (K : AV → SS → Prop) (v2 : Int) (v3 : Int) (σ : SS) (n : Nat) : Prop :=
  (((σ 221 0 0) ≤ (σ 228 0 0) →
    ((v3 ≤ a1 →
      (K (vI v3) σ)) ∧
    (a1 < v3 →
      (S_Re_fail [vR 3 0, vI v2, vI 2] σ (kI fun r1 σ1 =>
        (K (vI (-1)) σ1)))))) ∧
  ((σ 228 0 0) < (σ 221 0 0) →
    (S_Re_byteAt [vR 3 0, vI (σ 228 0 0)] σ (kI fun r2 σ2 =>
      (S_Re_isDigit [vR 3 0, vI r2] σ2 (kI fun r3 σ3 =>
        ((r3 = 0 →
          ((v3 ≤ a1 →
            (K (vI v3) σ3)) ∧
          (a1 < v3 →
            (S_Re_fail [vR 3 0, vI v2, vI 2] σ3 (kI fun r4 σ4 =>
              (K (vI (-1)) σ4)))))) ∧
        (r3 ≠ 0 →
          (InR (v3 * 10) ∧
          (S_Re_byteAt [vR 3 0, vI (σ3 228 0 0)] σ3 (kI fun r5 σ5 =>
            (InR (r5 - 48) ∧
            (InR ((v3 * 10) + (r5 - 48)) ∧
            (InR ((σ5 228 0 0) + 1) ∧
            (∀ σ6 : SS, σ6 = u3 σ5 228 0 0 ((σ5 228 0 0) + 1) →
            (∃ n', n' < n ∧ Lp_Re_readNumber_5 a1 σ0 n' [vR 3 0, vI a1, vI v2, vI (min ((v3 * 10) + (r5 - 48)) 1000)] σ6))))))))))))))))
theorem l_Re_readNumber_5 (a1 : Int) (σ0 : SS) (K : AV → SS → Prop) (ha1 : InR a1) (hs0 : okS σ0) (hG : S_Re_readNumber [vR 3 0, vI a1] σ0 K) (v2 : Int) (v3 : Int) (σ : SS) (hv2 : InR v2) (hv3 : InR v3) (hs : okS σ) (n : Nat) (hn : n = (1000 - σ 228 0 0).toNat) (hQ : (Fr [(228, 0)] σ0 σ) ∧ (v2 = σ0 228 0 0 ∧ σ 228 0 0 ≤ σ0 221 0 0) ∧ (scI (tpC σ0) dg (σ0 228 0 0) (σ 228 0 0)) ∧ (v3 = min (nvF (tpC σ0) (σ0 228 0 0) (σ 228 0 0 - σ0 228 0 0).toNat) 1000)) : VL_Re_readNumber_5 a1 σ0 K v2 v3 σ n := by
  unfold VL_Re_readNumber_5
  obtain ⟨h1, hG⟩ := hG
  obtain ⟨q0, ⟨rfl, q1⟩, q2, q3⟩ := hQ
  obtain ⟨t1, t2⟩ := tp_fr q0 (by simp) (by simp)
  have q4 := q2.1
  have nb := nvF_0 (a := σ0 228 0 0) (m := σ 228 0 0) q2.2 (σ 228 0 0 - σ0 228 0 0).toNat (by omega)
  have ef : σ 229 0 = σ0 229 0 := q0 _ _ (by simp)
  have fin : dg (tpC σ0 (σ 228 0 0)) = false → (v3 ≤ a1 → K (vI v3) σ) ∧ (a1 < v3 → K (vI (-1)) (u3 σ 229 0 0 (8 * σ0 228 0 0 + 2))) := fun z => by
    have ed := scI_e q2 h1.1.1 (by omega) z
    have en : nv (tpC σ0) (σ0 228 0 0) = nvF (tpC σ0) (σ0 228 0 0) (σ 228 0 0 - σ0 228 0 0).toNat := by
      unfold nv de
      rw [ed]
    rw [← en] at q3 nb
    refine ⟨fun y => hG _ _ (Fr_mono q0 (by simp)) (fun x => ⟨by omega, by omega, ef, ed.symm, by omega, by omega, q2⟩) (fun x => by omega), fun y => hG _ _ (Fr_trans (Fr_mono q0 (by simp)) (Fr_u3 (by simp))) (fun x => by omega) (fun x => ⟨rfl, u3_s⟩)⟩
  refine ⟨fun c1 => ?_, fun c1 => ?_⟩
  · skip
    refine ⟨fun c2 => ?_, fun c2 => ?_⟩
    · skip
      exact (fin (by rw [tp_out (by omega)]; decide)).1 (by assumption)
    · skip
      refine ⟨(by first | assumption | omega | exact ⟨by first | assumption | omega, by omega⟩ | exact ⟨by assumption, by omega, by omega⟩ | exact ⟨by assumption, by omega, by omega, by omega⟩ | exact ⟨by assumption, by omega, by omega, by omega, by omega⟩ | exact ⟨by assumption, by omega, by omega, by omega, by omega, by omega⟩), ?_⟩
      intro _ _
      exact (fin (by rw [tp_out (by omega)]; decide)).2 (by assumption)
  · skip
    refine ⟨(by omega), ?_⟩
    intro _ _
    rw [t1]
    refine bS_b0 (fun p2 _ => ?_) (fun p2 _ => ?_)
    · skip
      refine ⟨(by omega), ?_⟩
      refine ⟨(by omega), ?_⟩
      intro _ _
      rw [t1]
      refine ⟨(by omega), ?_⟩
      refine ⟨(by omega), ?_⟩
      refine ⟨(by omega), ?_⟩
      refine fun σ3 e3 => ?_
      refine ⟨_, ?_, _, _, rfl, rfl, ?_⟩
      · rw [e3, u3_s]; omega
      · refine ⟨?_, ?_, ?_, ?_⟩
        · rw [e3]; exact Fr_trans q0 (Fr_u3 (by simp))
        · exact ⟨rfl, by rw [e3, u3_s]; omega⟩
        · rw [e3, u3_s]; exact scI_s q2 (dg_t.mpr p2)
        · rw [e3, u3_s, nvF_s q4]; omega
    · skip
      refine ⟨fun c3 => ?_, fun c3 => ?_⟩
      · skip
        exact (fin (dg_f.mpr p2)).1 (by assumption)
      · skip
        refine ⟨(by first | assumption | omega | exact ⟨by first | assumption | omega, by omega⟩ | exact ⟨by assumption, by omega, by omega⟩ | exact ⟨by assumption, by omega, by omega, by omega⟩ | exact ⟨by assumption, by omega, by omega, by omega, by omega⟩ | exact ⟨by assumption, by omega, by omega, by omega, by omega, by omega⟩), ?_⟩
        intro _ _
        exact (fin (dg_f.mpr p2)).2 (by assumption)
theorem e_Re_readNumber (a1 : Int) (σ : SS) (K : AV → SS → Prop) (ha1 : InR a1) (hs : okS σ) (hG : S_Re_readNumber [vR 3 0, vI a1] σ K) : VE_Re_readNumber a1 σ K := by
  unfold VE_Re_readNumber
  obtain ⟨h1, hG⟩ := hG
  refine ⟨_, _, _, rfl, rfl, ?_⟩
  refine ⟨?_, ?_, ?_, ?_⟩
  · exact Fr_refl
  · first | rfl | assumption | omega
  · exact scI_0
  · rw [show (σ 228 0 0 - σ 228 0 0).toNat = 0 by omega]; rfl
theorem H_Re_readNumber {d : Nat} (hd : 2 ≤ d) : Holds d I_Re_readNumber S_Re_readNumber := by
  refine holds_of (d' := d - 1) (rt := 1) (cal := [(I_Re_byteAt, S_Re_byteAt), (I_Re_isDigit, S_Re_isDigit), (I_Re_fail, S_Re_fail)]) (C := C_Re_readNumber) m_Re_readNumber o_Re_readNumber rfl rfl (by omega) ?_ ?_
  · intro x hx
    simp only [List.mem_cons, List.not_mem_nil, or_false] at hx
    rcases hx with rfl | rfl | rfl
    · exact H_Re_byteAt (by omega)
    · exact H_Re_isDigit (by omega)
    · exact H_Re_fail (by omega)
  · intro as σ K has hσ hG
    have hG2 := hG
    unfold S_Re_readNumber at hG2
    split at hG2
    · next a1 =>
      refine ⟨Nat.le_of_ble_eq_true rfl, (Iv_Re_readNumber a1 σ), ?_, 1000, ?_⟩
      · intro k n z L σ' hk hL hs hP
        unfold Iv_Re_readNumber at hk
        split at hk
        · cases hk
          obtain ⟨v2, v3, rfl, hn, hQ⟩ := hP
          exact ⟨1000, l_Re_readNumber_5 a1 σ K (has _ (List.mem_of_getElem? (i := 1) rfl)) hσ hG v2 v3 σ' (hL _ (List.mem_of_getElem? (i := 2) rfl)) (hL _ (List.mem_of_getElem? (i := 3) rfl)) hs n hn hQ⟩
        · cases hk
      · exact e_Re_readNumber a1 σ K (has _ (List.mem_of_getElem? (i := 1) rfl)) hσ hG
    · exact hG2.elim
def S_Re_push : GS := fun as σ K => match as with
  | [some (.inr (.inr (3, 0))), some (.inl a1)] => (0 ≤ σ 223 0 0 ∧ σ 223 0 0 < 840 ∧ 0 ≤ a1 ∧ a1 ≤ 127) ∧ K none (u3 (u3 σ 24 0 (σ 223 0 0) a1) 223 0 0 (σ 223 0 0 + 1))
  | _ => False
def VE_Re_push (a1 : Int) (σ : SS) (K : AV → SS → Prop) : Prop :=
  (((σ 223 0 0) < 0 →
    (K none σ)) ∧
  ((0 : Int) ≤ (σ 223 0 0) →
    (((840 : Int) ≤ (σ 223 0 0) →
      (K none σ)) ∧
    ((σ 223 0 0) < 840 →
      (((0 ≤ (σ 223 0 0 : Int) ∧ (σ 223 0 0 : Int) < 840) ∧ -128 ≤ (i2bI a1 : Int) ∧ (i2bI a1 : Int) ≤ 127) ∧ ∀ σ1 : SS, σ1 = u3 σ 24 0 (σ 223 0 0) (i2bI a1) →
      (InR ((σ1 223 0 0) + 1) ∧
      (∀ σ2 : SS, σ2 = u3 σ1 223 0 0 ((σ1 223 0 0) + 1) →
      (K none σ2))))))))
theorem e_Re_push (a1 : Int) (σ : SS) (K : AV → SS → Prop) (ha1 : InR a1) (hs : okS σ) (hG : S_Re_push [vR 3 0, vI a1] σ K) : VE_Re_push a1 σ K := by
  unfold VE_Re_push
  obtain ⟨h1, hG⟩ := hG
  have e : i2bI a1 = a1 := Int.bmod_eq_of_le (by omega) (by omega)
  rw [e]
  refine ⟨fun c1 => ?_, fun c1 => ?_⟩
  · skip
    exact absurd h1 (by omega)
  · skip
    refine ⟨fun c2 => ?_, fun c2 => ?_⟩
    · skip
      exact absurd h1 (by omega)
    · skip
      refine ⟨(by omega), fun σ3 e3 => ?_⟩
      have k1 : σ3 223 0 0 = σ 223 0 0 := by rw [e3, u3_f (by decide)]
      refine ⟨(by omega), ?_⟩
      refine fun σ4 e4 => ?_
      rw [k1, e3] at e4
      rw [e4]
      exact hG
theorem H_Re_push {d : Nat} (hd : 1 ≤ d) : Holds d I_Re_push S_Re_push := by
  refine holds_of (d' := d - 1) (rt := 0) (cal := []) (C := C_Re_push) m_Re_push o_Re_push rfl rfl (by omega) ?_ ?_
  · intro x hx
    cases hx
  · intro as σ K has hσ hG
    have hG2 := hG
    unfold S_Re_push at hG2
    split at hG2
    · next a1 =>
      refine ⟨Nat.le_of_ble_eq_true rfl, (fun _ => none), ?_, 1000, ?_⟩
      · intro k n z L σ' hk hL hs hP
        cases hk
      · exact e_Re_push a1 σ K (has _ (List.mem_of_getElem? (i := 1) rfl)) hσ hG
    · exact hG2.elim
def S_Re_pileAt : GS := fun as σ K => match as with
  | [some (.inr (.inr (3, 0))), some (.inl a1)] => (0 ≤ a1 ∧ a1 < 840) ∧ K (vI (σ 24 0 a1)) σ
  | _ => False
def VE_Re_pileAt (a1 : Int) (σ : SS) (K : AV → SS → Prop) : Prop :=
  ((a1 < 0 →
    (K (vI 0) σ)) ∧
  ((0 : Int) ≤ a1 →
    (((840 : Int) ≤ a1 →
      (K (vI 0) σ)) ∧
    (a1 < 840 →
      ((0 ≤ (a1 : Int) ∧ (a1 : Int) < 840) ∧
      (K (vI (σ 24 0 a1)) σ))))))
theorem e_Re_pileAt (a1 : Int) (σ : SS) (K : AV → SS → Prop) (ha1 : InR a1) (hs : okS σ) (hG : S_Re_pileAt [vR 3 0, vI a1] σ K) : VE_Re_pileAt a1 σ K := by
  unfold VE_Re_pileAt
  obtain ⟨h1, hG⟩ := hG
  refine ⟨fun c1 => ?_, fun c1 => ?_⟩
  · skip
    first | exact hG | exact absurd h1 (by omega)
  · skip
    refine ⟨fun c2 => ?_, fun c2 => ?_⟩
    · skip
      first | exact hG | exact absurd h1 (by omega)
    · skip
      refine ⟨(by omega), ?_⟩
      first | exact hG | exact absurd h1 (by omega)
theorem H_Re_pileAt {d : Nat} (hd : 1 ≤ d) : Holds d I_Re_pileAt S_Re_pileAt := by
  refine holds_of (d' := d - 1) (rt := 1) (cal := []) (C := C_Re_pileAt) m_Re_pileAt o_Re_pileAt rfl rfl (by omega) ?_ ?_
  · intro x hx
    cases hx
  · intro as σ K has hσ hG
    have hG2 := hG
    unfold S_Re_pileAt at hG2
    split at hG2
    · next a1 =>
      refine ⟨Nat.le_of_ble_eq_true rfl, (fun _ => none), ?_, 1000, ?_⟩
      · intro k n z L σ' hk hL hs hP
        cases hk
      · exact e_Re_pileAt a1 σ K (has _ (List.mem_of_getElem? (i := 1) rfl)) hσ hG
    · exact hG2.elim
def S_Re_expect : GS := fun as σ K => match as with
  | [some (.inr (.inr (3, 0))), some (.inl a1)] => (0 ≤ σ 228 0 0 ∧ σ 228 0 0 ≤ σ 221 0 0 ∧ σ 221 0 0 ≤ 300 ∧ 0 ≤ a1) ∧ ∀ σ' r, Fr [(228, 0), (229, 0)] σ σ' → (tpC σ (sk (tpC σ) (σ 228 0 0)) = a1 → r = 1 ∧ σ' 229 0 = σ 229 0 ∧ σ' 228 0 0 = sk (tpC σ) (σ 228 0 0) + 1 ∧ σ 228 0 0 < σ' 228 0 0 ∧ σ' 228 0 0 ≤ σ 221 0 0) → (tpC σ (sk (tpC σ) (σ 228 0 0)) ≠ a1 → r = 0 ∧ σ' 229 0 0 = 8 * sk (tpC σ) (σ 228 0 0) + 1) → K (vI r) σ'
  | _ => False
def VE_Re_expect (a1 : Int) (σ : SS) (K : AV → SS → Prop) : Prop :=
  (S_Re_skipBlanks [vR 3 0] σ (kV fun σ1 =>
    (S_Re_byteAt [vR 3 0, vI (σ1 228 0 0)] σ1 (kI fun r2 σ2 =>
      ((r2 = a1 →
        (InR ((σ2 228 0 0) + 1) ∧
        (∀ σ3 : SS, σ3 = u3 σ2 228 0 0 ((σ2 228 0 0) + 1) →
        ((0 ≤ (1 : Int) ∧ (1 : Int) ≤ 1) ∧ K (vI 1) σ3)))) ∧
      (r2 ≠ a1 →
        (S_Re_fail [vR 3 0, vI (σ2 228 0 0), vI 1] σ2 (kI fun r4 σ4 =>
          ((0 ≤ (r4 : Int) ∧ (r4 : Int) ≤ 1) ∧ K (vI r4) σ4)))))))))
theorem e_Re_expect (a1 : Int) (σ : SS) (K : AV → SS → Prop) (ha1 : InR a1) (hs : okS σ) (hG : S_Re_expect [vR 3 0, vI a1] σ K) : VE_Re_expect a1 σ K := by
  unfold VE_Re_expect
  obtain ⟨h1, hG⟩ := hG
  refine ⟨(by first | assumption | omega | exact ⟨by first | assumption | omega, by omega⟩ | exact ⟨by assumption, by omega, by omega⟩ | exact ⟨by assumption, by omega, by omega, by omega⟩ | exact ⟨by assumption, by omega, by omega, by omega, by omega⟩ | exact ⟨by assumption, by omega, by omega, by omega, by omega, by omega⟩), (fun σ1 h1a h1b h1c => ?_)⟩
  intro _
  have f1 := h1a
  have f2 := h1b
  have f3 := h1c
  obtain ⟨t1, t2⟩ := tp_fr f1 (by simp) (by simp)
  refine ⟨(by omega), ?_⟩
  intro _ _
  rw [t1]
  have lt : σ1 228 0 0 < σ 221 0 0 ∨ tpC σ (σ1 228 0 0) = -1 := by
    rcases (by omega : σ1 228 0 0 < σ 221 0 0 ∨ σ 221 0 0 ≤ σ1 228 0 0) with z | z
    · exact Or.inl z
    · exact Or.inr (tp_out z)
  refine ⟨fun c2 => ?_, fun c2 => ?_⟩
  · skip
    refine ⟨(by omega), ?_⟩
    refine fun σ3 e3 => ?_
    refine ⟨by omega, hG _ _ (Fr_trans (Fr_mono f1 (by simp)) (by rw [e3]; exact Fr_u3 (by simp))) (fun _ => ⟨rfl, by rw [e3, u3_F (by decide)]; exact f1 _ _ (by simp), by rw [e3, u3_s, f2], by rw [e3, u3_s]; omega, by rw [e3, u3_s]; omega⟩) (fun z => absurd (by rw [← f2]; assumption) z)⟩
  · skip
    refine ⟨(by omega), ?_⟩
    intro _ _
    refine ⟨by omega, hG _ _ (Fr_trans (Fr_mono f1 (by simp)) (Fr_u3 (by simp))) (fun z => absurd (by rw [← f2] at z; exact z) (by assumption)) (fun _ => ⟨rfl, by rw [u3_s, f2]⟩)⟩
theorem H_Re_expect {d : Nat} (hd : 3 ≤ d) : Holds d I_Re_expect S_Re_expect := by
  refine holds_of (d' := d - 1) (rt := 2) (cal := [(I_Re_skipBlanks, S_Re_skipBlanks), (I_Re_byteAt, S_Re_byteAt), (I_Re_fail, S_Re_fail)]) (C := C_Re_expect) m_Re_expect o_Re_expect rfl rfl (by omega) ?_ ?_
  · intro x hx
    simp only [List.mem_cons, List.not_mem_nil, or_false] at hx
    rcases hx with rfl | rfl | rfl
    · exact H_Re_skipBlanks (by omega)
    · exact H_Re_byteAt (by omega)
    · exact H_Re_fail (by omega)
  · intro as σ K has hσ hG
    have hG2 := hG
    unfold S_Re_expect at hG2
    split at hG2
    · next a1 =>
      refine ⟨Nat.le_of_ble_eq_true rfl, (fun _ => none), ?_, 1000, ?_⟩
      · intro k n z L σ' hk hL hs hP
        cases hk
      · exact e_Re_expect a1 σ K (has _ (List.mem_of_getElem? (i := 1) rfl)) hσ hG
    · exact hG2.elim
def okNm (c : Int) : Prop := (1 ≤ c ∧ c ≤ 19682) ∧ c ≠ 8903 ∧ c ≠ 13279 ∧ c ≠ 4619
/-- the words that are told -/
def RdN (σ : SS) (N : List (Int × PW)) : Prop := (N.length ≤ 4 ∧ σ 227 0 0 = N.length) ∧ ∀ (k : Nat) (q : Int × PW), N[k]? = some q → σ 27 0 k = q.1 ∧ σ 26 0 k = q.2.2 ∧ okNm q.1 ∧ vW q.2 ∧ q.2 = nW q.2.1 q.2.2 ∧ ∀ x, 0 ≤ x → x < q.2.2 → σ 25 0 (120 * k + x) = q.2.1 x
theorem RdN_u {σ : SS} {N N' : List (Int × PW)} (h : RdN σ N) (h' : RdN σ N') : N = N' := by
  refine List.ext_getElem? (fun k => ?_)
  have l1 := h.1.2
  have l2 := h'.1.2
  by_cases c : k < N.length
  · have c' : k < N'.length := by omega
    have e1 : N[k]? = some N[k] := List.getElem?_eq_getElem c
    have e2 : N'[k]? = some N'[k] := List.getElem?_eq_getElem c'
    rw [e1, e2]
    generalize N[k] = p at e1 ⊢
    generalize N'[k] = q at e2 ⊢
    obtain ⟨a1, a2, a3, a4, a5, a6⟩ := h.2 k p e1
    obtain ⟨b1, b2, b3, b4, b5, b6⟩ := h'.2 k q e2
    have z : p.2.2 = q.2.2 := by rw [← a2, ← b2]
    have w : p.2 = q.2 := by
      rw [a5, b5, z]
      exact nW_congr (fun x x0 x1 => by rw [← a6 x x0 (by omega), ← b6 x x0 x1])
    have y : p.1 = q.1 := by rw [← a1, ← b1]
    rw [show p = (p.1, p.2) from rfl, y, w]
  · rw [List.getElem?_eq_none (by omega), List.getElem?_eq_none (by omega)]
theorem look_no {c : Int} : ∀ N : List (Int × PW), (∀ (k : Nat) (q : Int × PW), N[k]? = some q → q.1 ≠ c) → lookN N c = none ∧ ∀ u, setN N c u = N ++ [(c, u)] := by
  intro N
  induction N with
  | nil => intro _; exact ⟨rfl, fun _ => rfl⟩
  | cons a t ih =>
    intro h
    have h0 := h 0 a rfl
    obtain ⟨i1, i2⟩ := ih (fun k q hk => h (k + 1) q hk)
    refine ⟨by unfold lookN; rw [if_neg h0]; exact i1, fun u => ?_⟩
    unfold setN
    rw [if_neg h0, i2 u]
    rfl
theorem look_at {c : Int} {q : Int × PW} (hq : q.1 = c) : ∀ (N : List (Int × PW)) (k : Nat), N[k]? = some q → (∀ (j : Nat) (p : Int × PW), j < k → N[j]? = some p → p.1 ≠ c) → lookN N c = some q.2 ∧ ∀ u, setN N c u = N.set k (c, u) := by
  intro N
  induction N with
  | nil => intro k h; simp at h
  | cons a t ih =>
    intro k h1 h2
    cases k with
    | zero =>
      have e : a = q := by simpa using h1
      subst e
      exact ⟨by unfold lookN; rw [if_pos hq], fun u => by unfold setN; rw [if_pos hq]; rfl⟩
    | succ k =>
      have h0 := h2 0 a (by omega) rfl
      obtain ⟨i1, i2⟩ := ih k (by simpa using h1) (fun j p hj hp => h2 (j + 1) p (by omega) (by simpa using hp))
      exact ⟨by unfold lookN; rw [if_neg h0]; exact i1, fun u => by unfold setN; rw [if_neg h0, i2 u]; rfl⟩
def slI (N : List (Int × PW)) (c r : Int) : Prop := (r = N.length ∧ lookN N c = none ∧ ∀ u, setN N c u = N ++ [(c, u)]) ∨ ((0 ≤ r ∧ r < N.length) ∧ ∃ q, N[r.toNat]? = some q ∧ q.1 = c ∧ lookN N c = some q.2 ∧ ∀ u, setN N c u = N.set r.toNat (c, u))
def S_Re_slotOf : GS := fun as σ K => match as with
  | [some (.inr (.inr (3, 0))), some (.inl a1)] => ∃ N, RdN σ N ∧ ∀ r, slI N a1 r → K (vI r) σ
  | _ => False
abbrev Lp_Re_slotOf_2 (a1 : Int) (σ0 : SS) (n : Nat) (L : List AV) (σ : SS) : Prop := ∃ (v2 : Int), L = [vR 3 0, vI a1, vI v2] ∧ n = (1000 - v2).toNat ∧ ((σ = σ0) ∧ (0 ≤ v2) ∧ (∀ k : Nat, (k : Int) < v2 → σ0 27 0 k ≠ a1))
def Iv_Re_slotOf (a1 : Int) (σ0 : SS) (k : Nat) : Option (List Nat × (Nat → List AV → SS → Prop)) := match k with
  | 2 => some ([], Lp_Re_slotOf_2 a1 σ0)
  | _ => none
def VE_Re_slotOf (a1 : Int) (σ : SS) (K : AV → SS → Prop) : Prop :=
  (∃ n', Lp_Re_slotOf_2 a1 σ n' [vR 3 0, vI a1, vI 0] σ)
def VL_Re_slotOf_2 (a1 : Int) (σ0 : SS) (K : AV → SS → Prop) (v2 : Int) (σ : SS) (n : Nat) : Prop :=
  (((σ 227 0 0) ≤ v2 →
    (K (vI (σ 227 0 0)) σ)) ∧
  (v2 < (σ 227 0 0) →
    (((4 : Int) ≤ v2 →
      (K (vI (σ 227 0 0)) σ)) ∧
    (v2 < 4 →
      ((0 ≤ (v2 : Int) ∧ (v2 : Int) < 4) ∧
      (((σ 27 0 v2) ≠ a1 →
        (InR (v2 + 1) ∧
        (∃ n', n' < n ∧ Lp_Re_slotOf_2 a1 σ0 n' [vR 3 0, vI a1, vI (v2 + 1)] σ))) ∧
      ((σ 27 0 v2) = a1 →
        (K (vI v2) σ))))))))
theorem l_Re_slotOf_2 (a1 : Int) (σ0 : SS) (K : AV → SS → Prop) (ha1 : InR a1) (hs0 : okS σ0) (hG : S_Re_slotOf [vR 3 0, vI a1] σ0 K) (v2 : Int) (σ : SS) (hv2 : InR v2) (hs : okS σ) (n : Nat) (hn : n = (1000 - v2).toNat) (hQ : (σ = σ0) ∧ (0 ≤ v2) ∧ (∀ k : Nat, (k : Int) < v2 → σ0 27 0 k ≠ a1)) : VL_Re_slotOf_2 a1 σ0 K v2 σ n := by
  unfold VL_Re_slotOf_2
  obtain ⟨N, hN, hG⟩ := hG
  obtain ⟨rfl, q1, q2⟩ := hQ
  have ln := hN.1
  have no : (N.length : Int) ≤ v2 → K (vI (σ 227 0 0)) σ := fun z => by
    obtain ⟨n1, n2⟩ := look_no (c := a1) N (fun k q hk => by
      have kl := (List.getElem?_eq_some_iff.mp hk).1
      have := q2 k (by omega)
      rw [(hN.2 k q hk).1] at this
      exact this)
    exact hG _ (Or.inl ⟨ln.2, n1, n2⟩)
  refine ⟨fun c1 => ?_, fun c1 => ?_⟩
  · skip
    exact no (by omega)
  · skip
    refine ⟨fun c2 => ?_, fun c2 => ?_⟩
    · skip
      exact no (by omega)
    · skip
      refine ⟨(by omega), ?_⟩
      refine ⟨fun c3 => ?_, fun c3 => ?_⟩
      · skip
        refine ⟨(by omega), ?_⟩
        refine ⟨_, ?_, _, rfl, rfl, ?_⟩
        · omega
        · refine ⟨?_, ?_, ?_⟩
          · first | rfl | assumption | omega
          · first | rfl | assumption | omega
          · intro k hk
            rcases (by omega : (k : Int) < v2 ∨ (k : Int) = v2) with z | z
            · exact q2 k z
            · rw [z]; assumption
      · skip
        have hk : v2.toNat < N.length := by omega
        have hq : N[v2.toNat]? = some N[v2.toNat] := List.getElem?_eq_getElem hk
        have h2 := hN.2 _ _ hq
        have ev : ((v2.toNat : Nat) : Int) = v2 := by omega
        have ea : (N[v2.toNat]).1 = a1 := by rw [← h2.1, ev]; assumption
        obtain ⟨n1, n2⟩ := look_at ea N v2.toNat hq (fun j p hj hp => by
          have := q2 j (by omega)
          rw [(hN.2 j p hp).1] at this
          exact this)
        exact hG _ (Or.inr ⟨by omega, _, hq, ea, n1, n2⟩)
theorem e_Re_slotOf (a1 : Int) (σ : SS) (K : AV → SS → Prop) (ha1 : InR a1) (hs : okS σ) (hG : S_Re_slotOf [vR 3 0, vI a1] σ K) : VE_Re_slotOf a1 σ K := by
  unfold VE_Re_slotOf
  obtain ⟨N, hN, hG⟩ := hG
  refine ⟨_, _, rfl, rfl, ?_⟩
  refine ⟨?_, ?_, ?_⟩
  · first | rfl | assumption | omega
  · first | rfl | assumption | omega
  · exact fun k q hk => by omega
theorem H_Re_slotOf {d : Nat} (hd : 1 ≤ d) : Holds d I_Re_slotOf S_Re_slotOf := by
  refine holds_of (d' := d - 1) (rt := 1) (cal := []) (C := C_Re_slotOf) m_Re_slotOf o_Re_slotOf rfl rfl (by omega) ?_ ?_
  · intro x hx
    cases hx
  · intro as σ K has hσ hG
    have hG2 := hG
    unfold S_Re_slotOf at hG2
    split at hG2
    · next a1 =>
      refine ⟨Nat.le_of_ble_eq_true rfl, (Iv_Re_slotOf a1 σ), ?_, 1000, ?_⟩
      · intro k n z L σ' hk hL hs hP
        unfold Iv_Re_slotOf at hk
        split at hk
        · cases hk
          obtain ⟨v2, rfl, hn, hQ⟩ := hP
          exact ⟨1000, l_Re_slotOf_2 a1 σ K (has _ (List.mem_of_getElem? (i := 1) rfl)) hσ hG v2 σ' (hL _ (List.mem_of_getElem? (i := 2) rfl)) hs n hn hQ⟩
        · cases hk
      · exact e_Re_slotOf a1 σ K (has _ (List.mem_of_getElem? (i := 1) rfl)) hσ hG
    · exact hG2.elim
/-- letters come on the pile, behind t -/
def plI (σ0 σ : SS) (t : Int) (u : PW) : Prop := (0 ≤ u.2 ∧ σ 223 0 0 = t + u.2) ∧ (∀ y, y < t → σ 24 0 y = σ0 24 0 y) ∧ ∀ x, 0 ≤ x → x < u.2 → σ 24 0 (t + x) = u.1 x ∧ 0 ≤ u.1 x ∧ u.1 x < 26
theorem pl_0 {σ : SS} : plI σ σ (σ 223 0 0) nlW := ⟨⟨Int.le_refl _, by show _ = _ + (0 : Int); omega⟩, fun _ _ => rfl, fun x x0 x1 => absurd x1 (by show ¬ x < 0; omega)⟩
theorem pl_cg {σ0 σ : SS} {t m m' : Int} {f f' : Int → Int} (h : plI σ0 σ t (nW f m)) (e : m = m') (hf : ∀ x, 0 ≤ x → x < m → f x = f' x) : plI σ0 σ t (nW f' m') := by
  subst e
  rw [← nW_congr hf]
  exact h
theorem pl_push {σ0 σ σ' : SS} {t m a : Int} {f : Int → Int} (h : plI σ0 σ t (nW f m)) (ha : 0 ≤ a ∧ a < 26) (e : u3 (u3 σ 24 0 (σ 223 0 0) a) 223 0 0 (σ 223 0 0 + 1) = σ') : plI σ0 σ' t (nW (catW f m (fun _ => a)) (m + 1)) ∧ Fr [(223, 0), (24, 0)] σ σ' ∧ σ' 223 0 0 = t + m + 1 := by
  obtain ⟨⟨h1, h2⟩, h3, h4⟩ := h
  have h1' : 0 ≤ m := h1
  have h2' : σ 223 0 0 = t + m := h2
  rw [h2'] at e
  refine ⟨⟨⟨by show 0 ≤ m + 1; omega, by show _ = t + (m + 1); rw [← e, u3_s]; omega⟩, fun y hy => ?_, fun x x0 x1 => ?_⟩, by rw [← e]; exact Fr_trans (Fr_u3 (by simp)) (Fr_u3 (by simp)), by rw [← e, u3_s]⟩
  · rw [← e, u3_f (by decide), u3_k (by omega)]
    exact h3 y hy
  · have x1' : x < m + 1 := x1
    rw [← e, u3_f (by decide), u3_e]
    show _ = atW _ _ x ∧ 0 ≤ atW _ _ x ∧ atW _ _ x < 26
    rw [atW_in x0 x1']
    unfold catW
    by_cases c : x = m
    · rw [if_pos (by omega), if_neg (by omega)]
      exact ⟨rfl, ha⟩
    · rw [if_neg (by omega), if_pos (by omega)]
      have := h4 x x0 (by show x < m; omega)
      have e2 : (nW f m).1 x = f x := atW_in x0 (by omega)
      rw [e2] at this
      exact this
