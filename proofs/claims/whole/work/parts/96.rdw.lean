/-! TEXT: the class's reader; rows within rows, by the brackets that may still be opened -/
theorem RdN_fr {σ σ' : SS} {N : List (Int × PW)} (h : RdN σ N) (f : Fr RdL σ σ') : RdN σ' N := by
  unfold RdN
  rw [f 227 0 (by simp [RdL]), f 27 0 (by simp [RdL]), f 26 0 (by simp [RdL]), f 25 0 (by simp [RdL])]
  exact h
theorem tp_rd {σ σ' : SS} (f : Fr RdL σ σ') : tpC σ' = tpC σ ∧ σ' 221 0 0 = σ 221 0 0 := tp_fr f (by simp [RdL]) (by simp [RdL])
theorem pl_cat {σ0 σ σ' : SS} {t : Int} {u v : PW} (h : plI σ0 σ t u) (h' : plI σ σ' (σ 223 0 0) v) : plI σ0 σ' t (cat u v) := by
  obtain ⟨⟨h1, h2⟩, h3, h4⟩ := h
  obtain ⟨⟨k1, k2⟩, k3, k4⟩ := h'
  rw [h2] at k2 k3 k4
  refine ⟨⟨by show 0 ≤ u.2 + v.2; omega, by show _ = t + (u.2 + v.2); omega⟩, fun y hy => by rw [k3 y (by omega), h3 y hy], fun x x0 x1 => ?_⟩
  have x1' : x < u.2 + v.2 := x1
  show _ = atW _ _ x ∧ 0 ≤ atW _ _ x ∧ atW _ _ x < 26
  rw [atW_in x0 x1']
  unfold catW
  split
  · next c => rw [k3 _ (by omega)]; exact h4 x x0 c
  · next c =>
    have := k4 (x - u.2) (by omega) (by omega)
    rwa [show t + u.2 + (x - u.2) = t + x by omega] at this
def S_Re_readInside (e : Nat) : GS := fun as σ K => match as with
  | [some (.inr (.inr (3, 0))), some (.inl a1)] => ∃ N, ((RdA σ ∧ σ 223 0 0 ≤ 120 * (a1 + 1)) ∧ (0 ≤ a1 ∧ a1 + e = 6) ∧ RdN σ N) ∧ ∀ σ' r, rdO σ σ' (pInside (tpC σ) N e (σ 228 0 0)) r → K (vI r) σ'
  | _ => False
def S_Re_readTimes (e : Nat) : GS := fun as σ K => match as with
  | [some (.inr (.inr (3, 0))), some (.inl a1), some (.inl a2)] => ∃ N, ((RdA σ ∧ σ 228 0 0 < σ 221 0 0 ∧ dg (tpC σ (σ 228 0 0)) = true) ∧ (σ 223 0 0 ≤ a2 ∧ a2 ≤ σ 223 0 0 + 120 ∧ a2 ≤ 120 * (a1 + 1)) ∧ (0 ≤ a1 ∧ a1 + e = 6) ∧ RdN σ N) ∧ ∀ σ' r, rdO σ σ' (lim (σ 228 0 0) (a2 - σ 223 0 0) (pTimes (tpC σ) (pInside (tpC σ) N e) (σ 228 0 0))) r → K (vI r) σ'
  | _ => False
def S_Re_readReversed (e : Nat) : GS := fun as σ K => match as with
  | [some (.inr (.inr (3, 0))), some (.inl a1), some (.inl a2), some (.inl a3)] => ∃ N, ((RdA σ ∧ 0 ≤ a1 ∧ a1 ≤ 300) ∧ (σ 223 0 0 ≤ a3 ∧ a3 ≤ σ 223 0 0 + 120 ∧ a3 ≤ 120 * (a2 + 1)) ∧ (0 ≤ a2 ∧ a2 + e = 6) ∧ RdN σ N) ∧ ∀ σ' r, rdO σ σ' (lim a1 (a3 - σ 223 0 0) (mapR revW (pInside (tpC σ) N e (σ 228 0 0)))) r → K (vI r) σ'
  | _ => False
def S_Re_readWord (e : Nat) : GS := fun as σ K => match as with
  | [some (.inr (.inr (3, 0))), some (.inl a1), some (.inl a2)] => ∃ N, ((RdA σ ∧ σ 228 0 0 < σ 221 0 0 ∧ sm (tpC σ (σ 228 0 0)) = true) ∧ (σ 223 0 0 ≤ a2 ∧ a2 ≤ σ 223 0 0 + 120 ∧ a2 ≤ 120 * (a1 + 1)) ∧ (0 ≤ a1 ∧ a1 + e = 6) ∧ RdN σ N) ∧ ∀ σ' r, rdO σ σ' (lim (σ 228 0 0) (a2 - σ 223 0 0) (pWord (tpC σ) N (pInside (tpC σ) N e) (σ 228 0 0))) r → K (vI r) σ'
  | _ => False
def S_Re_readItem (e : Nat) : GS := fun as σ K => match as with
  | [some (.inr (.inr (3, 0))), some (.inl a1), some (.inl a2)] => ∃ N, (RdA σ ∧ (σ 223 0 0 ≤ a2 ∧ a2 ≤ σ 223 0 0 + 120 ∧ a2 ≤ 120 * (a1 + 1)) ∧ (0 ≤ a1 ∧ a1 + e = 6) ∧ RdN σ N) ∧ ∀ σ' r, rdO σ σ' (lim (σ 228 0 0) (a2 - σ 223 0 0) (pItem (tpC σ) N (pInside (tpC σ) N e) (σ 228 0 0))) r → K (vI r) σ'
  | _ => False
def S_Re_readRow (e : Nat) : GS := fun as σ K => match as with
  | [some (.inr (.inr (3, 0))), some (.inl a1)] => ∃ N, ((RdA σ ∧ σ 223 0 0 ≤ 120 * a1) ∧ (0 ≤ a1 ∧ a1 + e = 6) ∧ RdN σ N) ∧ ∀ σ' r, rdO σ σ' (pRow (tpC σ) N e (σ 228 0 0)) r → K (vI r) σ'
  | _ => False
def S_Re_readRowB (e : Nat) : GS := match e with
  | 0 => fun _ _ _ => False
  | e + 1 => S_Re_readRow e
theorem pi_1 {T : Int → Int} {N : List (Int × PW)} {e : Nat} {a : Int} (h : T (sk T a) ≠ 40) : pInside T N e a = .inl (8 * sk T a + 1) := by
  cases e with
  | zero => exact if_pos h
  | succ e => exact if_pos h
theorem pi_4 {T : Int → Int} {N : List (Int × PW)} {a : Int} (h : T (sk T a) = 40) : pInside T N 0 a = .inl (8 * sk T a + 4) := if_neg (fun z => z h)
theorem pi_s {T : Int → Int} {N : List (Int × PW)} {e : Nat} {a : Int} (h : T (sk T a) = 40) : pInside T N (e + 1) a = match pRow T N e (sk T a + 1) with
      | .inl e => .inl e
      | .inr q => if T (sk T q.2) ≠ 41 then .inl (8 * sk T q.2 + 1) else .inr (q.1, sk T q.2 + 1) := if_neg (fun z => z h)
theorem pi_l {T : Int → Int} {N : List (Int × PW)} {e : Nat} {a x : Int} (h : T (sk T a) = 40) (h2 : pRow T N e (sk T a + 1) = .inl x) : pInside T N (e + 1) a = .inl x := by
  rw [pi_s h, h2]
theorem pi_x {T : Int → Int} {N : List (Int × PW)} {e : Nat} {a : Int} {q : PW × Int} (h : T (sk T a) = 40) (h2 : pRow T N e (sk T a + 1) = .inr q) (h3 : T (sk T q.2) ≠ 41) : pInside T N (e + 1) a = .inl (8 * sk T q.2 + 1) := by
  rw [pi_s h, h2]
  exact if_pos h3
theorem pi_r {T : Int → Int} {N : List (Int × PW)} {e : Nat} {a : Int} {q : PW × Int} (h : T (sk T a) = 40) (h2 : pRow T N e (sk T a + 1) = .inr q) (h3 : T (sk T q.2) = 41) : pInside T N (e + 1) a = .inr (q.1, sk T q.2 + 1) := by
  rw [pi_s h, h2]
  exact if_neg (fun z => z h3)
theorem tp_lt {σ : SS} (a : Int) : a < σ 221 0 0 ∨ tpC σ a = -1 := by
  rcases (by omega : a < σ 221 0 0 ∨ σ 221 0 0 ≤ a) with z | z
  · exact Or.inl z
  · exact Or.inr (tp_out z)
theorem ex_pre {σ σ' : SS} {R : PR} {r c : Int} (h : rdO σ σ' R r) (hr : r ≠ 0) (h0 : 0 ≤ σ 228 0 0) (h1 : σ 221 0 0 ≤ 300) (hc : 0 ≤ c) : 0 ≤ σ' 228 0 0 ∧ σ' 228 0 0 ≤ σ' 221 0 0 ∧ σ' 221 0 0 ≤ 300 ∧ 0 ≤ c := by
  obtain ⟨q, x1, x2, x3, ⟨x4, x5, x6⟩, x7⟩ := rdO_n h hr
  have s5 := (tp_rd h.1).2
  omega
def VE_Re_readItem (e : Nat) (a1 : Int) (a2 : Int) (σ : SS) (K : AV → SS → Prop) : Prop :=
  (S_Re_byteAt [vR 3 0, vI (σ 228 0 0)] σ (kI fun r1 σ1 =>
    ((r1 ≠ 39 →
      (S_Re_isDigit [vR 3 0, vI r1] σ1 (kI fun r2 σ2 =>
        ((r2 = 0 →
          (S_Re_isSmall [vR 3 0, vI r1] σ2 (kI fun r3 σ3 =>
            ((r3 = 0 →
              (S_Re_fail [vR 3 0, vI (σ3 228 0 0), vI 1] σ3 (kI fun r4 σ4 =>
                ((0 ≤ (r4 : Int) ∧ (r4 : Int) ≤ 1) ∧ K (vI r4) σ4)))) ∧
            (r3 ≠ 0 →
              (S_Re_readWord e [vR 3 0, vI a1, vI a2] σ3 (kI fun r5 σ5 =>
                ((0 ≤ (r5 : Int) ∧ (r5 : Int) ≤ 1) ∧ K (vI r5) σ5)))))))) ∧
        (r2 ≠ 0 →
          (S_Re_readTimes e [vR 3 0, vI a1, vI a2] σ2 (kI fun r6 σ6 =>
            ((0 ≤ (r6 : Int) ∧ (r6 : Int) ≤ 1) ∧ K (vI r6) σ6)))))))) ∧
    (r1 = 39 →
      (S_Re_readLetters [vR 3 0, vI a2] σ1 (kI fun r7 σ7 =>
        ((0 ≤ (r7 : Int) ∧ (r7 : Int) ≤ 1) ∧ K (vI r7) σ7)))))))
theorem e_Re_readItem (e : Nat) (a1 : Int) (a2 : Int) (σ : SS) (K : AV → SS → Prop) (ha1 : InR a1) (ha2 : InR a2) (hs : okS σ) (hG : S_Re_readItem e [vR 3 0, vI a1, vI a2] σ K) : VE_Re_readItem e a1 a2 σ K := by
  unfold VE_Re_readItem
  obtain ⟨N, ⟨⟨hA, hT⟩, h1, h2, hN⟩, hG⟩ := hG
  have lt := tp_lt (σ := σ) (σ 228 0 0)
  refine ⟨(by omega), ?_⟩
  intro _ _
  refine ⟨fun c1 => ?_, fun c1 => ?_⟩
  · skip
    refine bS_b0 (fun p2 _ => ?_) (fun p2 _ => ?_)
    · skip
      refine ⟨N, (by exact ⟨⟨⟨hA, hT⟩, by omega, dg_t.mpr p2⟩, h1, h2, hN⟩), (fun σ3 r3 h3a => ?_)⟩
      intro _ _
      exact ⟨rdO_01 h3a, hG _ _ (by unfold pItem; rw [if_neg c1, if_pos (dg_t.mpr p2)]; exact h3a)⟩
    · skip
      refine bS_b0 (fun p3 _ => ?_) (fun p3 _ => ?_)
      · skip
        refine ⟨N, (by exact ⟨⟨⟨hA, hT⟩, by omega, sm_t.mpr p3⟩, h1, h2, hN⟩), (fun σ4 r4 h4a => ?_)⟩
        intro _ _
        exact ⟨rdO_01 h4a, hG _ _ (by unfold pItem; rw [if_neg c1, if_neg (by rw [dg_f.mpr p2]; decide), if_pos (sm_t.mpr p3)]; exact h4a)⟩
      · skip
        refine ⟨(by omega), ?_⟩
        intro _ _
        exact ⟨by omega, hG _ _ (rdO_l (Fr_u3 (by simp [RdL])) (lim_l (by unfold pItem; rw [if_neg c1, if_neg (by rw [dg_f.mpr p2]; decide), if_neg (by rw [sm_f.mpr p3]; decide)])) u3_s)⟩
  · skip
    refine ⟨(by exact ⟨⟨⟨hA, hT⟩, by omega, c1⟩, by omega, by omega, by omega⟩), (fun σ2 r2 h2a => ?_)⟩
    intro _ _
    exact ⟨rdO_01 h2a, hG _ _ (by unfold pItem; rw [if_pos c1]; exact h2a)⟩
theorem G_Re_readItem (e : Nat) {B d : Nat} (hB : 12 ≤ B) (h_Re_readTimes : ∀ d, B + 2 ≤ d → Holds d I_Re_readTimes (S_Re_readTimes e)) (h_Re_readWord : ∀ d, B + 3 ≤ d → Holds d I_Re_readWord (S_Re_readWord e)) (hd : B + 4 ≤ d) : Holds d I_Re_readItem (S_Re_readItem e) := by
  refine holds_of (d' := d - 1) (rt := 2) (cal := [(I_Re_byteAt, S_Re_byteAt), (I_Re_readLetters, S_Re_readLetters), (I_Re_isDigit, S_Re_isDigit), (I_Re_readTimes, S_Re_readTimes e), (I_Re_isSmall, S_Re_isSmall), (I_Re_readWord, S_Re_readWord e), (I_Re_fail, S_Re_fail)]) (C := C_Re_readItem) m_Re_readItem o_Re_readItem rfl rfl (by omega) ?_ ?_
  · intro x hx
    simp only [List.mem_cons, List.not_mem_nil, or_false] at hx
    rcases hx with rfl | rfl | rfl | rfl | rfl | rfl | rfl
    · exact H_Re_byteAt (by omega)
    · exact H_Re_readLetters (by omega)
    · exact H_Re_isDigit (by omega)
    · exact h_Re_readTimes _ (by omega)
    · exact H_Re_isSmall (by omega)
    · exact h_Re_readWord _ (by omega)
    · exact H_Re_fail (by omega)
  · intro as σ K has hσ hG
    have hG2 := hG
    unfold S_Re_readItem at hG2
    split at hG2
    · next a1 a2 =>
      refine ⟨Nat.le_of_ble_eq_true rfl, (fun _ => none), ?_, 1000, ?_⟩
      · intro k n z L σ' hk hL hs hP
        cases hk
      · exact e_Re_readItem e a1 a2 σ K (has _ (List.mem_of_getElem? (i := 1) rfl)) (has _ (List.mem_of_getElem? (i := 2) rfl)) hσ hG
    · exact hG2.elim
def VE_Re_readInside (e : Nat) (a1 : Int) (σ : SS) (K : AV → SS → Prop) : Prop :=
  (S_Re_skipBlanks [vR 3 0] σ (kV fun σ1 =>
    (S_Re_byteAt [vR 3 0, vI (σ1 228 0 0)] σ1 (kI fun r2 σ2 =>
      ((r2 = 40 →
        ((a1 < 6 →
          (InR ((σ2 228 0 0) + 1) ∧
          (∀ σ3 : SS, σ3 = u3 σ2 228 0 0 ((σ2 228 0 0) + 1) →
          (InR (a1 + 1) ∧
          (S_Re_readRowB e [vR 3 0, vI (a1 + 1)] σ3 (kI fun r4 σ4 =>
            ((r4 = 0 →
              ((0 ≤ (0 : Int) ∧ (0 : Int) ≤ 1) ∧ K (vI 0) σ4)) ∧
            (r4 ≠ 0 →
              (S_Re_expect [vR 3 0, vI 41] σ4 (kI fun r5 σ5 =>
                ((r5 = 0 →
                  ((0 ≤ (0 : Int) ∧ (0 : Int) ≤ 1) ∧ K (vI 0) σ5)) ∧
                (r5 ≠ 0 →
                  ((0 ≤ (1 : Int) ∧ (1 : Int) ≤ 1) ∧ K (vI 1) σ5))))))))))))) ∧
        ((6 : Int) ≤ a1 →
          (S_Re_fail [vR 3 0, vI (σ2 228 0 0), vI 4] σ2 (kI fun r6 σ6 =>
            ((0 ≤ (r6 : Int) ∧ (r6 : Int) ≤ 1) ∧ K (vI r6) σ6)))))) ∧
      (r2 ≠ 40 →
        (S_Re_fail [vR 3 0, vI (σ2 228 0 0), vI 1] σ2 (kI fun r7 σ7 =>
          ((0 ≤ (r7 : Int) ∧ (r7 : Int) ≤ 1) ∧ K (vI r7) σ7)))))))))
theorem e_Re_readInside (e : Nat) (a1 : Int) (σ : SS) (K : AV → SS → Prop) (ha1 : InR a1) (hs : okS σ) (hG : S_Re_readInside e [vR 3 0, vI a1] σ K) : VE_Re_readInside e a1 σ K := by
  unfold VE_Re_readInside
  obtain ⟨N, ⟨⟨⟨hA, hT⟩, hL⟩, h1, hN⟩, hG⟩ := hG
  refine ⟨(by first | assumption | omega | exact ⟨by first | assumption | omega, by omega⟩ | exact ⟨by assumption, by omega, by omega⟩ | exact ⟨by assumption, by omega, by omega, by omega⟩ | exact ⟨by assumption, by omega, by omega, by omega, by omega⟩ | exact ⟨by assumption, by omega, by omega, by omega, by omega, by omega⟩), (fun σ1 h1a h1b h1c => ?_)⟩
  intro _
  have f1 := h1a
  have f2 := h1b
  have f3 := h1c
  obtain ⟨t1, t2⟩ := tp_fr f1 (by simp) (by simp)
  have tp1 : σ1 223 0 0 = σ 223 0 0 := congrFun (f1 223 0 (by simp)) 0
  have fl1 : σ1 229 0 = σ 229 0 := f1 _ _ (by simp)
  have pi1 : σ1 24 0 = σ 24 0 := f1 _ _ (by simp)
  have lt := tp_lt (σ := σ) (σ1 228 0 0)
  refine ⟨(by omega), ?_⟩
  intro _ _
  rw [t1]
  refine ⟨fun c2 => ?_, fun c2 => ?_⟩
  · skip
    refine ⟨fun c3 => ?_, fun c3 => ?_⟩
    · skip
      refine ⟨(by omega), ?_⟩
      refine fun σ4 e4 => ?_
      have f4 : Fr RdL σ σ4 := Fr_trans (Fr_mono f1 (by simp [RdL])) (by rw [e4]; exact Fr_u3 (by simp [RdL]))
      have k1 : σ4 228 0 0 = σ1 228 0 0 + 1 := by rw [e4, u3_s]
      have k2 : σ4 223 0 0 = σ 223 0 0 := by rw [e4, u3_f (by decide)]; exact tp1
      have k3 : σ4 24 0 = σ 24 0 := by rw [e4, u3_F (by decide)]; exact pi1
      have k4 : σ4 229 0 = σ 229 0 := by rw [e4, u3_F (by decide)]; exact fl1
      obtain ⟨t4, s4⟩ := tp_rd f4
      have lt2 : σ1 228 0 0 < σ 221 0 0 := by omega
      obtain ⟨e', rfl⟩ : ∃ e', e = e' + 1 := ⟨e - 1, by omega⟩
      rw [f2] at c2
      refine ⟨(by omega), ?_⟩
      refine ⟨N, (by exact ⟨⟨⟨⟨by omega, by omega, by omega⟩, by omega⟩, by omega⟩, ⟨by omega, by omega⟩, RdN_fr hN f4⟩), (fun σ5 r5 h5a => ?_)⟩
      intro _ _
      have ro := h5a
      rw [t4, k1, f2] at ro
      refine ⟨fun c6 => ?_, fun c6 => ?_⟩
      · skip
        rw [c6] at ro
        obtain ⟨ee, x1, x2⟩ := rdO_0 ro
        exact ⟨by omega, hG _ _ (rdO_l (Fr_trans f4 ro.1) (pi_l c2 x1) x2)⟩
      · skip
        refine ⟨(by exact ex_pre ro c6 (by omega) (by omega) (by omega)), (fun σ7 r7 h7a h7b h7c => ?_)⟩
        intro _ _
        obtain ⟨q, x1, ⟨x2, x2b⟩, x3, ⟨x4, x5, x6⟩, x7⟩ := rdO_n ro c6
        obtain ⟨t5, s5⟩ := tp_rd ro.1
        have fx := h7a
        have y1 := h7b
        have y2 := h7c
        rw [t5, t4, x3] at y1 y2
        have f7 : Fr RdL σ σ7 := Fr_trans f4 (Fr_trans ro.1 (Fr_mono fx (by simp [RdL])))
        refine ⟨fun c8 => ?_, fun c8 => ?_⟩
        · skip
          by_cases w : tpC σ (sk (tpC σ) q.2) = 41
          · exact absurd (y1 w).1 (by omega)
          · exact ⟨by omega, hG _ _ (rdO_l f7 (pi_x c2 x1 w) (y2 w).2)⟩
        · skip
          by_cases w : tpC σ (sk (tpC σ) q.2) = 41
          · obtain ⟨z1, z2, z3, z4, z5⟩ := y1 w
            exact ⟨by omega, hG _ _ (rdO_r f7 (pi_r c2 x1 w) (by rw [z2, x2b]; exact k4) z3 ⟨by omega, by omega⟩ x6 (pl_ba (pl_fr x7 (congrFun (fx 223 0 (by simp)) 0) (fx _ _ (by simp))) k2 k3))⟩
          · exact absurd (y2 w).1 c8
    · skip
      refine ⟨(by omega), ?_⟩
      intro _ _
      obtain rfl : e = 0 := by omega
      rw [f2] at c2
      exact ⟨by omega, hG _ _ (rdO_l (Fr_trans (Fr_mono f1 (by simp [RdL])) (Fr_u3 (by simp [RdL]))) (pi_4 c2) (by rw [u3_s, f2]))⟩
  · skip
    refine ⟨(by omega), ?_⟩
    intro _ _
    rw [f2] at c2
    exact ⟨by omega, hG _ _ (rdO_l (Fr_trans (Fr_mono f1 (by simp [RdL])) (Fr_u3 (by simp [RdL]))) (pi_1 c2) (by rw [u3_s, f2]))⟩
theorem G_Re_readInside (e : Nat) {B d : Nat} (hB : 12 ≤ B) (h_Re_readRowB : ∀ d, B + 0 ≤ d → Holds d I_Re_readRow (S_Re_readRowB e)) (hd : B + 1 ≤ d) : Holds d I_Re_readInside (S_Re_readInside e) := by
  refine holds_of (d' := d - 1) (rt := 2) (cal := [(I_Re_skipBlanks, S_Re_skipBlanks), (I_Re_byteAt, S_Re_byteAt), (I_Re_fail, S_Re_fail), (I_Re_readRow, S_Re_readRowB e), (I_Re_expect, S_Re_expect)]) (C := C_Re_readInside) m_Re_readInside o_Re_readInside rfl rfl (by omega) ?_ ?_
  · intro x hx
    simp only [List.mem_cons, List.not_mem_nil, or_false] at hx
    rcases hx with rfl | rfl | rfl | rfl | rfl
    · exact H_Re_skipBlanks (by omega)
    · exact H_Re_byteAt (by omega)
    · exact H_Re_fail (by omega)
    · exact h_Re_readRowB _ (by omega)
    · exact H_Re_expect (by omega)
  · intro as σ K has hσ hG
    have hG2 := hG
    unfold S_Re_readInside at hG2
    split at hG2
    · next a1 =>
      refine ⟨Nat.le_of_ble_eq_true rfl, (fun _ => none), ?_, 1000, ?_⟩
      · intro k n z L σ' hk hL hs hP
        cases hk
      · exact e_Re_readInside e a1 σ K (has _ (List.mem_of_getElem? (i := 1) rfl)) hσ hG
    · exact hG2.elim
theorem u_dec {v : Int} {n : Nat} (h : v ≤ 300) (hn : n = (1000 - v).toNat) : (1000 - (v + 1)).toNat < n := by omega
def rwI (e : Nat) (N : List (Int × PW)) (σ0 σ : SS) (v3 : Int) : Prop := Fr RdL σ0 σ ∧ σ 229 0 = σ0 229 0 ∧ ((σ0 228 0 0 ≤ σ 228 0 0 ∧ σ 228 0 0 ≤ σ0 221 0 0) ∧ 0 ≤ v3 ∧ v3 ≤ σ 228 0 0) ∧ ((v3 = 0 ∧ σ = σ0) ∨ ((1 ≤ v3 ∧ σ0 228 0 0 < σ 228 0 0) ∧ ∃ u : PW, pRow (tpC σ0) N e (σ0 228 0 0) = pRowF (tpC σ0) N (pInside (tpC σ0) N e) (301 - v3).toNat u (σ 228 0 0) ∧ plI σ0 σ (σ0 223 0 0) u ∧ u.2 ≤ 120))
theorem pr_1 {T : Int → Int} {N : List (Int × PW)} {e : Nat} {a : Int} : pRow T N e a = match lim (sk T a) 120 (pItem T N (pInside T N e) (sk T a)) with
  | .inl x => .inl x
  | .inr q => pRowF T N (pInside T N e) 300 q.1 q.2 := by rw [pRow_e]; rfl
theorem pr_s {T : Int → Int} {N : List (Int × PW)} {ins : Int → PR} {u : PW} {a v : Int} (hv : v ≤ 300) (hi : ib (T (sk T a)) = true) : pRowF T N ins (301 - v).toNat u a = match lim (sk T a) (120 - u.2) (pItem T N ins (sk T a)) with
    | .inl e => .inl e
    | .inr q => pRowF T N ins (301 - (v + 1)).toNat (cat u q.1) q.2 := by
  rw [show (301 - v).toNat = (301 - (v + 1)).toNat + 1 by omega]
  exact if_neg (by rw [hi]; decide)
theorem pr_n {T : Int → Int} {N : List (Int × PW)} {ins : Int → PR} {u : PW} {a v : Int} (hv : v ≤ 300) (hi : ib (T (sk T a)) = false) : pRowF T N ins (301 - v).toNat u a = .inr (u, sk T a) := by
  rw [show (301 - v).toNat = (301 - (v + 1)).toNat + 1 by omega]
  exact if_pos hi
theorem rw_top {e : Nat} {N : List (Int × PW)} {σ0 σ : SS} {v3 : Int} (h : rwI e N σ0 σ v3) : σ0 223 0 0 ≤ σ 223 0 0 ∧ σ 223 0 0 ≤ σ0 223 0 0 + 120 := by
  rcases h.2.2.2 with ⟨_, h⟩ | ⟨_, u, _, h, h2⟩
  · rw [h]; omega
  · have := h.1; omega
theorem rw_it {e : Nat} {N : List (Int × PW)} {σ0 σ σ1 σ2 : SS} {v3 r : Int} (h : rwI e N σ0 σ v3) (hv : v3 ≤ 300) (f1 : Fr [(228, 0)] σ σ1) (f2 : σ1 228 0 0 = sk (tpC σ0) (σ 228 0 0)) (f3 : σ 228 0 0 ≤ σ1 228 0 0) (hi : v3 = 0 ∨ ib (tpC σ0 (σ1 228 0 0)) = true) (ro : rdO σ1 σ2 (lim (σ1 228 0 0) (σ0 223 0 0 + 120 - σ1 223 0 0) (pItem (tpC σ0) N (pInside (tpC σ0) N e) (σ1 228 0 0))) r) : (r ≠ 0 → rwI e N σ0 σ2 (v3 + 1) ∧ σ 228 0 0 < σ2 228 0 0) ∧ (r = 0 → rdO σ0 σ2 (pRow (tpC σ0) N e (σ0 228 0 0)) 0) := by
  obtain ⟨a1, a2, ⟨⟨a3, a4⟩, a5, a6⟩, a7⟩ := h
  have fr1 : Fr RdL σ0 σ1 := Fr_trans a1 (Fr_mono f1 (by simp [RdL]))
  have fr2 : Fr RdL σ0 σ2 := Fr_trans fr1 ro.1
  have s1 := (tp_rd fr1).2
  have tp1 : σ1 223 0 0 = σ 223 0 0 := congrFun (f1 223 0 (by simp)) 0
  have pi1 : σ1 24 0 = σ 24 0 := f1 _ _ (by simp)
  have fl1 : σ1 229 0 = σ0 229 0 := (f1 _ _ (by simp)).trans a2
  rw [f2] at ro
  constructor
  · intro hr
    obtain ⟨q, x1, ⟨x2, x2b⟩, x3, ⟨x4, x5, x6⟩, x7⟩ := rdO_n ro hr
    have gt : σ 228 0 0 < σ2 228 0 0 := by omega
    have y7 : plI σ σ2 (σ 223 0 0) q.1 := pl_ba x7 tp1 pi1
    refine ⟨⟨fr2, x2b.trans fl1, ⟨by omega, by omega, by omega⟩, Or.inr ⟨by omega, ?_⟩⟩, gt⟩
    rcases a7 with ⟨b1, b2⟩ | ⟨⟨b1, b1b⟩, u, b2, b3, b4⟩
    · subst b2
      rw [tp1, show σ 223 0 0 + 120 - σ 223 0 0 = 120 by omega] at x1
      refine ⟨q.1, ?_, y7, x6⟩
      rw [pr_1, x1, x3, b1]
      rfl
    · have tu := b3.1.2
      rw [tp1, tu, show σ0 223 0 0 + 120 - (σ0 223 0 0 + u.2) = 120 - u.2 by omega] at x1
      have hib : ib (tpC σ0 (sk (tpC σ0) (σ 228 0 0))) = true := by
        rcases hi with z | z
        · omega
        · rw [← f2]; exact z
      have lq := (lim_in x1).2
      refine ⟨cat u q.1, ?_, pl_cat b3 y7, by show u.2 + q.1.2 ≤ 120; omega⟩
      rw [b2, pr_s hv hib, x1, x3]
  · intro hr
    rw [hr] at ro
    obtain ⟨ee, x1, x2⟩ := rdO_0 ro
    refine rdO_l fr2 ?_ x2
    rcases a7 with ⟨b1, b2⟩ | ⟨⟨b1, b1b⟩, u, b2, b3, b4⟩
    · subst b2
      rw [tp1, show σ 223 0 0 + 120 - σ 223 0 0 = 120 by omega] at x1
      rw [pr_1, x1]
    · have tu := b3.1.2
      rw [tp1, tu, show σ0 223 0 0 + 120 - (σ0 223 0 0 + u.2) = 120 - u.2 by omega] at x1
      have hib : ib (tpC σ0 (sk (tpC σ0) (σ 228 0 0))) = true := by
        rcases hi with z | z
        · omega
        · rw [← f2]; exact z
      rw [b2, pr_s hv hib, x1]
abbrev Lp_Re_readRow_7 (e : Nat) (a1 : Int) (σ0 : SS) (n : Nat) (L : List AV) (σ : SS) : Prop := ∃ (v2 : Int) (v3 : Int), L = [vR 3 0, vI a1, vI v2, vI v3] ∧ n = (1000 - v3).toNat ∧ ((v2 = σ0 223 0 0 + 120) ∧ (∃ N, RdN σ0 N ∧ rwI e N σ0 σ v3))
def Iv_Re_readRow (e : Nat) (a1 : Int) (σ0 : SS) (k : Nat) : Option (List Nat × (Nat → List AV → SS → Prop)) := match k with
  | 7 => some ([], Lp_Re_readRow_7 e a1 σ0)
  | _ => none
def VE_Re_readRow (e : Nat) (a1 : Int) (σ : SS) (K : AV → SS → Prop) : Prop :=
  (InR ((σ 223 0 0) + 120) ∧
  (∃ n', Lp_Re_readRow_7 e a1 σ n' [vR 3 0, vI a1, vI ((σ 223 0 0) + 120), vI 0] σ))
def VL_Re_readRow_7 (e : Nat) (a1 : Int) (σ0 : SS) (K : AV → SS → Prop) (v2 : Int) (v3 : Int) (σ : SS) (n : Nat) : Prop :=
  (((300 : Int) < v3 →
    ((0 ≤ (1 : Int) ∧ (1 : Int) ≤ 1) ∧ K (vI 1) σ)) ∧
  (v3 ≤ 300 →
    (S_Re_skipBlanks [vR 3 0] σ (kV fun σ1 =>
      ((v3 ≤ 0 →
        (S_Re_readItem e [vR 3 0, vI a1, vI v2] σ1 (kI fun r2 σ2 =>
          ((r2 ≠ 0 →
            (InR (v3 + 1) ∧
            (∃ n', n' < n ∧ Lp_Re_readRow_7 e a1 σ0 n' [vR 3 0, vI a1, vI v2, vI (v3 + 1)] σ2))) ∧
          (r2 = 0 →
            ((0 ≤ (0 : Int) ∧ (0 : Int) ≤ 1) ∧ K (vI 0) σ2)))))) ∧
      ((0 : Int) < v3 →
        (S_Re_byteAt [vR 3 0, vI (σ1 228 0 0)] σ1 (kI fun r3 σ3 =>
          (S_Re_isItemBegin [vR 3 0, vI r3] σ3 (kI fun r4 σ4 =>
            ((r4 ≠ 0 →
              (S_Re_readItem e [vR 3 0, vI a1, vI v2] σ4 (kI fun r5 σ5 =>
                ((r5 ≠ 0 →
                  (InR (v3 + 1) ∧
                  (∃ n', n' < n ∧ Lp_Re_readRow_7 e a1 σ0 n' [vR 3 0, vI a1, vI v2, vI (v3 + 1)] σ5))) ∧
                (r5 = 0 →
                  ((0 ≤ (0 : Int) ∧ (0 : Int) ≤ 1) ∧ K (vI 0) σ5)))))) ∧
            (r4 = 0 →
              ((0 ≤ (1 : Int) ∧ (1 : Int) ≤ 1) ∧ K (vI 1) σ4)))))))))))))
theorem l_Re_readRow_7 (e : Nat) (a1 : Int) (σ0 : SS) (K : AV → SS → Prop) (ha1 : InR a1) (hs0 : okS σ0) (hG : S_Re_readRow e [vR 3 0, vI a1] σ0 K) (v2 : Int) (v3 : Int) (σ : SS) (hv2 : InR v2) (hv3 : InR v3) (hs : okS σ) (n : Nat) (hn : n = (1000 - v3).toNat) (hQ : (v2 = σ0 223 0 0 + 120) ∧ (∃ N, RdN σ0 N ∧ rwI e N σ0 σ v3)) : VL_Re_readRow_7 e a1 σ0 K v2 v3 σ n := by
  unfold VL_Re_readRow_7
  obtain ⟨N, ⟨⟨⟨hA, hT⟩, hL⟩, h1, hN⟩, hG⟩ := hG
  obtain ⟨rfl, N', hN', hI⟩ := hQ
  have eN := RdN_u hN hN'
  subst eN
  have hJ := hI
  obtain ⟨a1_, a2, ⟨⟨a3, a4⟩, a5, a6⟩, a7⟩ := hJ
  have tt := rw_top hI
  obtain ⟨t0, s0⟩ := tp_rd a1_
  refine ⟨fun c1 => ?_, fun c1 => ?_⟩
  · skip
    omega
  · skip
    refine ⟨(by first | assumption | omega | exact ⟨by first | assumption | omega, by omega⟩ | exact ⟨by assumption, by omega, by omega⟩ | exact ⟨by assumption, by omega, by omega, by omega⟩ | exact ⟨by assumption, by omega, by omega, by omega, by omega⟩ | exact ⟨by assumption, by omega, by omega, by omega, by omega, by omega⟩), (fun σ2 h2a h2b h2c => ?_)⟩
    intro _
    have f1 := h2a
    have f2 := h2b
    have f3 := h2c
    rw [t0] at f2
    obtain ⟨t1, t2⟩ := tp_fr f1 (by simp) (by simp)
    have fr1 : Fr RdL σ0 σ2 := Fr_trans a1_ (Fr_mono f1 (by simp [RdL]))
    have tp1 : σ2 223 0 0 = σ 223 0 0 := congrFun (f1 223 0 (by simp)) 0
    have pi1 : σ2 24 0 = σ 24 0 := f1 _ _ (by simp)
    have fl1 : σ2 229 0 = σ0 229 0 := (f1 _ _ (by simp)).trans a2
    have gt := fun r (σx : SS) z => rw_it (r := r) (σ2 := σx) hI (by omega) f1 f2 f3.1 z
    refine ⟨fun c3 => ?_, fun c3 => ?_⟩
    · skip
      refine ⟨N, (by exact ⟨⟨⟨by omega, by omega, by omega⟩, by omega⟩, ⟨by omega, by omega, by omega⟩, h1, RdN_fr hN fr1⟩), (fun σ4 r4 h4a => ?_)⟩
      intro _ _
      have ro := h4a
      rw [t1, t0] at ro
      refine ⟨fun c5 => ?_, fun c5 => ?_⟩
      · skip
        refine ⟨(by omega), ?_⟩
        refine ⟨_, ?_, _, _, rfl, rfl, ?_⟩
        · exact u_dec (by assumption) hn
        · refine ⟨?_, ?_⟩
          · first | rfl | assumption | omega
          · exact ⟨N, hN, ((gt _ _ (Or.inl (by omega)) ro).1 c5).1⟩
      · skip
        exact ⟨by omega, hG _ _ ((gt _ _ (Or.inl (by omega)) ro).2 c5)⟩
    · skip
      refine ⟨(by omega), ?_⟩
      intro _ _
      rw [t1, t0]
      refine bS_b1 (fun p4 _ => ?_) (fun p4 _ => ?_)
      · skip
        refine ⟨N, (by exact ⟨⟨⟨by omega, by omega, by omega⟩, by omega⟩, ⟨by omega, by omega, by omega⟩, h1, RdN_fr hN fr1⟩), (fun σ5 r5 h5a => ?_)⟩
        intro _ _
        have ro := h5a
        rw [t1, t0] at ro
        refine ⟨fun c6 => ?_, fun c6 => ?_⟩
        · skip
          refine ⟨(by omega), ?_⟩
          refine ⟨_, ?_, _, _, rfl, rfl, ?_⟩
          · exact u_dec (by assumption) hn
          · refine ⟨?_, ?_⟩
            · first | rfl | assumption | omega
            · exact ⟨N, hN, ((gt _ _ (Or.inr (ib_t.mpr p4)) ro).1 c6).1⟩
        · skip
          exact ⟨by omega, hG _ _ ((gt _ _ (Or.inr (ib_t.mpr p4)) ro).2 c6)⟩
      · skip
        rcases a7 with ⟨b1, _⟩ | ⟨⟨b1, b1b⟩, u, b2, b3, b4⟩
        · omega
        · exact ⟨by omega, hG _ _ (rdO_r fr1 (by rw [b2, pr_n (by omega) (by rw [← f2]; exact ib_f.mpr p4)]) fl1 f2 ⟨by omega, by omega⟩ b4 (pl_fr b3 tp1 pi1))⟩
theorem e_Re_readRow (e : Nat) (a1 : Int) (σ : SS) (K : AV → SS → Prop) (ha1 : InR a1) (hs : okS σ) (hG : S_Re_readRow e [vR 3 0, vI a1] σ K) : VE_Re_readRow e a1 σ K := by
  unfold VE_Re_readRow
  obtain ⟨N, ⟨⟨⟨hA, hT⟩, hL⟩, h1, hN⟩, hG⟩ := hG
  refine ⟨(by omega), ?_⟩
  refine ⟨_, _, _, rfl, rfl, ?_⟩
  refine ⟨?_, ?_⟩
  · rfl
  · exact ⟨N, hN, Fr_refl, rfl, ⟨⟨by omega, by omega⟩, by omega, by omega⟩, Or.inl ⟨rfl, rfl⟩⟩
theorem G_Re_readRow (e : Nat) {B d : Nat} (hB : 12 ≤ B) (h_Re_readItem : ∀ d, B + 4 ≤ d → Holds d I_Re_readItem (S_Re_readItem e)) (hd : B + 5 ≤ d) : Holds d I_Re_readRow (S_Re_readRow e) := by
  refine holds_of (d' := d - 1) (rt := 2) (cal := [(I_Re_skipBlanks, S_Re_skipBlanks), (I_Re_byteAt, S_Re_byteAt), (I_Re_isItemBegin, S_Re_isItemBegin), (I_Re_readItem, S_Re_readItem e)]) (C := C_Re_readRow) m_Re_readRow o_Re_readRow rfl rfl (by omega) ?_ ?_
  · intro x hx
    simp only [List.mem_cons, List.not_mem_nil, or_false] at hx
    rcases hx with rfl | rfl | rfl | rfl
    · exact H_Re_skipBlanks (by omega)
    · exact H_Re_byteAt (by omega)
    · exact H_Re_isItemBegin (by omega)
    · exact h_Re_readItem _ (by omega)
  · intro as σ K has hσ hG
    have hG2 := hG
    unfold S_Re_readRow at hG2
    split at hG2
    · next a1 =>
      refine ⟨Nat.le_of_ble_eq_true rfl, (Iv_Re_readRow e a1 σ), ?_, 1000, ?_⟩
      · intro k n z L σ' hk hL hs hP
        unfold Iv_Re_readRow at hk
        split at hk
        · cases hk
          obtain ⟨v2, v3, rfl, hn, hQ⟩ := hP
          exact ⟨1000, l_Re_readRow_7 e a1 σ K (has _ (List.mem_of_getElem? (i := 1) rfl)) hσ hG v2 v3 σ' (hL _ (List.mem_of_getElem? (i := 2) rfl)) (hL _ (List.mem_of_getElem? (i := 3) rfl)) hs n hn hQ⟩
        · cases hk
      · exact e_Re_readRow e a1 σ K (has _ (List.mem_of_getElem? (i := 1) rfl)) hσ hG
    · exact hG2.elim
