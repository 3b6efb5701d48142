/-! TEXT: the reference's reader; letters, fib, morse -/
def RmL : List (Nat × Nat) := [(597, 0), (598, 0), (599, 0), (50, 0), (601, 0), (602, 0), (608, 0), (609, 0)]
def rmO (B : Int) (σ σ' : SS) (R : PR) (r : Int) : Prop := Fr RmL σ σ' ∧ (∀ e, R = .inl e → r = 0 ∧ σ' 598 0 0 = e) ∧ (∀ q, R = .inr q → (r = 1 ∧ σ' 602 0 0 = σ 602 0 0) ∧ σ' 597 0 0 = q.2 ∧ (σ 597 0 0 < q.2 ∧ q.2 ≤ σ 596 0 0 ∧ q.1.2 ≤ B) ∧ pmI σ σ' (σ 601 0 0) q.1)
theorem rmO_l {B : Int} {σ σ' : SS} {R : PR} {e : Int} (f : Fr RmL σ σ') (h : R = .inl e) (he : σ' 598 0 0 = e) : rmO B σ σ' R 0 :=
  ⟨f, (fun e' h' => ⟨rfl, by rw [h] at h'; cases h'; exact he⟩), fun q h' => by rw [h] at h'; cases h'⟩
theorem rmO_r {B : Int} {σ σ' : SS} {R : PR} {u : PW} {c : Int} (f : Fr RmL σ σ') (h : R = .inr (u, c)) (h1 : σ' 602 0 0 = σ 602 0 0) (h2 : σ' 597 0 0 = c) (h3 : σ 597 0 0 < c ∧ c ≤ σ 596 0 0) (h4 : u.2 ≤ B) (h5 : pmI σ σ' (σ 601 0 0) u) : rmO B σ σ' R 1 :=
  ⟨f, (fun e' h' => by rw [h] at h'; cases h'), fun q h' => by rw [h] at h'; cases h'; exact ⟨⟨rfl, h1⟩, h2, ⟨h3.1, h3.2, h4⟩, h5⟩⟩
theorem rmO_01 {B : Int} {σ σ' : SS} {R : PR} {r : Int} (h : rmO B σ σ' R r) : 0 ≤ r ∧ r ≤ 1 := by
  cases e : R with
  | inl e' => have := (h.2.1 e' e).1; omega
  | inr q => have := (h.2.2 q e).1.1; omega
theorem rmO_0 {B : Int} {σ σ' : SS} {R : PR} (h : rmO B σ σ' R 0) : ∃ e, R = .inl e ∧ σ' 598 0 0 = e := by
  cases e : R with
  | inl e' => exact ⟨e', rfl, (h.2.1 e' e).2⟩
  | inr q => exact absurd (h.2.2 q e).1.1 (by decide)
theorem rmO_n {B : Int} {σ σ' : SS} {R : PR} {r : Int} (h : rmO B σ σ' R r) (hr : r ≠ 0) : ∃ q, R = .inr q ∧ (r = 1 ∧ σ' 602 0 0 = σ 602 0 0) ∧ σ' 597 0 0 = q.2 ∧ (σ 597 0 0 < q.2 ∧ q.2 ≤ σ 596 0 0 ∧ q.1.2 ≤ B) ∧ pmI σ σ' (σ 601 0 0) q.1 := by
  cases e : R with
  | inl e' => exact absurd (h.2.1 e' e).1 hr
  | inr q => exact ⟨q, rfl, h.2.2 q e⟩
theorem rmO_mo {B C : Int} {σ σ' : SS} {R : PR} {r : Int} (h : rmO B σ σ' R r) (hB : B ≤ C) : rmO C σ σ' R r :=
  ⟨h.1, h.2.1, fun q hq => ⟨(h.2.2 q hq).1, (h.2.2 q hq).2.1, ⟨(h.2.2 q hq).2.2.1.1, (h.2.2 q hq).2.2.1.2.1, Int.le_trans (h.2.2 q hq).2.2.1.2.2 hB⟩, (h.2.2 q hq).2.2.2⟩⟩
theorem tm_rd {σ σ' : SS} (f : Fr RmL σ σ') : tpM σ' = tpM σ ∧ σ' 596 0 0 = σ 596 0 0 := tm_fr f (by simp [RmL]) (by simp [RmL])
theorem RdM_fr {σ σ' : SS} {N : List (Int × PW)} (h : RdM σ N) (f : Fr RmL σ σ') : RdM σ' N := by
  unfold RdM
  rw [f 607 0 (by simp [RmL]), f 51 0 (by simp [RmL]), f 53 0 (by simp [RmL]), f 54 0 (by simp [RmL])]
  exact h
def RmA (σ : SS) : Prop := (0 ≤ σ 597 0 0 ∧ σ 597 0 0 ≤ σ 596 0 0 ∧ σ 596 0 0 ≤ 300) ∧ 0 ≤ σ 601 0 0
/-- the state came by a frame, the spot moved on -/
theorem rmO_up {B : Int} {σ σ3 σ4 : SS} {R : PR} {r : Int} (f : Fr RmL σ σ3) (ha : σ 597 0 0 ≤ σ3 597 0 0) (ho : σ3 602 0 0 = σ 602 0 0) (ht : σ3 601 0 0 = σ 601 0 0) (hr : σ3 50 0 = σ 50 0) (h : rmO B σ3 σ4 R r) : rmO B σ σ4 R r := by
  obtain ⟨h1, h2, h3⟩ := h
  have s3 := (tm_rd f).2
  refine ⟨Fr_trans f h1, h2, fun q hq => ?_⟩
  obtain ⟨⟨x2, x2b⟩, x3, ⟨x4, x5, x6⟩, x7⟩ := h3 q hq
  exact ⟨⟨x2, x2b.trans ho⟩, x3, ⟨by omega, by omega, x6⟩, pm_ba x7 ht hr⟩
def S_Mo_readsLetters : GS := fun as σ K => match as with
  | [some (.inr (.inr (12, 0)))] => (RmA σ ∧ σ 597 0 0 < σ 596 0 0 ∧ tpM σ (σ 597 0 0) = 39 ∧ σ 601 0 0 ≤ 900) ∧ ∀ σ' r, rmO 300 σ σ' (pLet1 (tpM σ) (σ 597 0 0)) r → K (vI r) σ'
  | _ => False
abbrev Lp_Mo_readsLetters_9 (σ0 : SS) (n : Nat) (L : List AV) (σ : SS) : Prop := ∃ (v1 : Int), L = [vR 12 0, vI v1] ∧ n = (1000 - σ 597 0 0).toNat ∧ ((Fr [(597, 0), (601, 0), (50, 0)] σ0 σ) ∧ (v1 = σ0 597 0 0 + 1 ∧ v1 ≤ σ 597 0 0 ∧ σ 597 0 0 ≤ σ0 596 0 0) ∧ (scI (tpM σ0) sm (σ0 597 0 0 + 1) (σ 597 0 0)) ∧ (pmI σ0 σ (σ0 601 0 0) (nW (fun x => tpM σ0 (σ0 597 0 0 + 1 + x) - 97) (σ 597 0 0 - σ0 597 0 0 - 1))))
def Iv_Mo_readsLetters (σ0 : SS) (k : Nat) : Option (List Nat × (Nat → List AV → SS → Prop)) := match k with
  | 9 => some ([], Lp_Mo_readsLetters_9 σ0)
  | _ => none
def VE_Mo_readsLetters (σ : SS) (K : AV → SS → Prop) : Prop :=
  (InR ((σ 597 0 0) + 1) ∧
  (∀ σ1 : SS, σ1 = u3 σ 597 0 0 ((σ 597 0 0) + 1) →
  (∃ n', Lp_Mo_readsLetters_9 σ n' [vR 12 0, vI (σ1 597 0 0)] σ1)))
def VL_Mo_readsLetters_9 (σ0 : SS) (K : AV → SS → Prop) (v1 : Int) (σ : SS) (n : Nat) : Prop :=
  (S_Mo_byteAt [vR 12 0, vI (σ 597 0 0)] σ (kI fun r1 σ1 =>
    (S_Mo_isSmall [vI r1] σ1 (kI fun r2 σ2 =>
      ((r2 = 0 →
        (((σ2 597 0 0) = v1 →
          (S_Mo_fails [vR 12 0, vI 1, vI (σ2 597 0 0)] σ2 (kI fun r3 σ3 =>
            ((0 ≤ (r3 : Int) ∧ (r3 : Int) ≤ 1) ∧ K (vI r3) σ3)))) ∧
        ((σ2 597 0 0) ≠ v1 →
          (S_Mo_byteAt [vR 12 0, vI (σ2 597 0 0)] σ2 (kI fun r4 σ4 =>
            ((r4 = 39 →
              (InR ((σ4 597 0 0) + 1) ∧
              (∀ σ5 : SS, σ5 = u3 σ4 597 0 0 ((σ4 597 0 0) + 1) →
              ((0 ≤ (1 : Int) ∧ (1 : Int) ≤ 1) ∧ K (vI 1) σ5)))) ∧
            (r4 ≠ 39 →
              (S_Mo_fails [vR 12 0, vI 1, vI (σ4 597 0 0)] σ4 (kI fun r6 σ6 =>
                ((0 ≤ (r6 : Int) ∧ (r6 : Int) ≤ 1) ∧ K (vI r6) σ6)))))))))) ∧
      (r2 ≠ 0 →
        (S_Mo_byteAt [vR 12 0, vI (σ2 597 0 0)] σ2 (kI fun r7 σ7 =>
          (InR (r7 - 97) ∧
          (S_Mo_comes [vR 12 0, vI (r7 - 97)] σ7 (kV fun σ8 =>
            (InR ((σ8 597 0 0) + 1) ∧
            (∀ σ9 : SS, σ9 = u3 σ8 597 0 0 ((σ8 597 0 0) + 1) →
            (∃ n', n' < n ∧ Lp_Mo_readsLetters_9 σ0 n' [vR 12 0, vI v1] σ9))))))))))))))
theorem l_Mo_readsLetters_9 (σ0 : SS) (K : AV → SS → Prop) (hs0 : okS σ0) (hG : S_Mo_readsLetters [vR 12 0] σ0 K) (v1 : Int) (σ : SS) (hv1 : InR v1) (hs : okS σ) (n : Nat) (hn : n = (1000 - σ 597 0 0).toNat) (hQ : (Fr [(597, 0), (601, 0), (50, 0)] σ0 σ) ∧ (v1 = σ0 597 0 0 + 1 ∧ v1 ≤ σ 597 0 0 ∧ σ 597 0 0 ≤ σ0 596 0 0) ∧ (scI (tpM σ0) sm (σ0 597 0 0 + 1) (σ 597 0 0)) ∧ (pmI σ0 σ (σ0 601 0 0) (nW (fun x => tpM σ0 (σ0 597 0 0 + 1 + x) - 97) (σ 597 0 0 - σ0 597 0 0 - 1)))) : VL_Mo_readsLetters_9 σ0 K v1 σ n := by
  unfold VL_Mo_readsLetters_9
  obtain ⟨⟨⟨hA, hT⟩, h1, h2, h3⟩, hG⟩ := hG
  obtain ⟨q0, ⟨q1, q2, q3⟩, q4, q5⟩ := hQ
  obtain ⟨t1, t2⟩ := tm_fr q0 (by simp) (by simp)
  have pn := pm_n q5
  have lt := tm_lt (σ := σ0) (σ 597 0 0)
  have fr := Fr_mono (l' := RmL) q0 (by simp [RmL])
  have op : σ 602 0 0 = σ0 602 0 0 := congrFun (q0 602 0 (by simp)) 0
  have fin : sm (tpM σ0 (σ 597 0 0)) = false → we (tpM σ0) (σ0 597 0 0 + 1) = σ 597 0 0 := fun z => scI_e q4 (by omega) (by omega) z
  refine ⟨(by omega), ?_⟩
  intro _ _
  rw [t1]
  refine bS_b0 (fun p1 _ => ?_) (fun p1 _ => ?_)
  · skip
    refine ⟨(by omega), ?_⟩
    intro _ _
    rw [t1]
    refine ⟨(by omega), ?_⟩
    refine ⟨(by omega), ?_⟩
    intro _
    generalize hτ : u3 (u3 _ 50 0 _ _) 601 0 0 _ = τ
    obtain ⟨g, dd, tt⟩ := pm_more q5 (by rw [show σ0 597 0 0 + 1 + (σ 597 0 0 - σ0 597 0 0 - 1) = σ 597 0 0 by omega]) (by omega) hτ
    have ks : τ 597 0 0 = σ 597 0 0 := congrFun (dd 597 0 (by simp)) 0
    refine ⟨(by omega), ?_⟩
    refine fun σ2 e2 => ?_
    refine ⟨_, ?_, _, rfl, rfl, ?_⟩
    · rw [e2, u3_s]; omega
    · refine ⟨?_, ?_, ?_, ?_⟩
      · rw [e2]; exact Fr_trans q0 (Fr_trans (Fr_mono dd (by simp)) (Fr_u3 (by simp)))
      · rw [e2, u3_s]; omega
      · rw [e2, u3_s, ks]; exact scI_s q4 (sm_t.mpr p1)
      · exact pm_cg (pm_fr g (by rw [e2, u3_f (by decide)]) (by rw [e2, u3_F (by decide)])) (by rw [e2, u3_s]; omega) (fun _ _ _ => rfl)
  · skip
    refine ⟨fun c2 => ?_, fun c2 => ?_⟩
    · skip
      refine ⟨(by omega), ?_⟩
      intro _ _
      have ew := fin (sm_f.mpr p1)
      exact ⟨by omega, hG _ _ (rmO_l (Fr_trans fr (Fr_u3 (by simp [RmL]))) (by unfold pLet1; rw [ew, if_pos (Or.inl (by omega))]) u3_s)⟩
    · skip
      refine ⟨(by omega), ?_⟩
      intro _ _
      rw [t1]
      refine ⟨fun c3 => ?_, fun c3 => ?_⟩
      · skip
        refine ⟨(by omega), ?_⟩
        refine fun σ4 e4 => ?_
        have ew := fin (sm_f.mpr p1)
        have lt2 : σ 597 0 0 < σ0 596 0 0 := by omega
        exact ⟨by omega, hG _ _ (rmO_r (Fr_trans fr (by rw [e4]; exact Fr_u3 (by simp [RmL]))) (by unfold pLet1; rw [ew, if_neg (fun z => by omega)]) (by rw [e4, u3_f (by decide)]; exact op) (by rw [e4, u3_s]) ⟨by omega, by omega⟩ (by show σ 597 0 0 - σ0 597 0 0 - 1 ≤ 300; omega) (pm_fr q5 (by rw [e4, u3_f (by decide)]) (by rw [e4, u3_F (by decide)])))⟩
      · skip
        refine ⟨(by omega), ?_⟩
        intro _ _
        have ew := fin (sm_f.mpr p1)
        exact ⟨by omega, hG _ _ (rmO_l (Fr_trans fr (Fr_u3 (by simp [RmL]))) (by unfold pLet1; rw [ew, if_pos (Or.inr (by assumption))]) u3_s)⟩
theorem e_Mo_readsLetters (σ : SS) (K : AV → SS → Prop) (hs : okS σ) (hG : S_Mo_readsLetters [vR 12 0] σ K) : VE_Mo_readsLetters σ K := by
  unfold VE_Mo_readsLetters
  obtain ⟨⟨⟨hA, hT⟩, h1, h2, h3⟩, hG⟩ := hG
  refine ⟨(by omega), ?_⟩
  refine fun σ1 e1 => ?_
  refine ⟨_, _, rfl, rfl, ?_⟩
  refine ⟨?_, ?_, ?_, ?_⟩
  · rw [e1]; exact Fr_u3 (by simp)
  · rw [e1, u3_s]; omega
  · rw [e1, u3_s]; exact scI_0
  · exact pm_cg (pm_fr pm_e (by rw [e1, u3_f (by decide)]) (by rw [e1, u3_F (by decide)])) (by rw [e1, u3_s]; omega) (fun _ _ _ => rfl)
theorem H_Mo_readsLetters {d : Nat} (hd : 3 ≤ d) : Holds d I_Mo_readsLetters S_Mo_readsLetters := by
  refine holds_of (d' := d - 1) (rt := 2) (cal := [(I_Mo_byteAt, S_Mo_byteAt), (I_Mo_isSmall, S_Mo_isSmall), (I_Mo_comes, S_Mo_comes), (I_Mo_fails, S_Mo_fails)]) (C := C_Mo_readsLetters) m_Mo_readsLetters o_Mo_readsLetters rfl rfl (by omega) ?_ ?_
  · intro x hx
    simp only [List.mem_cons, List.not_mem_nil, or_false] at hx
    rcases hx with rfl | rfl | rfl | rfl
    · exact H_Mo_byteAt (by omega)
    · exact H_Mo_isSmall (by omega)
    · exact H_Mo_comes (by omega)
    · exact H_Mo_fails (by omega)
  · intro as σ K has hσ hG
    have hG2 := hG
    unfold S_Mo_readsLetters at hG2
    split at hG2
    · skip
      refine ⟨Nat.le_of_ble_eq_true rfl, (Iv_Mo_readsLetters σ), ?_, 1000, ?_⟩
      · intro k n z L σ' hk hL hs hP
        unfold Iv_Mo_readsLetters at hk
        split at hk
        · cases hk
          obtain ⟨v1, rfl, hn, hQ⟩ := hP
          exact ⟨1000, l_Mo_readsLetters_9 σ K  hσ hG v1 σ' (hL _ (List.mem_of_getElem? (i := 1) rfl)) hs n hn hQ⟩
        · cases hk
      · exact e_Mo_readsLetters σ K  hσ hG
    · exact hG2.elim
def S_Mo_fib (e : Nat) : GS := fun as σ K => match as with
  | [some (.inr (.inr (12, 0))), some (.inl a1)] => ((0 ≤ a1 ∧ a1 ≤ 20 ∧ a1 ≤ e) ∧ 0 ≤ σ 601 0 0 ∧ σ 601 0 0 + fbN a1.toNat ≤ 50000) ∧ ∀ σ', Fr [(601, 0), (50, 0)] σ σ' → pmI σ σ' (σ 601 0 0) (fibW a1) → K none σ'
  | _ => False
def S_Mo_fibB (e : Nat) : GS := match e with
  | 0 => fun _ _ _ => False
  | e + 1 => S_Mo_fib e
theorem fib_cat {σ σ1 σ2 : SS} {v : Int} (hv : 2 ≤ v) (h1 : pmI σ σ1 (σ 601 0 0) (fibW (v - 1))) (h2 : pmI σ1 σ2 (σ1 601 0 0) (fibW (v - 2))) : pmI σ σ2 (σ 601 0 0) (fibW v) := by
  obtain ⟨k, rfl⟩ : ∃ k : Nat, v = (k : Int) + 2 := ⟨(v - 2).toNat, by omega⟩
  have h := pm_cat h1 h2
  rw [show (k : Int) + 2 - 1 = (k : Int) + 1 by omega, show (k : Int) + 2 - 2 = (k : Int) by omega] at h
  unfold fibW at h ⊢
  rw [show ((k : Int) + 1).toNat = k + 1 by omega, show (k : Int).toNat = k by omega] at h
  rw [show ((k : Int) + 2).toNat = k + 2 by omega]
  refine pm_cg (f := catW (nW (fbF (k + 1)) (fbN (k + 1))).1 (fbN (k + 1)) (nW (fbF k) (fbN k)).1) (m := fbN (k + 1) + fbN k) h rfl (fun x x0 x1 => ?_)
  show _ = if x < fbN (k + 1) then fbF (k + 1) x else fbF k (x - fbN (k + 1))
  unfold catW
  split
  · exact atW_in x0 (by assumption)
  · exact atW_in (by omega) (by omega)
theorem fib_1 {v x : Int} (h : 0 ≤ v ∧ v < 2) (x0 : 0 ≤ x) (x1 : x < 1) : 1 - v = fbF v.toNat x := by
  rw [show x = 0 by omega]
  rcases (by omega : v = 0 ∨ v = 1) with rfl | rfl <;> decide
def VE_Mo_fib (e : Nat) (a1 : Int) (σ : SS) (K : AV → SS → Prop) : Prop :=
  (((2 : Int) ≤ a1 →
    (InR (a1 - 1) ∧
    (S_Mo_fibB e [vR 12 0, vI (a1 - 1)] σ (kV fun σ1 =>
      (InR (a1 - 2) ∧
      (S_Mo_fibB e [vR 12 0, vI (a1 - 2)] σ1 (kV fun σ2 =>
        (K none σ2)))))))) ∧
  (a1 < 2 →
    (InR (1 - a1) ∧
    (S_Mo_comes [vR 12 0, vI (1 - a1)] σ (kV fun σ3 =>
      (K none σ3))))))
theorem e_Mo_fib (e : Nat) (a1 : Int) (σ : SS) (K : AV → SS → Prop) (ha1 : InR a1) (hs : okS σ) (hG : S_Mo_fib e [vR 12 0, vI a1] σ K) : VE_Mo_fib e a1 σ K := by
  unfold VE_Mo_fib
  obtain ⟨⟨⟨h1, h2, h3⟩, h4, h5⟩, hG⟩ := hG
  have fb := fbN_le a1.toNat
  refine ⟨fun c1 => ?_, fun c1 => ?_⟩
  · skip
    obtain ⟨e', rfl⟩ : ∃ e', e = e' + 1 := ⟨e - 1, by omega⟩
    have fs : fbN a1.toNat = fbN (a1 - 1).toNat + fbN (a1 - 2).toNat := by
      obtain ⟨k, rfl⟩ : ∃ k : Nat, a1 = (k : Int) + 2 := ⟨(a1 - 2).toNat, by omega⟩
      rw [show ((k : Int) + 2).toNat = k + 2 by omega, show ((k : Int) + 2 - 1).toNat = k + 1 by omega, show ((k : Int) + 2 - 2).toNat = k by omega]
      rfl
    have f1 := fbN_le (a1 - 1).toNat
    have f2 := fbN_le (a1 - 2).toNat
    refine ⟨(by omega), ?_⟩
    refine ⟨(by first | exact ⟨⟨by omega, by omega, by omega⟩, by omega, by omega⟩ | (have tt : σ2 601 0 0 = σ 601 0 0 + fbN (a1 - 1).toNat := h2b.1.2; exact ⟨⟨by omega, by omega, by omega⟩, by omega, by omega⟩)), (fun σ2 h2a h2b => ?_)⟩
    intro _
    refine ⟨(by omega), ?_⟩
    refine ⟨(by first | exact ⟨⟨by omega, by omega, by omega⟩, by omega, by omega⟩ | (have tt : σ2 601 0 0 = σ 601 0 0 + fbN (a1 - 1).toNat := h2b.1.2; exact ⟨⟨by omega, by omega, by omega⟩, by omega, by omega⟩)), (fun σ3 h3a h3b => ?_)⟩
    intro _
    exact hG _ (Fr_trans h2a h3a) (fib_cat (by omega) h2b h3b)
  · skip
    refine ⟨(by omega), ?_⟩
    refine ⟨(by omega), ?_⟩
    intro _
    generalize hτ : u3 (u3 _ 50 0 _ _) 601 0 0 _ = τ
    have g : pmI σ σ (σ 601 0 0) (nW (fun _ => 0) 0) := pm_e
    obtain ⟨p1, p2, p3⟩ := pm_push g (by omega) hτ
    exact hG _ p2 (pm_cg (f' := fbF a1.toNat) (m' := fbN a1.toNat) p1 (by rcases (by omega : a1 = 0 ∨ a1 = 1) with rfl | rfl <;> decide) (fun x x0 x1 => by
      have x1' : x < 1 := by omega
      unfold catW
      rw [if_neg (by omega)]
      exact fib_1 ⟨by omega, by omega⟩ x0 x1'))
theorem G_Mo_fib (e : Nat) {B d : Nat} (hB : 12 ≤ B) (h_Mo_fibB : ∀ d, B + 0 ≤ d → Holds d I_Mo_fib (S_Mo_fibB e)) (hd : B + 1 ≤ d) : Holds d I_Mo_fib (S_Mo_fib e) := by
  refine holds_of (d' := d - 1) (rt := 0) (cal := [(I_Mo_comes, S_Mo_comes), (I_Mo_fib, S_Mo_fibB e)]) (C := C_Mo_fib) m_Mo_fib o_Mo_fib rfl rfl (by omega) ?_ ?_
  · intro x hx
    simp only [List.mem_cons, List.not_mem_nil, or_false] at hx
    rcases hx with rfl | rfl
    · exact H_Mo_comes (by omega)
    · exact h_Mo_fibB _ (by omega)
  · intro as σ K has hσ hG
    have hG2 := hG
    unfold S_Mo_fib at hG2
    split at hG2
    · next a1 =>
      refine ⟨Nat.le_of_ble_eq_true rfl, (fun _ => none), ?_, 1000, ?_⟩
      · intro k n z L σ' hk hL hs hP
        cases hk
      · exact e_Mo_fib e a1 σ K (has _ (List.mem_of_getElem? (i := 1) rfl)) hσ hG
    · exact hG2.elim
theorem H_Mo_fib_all : ∀ (e d : Nat), 13 + e ≤ d → Holds d I_Mo_fib (S_Mo_fib e) := by
  intro e
  induction e with
  | zero =>
    intro d hd
    exact G_Mo_fib 0 (B := 12) (by omega) (fun d hd => ⟨m_Mo_fib, fun _ _ _ _ _ _ _ _ _ _ _ hG => hG.elim⟩) (by omega)
  | succ e ih =>
    intro d hd
    exact G_Mo_fib (e + 1) (B := 13 + e) (by omega) (fun d hd => ih d (by omega)) (by omega)
def S_Mo_fibT : GS := S_Mo_fib 20
theorem H_Mo_fibT {d : Nat} (hd : 40 ≤ d) : Holds d I_Mo_fib S_Mo_fibT := H_Mo_fib_all 20 d (by omega)
theorem fbN_20 (k : Nat) (hk : k ≤ 20) : fbN k ≤ 10946 := by
  have h : ∀ j : Fin 21, fbN j.val ≤ 10946 := by decide
  exact h ⟨k, by omega⟩
def S_Mo_readsFib : GS := fun as σ K => match as with
  | [some (.inr (.inr (12, 0)))] => (RmA σ ∧ σ 597 0 0 + 3 ≤ σ 596 0 0 ∧ σ 601 0 0 ≤ 900) ∧ ∀ σ' r, rmO 11000 σ σ' (pGrown (tpM σ) True (σ 597 0 0 + 3)) r → K (vI r) σ'
  | _ => False
def VE_Mo_readsFib (σ : SS) (K : AV → SS → Prop) : Prop :=
  (InR ((σ 597 0 0) + 3) ∧
  (∀ σ1 : SS, σ1 = u3 σ 597 0 0 ((σ 597 0 0) + 3) →
  (S_Mo_readsNumber [vR 12 0, vI 20] σ1 (kI fun r2 σ2 =>
    ((r2 ≠ 0 →
      (S_Mo_fibT [vR 12 0, vI (σ2 599 0 0)] σ2 (kV fun σ3 =>
        ((0 ≤ (1 : Int) ∧ (1 : Int) ≤ 1) ∧ K (vI 1) σ3)))) ∧
    (r2 = 0 →
      ((0 ≤ (0 : Int) ∧ (0 : Int) ≤ 1) ∧ K (vI 0) σ2)))))))
theorem e_Mo_readsFib (σ : SS) (K : AV → SS → Prop) (hs : okS σ) (hG : S_Mo_readsFib [vR 12 0] σ K) : VE_Mo_readsFib σ K := by
  unfold VE_Mo_readsFib
  obtain ⟨⟨⟨hA, hT⟩, h1, h2⟩, hG⟩ := hG
  refine ⟨(by omega), ?_⟩
  refine fun σ1 e1 => ?_
  have k1 : σ1 597 0 0 = σ 597 0 0 + 3 := by rw [e1, u3_s]
  have f1 : Fr RmL σ σ1 := by rw [e1]; exact Fr_u3 (by simp [RmL])
  obtain ⟨t1, s1⟩ := tm_rd f1
  have o1 : σ1 602 0 0 = σ 602 0 0 := by rw [e1, u3_f (by decide)]
  have tp1 : σ1 601 0 0 = σ 601 0 0 := by rw [e1, u3_f (by decide)]
  have re1 : σ1 50 0 = σ 50 0 := by rw [e1, u3_F (by decide)]
  refine ⟨(by omega), (fun σ2 r2 h2a h2b h2c h2d => ?_)⟩
  intro _ _
  have fa := h2a
  have na := h2b
  have nb := h2c
  have nc := h2d
  rw [t1, k1] at na nb nc
  have f2 : Fr RmL σ σ2 := Fr_trans f1 (Fr_mono fa (by simp [RmL]))
  have cs : dg (tpM σ (sk (tpM σ) (σ 597 0 0 + 3))) = false ∨ dg (tpM σ (sk (tpM σ) (σ 597 0 0 + 3))) = true := by cases dg (tpM σ (sk (tpM σ) (σ 597 0 0 + 3))) <;> simp
  have cv : nv (tpM σ) (sk (tpM σ) (σ 597 0 0 + 3)) ≤ 20 ∨ 20 < nv (tpM σ) (sk (tpM σ) (σ 597 0 0 + 3)) := by omega
  refine ⟨fun c3 => ?_, fun c3 => ?_⟩
  · skip
    have dt := cs.resolve_left (fun z => c3 (na z).1)
    have nl := cv.resolve_right (fun z => c3 (nb dt z).1)
    obtain ⟨_, ⟨n1, n2⟩, n3, n4, n5⟩ := nc dt nl
    have fb := fbN_b (k := (σ2 599 0 0).toNat) (by omega)
    have tp2 : σ2 601 0 0 = σ 601 0 0 := by rw [fa 601 0 (by simp)]; exact tp1
    have re2 : σ2 50 0 = σ 50 0 := by rw [fa 50 0 (by simp)]; exact re1
    have o2 : σ2 602 0 0 = σ 602 0 0 := by rw [fa 602 0 (by simp)]; exact o1
    have s2 := (tm_rd f2).2
    refine ⟨(by exact ⟨⟨by omega, by omega, by show _ ≤ (20 : Int); omega⟩, by omega, by omega⟩), (fun σ4 h4a h4b => ?_)⟩
    intro _
    have pg := pg_ok (T := tpM σ) (fib := True) dt (by rw [if_pos trivial]; exact nl)
    rw [if_pos trivial] at pg
    rw [← n1, ← n3] at pg
    exact ⟨by omega, hG _ _ (rmO_r (Fr_trans f2 (Fr_mono h4a (by simp [RmL]))) pg (by rw [h4a 602 0 (by simp)]; exact o2) (by rw [h4a 597 0 (by simp)]) ⟨by omega, by omega⟩ (by show fbN _ ≤ 11000; have := fbN_20 (σ2 599 0 0).toNat (by omega); omega) (pm_ba h4b tp2 re2))⟩
  · skip
    rcases cs with dt | dt
    · exact ⟨by omega, hG _ _ (rmO_l f2 (pg_no dt) (na dt).2)⟩
    · rcases cv with z | z
      · exact absurd (nc dt z).1 (by omega)
      · exact ⟨by omega, hG _ _ (rmO_l f2 (pg_big dt (by rw [if_pos trivial]; exact z)) (nb dt z).2)⟩
theorem H_Mo_readsFib {d : Nat} (hd : 41 ≤ d) : Holds d I_Mo_readsFib S_Mo_readsFib := by
  refine holds_of (d' := d - 1) (rt := 2) (cal := [(I_Mo_readsNumber, S_Mo_readsNumber), (I_Mo_fib, S_Mo_fibT)]) (C := C_Mo_readsFib) m_Mo_readsFib o_Mo_readsFib rfl rfl (by omega) ?_ ?_
  · intro x hx
    simp only [List.mem_cons, List.not_mem_nil, or_false] at hx
    rcases hx with rfl | rfl
    · exact H_Mo_readsNumber (by omega)
    · exact H_Mo_fibT (by omega)
  · intro as σ K has hσ hG
    have hG2 := hG
    unfold S_Mo_readsFib at hG2
    split at hG2
    · skip
      refine ⟨Nat.le_of_ble_eq_true rfl, (fun _ => none), ?_, 1000, ?_⟩
      · intro k n z L σ' hk hL hs hP
        cases hk
      · exact e_Mo_readsFib σ K  hσ hG
    · exact hG2.elim
def sbF : Nat → Int → Int
  | 0, _ => 0
  | k + 1, x => x % 2 + sbF k (x / 2)
theorem sb_s {x : Int} (h0 : 0 ≤ x) (h1 : x < 256) : sbF 9 x = x % 2 + sbF 9 (x / 2) ∧ 0 ≤ sbF 9 x ∧ sbF 9 x ≤ 9 := by
  have h : ∀ j : Fin 256, sbF 9 (j.val : Int) = (j.val : Int) % 2 + sbF 9 ((j.val : Int) / 2) ∧ 0 ≤ sbF 9 (j.val : Int) ∧ sbF 9 (j.val : Int) ≤ 9 := by decide +kernel
  have := h ⟨x.toNat, by omega⟩
  rwa [show ((x.toNat : Nat) : Int) = x by omega] at this
theorem sb_mz {k : Nat} {x : Int} (hk : k ≤ 8) (h0 : 0 ≤ x) (h1 : x < 2 ^ k) : mzF k x = sbF 9 x % 2 := by
  have h : ∀ k : Fin 9, ∀ j : Fin 256, (j.val : Int) < 2 ^ k.val → mzF k.val (j.val : Int) = sbF 9 (j.val : Int) % 2 := by decide +kernel
  have b := (p2_b (k := k) hk).2
  have := h ⟨k, by omega⟩ ⟨x.toNat, by omega⟩
  rw [show ((x.toNat : Nat) : Int) = x by omega] at this
  exact this h1
def gmI (σ0 σ : SS) : Prop := Fr RmL σ0 σ ∧ (dg (tpM σ0 (sk (tpM σ0) (σ0 597 0 0 + 5))) = true ∧ σ 599 0 0 = nv (tpM σ0) (sk (tpM σ0) (σ0 597 0 0 + 5)) ∧ 0 ≤ σ 599 0 0 ∧ σ 599 0 0 ≤ 8) ∧ σ 597 0 0 = de (tpM σ0) (sk (tpM σ0) (σ0 597 0 0 + 5)) ∧ σ0 597 0 0 < σ 597 0 0 ∧ σ 597 0 0 ≤ σ0 596 0 0 ∧ σ 602 0 0 = σ0 602 0 0
theorem shl_p {c : Int} (h0 : 0 ≤ c) (h : c ≤ 8) : shlI 1 c = 2 ^ c.toNat ∧ 1 ≤ shlI 1 c ∧ shlI 1 c ≤ 256 := by
  have s1 := shl1 h0 (show c < 31 by omega)
  have s2 : shlI 1 c = 2 ^ c.toNat := by rw [s1.1]; exact Int.natCast_pow 2 _
  have := p2_b (k := c.toNat) (by omega)
  rw [← s2] at this
  exact ⟨s2, this⟩
def S_Mo_readsMorse : GS := fun as σ K => match as with
  | [some (.inr (.inr (12, 0)))] => (RmA σ ∧ σ 597 0 0 + 5 ≤ σ 596 0 0 ∧ σ 601 0 0 ≤ 900) ∧ ∀ σ' r, rmO 300 σ σ' (pGrown (tpM σ) False (σ 597 0 0 + 5)) r → K (vI r) σ'
  | _ => False
abbrev Lp_Mo_readsMorse_14 (σ0 : SS) (n : Nat) (L : List AV) (σ : SS) : Prop := ∃ (v1 : Int), L = [vR 12 0, vI v1, none, none] ∧ n = (1000 * (1000 - v1)).toNat ∧ ((gmI σ0 σ) ∧ (0 ≤ v1 ∧ v1 ≤ shlI 1 (σ 599 0 0)) ∧ (pmI σ0 σ (σ0 601 0 0) (nW (mzF (σ 599 0 0).toNat) v1)))
abbrev Lp_Mo_readsMorse_24 (σ0 : SS) (n : Nat) (L : List AV) (σ : SS) : Prop := ∃ (v1 : Int) (v2 : Int) (v3 : Int), L = [vR 12 0, vI v1, vI v2, vI v3] ∧ n = (1000 * (1000 - v1) - 500 + v3).toNat ∧ ((gmI σ0 σ) ∧ ((0 ≤ v1 ∧ v1 < shlI 1 (σ 599 0 0)) ∧ (0 ≤ v2 ∧ 0 ≤ v3) ∧ v3 ≤ v1) ∧ (v2 + sbF 9 v3 = sbF 9 v1) ∧ (pmI σ0 σ (σ0 601 0 0) (nW (mzF (σ 599 0 0).toNat) v1)))
def Iv_Mo_readsMorse (σ0 : SS) (k : Nat) : Option (List Nat × (Nat → List AV → SS → Prop)) := match k with
  | 14 => some ([2, 3], Lp_Mo_readsMorse_14 σ0)
  | 24 => some ([], Lp_Mo_readsMorse_24 σ0)
  | _ => none
def VE_Mo_readsMorse (σ : SS) (K : AV → SS → Prop) : Prop :=
  (InR ((σ 597 0 0) + 5) ∧
  (∀ σ1 : SS, σ1 = u3 σ 597 0 0 ((σ 597 0 0) + 5) →
  (S_Mo_readsNumber [vR 12 0, vI 8] σ1 (kI fun r2 σ2 =>
    ((r2 ≠ 0 →
      (∃ n', Lp_Mo_readsMorse_14 σ n' [vR 12 0, vI 0, none, none] σ2)) ∧
    (r2 = 0 →
      ((0 ≤ (0 : Int) ∧ (0 : Int) ≤ 1) ∧ K (vI 0) σ2)))))))
def VL_Mo_readsMorse_14 (σ0 : SS) (K : AV → SS → Prop) (v1 : Int) (σ : SS) (n : Nat) : Prop :=
  ((0 ≤ (σ 599 0 0 : Int) ∧ (σ 599 0 0 : Int) < 32 ∧ InR (shlI 1 (σ 599 0 0))) ∧
  (((shlI 1 (σ 599 0 0)) ≤ v1 →
    ((0 ≤ (1 : Int) ∧ (1 : Int) ≤ 1) ∧ K (vI 1) σ)) ∧
  (v1 < (shlI 1 (σ 599 0 0)) →
    (∃ n', n' < n ∧ Lp_Mo_readsMorse_24 σ0 n' [vR 12 0, vI v1, vI 0, vI v1] σ))))
def VL_Mo_readsMorse_24 (σ0 : SS) (K : AV → SS → Prop) (v1 : Int) (v2 : Int) (v3 : Int) (σ : SS) (n : Nat) : Prop :=
  ((v3 ≤ 0 →
    (((2 : Int) ≠ 0 ∧ InR (Int.tmod v2 2)) ∧
    (S_Mo_comes [vR 12 0, vI (Int.tmod v2 2)] σ (kV fun σ1 =>
      (InR (v1 + 1) ∧
      (∃ n', n' < n ∧ Lp_Mo_readsMorse_14 σ0 n' [vR 12 0, vI (v1 + 1), none, none] σ1)))))) ∧
  ((0 : Int) < v3 →
    (((2 : Int) ≠ 0 ∧ InR (Int.tmod v3 2)) ∧
    (InR (v2 + (Int.tmod v3 2)) ∧
    (((2 : Int) ≠ 0 ∧ InR (Int.tdiv v3 2)) ∧
    (∃ n', n' < n ∧ Lp_Mo_readsMorse_24 σ0 n' [vR 12 0, vI v1, vI (v2 + (Int.tmod v3 2)), vI (Int.tdiv v3 2)] σ))))))
theorem l_Mo_readsMorse_14 (σ0 : SS) (K : AV → SS → Prop) (hs0 : okS σ0) (hG : S_Mo_readsMorse [vR 12 0] σ0 K) (v1 : Int) (σ : SS) (hv1 : InR v1) (hs : okS σ) (n : Nat) (hn : n = (1000 * (1000 - v1)).toNat) (hQ : (gmI σ0 σ) ∧ (0 ≤ v1 ∧ v1 ≤ shlI 1 (σ 599 0 0)) ∧ (pmI σ0 σ (σ0 601 0 0) (nW (mzF (σ 599 0 0).toNat) v1))) : VL_Mo_readsMorse_14 σ0 K v1 σ n := by
  unfold VL_Mo_readsMorse_14
  obtain ⟨⟨⟨hA, hT⟩, h1, h2⟩, hG⟩ := hG
  obtain ⟨⟨q0, ⟨q1, q2, q3, q4⟩, q5, q6, q7, q8⟩, q9, q10⟩ := hQ
  have sp := shl_p q3 q4
  refine ⟨(by omega), ?_⟩
  refine ⟨fun c1 => ?_, fun c1 => ?_⟩
  · skip
    have pg := pg_ok (T := tpM σ0) (fib := False) q1 (by rw [if_neg (fun z => z)]; omega)
    rw [if_neg (fun z => z), ← q2, ← q5] at pg
    exact ⟨by omega, hG _ _ (rmO_r q0 pg q8 rfl ⟨by omega, by omega⟩ (by show (2 : Int) ^ _ ≤ 300; omega) (pm_cg q10 (by omega) (fun _ _ _ => rfl)))⟩
  · skip
    refine ⟨_, ?_, _, _, _, rfl, rfl, ?_⟩
    · omega
    · refine ⟨?_, ?_, ?_, ?_⟩
      · exact ⟨q0, ⟨q1, q2, q3, q4⟩, q5, q6, q7, q8⟩
      · first | rfl | assumption | omega
      · first | rfl | assumption | omega
      · exact q10
theorem l_Mo_readsMorse_24 (σ0 : SS) (K : AV → SS → Prop) (hs0 : okS σ0) (hG : S_Mo_readsMorse [vR 12 0] σ0 K) (v1 : Int) (v2 : Int) (v3 : Int) (σ : SS) (hv1 : InR v1) (hv2 : InR v2) (hv3 : InR v3) (hs : okS σ) (n : Nat) (hn : n = (1000 * (1000 - v1) - 500 + v3).toNat) (hQ : (gmI σ0 σ) ∧ ((0 ≤ v1 ∧ v1 < shlI 1 (σ 599 0 0)) ∧ (0 ≤ v2 ∧ 0 ≤ v3) ∧ v3 ≤ v1) ∧ (v2 + sbF 9 v3 = sbF 9 v1) ∧ (pmI σ0 σ (σ0 601 0 0) (nW (mzF (σ 599 0 0).toNat) v1))) : VL_Mo_readsMorse_24 σ0 K v1 v2 v3 σ n := by
  unfold VL_Mo_readsMorse_24
  obtain ⟨⟨⟨hA, hT⟩, h1, h2⟩, hG⟩ := hG
  obtain ⟨⟨q0, ⟨q1, q2, q3, q4⟩, q5, q6, q7, q8⟩, ⟨q9, q9b, q9c⟩, q10, q11⟩ := hQ
  have sp := shl_p q3 q4
  have sb1 := sb_s (x := v1) (by omega) (by omega)
  have sb3 := sb_s (x := v3) (by omega) (by omega)
  have pn := pm_n q11
  have tm2 : Int.tmod v2 2 = v2 % 2 := Int.tmod_eq_emod_of_nonneg q9b.1
  have tm3 : Int.tmod v3 2 = v3 % 2 := Int.tmod_eq_emod_of_nonneg q9b.2
  have td3 : Int.tdiv v3 2 = v3 / 2 := Int.tdiv_eq_ediv_of_nonneg q9b.2
  rw [tm2, tm3, td3]
  refine ⟨fun c1 => ?_, fun c1 => ?_⟩
  · skip
    have z0 : sbF 9 v3 = 0 := by rw [show v3 = 0 by omega]; decide
    have mz := sb_mz (k := (σ 599 0 0).toNat) (x := v1) (by omega) q9.1 (by omega)
    refine ⟨(by omega), ?_⟩
    refine ⟨(by omega), ?_⟩
    intro _
    generalize hτ : u3 (u3 _ 50 0 _ _) 601 0 0 _ = τ
    obtain ⟨g, dd, tt⟩ := pm_more q11 (by rw [mz]; omega) (by omega) hτ
    have kn : τ 599 0 0 = σ 599 0 0 := congrFun (dd 599 0 (by simp)) 0
    have ks : τ 597 0 0 = σ 597 0 0 := congrFun (dd 597 0 (by simp)) 0
    have ko : τ 602 0 0 = σ 602 0 0 := congrFun (dd 602 0 (by simp)) 0
    refine ⟨(by omega), ?_⟩
    refine ⟨_, ?_, _, rfl, rfl, ?_⟩
    · omega
    · refine ⟨?_, ?_, ?_⟩
      · exact ⟨Fr_trans q0 (Fr_mono dd (by simp [RmL])), ⟨q1, by omega, by omega, by omega⟩, by omega, by omega, by omega, by omega⟩
      · rw [kn]; omega
      · rw [kn]; exact g
  · skip
    refine ⟨(by omega), ?_⟩
    refine ⟨(by omega), ?_⟩
    refine ⟨(by omega), ?_⟩
    refine ⟨_, ?_, _, _, _, rfl, rfl, ?_⟩
    · omega
    · refine ⟨?_, ?_, ?_, ?_⟩
      · exact ⟨q0, ⟨q1, q2, q3, q4⟩, q5, q6, q7, q8⟩
      · first | rfl | assumption | omega
      · first | rfl | assumption | omega
      · exact q11
theorem e_Mo_readsMorse (σ : SS) (K : AV → SS → Prop) (hs : okS σ) (hG : S_Mo_readsMorse [vR 12 0] σ K) : VE_Mo_readsMorse σ K := by
  unfold VE_Mo_readsMorse
  obtain ⟨⟨⟨hA, hT⟩, h1, h2⟩, hG⟩ := hG
  refine ⟨(by omega), ?_⟩
  refine fun σ1 e1 => ?_
  have k1 : σ1 597 0 0 = σ 597 0 0 + 5 := by rw [e1, u3_s]
  have f1 : Fr RmL σ σ1 := by rw [e1]; exact Fr_u3 (by simp [RmL])
  obtain ⟨t1, s1⟩ := tm_rd f1
  have o1 : σ1 602 0 0 = σ 602 0 0 := by rw [e1, u3_f (by decide)]
  have tp1 : σ1 601 0 0 = σ 601 0 0 := by rw [e1, u3_f (by decide)]
  have re1 : σ1 50 0 = σ 50 0 := by rw [e1, u3_F (by decide)]
  refine ⟨(by omega), (fun σ2 r2 h2a h2b h2c h2d => ?_)⟩
  intro _ _
  have fa := h2a
  have na := h2b
  have nb := h2c
  have nc := h2d
  rw [t1, k1] at na nb nc
  have f2 : Fr RmL σ σ2 := Fr_trans f1 (Fr_mono fa (by simp [RmL]))
  have cs : dg (tpM σ (sk (tpM σ) (σ 597 0 0 + 5))) = false ∨ dg (tpM σ (sk (tpM σ) (σ 597 0 0 + 5))) = true := by cases dg (tpM σ (sk (tpM σ) (σ 597 0 0 + 5))) <;> simp
  have cv : nv (tpM σ) (sk (tpM σ) (σ 597 0 0 + 5)) ≤ 8 ∨ 8 < nv (tpM σ) (sk (tpM σ) (σ 597 0 0 + 5)) := by omega
  refine ⟨fun c3 => ?_, fun c3 => ?_⟩
  · skip
    have dt := cs.resolve_left (fun z => c3 (na z).1)
    have nl := cv.resolve_right (fun z => c3 (nb dt z).1)
    obtain ⟨_, ⟨n1, n2⟩, n3, n4, n5⟩ := nc dt nl
    have tp2 : σ2 601 0 0 = σ 601 0 0 := by rw [fa 601 0 (by simp)]; exact tp1
    have re2 : σ2 50 0 = σ 50 0 := by rw [fa 50 0 (by simp)]; exact re1
    have o2 : σ2 602 0 0 = σ 602 0 0 := by rw [fa 602 0 (by simp)]; exact o1
    refine ⟨_, _, rfl, rfl, ?_⟩
    refine ⟨?_, ?_, ?_⟩
    · exact ⟨f2, ⟨dt, n1, by omega, by omega⟩, n3, by omega, by omega, o2⟩
    · exact ⟨by omega, Int.le_trans (by omega) (shl_p n2 (by omega)).2.1⟩
    · exact pm_ba (pm_fr pm_e rfl rfl) tp2 re2
  · skip
    rcases cs with dt | dt
    · exact ⟨by omega, hG _ _ (rmO_l f2 (pg_no dt) (na dt).2)⟩
    · rcases cv with z | z
      · exact absurd (nc dt z).1 (by omega)
      · exact ⟨by omega, hG _ _ (rmO_l f2 (pg_big dt (by rw [if_neg (fun z => z)]; exact z)) (nb dt z).2)⟩
theorem H_Mo_readsMorse {d : Nat} (hd : 4 ≤ d) : Holds d I_Mo_readsMorse S_Mo_readsMorse := by
  refine holds_of (d' := d - 1) (rt := 2) (cal := [(I_Mo_readsNumber, S_Mo_readsNumber), (I_Mo_comes, S_Mo_comes)]) (C := C_Mo_readsMorse) m_Mo_readsMorse o_Mo_readsMorse rfl rfl (by omega) ?_ ?_
  · intro x hx
    simp only [List.mem_cons, List.not_mem_nil, or_false] at hx
    rcases hx with rfl | rfl
    · exact H_Mo_readsNumber (by omega)
    · exact H_Mo_comes (by omega)
  · intro as σ K has hσ hG
    have hG2 := hG
    unfold S_Mo_readsMorse at hG2
    split at hG2
    · skip
      refine ⟨Nat.le_of_ble_eq_true rfl, (Iv_Mo_readsMorse σ), ?_, 1000, ?_⟩
      · intro k n z L σ' hk hL hs hP
        unfold Iv_Mo_readsMorse at hk
        split at hk
        · cases hk
          obtain ⟨v1, rfl, hn, hQ⟩ := hP
          exact ⟨1000, l_Mo_readsMorse_14 σ K  hσ hG v1 σ' (hL _ (List.mem_of_getElem? (i := 1) rfl)) hs n hn hQ⟩
        · cases hk
          obtain ⟨v1, v2, v3, rfl, hn, hQ⟩ := hP
          exact ⟨1000, l_Mo_readsMorse_24 σ K  hσ hG v1 v2 v3 σ' (hL _ (List.mem_of_getElem? (i := 1) rfl)) (hL _ (List.mem_of_getElem? (i := 2) rfl)) (hL _ (List.mem_of_getElem? (i := 3) rfl)) hs n hn hQ⟩
        · cases hk
      · exact e_Mo_readsMorse σ K  hσ hG
    · exact hG2.elim
theorem sk_at {T : Int → Int} {a : Int} (h : bl (T a) = false) : sk T a = a := by
  show (if bl (T a) = true then scF T bl 300 (a + 1) else a) = a
  rw [if_neg (by rw [h]; decide)]
theorem nm_ok {T : Int → Int} {a : Int} (h : sm (T a) = true) (h1 : 1 ≤ cd T a) (h2 : cd T a ≤ 19682) : 1 ≤ we T a - a ∧ we T a - a ≤ 3 := by
  have gt : a < we T a := sc_gt h
  have g : ∀ j : Nat, (j : Int) < we T a - a → 97 ≤ T (a + j) ∧ T (a + j) ≤ 122 := fun j hj => sm_t.mp (scF_all 301 a (a + j) (by omega) (by show a + (j : Int) < we T a; omega))
  unfold cd at h1 h2
  by_cases c5 : we T a - a ≤ 5
  · rw [if_pos c5] at h1 h2
    rcases (by omega : we T a - a ≤ 3 ∨ (we T a - a).toNat = 4 ∨ (we T a - a).toNat = 5) with z | z | z
    · omega
    · rw [z] at h2
      have g0 := g 0 (by omega)
      have g1 := g 1 (by omega)
      have g2 := g 2 (by omega)
      have g3 := g 3 (by omega)
      simp only [cdF] at h2
      omega
    · rw [z] at h2
      have g0 := g 0 (by omega)
      have g1 := g 1 (by omega)
      have g2 := g 2 (by omega)
      have g3 := g 3 (by omega)
      have g4 := g 4 (by omega)
      simp only [cdF] at h2
      omega
  · rw [if_neg c5] at h1
    omega
theorem nm_no {σ : SS} {N : List (Int × PW)} {T : Int → Int} {a : Int} (hN : RdM σ N) (h : sm (T a) = true) (hn : ¬ okName T a) : lookN N (cd T a) = none := (look_no (c := cd T a) N (fun k q hk e => by
  obtain ⟨⟨x1, x2⟩, x3, x4, x5⟩ := (hN.2 k q hk).2.2.1
  rw [e] at x1 x2 x3 x4 x5
  exact hn ⟨nm_ok h x1 x2, x3, x4, x5⟩)).1
def S_Mo_readsName : GS := fun as σ K => match as with
  | [some (.inr (.inr (12, 0)))] => ∃ N, ((RmA σ ∧ σ 597 0 0 < σ 596 0 0 ∧ sm (tpM σ (σ 597 0 0)) = true) ∧ σ 601 0 0 ≤ 900 ∧ RdM σ N ∧ cd (tpM σ) (σ 597 0 0) ≠ 13279 ∧ cd (tpM σ) (σ 597 0 0) ≠ 4619 ∧ cd (tpM σ) (σ 597 0 0) ≠ 7217618) ∧ ∀ σ' r, (∀ ins, rmO 300 σ σ' (pWord (tpM σ) N ins (σ 597 0 0)) r) → K (vI r) σ'
  | _ => False
abbrev Lp_Mo_readsName_23 (σ0 : SS) (n : Nat) (L : List AV) (σ : SS) : Prop := ∃ (v1 : Int) (v2 : Int), L = [vR 12 0, vI v1, vI v2] ∧ n = (1000 - v2).toNat ∧ ((Fr RmL σ0 σ ∧ σ 602 0 0 = σ0 602 0 0) ∧ (∃ (N : List (Int × PW)) (q : Int × PW), RdM σ0 N ∧ (0 ≤ v1 ∧ N[v1.toNat]? = some q) ∧ ((∀ ins, pWord (tpM σ0) N ins (σ0 597 0 0) = .inr (q.2, σ 597 0 0)) ∧ σ0 597 0 0 < σ 597 0 0 ∧ σ 597 0 0 ≤ σ0 596 0 0) ∧ (0 ≤ v2 ∧ v2 ≤ q.2.2) ∧ pmI σ0 σ (σ0 601 0 0) (nW q.2.1 v2)))
def Iv_Mo_readsName (σ0 : SS) (k : Nat) : Option (List Nat × (Nat → List AV → SS → Prop)) := match k with
  | 23 => some ([], Lp_Mo_readsName_23 σ0)
  | _ => none
def VE_Mo_readsName (σ : SS) (K : AV → SS → Prop) : Prop :=
  (S_Mo_isName [vR 12 0] σ (kI fun r1 σ1 =>
    ((r1 = 0 →
      (((-1 : Int) ≠ (-1) →
        (∀ σ2 : SS, σ2 = u3 σ1 597 0 0 (σ1 609 0 0) →
        (∃ n', Lp_Mo_readsName_23 σ n' [vR 12 0, vI (-1), vI 0] σ2))) ∧
      ((-1 : Int) = (-1) →
        (S_Mo_fails [vR 12 0, vI 1, vI (σ1 597 0 0)] σ1 (kI fun r3 σ3 =>
          ((0 ≤ (r3 : Int) ∧ (r3 : Int) ≤ 1) ∧ K (vI r3) σ3)))))) ∧
    (r1 ≠ 0 →
      (S_Mo_nameAt [vR 12 0] σ1 (kI fun r4 σ4 =>
        ((r4 ≠ (-1) →
          (∀ σ5 : SS, σ5 = u3 σ4 597 0 0 (σ4 609 0 0) →
          (∃ n', Lp_Mo_readsName_23 σ n' [vR 12 0, vI r4, vI 0] σ5))) ∧
        (r4 = (-1) →
          (S_Mo_fails [vR 12 0, vI 1, vI (σ4 597 0 0)] σ4 (kI fun r6 σ6 =>
            ((0 ≤ (r6 : Int) ∧ (r6 : Int) ≤ 1) ∧ K (vI r6) σ6)))))))))))
def VL_Mo_readsName_23 (σ0 : SS) (K : AV → SS → Prop) (v1 : Int) (v2 : Int) (σ : SS) (n : Nat) : Prop :=
  ((0 ≤ (v1 : Int) ∧ (v1 : Int) < 4) ∧
  (((σ 53 0 v1) ≤ v2 →
    ((0 ≤ (1 : Int) ∧ (1 : Int) ≤ 1) ∧ K (vI 1) σ)) ∧
  (v2 < (σ 53 0 v1) →
    (InR (120 * v1) ∧
    (InR ((120 * v1) + v2) ∧
    ((0 ≤ ((120 * v1) + v2 : Int) ∧ ((120 * v1) + v2 : Int) < 480) ∧
    (S_Mo_comes [vR 12 0, vI (σ 54 0 ((120 * v1) + v2))] σ (kV fun σ1 =>
      (InR (v2 + 1) ∧
      (∃ n', n' < n ∧ Lp_Mo_readsName_23 σ0 n' [vR 12 0, vI v1, vI (v2 + 1)] σ1))))))))))
theorem l_Mo_readsName_23 (σ0 : SS) (K : AV → SS → Prop) (hs0 : okS σ0) (hG : S_Mo_readsName [vR 12 0] σ0 K) (v1 : Int) (v2 : Int) (σ : SS) (hv1 : InR v1) (hv2 : InR v2) (hs : okS σ) (n : Nat) (hn : n = (1000 - v2).toNat) (hQ : (Fr RmL σ0 σ ∧ σ 602 0 0 = σ0 602 0 0) ∧ (∃ (N : List (Int × PW)) (q : Int × PW), RdM σ0 N ∧ (0 ≤ v1 ∧ N[v1.toNat]? = some q) ∧ ((∀ ins, pWord (tpM σ0) N ins (σ0 597 0 0) = .inr (q.2, σ 597 0 0)) ∧ σ0 597 0 0 < σ 597 0 0 ∧ σ 597 0 0 ≤ σ0 596 0 0) ∧ (0 ≤ v2 ∧ v2 ≤ q.2.2) ∧ pmI σ0 σ (σ0 601 0 0) (nW q.2.1 v2))) : VL_Mo_readsName_23 σ0 K v1 v2 σ n := by
  unfold VL_Mo_readsName_23
  obtain ⟨N, ⟨⟨⟨hA, hT⟩, h1, h2⟩, h3, hN, h4⟩, hG⟩ := hG
  obtain ⟨⟨q0, q0b⟩, N', q, hN', ⟨q1, q2⟩, ⟨q3, q4, q5⟩, q6, q7⟩ := hQ
  have eN := RdM_u hN hN'
  subst eN
  have pn := pm_n q7
  obtain ⟨m1, m2, m3, m4, m5, m6⟩ := (RdM_fr hN q0).2 _ _ q2
  rw [show ((v1.toNat : Nat) : Int) = v1 by omega] at m2 m6
  have m7 := (List.getElem?_eq_some_iff.mp q2).1
  have m8 := hN.1
  have m9 := m4.1
  refine ⟨(by omega), ?_⟩
  refine ⟨fun c1 => ?_, fun c1 => ?_⟩
  · skip
    exact ⟨by omega, hG _ _ (fun ins => rmO_r q0 (q3 ins) q0b rfl ⟨q4, q5⟩ (by omega) (by have y := pm_cg q7 (show v2 = q.2.2 by omega) (fun _ _ _ => rfl); rwa [← m5] at y))⟩
  · skip
    have ml := m6 v2 q6.1 (by omega)
    have mr := m4.2 v2 q6.1 (by omega)
    rw [ml]
    refine ⟨(by omega), ?_⟩
    refine ⟨(by omega), ?_⟩
    refine ⟨(by omega), ?_⟩
    refine ⟨(by omega), ?_⟩
    intro _
    generalize hτ : u3 (u3 _ 50 0 _ _) 601 0 0 _ = τ
    obtain ⟨g, dd, tt⟩ := pm_more q7 rfl mr hτ
    have ks : τ 597 0 0 = σ 597 0 0 := congrFun (dd 597 0 (by simp)) 0
    have ko : τ 602 0 0 = σ 602 0 0 := congrFun (dd 602 0 (by simp)) 0
    refine ⟨(by omega), ?_⟩
    refine ⟨_, ?_, _, _, rfl, rfl, ?_⟩
    · omega
    · refine ⟨?_, ?_⟩
      · exact ⟨Fr_trans q0 (Fr_mono dd (by simp [RmL])), ko.trans q0b⟩
      · exact ⟨N, q, hN, ⟨q1, q2⟩, ⟨fun ins => by rw [ks]; exact q3 ins, by omega, by omega⟩, ⟨by omega, by omega⟩, g⟩
theorem e_Mo_readsName (σ : SS) (K : AV → SS → Prop) (hs : okS σ) (hG : S_Mo_readsName [vR 12 0] σ K) : VE_Mo_readsName σ K := by
  unfold VE_Mo_readsName
  obtain ⟨N, ⟨⟨⟨hA, hT⟩, h1, h2⟩, h3, hN, h4⟩, hG⟩ := hG
  have ska : sk (tpM σ) (σ 597 0 0) = σ 597 0 0 := sk_at (bl_f.mpr (by have := sm_t.mp h2; omega))
  refine ⟨(by omega), (fun σ1 r1 h1a h1b h1c h1d h1e => ?_)⟩
  intro _ _
  have fa := h1a
  have fb := h1b
  have fc := h1c
  have fd := h1d
  have fe := h1e
  rw [ska] at fb fd fe
  have f1 : Fr RmL σ σ1 := Fr_mono fa (by simp [RmL])
  have o1 : σ1 602 0 0 = σ 602 0 0 := congrFun (fa 602 0 (by simp)) 0
  have tp1 : σ1 601 0 0 = σ 601 0 0 := congrFun (fa 601 0 (by simp)) 0
  have re1 : σ1 50 0 = σ 50 0 := fa _ _ (by simp)
  refine ⟨fun c2 => ?_, fun c2 => ?_⟩
  · skip
    have no : ¬ okName (tpM σ) (σ 597 0 0) := fun z => by have := (fd z).1; omega
    refine ⟨fun c3 => ?_, fun c3 => ?_⟩
    · skip
      refine fun σ4 e4 => ?_
      exact absurd rfl c3
    · skip
      refine ⟨(by omega), ?_⟩
      intro _ _
      exact ⟨by omega, hG _ _ (fun ins => rmO_l (Fr_trans f1 (Fr_u3 (by simp [RmL]))) (pw_no h4.1 h4.2.1 h4.2.2 (nm_no hN h2 no)) (by rw [u3_s, fb]))⟩
  · skip
    have ok : okName (tpM σ) (σ 597 0 0) := Classical.byContradiction (fun z => c2 (fe z))
    obtain ⟨_, d1, d2, d3⟩ := fd ok
    have gt : σ 597 0 0 < we (tpM σ) (σ 597 0 0) := sc_gt h2
    refine ⟨N, (by exact RdM_fr hN f1), (fun r3 h3a => ?_)⟩
    intro _ _
    refine ⟨fun c4 => ?_, fun c4 => ?_⟩
    · skip
      refine fun σ5 e5 => ?_
      refine ⟨_, _, _, rfl, rfl, ?_⟩
      refine ⟨?_, ?_⟩
      · exact ⟨by rw [e5]; exact Fr_trans f1 (Fr_u3 (by simp [RmL])), by rw [e5, u3_f (by decide)]; exact o1⟩
      · rw [d1] at h3a
        rcases h3a with ⟨z, _⟩ | ⟨_, z, z2, z3⟩
        · omega
        · rcases z with ⟨z, _⟩ | ⟨_, q, z4, z5, z6, _⟩
          · omega
          · exact ⟨N, q, hN, ⟨z2, z4⟩, ⟨fun ins => by rw [e5, u3_s, d2]; exact pw_at h4.1 h4.2.1 h4.2.2 z6, by rw [e5, u3_s]; omega, by rw [e5, u3_s]; omega⟩, ⟨by omega, (hN.2 _ _ z4).2.2.2.1.1.1⟩, pm_ba (pm_fr pm_e (by rw [e5, u3_f (by decide)]) (by rw [e5, u3_F (by decide)])) tp1 re1⟩
    · skip
      refine ⟨(by omega), ?_⟩
      intro _ _
      rw [d1] at h3a
      rcases h3a with ⟨_, z⟩ | ⟨z, _⟩
      · rcases z with ⟨_, z, _⟩ | ⟨z, _⟩
        · exact ⟨by omega, hG _ _ (fun ins => rmO_l (Fr_trans f1 (Fr_u3 (by simp [RmL]))) (pw_no h4.1 h4.2.1 h4.2.2 z) (by rw [u3_s, fb]))⟩
        · omega
      · omega
theorem H_Mo_readsName {d : Nat} (hd : 11 ≤ d) : Holds d I_Mo_readsName S_Mo_readsName := by
  refine holds_of (d' := d - 1) (rt := 2) (cal := [(I_Mo_isName, S_Mo_isName), (I_Mo_nameAt, S_Mo_nameAt), (I_Mo_fails, S_Mo_fails), (I_Mo_comes, S_Mo_comes)]) (C := C_Mo_readsName) m_Mo_readsName o_Mo_readsName rfl rfl (by omega) ?_ ?_
  · intro x hx
    simp only [List.mem_cons, List.not_mem_nil, or_false] at hx
    rcases hx with rfl | rfl | rfl | rfl
    · exact H_Mo_isName (by omega)
    · exact H_Mo_nameAt (by omega)
    · exact H_Mo_fails (by omega)
    · exact H_Mo_comes (by omega)
  · intro as σ K has hσ hG
    have hG2 := hG
    unfold S_Mo_readsName at hG2
    split at hG2
    · skip
      refine ⟨Nat.le_of_ble_eq_true rfl, (Iv_Mo_readsName σ), ?_, 1000, ?_⟩
      · intro k n z L σ' hk hL hs hP
        unfold Iv_Mo_readsName at hk
        split at hk
        · cases hk
          obtain ⟨v1, v2, rfl, hn, hQ⟩ := hP
          exact ⟨1000, l_Mo_readsName_23 σ K  hσ hG v1 v2 σ' (hL _ (List.mem_of_getElem? (i := 1) rfl)) (hL _ (List.mem_of_getElem? (i := 2) rfl)) hs n hn hQ⟩
        · cases hk
      · exact e_Mo_readsName σ K  hσ hG
    · exact hG2.elim
