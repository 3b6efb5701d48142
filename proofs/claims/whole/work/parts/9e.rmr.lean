/-! TEXT: the reference's reader; rows within rows, by the brackets that may still be opened -/
theorem sk_skM {σ : SS} {a : Int} (hn : σ 596 0 0 ≤ 300) (ha : 0 ≤ a) : sk (tpM σ) (sk (tpM σ) a) = sk (tpM σ) a := sk_sk (n := σ 596 0 0) (fun x hx => tm_out hx) hn ha
theorem we_le {σ : SS} {a : Int} (ha : a ≤ σ 596 0 0) : we (tpM σ) a ≤ σ 596 0 0 := by
  rcases (by omega : we (tpM σ) a ≤ σ 596 0 0 ∨ σ 596 0 0 < we (tpM σ) a) with z | z
  · exact z
  · have := sm_t.mp (scF_all 301 a (σ 596 0 0) ha z)
    rw [tm_out (Int.le_refl _)] at this
    omega
theorem pi_no {T : Int → Int} {N : List (Int × PW)} {ins : Int → PR} {a : Int} (h : ib (T a) = false) : pItem T N ins a = .inl (8 * a + 1) := by
  have h := ib_f.mp h
  unfold pItem
  rw [if_neg (fun z => h (Or.inl z)), if_neg (by rw [dg_f.mpr (fun z => h (Or.inr (Or.inl z)))]; decide), if_neg (by rw [sm_f.mpr (fun z => h (Or.inr (Or.inr z)))]; decide)]
theorem pi_le {T : Int → Int} {N : List (Int × PW)} {ins : Int → PR} {a : Int} (h : T a = 39) : pItem T N ins a = pLet1 T a := if_pos h
theorem pi_ti {T : Int → Int} {N : List (Int × PW)} {ins : Int → PR} {a : Int} (h : dg (T a) = true) : pItem T N ins a = pTimes T ins a := by
  unfold pItem
  rw [if_neg (fun z => by rw [z] at h; exact absurd h (by decide)), if_pos h]
theorem pi_wo {T : Int → Int} {N : List (Int × PW)} {ins : Int → PR} {a : Int} (h : sm (T a) = true) : pItem T N ins a = pWord T N ins a := by
  have h2 := sm_t.mp h
  unfold pItem
  rw [if_neg (by omega), if_neg (by rw [dg_f.mpr (by omega)]; decide), if_pos h]
def S_Mo_isItem : GS := fun as σ K => match as with
  | [some (.inr (.inr (12, 0)))] => (0 ≤ σ 597 0 0 ∧ σ 597 0 0 ≤ σ 596 0 0 ∧ σ 596 0 0 ≤ 300) ∧ ∀ σ', Fr [(597, 0)] σ σ' → σ' 597 0 0 = sk (tpM σ) (σ 597 0 0) → σ 597 0 0 ≤ σ' 597 0 0 ∧ σ' 597 0 0 ≤ σ 596 0 0 → bS (ib (tpM σ (sk (tpM σ) (σ 597 0 0))) = true) K σ'
  | _ => False
def VE_Mo_isItem (σ : SS) (K : AV → SS → Prop) : Prop :=
  (S_Mo_nextByte [vR 12 0] σ (kI fun r1 σ1 =>
    ((r1 = 39 →
      ((0 ≤ (1 : Int) ∧ (1 : Int) ≤ 1) ∧ K (vI 1) σ1)) ∧
    (r1 ≠ 39 →
      (S_Mo_in [vL r1, vL 48, vL 57] σ1 (kI fun r2 σ2 =>
        ((r2 ≠ 0 →
          ((0 ≤ (1 : Int) ∧ (1 : Int) ≤ 1) ∧ K (vI 1) σ2)) ∧
        (r2 = 0 →
          (S_Mo_isSmall [vI r1] σ2 (kI fun r3 σ3 =>
            ((r3 = 0 →
              ((0 ≤ (0 : Int) ∧ (0 : Int) ≤ 1) ∧ K (vI 0) σ3)) ∧
            (r3 ≠ 0 →
              ((0 ≤ (1 : Int) ∧ (1 : Int) ≤ 1) ∧ K (vI 1) σ3)))))))))))))
theorem e_Mo_isItem (σ : SS) (K : AV → SS → Prop) (hs : okS σ) (hG : S_Mo_isItem [vR 12 0] σ K) : VE_Mo_isItem σ K := by
  unfold VE_Mo_isItem
  obtain ⟨h1, hG⟩ := hG
  refine ⟨(by first | assumption | omega | exact ⟨by first | assumption | omega, by omega⟩ | exact ⟨by assumption, by omega, by omega⟩ | exact ⟨by assumption, by omega, by omega, by omega⟩ | exact ⟨by assumption, by omega, by omega, by omega, by omega⟩ | exact ⟨by assumption, by omega, by omega, by omega, by omega, by omega⟩), (fun σ1 h1a h1b h1c => ?_)⟩
  intro _ _
  have hb := hG _ h1a h1b h1c
  refine ⟨fun c2 => ?_, fun c2 => ?_⟩
  · skip
    exact bS_y hb (ib_t.mpr (Or.inl (by assumption)))
  · skip
    refine bS_b1 (fun p3 _ => ?_) (fun p3 _ => ?_)
    · skip
      exact bS_y hb (ib_t.mpr (Or.inr (Or.inl (by assumption))))
    · skip
      refine bS_b0 (fun p4 _ => ?_) (fun p4 _ => ?_)
      · skip
        exact bS_y hb (ib_t.mpr (Or.inr (Or.inr (by assumption))))
      · skip
        exact bS_n hb (fun z => by have := ib_t.mp z; omega)
theorem H_Mo_isItem {d : Nat} (hd : 3 ≤ d) : Holds d I_Mo_isItem S_Mo_isItem := by
  refine holds_of (d' := d - 1) (rt := 2) (cal := [(I_Mo_nextByte, S_Mo_nextByte), (I_Mo_in, S_Mo_in), (I_Mo_isSmall, S_Mo_isSmall)]) (C := C_Mo_isItem) m_Mo_isItem o_Mo_isItem rfl rfl (by omega) ?_ ?_
  · intro x hx
    simp only [List.mem_cons, List.not_mem_nil, or_false] at hx
    rcases hx with rfl | rfl | rfl
    · exact H_Mo_nextByte (by omega)
    · exact H_Mo_in (by omega)
    · exact H_Mo_isSmall (by omega)
  · intro as σ K has hσ hG
    have hG2 := hG
    unfold S_Mo_isItem at hG2
    split at hG2
    · skip
      refine ⟨Nat.le_of_ble_eq_true rfl, (fun _ => none), ?_, 1000, ?_⟩
      · intro k n z L σ' hk hL hs hP
        cases hk
      · exact e_Mo_isItem σ K  hσ hG
    · exact hG2.elim
def S_Mo_readsWithin (e : Nat) : GS := fun as σ K => match as with
  | [some (.inr (.inr (12, 0)))] => ∃ N, ((RmA σ ∧ σ 601 0 0 ≤ 120 * (σ 602 0 0 + 1)) ∧ (0 ≤ σ 602 0 0 ∧ σ 602 0 0 + e = 6) ∧ RdM σ N) ∧ ∀ σ' r, rmO 120 σ σ' (pInside (tpM σ) N e (σ 597 0 0)) r → K (vI r) σ'
  | _ => False
def S_Mo_readsTimes (e : Nat) : GS := fun as σ K => match as with
  | [some (.inr (.inr (12, 0)))] => ∃ N, ((RmA σ ∧ σ 597 0 0 < σ 596 0 0 ∧ dg (tpM σ (σ 597 0 0)) = true) ∧ σ 601 0 0 ≤ 120 * (σ 602 0 0 + 1) ∧ (0 ≤ σ 602 0 0 ∧ σ 602 0 0 + e = 6) ∧ RdM σ N) ∧ ∀ σ' r, rmO 7200 σ σ' (pTimes (tpM σ) (pInside (tpM σ) N e) (σ 597 0 0)) r → K (vI r) σ'
  | _ => False
def S_Mo_readsRev (e : Nat) : GS := fun as σ K => match as with
  | [some (.inr (.inr (12, 0)))] => ∃ N, ((RmA σ ∧ σ 597 0 0 + 3 ≤ σ 596 0 0) ∧ σ 601 0 0 ≤ 120 * (σ 602 0 0 + 1) ∧ (0 ≤ σ 602 0 0 ∧ σ 602 0 0 + e = 6) ∧ RdM σ N) ∧ ∀ σ' r, rmO 120 σ σ' (mapR revW (pInside (tpM σ) N e (σ 597 0 0 + 3))) r → K (vI r) σ'
  | _ => False
def S_Mo_readsItem (e : Nat) : GS := fun as σ K => match as with
  | [some (.inr (.inr (12, 0)))] => ∃ N, ((RmA σ ∧ ib (tpM σ (sk (tpM σ) (σ 597 0 0))) = true) ∧ σ 601 0 0 ≤ 120 * (σ 602 0 0 + 1) ∧ (0 ≤ σ 602 0 0 ∧ σ 602 0 0 + e = 6) ∧ RdM σ N) ∧ ∀ σ' r, rmO 11000 σ σ' (pItem (tpM σ) N (pInside (tpM σ) N e) (sk (tpM σ) (σ 597 0 0))) r → K (vI r) σ'
  | _ => False
def S_Mo_readsRow (e : Nat) : GS := fun as σ K => match as with
  | [some (.inr (.inr (12, 0)))] => ∃ N, ((RmA σ ∧ σ 601 0 0 ≤ 120 * σ 602 0 0) ∧ (0 ≤ σ 602 0 0 ∧ σ 602 0 0 + e = 6) ∧ RdM σ N) ∧ ∀ σ' r, rmO 120 σ σ' (pRow (tpM σ) N e (σ 597 0 0)) r → K (vI r) σ'
  | _ => False
def S_Mo_readsRowB (e : Nat) : GS := match e with
  | 0 => fun _ _ _ => False
  | e + 1 => S_Mo_readsRow e
theorem tk_pre {B : Int} {σ σ' : SS} {R : PR} {r c : Int} (h : rmO B σ σ' R r) (hr : r ≠ 0) (h0 : 0 ≤ σ 597 0 0) (h1 : σ 596 0 0 ≤ 300) (hc : 0 ≤ c) : 0 ≤ σ' 597 0 0 ∧ σ' 597 0 0 ≤ σ' 596 0 0 ∧ σ' 596 0 0 ≤ 300 ∧ 0 ≤ c := by
  obtain ⟨q, x1, x2, x3, ⟨x4, x5, x6⟩, x7⟩ := rmO_n h hr
  have s5 := (tm_rd h.1).2
  omega
def VE_Mo_readsWithin (e : Nat) (σ : SS) (K : AV → SS → Prop) : Prop :=
  (S_Mo_nextByte [vR 12 0] σ (kI fun r1 σ1 =>
    ((r1 = 40 →
      (((σ1 602 0 0) ≠ 6 →
        (InR ((σ1 602 0 0) + 1) ∧
        (∀ σ2 : SS, σ2 = u3 σ1 602 0 0 ((σ1 602 0 0) + 1) →
        (InR ((σ2 597 0 0) + 1) ∧
        (∀ σ3 : SS, σ3 = u3 σ2 597 0 0 ((σ2 597 0 0) + 1) →
        (S_Mo_readsRowB e [vR 12 0] σ3 (kI fun r4 σ4 =>
          ((r4 = 0 →
            ((0 ≤ (0 : Int) ∧ (0 : Int) ≤ 1) ∧ K (vI 0) σ4)) ∧
          (r4 ≠ 0 →
            (S_Mo_takesSign [vR 12 0, vI 41] σ4 (kI fun r5 σ5 =>
              ((r5 ≠ 0 →
                (InR ((σ5 602 0 0) - 1) ∧
                (∀ σ6 : SS, σ6 = u3 σ5 602 0 0 ((σ5 602 0 0) - 1) →
                ((0 ≤ (1 : Int) ∧ (1 : Int) ≤ 1) ∧ K (vI 1) σ6)))) ∧
              (r5 = 0 →
                ((0 ≤ (0 : Int) ∧ (0 : Int) ≤ 1) ∧ K (vI 0) σ5)))))))))))))) ∧
      ((σ1 602 0 0) = 6 →
        (S_Mo_fails [vR 12 0, vI 4, vI (σ1 597 0 0)] σ1 (kI fun r7 σ7 =>
          ((0 ≤ (r7 : Int) ∧ (r7 : Int) ≤ 1) ∧ K (vI r7) σ7)))))) ∧
    (r1 ≠ 40 →
      (S_Mo_fails [vR 12 0, vI 1, vI (σ1 597 0 0)] σ1 (kI fun r8 σ8 =>
        ((0 ≤ (r8 : Int) ∧ (r8 : Int) ≤ 1) ∧ K (vI r8) σ8)))))))
theorem e_Mo_readsWithin (e : Nat) (σ : SS) (K : AV → SS → Prop) (hs : okS σ) (hG : S_Mo_readsWithin e [vR 12 0] σ K) : VE_Mo_readsWithin e σ K := by
  unfold VE_Mo_readsWithin
  obtain ⟨N, ⟨⟨⟨hA, hT⟩, hL⟩, h1, hN⟩, hG⟩ := hG
  refine ⟨(by first | assumption | omega | exact ⟨by first | assumption | omega, by omega⟩ | exact ⟨by assumption, by omega, by omega⟩ | exact ⟨by assumption, by omega, by omega, by omega⟩ | exact ⟨by assumption, by omega, by omega, by omega, by omega⟩ | exact ⟨by assumption, by omega, by omega, by omega, by omega, by omega⟩), (fun σ1 h1a h1b h1c => ?_)⟩
  intro _ _
  have f1 := h1a
  have f2 := h1b
  have f3 := h1c
  obtain ⟨t1, s1⟩ := tm_fr f1 (by simp) (by simp)
  have tp1 : σ1 601 0 0 = σ 601 0 0 := congrFun (f1 601 0 (by simp)) 0
  have op1 : σ1 602 0 0 = σ 602 0 0 := congrFun (f1 602 0 (by simp)) 0
  have re1 : σ1 50 0 = σ 50 0 := f1 _ _ (by simp)
  have lt := tm_lt (σ := σ) (σ1 597 0 0)
  rw [f2] at lt
  refine ⟨fun c2 => ?_, fun c2 => ?_⟩
  · skip
    refine ⟨fun c3 => ?_, fun c3 => ?_⟩
    · skip
      refine ⟨(by omega), ?_⟩
      refine fun σ4 e4 => ?_
      have k0 : σ4 597 0 0 = σ1 597 0 0 := by rw [e4, u3_f (by decide)]
      refine ⟨(by omega), ?_⟩
      refine fun σ5 e5 => ?_
      have f4 : Fr RmL σ σ5 := Fr_trans (Fr_mono f1 (by simp [RmL])) (by rw [e5]; refine Fr_trans ?_ (Fr_u3 (by simp [RmL])); rw [e4]; exact Fr_u3 (by simp [RmL]))
      have k1 : σ5 597 0 0 = sk (tpM σ) (σ 597 0 0) + 1 := by rw [e5, u3_s, e4, u3_f (by decide), f2]
      have k2 : σ5 601 0 0 = σ 601 0 0 := by rw [e5, u3_f (by decide), e4, u3_f (by decide)]; exact tp1
      have k3 : σ5 50 0 = σ 50 0 := by rw [e5, u3_F (by decide), e4, u3_F (by decide)]; exact re1
      have k4 : σ5 602 0 0 = σ 602 0 0 + 1 := by rw [e5, u3_f (by decide), e4, u3_s, op1]
      obtain ⟨t4, s4⟩ := tm_rd f4
      have lt2 : sk (tpM σ) (σ 597 0 0) < σ 596 0 0 := by omega
      obtain ⟨e', rfl⟩ : ∃ e', e = e' + 1 := ⟨e - 1, by omega⟩
      refine ⟨N, (by exact ⟨⟨⟨⟨by omega, by omega, by omega⟩, by omega⟩, by omega⟩, ⟨by omega, by omega⟩, RdM_fr hN f4⟩), (fun σ6 r6 h6a => ?_)⟩
      intro _ _
      have ro := h6a
      rw [t4, k1] at ro
      refine ⟨fun c7 => ?_, fun c7 => ?_⟩
      · skip
        rw [c7] at ro
        obtain ⟨ee, x1, x2⟩ := rmO_0 ro
        exact ⟨by omega, hG _ _ (rmO_l (Fr_trans f4 ro.1) (pi_l c2 x1) x2)⟩
      · skip
        refine ⟨(by exact tk_pre ro c7 (by omega) (by omega) (by omega)), (fun σ8 r8 h8a h8b h8c => ?_)⟩
        intro _ _
        obtain ⟨q, x1, ⟨x2, x2b⟩, x3, ⟨x4, x5, x6⟩, x7⟩ := rmO_n ro c7
        obtain ⟨t5, s5⟩ := tm_rd ro.1
        have fx := h8a
        have y1 := h8b
        have y2 := h8c
        rw [t5, t4, x3] at y1 y2
        have f7 : Fr RmL σ σ8 := Fr_trans f4 (Fr_trans ro.1 (Fr_mono fx (by simp [RmL])))
        have o8 : σ8 602 0 0 = σ 602 0 0 + 1 := by rw [fx 602 0 (by simp)]; omega
        refine ⟨fun c9 => ?_, fun c9 => ?_⟩
        · skip
          refine ⟨(by omega), ?_⟩
          refine fun σ10 e10 => ?_
          by_cases w : tpM σ (sk (tpM σ) q.2) = 41
          · obtain ⟨z1, z2, z3, z4⟩ := y1 w
            exact ⟨by omega, hG _ _ (rmO_r (Fr_trans f7 (by rw [e10]; exact Fr_u3 (by simp [RmL]))) (pi_r c2 x1 w) (by rw [e10, u3_s]; omega) (by rw [e10, u3_f (by decide)]; exact z2) ⟨by omega, by omega⟩ x6 (pm_fr (pm_ba (pm_fr x7 (congrFun (fx 601 0 (by simp)) 0) (fx _ _ (by simp))) k2 k3) (by rw [e10, u3_f (by decide)]) (by rw [e10, u3_F (by decide)])))⟩
          · exact absurd (y2 w).1 c9
        · skip
          by_cases w : tpM σ (sk (tpM σ) q.2) = 41
          · exact absurd (y1 w).1 (by omega)
          · exact ⟨by omega, hG _ _ (rmO_l f7 (pi_x c2 x1 w) (y2 w).2)⟩
    · skip
      refine ⟨(by omega), ?_⟩
      intro _ _
      obtain rfl : e = 0 := by omega
      exact ⟨by omega, hG _ _ (rmO_l (Fr_trans (Fr_mono f1 (by simp [RmL])) (Fr_u3 (by simp [RmL]))) (pi_4 c2) (by rw [u3_s, f2]))⟩
  · skip
    refine ⟨(by omega), ?_⟩
    intro _ _
    exact ⟨by omega, hG _ _ (rmO_l (Fr_trans (Fr_mono f1 (by simp [RmL])) (Fr_u3 (by simp [RmL]))) (pi_1 c2) (by rw [u3_s, f2]))⟩
theorem G_Mo_readsWithin (e : Nat) {B d : Nat} (hB : 48 ≤ B) (h_Mo_readsRowB : ∀ d, B + 0 ≤ d → Holds d I_Mo_readsRow (S_Mo_readsRowB e)) (hd : B + 1 ≤ d) : Holds d I_Mo_readsWithin (S_Mo_readsWithin e) := by
  refine holds_of (d' := d - 1) (rt := 2) (cal := [(I_Mo_nextByte, S_Mo_nextByte), (I_Mo_fails, S_Mo_fails), (I_Mo_readsRow, S_Mo_readsRowB e), (I_Mo_takesSign, S_Mo_takesSign)]) (C := C_Mo_readsWithin) m_Mo_readsWithin o_Mo_readsWithin rfl rfl (by omega) ?_ ?_
  · intro x hx
    simp only [List.mem_cons, List.not_mem_nil, or_false] at hx
    rcases hx with rfl | rfl | rfl | rfl
    · exact H_Mo_nextByte (by omega)
    · exact H_Mo_fails (by omega)
    · exact h_Mo_readsRowB _ (by omega)
    · exact H_Mo_takesSign (by omega)
  · intro as σ K has hσ hG
    have hG2 := hG
    unfold S_Mo_readsWithin at hG2
    split at hG2
    · skip
      refine ⟨Nat.le_of_ble_eq_true rfl, (fun _ => none), ?_, 1000, ?_⟩
      · intro k n z L σ' hk hL hs hP
        cases hk
      · exact e_Mo_readsWithin e σ K  hσ hG
    · exact hG2.elim
/-- copies: x letters of them stand, and y more -/
def xmI (σ0 σ : SS) (f : Int → Int) (m x y : Int) : Prop := σ 601 0 0 = σ0 601 0 0 + x ∧ (∀ z, z < σ0 601 0 0 → σ 50 0 z = σ0 50 0 z) ∧ ∀ z, 0 ≤ z → (z < x + y ∨ z < m) → σ 50 0 (σ0 601 0 0 + z) = f (z % m) ∧ 0 ≤ f (z % m) ∧ f (z % m) < 26
theorem xm_0 {σ0 σ σ' : SS} {u : PW} (h : pmI σ0 σ (σ0 601 0 0) u) (ht : σ' 601 0 0 = σ0 601 0 0) (hr : σ' 50 0 = σ 50 0) : xmI σ0 σ' u.1 u.2 0 0 := by
  refine ⟨by omega, fun z hz => by rw [hr]; exact h.2.1 z hz, fun z z0 z1 => ?_⟩
  rw [hr, Int.emod_eq_of_lt z0 (by omega)]
  exact h.2.2 z z0 (by omega)
theorem xm_st {σ0 σ σ' : SS} {f : Int → Int} {m k y : Int} (h : xmI σ0 σ f m (k * m) y) (hk : 0 ≤ k * m) (hy : 0 ≤ y) (hm : y < m) (e : σ' = u3 σ 50 0 (σ 601 0 0 + y) (σ 50 0 (σ0 601 0 0 + y))) : xmI σ0 σ' f m (k * m) (y + 1) ∧ Fr [(50, 0)] σ σ' := by
  obtain ⟨h1, h2, h3⟩ := h
  refine ⟨⟨by rw [e, u3_f (by decide)]; exact h1, fun z hz => by rw [e, u3_k (by omega)]; exact h2 z hz, fun z z0 z1 => ?_⟩, by rw [e]; exact Fr_u3 (by simp)⟩
  rw [e, u3_e]
  by_cases c : z = k * m + y
  · have := h3 y hy (Or.inr hm)
    rw [if_pos (by omega), c, show k * m + y = y + k * m by omega, Int.add_mul_emod_self_right]
    exact this
  · rw [if_neg (by omega)]
    exact h3 z z0 (by omega)
theorem xm_nx {σ0 σ σ' : SS} {f : Int → Int} {m k y : Int} (h : xmI σ0 σ f m (k * m) y) (hy : m ≤ y) (e : σ' = u3 σ 601 0 0 (σ 601 0 0 + m)) : xmI σ0 σ' f m ((k + 1) * m) 0 := by
  obtain ⟨h1, h2, h3⟩ := h
  have em : (k + 1) * m = k * m + m := by rw [Int.add_mul, Int.one_mul]
  refine ⟨by rw [e, u3_s]; omega, fun z hz => by rw [e, u3_f (by decide)]; exact h2 z hz, fun z z0 z1 => ?_⟩
  rw [e, u3_f (by decide)]
  exact h3 z z0 (by omega)
theorem xm_e {σ0 σ : SS} {u : PW} {k : Int} (h : xmI σ0 σ u.1 u.2 (k * u.2) 0) (hk : 0 ≤ k * u.2) : pmI σ0 σ (σ0 601 0 0) (repW u k) := by
  refine ⟨⟨hk, h.1⟩, h.2.1, fun x x0 x1 => ?_⟩
  have x1' : x < k * u.2 := x1
  have ea : (repW u k).1 x = u.1 (x % u.2) := by
    show atW (fun x => u.1 (x % u.2)) (k * u.2) x = _
    exact atW_in x0 x1'
  rw [ea]
  exact h.2.2 x x0 (by omega)
abbrev Lp_Mo_readsTimes_27 (e : Nat) (σ0 : SS) (n : Nat) (L : List AV) (σ : SS) : Prop := ∃ (v1 : Int) (v2 : Int) (v3 : Int) (v4 : Int), L = [vR 12 0, vI v1, vI v2, vI v3, vI v4, none] ∧ n = (1000 * (1000 - v4)).toNat ∧ ((Fr RmL σ0 σ ∧ σ 602 0 0 = σ0 602 0 0) ∧ (v2 = σ0 601 0 0) ∧ (∃ (N : List (Int × PW)) (q : PW × Int), RdM σ0 N ∧ (pTimes (tpM σ0) (pInside (tpM σ0) N e) (σ0 597 0 0) = .inr (repW q.1 v1, q.2) ∧ v3 = q.1.2 ∧ σ 597 0 0 = q.2 ∧ σ0 597 0 0 < q.2 ∧ q.2 ≤ σ0 596 0 0) ∧ ((0 ≤ v1 ∧ v1 ≤ 60) ∧ (0 ≤ v3 ∧ v3 ≤ 120) ∧ 0 ≤ v4 ∧ v4 ≤ v1) ∧ xmI σ0 σ q.1.1 v3 (v4 * v3) 0))
abbrev Lp_Mo_readsTimes_32 (e : Nat) (σ0 : SS) (n : Nat) (L : List AV) (σ : SS) : Prop := ∃ (v1 : Int) (v2 : Int) (v3 : Int) (v4 : Int) (v5 : Int), L = [vR 12 0, vI v1, vI v2, vI v3, vI v4, vI v5] ∧ n = (1000 * (1000 - v4) - 1 - v5).toNat ∧ ((Fr RmL σ0 σ ∧ σ 602 0 0 = σ0 602 0 0) ∧ (v2 = σ0 601 0 0) ∧ (∃ (N : List (Int × PW)) (q : PW × Int), RdM σ0 N ∧ (pTimes (tpM σ0) (pInside (tpM σ0) N e) (σ0 597 0 0) = .inr (repW q.1 v1, q.2) ∧ v3 = q.1.2 ∧ σ 597 0 0 = q.2 ∧ σ0 597 0 0 < q.2 ∧ q.2 ≤ σ0 596 0 0) ∧ ((0 ≤ v1 ∧ v1 ≤ 60) ∧ (0 ≤ v3 ∧ v3 ≤ 120) ∧ 0 ≤ v4 ∧ v4 < v1) ∧ (0 ≤ v5 ∧ v5 ≤ v3) ∧ xmI σ0 σ q.1.1 v3 (v4 * v3) v5))
def Iv_Mo_readsTimes (e : Nat) (σ0 : SS) (k : Nat) : Option (List Nat × (Nat → List AV → SS → Prop)) := match k with
  | 27 => some ([5], Lp_Mo_readsTimes_27 e σ0)
  | 32 => some ([], Lp_Mo_readsTimes_32 e σ0)
  | _ => none
def VE_Mo_readsTimes (e : Nat) (σ : SS) (K : AV → SS → Prop) : Prop :=
  (S_Mo_readsNumber [vR 12 0, vI 60] σ (kI fun r1 σ1 =>
    ((r1 ≠ 0 →
      (S_Mo_readsWithin e [vR 12 0] σ1 (kI fun r2 σ2 =>
        ((r2 ≠ 0 →
          (InR ((σ2 601 0 0) - (σ1 601 0 0)) ∧
          (∀ σ3 : SS, σ3 = u3 σ2 601 0 0 (σ1 601 0 0) →
          (∃ n', Lp_Mo_readsTimes_27 e σ n' [vR 12 0, vI (σ1 599 0 0), vI (σ1 601 0 0), vI ((σ2 601 0 0) - (σ1 601 0 0)), vI 0, none] σ3)))) ∧
        (r2 = 0 →
          ((0 ≤ (0 : Int) ∧ (0 : Int) ≤ 1) ∧ K (vI 0) σ2)))))) ∧
    (r1 = 0 →
      ((0 ≤ (0 : Int) ∧ (0 : Int) ≤ 1) ∧ K (vI 0) σ1)))))
def VL_Mo_readsTimes_27 (e : Nat) (σ0 : SS) (K : AV → SS → Prop) (v1 : Int) (v2 : Int) (v3 : Int) (v4 : Int) (σ : SS) (n : Nat) : Prop :=
  ((v1 ≤ v4 →
    ((0 ≤ (1 : Int) ∧ (1 : Int) ≤ 1) ∧ K (vI 1) σ)) ∧
  (v4 < v1 →
    (∃ n', n' < n ∧ Lp_Mo_readsTimes_32 e σ0 n' [vR 12 0, vI v1, vI v2, vI v3, vI v4, vI 0] σ)))
def VL_Mo_readsTimes_32 (e : Nat) (σ0 : SS) (K : AV → SS → Prop) (v1 : Int) (v2 : Int) (v3 : Int) (v4 : Int) (v5 : Int) (σ : SS) (n : Nat) : Prop :=
  ((v3 ≤ v5 →
    (InR ((σ 601 0 0) + v3) ∧
    (∀ σ1 : SS, σ1 = u3 σ 601 0 0 ((σ 601 0 0) + v3) →
    (InR (v4 + 1) ∧
    (∃ n', n' < n ∧ Lp_Mo_readsTimes_27 e σ0 n' [vR 12 0, vI v1, vI v2, vI v3, vI (v4 + 1), none] σ1))))) ∧
  (v5 < v3 →
    (InR ((σ 601 0 0) + v5) ∧
    (InR (v2 + v5) ∧
    ((0 ≤ (v2 + v5 : Int) ∧ (v2 + v5 : Int) < 100000) ∧
    ((0 ≤ ((σ 601 0 0) + v5 : Int) ∧ ((σ 601 0 0) + v5 : Int) < 100000) ∧ ∀ σ2 : SS, σ2 = u3 σ 50 0 ((σ 601 0 0) + v5) (σ 50 0 (v2 + v5)) →
    (InR (v5 + 1) ∧
    (∃ n', n' < n ∧ Lp_Mo_readsTimes_32 e σ0 n' [vR 12 0, vI v1, vI v2, vI v3, vI v4, vI (v5 + 1)] σ2))))))))
theorem l_Mo_readsTimes_27 (e : Nat) (σ0 : SS) (K : AV → SS → Prop) (hs0 : okS σ0) (hG : S_Mo_readsTimes e [vR 12 0] σ0 K) (v1 : Int) (v2 : Int) (v3 : Int) (v4 : Int) (σ : SS) (hv1 : InR v1) (hv2 : InR v2) (hv3 : InR v3) (hv4 : InR v4) (hs : okS σ) (n : Nat) (hn : n = (1000 * (1000 - v4)).toNat) (hQ : (Fr RmL σ0 σ ∧ σ 602 0 0 = σ0 602 0 0) ∧ (v2 = σ0 601 0 0) ∧ (∃ (N : List (Int × PW)) (q : PW × Int), RdM σ0 N ∧ (pTimes (tpM σ0) (pInside (tpM σ0) N e) (σ0 597 0 0) = .inr (repW q.1 v1, q.2) ∧ v3 = q.1.2 ∧ σ 597 0 0 = q.2 ∧ σ0 597 0 0 < q.2 ∧ q.2 ≤ σ0 596 0 0) ∧ ((0 ≤ v1 ∧ v1 ≤ 60) ∧ (0 ≤ v3 ∧ v3 ≤ 120) ∧ 0 ≤ v4 ∧ v4 ≤ v1) ∧ xmI σ0 σ q.1.1 v3 (v4 * v3) 0)) : VL_Mo_readsTimes_27 e σ0 K v1 v2 v3 v4 σ n := by
  unfold VL_Mo_readsTimes_27
  obtain ⟨N, ⟨⟨⟨hA, hT⟩, hL, hD⟩, hB, h1, hN⟩, hG⟩ := hG
  obtain ⟨⟨q0, q0b⟩, rfl, N', q, hN', ⟨q1, rfl, q3, q4, q5⟩, ⟨q6, q7, q8⟩, q9⟩ := hQ
  have eN := RdM_u hN hN'
  subst eN
  have mb := mul_b2 (x := v4) (by omega) (by omega) q7.1 q7.2
  refine ⟨fun c1 => ?_, fun c1 => ?_⟩
  · skip
    rw [show v4 = v1 by omega] at q9 mb
    exact ⟨by omega, hG _ _ (rmO_r q0 q1 q0b q3 ⟨q4, q5⟩ (by show v1 * q.1.2 ≤ 7200; omega) (xm_e q9 mb.1))⟩
  · skip
    refine ⟨_, ?_, _, _, _, _, _, rfl, rfl, ?_⟩
    · omega
    · refine ⟨?_, ?_, ?_⟩
      · exact ⟨q0, q0b⟩
      · first | rfl | assumption | omega
      · exact ⟨N, q, hN, ⟨q1, rfl, q3, q4, q5⟩, ⟨q6, q7, q8.1, by omega⟩, ⟨by omega, by omega⟩, q9⟩
theorem l_Mo_readsTimes_32 (e : Nat) (σ0 : SS) (K : AV → SS → Prop) (hs0 : okS σ0) (hG : S_Mo_readsTimes e [vR 12 0] σ0 K) (v1 : Int) (v2 : Int) (v3 : Int) (v4 : Int) (v5 : Int) (σ : SS) (hv1 : InR v1) (hv2 : InR v2) (hv3 : InR v3) (hv4 : InR v4) (hv5 : InR v5) (hs : okS σ) (n : Nat) (hn : n = (1000 * (1000 - v4) - 1 - v5).toNat) (hQ : (Fr RmL σ0 σ ∧ σ 602 0 0 = σ0 602 0 0) ∧ (v2 = σ0 601 0 0) ∧ (∃ (N : List (Int × PW)) (q : PW × Int), RdM σ0 N ∧ (pTimes (tpM σ0) (pInside (tpM σ0) N e) (σ0 597 0 0) = .inr (repW q.1 v1, q.2) ∧ v3 = q.1.2 ∧ σ 597 0 0 = q.2 ∧ σ0 597 0 0 < q.2 ∧ q.2 ≤ σ0 596 0 0) ∧ ((0 ≤ v1 ∧ v1 ≤ 60) ∧ (0 ≤ v3 ∧ v3 ≤ 120) ∧ 0 ≤ v4 ∧ v4 < v1) ∧ (0 ≤ v5 ∧ v5 ≤ v3) ∧ xmI σ0 σ q.1.1 v3 (v4 * v3) v5)) : VL_Mo_readsTimes_32 e σ0 K v1 v2 v3 v4 v5 σ n := by
  unfold VL_Mo_readsTimes_32
  obtain ⟨N, ⟨⟨⟨hA, hT⟩, hL, hD⟩, hB, h1, hN⟩, hG⟩ := hG
  obtain ⟨⟨q0, q0b⟩, rfl, N', q, hN', ⟨q1, rfl, q3, q4, q5⟩, ⟨q6, q7, q8⟩, q8b, q9⟩ := hQ
  have eN := RdM_u hN hN'
  subst eN
  have mb := mul_b2 (x := v4) (by omega) (by omega) q7.1 q7.2
  have tp := q9.1
  refine ⟨fun c1 => ?_, fun c1 => ?_⟩
  · skip
    refine ⟨(by omega), ?_⟩
    refine fun σ2 e2 => ?_
    have fz : Fr [(601, 0)] σ σ2 := by rw [e2]; exact Fr_u3 (by simp)
    have g := xm_nx q9 (by omega) e2
    have ks : σ2 597 0 0 = σ 597 0 0 := congrFun (fz 597 0 (by simp)) 0
    have ko : σ2 602 0 0 = σ 602 0 0 := congrFun (fz 602 0 (by simp)) 0
    refine ⟨(by omega), ?_⟩
    refine ⟨_, ?_, _, _, _, _, rfl, rfl, ?_⟩
    · omega
    · refine ⟨?_, ?_, ?_⟩
      · exact ⟨Fr_trans q0 (Fr_mono fz (by simp [RmL])), ko.trans q0b⟩
      · first | rfl | assumption | omega
      · exact ⟨N, q, hN, ⟨q1, rfl, ks.trans q3, q4, q5⟩, ⟨q6, q7, by omega, by omega⟩, g⟩
  · skip
    refine ⟨(by omega), ?_⟩
    refine ⟨(by omega), ?_⟩
    refine ⟨(by omega), ?_⟩
    refine ⟨(by omega), fun σ2 e2 => ?_⟩
    obtain ⟨g, dd⟩ := xm_st q9 mb.1 q8b.1 (by omega) e2
    have ks : σ2 597 0 0 = σ 597 0 0 := congrFun (dd 597 0 (by simp)) 0
    have ko : σ2 602 0 0 = σ 602 0 0 := congrFun (dd 602 0 (by simp)) 0
    refine ⟨(by omega), ?_⟩
    refine ⟨_, ?_, _, _, _, _, _, rfl, rfl, ?_⟩
    · omega
    · refine ⟨?_, ?_, ?_⟩
      · exact ⟨Fr_trans q0 (Fr_mono dd (by simp [RmL])), ko.trans q0b⟩
      · first | rfl | assumption | omega
      · exact ⟨N, q, hN, ⟨q1, rfl, ks.trans q3, q4, q5⟩, ⟨q6, q7, q8⟩, ⟨by omega, by omega⟩, g⟩
theorem e_Mo_readsTimes (e : Nat) (σ : SS) (K : AV → SS → Prop) (hs : okS σ) (hG : S_Mo_readsTimes e [vR 12 0] σ K) : VE_Mo_readsTimes e σ K := by
  unfold VE_Mo_readsTimes
  obtain ⟨N, ⟨⟨⟨hA, hT⟩, hL, hD⟩, hB, h1, hN⟩, hG⟩ := hG
  have ska : sk (tpM σ) (σ 597 0 0) = σ 597 0 0 := sk_at (bl_f.mpr (by have := dg_t.mp hD; omega))
  refine ⟨(by omega), (fun σ1 r1 h1a h1b h1c h1d => ?_)⟩
  intro _ _
  have fa := h1a
  have na := h1b
  have nb := h1c
  have nc := h1d
  rw [ska] at na nb nc
  have f1 : Fr RmL σ σ1 := Fr_mono fa (by simp [RmL])
  obtain ⟨t1, s1⟩ := tm_rd f1
  have tp1 : σ1 601 0 0 = σ 601 0 0 := congrFun (fa 601 0 (by simp)) 0
  have op1 : σ1 602 0 0 = σ 602 0 0 := congrFun (fa 602 0 (by simp)) 0
  have re1 : σ1 50 0 = σ 50 0 := fa _ _ (by simp)
  have cv : nv (tpM σ) (σ 597 0 0) ≤ 60 ∨ 60 < nv (tpM σ) (σ 597 0 0) := by omega
  refine ⟨fun c2 => ?_, fun c2 => ?_⟩
  · skip
    have nl := cv.resolve_right (fun z => c2 (nb hD z).1)
    obtain ⟨_, ⟨n1, n2⟩, n3, n4, n5⟩ := nc hD nl
    have gt : σ 597 0 0 < de (tpM σ) (σ 597 0 0) := sc_gt hD
    refine ⟨N, (by exact ⟨⟨⟨⟨by omega, by omega, by omega⟩, by omega⟩, by omega⟩, ⟨by omega, by omega⟩, RdM_fr hN f1⟩), (fun σ3 r3 h3a => ?_)⟩
    intro _ _
    have ro := h3a
    rw [t1, n3] at ro
    refine ⟨fun c4 => ?_, fun c4 => ?_⟩
    · skip
      obtain ⟨q, x1, ⟨x2, x2b⟩, x3, ⟨x4, x5, x6⟩, x7⟩ := rmO_n ro (by assumption)
      have tq := x7.1
      have f3 : Fr RmL σ σ3 := Fr_trans f1 ro.1
      have pr := pt_r nl x1
      rw [← n1] at pr
      have x8 : pmI σ σ3 (σ 601 0 0) q.1 := pm_ba x7 tp1 re1
      refine ⟨(by omega), ?_⟩
      refine fun σ5 e5 => ?_
      refine ⟨_, _, _, _, _, rfl, rfl, ?_⟩
      refine ⟨?_, ?_, ?_⟩
      · exact ⟨by rw [e5]; exact Fr_trans f3 (Fr_u3 (by simp [RmL])), by rw [e5, u3_f (by decide)]; omega⟩
      · exact tp1
      · refine ⟨N, q, hN, ⟨pr, by omega, by rw [e5, u3_f (by decide)]; exact x3, by omega, by omega⟩, ⟨⟨n2, by omega⟩, by omega, by omega⟩, ?_⟩
        rw [show σ3 601 0 0 - σ1 601 0 0 = q.1.2 by omega, Int.zero_mul]
        exact xm_0 x8 (by rw [e5, u3_s]; exact tp1) (by rw [e5, u3_F (by decide)])
    · skip
      rw [show r3 = 0 by assumption] at ro
      obtain ⟨ee, x1, x2⟩ := rmO_0 ro
      exact ⟨by omega, hG _ _ (rmO_l (Fr_trans f1 ro.1) (pt_l nl x1) x2)⟩
  · skip
    rcases cv with z | z
    · exact absurd (nc hD z).1 (by omega)
    · exact ⟨by omega, hG _ _ (rmO_l f1 (pt_big z) (nb hD z).2)⟩
theorem G_Mo_readsTimes (e : Nat) {B d : Nat} (hB : 48 ≤ B) (h_Mo_readsWithin : ∀ d, B + 1 ≤ d → Holds d I_Mo_readsWithin (S_Mo_readsWithin e)) (hd : B + 2 ≤ d) : Holds d I_Mo_readsTimes (S_Mo_readsTimes e) := by
  refine holds_of (d' := d - 1) (rt := 2) (cal := [(I_Mo_readsNumber, S_Mo_readsNumber), (I_Mo_readsWithin, S_Mo_readsWithin e)]) (C := C_Mo_readsTimes) m_Mo_readsTimes o_Mo_readsTimes rfl rfl (by omega) ?_ ?_
  · intro x hx
    simp only [List.mem_cons, List.not_mem_nil, or_false] at hx
    rcases hx with rfl | rfl
    · exact H_Mo_readsNumber (by omega)
    · exact h_Mo_readsWithin _ (by omega)
  · intro as σ K has hσ hG
    have hG2 := hG
    unfold S_Mo_readsTimes at hG2
    split at hG2
    · skip
      refine ⟨Nat.le_of_ble_eq_true rfl, (Iv_Mo_readsTimes e σ), ?_, 1000, ?_⟩
      · intro k n z L σ' hk hL hs hP
        unfold Iv_Mo_readsTimes at hk
        split at hk
        · cases hk
          obtain ⟨v1, v2, v3, v4, rfl, hn, hQ⟩ := hP
          exact ⟨1000, l_Mo_readsTimes_27 e σ K  hσ hG v1 v2 v3 v4 σ' (hL _ (List.mem_of_getElem? (i := 1) rfl)) (hL _ (List.mem_of_getElem? (i := 2) rfl)) (hL _ (List.mem_of_getElem? (i := 3) rfl)) (hL _ (List.mem_of_getElem? (i := 4) rfl)) hs n hn hQ⟩
        · cases hk
          obtain ⟨v1, v2, v3, v4, v5, rfl, hn, hQ⟩ := hP
          exact ⟨1000, l_Mo_readsTimes_32 e σ K  hσ hG v1 v2 v3 v4 v5 σ' (hL _ (List.mem_of_getElem? (i := 1) rfl)) (hL _ (List.mem_of_getElem? (i := 2) rfl)) (hL _ (List.mem_of_getElem? (i := 3) rfl)) (hL _ (List.mem_of_getElem? (i := 4) rfl)) (hL _ (List.mem_of_getElem? (i := 5) rfl)) hs n hn hQ⟩
        · cases hk
      · exact e_Mo_readsTimes e σ K  hσ hG
    · exact hG2.elim
abbrev Lp_Mo_readsRev_21 (e : Nat) (σ0 : SS) (n : Nat) (L : List AV) (σ : SS) : Prop := ∃ (v1 : Int) (v2 : Int) (v3 : Int), L = [vR 12 0, vI v1, vI v2, vI v3, none] ∧ n = (100000 + v3 - v2).toNat ∧ (((Fr RmL σ0 σ ∧ σ 602 0 0 = σ0 602 0 0) ∧ v1 = σ0 601 0 0) ∧ (∃ (N : List (Int × PW)) (q : PW × Int), RdM σ0 N ∧ (pInside (tpM σ0) N e (σ0 597 0 0 + 3) = .inr q ∧ σ 597 0 0 = q.2 ∧ σ0 597 0 0 < q.2 ∧ q.2 ≤ σ0 596 0 0 ∧ q.1.2 ≤ 120) ∧ (σ0 601 0 0 ≤ v2 ∧ v2 ≤ σ0 601 0 0 + 200 ∧ v3 - σ0 601 0 0 = q.1.2 - 1 - (v2 - σ0 601 0 0)) ∧ rmI σ0 σ q.1 (v2 - σ0 601 0 0)))
def Iv_Mo_readsRev (e : Nat) (σ0 : SS) (k : Nat) : Option (List Nat × (Nat → List AV → SS → Prop)) := match k with
  | 21 => some ([4], Lp_Mo_readsRev_21 e σ0)
  | _ => none
def VE_Mo_readsRev (e : Nat) (σ : SS) (K : AV → SS → Prop) : Prop :=
  (InR ((σ 597 0 0) + 3) ∧
  (∀ σ1 : SS, σ1 = u3 σ 597 0 0 ((σ 597 0 0) + 3) →
  (S_Mo_readsWithin e [vR 12 0] σ1 (kI fun r2 σ2 =>
    ((r2 ≠ 0 →
      (InR ((σ2 601 0 0) - 1) ∧
      (∃ n', Lp_Mo_readsRev_21 e σ n' [vR 12 0, vI (σ1 601 0 0), vI (σ1 601 0 0), vI ((σ2 601 0 0) - 1), none] σ2))) ∧
    (r2 = 0 →
      ((0 ≤ (0 : Int) ∧ (0 : Int) ≤ 1) ∧ K (vI 0) σ2)))))))
def VL_Mo_readsRev_21 (e : Nat) (σ0 : SS) (K : AV → SS → Prop) (v1 : Int) (v2 : Int) (v3 : Int) (σ : SS) (n : Nat) : Prop :=
  ((v3 ≤ v2 →
    ((0 ≤ (1 : Int) ∧ (1 : Int) ≤ 1) ∧ K (vI 1) σ)) ∧
  (v2 < v3 →
    ((0 ≤ (v2 : Int) ∧ (v2 : Int) < 100000) ∧
    ((0 ≤ (v3 : Int) ∧ (v3 : Int) < 100000) ∧
    ((0 ≤ (v2 : Int) ∧ (v2 : Int) < 100000) ∧ ∀ σ1 : SS, σ1 = u3 σ 50 0 v2 (σ 50 0 v3) →
    ((0 ≤ (v3 : Int) ∧ (v3 : Int) < 100000) ∧ ∀ σ2 : SS, σ2 = u3 σ1 50 0 v3 (σ 50 0 v2) →
    (InR (v2 + 1) ∧
    (InR (v3 + (-1)) ∧
    (∃ n', n' < n ∧ Lp_Mo_readsRev_21 e σ0 n' [vR 12 0, vI v1, vI (v2 + 1), vI (v3 + (-1)), none] σ2)))))))))
theorem l_Mo_readsRev_21 (e : Nat) (σ0 : SS) (K : AV → SS → Prop) (hs0 : okS σ0) (hG : S_Mo_readsRev e [vR 12 0] σ0 K) (v1 : Int) (v2 : Int) (v3 : Int) (σ : SS) (hv1 : InR v1) (hv2 : InR v2) (hv3 : InR v3) (hs : okS σ) (n : Nat) (hn : n = (100000 + v3 - v2).toNat) (hQ : ((Fr RmL σ0 σ ∧ σ 602 0 0 = σ0 602 0 0) ∧ v1 = σ0 601 0 0) ∧ (∃ (N : List (Int × PW)) (q : PW × Int), RdM σ0 N ∧ (pInside (tpM σ0) N e (σ0 597 0 0 + 3) = .inr q ∧ σ 597 0 0 = q.2 ∧ σ0 597 0 0 < q.2 ∧ q.2 ≤ σ0 596 0 0 ∧ q.1.2 ≤ 120) ∧ (σ0 601 0 0 ≤ v2 ∧ v2 ≤ σ0 601 0 0 + 200 ∧ v3 - σ0 601 0 0 = q.1.2 - 1 - (v2 - σ0 601 0 0)) ∧ rmI σ0 σ q.1 (v2 - σ0 601 0 0))) : VL_Mo_readsRev_21 e σ0 K v1 v2 v3 σ n := by
  unfold VL_Mo_readsRev_21
  obtain ⟨N, ⟨⟨⟨hA, hT⟩, hL⟩, hB, h1, hN⟩, hG⟩ := hG
  obtain ⟨⟨⟨q0, q0b⟩, rfl⟩, N', q, hN', ⟨q1, q3, q4, q5, q6⟩, q8, q9⟩ := hQ
  have eN := RdM_u hN hN'
  subst eN
  have tp := q9.1
  refine ⟨fun c1 => ?_, fun c1 => ?_⟩
  · skip
    exact ⟨by omega, hG _ _ (rmO_r q0 (show mapR revW _ = .inr (revW q.1, q.2) by rw [q1]; rfl) q0b q3 ⟨q4, q5⟩ (by show q.1.2 ≤ 120; omega) (rm_e q9 (by omega)))⟩
  · skip
    refine ⟨(by omega), ?_⟩
    refine ⟨(by omega), ?_⟩
    refine ⟨(by omega), fun σ2 e2 => ?_⟩
    refine ⟨(by omega), fun σ3 e3 => ?_⟩
    have i5 : σ0 601 0 0 + (v2 - σ0 601 0 0) = v2 := by omega
    have i6 : σ0 601 0 0 + (q.1.2 - 1 - (v2 - σ0 601 0 0)) = v3 := by omega
    obtain ⟨g, dd⟩ := rm_st (σ1 := σ2) (σ2 := σ3) q9 (by omega) (by omega) (by rw [i5, i6]; exact e2) (by rw [i5, i6]; exact e3)
    have ks : σ3 597 0 0 = σ 597 0 0 := congrFun (dd 597 0 (by simp)) 0
    have ko : σ3 602 0 0 = σ 602 0 0 := congrFun (dd 602 0 (by simp)) 0
    refine ⟨(by omega), ?_⟩
    refine ⟨(by omega), ?_⟩
    refine ⟨_, ?_, _, _, _, rfl, rfl, ?_⟩
    · omega
    · refine ⟨?_, ?_⟩
      · exact ⟨⟨Fr_trans q0 (Fr_mono dd (by simp [RmL])), ko.trans q0b⟩, rfl⟩
      · exact ⟨N, q, hN, ⟨q1, ks.trans q3, q4, q5, q6⟩, ⟨by omega, by omega, by omega⟩, by rw [show v2 + 1 - σ0 601 0 0 = v2 - σ0 601 0 0 + 1 by omega]; exact g⟩
theorem e_Mo_readsRev (e : Nat) (σ : SS) (K : AV → SS → Prop) (hs : okS σ) (hG : S_Mo_readsRev e [vR 12 0] σ K) : VE_Mo_readsRev e σ K := by
  unfold VE_Mo_readsRev
  obtain ⟨N, ⟨⟨⟨hA, hT⟩, hL⟩, hB, h1, hN⟩, hG⟩ := hG
  refine ⟨(by omega), ?_⟩
  refine fun σ1 e1 => ?_
  have k1 : σ1 597 0 0 = σ 597 0 0 + 3 := by rw [e1, u3_s]
  have f1 : Fr RmL σ σ1 := by rw [e1]; exact Fr_u3 (by simp [RmL])
  obtain ⟨t1, s1⟩ := tm_rd f1
  have o1 : σ1 602 0 0 = σ 602 0 0 := by rw [e1, u3_f (by decide)]
  have tp1 : σ1 601 0 0 = σ 601 0 0 := by rw [e1, u3_f (by decide)]
  have re1 : σ1 50 0 = σ 50 0 := by rw [e1, u3_F (by decide)]
  refine ⟨N, (by exact ⟨⟨⟨⟨by omega, by omega, by omega⟩, by omega⟩, by omega⟩, ⟨by omega, by omega⟩, RdM_fr hN f1⟩), (fun σ2 r2 h2a => ?_)⟩
  intro _ _
  have ro := h2a
  rw [t1, k1] at ro
  refine ⟨fun c3 => ?_, fun c3 => ?_⟩
  · skip
    obtain ⟨q, x1, ⟨x2, x2b⟩, x3, ⟨x4, x5, x6⟩, x7⟩ := rmO_n ro (by assumption)
    have tq := x7.1
    have f3 : Fr RmL σ σ2 := Fr_trans f1 ro.1
    have x8 : pmI σ σ2 (σ 601 0 0) q.1 := pm_ba x7 tp1 re1
    refine ⟨(by omega), ?_⟩
    refine ⟨_, _, _, _, rfl, rfl, ?_⟩
    refine ⟨?_, ?_⟩
    · exact ⟨⟨f3, by omega⟩, tp1⟩
    · exact ⟨N, q, hN, ⟨x1, x3, by omega, by omega, x6⟩, ⟨by omega, by omega, by omega⟩, by rw [tp1, show σ 601 0 0 - σ 601 0 0 = 0 by omega]; exact rm_0 x8⟩
  · skip
    rw [show r2 = 0 by assumption] at ro
    obtain ⟨ee, x1, x2⟩ := rmO_0 ro
    exact ⟨by omega, hG _ _ (rmO_l (Fr_trans f1 ro.1) (show mapR revW _ = .inl ee by rw [x1]; rfl) x2)⟩
theorem G_Mo_readsRev (e : Nat) {B d : Nat} (hB : 48 ≤ B) (h_Mo_readsWithin : ∀ d, B + 1 ≤ d → Holds d I_Mo_readsWithin (S_Mo_readsWithin e)) (hd : B + 2 ≤ d) : Holds d I_Mo_readsRev (S_Mo_readsRev e) := by
  refine holds_of (d' := d - 1) (rt := 2) (cal := [(I_Mo_readsWithin, S_Mo_readsWithin e)]) (C := C_Mo_readsRev) m_Mo_readsRev o_Mo_readsRev rfl rfl (by omega) ?_ ?_
  · intro x hx
    simp only [List.mem_cons, List.not_mem_nil, or_false] at hx
    subst hx
    exact h_Mo_readsWithin _ (by omega)
  · intro as σ K has hσ hG
    have hG2 := hG
    unfold S_Mo_readsRev at hG2
    split at hG2
    · skip
      refine ⟨Nat.le_of_ble_eq_true rfl, (Iv_Mo_readsRev e σ), ?_, 1000, ?_⟩
      · intro k n z L σ' hk hL hs hP
        unfold Iv_Mo_readsRev at hk
        split at hk
        · cases hk
          obtain ⟨v1, v2, v3, rfl, hn, hQ⟩ := hP
          exact ⟨1000, l_Mo_readsRev_21 e σ K  hσ hG v1 v2 v3 σ' (hL _ (List.mem_of_getElem? (i := 1) rfl)) (hL _ (List.mem_of_getElem? (i := 2) rfl)) (hL _ (List.mem_of_getElem? (i := 3) rfl)) hs n hn hQ⟩
        · cases hk
      · exact e_Mo_readsRev e σ K  hσ hG
    · exact hG2.elim
theorem wl3 {T : Int → Int} {s : Int} (h : cd T s = 13279 ∨ cd T s = 4619) : we T s = s + 3 := by
  rcases cd_len (T := T) (s := s) (by omega) with ⟨z1, z2, z3⟩ | ⟨z1, z2, z3⟩ | ⟨z1, z2, z3⟩ <;> omega
theorem wl5 {T : Int → Int} {s : Int} (h : cd T s = 7217618) : we T s = s + 5 := by
  rcases cd_len (T := T) (s := s) (by omega) with ⟨z1, z2, z3⟩ | ⟨z1, z2, z3⟩ | ⟨z1, z2, z3⟩ <;> omega
/-- the same place, by a state that looked on -/
def loM (σ σ' : SS) (s : Int) : Prop := Fr [(597, 0)] σ σ' ∧ σ' 597 0 0 = s ∧ σ 597 0 0 ≤ s ∧ s ≤ σ 596 0 0
theorem lo_f {σ σ' : SS} {s : Int} (h : loM σ σ' s) : Fr RmL σ σ' ∧ (tpM σ' = tpM σ ∧ σ' 596 0 0 = σ 596 0 0) ∧ (σ' 602 0 0 = σ 602 0 0 ∧ σ' 601 0 0 = σ 601 0 0) ∧ σ' 50 0 = σ 50 0 :=
  ⟨Fr_mono h.1 (by simp [RmL]), tm_fr h.1 (by simp) (by simp), ⟨congrFun (h.1 602 0 (by simp)) 0, congrFun (h.1 601 0 (by simp)) 0⟩, h.1 _ _ (by simp)⟩
theorem lo_up {B : Int} {σ σ' σ2 : SS} {s r : Int} {R : PR} (h : loM σ σ' s) (ro : rmO B σ' σ2 R r) (hB : B ≤ 11000) : rmO 11000 σ σ2 R r :=
  rmO_up (lo_f h).1 (by have := h.2; omega) (lo_f h).2.2.1.1 (lo_f h).2.2.1.2 (lo_f h).2.2.2 (rmO_mo ro hB)
theorem lo_A {σ σ' : SS} {s : Int} (h : loM σ σ' s) (hA : RmA σ) : RmA σ' := by
  have l := lo_f h
  have h2 := h.2
  obtain ⟨hA, hT⟩ := hA
  exact ⟨⟨by omega, by omega, by omega⟩, by omega⟩
def VE_Mo_readsItem (e : Nat) (σ : SS) (K : AV → SS → Prop) : Prop :=
  (S_Mo_nextByte [vR 12 0] σ (kI fun r1 σ1 =>
    ((r1 ≠ 39 →
      (S_Mo_in [vL r1, vL 48, vL 57] σ1 (kI fun r2 σ2 =>
        ((r2 = 0 →
          (S_Mo_isWord [vR 12 0, vR 60 1] σ2 (kI fun r3 σ3 =>
            ((r3 = 0 →
              (S_Mo_isWord [vR 12 0, vR 60 2] σ3 (kI fun r4 σ4 =>
                ((r4 = 0 →
                  (S_Mo_isWord [vR 12 0, vR 60 3] σ4 (kI fun r5 σ5 =>
                    ((r5 = 0 →
                      (S_Mo_readsName [vR 12 0] σ5 (kI fun r6 σ6 =>
                        ((0 ≤ (r6 : Int) ∧ (r6 : Int) ≤ 1) ∧ K (vI r6) σ6)))) ∧
                    (r5 ≠ 0 →
                      (S_Mo_readsMorse [vR 12 0] σ5 (kI fun r7 σ7 =>
                        ((0 ≤ (r7 : Int) ∧ (r7 : Int) ≤ 1) ∧ K (vI r7) σ7)))))))) ∧
                (r4 ≠ 0 →
                  (S_Mo_readsFib [vR 12 0] σ4 (kI fun r8 σ8 =>
                    ((0 ≤ (r8 : Int) ∧ (r8 : Int) ≤ 1) ∧ K (vI r8) σ8)))))))) ∧
            (r3 ≠ 0 →
              (S_Mo_readsRev e [vR 12 0] σ3 (kI fun r9 σ9 =>
                ((0 ≤ (r9 : Int) ∧ (r9 : Int) ≤ 1) ∧ K (vI r9) σ9)))))))) ∧
        (r2 ≠ 0 →
          (S_Mo_readsTimes e [vR 12 0] σ2 (kI fun r10 σ10 =>
            ((0 ≤ (r10 : Int) ∧ (r10 : Int) ≤ 1) ∧ K (vI r10) σ10)))))))) ∧
    (r1 = 39 →
      (S_Mo_readsLetters [vR 12 0] σ1 (kI fun r11 σ11 =>
        ((0 ≤ (r11 : Int) ∧ (r11 : Int) ≤ 1) ∧ K (vI r11) σ11)))))))
theorem e_Mo_readsItem (e : Nat) (σ : SS) (K : AV → SS → Prop) (hs : okS σ) (hG : S_Mo_readsItem e [vR 12 0] σ K) : VE_Mo_readsItem e σ K := by
  unfold VE_Mo_readsItem
  obtain ⟨N, ⟨⟨hA0, hL⟩, hB, h1, hN⟩, hG⟩ := hG
  have hA := hA0.1
  have hT := hA0.2
  have ss := sk_skM (σ := σ) (a := σ 597 0 0) (by omega) (by omega)
  have sh : tpM σ (sk (tpM σ) (σ 597 0 0)) ≠ 39 → ¬ (48 ≤ tpM σ (sk (tpM σ) (σ 597 0 0)) ∧ tpM σ (sk (tpM σ) (σ 597 0 0)) ≤ 57) → sm (tpM σ (sk (tpM σ) (σ 597 0 0))) = true := fun z1 z2 => sm_t.mpr (by have := ib_t.mp hL; omega)
  refine ⟨(by first | assumption | omega | exact ⟨by first | assumption | omega, by omega⟩ | exact ⟨by assumption, by omega, by omega⟩ | exact ⟨by assumption, by omega, by omega, by omega⟩ | exact ⟨by assumption, by omega, by omega, by omega, by omega⟩ | exact ⟨by assumption, by omega, by omega, by omega, by omega, by omega⟩), (fun σ1 h1a h1b h1c => ?_)⟩
  intro _ _
  have lo : loM σ σ1 (sk (tpM σ) (σ 597 0 0)) := ⟨h1a, h1b, by omega, by omega⟩
  have l := lo_f lo
  have aa := lo_A lo hA0
  have lt := tm_lt (σ := σ) (sk (tpM σ) (σ 597 0 0))
  have l2 := lo.2
  have sp := h1b
  refine ⟨fun c2 => ?_, fun c2 => ?_⟩
  · skip
    refine bS_b0 (fun p3 _ => ?_) (fun p3 _ => ?_)
    · skip
      refine ⟨N, (by exact ⟨⟨aa, by have := dg_t.mpr p3; omega, by rw [l.2.1.1, sp]; exact dg_t.mpr p3⟩, by omega, ⟨by omega, by omega⟩, RdM_fr hN l.1⟩), (fun σ4 r4 h4a => ?_)⟩
      intro _ _
      have ro := h4a
      rw [l.2.1.1, sp] at ro
      exact ⟨rmO_01 ro, hG _ _ (by rw [pi_ti (dg_t.mpr p3)]; exact lo_up lo ro (by decide))⟩
    · skip
      refine ⟨(by exact ⟨⟨by omega, by omega, by omega⟩, by decide⟩), (fun σ4 h4a h4b h4c => ?_)⟩
      rw [l.2.1.1, sp, ss]
      have g1 := h4a
      have g2 := h4b
      rw [l.2.1.1, sp, ss] at g2
      have lo : loM σ σ4 (sk (tpM σ) (σ 597 0 0)) := ⟨Fr_trans lo.1 g1, g2, by omega, by omega⟩
      have l := lo_f lo
      have aa := lo_A lo hA0
      have l2 := lo.2
      have sp := g2
      refine bS_b0 (fun p5 _ => ?_) (fun p5 _ => ?_)
      · skip
        refine ⟨N, (by exact ⟨⟨aa, by have := wl3 (Or.inl (show cd (tpM σ) (sk (tpM σ) (σ 597 0 0)) = 13279 from p5)); have := we_le (σ := σ) (a := sk (tpM σ) (σ 597 0 0)) (by omega); omega⟩, by omega, ⟨by omega, by omega⟩, RdM_fr hN l.1⟩), (fun σ6 r6 h6a => ?_)⟩
        intro _ _
        have ro := h6a
        rw [l.2.1.1, sp] at ro
        rw [← wl3 (Or.inl (show cd (tpM σ) (sk (tpM σ) (σ 597 0 0)) = 13279 from p5))] at ro
        exact ⟨rmO_01 ro, hG _ _ (by rw [pi_wo (sh c2 p3), pw_rev p5]; exact lo_up lo ro (by decide))⟩
      · skip
        refine ⟨(by exact ⟨⟨by omega, by omega, by omega⟩, by decide⟩), (fun σ6 h6a h6b h6c => ?_)⟩
        rw [l.2.1.1, sp, ss]
        have g1 := h6a
        have g2 := h6b
        rw [l.2.1.1, sp, ss] at g2
        have lo : loM σ σ6 (sk (tpM σ) (σ 597 0 0)) := ⟨Fr_trans lo.1 g1, g2, by omega, by omega⟩
        have l := lo_f lo
        have aa := lo_A lo hA0
        have l2 := lo.2
        have sp := g2
        refine bS_b0 (fun p7 _ => ?_) (fun p7 _ => ?_)
        · skip
          refine ⟨(by exact ⟨aa, by have := wl3 (Or.inr (show cd (tpM σ) (sk (tpM σ) (σ 597 0 0)) = 4619 from p7)); have := we_le (σ := σ) (a := sk (tpM σ) (σ 597 0 0)) (by omega); omega, by omega⟩), (fun σ8 r8 h8a => ?_)⟩
          intro _ _
          have ro := h8a
          rw [l.2.1.1, sp] at ro
          rw [← wl3 (Or.inr (show cd (tpM σ) (sk (tpM σ) (σ 597 0 0)) = 4619 from p7))] at ro
          exact ⟨rmO_01 ro, hG _ _ (by rw [pi_wo (sh c2 p3), pw_fib p7]; exact lo_up lo ro (by decide))⟩
        · skip
          refine ⟨(by exact ⟨⟨by omega, by omega, by omega⟩, by decide⟩), (fun σ8 h8a h8b h8c => ?_)⟩
          rw [l.2.1.1, sp, ss]
          have g1 := h8a
          have g2 := h8b
          rw [l.2.1.1, sp, ss] at g2
          have lo : loM σ σ8 (sk (tpM σ) (σ 597 0 0)) := ⟨Fr_trans lo.1 g1, g2, by omega, by omega⟩
          have l := lo_f lo
          have aa := lo_A lo hA0
          have l2 := lo.2
          have sp := g2
          refine bS_b0 (fun p9 _ => ?_) (fun p9 _ => ?_)
          · skip
            refine ⟨(by exact ⟨aa, by have := wl5 (show cd (tpM σ) (sk (tpM σ) (σ 597 0 0)) = 7217618 from p9); have := we_le (σ := σ) (a := sk (tpM σ) (σ 597 0 0)) (by omega); omega, by omega⟩), (fun σ10 r10 h10a => ?_)⟩
            intro _ _
            have ro := h10a
            rw [l.2.1.1, sp] at ro
            rw [← wl5 (show cd (tpM σ) (sk (tpM σ) (σ 597 0 0)) = 7217618 from p9)] at ro
            exact ⟨rmO_01 ro, hG _ _ (by rw [pi_wo (sh c2 p3), pw_mor p9]; exact lo_up lo ro (by decide))⟩
          · skip
            refine ⟨N, (by exact ⟨⟨aa, by have := sm_t.mp (sh c2 p3); omega, by rw [l.2.1.1, sp]; exact sh c2 p3⟩, by omega, RdM_fr hN l.1, by rw [l.2.1.1, sp]; exact p5, by rw [l.2.1.1, sp]; exact p7, by rw [l.2.1.1, sp]; exact p9⟩), (fun σ10 r10 h10a => ?_)⟩
            intro _ _
            have ro := h10a (pInside (tpM σ) N e)
            rw [l.2.1.1, sp] at ro
            exact ⟨rmO_01 ro, hG _ _ (by rw [pi_wo (sh c2 p3)]; exact lo_up lo ro (by decide))⟩
  · skip
    refine ⟨(by exact ⟨aa, by omega, by rw [l.2.1.1, sp]; assumption, by omega⟩), (fun σ3 r3 h3a => ?_)⟩
    intro _ _
    have ro := h3a
    rw [l.2.1.1, sp] at ro
    exact ⟨rmO_01 ro, hG _ _ (by rw [pi_le (by assumption)]; exact lo_up lo ro (by decide))⟩
theorem G_Mo_readsItem (e : Nat) {B d : Nat} (hB : 48 ≤ B) (h_Mo_readsTimes : ∀ d, B + 2 ≤ d → Holds d I_Mo_readsTimes (S_Mo_readsTimes e)) (h_Mo_readsRev : ∀ d, B + 2 ≤ d → Holds d I_Mo_readsRev (S_Mo_readsRev e)) (hd : B + 4 ≤ d) : Holds d I_Mo_readsItem (S_Mo_readsItem e) := by
  refine holds_of (d' := d - 1) (rt := 2) (cal := [(I_Mo_nextByte, S_Mo_nextByte), (I_Mo_readsLetters, S_Mo_readsLetters), (I_Mo_in, S_Mo_in), (I_Mo_readsTimes, S_Mo_readsTimes e), (I_Mo_isWord, S_Mo_isWord), (I_Mo_readsRev, S_Mo_readsRev e), (I_Mo_readsFib, S_Mo_readsFib), (I_Mo_readsMorse, S_Mo_readsMorse), (I_Mo_readsName, S_Mo_readsName)]) (C := C_Mo_readsItem) m_Mo_readsItem o_Mo_readsItem rfl rfl (by omega) ?_ ?_
  · intro x hx
    simp only [List.mem_cons, List.not_mem_nil, or_false] at hx
    rcases hx with rfl | rfl | rfl | rfl | rfl | rfl | rfl | rfl | rfl
    · exact H_Mo_nextByte (by omega)
    · exact H_Mo_readsLetters (by omega)
    · exact H_Mo_in (by omega)
    · exact h_Mo_readsTimes _ (by omega)
    · exact H_Mo_isWord (by omega)
    · exact h_Mo_readsRev _ (by omega)
    · exact H_Mo_readsFib (by omega)
    · exact H_Mo_readsMorse (by omega)
    · exact H_Mo_readsName (by omega)
  · intro as σ K has hσ hG
    have hG2 := hG
    unfold S_Mo_readsItem at hG2
    split at hG2
    · skip
      refine ⟨Nat.le_of_ble_eq_true rfl, (fun _ => none), ?_, 1000, ?_⟩
      · intro k n z L σ' hk hL hs hP
        cases hk
      · exact e_Mo_readsItem e σ K  hσ hG
    · exact hG2.elim
def rwM (e : Nat) (N : List (Int × PW)) (σ0 σ : SS) : Prop := (Fr RmL σ0 σ ∧ σ 602 0 0 = σ0 602 0 0) ∧ ∃ i : Int, ((σ0 597 0 0 ≤ σ 597 0 0 ∧ σ 597 0 0 ≤ σ0 596 0 0) ∧ 0 ≤ i ∧ i ≤ σ 597 0 0) ∧ ((i = 0 ∧ loM σ0 σ (sk (tpM σ0) (σ0 597 0 0)) ∧ ib (tpM σ0 (sk (tpM σ0) (σ0 597 0 0))) = true) ∨ ((1 ≤ i ∧ σ0 597 0 0 < σ 597 0 0) ∧ ∃ u : PW, pRow (tpM σ0) N e (σ0 597 0 0) = pRowF (tpM σ0) N (pInside (tpM σ0) N e) (301 - i).toNat u (σ 597 0 0) ∧ pmI σ0 σ (σ0 601 0 0) u ∧ u.2 ≤ 120))
theorem rwM_top {e : Nat} {N : List (Int × PW)} {σ0 σ : SS} (h : rwM e N σ0 σ) : σ0 601 0 0 ≤ σ 601 0 0 ∧ σ 601 0 0 ≤ σ0 601 0 0 + 120 := by
  obtain ⟨_, i, _, h⟩ := h
  rcases h with ⟨_, h, _⟩ | ⟨_, u, _, h, h2⟩
  · have := (lo_f h).2.2.1.2; omega
  · have := h.1; omega
theorem rwM_it {e : Nat} {N : List (Int × PW)} {σ0 σ σ1 σ2 : SS} {r : Int} (hA : RmA σ0) (h : rwM e N σ0 σ) (f1 : Fr [(597, 0)] σ σ1) (f2 : σ1 597 0 0 = sk (tpM σ0) (σ 597 0 0)) (f3 : σ 597 0 0 ≤ σ1 597 0 0) (hi : ib (tpM σ0 (σ1 597 0 0)) = true) (ro : rmO 11000 σ1 σ2 (pItem (tpM σ0) N (pInside (tpM σ0) N e) (σ1 597 0 0)) r) : (r ≠ 0 → σ2 601 0 0 - σ0 601 0 0 ≤ 120 → rwM e N σ0 σ2 ∧ σ 597 0 0 < σ2 597 0 0) ∧ (r ≠ 0 → 120 < σ2 601 0 0 - σ0 601 0 0 → Fr RmL σ0 σ2 ∧ pRow (tpM σ0) N e (σ0 597 0 0) = .inl (8 * σ1 597 0 0 + 3)) ∧ (r = 0 → rmO 120 σ0 σ2 (pRow (tpM σ0) N e (σ0 597 0 0)) 0) := by
  obtain ⟨⟨a1, a2⟩, i, ⟨⟨a3, a4⟩, a5, a6⟩, a7⟩ := h
  have fr1 : Fr RmL σ0 σ1 := Fr_trans a1 (Fr_mono f1 (by simp [RmL]))
  have fr2 : Fr RmL σ0 σ2 := Fr_trans fr1 ro.1
  have s1 := (tm_rd fr1).2
  have tp1 : σ1 601 0 0 = σ 601 0 0 := congrFun (f1 601 0 (by simp)) 0
  have re1 : σ1 50 0 = σ 50 0 := f1 _ _ (by simp)
  have op1 : σ1 602 0 0 = σ0 602 0 0 := (congrFun (f1 602 0 (by simp)) 0).trans a2
  have ss := sk_skM (σ := σ0) (a := σ0 597 0 0) hA.1.2.2 hA.1.1
  have hib : ib (tpM σ0 (sk (tpM σ0) (σ 597 0 0))) = true := by rw [← f2]; exact hi
  rw [f2] at ro
  have hi3 : i ≤ 300 := by have := hA.1.2.2; omega
  have k0 : (i = 0 ∧ loM σ0 σ (sk (tpM σ0) (σ0 597 0 0)) ∧ sk (tpM σ0) (σ 597 0 0) = sk (tpM σ0) (σ0 597 0 0)) ∨ ((1 ≤ i ∧ σ0 597 0 0 < σ 597 0 0) ∧ ∃ u : PW, pRow (tpM σ0) N e (σ0 597 0 0) = pRowF (tpM σ0) N (pInside (tpM σ0) N e) (301 - i).toNat u (σ 597 0 0) ∧ pmI σ0 σ (σ0 601 0 0) u ∧ u.2 ≤ 120) := by
    rcases a7 with ⟨b1, b2, b3⟩ | b
    · exact Or.inl ⟨b1, b2, by rw [b2.2.1, ss]⟩
    · exact Or.inr b
  refine ⟨fun hr ht => ?_, fun hr ht => ⟨fr2, ?_⟩, fun hr => ?_⟩
  · obtain ⟨q, x1, ⟨x2, x2b⟩, x3, ⟨x4, x5, x6⟩, x7⟩ := rmO_n ro hr
    have gt : σ 597 0 0 < σ2 597 0 0 := by omega
    have y7 : pmI σ σ2 (σ 601 0 0) q.1 := pm_ba x7 tp1 re1
    have tq := y7.1
    refine ⟨⟨⟨fr2, x2b.trans op1⟩, i + 1, ⟨⟨by omega, by omega⟩, by omega, by omega⟩, Or.inr ⟨⟨by omega, by omega⟩, ?_⟩⟩, gt⟩
    rcases k0 with ⟨b1, b2, b3⟩ | ⟨⟨b1, b1b⟩, u, b2, b3, b4⟩
    · have lf := lo_f b2
      have ql : q.1.2 ≤ 120 := by omega
      refine ⟨q.1, ?_, pm_ba y7 lf.2.2.1.2 lf.2.2.2, ql⟩
      rw [b3] at x1
      rw [pr_1, lim_r x1 (by omega), x3, b1]
      rfl
    · have tu := b3.1.2
      refine ⟨cat u q.1, ?_, pm_cat b3 y7, by show u.2 + q.1.2 ≤ 120; omega⟩
      rw [b2, pr_s hi3 hib, lim_r x1 (by omega), x3]
  · obtain ⟨q, x1, ⟨x2, x2b⟩, x3, ⟨x4, x5, x6⟩, x7⟩ := rmO_n ro hr
    have tq := x7.1
    rw [f2]
    rcases k0 with ⟨b1, b2, b3⟩ | ⟨⟨b1, b1b⟩, u, b2, b3, b4⟩
    · have lf := lo_f b2
      rw [b3] at x1
      rw [b3, pr_1, lim_f x1 (by omega)]
    · have tu := b3.1.2
      rw [b2, pr_s hi3 hib, lim_f x1 (by omega)]
  · rw [hr] at ro
    obtain ⟨ee, x1, x2⟩ := rmO_0 ro
    refine rmO_l fr2 ?_ x2
    rcases k0 with ⟨b1, b2, b3⟩ | ⟨⟨b1, b1b⟩, u, b2, b3, b4⟩
    · rw [b3] at x1
      rw [pr_1, lim_l x1]
    · rw [b2, pr_s hi3 hib, lim_l x1]
theorem rwM_e {e : Nat} {N : List (Int × PW)} {σ0 σ σ1 : SS} (hA : RmA σ0) (h : rwM e N σ0 σ) (f1 : Fr [(597, 0)] σ σ1) (f2 : σ1 597 0 0 = sk (tpM σ0) (σ 597 0 0)) (f3 : σ 597 0 0 ≤ σ1 597 0 0 ∧ σ1 597 0 0 ≤ σ0 596 0 0) (hi : ib (tpM σ0 (sk (tpM σ0) (σ 597 0 0))) = false) : rmO 120 σ0 σ1 (pRow (tpM σ0) N e (σ0 597 0 0)) 1 := by
  obtain ⟨⟨a1, a2⟩, i, ⟨⟨a3, a4⟩, a5, a6⟩, a7⟩ := h
  have fr1 : Fr RmL σ0 σ1 := Fr_trans a1 (Fr_mono f1 (by simp [RmL]))
  have tp1 : σ1 601 0 0 = σ 601 0 0 := congrFun (f1 601 0 (by simp)) 0
  have re1 : σ1 50 0 = σ 50 0 := f1 _ _ (by simp)
  have op1 : σ1 602 0 0 = σ0 602 0 0 := (congrFun (f1 602 0 (by simp)) 0).trans a2
  have ss := sk_skM (σ := σ0) (a := σ0 597 0 0) hA.1.2.2 hA.1.1
  have hi3 : i ≤ 300 := by have := hA.1.2.2; omega
  rcases a7 with ⟨b1, b2, b3⟩ | ⟨⟨b1, b1b⟩, u, b2, b3, b4⟩
  · rw [b2.2.1, ss, b3] at hi
    cases hi
  · exact rmO_r fr1 (b2.trans (pr_n hi3 hi)) op1 f2 ⟨by omega, by omega⟩ b4 (pm_fr b3 tp1 re1)
abbrev Lp_Mo_readsRow_12 (e : Nat) (σ0 : SS) (n : Nat) (L : List AV) (σ : SS) : Prop := ∃ (v1 : Int), L = [vR 12 0, vI v1, none] ∧ n = (1000 - σ 597 0 0).toNat ∧ ((v1 = σ0 601 0 0) ∧ (∃ N, RdM σ0 N ∧ rwM e N σ0 σ))
def Iv_Mo_readsRow (e : Nat) (σ0 : SS) (k : Nat) : Option (List Nat × (Nat → List AV → SS → Prop)) := match k with
  | 12 => some ([2], Lp_Mo_readsRow_12 e σ0)
  | _ => none
def VE_Mo_readsRow (e : Nat) (σ : SS) (K : AV → SS → Prop) : Prop :=
  (S_Mo_isItem [vR 12 0] σ (kI fun r1 σ1 =>
    ((r1 ≠ 0 →
      (∃ n', Lp_Mo_readsRow_12 e σ n' [vR 12 0, vI (σ 601 0 0), none] σ1)) ∧
    (r1 = 0 →
      (S_Mo_fails [vR 12 0, vI 1, vI (σ1 597 0 0)] σ1 (kI fun r2 σ2 =>
        ((0 ≤ (r2 : Int) ∧ (r2 : Int) ≤ 1) ∧ K (vI r2) σ2)))))))
def VL_Mo_readsRow_12 (e : Nat) (σ0 : SS) (K : AV → SS → Prop) (v1 : Int) (σ : SS) (n : Nat) : Prop :=
  (S_Mo_isItem [vR 12 0] σ (kI fun r1 σ1 =>
    ((r1 = 0 →
      ((0 ≤ (1 : Int) ∧ (1 : Int) ≤ 1) ∧ K (vI 1) σ1)) ∧
    (r1 ≠ 0 →
      (S_Mo_readsItem e [vR 12 0] σ1 (kI fun r2 σ2 =>
        ((r2 ≠ 0 →
          (InR ((σ2 601 0 0) - v1) ∧
          ((((σ2 601 0 0) - v1) ≤ 120 →
            (∃ n', n' < n ∧ Lp_Mo_readsRow_12 e σ0 n' [vR 12 0, vI v1, none] σ2)) ∧
          ((120 : Int) < ((σ2 601 0 0) - v1) →
            (S_Mo_fails [vR 12 0, vI 3, vI (σ1 597 0 0)] σ2 (kI fun r3 σ3 =>
              ((0 ≤ (r3 : Int) ∧ (r3 : Int) ≤ 1) ∧ K (vI r3) σ3))))))) ∧
        (r2 = 0 →
          ((0 ≤ (0 : Int) ∧ (0 : Int) ≤ 1) ∧ K (vI 0) σ2)))))))))
theorem l_Mo_readsRow_12 (e : Nat) (σ0 : SS) (K : AV → SS → Prop) (hs0 : okS σ0) (hG : S_Mo_readsRow e [vR 12 0] σ0 K) (v1 : Int) (σ : SS) (hv1 : InR v1) (hs : okS σ) (n : Nat) (hn : n = (1000 - σ 597 0 0).toNat) (hQ : (v1 = σ0 601 0 0) ∧ (∃ N, RdM σ0 N ∧ rwM e N σ0 σ)) : VL_Mo_readsRow_12 e σ0 K v1 σ n := by
  unfold VL_Mo_readsRow_12
  obtain ⟨N, ⟨⟨hA0, hL⟩, h1, hN⟩, hG⟩ := hG
  have hA := hA0.1
  have hT := hA0.2
  obtain ⟨q1, N', hN', q2⟩ := hQ
  have eN := RdM_u hN hN'
  subst eN
  have qt := rwM_top q2
  have qf := tm_rd q2.1.1
  have qo := q2.1.2
  have qs : σ0 597 0 0 ≤ σ 597 0 0 ∧ σ 597 0 0 ≤ σ0 596 0 0 := by
    obtain ⟨_, i, z, _⟩ := q2
    exact z.1
  refine ⟨(by omega), (fun σ1 h1a h1b h1c => ?_)⟩
  rw [qf.1]
  have f1 := h1a
  have f2 := h1b
  have f3 := h1c
  rw [qf.1] at f2
  have f1R : Fr RmL σ0 σ1 := Fr_trans q2.1.1 (Fr_mono f1 (by simp [RmL]))
  have l1 := tm_rd f1R
  have tp1 : σ1 601 0 0 = σ 601 0 0 := congrFun (f1 601 0 (by simp)) 0
  have op1 : σ1 602 0 0 = σ 602 0 0 := congrFun (f1 602 0 (by simp)) 0
  have ss2 := sk_skM (σ := σ0) (a := σ 597 0 0) hA.2.2 (by omega)
  refine bS_b0 (fun p2 _ => ?_) (fun p2 _ => ?_)
  · skip
    refine ⟨N, (by exact ⟨⟨⟨⟨by omega, by omega, by omega⟩, by omega⟩, by rw [l1.1, f2, ss2]; exact p2⟩, by omega, ⟨by omega, by omega⟩, RdM_fr hN f1R⟩), (fun σ3 r3 h3a => ?_)⟩
    intro _ _
    have ro := h3a
    rw [l1.1, f2, ss2, ← f2] at ro
    have it := rwM_it hA0 q2 f1 f2 f3.1 (by rw [f2]; exact p2) ro
    refine ⟨fun c4 => ?_, fun c4 => ?_⟩
    · skip
      obtain ⟨q, x1, ⟨x2, x2b⟩, x3, ⟨x4, x5, x6⟩, x7⟩ := rmO_n ro (by assumption)
      have tq := x7.1
      refine ⟨(by omega), ?_⟩
      refine ⟨fun c5 => ?_, fun c5 => ?_⟩
      · skip
        refine ⟨_, ?_, _, rfl, rfl, ?_⟩
        · have := (it.1 c4 (by omega)).2; omega
        · refine ⟨?_, ?_⟩
          · first | rfl | assumption | omega
          · exact ⟨N, hN, (it.1 c4 (by omega)).1⟩
      · skip
        refine ⟨(by omega), ?_⟩
        intro _ _
        have iz := it.2.1 c4 (by omega)
        exact ⟨by omega, hG _ _ (rmO_l (Fr_trans iz.1 (Fr_u3 (by simp [RmL]))) iz.2 u3_s)⟩
    · skip
      exact ⟨by omega, hG _ _ (it.2.2 c4)⟩
  · skip
    exact ⟨by omega, hG _ _ (rwM_e hA0 q2 f1 f2 (by omega) (Bool.eq_false_iff.mpr p2))⟩
theorem e_Mo_readsRow (e : Nat) (σ : SS) (K : AV → SS → Prop) (hs : okS σ) (hG : S_Mo_readsRow e [vR 12 0] σ K) : VE_Mo_readsRow e σ K := by
  unfold VE_Mo_readsRow
  obtain ⟨N, ⟨⟨hA0, hL⟩, h1, hN⟩, hG⟩ := hG
  have hA := hA0.1
  have hT := hA0.2
  refine ⟨(by omega), (fun σ1 h1a h1b h1c => ?_)⟩
  have lo : loM σ σ1 (sk (tpM σ) (σ 597 0 0)) := ⟨h1a, h1b, by omega, by omega⟩
  have l := lo_f lo
  refine bS_b1 (fun p2 _ => ?_) (fun p2 _ => ?_)
  · skip
    refine ⟨_, _, rfl, rfl, ?_⟩
    refine ⟨?_, ?_⟩
    · first | rfl | assumption | omega
    · exact ⟨N, hN, ⟨l.1, l.2.2.1.1⟩, 0, ⟨⟨by omega, by omega⟩, by omega, by omega⟩, Or.inl ⟨rfl, lo, p2⟩⟩
  · skip
    refine ⟨(by omega), ?_⟩
    intro _ _
    exact ⟨by omega, hG _ _ (rmO_l (Fr_trans l.1 (Fr_u3 (by simp [RmL]))) (by rw [pr_1, lim_l (pi_no (Bool.eq_false_iff.mpr p2))]) (by rw [u3_s, lo.2.1]))⟩
theorem G_Mo_readsRow (e : Nat) {B d : Nat} (hB : 48 ≤ B) (h_Mo_readsItem : ∀ d, B + 4 ≤ d → Holds d I_Mo_readsItem (S_Mo_readsItem e)) (hd : B + 5 ≤ d) : Holds d I_Mo_readsRow (S_Mo_readsRow e) := by
  refine holds_of (d' := d - 1) (rt := 2) (cal := [(I_Mo_isItem, S_Mo_isItem), (I_Mo_fails, S_Mo_fails), (I_Mo_readsItem, S_Mo_readsItem e)]) (C := C_Mo_readsRow) m_Mo_readsRow o_Mo_readsRow rfl rfl (by omega) ?_ ?_
  · intro x hx
    simp only [List.mem_cons, List.not_mem_nil, or_false] at hx
    rcases hx with rfl | rfl | rfl
    · exact H_Mo_isItem (by omega)
    · exact H_Mo_fails (by omega)
    · exact h_Mo_readsItem _ (by omega)
  · intro as σ K has hσ hG
    have hG2 := hG
    unfold S_Mo_readsRow at hG2
    split at hG2
    · skip
      refine ⟨Nat.le_of_ble_eq_true rfl, (Iv_Mo_readsRow e σ), ?_, 1000, ?_⟩
      · intro k n z L σ' hk hL hs hP
        unfold Iv_Mo_readsRow at hk
        split at hk
        · cases hk
          obtain ⟨v1, rfl, hn, hQ⟩ := hP
          exact ⟨1000, l_Mo_readsRow_12 e σ K  hσ hG v1 σ' (hL _ (List.mem_of_getElem? (i := 1) rfl)) hs n hn hQ⟩
        · cases hk
      · exact e_Mo_readsRow e σ K  hσ hG
    · exact hG2.elim
theorem H_Mo_row_all : ∀ (e d : Nat), 53 + 6 * e ≤ d → Holds d I_Mo_readsRow (S_Mo_readsRow e) := by
  have step : ∀ (e B : Nat), 48 ≤ B → (∀ d, B + 0 ≤ d → Holds d I_Mo_readsRow (S_Mo_readsRowB e)) → ∀ d, B + 5 ≤ d → Holds d I_Mo_readsRow (S_Mo_readsRow e) := by
    intro e B hB h0 d hd
    have hI : ∀ d, B + 1 ≤ d → Holds d I_Mo_readsWithin (S_Mo_readsWithin e) := fun d hd => G_Mo_readsWithin e hB h0 hd
    have hT : ∀ d, B + 2 ≤ d → Holds d I_Mo_readsTimes (S_Mo_readsTimes e) := fun d hd => G_Mo_readsTimes e hB hI hd
    have hR : ∀ d, B + 2 ≤ d → Holds d I_Mo_readsRev (S_Mo_readsRev e) := fun d hd => G_Mo_readsRev e hB hI hd
    have hM : ∀ d, B + 4 ≤ d → Holds d I_Mo_readsItem (S_Mo_readsItem e) := fun d hd => G_Mo_readsItem e hB hT hR hd
    exact G_Mo_readsRow e hB hM hd
  intro e
  induction e with
  | zero =>
    intro d hd
    refine step 0 48 (by omega) (fun d hd => ⟨m_Mo_readsRow, fun _ _ _ _ _ _ _ _ _ _ _ hG => hG.elim⟩) d (by omega)
  | succ e ih =>
    intro d hd
    exact step (e + 1) (53 + 6 * e) (by omega) (fun d hd => ih d (by omega)) d (by omega)
def S_Mo_readsRowT : GS := S_Mo_readsRow 6
theorem H_Mo_readsRowT {d : Nat} (hd : 90 ≤ d) : Holds d I_Mo_readsRow S_Mo_readsRowT := H_Mo_row_all 6 d (by omega)
