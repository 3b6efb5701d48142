theorem mul_b2 {x y : Int} (h1 : 0 ≤ x) (h2 : x ≤ 60) (h3 : 0 ≤ y) (h4 : y ≤ 120) : 0 ≤ x * y ∧ x * y ≤ 7200 := by
  have a := Int.mul_le_mul_of_nonneg_left h4 h1
  have b := Int.mul_nonneg h1 h3
  omega
theorem pt_big {T : Int → Int} {ins : Int → PR} {a : Int} (h : 60 < nv T a) : pTimes T ins a = .inl (8 * a + 2) := if_pos h
theorem pt_l {T : Int → Int} {ins : Int → PR} {a e : Int} (h : nv T a ≤ 60) (h2 : ins (de T a) = .inl e) : pTimes T ins a = .inl e := by
  unfold pTimes
  rw [if_neg (by omega), h2]
  rfl
theorem pt_r {T : Int → Int} {ins : Int → PR} {a : Int} {q : PW × Int} (h : nv T a ≤ 60) (h2 : ins (de T a) = .inr q) : pTimes T ins a = .inr (repW q.1 (nv T a), q.2) := by
  unfold pTimes
  rw [if_neg (by omega), h2]
  rfl
theorem pl_of {σ0 σ : SS} {t : Int} {u : PW} (h : plI σ0 σ t u) : plI σ0 σ t (nW u.1 u.2) :=
  ⟨h.1, h.2.1, fun x x0 x1 => by
    rw [show (nW u.1 u.2).1 x = u.1 x from atW_in x0 x1]
    exact h.2.2 x x0 x1⟩
/-- so far repeated: the pile holds the first x of them -/
def tmI (σ0 σ : SS) (f : Int → Int) (k m x : Int) : Prop := (k = 0 ∧ 0 ≤ x ∧ σ 223 0 0 = σ0 223 0 0 ∧ ∀ y, y < σ0 223 0 0 → σ 24 0 y = σ0 24 0 y) ∨ (1 ≤ k ∧ m ≤ x ∧ x ≤ k * m ∧ plI σ0 σ (σ0 223 0 0) (nW (fun y => f (y % m)) x))
theorem tm_end {σ0 σ : SS} {f : Int → Int} {k m x : Int} (h : tmI σ0 σ f k m x) (hx : k * m ≤ x) : plI σ0 σ (σ0 223 0 0) (nW (fun y => f (y % m)) (k * m)) := by
  rcases h with ⟨h1, h2, h3, h4⟩ | ⟨h1, h2, h3, h4⟩
  · rw [h1, Int.zero_mul]
    exact ⟨⟨Int.le_refl _, by show _ = _ + (0 : Int); omega⟩, h4, fun x x0 x1 => absurd x1 (by show ¬ x < 0; omega)⟩
  · exact pl_cg h4 (by omega) (fun _ _ _ => rfl)
theorem tm_st {σ0 σ σ' : SS} {f : Int → Int} {k m x a : Int} (h : tmI σ0 σ f k m x) (hm : 0 ≤ m) (hx : x < k * m) (ha : a = σ 24 0 (σ0 223 0 0 + (x - m))) (e : u3 (u3 σ 24 0 (σ 223 0 0) a) 223 0 0 (σ 223 0 0 + 1) = σ') : tmI σ0 σ' f k m (x + 1) ∧ Fr [(223, 0), (24, 0)] σ σ' := by
  rcases h with ⟨h1, h2, h3, h4⟩ | ⟨h1, h2, h3, h4⟩
  · rw [h1, Int.zero_mul] at hx
    omega
  · have pa := pl_at h4 (x := x - m) (by omega) (by
      rcases (by omega : 0 < m ∨ m = 0) with z | z
      · omega
      · rw [z, Int.mul_zero] at hx; omega)
    obtain ⟨g, dd, _⟩ := pl_more h4 (by rw [ha, pa.1]; exact congrArg f (by rw [Int.sub_emod_right])) (by rw [ha, pa.1]; exact pa.2) e
    exact ⟨Or.inr ⟨h1, by omega, by omega, g⟩, dd⟩
theorem tm_top {σ0 σ : SS} {f : Int → Int} {k m x : Int} (h : tmI σ0 σ f k m x) (hx : x < k * m) : σ 223 0 0 = σ0 223 0 0 + x ∧ m ≤ x ∧ ∀ y, 0 ≤ y → y < x → 0 ≤ σ 24 0 (σ0 223 0 0 + y) ∧ σ 24 0 (σ0 223 0 0 + y) < 26 := by
  rcases h with ⟨h1, h2, h3, h4⟩ | ⟨h1, h2, h3, h4⟩
  · rw [h1, Int.zero_mul] at hx
    omega
  · refine ⟨(pl_n h4).2, h2, fun y y0 y1 => ?_⟩
    have := pl_at h4 y0 y1
    rw [this.1]
    exact this.2
abbrev Lp_Re_readTimes_47 (e : Nat) (a1 : Int) (a2 : Int) (σ0 : SS) (n : Nat) (L : List AV) (σ : SS) : Prop := ∃ (v3 : Int) (v4 : Int) (v5 : Int) (v6 : Int) (v7 : Int), L = [vR 3 0, vI a1, vI a2, vI v3, vI v4, vI v5, vI v6, vI v7] ∧ n = (100000 - v7).toNat ∧ ((Fr RdL σ0 σ ∧ σ 229 0 = σ0 229 0) ∧ (v4 = σ0 223 0 0) ∧ (∃ (N : List (Int × PW)) (q : PW × Int), RdN σ0 N ∧ (pTimes (tpC σ0) (pInside (tpC σ0) N e) (σ0 228 0 0) = .inr (repW q.1 v5, q.2) ∧ v6 = q.1.2 ∧ σ 228 0 0 = q.2 ∧ σ0 228 0 0 < q.2 ∧ q.2 ≤ σ0 221 0 0) ∧ ((0 ≤ v5 ∧ v5 ≤ 60) ∧ (0 ≤ v6 ∧ v6 ≤ 120) ∧ v5 * v6 ≤ a2 - σ0 223 0 0) ∧ tmI σ0 σ q.1.1 v5 v6 (v7 - v4)))
def Iv_Re_readTimes (e : Nat) (a1 : Int) (a2 : Int) (σ0 : SS) (k : Nat) : Option (List Nat × (Nat → List AV → SS → Prop)) := match k with
  | 47 => some ([], Lp_Re_readTimes_47 e a1 a2 σ0)
  | _ => none
def VE_Re_readTimes (e : Nat) (a1 : Int) (a2 : Int) (σ : SS) (K : AV → SS → Prop) : Prop :=
  (S_Re_readNumber [vR 3 0, vI 60] σ (kI fun r1 σ1 =>
    ((r1 < 0 →
      ((0 ≤ (0 : Int) ∧ (0 : Int) ≤ 1) ∧ K (vI 0) σ1)) ∧
    ((0 : Int) ≤ r1 →
      (S_Re_readInside e [vR 3 0, vI a1] σ1 (kI fun r2 σ2 =>
        ((r2 ≠ 0 →
          (InR ((σ2 223 0 0) - (σ 223 0 0)) ∧
          (InR (r1 * ((σ2 223 0 0) - (σ 223 0 0))) ∧
          (InR ((σ 223 0 0) + (r1 * ((σ2 223 0 0) - (σ 223 0 0)))) ∧
          ((((σ 223 0 0) + (r1 * ((σ2 223 0 0) - (σ 223 0 0)))) ≤ a2 →
            ((r1 ≠ 0 →
              (∀ σ3 : SS, σ3 = u3 σ2 223 0 0 (σ2 223 0 0) →
              (InR ((σ 223 0 0) + ((σ2 223 0 0) - (σ 223 0 0))) ∧
              (∃ n', Lp_Re_readTimes_47 e a1 a2 σ n' [vR 3 0, vI a1, vI a2, vI (σ 228 0 0), vI (σ 223 0 0), vI r1, vI ((σ2 223 0 0) - (σ 223 0 0)), vI ((σ 223 0 0) + ((σ2 223 0 0) - (σ 223 0 0)))] σ3)))) ∧
            (r1 = 0 →
              (∀ σ4 : SS, σ4 = u3 σ2 223 0 0 (σ 223 0 0) →
              (InR ((σ 223 0 0) + ((σ2 223 0 0) - (σ 223 0 0))) ∧
              (∃ n', Lp_Re_readTimes_47 e a1 a2 σ n' [vR 3 0, vI a1, vI a2, vI (σ 228 0 0), vI (σ 223 0 0), vI r1, vI ((σ2 223 0 0) - (σ 223 0 0)), vI ((σ 223 0 0) + ((σ2 223 0 0) - (σ 223 0 0)))] σ4)))))) ∧
          (a2 < ((σ 223 0 0) + (r1 * ((σ2 223 0 0) - (σ 223 0 0)))) →
            (S_Re_fail [vR 3 0, vI (σ 228 0 0), vI 3] σ2 (kI fun r5 σ5 =>
              ((0 ≤ (r5 : Int) ∧ (r5 : Int) ≤ 1) ∧ K (vI r5) σ5))))))))) ∧
        (r2 = 0 →
          ((0 ≤ (0 : Int) ∧ (0 : Int) ≤ 1) ∧ K (vI 0) σ2)))))))))
def VL_Re_readTimes_47 (e : Nat) (a1 : Int) (a2 : Int) (σ0 : SS) (K : AV → SS → Prop) (v3 : Int) (v4 : Int) (v5 : Int) (v6 : Int) (v7 : Int) (σ : SS) (n : Nat) : Prop :=
  (InR (v5 * v6) ∧
  (InR (v4 + (v5 * v6)) ∧
  (((v4 + (v5 * v6)) ≤ v7 →
    ((0 ≤ (1 : Int) ∧ (1 : Int) ≤ 1) ∧ K (vI 1) σ)) ∧
  (v7 < (v4 + (v5 * v6)) →
    (InR (v7 - v6) ∧
    (S_Re_pileAt [vR 3 0, vI (v7 - v6)] σ (kI fun r1 σ1 =>
      (S_Re_push [vR 3 0, vI r1] σ1 (kV fun σ2 =>
        (InR (v7 + 1) ∧
        (∃ n', n' < n ∧ Lp_Re_readTimes_47 e a1 a2 σ0 n' [vR 3 0, vI a1, vI a2, vI v3, vI v4, vI v5, vI v6, vI (v7 + 1)] σ2)))))))))))
theorem l_Re_readTimes_47 (e : Nat) (a1 : Int) (a2 : Int) (σ0 : SS) (K : AV → SS → Prop) (ha1 : InR a1) (ha2 : InR a2) (hs0 : okS σ0) (hG : S_Re_readTimes e [vR 3 0, vI a1, vI a2] σ0 K) (v3 : Int) (v4 : Int) (v5 : Int) (v6 : Int) (v7 : Int) (σ : SS) (hv3 : InR v3) (hv4 : InR v4) (hv5 : InR v5) (hv6 : InR v6) (hv7 : InR v7) (hs : okS σ) (n : Nat) (hn : n = (100000 - v7).toNat) (hQ : (Fr RdL σ0 σ ∧ σ 229 0 = σ0 229 0) ∧ (v4 = σ0 223 0 0) ∧ (∃ (N : List (Int × PW)) (q : PW × Int), RdN σ0 N ∧ (pTimes (tpC σ0) (pInside (tpC σ0) N e) (σ0 228 0 0) = .inr (repW q.1 v5, q.2) ∧ v6 = q.1.2 ∧ σ 228 0 0 = q.2 ∧ σ0 228 0 0 < q.2 ∧ q.2 ≤ σ0 221 0 0) ∧ ((0 ≤ v5 ∧ v5 ≤ 60) ∧ (0 ≤ v6 ∧ v6 ≤ 120) ∧ v5 * v6 ≤ a2 - σ0 223 0 0) ∧ tmI σ0 σ q.1.1 v5 v6 (v7 - v4))) : VL_Re_readTimes_47 e a1 a2 σ0 K v3 v4 v5 v6 v7 σ n := by
  unfold VL_Re_readTimes_47
  obtain ⟨N, ⟨⟨⟨hA, hT⟩, hL, hD⟩, ⟨h3, h4, h5⟩, h1, hN⟩, hG⟩ := hG
  obtain ⟨⟨q0, q0b⟩, rfl, N', q, hN', ⟨q1, rfl, q3, q4, q5⟩, ⟨q6, q7, q8⟩, q9⟩ := hQ
  have eN := RdN_u hN hN'
  subst eN
  have mb := mul_b2 q6.1 q6.2 q7.1 q7.2
  refine ⟨(by omega), ?_⟩
  refine ⟨(by omega), ?_⟩
  refine ⟨fun c1 => ?_, fun c1 => ?_⟩
  · skip
    exact ⟨by omega, hG _ _ (rdO_r q0 (lim_r q1 (by show ¬ _ < v5 * q.1.2; omega)) q0b q3 ⟨q4, q5⟩ (by show v5 * q.1.2 ≤ 120; omega) (tm_end q9 (by omega)))⟩
  · skip
    have tt := tm_top q9 (by omega)
    have mp : 0 < q.1.2 := by
      rcases (by omega : 0 < q.1.2 ∨ q.1.2 = 0) with z | z
      · exact z
      · rw [z, Int.mul_zero] at c1
        omega
    have ev : σ 24 0 (v7 - q.1.2) = σ 24 0 (σ0 223 0 0 + (v7 - σ0 223 0 0 - q.1.2)) := congrArg _ (by omega)
    have pa := tt.2.2 (v7 - σ0 223 0 0 - q.1.2) (by omega) (by omega)
    rw [← ev] at pa
    refine ⟨(by omega), ?_⟩
    refine ⟨(by omega), ?_⟩
    intro _ _
    refine ⟨(by omega), ?_⟩
    intro _
    generalize hτ : u3 (u3 _ 24 0 _ _) 223 0 0 _ = τ
    obtain ⟨g, dd⟩ := tm_st q9 q7.1 (by omega) ev hτ
    refine ⟨(by omega), ?_⟩
    refine ⟨_, ?_, _, _, _, _, _, rfl, rfl, ?_⟩
    · omega
    · refine ⟨?_, ?_, ?_⟩
      · exact ⟨Fr_trans q0 (Fr_mono dd (by simp [RdL])), (dd _ _ (by simp)).trans q0b⟩
      · first | rfl | assumption | omega
      · exact ⟨N, q, hN, ⟨q1, rfl, (congrFun (dd 228 0 (by simp)) 0).trans q3, q4, q5⟩, ⟨q6, q7, q8⟩, by rw [show v7 + 1 - σ0 223 0 0 = v7 - σ0 223 0 0 + 1 by omega]; exact g⟩
theorem e_Re_readTimes (e : Nat) (a1 : Int) (a2 : Int) (σ : SS) (K : AV → SS → Prop) (ha1 : InR a1) (ha2 : InR a2) (hs : okS σ) (hG : S_Re_readTimes e [vR 3 0, vI a1, vI a2] σ K) : VE_Re_readTimes e a1 a2 σ K := by
  unfold VE_Re_readTimes
  obtain ⟨N, ⟨⟨⟨hA, hT⟩, hL, hD⟩, ⟨h3, h4, h5⟩, h1, hN⟩, hG⟩ := hG
  refine ⟨(by omega), (fun σ1 r1 h1a h1b h1c => ?_)⟩
  intro _ _
  have fa := h1a
  have dj := rn_cs h1b h1c
  have f1 : Fr RdL σ σ1 := Fr_mono fa (by simp [RdL])
  obtain ⟨t1, s1⟩ := tp_rd f1
  have tp1 : σ1 223 0 0 = σ 223 0 0 := congrFun (fa 223 0 (by simp)) 0
  have pi1 : σ1 24 0 = σ 24 0 := fa _ _ (by simp)
  refine ⟨fun c2 => ?_, fun c2 => ?_⟩
  · skip
    rcases dj with ⟨_, z2, z3, _⟩ | ⟨z1, z2, z3⟩
    · omega
    · exact ⟨by omega, hG _ _ (rdO_l f1 (lim_l (pt_big z1)) z3)⟩
  · skip
    have z0 := dj.resolve_right (fun z => by have := z.2.1; omega)
    obtain ⟨nb, n1, n2, n3, n4, n5, n6, n7⟩ := z0
    have gt : σ 228 0 0 < de (tpC σ) (σ 228 0 0) := sc_gt hD
    refine ⟨N, (by exact ⟨⟨⟨⟨by omega, by omega, by omega⟩, by omega⟩, by omega⟩, h1, RdN_fr hN f1⟩), (fun σ3 r3 h3a => ?_)⟩
    intro _ _
    have ro := h3a
    rw [t1, n4] at ro
    refine ⟨fun c4 => ?_, fun c4 => ?_⟩
    · skip
      obtain ⟨q, x1, ⟨x2, x2b⟩, x3, ⟨x4, x5, x6⟩, x7⟩ := rdO_n ro c4
      have tq := x7.1
      rw [show σ3 223 0 0 - σ 223 0 0 = q.1.2 by omega]
      have mb := mul_b2 n2 (by omega) tq.1 x6
      have pr := pt_r nb x1
      rw [← n1] at pr
      have f3 : Fr RdL σ σ3 := Fr_trans f1 ro.1
      have flt : σ3 229 0 = σ 229 0 := x2b.trans n3
      have x8 : plI σ σ3 (σ 223 0 0) q.1 := pl_ba x7 tp1 pi1
      refine ⟨(by omega), ?_⟩
      refine ⟨(by omega), ?_⟩
      refine ⟨(by omega), ?_⟩
      refine ⟨fun c5 => ?_, fun c5 => ?_⟩
      · skip
        refine ⟨fun c6 => ?_, fun c6 => ?_⟩
        · skip
          refine fun σ7 e7 => ?_
          refine ⟨(by omega), ?_⟩
          refine ⟨_, _, _, _, _, _, rfl, rfl, ?_⟩
          refine ⟨?_, ?_, ?_⟩
          · exact ⟨Fr_trans f3 (by rw [e7]; exact Fr_u3 (by simp [RdL])), by rw [e7, u3_F (by decide)]; exact flt⟩
          · first | rfl | assumption | omega
          · have m1 := Int.mul_le_mul_of_nonneg_right (show (1 : Int) ≤ r1 by omega) tq.1
            rw [Int.one_mul] at m1
            refine ⟨N, q, hN, ⟨pr, rfl, by rw [e7, u3_f (by decide)]; exact x3, by omega, by omega⟩, ⟨⟨n2, by omega⟩, ⟨tq.1, x6⟩, by omega⟩, Or.inr ⟨by omega, by omega, by omega, ?_⟩⟩
            rw [show σ 223 0 0 + q.1.2 - σ 223 0 0 = q.1.2 by omega]
            exact pl_cg (pl_of (pl_fr x8 (by rw [e7, u3_s]) (by rw [e7, u3_F (by decide)]))) rfl (fun y y0 y1 => by rw [Int.emod_eq_of_lt y0 y1])
        · skip
          refine fun σ7 e7 => ?_
          refine ⟨(by omega), ?_⟩
          refine ⟨_, _, _, _, _, _, rfl, rfl, ?_⟩
          refine ⟨?_, ?_, ?_⟩
          · exact ⟨Fr_trans f3 (by rw [e7]; exact Fr_u3 (by simp [RdL])), by rw [e7, u3_F (by decide)]; exact flt⟩
          · first | rfl | assumption | omega
          · exact ⟨N, q, hN, ⟨pr, rfl, by rw [e7, u3_f (by decide)]; exact x3, by omega, by omega⟩, ⟨⟨n2, by omega⟩, ⟨tq.1, x6⟩, by omega⟩, Or.inl ⟨by omega, by omega, by rw [e7, u3_s], fun y hy => by rw [e7, u3_F (by decide)]; exact x8.2.1 y hy⟩⟩
      · skip
        refine ⟨(by omega), ?_⟩
        intro _ _
        exact ⟨by omega, hG _ _ (rdO_l (Fr_trans f3 (Fr_u3 (by simp [RdL]))) (lim_f pr (by show _ < r1 * q.1.2; omega)) u3_s)⟩
    · skip
      rw [c4] at ro
      obtain ⟨ee, x1, x2⟩ := rdO_0 ro
      exact ⟨by omega, hG _ _ (rdO_l (Fr_trans f1 ro.1) (lim_l (pt_l nb x1)) x2)⟩
theorem G_Re_readTimes (e : Nat) {B d : Nat} (hB : 12 ≤ B) (h_Re_readInside : ∀ d, B + 1 ≤ d → Holds d I_Re_readInside (S_Re_readInside e)) (hd : B + 2 ≤ d) : Holds d I_Re_readTimes (S_Re_readTimes e) := by
  refine holds_of (d' := d - 1) (rt := 2) (cal := [(I_Re_readNumber, S_Re_readNumber), (I_Re_readInside, S_Re_readInside e), (I_Re_fail, S_Re_fail), (I_Re_pileAt, S_Re_pileAt), (I_Re_push, S_Re_push)]) (C := C_Re_readTimes) m_Re_readTimes o_Re_readTimes rfl rfl (by omega) ?_ ?_
  · intro x hx
    simp only [List.mem_cons, List.not_mem_nil, or_false] at hx
    rcases hx with rfl | rfl | rfl | rfl | rfl
    · exact H_Re_readNumber (by omega)
    · exact h_Re_readInside _ (by omega)
    · exact H_Re_fail (by omega)
    · exact H_Re_pileAt (by omega)
    · exact H_Re_push (by omega)
  · intro as σ K has hσ hG
    have hG2 := hG
    unfold S_Re_readTimes at hG2
    split at hG2
    · next a1 a2 =>
      refine ⟨Nat.le_of_ble_eq_true rfl, (Iv_Re_readTimes e a1 a2 σ), ?_, 1000, ?_⟩
      · intro k n z L σ' hk hL hs hP
        unfold Iv_Re_readTimes at hk
        split at hk
        · cases hk
          obtain ⟨v3, v4, v5, v6, v7, rfl, hn, hQ⟩ := hP
          exact ⟨1000, l_Re_readTimes_47 e a1 a2 σ K (has _ (List.mem_of_getElem? (i := 1) rfl)) (has _ (List.mem_of_getElem? (i := 2) rfl)) hσ hG v3 v4 v5 v6 v7 σ' (hL _ (List.mem_of_getElem? (i := 3) rfl)) (hL _ (List.mem_of_getElem? (i := 4) rfl)) (hL _ (List.mem_of_getElem? (i := 5) rfl)) (hL _ (List.mem_of_getElem? (i := 6) rfl)) (hL _ (List.mem_of_getElem? (i := 7) rfl)) hs n hn hQ⟩
        · cases hk
      · exact e_Re_readTimes e a1 a2 σ K (has _ (List.mem_of_getElem? (i := 1) rfl)) (has _ (List.mem_of_getElem? (i := 2) rfl)) hσ hG
    · exact hG2.elim
/-- turned from both ends inwards, so far -/
def rvI (σ0 σ : SS) (u : PW) (x : Int) : Prop := (0 ≤ u.2 ∧ σ 223 0 0 = σ0 223 0 0 + u.2) ∧ (∀ y, y < σ0 223 0 0 → σ 24 0 y = σ0 24 0 y) ∧ ∀ y, 0 ≤ y → y < u.2 → (σ 24 0 (σ0 223 0 0 + y) = if y < x ∨ u.2 - 1 - x < y then u.1 (u.2 - 1 - y) else u.1 y) ∧ 0 ≤ u.1 y ∧ u.1 y < 26
theorem rv_0 {σ0 σ : SS} {u : PW} (h : plI σ0 σ (σ0 223 0 0) u) : rvI σ0 σ u 0 := by
  obtain ⟨h1, h2, h3⟩ := h
  refine ⟨h1, h2, fun y y0 y1 => ?_⟩
  rw [if_neg (by omega)]
  exact h3 y y0 y1
theorem rv_e {σ0 σ : SS} {u : PW} {x : Int} (h : rvI σ0 σ u x) (hx : u.2 - 1 - x ≤ x) : plI σ0 σ (σ0 223 0 0) (revW u) := by
  obtain ⟨h1, h2, h3⟩ := h
  refine ⟨h1, h2, fun y y0 y1 => ?_⟩
  have y1' : y < u.2 := y1
  have er : (revW u).1 y = u.1 (u.2 - 1 - y) := by
    show atW (fun x => u.1 (u.2 - 1 - x)) u.2 y = _
    exact atW_in y0 y1'
  rw [er]
  have a := h3 y y0 y1'
  have b := h3 (u.2 - 1 - y) (by omega) (by omega)
  refine ⟨?_, b.2⟩
  rw [a.1]
  by_cases c : y < x ∨ u.2 - 1 - x < y
  · rw [if_pos c]
  · rw [if_neg c]
    exact congrArg _ (by omega)
theorem rv_st {σ0 σ σ1 σ2 : SS} {u : PW} {x : Int} (h : rvI σ0 σ u x) (h0 : 0 ≤ x) (hx : x < u.2 - 1 - x) (e1 : σ1 = u3 σ 24 0 (σ0 223 0 0 + x) (σ 24 0 (σ0 223 0 0 + (u.2 - 1 - x)))) (e2 : σ2 = u3 σ1 24 0 (σ0 223 0 0 + (u.2 - 1 - x)) (σ 24 0 (σ0 223 0 0 + x))) : rvI σ0 σ2 u (x + 1) ∧ Fr [(24, 0)] σ σ2 := by
  obtain ⟨h1, h2, h3⟩ := h
  refine ⟨⟨by rw [e2, u3_f (by decide), e1, u3_f (by decide)]; exact h1, fun y hy => by rw [e2, u3_k (by omega), e1, u3_k (by omega)]; exact h2 y hy, fun y y0 y1 => ⟨?_, (h3 y y0 y1).2⟩⟩, by rw [e2, e1]; exact Fr_trans (Fr_u3 (by simp)) (Fr_u3 (by simp))⟩
  rw [e2, u3_e]
  by_cases c : y = u.2 - 1 - x
  · rw [if_pos (by omega), (h3 x h0 (by omega)).1, if_neg (by omega), if_pos (by omega)]
    exact congrArg _ (by omega)
  · rw [if_neg (by omega), e1, u3_e]
    by_cases d : y = x
    · rw [if_pos (by omega), (h3 (u.2 - 1 - x) (by omega) (by omega)).1, if_neg (by omega), if_pos (by omega)]
      exact congrArg _ (by omega)
    · rw [if_neg (by omega), (h3 y y0 y1).1]
      by_cases w : y < x ∨ u.2 - 1 - x < y
      · rw [if_pos w, if_pos (by omega)]
      · rw [if_neg w, if_neg (by omega)]
theorem rv_b {σ0 σ : SS} {u : PW} {x y : Int} (h : rvI σ0 σ u x) (y0 : 0 ≤ y) (y1 : y < u.2) : 0 ≤ σ 24 0 (σ0 223 0 0 + y) ∧ σ 24 0 (σ0 223 0 0 + y) < 26 := by
  have a := h.2.2 y y0 y1
  have b := h.2.2 (u.2 - 1 - y) (by omega) (by omega)
  rw [a.1]
  split
  · exact b.2
  · exact a.2
abbrev Lp_Re_readReversed_25 (e : Nat) (a1 : Int) (a2 : Int) (a3 : Int) (σ0 : SS) (n : Nat) (L : List AV) (σ : SS) : Prop := ∃ (v4 : Int) (v5 : Int) (v6 : Int), L = [vR 3 0, vI a1, vI a2, vI a3, vI v4, vI v5, vI v6, none] ∧ n = (100000 + v6 - v5).toNat ∧ (((Fr RdL σ0 σ ∧ σ 229 0 = σ0 229 0) ∧ v4 = σ0 223 0 0) ∧ (∃ (N : List (Int × PW)) (q : PW × Int), RdN σ0 N ∧ (pInside (tpC σ0) N e (σ0 228 0 0) = .inr q ∧ σ 228 0 0 = q.2 ∧ σ0 228 0 0 < q.2 ∧ q.2 ≤ σ0 221 0 0 ∧ q.1.2 ≤ 120 ∧ q.1.2 ≤ a3 - σ0 223 0 0) ∧ (σ0 223 0 0 ≤ v5 ∧ v5 ≤ σ0 223 0 0 + 200 ∧ v6 - σ0 223 0 0 = q.1.2 - 1 - (v5 - σ0 223 0 0)) ∧ rvI σ0 σ q.1 (v5 - σ0 223 0 0)))
def Iv_Re_readReversed (e : Nat) (a1 : Int) (a2 : Int) (a3 : Int) (σ0 : SS) (k : Nat) : Option (List Nat × (Nat → List AV → SS → Prop)) := match k with
  | 25 => some ([7], Lp_Re_readReversed_25 e a1 a2 a3 σ0)
  | _ => none
def VE_Re_readReversed (e : Nat) (a1 : Int) (a2 : Int) (a3 : Int) (σ : SS) (K : AV → SS → Prop) : Prop :=
  (S_Re_readInside e [vR 3 0, vI a2] σ (kI fun r1 σ1 =>
    ((r1 ≠ 0 →
      (((σ1 223 0 0) ≤ a3 →
        (InR ((σ1 223 0 0) - 1) ∧
        (∃ n', Lp_Re_readReversed_25 e a1 a2 a3 σ n' [vR 3 0, vI a1, vI a2, vI a3, vI (σ 223 0 0), vI (σ 223 0 0), vI ((σ1 223 0 0) - 1), none] σ1))) ∧
      (a3 < (σ1 223 0 0) →
        (S_Re_fail [vR 3 0, vI a1, vI 3] σ1 (kI fun r2 σ2 =>
          ((0 ≤ (r2 : Int) ∧ (r2 : Int) ≤ 1) ∧ K (vI r2) σ2)))))) ∧
    (r1 = 0 →
      ((0 ≤ (0 : Int) ∧ (0 : Int) ≤ 1) ∧ K (vI 0) σ1)))))
def VL_Re_readReversed_25 (e : Nat) (a1 : Int) (a2 : Int) (a3 : Int) (σ0 : SS) (K : AV → SS → Prop) (v4 : Int) (v5 : Int) (v6 : Int) (σ : SS) (n : Nat) : Prop :=
  ((v6 ≤ v5 →
    ((0 ≤ (1 : Int) ∧ (1 : Int) ≤ 1) ∧ K (vI 1) σ)) ∧
  (v5 < v6 →
    ((v5 < 0 →
      ((0 ≤ (1 : Int) ∧ (1 : Int) ≤ 1) ∧ K (vI 1) σ)) ∧
    ((0 : Int) ≤ v5 →
      (((840 : Int) ≤ v6 →
        ((0 ≤ (1 : Int) ∧ (1 : Int) ≤ 1) ∧ K (vI 1) σ)) ∧
      (v6 < 840 →
        ((0 ≤ (v5 : Int) ∧ (v5 : Int) < 840) ∧
        ((0 ≤ (v6 : Int) ∧ (v6 : Int) < 840) ∧
        (((0 ≤ (v5 : Int) ∧ (v5 : Int) < 840) ∧ -128 ≤ (σ 24 0 v6 : Int) ∧ (σ 24 0 v6 : Int) ≤ 127) ∧ ∀ σ1 : SS, σ1 = u3 σ 24 0 v5 (σ 24 0 v6) →
        (((0 ≤ (v6 : Int) ∧ (v6 : Int) < 840) ∧ -128 ≤ (σ 24 0 v5 : Int) ∧ (σ 24 0 v5 : Int) ≤ 127) ∧ ∀ σ2 : SS, σ2 = u3 σ1 24 0 v6 (σ 24 0 v5) →
        (InR (v5 + 1) ∧
        (InR (v6 + (-1)) ∧
        (∃ n', n' < n ∧ Lp_Re_readReversed_25 e a1 a2 a3 σ0 n' [vR 3 0, vI a1, vI a2, vI a3, vI v4, vI (v5 + 1), vI (v6 + (-1)), none] σ2)))))))))))))
theorem l_Re_readReversed_25 (e : Nat) (a1 : Int) (a2 : Int) (a3 : Int) (σ0 : SS) (K : AV → SS → Prop) (ha1 : InR a1) (ha2 : InR a2) (ha3 : InR a3) (hs0 : okS σ0) (hG : S_Re_readReversed e [vR 3 0, vI a1, vI a2, vI a3] σ0 K) (v4 : Int) (v5 : Int) (v6 : Int) (σ : SS) (hv4 : InR v4) (hv5 : InR v5) (hv6 : InR v6) (hs : okS σ) (n : Nat) (hn : n = (100000 + v6 - v5).toNat) (hQ : ((Fr RdL σ0 σ ∧ σ 229 0 = σ0 229 0) ∧ v4 = σ0 223 0 0) ∧ (∃ (N : List (Int × PW)) (q : PW × Int), RdN σ0 N ∧ (pInside (tpC σ0) N e (σ0 228 0 0) = .inr q ∧ σ 228 0 0 = q.2 ∧ σ0 228 0 0 < q.2 ∧ q.2 ≤ σ0 221 0 0 ∧ q.1.2 ≤ 120 ∧ q.1.2 ≤ a3 - σ0 223 0 0) ∧ (σ0 223 0 0 ≤ v5 ∧ v5 ≤ σ0 223 0 0 + 200 ∧ v6 - σ0 223 0 0 = q.1.2 - 1 - (v5 - σ0 223 0 0)) ∧ rvI σ0 σ q.1 (v5 - σ0 223 0 0))) : VL_Re_readReversed_25 e a1 a2 a3 σ0 K v4 v5 v6 σ n := by
  unfold VL_Re_readReversed_25
  obtain ⟨N, ⟨⟨⟨hA, hT⟩, hL⟩, ⟨h3, h4, h5⟩, h1, hN⟩, hG⟩ := hG
  obtain ⟨⟨⟨q0, q0b⟩, rfl⟩, N', q, hN', ⟨q1, q3, q4, q5, q6, q7⟩, q8, q9⟩ := hQ
  have eN := RdN_u hN hN'
  subst eN
  have tp := q9.1
  have b5 : v6 ≤ v5 ∨ (0 ≤ σ 24 0 v5 ∧ σ 24 0 v5 < 26) := by
    rcases (by omega : v6 ≤ v5 ∨ v5 < v6) with z | z
    · exact Or.inl z
    · have := rv_b q9 (y := v5 - σ0 223 0 0) (by omega) (by omega)
      rw [show σ0 223 0 0 + (v5 - σ0 223 0 0) = v5 by omega] at this
      exact Or.inr this
  have b6 : v6 ≤ v5 ∨ (0 ≤ σ 24 0 v6 ∧ σ 24 0 v6 < 26) := by
    rcases (by omega : v6 ≤ v5 ∨ v5 < v6) with z | z
    · exact Or.inl z
    · have := rv_b q9 (y := v6 - σ0 223 0 0) (by omega) (by omega)
      rw [show σ0 223 0 0 + (v6 - σ0 223 0 0) = v6 by omega] at this
      exact Or.inr this
  refine ⟨fun c1 => ?_, fun c1 => ?_⟩
  · skip
    exact ⟨by omega, hG _ _ (rdO_r q0 (lim_r (show mapR revW _ = .inr (revW q.1, q.2) by rw [q1]; rfl) (by show ¬ _ < q.1.2; omega)) q0b q3 ⟨q4, q5⟩ (by show q.1.2 ≤ 120; omega) (rv_e q9 (by omega)))⟩
  · skip
    refine ⟨fun c2 => ?_, fun c2 => ?_⟩
    · skip
      omega
    · skip
      refine ⟨fun c3 => ?_, fun c3 => ?_⟩
      · skip
        omega
      · skip
        refine ⟨(by omega), ?_⟩
        refine ⟨(by omega), ?_⟩
        refine ⟨(by omega), fun σ4 e4 => ?_⟩
        refine ⟨(by omega), fun σ5 e5 => ?_⟩
        have i5 : σ0 223 0 0 + (v5 - σ0 223 0 0) = v5 := by omega
        have i6 : σ0 223 0 0 + (q.1.2 - 1 - (v5 - σ0 223 0 0)) = v6 := by omega
        obtain ⟨g, dd⟩ := rv_st (σ1 := σ4) (σ2 := σ5) q9 (by omega) (by omega) (by rw [i5, i6]; exact e4) (by rw [i5, i6]; exact e5)
        refine ⟨(by omega), ?_⟩
        refine ⟨(by omega), ?_⟩
        refine ⟨_, ?_, _, _, _, rfl, rfl, ?_⟩
        · omega
        · refine ⟨?_, ?_⟩
          · exact ⟨⟨Fr_trans q0 (Fr_mono dd (by simp [RdL])), (dd _ _ (by simp)).trans q0b⟩, rfl⟩
          · exact ⟨N, q, hN, ⟨q1, (congrFun (dd 228 0 (by simp)) 0).trans q3, q4, q5, q6, q7⟩, ⟨by omega, by omega, by omega⟩, by rw [show v5 + 1 - σ0 223 0 0 = v5 - σ0 223 0 0 + 1 by omega]; exact g⟩
theorem e_Re_readReversed (e : Nat) (a1 : Int) (a2 : Int) (a3 : Int) (σ : SS) (K : AV → SS → Prop) (ha1 : InR a1) (ha2 : InR a2) (ha3 : InR a3) (hs : okS σ) (hG : S_Re_readReversed e [vR 3 0, vI a1, vI a2, vI a3] σ K) : VE_Re_readReversed e a1 a2 a3 σ K := by
  unfold VE_Re_readReversed
  obtain ⟨N, ⟨⟨⟨hA, hT⟩, hL⟩, ⟨h3, h4, h5⟩, h1, hN⟩, hG⟩ := hG
  refine ⟨N, (by exact ⟨⟨⟨hA, hT⟩, by omega⟩, h1, hN⟩), (fun σ1 r1 h1a => ?_)⟩
  intro _ _
  have ro := h1a
  refine ⟨fun c2 => ?_, fun c2 => ?_⟩
  · skip
    obtain ⟨q, x1, ⟨x2, x2b⟩, x3, ⟨x4, x5, x6⟩, x7⟩ := rdO_n ro (by assumption)
    have tq := x7.1
    refine ⟨fun c3 => ?_, fun c3 => ?_⟩
    · skip
      refine ⟨(by omega), ?_⟩
      refine ⟨_, _, _, _, rfl, rfl, ?_⟩
      refine ⟨?_, ?_⟩
      · exact ⟨⟨ro.1, x2b⟩, rfl⟩
      · exact ⟨N, q, hN, ⟨x1, x3, x4, x5, x6, by omega⟩, ⟨by omega, by omega, by omega⟩, by rw [show σ 223 0 0 - σ 223 0 0 = 0 by omega]; exact rv_0 x7⟩
    · skip
      refine ⟨(by omega), ?_⟩
      intro _ _
      exact ⟨by omega, hG _ _ (rdO_l (Fr_trans ro.1 (Fr_u3 (by simp [RdL]))) (lim_f (show mapR revW _ = .inr (revW q.1, q.2) by rw [x1]; rfl) (by show _ < q.1.2; omega)) u3_s)⟩
  · skip
    rw [c2] at ro
    obtain ⟨ee, x1, x2⟩ := rdO_0 ro
    exact ⟨by omega, hG _ _ (rdO_l ro.1 (lim_l (show mapR revW _ = .inl ee by rw [x1]; rfl)) x2)⟩
theorem G_Re_readReversed (e : Nat) {B d : Nat} (hB : 12 ≤ B) (h_Re_readInside : ∀ d, B + 1 ≤ d → Holds d I_Re_readInside (S_Re_readInside e)) (hd : B + 2 ≤ d) : Holds d I_Re_readReversed (S_Re_readReversed e) := by
  refine holds_of (d' := d - 1) (rt := 2) (cal := [(I_Re_readInside, S_Re_readInside e), (I_Re_fail, S_Re_fail)]) (C := C_Re_readReversed) m_Re_readReversed o_Re_readReversed rfl rfl (by omega) ?_ ?_
  · intro x hx
    simp only [List.mem_cons, List.not_mem_nil, or_false] at hx
    rcases hx with rfl | rfl
    · exact h_Re_readInside _ (by omega)
    · exact H_Re_fail (by omega)
  · intro as σ K has hσ hG
    have hG2 := hG
    unfold S_Re_readReversed at hG2
    split at hG2
    · next a1 a2 a3 =>
      refine ⟨Nat.le_of_ble_eq_true rfl, (Iv_Re_readReversed e a1 a2 a3 σ), ?_, 1000, ?_⟩
      · intro k n z L σ' hk hL hs hP
        unfold Iv_Re_readReversed at hk
        split at hk
        · cases hk
          obtain ⟨v4, v5, v6, rfl, hn, hQ⟩ := hP
          exact ⟨1000, l_Re_readReversed_25 e a1 a2 a3 σ K (has _ (List.mem_of_getElem? (i := 1) rfl)) (has _ (List.mem_of_getElem? (i := 2) rfl)) (has _ (List.mem_of_getElem? (i := 3) rfl)) hσ hG v4 v5 v6 σ' (hL _ (List.mem_of_getElem? (i := 4) rfl)) (hL _ (List.mem_of_getElem? (i := 5) rfl)) (hL _ (List.mem_of_getElem? (i := 6) rfl)) hs n hn hQ⟩
        · cases hk
      · exact e_Re_readReversed e a1 a2 a3 σ K (has _ (List.mem_of_getElem? (i := 1) rfl)) (has _ (List.mem_of_getElem? (i := 2) rfl)) (has _ (List.mem_of_getElem? (i := 3) rfl)) hσ hG
    · exact hG2.elim
