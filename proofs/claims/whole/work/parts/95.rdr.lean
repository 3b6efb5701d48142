/-! TEXT: the class's reader; items and rows -/
def rdO (σ σ' : SS) (R : PR) (r : Int) : Prop := Fr RdL σ σ' ∧ (∀ e, R = .inl e → r = 0 ∧ σ' 229 0 0 = e) ∧ (∀ q, R = .inr q → (r = 1 ∧ σ' 229 0 = σ 229 0) ∧ σ' 228 0 0 = q.2 ∧ (σ 228 0 0 < q.2 ∧ q.2 ≤ σ 221 0 0 ∧ q.1.2 ≤ 120) ∧ plI σ σ' (σ 223 0 0) q.1)
theorem rdO_l {σ σ' : SS} {R : PR} {e : Int} (f : Fr RdL σ σ') (h : R = .inl e) (he : σ' 229 0 0 = e) : rdO σ σ' R 0 :=
  ⟨f, (fun e' h' => ⟨rfl, by rw [h] at h'; cases h'; exact he⟩), fun q h' => by rw [h] at h'; cases h'⟩
theorem rdO_r {σ σ' : SS} {R : PR} {u : PW} {c : Int} (f : Fr RdL σ σ') (h : R = .inr (u, c)) (h1 : σ' 229 0 = σ 229 0) (h2 : σ' 228 0 0 = c) (h3 : σ 228 0 0 < c ∧ c ≤ σ 221 0 0) (h4 : u.2 ≤ 120) (h5 : plI σ σ' (σ 223 0 0) u) : rdO σ σ' R 1 :=
  ⟨f, (fun e' h' => by rw [h] at h'; cases h'), fun q h' => by rw [h] at h'; cases h'; exact ⟨⟨rfl, h1⟩, h2, ⟨h3.1, h3.2, h4⟩, h5⟩⟩
theorem rdO_01 {σ σ' : SS} {R : PR} {r : Int} (h : rdO σ σ' R r) : 0 ≤ r ∧ r ≤ 1 := by
  cases e : R with
  | inl e' => have := (h.2.1 e' e).1; omega
  | inr q => have := (h.2.2 q e).1.1; omega
theorem rdO_0 {σ σ' : SS} {R : PR} (h : rdO σ σ' R 0) : ∃ e, R = .inl e ∧ σ' 229 0 0 = e := by
  cases e : R with
  | inl e' => exact ⟨e', rfl, (h.2.1 e' e).2⟩
  | inr q => exact absurd (h.2.2 q e).1.1 (by decide)
theorem rdO_n {σ σ' : SS} {R : PR} {r : Int} (h : rdO σ σ' R r) (hr : r ≠ 0) : ∃ q, R = .inr q ∧ (r = 1 ∧ σ' 229 0 = σ 229 0) ∧ σ' 228 0 0 = q.2 ∧ (σ 228 0 0 < q.2 ∧ q.2 ≤ σ 221 0 0 ∧ q.1.2 ≤ 120) ∧ plI σ σ' (σ 223 0 0) q.1 := by
  cases e : R with
  | inl e' => exact absurd (h.2.1 e' e).1 hr
  | inr q => exact ⟨q, rfl, h.2.2 q e⟩
def RdA (σ : SS) : Prop := (0 ≤ σ 228 0 0 ∧ σ 228 0 0 ≤ σ 221 0 0 ∧ σ 221 0 0 ≤ 300) ∧ 0 ≤ σ 223 0 0
theorem lim_l {a L e : Int} {R : PR} (h : R = .inl e) : lim a L R = .inl e := by rw [h]; rfl
theorem lim_f {a L : Int} {R : PR} {q : PW × Int} (h : R = .inr q) (hL : L < q.1.2) : lim a L R = .inl (8 * a + 3) := by
  rw [h]
  show (if L < q.1.2 then _ else _) = _
  rw [if_pos hL]
theorem lim_r {a L : Int} {R : PR} {q : PW × Int} (h : R = .inr q) (hL : ¬ L < q.1.2) : lim a L R = .inr q := by
  rw [h]
  show (if L < q.1.2 then _ else _) = _
  rw [if_neg hL]
theorem lim_in {a L : Int} {R : PR} {q : PW × Int} (h : lim a L R = .inr q) : R = .inr q ∧ ¬ L < q.1.2 := by
  cases e : R with
  | inl e' => rw [lim_l e] at h; cases h
  | inr p =>
    by_cases c : L < p.1.2
    · rw [lim_f e c] at h; cases h
    · rw [lim_r e c] at h; cases h; exact ⟨rfl, c⟩
theorem pl_fr {σ0 σ σ' : SS} {t : Int} {u : PW} (h : plI σ0 σ t u) (h1 : σ' 223 0 0 = σ 223 0 0) (h2 : σ' 24 0 = σ 24 0) : plI σ0 σ' t u := by
  unfold plI
  rw [h1, h2]
  exact h
def S_Re_readLetters : GS := fun as σ K => match as with
  | [some (.inr (.inr (3, 0))), some (.inl a1)] => ((RdA σ ∧ σ 228 0 0 < σ 221 0 0 ∧ tpC σ (σ 228 0 0) = 39) ∧ σ 223 0 0 ≤ a1 ∧ a1 ≤ σ 223 0 0 + 120 ∧ a1 ≤ 840) ∧ ∀ σ' r, rdO σ σ' (lim (σ 228 0 0) (a1 - σ 223 0 0) (pLet1 (tpC σ) (σ 228 0 0))) r → K (vI r) σ'
  | _ => False
abbrev Lp_Re_readLetters_48 (a1 : Int) (σ0 : SS) (n : Nat) (L : List AV) (σ : SS) : Prop := ∃ (v2 : Int) (v3 : Int) (v4 : Int), L = [vR 3 0, vI a1, vI v2, vI v3, vI v4] ∧ n = (1000 - v4).toNat ∧ ((Fr RdL σ0 σ) ∧ (v2 = σ0 228 0 0 ∧ v2 + 1 ≤ v4 ∧ v4 ≤ v3 ∧ v3 - v2 - 1 ≤ a1 - σ0 223 0 0) ∧ ((σ 229 0 = σ0 229 0 ∧ σ 228 0 0 = v3 + 1) ∧ v3 < σ0 221 0 0) ∧ (scI (tpC σ0) sm (v2 + 1) v3) ∧ (pLet1 (tpC σ0) (σ0 228 0 0) = .inr (nW (fun x => tpC σ0 (σ0 228 0 0 + 1 + x) - 97) (v3 - σ0 228 0 0 - 1), v3 + 1)) ∧ (plI σ0 σ (σ0 223 0 0) (nW (fun x => tpC σ0 (σ0 228 0 0 + 1 + x) - 97) (v4 - σ0 228 0 0 - 1))))
def Iv_Re_readLetters (a1 : Int) (σ0 : SS) (k : Nat) : Option (List Nat × (Nat → List AV → SS → Prop)) := match k with
  | 48 => some ([], Lp_Re_readLetters_48 a1 σ0)
  | _ => none
def VE_Re_readLetters (a1 : Int) (σ : SS) (K : AV → SS → Prop) : Prop :=
  (InR ((σ 228 0 0) + 1) ∧
  (S_Re_wordEnd [vR 3 0, vI ((σ 228 0 0) + 1)] σ (kI fun r1 σ1 =>
    (InR ((σ 228 0 0) + 1) ∧
    ((r1 = ((σ 228 0 0) + 1) →
      (S_Re_fail [vR 3 0, vI r1, vI 1] σ1 (kI fun r2 σ2 =>
        ((0 ≤ (r2 : Int) ∧ (r2 : Int) ≤ 1) ∧ K (vI r2) σ2)))) ∧
    (r1 ≠ ((σ 228 0 0) + 1) →
      (S_Re_byteAt [vR 3 0, vI r1] σ1 (kI fun r3 σ3 =>
        ((r3 = 39 →
          (InR (r1 + 1) ∧
          (∀ σ4 : SS, σ4 = u3 σ3 228 0 0 (r1 + 1) →
          (InR (r1 - (σ 228 0 0)) ∧
          (InR ((r1 - (σ 228 0 0)) - 1) ∧
          (InR ((σ4 223 0 0) + ((r1 - (σ 228 0 0)) - 1)) ∧
          ((((σ4 223 0 0) + ((r1 - (σ 228 0 0)) - 1)) ≤ a1 →
            (InR ((σ 228 0 0) + 1) ∧
            (∃ n', Lp_Re_readLetters_48 a1 σ n' [vR 3 0, vI a1, vI (σ 228 0 0), vI r1, vI ((σ 228 0 0) + 1)] σ4))) ∧
          (a1 < ((σ4 223 0 0) + ((r1 - (σ 228 0 0)) - 1)) →
            (S_Re_fail [vR 3 0, vI (σ 228 0 0), vI 3] σ4 (kI fun r5 σ5 =>
              ((0 ≤ (r5 : Int) ∧ (r5 : Int) ≤ 1) ∧ K (vI r5) σ5))))))))))) ∧
        (r3 ≠ 39 →
          (S_Re_fail [vR 3 0, vI r1, vI 1] σ3 (kI fun r6 σ6 =>
            ((0 ≤ (r6 : Int) ∧ (r6 : Int) ≤ 1) ∧ K (vI r6) σ6)))))))))))))
def VL_Re_readLetters_48 (a1 : Int) (σ0 : SS) (K : AV → SS → Prop) (v2 : Int) (v3 : Int) (v4 : Int) (σ : SS) (n : Nat) : Prop :=
  ((v3 ≤ v4 →
    ((0 ≤ (1 : Int) ∧ (1 : Int) ≤ 1) ∧ K (vI 1) σ)) ∧
  (v4 < v3 →
    (S_Re_byteAt [vR 3 0, vI v4] σ (kI fun r1 σ1 =>
      (InR (r1 - 97) ∧
      (S_Re_push [vR 3 0, vI (r1 - 97)] σ1 (kV fun σ2 =>
        (InR (v4 + 1) ∧
        (∃ n', n' < n ∧ Lp_Re_readLetters_48 a1 σ0 n' [vR 3 0, vI a1, vI v2, vI v3, vI (v4 + 1)] σ2)))))))))
theorem l_Re_readLetters_48 (a1 : Int) (σ0 : SS) (K : AV → SS → Prop) (ha1 : InR a1) (hs0 : okS σ0) (hG : S_Re_readLetters [vR 3 0, vI a1] σ0 K) (v2 : Int) (v3 : Int) (v4 : Int) (σ : SS) (hv2 : InR v2) (hv3 : InR v3) (hv4 : InR v4) (hs : okS σ) (n : Nat) (hn : n = (1000 - v4).toNat) (hQ : (Fr RdL σ0 σ) ∧ (v2 = σ0 228 0 0 ∧ v2 + 1 ≤ v4 ∧ v4 ≤ v3 ∧ v3 - v2 - 1 ≤ a1 - σ0 223 0 0) ∧ ((σ 229 0 = σ0 229 0 ∧ σ 228 0 0 = v3 + 1) ∧ v3 < σ0 221 0 0) ∧ (scI (tpC σ0) sm (v2 + 1) v3) ∧ (pLet1 (tpC σ0) (σ0 228 0 0) = .inr (nW (fun x => tpC σ0 (σ0 228 0 0 + 1 + x) - 97) (v3 - σ0 228 0 0 - 1), v3 + 1)) ∧ (plI σ0 σ (σ0 223 0 0) (nW (fun x => tpC σ0 (σ0 228 0 0 + 1 + x) - 97) (v4 - σ0 228 0 0 - 1)))) : VL_Re_readLetters_48 a1 σ0 K v2 v3 v4 σ n := by
  unfold VL_Re_readLetters_48
  obtain ⟨⟨⟨⟨hA, hT⟩, h1, h2⟩, h3, h4⟩, hG⟩ := hG
  obtain ⟨q0, ⟨rfl, q1, q2, q3⟩, ⟨⟨q4, q5⟩, q6⟩, q7, q8, q9⟩ := hQ
  obtain ⟨t1, t2⟩ := tp_fr q0 (by simp [RdL]) (by simp [RdL])
  have pn := pl_n q9
  refine ⟨fun c1 => ?_, fun c1 => ?_⟩
  · skip
    exact ⟨by omega, hG _ _ (rdO_r q0 (lim_r q8 (by show ¬ _ < v3 - σ0 228 0 0 - 1; omega)) q4 q5 ⟨by omega, by omega⟩ (by show v3 - σ0 228 0 0 - 1 ≤ 120; omega) (pl_cg q9 (by omega) (fun _ _ _ => rfl)))⟩
  · skip
    refine ⟨(by omega), ?_⟩
    intro _ _
    rw [t1]
    have sl := sm_t.mp (q7.2 v4 (by omega) (by omega))
    refine ⟨(by omega), ?_⟩
    refine ⟨(by omega), ?_⟩
    intro _
    generalize hτ : u3 (u3 _ 24 0 _ _) 223 0 0 _ = τ
    obtain ⟨g, dd, tt⟩ := pl_more q9 (by rw [show σ0 228 0 0 + 1 + (v4 - σ0 228 0 0 - 1) = v4 by omega]) (by omega) hτ
    refine ⟨(by omega), ?_⟩
    refine ⟨_, ?_, _, _, _, rfl, rfl, ?_⟩
    · omega
    · refine ⟨?_, ?_, ?_, ?_, ?_, ?_⟩
      · exact Fr_trans q0 (Fr_mono dd (by simp [RdL]))
      · exact ⟨rfl, by omega, by omega, by omega⟩
      · exact ⟨⟨(dd _ _ (by simp)).trans q4, by rw [dd 228 0 (by simp)]; exact q5⟩, q6⟩
      · exact q7
      · exact q8
      · exact pl_cg g (by omega) (fun _ _ _ => rfl)
theorem e_Re_readLetters (a1 : Int) (σ : SS) (K : AV → SS → Prop) (ha1 : InR a1) (hs : okS σ) (hG : S_Re_readLetters [vR 3 0, vI a1] σ K) : VE_Re_readLetters a1 σ K := by
  unfold VE_Re_readLetters
  obtain ⟨⟨⟨⟨hA, hT⟩, h1, h2⟩, h3, h4⟩, hG⟩ := hG
  refine ⟨(by omega), ?_⟩
  refine ⟨(by omega), (fun r1 h1a h1b h1c => ?_)⟩
  intro _ _
  have w1 := h1a
  have w2 := h1b
  have w3 := h1c
  refine ⟨(by omega), ?_⟩
  refine ⟨fun c2 => ?_, fun c2 => ?_⟩
  · skip
    refine ⟨(by omega), ?_⟩
    intro _ _
    exact ⟨by omega, hG _ _ (rdO_l (Fr_u3 (by simp [RdL])) (lim_l (by unfold pLet1; rw [← w1, if_pos (Or.inl c2)])) u3_s)⟩
  · skip
    refine ⟨(by omega), ?_⟩
    intro _ _
    refine ⟨fun c3 => ?_, fun c3 => ?_⟩
    · skip
      refine ⟨(by omega), ?_⟩
      refine fun σ4 e4 => ?_
      have k1 : σ4 223 0 0 = σ 223 0 0 := by rw [e4, u3_f (by decide)]
      have lt : r1 < σ 221 0 0 := by
        rcases (by omega : r1 < σ 221 0 0 ∨ σ 221 0 0 ≤ r1) with z | z
        · exact z
        · rw [tp_out z] at c3
          exact absurd c3 (by decide)
      have pr : pLet1 (tpC σ) (σ 228 0 0) = .inr (nW (fun x => tpC σ (σ 228 0 0 + 1 + x) - 97) (r1 - σ 228 0 0 - 1), r1 + 1) := by
        unfold pLet1
        rw [← w1, if_neg (fun z => by
          rcases z with z | z
          · exact c2 z
          · exact z c3)]
      refine ⟨(by omega), ?_⟩
      refine ⟨(by omega), ?_⟩
      refine ⟨(by omega), ?_⟩
      refine ⟨fun c5 => ?_, fun c5 => ?_⟩
      · skip
        refine ⟨(by omega), ?_⟩
        refine ⟨_, _, _, _, rfl, rfl, ?_⟩
        refine ⟨?_, ?_, ?_, ?_, ?_, ?_⟩
        · rw [e4]; exact Fr_u3 (by simp [RdL])
        · exact ⟨rfl, by omega, by omega, by omega⟩
        · exact ⟨⟨by rw [e4, u3_F (by decide)], by rw [e4, u3_s]⟩, lt⟩
        · exact w3
        · exact pr
        · exact pl_cg (pl_fr pl_e k1 (by rw [e4, u3_F (by decide)])) (by omega) (fun _ _ _ => rfl)
      · skip
        refine ⟨(by omega), ?_⟩
        intro _ _
        exact ⟨by omega, hG _ _ (rdO_l (Fr_trans (by rw [e4]; exact Fr_u3 (by simp [RdL])) (Fr_u3 (by simp [RdL]))) (lim_f pr (by show _ < r1 - σ 228 0 0 - 1; omega)) u3_s)⟩
    · skip
      refine ⟨(by omega), ?_⟩
      intro _ _
      exact ⟨by omega, hG _ _ (rdO_l (Fr_u3 (by simp [RdL])) (lim_l (by unfold pLet1; rw [← w1, if_pos (Or.inr c3)])) u3_s)⟩
theorem H_Re_readLetters {d : Nat} (hd : 3 ≤ d) : Holds d I_Re_readLetters S_Re_readLetters := by
  refine holds_of (d' := d - 1) (rt := 2) (cal := [(I_Re_wordEnd, S_Re_wordEnd), (I_Re_byteAt, S_Re_byteAt), (I_Re_fail, S_Re_fail), (I_Re_push, S_Re_push)]) (C := C_Re_readLetters) m_Re_readLetters o_Re_readLetters rfl rfl (by omega) ?_ ?_
  · intro x hx
    simp only [List.mem_cons, List.not_mem_nil, or_false] at hx
    rcases hx with rfl | rfl | rfl | rfl
    · exact H_Re_wordEnd (by omega)
    · exact H_Re_byteAt (by omega)
    · exact H_Re_fail (by omega)
    · exact H_Re_push (by omega)
  · intro as σ K has hσ hG
    have hG2 := hG
    unfold S_Re_readLetters at hG2
    split at hG2
    · next a1 =>
      refine ⟨Nat.le_of_ble_eq_true rfl, (Iv_Re_readLetters a1 σ), ?_, 1000, ?_⟩
      · intro k n z L σ' hk hL hs hP
        unfold Iv_Re_readLetters at hk
        split at hk
        · cases hk
          obtain ⟨v2, v3, v4, rfl, hn, hQ⟩ := hP
          exact ⟨1000, l_Re_readLetters_48 a1 σ K (has _ (List.mem_of_getElem? (i := 1) rfl)) hσ hG v2 v3 v4 σ' (hL _ (List.mem_of_getElem? (i := 2) rfl)) (hL _ (List.mem_of_getElem? (i := 3) rfl)) (hL _ (List.mem_of_getElem? (i := 4) rfl)) hs n hn hQ⟩
        · cases hk
      · exact e_Re_readLetters a1 σ K (has _ (List.mem_of_getElem? (i := 1) rfl)) hσ hG
    · exact hG2.elim
theorem scF_ge {T : Int → Int} {p : Int → Bool} : ∀ (k : Nat) (a : Int), a ≤ scF T p k a := by
  intro k
  induction k with
  | zero => intro a; exact Int.le_refl _
  | succ k ih =>
    intro a
    unfold scF
    split
    · have := ih (a + 1); omega
    · exact Int.le_refl _
theorem sc_gt {T : Int → Int} {p : Int → Bool} {a : Int} (h : p (T a) = true) : a < scF T p 301 a := by
  have := scF_ge (T := T) (p := p) 300 (a + 1)
  show a < (if p (T a) = true then scF T p 300 (a + 1) else a)
  rw [if_pos h]
  omega
theorem pl_ba {σ σ4 σ5 : SS} {t t' : Int} {u : PW} (h : plI σ4 σ5 t' u) (ht : t' = t) (h2 : σ4 24 0 = σ 24 0) : plI σ σ5 t u := by
  subst ht
  unfold plI at h ⊢
  rw [← h2]
  exact h
theorem rn_cs {M v : Int} {P Q : Prop} (h1 : v ≤ M → P) (h2 : M < v → Q) : (v ≤ M ∧ P) ∨ (M < v ∧ Q) := by
  rcases (by omega : v ≤ M ∨ M < v) with z | z
  · exact Or.inl ⟨z, h1 z⟩
  · exact Or.inr ⟨z, h2 z⟩
theorem pg_no {T : Int → Int} {fib : Prop} [Decidable fib] {a : Int} (h : dg (T (sk T a)) = false) : pGrown T fib a = .inl (8 * sk T a + 1) := if_pos h
theorem pg_big {T : Int → Int} {fib : Prop} [Decidable fib] {a : Int} (h : dg (T (sk T a)) = true) (h2 : (if fib then (20 : Int) else 8) < nv T (sk T a)) : pGrown T fib a = .inl (8 * sk T a + 2) := by
  unfold pGrown
  rw [if_neg (by rw [h]; decide), if_pos h2]
theorem pg_ok {T : Int → Int} {fib : Prop} [Decidable fib] {a : Int} (h : dg (T (sk T a)) = true) (h2 : nv T (sk T a) ≤ (if fib then (20 : Int) else 8)) : pGrown T fib a = .inr (if fib then fibW (nv T (sk T a)) else morW (nv T (sk T a)), de T (sk T a)) := by
  unfold pGrown
  rw [if_neg (by rw [h]; decide), if_neg (by omega)]
def S_Re_readGrown : GS := fun as σ K => match as with
  | [some (.inr (.inr (3, 0))), some (.inl a1), some (.inl a2), some (.inl a3)] => ((RdA σ ∧ 0 ≤ a1 ∧ a1 ≤ 300) ∧ (a2 = 0 ∨ a2 = 1) ∧ σ 223 0 0 ≤ a3 ∧ a3 ≤ σ 223 0 0 + 120 ∧ a3 ≤ 840) ∧ ∀ σ' r, rdO σ σ' (lim a1 (a3 - σ 223 0 0) (pGrown (tpC σ) (a2 = 1) (σ 228 0 0))) r → K (vI r) σ'
  | _ => False
def VE_Re_readGrown (a1 : Int) (a2 : Int) (a3 : Int) (σ : SS) (K : AV → SS → Prop) : Prop :=
  (S_Re_skipBlanks [vR 3 0] σ (kV fun σ1 =>
    (S_Re_byteAt [vR 3 0, vI (σ1 228 0 0)] σ1 (kI fun r2 σ2 =>
      (S_Re_isDigit [vR 3 0, vI r2] σ2 (kI fun r3 σ3 =>
        ((r3 ≠ 0 →
          ((a2 = 0 →
            (S_Re_readNumber [vR 3 0, vI 8] σ3 (kI fun r4 σ4 =>
              (((0 : Int) ≤ r4 →
                ((a2 = 0 →
                  ((0 ≤ (r4 : Int) ∧ (r4 : Int) < 32 ∧ InR (shlI 1 r4)) ∧
                  (InR ((σ4 223 0 0) + (shlI 1 r4)) ∧
                  ((((σ4 223 0 0) + (shlI 1 r4)) ≤ a3 →
                    ((a2 = 0 →
                      (S_Re_growMorse [vR 3 0, vI r4] σ4 (kV fun σ5 =>
                        ((0 ≤ (1 : Int) ∧ (1 : Int) ≤ 1) ∧ K (vI 1) σ5)))) ∧
                    (a2 ≠ 0 →
                      (S_Re_growFib [vR 3 0, vI r4] σ4 (kV fun σ6 =>
                        ((0 ≤ (1 : Int) ∧ (1 : Int) ≤ 1) ∧ K (vI 1) σ6)))))) ∧
                  (a3 < ((σ4 223 0 0) + (shlI 1 r4)) →
                    (S_Re_fail [vR 3 0, vI a1, vI 3] σ4 (kI fun r7 σ7 =>
                      ((0 ≤ (r7 : Int) ∧ (r7 : Int) ≤ 1) ∧ K (vI r7) σ7)))))))) ∧
                (a2 ≠ 0 →
                  (S_Re_fibSize [vR 3 0, vI r4] σ4 (kI fun r8 σ8 =>
                    (InR ((σ4 223 0 0) + r8) ∧
                    ((((σ4 223 0 0) + r8) ≤ a3 →
                      ((a2 = 0 →
                        (S_Re_growMorse [vR 3 0, vI r4] σ8 (kV fun σ9 =>
                          ((0 ≤ (1 : Int) ∧ (1 : Int) ≤ 1) ∧ K (vI 1) σ9)))) ∧
                      (a2 ≠ 0 →
                        (S_Re_growFib [vR 3 0, vI r4] σ8 (kV fun σ10 =>
                          ((0 ≤ (1 : Int) ∧ (1 : Int) ≤ 1) ∧ K (vI 1) σ10)))))) ∧
                    (a3 < ((σ4 223 0 0) + r8) →
                      (S_Re_fail [vR 3 0, vI a1, vI 3] σ8 (kI fun r11 σ11 =>
                        ((0 ≤ (r11 : Int) ∧ (r11 : Int) ≤ 1) ∧ K (vI r11) σ11))))))))))) ∧
              (r4 < 0 →
                ((0 ≤ (0 : Int) ∧ (0 : Int) ≤ 1) ∧ K (vI 0) σ4)))))) ∧
          (a2 ≠ 0 →
            (S_Re_readNumber [vR 3 0, vI 20] σ3 (kI fun r12 σ12 =>
              (((0 : Int) ≤ r12 →
                ((a2 = 0 →
                  ((0 ≤ (r12 : Int) ∧ (r12 : Int) < 32 ∧ InR (shlI 1 r12)) ∧
                  (InR ((σ12 223 0 0) + (shlI 1 r12)) ∧
                  ((((σ12 223 0 0) + (shlI 1 r12)) ≤ a3 →
                    ((a2 = 0 →
                      (S_Re_growMorse [vR 3 0, vI r12] σ12 (kV fun σ13 =>
                        ((0 ≤ (1 : Int) ∧ (1 : Int) ≤ 1) ∧ K (vI 1) σ13)))) ∧
                    (a2 ≠ 0 →
                      (S_Re_growFib [vR 3 0, vI r12] σ12 (kV fun σ14 =>
                        ((0 ≤ (1 : Int) ∧ (1 : Int) ≤ 1) ∧ K (vI 1) σ14)))))) ∧
                  (a3 < ((σ12 223 0 0) + (shlI 1 r12)) →
                    (S_Re_fail [vR 3 0, vI a1, vI 3] σ12 (kI fun r15 σ15 =>
                      ((0 ≤ (r15 : Int) ∧ (r15 : Int) ≤ 1) ∧ K (vI r15) σ15)))))))) ∧
                (a2 ≠ 0 →
                  (S_Re_fibSize [vR 3 0, vI r12] σ12 (kI fun r16 σ16 =>
                    (InR ((σ12 223 0 0) + r16) ∧
                    ((((σ12 223 0 0) + r16) ≤ a3 →
                      ((a2 = 0 →
                        (S_Re_growMorse [vR 3 0, vI r12] σ16 (kV fun σ17 =>
                          ((0 ≤ (1 : Int) ∧ (1 : Int) ≤ 1) ∧ K (vI 1) σ17)))) ∧
                      (a2 ≠ 0 →
                        (S_Re_growFib [vR 3 0, vI r12] σ16 (kV fun σ18 =>
                          ((0 ≤ (1 : Int) ∧ (1 : Int) ≤ 1) ∧ K (vI 1) σ18)))))) ∧
                    (a3 < ((σ12 223 0 0) + r16) →
                      (S_Re_fail [vR 3 0, vI a1, vI 3] σ16 (kI fun r19 σ19 =>
                        ((0 ≤ (r19 : Int) ∧ (r19 : Int) ≤ 1) ∧ K (vI r19) σ19))))))))))) ∧
              (r12 < 0 →
                ((0 ≤ (0 : Int) ∧ (0 : Int) ≤ 1) ∧ K (vI 0) σ12)))))))) ∧
        (r3 = 0 →
          (S_Re_fail [vR 3 0, vI (σ3 228 0 0), vI 1] σ3 (kI fun r20 σ20 =>
            ((0 ≤ (r20 : Int) ∧ (r20 : Int) ≤ 1) ∧ K (vI r20) σ20)))))))))))
theorem e_Re_readGrown (a1 : Int) (a2 : Int) (a3 : Int) (σ : SS) (K : AV → SS → Prop) (ha1 : InR a1) (ha2 : InR a2) (ha3 : InR a3) (hs : okS σ) (hG : S_Re_readGrown [vR 3 0, vI a1, vI a2, vI a3] σ K) : VE_Re_readGrown a1 a2 a3 σ K := by
  unfold VE_Re_readGrown
  obtain ⟨⟨⟨⟨hA, hT⟩, h1, h2⟩, h3, h4⟩, hG⟩ := hG
  refine ⟨(by first | assumption | omega | exact ⟨by first | assumption | omega, by omega⟩ | exact ⟨by assumption, by omega, by omega⟩ | exact ⟨by assumption, by omega, by omega, by omega⟩ | exact ⟨by assumption, by omega, by omega, by omega, by omega⟩ | exact ⟨by assumption, by omega, by omega, by omega, by omega, by omega⟩), (fun σ1 h1a h1b h1c => ?_)⟩
  intro _
  have f1 := h1a
  have f2 := h1b
  have f3 := h1c
  obtain ⟨t1, t2⟩ := tp_fr f1 (by simp) (by simp)
  have tp1 : σ1 223 0 0 = σ 223 0 0 := congrFun (f1 223 0 (by simp)) 0
  have fl1 : σ1 229 0 = σ 229 0 := f1 _ _ (by simp)
  refine ⟨(by omega), ?_⟩
  intro _ _
  rw [t1]
  refine bS_b1 (fun p2 _ => ?_) (fun p2 _ => ?_)
  · skip
    refine ⟨fun c3 => ?_, fun c3 => ?_⟩
    · skip
      refine ⟨(by omega), (fun σ4 r4 h4a h4b h4c => ?_)⟩
      intro _ _
      have fa := h4a
      have dj := rn_cs h4b h4c
      rw [t1, f2] at dj
      have f4 : Fr RdL σ σ4 := Fr_trans (Fr_mono f1 (by simp [RdL])) (Fr_mono fa (by simp [RdL]))
      have tp4 : σ4 223 0 0 = σ 223 0 0 := by rw [fa 223 0 (by simp)]; exact tp1
      have pi4 : σ4 24 0 = σ 24 0 := by rw [fa 24 0 (by simp)]; exact f1 _ _ (by simp)
      have dt := dg_t.mpr p2
      rw [f2] at dt
      have sh : r4 < 0 ∨ 30 < r4 ∨ (InR (shlI 1 r4) ∧ shlI 1 r4 = 2 ^ r4.toNat ∧ 0 < shlI 1 r4 ∧ (8 < r4 ∨ shlI 1 r4 ≤ 256)) := by
        rcases (by omega : r4 < 0 ∨ 30 < r4 ∨ (0 ≤ r4 ∧ r4 < 31)) with z | z | z
        · exact Or.inl z
        · exact Or.inr (Or.inl z)
        · have s1 := shl1 z.1 z.2
          have s2 : shlI 1 r4 = 2 ^ r4.toNat := by rw [s1.1]; exact Int.natCast_pow 2 _
          refine Or.inr (Or.inr ⟨by omega, s2, s1.2.1, ?_⟩)
          rcases (by omega : 8 < r4 ∨ r4 ≤ 8) with y | y
          · exact Or.inl y
          · have := p2_b (k := r4.toNat) (by omega)
            rw [← s2] at this
            exact Or.inr this.2
      have dk : r4 < 0 ∨ (0 ≤ r4 ∧ r4 ≤ 20 ∧ (a2 = 0 → r4 ≤ 8)) := by
        rcases dj with ⟨z1, z2, z3, _⟩ | ⟨_, z2, _⟩
        · exact Or.inr ⟨z3, by omega, fun _ => by omega⟩
        · exact Or.inl (by omega)
      have ok : 0 ≤ r4 → (nv (tpC σ) (sk (tpC σ) (σ 228 0 0)) = r4 ∧ r4 ≤ (if a2 = 1 then (20 : Int) else 8)) ∧ σ4 229 0 = σ 229 0 ∧ σ4 228 0 0 = de (tpC σ) (sk (tpC σ) (σ 228 0 0)) ∧ σ 228 0 0 < σ4 228 0 0 ∧ σ4 228 0 0 ≤ σ 221 0 0 := fun y => by
        rcases dj with ⟨z1, z2, z3, z4, z5, z6, z7, z8⟩ | ⟨_, z2, _⟩
        · refine ⟨⟨z2.symm, ?_⟩, z4.trans fl1, z5, ?_, by omega⟩
          · split
            · omega
            · omega
          · have gt : sk (tpC σ) (σ 228 0 0) < de (tpC σ) (sk (tpC σ) (σ 228 0 0)) := sc_gt dt
            omega
        · omega
      have no : r4 < 0 → (if a2 = 1 then (20 : Int) else 8) < nv (tpC σ) (sk (tpC σ) (σ 228 0 0)) ∧ r4 = -1 ∧ σ4 229 0 0 = 8 * sk (tpC σ) (σ 228 0 0) + 2 := fun y => by
        rcases dj with ⟨z1, z2, z3, _⟩ | ⟨z1, z2, z3⟩
        · omega
        · refine ⟨?_, z2, z3⟩
          split
          · omega
          · omega
      refine ⟨fun c5 => ?_, fun c5 => ?_⟩
      · skip
        refine ⟨fun c6 => ?_, fun c6 => ?_⟩
        · skip
          refine ⟨(by exact ⟨by omega, by omega, by omega⟩), ?_⟩
          refine ⟨(by omega), ?_⟩
          refine ⟨fun c7 => ?_, fun c7 => ?_⟩
          · skip
            refine ⟨fun c8 => ?_, fun c8 => ?_⟩
            · skip
              refine ⟨(by omega), (fun σ9 h9a h9b => ?_)⟩
              intro _
              obtain ⟨⟨o1, o1b⟩, o2, o3, o4, o5⟩ := ok c5
              have pg := pg_ok (fib := a2 = 1) dt (by rw [o1]; exact o1b)
              rw [if_neg (by omega), o1, ← o3] at pg
              exact ⟨by omega, hG _ _ (rdO_r (Fr_trans f4 (Fr_mono h9a (by simp [RdL]))) (lim_r pg (by show ¬ _ < (2 : Int) ^ r4.toNat; omega)) (by rw [h9a 229 0 (by simp)]; exact o2) (by rw [h9a 228 0 (by simp)]) ⟨o4, o5⟩ (by show (2 : Int) ^ r4.toNat ≤ 120; omega) (pl_ba h9b tp4 pi4))⟩
            · skip
              refine ⟨(by omega), (fun σ9 h9a h9b => ?_)⟩
              intro _
              omega
          · skip
            refine ⟨(by omega), ?_⟩
            intro _ _
            obtain ⟨⟨o1, o1b⟩, o2, o3, o4, o5⟩ := ok c5
            have pg := pg_ok (fib := a2 = 1) dt (by rw [o1]; exact o1b)
            rw [if_neg (by omega), o1, ← o3] at pg
            exact ⟨by omega, hG _ _ (rdO_l (Fr_trans f4 (Fr_u3 (by simp [RdL]))) (lim_f pg (by show _ < (2 : Int) ^ r4.toNat; omega)) u3_s)⟩
        · skip
          refine ⟨(by omega), ?_⟩
          intro _ _
          have fb := fbN_b (k := r4.toNat) (by omega)
          refine ⟨(by omega), ?_⟩
          refine ⟨fun c7 => ?_, fun c7 => ?_⟩
          · skip
            refine ⟨fun c8 => ?_, fun c8 => ?_⟩
            · skip
              refine ⟨(by omega), (fun σ9 h9a h9b => ?_)⟩
              intro _
              omega
            · skip
              refine ⟨(by omega), (fun σ9 h9a h9b => ?_)⟩
              intro _
              omega
          · skip
            refine ⟨(by omega), ?_⟩
            intro _ _
            omega
      · skip
        obtain ⟨n1, n2, n3⟩ := no c5
        exact ⟨by omega, hG _ _ (rdO_l f4 (lim_l (pg_big dt n1)) n3)⟩
    · skip
      refine ⟨(by omega), (fun σ4 r4 h4a h4b h4c => ?_)⟩
      intro _ _
      have fa := h4a
      have dj := rn_cs h4b h4c
      rw [t1, f2] at dj
      have f4 : Fr RdL σ σ4 := Fr_trans (Fr_mono f1 (by simp [RdL])) (Fr_mono fa (by simp [RdL]))
      have tp4 : σ4 223 0 0 = σ 223 0 0 := by rw [fa 223 0 (by simp)]; exact tp1
      have pi4 : σ4 24 0 = σ 24 0 := by rw [fa 24 0 (by simp)]; exact f1 _ _ (by simp)
      have dt := dg_t.mpr p2
      rw [f2] at dt
      have sh : r4 < 0 ∨ 30 < r4 ∨ (InR (shlI 1 r4) ∧ shlI 1 r4 = 2 ^ r4.toNat ∧ 0 < shlI 1 r4 ∧ (8 < r4 ∨ shlI 1 r4 ≤ 256)) := by
        rcases (by omega : r4 < 0 ∨ 30 < r4 ∨ (0 ≤ r4 ∧ r4 < 31)) with z | z | z
        · exact Or.inl z
        · exact Or.inr (Or.inl z)
        · have s1 := shl1 z.1 z.2
          have s2 : shlI 1 r4 = 2 ^ r4.toNat := by rw [s1.1]; exact Int.natCast_pow 2 _
          refine Or.inr (Or.inr ⟨by omega, s2, s1.2.1, ?_⟩)
          rcases (by omega : 8 < r4 ∨ r4 ≤ 8) with y | y
          · exact Or.inl y
          · have := p2_b (k := r4.toNat) (by omega)
            rw [← s2] at this
            exact Or.inr this.2
      have dk : r4 < 0 ∨ (0 ≤ r4 ∧ r4 ≤ 20 ∧ (a2 = 0 → r4 ≤ 8)) := by
        rcases dj with ⟨z1, z2, z3, _⟩ | ⟨_, z2, _⟩
        · exact Or.inr ⟨z3, by omega, fun _ => by omega⟩
        · exact Or.inl (by omega)
      have ok : 0 ≤ r4 → (nv (tpC σ) (sk (tpC σ) (σ 228 0 0)) = r4 ∧ r4 ≤ (if a2 = 1 then (20 : Int) else 8)) ∧ σ4 229 0 = σ 229 0 ∧ σ4 228 0 0 = de (tpC σ) (sk (tpC σ) (σ 228 0 0)) ∧ σ 228 0 0 < σ4 228 0 0 ∧ σ4 228 0 0 ≤ σ 221 0 0 := fun y => by
        rcases dj with ⟨z1, z2, z3, z4, z5, z6, z7, z8⟩ | ⟨_, z2, _⟩
        · refine ⟨⟨z2.symm, ?_⟩, z4.trans fl1, z5, ?_, by omega⟩
          · split
            · omega
            · omega
          · have gt : sk (tpC σ) (σ 228 0 0) < de (tpC σ) (sk (tpC σ) (σ 228 0 0)) := sc_gt dt
            omega
        · omega
      have no : r4 < 0 → (if a2 = 1 then (20 : Int) else 8) < nv (tpC σ) (sk (tpC σ) (σ 228 0 0)) ∧ r4 = -1 ∧ σ4 229 0 0 = 8 * sk (tpC σ) (σ 228 0 0) + 2 := fun y => by
        rcases dj with ⟨z1, z2, z3, _⟩ | ⟨z1, z2, z3⟩
        · omega
        · refine ⟨?_, z2, z3⟩
          split
          · omega
          · omega
      refine ⟨fun c5 => ?_, fun c5 => ?_⟩
      · skip
        refine ⟨fun c6 => ?_, fun c6 => ?_⟩
        · skip
          refine ⟨(by exact ⟨by omega, by omega, by omega⟩), ?_⟩
          refine ⟨(by omega), ?_⟩
          refine ⟨fun c7 => ?_, fun c7 => ?_⟩
          · skip
            refine ⟨fun c8 => ?_, fun c8 => ?_⟩
            · skip
              refine ⟨(by omega), (fun σ9 h9a h9b => ?_)⟩
              intro _
              omega
            · skip
              refine ⟨(by omega), (fun σ9 h9a h9b => ?_)⟩
              intro _
              omega
          · skip
            refine ⟨(by omega), ?_⟩
            intro _ _
            omega
        · skip
          refine ⟨(by omega), ?_⟩
          intro _ _
          have fb := fbN_b (k := r4.toNat) (by omega)
          refine ⟨(by omega), ?_⟩
          refine ⟨fun c7 => ?_, fun c7 => ?_⟩
          · skip
            refine ⟨fun c8 => ?_, fun c8 => ?_⟩
            · skip
              refine ⟨(by omega), (fun σ9 h9a h9b => ?_)⟩
              intro _
              omega
            · skip
              refine ⟨(by omega), (fun σ9 h9a h9b => ?_)⟩
              intro _
              obtain ⟨⟨o1, o1b⟩, o2, o3, o4, o5⟩ := ok c5
              have pg := pg_ok (fib := a2 = 1) dt (by rw [o1]; exact o1b)
              rw [if_pos (by omega), o1, ← o3] at pg
              exact ⟨by omega, hG _ _ (rdO_r (Fr_trans f4 (Fr_mono h9a (by simp [RdL]))) (lim_r pg (by show ¬ _ < fbN r4.toNat; omega)) (by rw [h9a 229 0 (by simp)]; exact o2) (by rw [h9a 228 0 (by simp)]) ⟨o4, o5⟩ (by show fbN r4.toNat ≤ 120; omega) (pl_ba h9b tp4 pi4))⟩
          · skip
            refine ⟨(by omega), ?_⟩
            intro _ _
            obtain ⟨⟨o1, o1b⟩, o2, o3, o4, o5⟩ := ok c5
            have pg := pg_ok (fib := a2 = 1) dt (by rw [o1]; exact o1b)
            rw [if_pos (by omega), o1, ← o3] at pg
            exact ⟨by omega, hG _ _ (rdO_l (Fr_trans f4 (Fr_u3 (by simp [RdL]))) (lim_f pg (by show _ < fbN r4.toNat; omega)) u3_s)⟩
      · skip
        obtain ⟨n1, n2, n3⟩ := no c5
        exact ⟨by omega, hG _ _ (rdO_l f4 (lim_l (pg_big dt n1)) n3)⟩
  · skip
    refine ⟨(by omega), ?_⟩
    intro _ _
    exact ⟨by omega, hG _ _ (rdO_l (Fr_trans (Fr_mono f1 (by simp [RdL])) (Fr_u3 (by simp [RdL]))) (lim_l (pg_no (by rw [← f2]; exact dg_f.mpr p2))) (by rw [u3_s, f2]))⟩
theorem H_Re_readGrown {d : Nat} (hd : 3 ≤ d) : Holds d I_Re_readGrown S_Re_readGrown := by
  refine holds_of (d' := d - 1) (rt := 2) (cal := [(I_Re_skipBlanks, S_Re_skipBlanks), (I_Re_byteAt, S_Re_byteAt), (I_Re_isDigit, S_Re_isDigit), (I_Re_fail, S_Re_fail), (I_Re_readNumber, S_Re_readNumber), (I_Re_fibSize, S_Re_fibSize), (I_Re_growFib, S_Re_growFib), (I_Re_growMorse, S_Re_growMorse)]) (C := C_Re_readGrown) m_Re_readGrown o_Re_readGrown rfl rfl (by omega) ?_ ?_
  · intro x hx
    simp only [List.mem_cons, List.not_mem_nil, or_false] at hx
    rcases hx with rfl | rfl | rfl | rfl | rfl | rfl | rfl | rfl
    · exact H_Re_skipBlanks (by omega)
    · exact H_Re_byteAt (by omega)
    · exact H_Re_isDigit (by omega)
    · exact H_Re_fail (by omega)
    · exact H_Re_readNumber (by omega)
    · exact H_Re_fibSize (by omega)
    · exact H_Re_growFib (by omega)
    · exact H_Re_growMorse (by omega)
  · intro as σ K has hσ hG
    have hG2 := hG
    unfold S_Re_readGrown at hG2
    split at hG2
    · next a1 a2 a3 =>
      refine ⟨Nat.le_of_ble_eq_true rfl, (fun _ => none), ?_, 1000, ?_⟩
      · intro k n z L σ' hk hL hs hP
        cases hk
      · exact e_Re_readGrown a1 a2 a3 σ K (has _ (List.mem_of_getElem? (i := 1) rfl)) (has _ (List.mem_of_getElem? (i := 2) rfl)) (has _ (List.mem_of_getElem? (i := 3) rfl)) hσ hG
    · exact hG2.elim
