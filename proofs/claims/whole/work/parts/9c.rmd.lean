/-! TEXT: the reference's reader; its small parts -/
def tpM (σ : SS) : Int → Int := fun x => if 0 ≤ x ∧ x < σ 596 0 0 then andI (σ 49 0 x) 255 else -1
theorem tm_in {σ : SS} {x : Int} (h0 : 0 ≤ x) (h1 : x < σ 596 0 0) : 0 ≤ tpM σ x ∧ tpM σ x ≤ 255 := by
  unfold tpM
  rw [if_pos ⟨h0, h1⟩]
  exact and255
theorem tm_out {σ : SS} {x : Int} (h1 : σ 596 0 0 ≤ x) : tpM σ x = -1 := if_neg (by omega)
theorem tm_fr {σ σ' : SS} {l : List (Nat × Nat)} (h : Fr l σ σ') (h1 : (49, 0) ∉ l) (h2 : (596, 0) ∉ l) : tpM σ' = tpM σ ∧ σ' 596 0 0 = σ 596 0 0 := by
  unfold tpM
  rw [h _ _ h1, h _ _ h2]
  exact ⟨rfl, rfl⟩
theorem tm_lt {σ : SS} (a : Int) : a < σ 596 0 0 ∨ tpM σ a = -1 := by
  rcases (by omega : a < σ 596 0 0 ∨ σ 596 0 0 ≤ a) with z | z
  · exact Or.inl z
  · exact Or.inr (tm_out z)
def pmI (σ0 σ : SS) (t : Int) (u : PW) : Prop := (0 ≤ u.2 ∧ σ 601 0 0 = t + u.2) ∧ (∀ y, y < t → σ 50 0 y = σ0 50 0 y) ∧ ∀ x, 0 ≤ x → x < u.2 → σ 50 0 (t + x) = u.1 x ∧ 0 ≤ u.1 x ∧ u.1 x < 26
theorem pm_0 {σ : SS} : pmI σ σ (σ 601 0 0) nlW := ⟨⟨Int.le_refl _, by show _ = _ + (0 : Int); omega⟩, fun _ _ => rfl, fun x x0 x1 => absurd x1 (by show ¬ x < 0; omega)⟩
theorem pm_cg {σ0 σ : SS} {t m m' : Int} {f f' : Int → Int} (h : pmI σ0 σ t (nW f m)) (e : m = m') (hf : ∀ x, 0 ≤ x → x < m → f x = f' x) : pmI σ0 σ t (nW f' m') := by
  subst e
  rw [← nW_congr hf]
  exact h
theorem pm_push {σ0 σ σ' : SS} {t m a : Int} {f : Int → Int} (h : pmI σ0 σ t (nW f m)) (ha : 0 ≤ a ∧ a < 26) (e : u3 (u3 σ 50 0 (σ 601 0 0) a) 601 0 0 (σ 601 0 0 + 1) = σ') : pmI σ0 σ' t (nW (catW f m (fun _ => a)) (m + 1)) ∧ Fr [(601, 0), (50, 0)] σ σ' ∧ σ' 601 0 0 = t + m + 1 := by
  obtain ⟨⟨h1, h2⟩, h3, h4⟩ := h
  have h1' : 0 ≤ m := h1
  have h2' : σ 601 0 0 = t + m := h2
  rw [h2'] at e
  refine ⟨⟨⟨by show 0 ≤ m + 1; omega, by show _ = t + (m + 1); rw [← e, u3_s]; omega⟩, fun y hy => ?_, fun x x0 x1 => ?_⟩, by rw [← e]; exact Fr_trans (Fr_u3 (by simp)) (Fr_u3 (by simp)), by rw [← e, u3_s]⟩
  · rw [← e, u3_f (by decide), u3_k (by omega)]
    exact h3 y hy
  · have x1' : x < m + 1 := x1
    rw [← e, u3_f (by decide), u3_e]
    show _ = atW _ _ x ∧ 0 ≤ atW _ _ x ∧ atW _ _ x < 26
    rw [atW_in x0 x1']
    unfold catW
    by_cases c : x = m
    · rw [if_pos (by omega), if_neg (by omega)]
      exact ⟨rfl, ha⟩
    · rw [if_neg (by omega), if_pos (by omega)]
      have := h4 x x0 (by show x < m; omega)
      have e2 : (nW f m).1 x = f x := atW_in x0 (by omega)
      rw [e2] at this
      exact this
theorem pm_more {σ0 σ σ' : SS} {t m a : Int} {f : Int → Int} (h : pmI σ0 σ t (nW f m)) (he : a = f m) (ha : 0 ≤ a ∧ a < 26) (e : u3 (u3 σ 50 0 (σ 601 0 0) a) 601 0 0 (σ 601 0 0 + 1) = σ') : pmI σ0 σ' t (nW f (m + 1)) ∧ Fr [(601, 0), (50, 0)] σ σ' ∧ σ' 601 0 0 = t + m + 1 := by
  obtain ⟨p1, p2, p3⟩ := pm_push h ha e
  refine ⟨pm_cg p1 rfl (fun x x0 x1 => ?_), p2, p3⟩
  unfold catW
  split
  · rfl
  · next c => rw [he]; exact congrArg f (by omega)
theorem pm_at {σ0 σ : SS} {t m x : Int} {f : Int → Int} (h : pmI σ0 σ t (nW f m)) (x0 : 0 ≤ x) (x1 : x < m) : σ 50 0 (t + x) = f x ∧ 0 ≤ f x ∧ f x < 26 := by
  have := h.2.2 x x0 x1
  rwa [show (nW f m).1 x = f x from atW_in x0 x1] at this
theorem pm_n {σ0 σ : SS} {t m : Int} {f : Int → Int} (h : pmI σ0 σ t (nW f m)) : 0 ≤ m ∧ σ 601 0 0 = t + m := h.1
theorem pm_e {σ : SS} {f : Int → Int} : pmI σ σ (σ 601 0 0) (nW f 0) := ⟨⟨Int.le_refl _, by show _ = _ + (0 : Int); omega⟩, fun _ _ => rfl, fun x x0 x1 => absurd x1 (by show ¬ x < 0; omega)⟩
theorem pm_fr {σ0 σ σ' : SS} {t : Int} {u : PW} (h : pmI σ0 σ t u) (h1 : σ' 601 0 0 = σ 601 0 0) (h2 : σ' 50 0 = σ 50 0) : pmI σ0 σ' t u := by
  unfold pmI
  rw [h1, h2]
  exact h
theorem pm_ba {σ σ4 σ5 : SS} {t t' : Int} {u : PW} (h : pmI σ4 σ5 t' u) (ht : t' = t) (h2 : σ4 50 0 = σ 50 0) : pmI σ σ5 t u := by
  subst ht
  unfold pmI at h ⊢
  rw [← h2]
  exact h
theorem pm_cat {σ0 σ σ' : SS} {t : Int} {u v : PW} (h : pmI σ0 σ t u) (h' : pmI σ σ' (σ 601 0 0) v) : pmI σ0 σ' t (cat u v) := by
  obtain ⟨⟨h1, h2⟩, h3, h4⟩ := h
  obtain ⟨⟨k1, k2⟩, k3, k4⟩ := h'
  rw [h2] at k2 k3 k4
  refine ⟨⟨by show 0 ≤ u.2 + v.2; omega, by show _ = t + (u.2 + v.2); omega⟩, fun y hy => by rw [k3 y (by omega), h3 y hy], fun x x0 x1 => ?_⟩
  have x1' : x < u.2 + v.2 := x1
  show _ = atW _ _ x ∧ 0 ≤ atW _ _ x ∧ atW _ _ x < 26
  rw [atW_in x0 x1']
  unfold catW
  split
  · next c => rw [k3 _ (by omega)]; exact h4 x x0 c
  · next c =>
    have := k4 (x - u.2) (by omega) (by omega)
    rwa [show t + u.2 + (x - u.2) = t + x by omega] at this
theorem pm_of {σ0 σ : SS} {t : Int} {u : PW} (h : pmI σ0 σ t u) : pmI σ0 σ t (nW u.1 u.2) :=
  ⟨h.1, h.2.1, fun x x0 x1 => by
    rw [show (nW u.1 u.2).1 x = u.1 x from atW_in x0 x1]
    exact h.2.2 x x0 x1⟩
def rmI (σ0 σ : SS) (u : PW) (x : Int) : Prop := (0 ≤ u.2 ∧ σ 601 0 0 = σ0 601 0 0 + u.2) ∧ (∀ y, y < σ0 601 0 0 → σ 50 0 y = σ0 50 0 y) ∧ ∀ y, 0 ≤ y → y < u.2 → (σ 50 0 (σ0 601 0 0 + y) = if y < x ∨ u.2 - 1 - x < y then u.1 (u.2 - 1 - y) else u.1 y) ∧ 0 ≤ u.1 y ∧ u.1 y < 26
theorem rm_0 {σ0 σ : SS} {u : PW} (h : pmI σ0 σ (σ0 601 0 0) u) : rmI σ0 σ u 0 := by
  obtain ⟨h1, h2, h3⟩ := h
  refine ⟨h1, h2, fun y y0 y1 => ?_⟩
  rw [if_neg (by omega)]
  exact h3 y y0 y1
theorem rm_e {σ0 σ : SS} {u : PW} {x : Int} (h : rmI σ0 σ u x) (hx : u.2 - 1 - x ≤ x) : pmI σ0 σ (σ0 601 0 0) (revW u) := by
  obtain ⟨h1, h2, h3⟩ := h
  refine ⟨h1, h2, fun y y0 y1 => ?_⟩
  have y1' : y < u.2 := y1
  have er : (revW u).1 y = u.1 (u.2 - 1 - y) := by
    show atW (fun x => u.1 (u.2 - 1 - x)) u.2 y = _
    exact atW_in y0 y1'
  rw [er]
  have a := h3 y y0 y1'
  have b := h3 (u.2 - 1 - y) (by omega) (by omega)
  refine ⟨?_, b.2⟩
  rw [a.1]
  by_cases c : y < x ∨ u.2 - 1 - x < y
  · rw [if_pos c]
  · rw [if_neg c]
    exact congrArg _ (by omega)
theorem rm_st {σ0 σ σ1 σ2 : SS} {u : PW} {x : Int} (h : rmI σ0 σ u x) (h0 : 0 ≤ x) (hx : x < u.2 - 1 - x) (e1 : σ1 = u3 σ 50 0 (σ0 601 0 0 + x) (σ 50 0 (σ0 601 0 0 + (u.2 - 1 - x)))) (e2 : σ2 = u3 σ1 50 0 (σ0 601 0 0 + (u.2 - 1 - x)) (σ 50 0 (σ0 601 0 0 + x))) : rmI σ0 σ2 u (x + 1) ∧ Fr [(50, 0)] σ σ2 := by
  obtain ⟨h1, h2, h3⟩ := h
  refine ⟨⟨by rw [e2, u3_f (by decide), e1, u3_f (by decide)]; exact h1, fun y hy => by rw [e2, u3_k (by omega), e1, u3_k (by omega)]; exact h2 y hy, fun y y0 y1 => ⟨?_, (h3 y y0 y1).2⟩⟩, by rw [e2, e1]; exact Fr_trans (Fr_u3 (by simp)) (Fr_u3 (by simp))⟩
  rw [e2, u3_e]
  by_cases c : y = u.2 - 1 - x
  · rw [if_pos (by omega), (h3 x h0 (by omega)).1, if_neg (by omega), if_pos (by omega)]
    exact congrArg _ (by omega)
  · rw [if_neg (by omega), e1, u3_e]
    by_cases d : y = x
    · rw [if_pos (by omega), (h3 (u.2 - 1 - x) (by omega) (by omega)).1, if_neg (by omega), if_pos (by omega)]
      exact congrArg _ (by omega)
    · rw [if_neg (by omega), (h3 y y0 y1).1]
      by_cases w : y < x ∨ u.2 - 1 - x < y
      · rw [if_pos w, if_pos (by omega)]
      · rw [if_neg w, if_neg (by omega)]
def RdM (σ : SS) (N : List (Int × PW)) : Prop := (N.length ≤ 4 ∧ σ 607 0 0 = N.length) ∧ ∀ (k : Nat) (q : Int × PW), N[k]? = some q → σ 51 0 k = q.1 ∧ σ 53 0 k = q.2.2 ∧ okNm q.1 ∧ vW q.2 ∧ q.2 = nW q.2.1 q.2.2 ∧ ∀ x, 0 ≤ x → x < q.2.2 → σ 54 0 (120 * k + x) = q.2.1 x
theorem RdM_u {σ : SS} {N N' : List (Int × PW)} (h : RdM σ N) (h' : RdM σ N') : N = N' := by
  refine List.ext_getElem? (fun k => ?_)
  have l1 := h.1.2
  have l2 := h'.1.2
  by_cases c : k < N.length
  · have c' : k < N'.length := by omega
    have e1 : N[k]? = some N[k] := List.getElem?_eq_getElem c
    have e2 : N'[k]? = some N'[k] := List.getElem?_eq_getElem c'
    rw [e1, e2]
    generalize N[k] = p at e1 ⊢
    generalize N'[k] = q at e2 ⊢
    obtain ⟨a1, a2, a3, a4, a5, a6⟩ := h.2 k p e1
    obtain ⟨b1, b2, b3, b4, b5, b6⟩ := h'.2 k q e2
    have z : p.2.2 = q.2.2 := by rw [← a2, ← b2]
    have w : p.2 = q.2 := by
      rw [a5, b5, z]
      exact nW_congr (fun x x0 x1 => by rw [← a6 x x0 (by omega), ← b6 x x0 x1])
    have y : p.1 = q.1 := by rw [← a1, ← b1]
    rw [show p = (p.1, p.2) from rfl, y, w]
  · rw [List.getElem?_eq_none (by omega), List.getElem?_eq_none (by omega)]
def S_Mo_byteAt : GS := fun as σ K => match as with
  | [some (.inr (.inr (12, 0))), some (.inl a1)] => (0 ≤ a1 ∧ σ 596 0 0 ≤ 300) ∧ K (vI (tpM σ a1)) σ
  | _ => False
def VE_Mo_byteAt (a1 : Int) (σ : SS) (K : AV → SS → Prop) : Prop :=
  (((σ 596 0 0) ≤ a1 →
    (K (vI (-1)) σ)) ∧
  (a1 < (σ 596 0 0) →
    ((0 ≤ (a1 : Int) ∧ (a1 : Int) < 300) ∧
    (K (vI (andI (σ 49 0 a1) 255)) σ))))
theorem e_Mo_byteAt (a1 : Int) (σ : SS) (K : AV → SS → Prop) (ha1 : InR a1) (hs : okS σ) (hG : S_Mo_byteAt [vR 12 0, vI a1] σ K) : VE_Mo_byteAt a1 σ K := by
  unfold VE_Mo_byteAt
  obtain ⟨h1, hG⟩ := hG
  have e1 : ¬ (0 ≤ a1 ∧ a1 < σ 596 0 0) → tpM σ a1 = -1 := fun z => if_neg z
  have e2 : 0 ≤ a1 ∧ a1 < σ 596 0 0 → tpM σ a1 = andI (σ 49 0 a1) 255 := fun z => if_pos z
  refine ⟨fun c1 => ?_, fun c1 => ?_⟩
  · skip
    first
      | (rw [e1 (by omega)] at hG; exact hG)
      | (rw [e2 (by omega)] at hG; exact hG)
  · skip
    refine ⟨(by omega), ?_⟩
    first
      | (rw [e1 (by omega)] at hG; exact hG)
      | (rw [e2 (by omega)] at hG; exact hG)
theorem H_Mo_byteAt {d : Nat} (hd : 1 ≤ d) : Holds d I_Mo_byteAt S_Mo_byteAt := by
  refine holds_of (d' := d - 1) (rt := 1) (cal := []) (C := C_Mo_byteAt) m_Mo_byteAt o_Mo_byteAt rfl rfl (by omega) ?_ ?_
  · intro x hx
    cases hx
  · intro as σ K has hσ hG
    have hG2 := hG
    unfold S_Mo_byteAt at hG2
    split at hG2
    · next a1 =>
      refine ⟨Nat.le_of_ble_eq_true rfl, (fun _ => none), ?_, 1000, ?_⟩
      · intro k n z L σ' hk hL hs hP
        cases hk
      · exact e_Mo_byteAt a1 σ K (has _ (List.mem_of_getElem? (i := 1) rfl)) hσ hG
    · exact hG2.elim
def S_Mo_isSmall : GS := fun as σ K => match as with
  | [some (.inl a0)] => bS (97 ≤ a0 ∧ a0 ≤ 122) K σ
  | _ => False
def VE_Mo_isSmall (a0 : Int) (σ : SS) (K : AV → SS → Prop) : Prop :=
  (S_Mo_in [vL a0, vL 97, vL 122] σ (kI fun r1 σ1 =>
    ((0 ≤ (r1 : Int) ∧ (r1 : Int) ≤ 1) ∧ K (vI r1) σ1)))
theorem e_Mo_isSmall (a0 : Int) (σ : SS) (K : AV → SS → Prop) (ha0 : InR a0) (hs : okS σ) (hG : S_Mo_isSmall [vI a0] σ K) : VE_Mo_isSmall a0 σ K := by
  unfold VE_Mo_isSmall
  exact bS_r (fun h _ => bS_y hG h) (fun h _ => bS_n hG h)
theorem H_Mo_isSmall {d : Nat} (hd : 2 ≤ d) : Holds d I_Mo_isSmall S_Mo_isSmall := by
  refine holds_of (d' := d - 1) (rt := 2) (cal := [(I_Mo_in, S_Mo_in)]) (C := C_Mo_isSmall) m_Mo_isSmall o_Mo_isSmall rfl rfl (by omega) ?_ ?_
  · intro x hx
    simp only [List.mem_cons, List.not_mem_nil, or_false] at hx
    subst hx
    exact H_Mo_in (by omega)
  · intro as σ K has hσ hG
    have hG2 := hG
    unfold S_Mo_isSmall at hG2
    split at hG2
    · next a0 =>
      refine ⟨Nat.le_of_ble_eq_true rfl, (fun _ => none), ?_, 1000, ?_⟩
      · intro k n z L σ' hk hL hs hP
        cases hk
      · exact e_Mo_isSmall a0 σ K (has _ (List.mem_of_getElem? (i := 0) rfl)) hσ hG
    · exact hG2.elim
def S_Mo_fails : GS := fun as σ K => match as with
  | [some (.inr (.inr (12, 0))), some (.inl a1), some (.inl a2)] => (0 ≤ a2 ∧ a2 ≤ 1000 ∧ 0 ≤ a1 ∧ a1 ≤ 8) ∧ K (vI 0) (u3 σ 598 0 0 (8 * a2 + a1))
  | _ => False
def VE_Mo_fails (a1 : Int) (a2 : Int) (σ : SS) (K : AV → SS → Prop) : Prop :=
  (InR (8 * a2) ∧
  (InR ((8 * a2) + a1) ∧
  (∀ σ1 : SS, σ1 = u3 σ 598 0 0 ((8 * a2) + a1) →
  ((0 ≤ (0 : Int) ∧ (0 : Int) ≤ 1) ∧ K (vI 0) σ1))))
theorem e_Mo_fails (a1 : Int) (a2 : Int) (σ : SS) (K : AV → SS → Prop) (ha1 : InR a1) (ha2 : InR a2) (hs : okS σ) (hG : S_Mo_fails [vR 12 0, vI a1, vI a2] σ K) : VE_Mo_fails a1 a2 σ K := by
  unfold VE_Mo_fails
  obtain ⟨h1, hG⟩ := hG
  refine ⟨by omega, by omega, fun σ1 e1 => ⟨by omega, ?_⟩⟩
  rw [e1]
  exact hG
theorem H_Mo_fails {d : Nat} (hd : 1 ≤ d) : Holds d I_Mo_fails S_Mo_fails := by
  refine holds_of (d' := d - 1) (rt := 2) (cal := []) (C := C_Mo_fails) m_Mo_fails o_Mo_fails rfl rfl (by omega) ?_ ?_
  · intro x hx
    cases hx
  · intro as σ K has hσ hG
    have hG2 := hG
    unfold S_Mo_fails at hG2
    split at hG2
    · next a1 a2 =>
      refine ⟨Nat.le_of_ble_eq_true rfl, (fun _ => none), ?_, 1000, ?_⟩
      · intro k n z L σ' hk hL hs hP
        cases hk
      · exact e_Mo_fails a1 a2 σ K (has _ (List.mem_of_getElem? (i := 1) rfl)) (has _ (List.mem_of_getElem? (i := 2) rfl)) hσ hG
    · exact hG2.elim
def S_Mo_nextByte : GS := fun as σ K => match as with
  | [some (.inr (.inr (12, 0)))] => (0 ≤ σ 597 0 0 ∧ σ 597 0 0 ≤ σ 596 0 0 ∧ σ 596 0 0 ≤ 300) ∧ ∀ σ', Fr [(597, 0)] σ σ' → σ' 597 0 0 = sk (tpM σ) (σ 597 0 0) → σ 597 0 0 ≤ σ' 597 0 0 ∧ σ' 597 0 0 ≤ σ 596 0 0 → K (vI (tpM σ (sk (tpM σ) (σ 597 0 0)))) σ'
  | _ => False
abbrev Lp_Mo_nextByte_0 (σ0 : SS) (n : Nat) (L : List AV) (σ : SS) : Prop := L = [vR 12 0] ∧ n = (1000 - σ 597 0 0).toNat ∧ ((Fr [(597, 0)] σ0 σ) ∧ (0 ≤ σ 597 0 0 ∧ σ 597 0 0 ≤ σ0 596 0 0) ∧ (scI (tpM σ0) bl (σ0 597 0 0) (σ 597 0 0)))
def Iv_Mo_nextByte (σ0 : SS) (k : Nat) : Option (List Nat × (Nat → List AV → SS → Prop)) := match k with
  | 0 => some ([], Lp_Mo_nextByte_0 σ0)
  | _ => none
def VE_Mo_nextByte (σ : SS) (K : AV → SS → Prop) : Prop :=
  (S_Mo_byteAt [vR 12 0, vI (σ 597 0 0)] σ (kI fun r1 σ1 =>
    ((r1 ≠ 32 →
      (S_Mo_byteAt [vR 12 0, vI (σ1 597 0 0)] σ1 (kI fun r2 σ2 =>
        (K (vI r2) σ2)))) ∧
    (r1 = 32 →
      (InR ((σ1 597 0 0) + 1) ∧
      (∀ σ3 : SS, σ3 = u3 σ1 597 0 0 ((σ1 597 0 0) + 1) →
      (∃ n', Lp_Mo_nextByte_0 σ n' [vR 12 0] σ3)))))))
def VL_Mo_nextByte_0 (σ0 : SS) (K : AV → SS → Prop) (σ : SS) (n : Nat) : Prop :=
  (S_Mo_byteAt [vR 12 0, vI (σ 597 0 0)] σ (kI fun r1 σ1 =>
    ((r1 ≠ 32 →
      (S_Mo_byteAt [vR 12 0, vI (σ1 597 0 0)] σ1 (kI fun r2 σ2 =>
        (K (vI r2) σ2)))) ∧
    (r1 = 32 →
      (InR ((σ1 597 0 0) + 1) ∧
      (∀ σ3 : SS, σ3 = u3 σ1 597 0 0 ((σ1 597 0 0) + 1) →
      (∃ n', n' < n ∧ Lp_Mo_nextByte_0 σ0 n' [vR 12 0] σ3)))))))
theorem l_Mo_nextByte_0 (σ0 : SS) (K : AV → SS → Prop) (hs0 : okS σ0) (hG : S_Mo_nextByte [vR 12 0] σ0 K) (σ : SS) (hs : okS σ) (n : Nat) (hn : n = (1000 - σ 597 0 0).toNat) (hQ : (Fr [(597, 0)] σ0 σ) ∧ (0 ≤ σ 597 0 0 ∧ σ 597 0 0 ≤ σ0 596 0 0) ∧ (scI (tpM σ0) bl (σ0 597 0 0) (σ 597 0 0))) : VL_Mo_nextByte_0 σ0 K σ n := by
  unfold VL_Mo_nextByte_0
  obtain ⟨h1, hG⟩ := hG
  obtain ⟨q0, q1, q2⟩ := hQ
  obtain ⟨t1, t2⟩ := tm_fr q0 (by simp) (by simp)
  have q3 := q2.1
  have lt := tm_lt (σ := σ0) (σ 597 0 0)
  refine ⟨(by omega), ?_⟩
  intro _ _
  rw [t1]
  refine ⟨fun c1 => ?_, fun c1 => ?_⟩
  · skip
    refine ⟨(by omega), ?_⟩
    intro _ _
    rw [t1]
    have sk0 : sk (tpM σ0) (σ0 597 0 0) = σ 597 0 0 := scI_e q2 h1.1 (by omega) (bl_f.mpr (by assumption))
    have := hG σ q0 sk0.symm (by omega)
    rw [sk0] at this
    exact this
  · skip
    refine ⟨(by omega), ?_⟩
    refine fun σ2 e2 => ?_
    refine ⟨_, ?_, rfl, rfl, ?_⟩
    · rw [e2, u3_s]; omega
    · refine ⟨?_, ?_, ?_⟩
      · rw [e2]; exact Fr_trans q0 (Fr_u3 (by simp))
      · rw [e2, u3_s]; omega
      · rw [e2, u3_s]; exact scI_s q2 (bl_t.mpr (by assumption))
theorem e_Mo_nextByte (σ : SS) (K : AV → SS → Prop) (hs : okS σ) (hG : S_Mo_nextByte [vR 12 0] σ K) : VE_Mo_nextByte σ K := by
  unfold VE_Mo_nextByte
  obtain ⟨h1, hG⟩ := hG
  have lt := tm_lt (σ := σ) (σ 597 0 0)
  refine ⟨(by first | assumption | omega | exact ⟨by first | assumption | omega, by omega⟩ | exact ⟨by assumption, by omega, by omega⟩ | exact ⟨by assumption, by omega, by omega, by omega⟩ | exact ⟨by assumption, by omega, by omega, by omega, by omega⟩ | exact ⟨by assumption, by omega, by omega, by omega, by omega, by omega⟩), ?_⟩
  intro _ _
  refine ⟨fun c1 => ?_, fun c1 => ?_⟩
  · skip
    refine ⟨(by first | assumption | omega | exact ⟨by first | assumption | omega, by omega⟩ | exact ⟨by assumption, by omega, by omega⟩ | exact ⟨by assumption, by omega, by omega, by omega⟩ | exact ⟨by assumption, by omega, by omega, by omega, by omega⟩ | exact ⟨by assumption, by omega, by omega, by omega, by omega, by omega⟩), ?_⟩
    intro _ _
    have sk0 : sk (tpM σ) (σ 597 0 0) = σ 597 0 0 := scI_e scI_0 h1.1 (by omega) (bl_f.mpr (by assumption))
    have := hG σ Fr_refl sk0.symm (by omega)
    rw [sk0] at this
    exact this
  · skip
    refine ⟨(by omega), ?_⟩
    refine fun σ2 e2 => ?_
    refine ⟨_, rfl, rfl, ?_⟩
    refine ⟨?_, ?_, ?_⟩
    · rw [e2]; exact Fr_u3 (by simp)
    · rw [e2, u3_s]; exact ⟨by omega, by omega⟩
    · rw [e2, u3_s]; exact scI_s scI_0 (bl_t.mpr (by assumption))
theorem H_Mo_nextByte {d : Nat} (hd : 2 ≤ d) : Holds d I_Mo_nextByte S_Mo_nextByte := by
  refine holds_of (d' := d - 1) (rt := 1) (cal := [(I_Mo_byteAt, S_Mo_byteAt)]) (C := C_Mo_nextByte) m_Mo_nextByte o_Mo_nextByte rfl rfl (by omega) ?_ ?_
  · intro x hx
    simp only [List.mem_cons, List.not_mem_nil, or_false] at hx
    subst hx
    exact H_Mo_byteAt (by omega)
  · intro as σ K has hσ hG
    have hG2 := hG
    unfold S_Mo_nextByte at hG2
    split at hG2
    · skip
      refine ⟨Nat.le_of_ble_eq_true rfl, (Iv_Mo_nextByte σ), ?_, 1000, ?_⟩
      · intro k n z L σ' hk hL hs hP
        unfold Iv_Mo_nextByte at hk
        split at hk
        · cases hk
          obtain ⟨rfl, hn, hQ⟩ := hP
          exact ⟨1000, l_Mo_nextByte_0 σ K  hσ hG  σ'  hs n hn hQ⟩
        · cases hk
      · exact e_Mo_nextByte σ K  hσ hG
    · exact hG2.elim
def S_Mo_comes : GS := fun as σ K => match as with
  | [some (.inr (.inr (12, 0))), some (.inl a1)] => (0 ≤ σ 601 0 0 ∧ σ 601 0 0 < 100000) ∧ K none (u3 (u3 σ 50 0 (σ 601 0 0) a1) 601 0 0 (σ 601 0 0 + 1))
  | _ => False
def VE_Mo_comes (a1 : Int) (σ : SS) (K : AV → SS → Prop) : Prop :=
  ((0 ≤ (σ 601 0 0 : Int) ∧ (σ 601 0 0 : Int) < 100000) ∧ ∀ σ1 : SS, σ1 = u3 σ 50 0 (σ 601 0 0) a1 →
  (InR ((σ1 601 0 0) + 1) ∧
  (∀ σ2 : SS, σ2 = u3 σ1 601 0 0 ((σ1 601 0 0) + 1) →
  (K none σ2))))
theorem e_Mo_comes (a1 : Int) (σ : SS) (K : AV → SS → Prop) (ha1 : InR a1) (hs : okS σ) (hG : S_Mo_comes [vR 12 0, vI a1] σ K) : VE_Mo_comes a1 σ K := by
  unfold VE_Mo_comes
  obtain ⟨h1, hG⟩ := hG
  refine ⟨by omega, fun σ1 e1 => ?_⟩
  have k1 : σ1 601 0 0 = σ 601 0 0 := by rw [e1, u3_f (by decide)]
  refine ⟨by omega, fun σ2 e2 => ?_⟩
  rw [k1, e1] at e2
  rw [e2]
  exact hG
theorem H_Mo_comes {d : Nat} (hd : 1 ≤ d) : Holds d I_Mo_comes S_Mo_comes := by
  refine holds_of (d' := d - 1) (rt := 0) (cal := []) (C := C_Mo_comes) m_Mo_comes o_Mo_comes rfl rfl (by omega) ?_ ?_
  · intro x hx
    cases hx
  · intro as σ K has hσ hG
    have hG2 := hG
    unfold S_Mo_comes at hG2
    split at hG2
    · next a1 =>
      refine ⟨Nat.le_of_ble_eq_true rfl, (fun _ => none), ?_, 1000, ?_⟩
      · intro k n z L σ' hk hL hs hP
        cases hk
      · exact e_Mo_comes a1 σ K (has _ (List.mem_of_getElem? (i := 1) rfl)) hσ hG
    · exact hG2.elim
def S_Mo_takesSign : GS := fun as σ K => match as with
  | [some (.inr (.inr (12, 0))), some (.inl a1)] => (0 ≤ σ 597 0 0 ∧ σ 597 0 0 ≤ σ 596 0 0 ∧ σ 596 0 0 ≤ 300 ∧ 0 ≤ a1) ∧ ∀ σ' r, Fr [(597, 0), (598, 0)] σ σ' → (tpM σ (sk (tpM σ) (σ 597 0 0)) = a1 → r = 1 ∧ σ' 597 0 0 = sk (tpM σ) (σ 597 0 0) + 1 ∧ σ 597 0 0 < σ' 597 0 0 ∧ σ' 597 0 0 ≤ σ 596 0 0) → (tpM σ (sk (tpM σ) (σ 597 0 0)) ≠ a1 → r = 0 ∧ σ' 598 0 0 = 8 * sk (tpM σ) (σ 597 0 0) + 1) → K (vI r) σ'
  | _ => False
def VE_Mo_takesSign (a1 : Int) (σ : SS) (K : AV → SS → Prop) : Prop :=
  (S_Mo_nextByte [vR 12 0] σ (kI fun r1 σ1 =>
    ((r1 = a1 →
      (InR ((σ1 597 0 0) + 1) ∧
      (∀ σ2 : SS, σ2 = u3 σ1 597 0 0 ((σ1 597 0 0) + 1) →
      ((0 ≤ (1 : Int) ∧ (1 : Int) ≤ 1) ∧ K (vI 1) σ2)))) ∧
    (r1 ≠ a1 →
      (S_Mo_fails [vR 12 0, vI 1, vI (σ1 597 0 0)] σ1 (kI fun r3 σ3 =>
        ((0 ≤ (r3 : Int) ∧ (r3 : Int) ≤ 1) ∧ K (vI r3) σ3)))))))
theorem e_Mo_takesSign (a1 : Int) (σ : SS) (K : AV → SS → Prop) (ha1 : InR a1) (hs : okS σ) (hG : S_Mo_takesSign [vR 12 0, vI a1] σ K) : VE_Mo_takesSign a1 σ K := by
  unfold VE_Mo_takesSign
  obtain ⟨h1, hG⟩ := hG
  refine ⟨(by first | assumption | omega | exact ⟨by first | assumption | omega, by omega⟩ | exact ⟨by assumption, by omega, by omega⟩ | exact ⟨by assumption, by omega, by omega, by omega⟩ | exact ⟨by assumption, by omega, by omega, by omega, by omega⟩ | exact ⟨by assumption, by omega, by omega, by omega, by omega, by omega⟩), (fun σ1 h1a h1b h1c => ?_)⟩
  intro _ _
  have f1 := h1a
  have f2 := h1b
  have f3 := h1c
  have lt := tm_lt (σ := σ) (σ1 597 0 0)
  rw [f2] at lt
  refine ⟨fun c2 => ?_, fun c2 => ?_⟩
  · skip
    refine ⟨(by omega), ?_⟩
    refine fun σ3 e3 => ?_
    exact ⟨by omega, hG _ _ (Fr_trans (Fr_mono f1 (by simp)) (by rw [e3]; exact Fr_u3 (by simp))) (fun _ => ⟨rfl, by rw [e3, u3_s, f2], by rw [e3, u3_s]; omega, by rw [e3, u3_s]; omega⟩) (fun z => absurd (by assumption) z)⟩
  · skip
    refine ⟨(by omega), ?_⟩
    intro _ _
    exact ⟨by omega, hG _ _ (Fr_trans (Fr_mono f1 (by simp)) (Fr_u3 (by simp))) (fun z => absurd z (by assumption)) (fun _ => ⟨rfl, by rw [u3_s, f2]⟩)⟩
theorem H_Mo_takesSign {d : Nat} (hd : 3 ≤ d) : Holds d I_Mo_takesSign S_Mo_takesSign := by
  refine holds_of (d' := d - 1) (rt := 2) (cal := [(I_Mo_nextByte, S_Mo_nextByte), (I_Mo_fails, S_Mo_fails)]) (C := C_Mo_takesSign) m_Mo_takesSign o_Mo_takesSign rfl rfl (by omega) ?_ ?_
  · intro x hx
    simp only [List.mem_cons, List.not_mem_nil, or_false] at hx
    rcases hx with rfl | rfl
    · exact H_Mo_nextByte (by omega)
    · exact H_Mo_fails (by omega)
  · intro as σ K has hσ hG
    have hG2 := hG
    unfold S_Mo_takesSign at hG2
    split at hG2
    · next a1 =>
      refine ⟨Nat.le_of_ble_eq_true rfl, (fun _ => none), ?_, 1000, ?_⟩
      · intro k n z L σ' hk hL hs hP
        cases hk
      · exact e_Mo_takesSign a1 σ K (has _ (List.mem_of_getElem? (i := 1) rfl)) hσ hG
    · exact hG2.elim
def S_Mo_readsNumber : GS := fun as σ K => match as with
  | [some (.inr (.inr (12, 0))), some (.inl a1)] => ((0 ≤ σ 597 0 0 ∧ σ 597 0 0 ≤ σ 596 0 0 ∧ σ 596 0 0 ≤ 300) ∧ 0 ≤ a1 ∧ a1 ≤ 100) ∧ ∀ σ' r, Fr [(597, 0), (598, 0), (599, 0)] σ σ' → (dg (tpM σ (sk (tpM σ) (σ 597 0 0))) = false → r = 0 ∧ σ' 598 0 0 = 8 * sk (tpM σ) (σ 597 0 0) + 1) → (dg (tpM σ (sk (tpM σ) (σ 597 0 0))) = true → a1 < nv (tpM σ) (sk (tpM σ) (σ 597 0 0)) → r = 0 ∧ σ' 598 0 0 = 8 * sk (tpM σ) (σ 597 0 0) + 2) → (dg (tpM σ (sk (tpM σ) (σ 597 0 0))) = true → nv (tpM σ) (sk (tpM σ) (σ 597 0 0)) ≤ a1 → r = 1 ∧ (σ' 599 0 0 = nv (tpM σ) (sk (tpM σ) (σ 597 0 0)) ∧ 0 ≤ σ' 599 0 0) ∧ σ' 597 0 0 = de (tpM σ) (sk (tpM σ) (σ 597 0 0)) ∧ σ 597 0 0 < σ' 597 0 0 ∧ σ' 597 0 0 ≤ σ 596 0 0) → K (vI r) σ'
  | _ => False
abbrev Lp_Mo_readsNumber_19 (a1 : Int) (σ0 : SS) (n : Nat) (L : List AV) (σ : SS) : Prop := ∃ (v2 : Int), L = [vR 12 0, vI a1, vI v2] ∧ n = (1000 - σ 597 0 0).toNat ∧ ((Fr [(597, 0), (599, 0)] σ0 σ) ∧ (v2 = sk (tpM σ0) (σ0 597 0 0) ∧ dg (tpM σ0 (sk (tpM σ0) (σ0 597 0 0))) = true ∧ σ0 597 0 0 ≤ v2 ∧ σ 597 0 0 ≤ σ0 596 0 0) ∧ (scI (tpM σ0) dg (sk (tpM σ0) (σ0 597 0 0)) (σ 597 0 0)) ∧ ((σ 599 0 0 = nvF (tpM σ0) (sk (tpM σ0) (σ0 597 0 0)) (σ 597 0 0 - sk (tpM σ0) (σ0 597 0 0)).toNat ∧ σ 599 0 0 ≤ 200000) ∨ (10000 ≤ σ 599 0 0 ∧ σ 599 0 0 ≤ 200000 ∧ 10000 ≤ nvF (tpM σ0) (sk (tpM σ0) (σ0 597 0 0)) (σ 597 0 0 - sk (tpM σ0) (σ0 597 0 0)).toNat)))
def Iv_Mo_readsNumber (a1 : Int) (σ0 : SS) (k : Nat) : Option (List Nat × (Nat → List AV → SS → Prop)) := match k with
  | 19 => some ([], Lp_Mo_readsNumber_19 a1 σ0)
  | _ => none
def VE_Mo_readsNumber (a1 : Int) (σ : SS) (K : AV → SS → Prop) : Prop :=
  (S_Mo_nextByte [vR 12 0] σ (kI fun r1 σ1 =>
    (S_Mo_in [vL r1, vL 48, vL 57] σ1 (kI fun r2 σ2 =>
      ((r2 ≠ 0 →
        (∀ σ3 : SS, σ3 = u3 σ2 599 0 0 0 →
        (∃ n', Lp_Mo_readsNumber_19 a1 σ n' [vR 12 0, vI a1, vI (σ2 597 0 0)] σ3))) ∧
      (r2 = 0 →
        (S_Mo_fails [vR 12 0, vI 1, vI (σ2 597 0 0)] σ2 (kI fun r4 σ4 =>
          ((0 ≤ (r4 : Int) ∧ (r4 : Int) ≤ 1) ∧ K (vI r4) σ4)))))))))
def VL_Mo_readsNumber_19 (a1 : Int) (σ0 : SS) (K : AV → SS → Prop) (v2 : Int) (σ : SS) (n : Nat) : Prop :=
  (S_Mo_byteAt [vR 12 0, vI (σ 597 0 0)] σ (kI fun r1 σ1 =>
    (S_Mo_in [vL r1, vL 48, vL 57] σ1 (kI fun r2 σ2 =>
      ((r2 = 0 →
        (((σ2 599 0 0) ≤ a1 →
          ((0 ≤ (1 : Int) ∧ (1 : Int) ≤ 1) ∧ K (vI 1) σ2)) ∧
        (a1 < (σ2 599 0 0) →
          (S_Mo_fails [vR 12 0, vI 2, vI v2] σ2 (kI fun r3 σ3 =>
            ((r3 = 0 →
              ((0 ≤ (0 : Int) ∧ (0 : Int) ≤ 1) ∧ K (vI 0) σ3)) ∧
            (r3 ≠ 0 →
              ((0 ≤ (1 : Int) ∧ (1 : Int) ≤ 1) ∧ K (vI 1) σ3)))))))) ∧
      (r2 ≠ 0 →
        (((10000 : Int) ≤ (σ2 599 0 0) →
          (InR ((σ2 597 0 0) + 1) ∧
          (∀ σ4 : SS, σ4 = u3 σ2 597 0 0 ((σ2 597 0 0) + 1) →
          (∃ n', n' < n ∧ Lp_Mo_readsNumber_19 a1 σ0 n' [vR 12 0, vI a1, vI v2] σ4)))) ∧
        ((σ2 599 0 0) < 10000 →
          (InR (10 * (σ2 599 0 0)) ∧
          (S_Mo_byteAt [vR 12 0, vI (σ2 597 0 0)] σ2 (kI fun r5 σ5 =>
            (InR ((10 * (σ2 599 0 0)) + r5) ∧
            (InR (((10 * (σ2 599 0 0)) + r5) - 48) ∧
            (∀ σ6 : SS, σ6 = u3 σ5 599 0 0 (((10 * (σ2 599 0 0)) + r5) - 48) →
            (InR ((σ6 597 0 0) + 1) ∧
            (∀ σ7 : SS, σ7 = u3 σ6 597 0 0 ((σ6 597 0 0) + 1) →
            (∃ n', n' < n ∧ Lp_Mo_readsNumber_19 a1 σ0 n' [vR 12 0, vI a1, vI v2] σ7)))))))))))))))))
theorem l_Mo_readsNumber_19 (a1 : Int) (σ0 : SS) (K : AV → SS → Prop) (ha1 : InR a1) (hs0 : okS σ0) (hG : S_Mo_readsNumber [vR 12 0, vI a1] σ0 K) (v2 : Int) (σ : SS) (hv2 : InR v2) (hs : okS σ) (n : Nat) (hn : n = (1000 - σ 597 0 0).toNat) (hQ : (Fr [(597, 0), (599, 0)] σ0 σ) ∧ (v2 = sk (tpM σ0) (σ0 597 0 0) ∧ dg (tpM σ0 (sk (tpM σ0) (σ0 597 0 0))) = true ∧ σ0 597 0 0 ≤ v2 ∧ σ 597 0 0 ≤ σ0 596 0 0) ∧ (scI (tpM σ0) dg (sk (tpM σ0) (σ0 597 0 0)) (σ 597 0 0)) ∧ ((σ 599 0 0 = nvF (tpM σ0) (sk (tpM σ0) (σ0 597 0 0)) (σ 597 0 0 - sk (tpM σ0) (σ0 597 0 0)).toNat ∧ σ 599 0 0 ≤ 200000) ∨ (10000 ≤ σ 599 0 0 ∧ σ 599 0 0 ≤ 200000 ∧ 10000 ≤ nvF (tpM σ0) (sk (tpM σ0) (σ0 597 0 0)) (σ 597 0 0 - sk (tpM σ0) (σ0 597 0 0)).toNat))) : VL_Mo_readsNumber_19 a1 σ0 K v2 σ n := by
  unfold VL_Mo_readsNumber_19
  obtain ⟨h1, hG⟩ := hG
  obtain ⟨q0, ⟨q1, q2, q3, q4⟩, q5, q6⟩ := hQ
  obtain ⟨t1, t2⟩ := tm_fr q0 (by simp) (by simp)
  have q7 := q5.1
  have nb := nvF_0 (a := sk (tpM σ0) (σ0 597 0 0)) (m := σ 597 0 0) q5.2 (σ 597 0 0 - sk (tpM σ0) (σ0 597 0 0)).toNat (by omega)
  have lt := tm_lt (σ := σ0) (σ 597 0 0)
  have gt : sk (tpM σ0) (σ0 597 0 0) < de (tpM σ0) (sk (tpM σ0) (σ0 597 0 0)) := sc_gt q2
  have fin : dg (tpM σ0 (σ 597 0 0)) = false → (σ 599 0 0 ≤ a1 → K (vI 1) σ) ∧ (a1 < σ 599 0 0 → K (vI 0) (u3 σ 598 0 0 (8 * v2 + 2))) := fun z => by
    have ed := scI_e q5 (by omega) (by omega) z
    have en : nv (tpM σ0) (sk (tpM σ0) (σ0 597 0 0)) = nvF (tpM σ0) (sk (tpM σ0) (σ0 597 0 0)) (σ 597 0 0 - sk (tpM σ0) (σ0 597 0 0)).toNat := by
      unfold nv de
      rw [ed]
    have ed2 : σ 597 0 0 = de (tpM σ0) (sk (tpM σ0) (σ0 597 0 0)) := ed.symm
    rw [← en] at q6 nb
    refine ⟨fun y => hG _ _ (Fr_mono q0 (by simp)) (fun x => by rw [q2] at x; cases x) (fun _ x => by omega) (fun _ x => ⟨rfl, ⟨by omega, by omega⟩, ed2, by omega, by omega⟩), fun y => hG _ _ (Fr_trans (Fr_mono q0 (by simp)) (Fr_u3 (by simp))) (fun x => by rw [q2] at x; cases x) (fun _ x => ⟨rfl, by rw [u3_s, q1]⟩) (fun _ x => by omega)⟩
  refine ⟨(by omega), ?_⟩
  intro _ _
  rw [t1]
  refine bS_b0 (fun p1 _ => ?_) (fun p1 _ => ?_)
  · skip
    refine ⟨fun c2 => ?_, fun c2 => ?_⟩
    · skip
      refine ⟨(by omega), ?_⟩
      refine fun σ3 e3 => ?_
      refine ⟨_, ?_, _, rfl, rfl, ?_⟩
      · rw [e3, u3_s]; omega
      · refine ⟨?_, ?_, ?_, ?_⟩
        · rw [e3]; exact Fr_trans q0 (Fr_u3 (by simp))
        · exact ⟨q1, q2, q3, by rw [e3, u3_s]; omega⟩
        · rw [e3, u3_s]; exact scI_s q5 (dg_t.mpr p1)
        · rw [e3, u3_s, u3_f (by decide), nvF_s q7]
          rcases q6 with y | y
          · exact Or.inr ⟨by omega, by omega, by omega⟩
          · exact Or.inr ⟨by omega, by omega, by omega⟩
    · skip
      refine ⟨(by omega), ?_⟩
      refine ⟨(by omega), ?_⟩
      intro _ _
      rw [t1]
      refine ⟨(by omega), ?_⟩
      refine ⟨(by omega), ?_⟩
      refine fun σ3 e3 => ?_
      have k3 : σ3 597 0 0 = σ 597 0 0 := by rw [e3, u3_f (by decide)]
      refine ⟨(by omega), ?_⟩
      refine fun σ4 e4 => ?_
      refine ⟨_, ?_, _, rfl, rfl, ?_⟩
      · rw [e4, u3_s, k3]; omega
      · refine ⟨?_, ?_, ?_, ?_⟩
        · rw [e4, e3]; exact Fr_trans q0 (Fr_trans (Fr_u3 (by simp)) (Fr_u3 (by simp)))
        · exact ⟨q1, q2, q3, by rw [e4, u3_s, k3]; omega⟩
        · rw [e4, u3_s, k3]; exact scI_s q5 (dg_t.mpr p1)
        · rw [show σ4 599 0 0 = 10 * σ 599 0 0 + tpM σ0 (σ 597 0 0) - 48 by rw [e4, u3_f (by decide), e3, u3_s], show σ4 597 0 0 = σ 597 0 0 + 1 by rw [e4, u3_s, k3], nvF_s q7]
          rcases q6 with y | y
          · exact Or.inl ⟨by omega, by omega⟩
          · omega
  · skip
    refine ⟨fun c2 => ?_, fun c2 => ?_⟩
    · skip
      exact ⟨by omega, (fin (dg_f.mpr p1)).1 c2⟩
    · skip
      refine ⟨(by omega), ?_⟩
      intro _ _
      refine ⟨fun c3 => ?_, fun c3 => ?_⟩
      · skip
        exact ⟨by omega, (fin (dg_f.mpr p1)).2 c2⟩
      · skip
        exact absurd rfl c3
theorem e_Mo_readsNumber (a1 : Int) (σ : SS) (K : AV → SS → Prop) (ha1 : InR a1) (hs : okS σ) (hG : S_Mo_readsNumber [vR 12 0, vI a1] σ K) : VE_Mo_readsNumber a1 σ K := by
  unfold VE_Mo_readsNumber
  obtain ⟨h1, hG⟩ := hG
  refine ⟨(by first | assumption | omega | exact ⟨by first | assumption | omega, by omega⟩ | exact ⟨by assumption, by omega, by omega⟩ | exact ⟨by assumption, by omega, by omega, by omega⟩ | exact ⟨by assumption, by omega, by omega, by omega, by omega⟩ | exact ⟨by assumption, by omega, by omega, by omega, by omega, by omega⟩), (fun σ1 h1a h1b h1c => ?_)⟩
  intro _ _
  have f1 := h1a
  have f2 := h1b
  have f3 := h1c
  refine bS_b1 (fun p2 _ => ?_) (fun p2 _ => ?_)
  · skip
    refine fun σ3 e3 => ?_
    refine ⟨_, _, rfl, rfl, ?_⟩
    refine ⟨?_, ?_, ?_, ?_⟩
    · rw [e3]; exact Fr_trans (Fr_mono f1 (by simp)) (Fr_u3 (by simp))
    · exact ⟨f2, dg_t.mpr p2, by rw [e3, u3_f (by decide)]; omega⟩
    · rw [e3, u3_f (by decide), f2]; exact scI_0
    · rw [e3, u3_s, u3_f (by decide), f2, show (sk (tpM σ) (σ 597 0 0) - sk (tpM σ) (σ 597 0 0)).toNat = 0 by omega]; exact Or.inl ⟨rfl, by omega⟩
  · skip
    refine ⟨(by omega), ?_⟩
    intro _ _
    have df := dg_f.mpr p2
    exact ⟨by omega, hG _ _ (Fr_trans (Fr_mono f1 (by simp)) (Fr_u3 (by simp))) (fun _ => ⟨rfl, by rw [u3_s, f2]⟩) (fun z => by rw [df] at z; cases z) (fun z => by rw [df] at z; cases z)⟩
theorem H_Mo_readsNumber {d : Nat} (hd : 3 ≤ d) : Holds d I_Mo_readsNumber S_Mo_readsNumber := by
  refine holds_of (d' := d - 1) (rt := 2) (cal := [(I_Mo_nextByte, S_Mo_nextByte), (I_Mo_in, S_Mo_in), (I_Mo_fails, S_Mo_fails), (I_Mo_byteAt, S_Mo_byteAt)]) (C := C_Mo_readsNumber) m_Mo_readsNumber o_Mo_readsNumber rfl rfl (by omega) ?_ ?_
  · intro x hx
    simp only [List.mem_cons, List.not_mem_nil, or_false] at hx
    rcases hx with rfl | rfl | rfl | rfl
    · exact H_Mo_nextByte (by omega)
    · exact H_Mo_in (by omega)
    · exact H_Mo_fails (by omega)
    · exact H_Mo_byteAt (by omega)
  · intro as σ K has hσ hG
    have hG2 := hG
    unfold S_Mo_readsNumber at hG2
    split at hG2
    · next a1 =>
      refine ⟨Nat.le_of_ble_eq_true rfl, (Iv_Mo_readsNumber a1 σ), ?_, 1000, ?_⟩
      · intro k n z L σ' hk hL hs hP
        unfold Iv_Mo_readsNumber at hk
        split at hk
        · cases hk
          obtain ⟨v2, rfl, hn, hQ⟩ := hP
          exact ⟨1000, l_Mo_readsNumber_19 a1 σ K (has _ (List.mem_of_getElem? (i := 1) rfl)) hσ hG v2 σ' (hL _ (List.mem_of_getElem? (i := 2) rfl)) hs n hn hQ⟩
        · cases hk
      · exact e_Mo_readsNumber a1 σ K (has _ (List.mem_of_getElem? (i := 1) rfl)) hσ hG
    · exact hG2.elim
theorem scF_all {T : Int → Int} {p : Int → Bool} : ∀ (k : Nat) (a y : Int), a ≤ y → y < scF T p k a → p (T y) = true := by
  intro k
  induction k with
  | zero => intro a y h1 h2; exact absurd h2 (by show ¬ y < a; omega)
  | succ k ih =>
    intro a y h1 h2
    unfold scF at h2
    by_cases c : p (T a) = true
    · rw [if_pos c] at h2
      rcases (by omega : y = a ∨ a + 1 ≤ y) with z | z
      · rw [z]; exact c
      · exact ih (a + 1) y z h2
    · rw [if_neg c] at h2
      omega
def wcd (w : Nat) : Int := if w = 0 then 8903 else if w = 1 then 13279 else if w = 2 then 4619 else 7217618
theorem cd_len {T : Int → Int} {s : Int} (hc : 757 ≤ cd T s) : (we T s - s = 3 ∧ cd T s ≤ 19682 ∧ cd T s = ((T (s + (0 : Nat)) - 96) * 27 + T (s + (1 : Nat)) - 96) * 27 + T (s + (2 : Nat)) - 96) ∨ (we T s - s = 4 ∧ 20440 ≤ cd T s ∧ cd T s ≤ 531440) ∨ (we T s - s = 5 ∧ 551881 ≤ cd T s ∧ cd T s = ((((T (s + (0 : Nat)) - 96) * 27 + T (s + (1 : Nat)) - 96) * 27 + T (s + (2 : Nat)) - 96) * 27 + T (s + (3 : Nat)) - 96) * 27 + T (s + (4 : Nat)) - 96) := by
  have ge : s ≤ we T s := scF_ge _ _
  have g : ∀ j : Nat, (j : Int) < we T s - s → 97 ≤ T (s + j) ∧ T (s + j) ≤ 122 := fun j hj => sm_t.mp (scF_all 301 s (s + j) (by omega) (by show s + (j : Int) < we T s; omega))
  unfold cd at hc ⊢
  by_cases c5 : we T s - s ≤ 5
  · rw [if_pos c5] at hc ⊢
    rcases (by omega : (we T s - s).toNat = 0 ∨ (we T s - s).toNat = 1 ∨ (we T s - s).toNat = 2 ∨ (we T s - s).toNat = 3 ∨ (we T s - s).toNat = 4 ∨ (we T s - s).toNat = 5) with z | z | z | z | z | z
    · rw [z] at hc
      simp only [cdF] at hc
      omega
    · rw [z] at hc
      have g0 := g 0 (by omega)
      simp only [cdF] at hc
      omega
    · rw [z] at hc
      have g0 := g 0 (by omega)
      have g1 := g 1 (by omega)
      simp only [cdF] at hc
      omega
    · rw [z] at hc ⊢
      have g0 := g 0 (by omega)
      have g1 := g 1 (by omega)
      have g2 := g 2 (by omega)
      simp only [cdF] at hc ⊢
      exact Or.inl ⟨by omega, by omega, by omega⟩
    · rw [z] at hc ⊢
      have g0 := g 0 (by omega)
      have g1 := g 1 (by omega)
      have g2 := g 2 (by omega)
      have g3 := g 3 (by omega)
      simp only [cdF] at hc ⊢
      exact Or.inr (Or.inl ⟨by omega, by omega, by omega⟩)
    · rw [z] at hc ⊢
      have g0 := g 0 (by omega)
      have g1 := g 1 (by omega)
      have g2 := g 2 (by omega)
      have g3 := g 3 (by omega)
      have g4 := g 4 (by omega)
      simp only [cdF] at hc ⊢
      exact Or.inr (Or.inr ⟨by omega, by omega, by omega⟩)
  · rw [if_neg c5] at hc
    omega
theorem wd_iff {T : Int → Int} {n s : Int} {w : Nat} (hT : ∀ x, n ≤ x → T x = -1) (hn : n ≤ 300) (hs : 0 ≤ s) (hw : w < 4) : (∀ j, 0 ≤ j → j < stN w → T (s + j) = stC w j) ∧ ¬ (97 ≤ T (s + stN w) ∧ T (s + stN w) ≤ 122) ↔ cd T s = wcd w := by
  have ge : s ≤ we T s := scF_ge _ _
  have al : ∀ y, s ≤ y → y < we T s → sm (T y) = true := fun y h1 h2 => scF_all 301 s y h1 h2
  have en : sm (T (we T s)) = false := sc_end (n := n) (fun x hx => by rw [hT x hx]; decide) 301 s (by omega)
  have en2 := sm_f.mp en
  have g : ∀ j : Nat, (j : Int) < we T s - s → 97 ≤ T (s + j) ∧ T (s + j) ≤ 122 := fun j hj => sm_t.mp (al (s + j) (by omega) (by omega))
  constructor
  · intro ⟨h1, h2⟩
    have N : we T s = s + stN w := by
      refine sc_is (sm_f.mpr h2) 301 s (by unfold stN; split <;> omega) (by unfold stN; split <;> omega) (fun y y0 y1 => ?_)
      have := h1 (y - s) (by omega) (by omega)
      rw [show s + (y - s) = y by omega] at this
      rw [this]
      refine sm_t.mpr ?_
      unfold stC
      repeat' split
      all_goals omega
    unfold cd
    rw [N]
    rcases (by omega : w = 0 ∨ w = 1 ∨ w = 2 ∨ w = 3) with rfl | rfl | rfl | rfl
    · have a0 : T (s + (0 : Nat)) = 108 := h1 0 (by decide) (by decide)
      have a1 : T (s + (1 : Nat)) = 101 := h1 1 (by decide) (by decide)
      have a2 : T (s + (2 : Nat)) = 116 := h1 2 (by decide) (by decide)
      rw [show s + stN 0 - s = 3 by unfold stN; simp; omega, if_pos (by omega), show (3 : Int).toNat = 3 from rfl]
      simp only [cdF, a0, a1, a2]
      decide
    · have a0 : T (s + (0 : Nat)) = 114 := h1 0 (by decide) (by decide)
      have a1 : T (s + (1 : Nat)) = 101 := h1 1 (by decide) (by decide)
      have a2 : T (s + (2 : Nat)) = 118 := h1 2 (by decide) (by decide)
      rw [show s + stN 1 - s = 3 by unfold stN; simp; omega, if_pos (by omega), show (3 : Int).toNat = 3 from rfl]
      simp only [cdF, a0, a1, a2]
      decide
    · have a0 : T (s + (0 : Nat)) = 102 := h1 0 (by decide) (by decide)
      have a1 : T (s + (1 : Nat)) = 105 := h1 1 (by decide) (by decide)
      have a2 : T (s + (2 : Nat)) = 98 := h1 2 (by decide) (by decide)
      rw [show s + stN 2 - s = 3 by unfold stN; simp; omega, if_pos (by omega), show (3 : Int).toNat = 3 from rfl]
      simp only [cdF, a0, a1, a2]
      decide
    · have a0 : T (s + (0 : Nat)) = 109 := h1 0 (by decide) (by decide)
      have a1 : T (s + (1 : Nat)) = 111 := h1 1 (by decide) (by decide)
      have a2 : T (s + (2 : Nat)) = 114 := h1 2 (by decide) (by decide)
      have a3 : T (s + (3 : Nat)) = 115 := h1 3 (by decide) (by decide)
      have a4 : T (s + (4 : Nat)) = 101 := h1 4 (by decide) (by decide)
      rw [show s + stN 3 - s = 5 by unfold stN; simp; omega, if_pos (by omega), show (5 : Int).toNat = 5 from rfl]
      simp only [cdF, a0, a1, a2, a3, a4]
      decide
  · intro h
    rcases (by omega : w = 0 ∨ w = 1 ∨ w = 2 ∨ w = 3) with rfl | rfl | rfl | rfl
    · have h' : cd T s = 8903 := h
      rcases cd_len (T := T) (s := s) (by omega) with ⟨z1, z2, z3⟩ | ⟨z1, z2, z3⟩ | ⟨z1, z2, z3⟩
      · have g0 := g 0 (by omega)
        have g1 := g 1 (by omega)
        have g2 := g 2 (by omega)
        refine ⟨fun j j0 j1 => ?_, by rw [show s + stN 0 = we T s by show s + 3 = _; omega]; exact en2⟩
        have j1' : j < 3 := j1
        rcases (by omega : j = (0 : Nat) ∨ j = (1 : Nat) ∨ j = (2 : Nat)) with rfl | rfl | rfl
        · show T (s + (0 : Nat)) = 108; omega
        · show T (s + (1 : Nat)) = 101; omega
        · show T (s + (2 : Nat)) = 116; omega
      · omega
      · omega
    · have h' : cd T s = 13279 := h
      rcases cd_len (T := T) (s := s) (by omega) with ⟨z1, z2, z3⟩ | ⟨z1, z2, z3⟩ | ⟨z1, z2, z3⟩
      · have g0 := g 0 (by omega)
        have g1 := g 1 (by omega)
        have g2 := g 2 (by omega)
        refine ⟨fun j j0 j1 => ?_, by rw [show s + stN 1 = we T s by show s + 3 = _; omega]; exact en2⟩
        have j1' : j < 3 := j1
        rcases (by omega : j = (0 : Nat) ∨ j = (1 : Nat) ∨ j = (2 : Nat)) with rfl | rfl | rfl
        · show T (s + (0 : Nat)) = 114; omega
        · show T (s + (1 : Nat)) = 101; omega
        · show T (s + (2 : Nat)) = 118; omega
      · omega
      · omega
    · have h' : cd T s = 4619 := h
      rcases cd_len (T := T) (s := s) (by omega) with ⟨z1, z2, z3⟩ | ⟨z1, z2, z3⟩ | ⟨z1, z2, z3⟩
      · have g0 := g 0 (by omega)
        have g1 := g 1 (by omega)
        have g2 := g 2 (by omega)
        refine ⟨fun j j0 j1 => ?_, by rw [show s + stN 2 = we T s by show s + 3 = _; omega]; exact en2⟩
        have j1' : j < 3 := j1
        rcases (by omega : j = (0 : Nat) ∨ j = (1 : Nat) ∨ j = (2 : Nat)) with rfl | rfl | rfl
        · show T (s + (0 : Nat)) = 102; omega
        · show T (s + (1 : Nat)) = 105; omega
        · show T (s + (2 : Nat)) = 98; omega
      · omega
      · omega
    · have h' : cd T s = 7217618 := h
      rcases cd_len (T := T) (s := s) (by omega) with ⟨z1, z2, z3⟩ | ⟨z1, z2, z3⟩ | ⟨z1, z2, z3⟩
      · omega
      · omega
      · have g0 := g 0 (by omega)
        have g1 := g 1 (by omega)
        have g2 := g 2 (by omega)
        have g3 := g 3 (by omega)
        have g4 := g 4 (by omega)
        refine ⟨fun j j0 j1 => ?_, by rw [show s + stN 3 = we T s by show s + 5 = _; omega]; exact en2⟩
        have j1' : j < 5 := j1
        rcases (by omega : j = (0 : Nat) ∨ j = (1 : Nat) ∨ j = (2 : Nat) ∨ j = (3 : Nat) ∨ j = (4 : Nat)) with rfl | rfl | rfl | rfl | rfl
        · show T (s + (0 : Nat)) = 109; omega
        · show T (s + (1 : Nat)) = 111; omega
        · show T (s + (2 : Nat)) = 114; omega
        · show T (s + (3 : Nat)) = 115; omega
        · show T (s + (4 : Nat)) = 101; omega
def S_Mo_isWord : GS := fun as σ K => match as with
  | [some (.inr (.inr (12, 0))), some (.inr (.inr (60, w1)))] => ((0 ≤ σ 597 0 0 ∧ σ 597 0 0 ≤ σ 596 0 0 ∧ σ 596 0 0 ≤ 300) ∧ w1 < 4) ∧ ∀ σ', Fr [(597, 0)] σ σ' → σ' 597 0 0 = sk (tpM σ) (σ 597 0 0) → σ 597 0 0 ≤ σ' 597 0 0 ∧ σ' 597 0 0 ≤ σ 596 0 0 → bS (cd (tpM σ) (sk (tpM σ) (σ 597 0 0)) = wcd w1) K σ'
  | _ => False
abbrev Lp_Mo_isWord_12 (w1 : Nat) (σ0 : SS) (n : Nat) (L : List AV) (σ : SS) : Prop := ∃ (v2 : Int) (v3 : Int), L = [vR 12 0, vR 60 w1, vI v2, vI v3] ∧ n = (1000 - v3).toNat ∧ ((Fr [(597, 0)] σ0 σ) ∧ (v2 = sk (tpM σ0) (σ0 597 0 0) ∧ σ 597 0 0 = sk (tpM σ0) (σ0 597 0 0) ∧ σ0 597 0 0 ≤ σ 597 0 0 ∧ σ 597 0 0 ≤ σ0 596 0 0) ∧ (0 ≤ v3 ∧ v3 ≤ stN w1) ∧ (∀ j, 0 ≤ j → j < v3 → tpM σ0 (v2 + j) = stC w1 j))
def Iv_Mo_isWord (w1 : Nat) (σ0 : SS) (k : Nat) : Option (List Nat × (Nat → List AV → SS → Prop)) := match k with
  | 12 => some ([], Lp_Mo_isWord_12 w1 σ0)
  | _ => none
def VE_Mo_isWord (w1 : Nat) (σ : SS) (K : AV → SS → Prop) : Prop :=
  (S_Mo_nextByte [vR 12 0] σ (kI fun r1 σ1 =>
    ((r1 ≠ (-1) →
      (∃ n', Lp_Mo_isWord_12 w1 σ n' [vR 12 0, vR 60 w1, vI (σ1 597 0 0), vI 0] σ1)) ∧
    (r1 = (-1) →
      (∃ n', Lp_Mo_isWord_12 w1 σ n' [vR 12 0, vR 60 w1, vI (σ1 596 0 0), vI 0] σ1)))))
def VL_Mo_isWord_12 (w1 : Nat) (σ0 : SS) (K : AV → SS → Prop) (v2 : Int) (v3 : Int) (σ : SS) (n : Nat) : Prop :=
  (S_St_length [vR 60 w1] σ (kI fun r1 σ1 =>
    ((r1 ≤ v3 →
      (S_St_length [vR 60 w1] σ1 (kI fun r2 σ2 =>
        ((v3 ≠ r2 →
          ((0 ≤ (0 : Int) ∧ (0 : Int) ≤ 1) ∧ K (vI 0) σ2)) ∧
        (v3 = r2 →
          (InR (v2 + v3) ∧
          (S_Mo_byteAt [vR 12 0, vI (v2 + v3)] σ2 (kI fun r3 σ3 =>
            (S_Mo_isSmall [vI r3] σ3 (kI fun r4 σ4 =>
              ((r4 ≠ 0 →
                ((0 ≤ (0 : Int) ∧ (0 : Int) ≤ 1) ∧ K (vI 0) σ4)) ∧
              (r4 = 0 →
                ((0 ≤ (1 : Int) ∧ (1 : Int) ≤ 1) ∧ K (vI 1) σ4))))))))))))) ∧
    (v3 < r1 →
      (InR (v2 + v3) ∧
      (S_Mo_byteAt [vR 12 0, vI (v2 + v3)] σ1 (kI fun r5 σ5 =>
        (S_St_charAt [vR 60 w1, vI v3] σ5 (kI fun r6 σ6 =>
          ((r5 ≠ r6 →
            (S_St_length [vR 60 w1] σ6 (kI fun r7 σ7 =>
              ((v3 ≠ r7 →
                ((0 ≤ (0 : Int) ∧ (0 : Int) ≤ 1) ∧ K (vI 0) σ7)) ∧
              (v3 = r7 →
                (InR (v2 + v3) ∧
                (S_Mo_byteAt [vR 12 0, vI (v2 + v3)] σ7 (kI fun r8 σ8 =>
                  (S_Mo_isSmall [vI r8] σ8 (kI fun r9 σ9 =>
                    ((r9 ≠ 0 →
                      ((0 ≤ (0 : Int) ∧ (0 : Int) ≤ 1) ∧ K (vI 0) σ9)) ∧
                    (r9 = 0 →
                      ((0 ≤ (1 : Int) ∧ (1 : Int) ≤ 1) ∧ K (vI 1) σ9))))))))))))) ∧
          (r5 = r6 →
            (InR (v3 + 1) ∧
            (∃ n', n' < n ∧ Lp_Mo_isWord_12 w1 σ0 n' [vR 12 0, vR 60 w1, vI v2, vI (v3 + 1)] σ6)))))))))))))
theorem l_Mo_isWord_12 (w1 : Nat) (σ0 : SS) (K : AV → SS → Prop) (hw1 : w1 < 4) (hs0 : okS σ0) (hG : S_Mo_isWord [vR 12 0, vR 60 w1] σ0 K) (v2 : Int) (v3 : Int) (σ : SS) (hv2 : InR v2) (hv3 : InR v3) (hs : okS σ) (n : Nat) (hn : n = (1000 - v3).toNat) (hQ : (Fr [(597, 0)] σ0 σ) ∧ (v2 = sk (tpM σ0) (σ0 597 0 0) ∧ σ 597 0 0 = sk (tpM σ0) (σ0 597 0 0) ∧ σ0 597 0 0 ≤ σ 597 0 0 ∧ σ 597 0 0 ≤ σ0 596 0 0) ∧ (0 ≤ v3 ∧ v3 ≤ stN w1) ∧ (∀ j, 0 ≤ j → j < v3 → tpM σ0 (v2 + j) = stC w1 j)) : VL_Mo_isWord_12 w1 σ0 K v2 v3 σ n := by
  unfold VL_Mo_isWord_12
  obtain ⟨⟨h1, hw⟩, hG⟩ := hG
  obtain ⟨q0, ⟨q1, q2, q3, q4⟩, q5, q6⟩ := hQ
  obtain ⟨t1, t2⟩ := tm_fr q0 (by simp) (by simp)
  have hb := hG σ q0 q2 ⟨q3, q4⟩
  have wi := wd_iff (T := tpM σ0) (n := σ0 596 0 0) (s := v2) (w := w1) (fun x hx => tm_out hx) h1.2.2 (by omega) hw
  rw [← q1, ← wi] at hb
  have sn : 3 ≤ stN w1 ∧ stN w1 ≤ 5 := by unfold stN; split <;> omega
  refine ⟨(by exact hw), ?_⟩
  intro _ _
  refine ⟨fun c1 => ?_, fun c1 => ?_⟩
  · skip
    refine ⟨(by exact hw), ?_⟩
    intro _ _
    refine ⟨fun c2 => ?_, fun c2 => ?_⟩
    · skip
      omega
    · skip
      refine ⟨(by omega), ?_⟩
      refine ⟨(by omega), ?_⟩
      intro _ _
      rw [t1]
      refine bS_b1 (fun p3 _ => ?_) (fun p3 _ => ?_)
      · skip
        exact bS_n hb (fun z => z.2 (by rw [← c2]; exact p3))
      · skip
        exact bS_y hb ⟨fun j j0 j1 => q6 j j0 (by omega), by rw [← c2]; exact p3⟩
  · skip
    refine ⟨(by omega), ?_⟩
    refine ⟨(by omega), ?_⟩
    intro _ _
    rw [t1]
    refine ⟨(by exact ⟨hw, by omega, by omega⟩), ?_⟩
    intro _ _
    refine ⟨fun c2 => ?_, fun c2 => ?_⟩
    · skip
      refine ⟨(by exact hw), ?_⟩
      intro _ _
      refine ⟨fun c3 => ?_, fun c3 => ?_⟩
      · skip
        exact bS_n hb (fun z => c2 (z.1 v3 q5.1 (by omega)))
      · skip
        refine ⟨(by omega), ?_⟩
        refine ⟨(by omega), ?_⟩
        intro _ _
        rw [t1]
        refine bS_b1 (fun p4 _ => ?_) (fun p4 _ => ?_)
        · skip
          omega
        · skip
          omega
    · skip
      refine ⟨(by omega), ?_⟩
      refine ⟨_, ?_, _, _, rfl, rfl, ?_⟩
      · omega
      · refine ⟨?_, ?_, ?_, ?_⟩
        · first | rfl | assumption | omega
        · first | rfl | assumption | omega
        · first | rfl | assumption | omega
        · intro j j0 j1
          rcases (by omega : j < v3 ∨ j = v3) with z | z
          · exact q6 j j0 z
          · rw [z]; exact c2
theorem e_Mo_isWord (w1 : Nat) (σ : SS) (K : AV → SS → Prop) (hw1 : w1 < 4) (hs : okS σ) (hG : S_Mo_isWord [vR 12 0, vR 60 w1] σ K) : VE_Mo_isWord w1 σ K := by
  unfold VE_Mo_isWord
  obtain ⟨⟨h1, hw⟩, hG⟩ := hG
  have sn : 3 ≤ stN w1 ∧ stN w1 ≤ 5 := by unfold stN; split <;> omega
  refine ⟨(by first | assumption | omega | exact ⟨by first | assumption | omega, by omega⟩ | exact ⟨by assumption, by omega, by omega⟩ | exact ⟨by assumption, by omega, by omega, by omega⟩ | exact ⟨by assumption, by omega, by omega, by omega, by omega⟩ | exact ⟨by assumption, by omega, by omega, by omega, by omega, by omega⟩), (fun σ1 h1a h1b h1c => ?_)⟩
  intro _ _
  have f1 := h1a
  have f2 := h1b
  have f3 := h1c
  have lt := tm_lt (σ := σ) (σ1 597 0 0)
  rw [f2] at lt
  have zz : tpM σ (sk (tpM σ) (σ 597 0 0)) = -1 → σ1 596 0 0 = sk (tpM σ) (σ 597 0 0) := fun z => by
    rcases (by omega : σ1 597 0 0 < σ 596 0 0 ∨ σ 596 0 0 ≤ σ1 597 0 0) with y | y
    · have := tm_in (σ := σ) (x := sk (tpM σ) (σ 597 0 0)) (by omega) (by omega)
      omega
    · have := (tm_fr f1 (by simp) (by simp)).2
      omega
  refine ⟨fun c2 => ?_, fun c2 => ?_⟩
  · skip
    refine ⟨_, _, _, rfl, rfl, ?_⟩
    refine ⟨?_, ?_, ?_, ?_⟩
    · exact f1
    · exact ⟨f2, f2, f3.1, by omega⟩
    · first | rfl | assumption | omega
    · exact fun j j0 j1 => by omega
  · skip
    refine ⟨_, _, _, rfl, rfl, ?_⟩
    refine ⟨?_, ?_, ?_, ?_⟩
    · exact f1
    · exact ⟨zz (by assumption), f2, f3.1, by omega⟩
    · first | rfl | assumption | omega
    · exact fun j j0 j1 => by omega
theorem H_Mo_isWord {d : Nat} (hd : 9 ≤ d) : Holds d I_Mo_isWord S_Mo_isWord := by
  refine holds_of (d' := d - 1) (rt := 2) (cal := [(I_Mo_nextByte, S_Mo_nextByte), (I_St_length, S_St_length), (I_Mo_byteAt, S_Mo_byteAt), (I_St_charAt, S_St_charAt), (I_Mo_isSmall, S_Mo_isSmall)]) (C := C_Mo_isWord) m_Mo_isWord o_Mo_isWord rfl rfl (by omega) ?_ ?_
  · intro x hx
    simp only [List.mem_cons, List.not_mem_nil, or_false] at hx
    rcases hx with rfl | rfl | rfl | rfl | rfl
    · exact H_Mo_nextByte (by omega)
    · exact H_St_length (by omega)
    · exact H_Mo_byteAt (by omega)
    · exact H_St_charAt (by omega)
    · exact H_Mo_isSmall (by omega)
  · intro as σ K has hσ hG
    have hG2 := hG
    unfold S_Mo_isWord at hG2
    split at hG2
    · next w1 =>
      refine ⟨Nat.le_of_ble_eq_true rfl, (Iv_Mo_isWord w1 σ), ?_, 1000, ?_⟩
      · intro k n z L σ' hk hL hs hP
        unfold Iv_Mo_isWord at hk
        split at hk
        · cases hk
          obtain ⟨v2, v3, rfl, hn, hQ⟩ := hP
          exact ⟨1000, l_Mo_isWord_12 w1 σ K (has _ (List.mem_of_getElem? (i := 1) rfl)) hσ hG v2 v3 σ' (hL _ (List.mem_of_getElem? (i := 2) rfl)) (hL _ (List.mem_of_getElem? (i := 3) rfl)) hs n hn hQ⟩
        · cases hk
      · exact e_Mo_isWord w1 σ K (has _ (List.mem_of_getElem? (i := 1) rfl)) hσ hG
    · exact hG2.elim
theorem we_gt {T : Int → Int} {n s v : Int} (hT : ∀ x, n ≤ x → T x = -1) (hn : n ≤ 300) (hs : 0 ≤ s) (h : scI T sm s v) (hv : sm (T v) = true) : v < we T s := by
  have ge : s ≤ we T s := scF_ge _ _
  have en : sm (T (we T s)) = false := sc_end (n := n) (fun x hx => by rw [hT x hx]; decide) 301 s (by omega)
  rcases (by omega : v < we T s ∨ we T s < v ∨ we T s = v) with z | z | z
  · exact z
  · have := h.2 _ ge z
    rw [en] at this
    cases this
  · rw [← z, en] at hv
    cases hv
theorem cdF_s {T : Int → Int} {a v : Int} (h : a ≤ v) : cdF T a (v + 1 - a).toNat = cdF T a (v - a).toNat * 27 + T v - 96 := by
  rw [show (v + 1 - a).toNat = (v - a).toNat + 1 by omega]
  show cdF T a (v - a).toNat * 27 + T (a + ((v - a).toNat : Nat)) - 96 = _
  rw [show a + ((v - a).toNat : Nat) = v by omega]
def S_Mo_isName : GS := fun as σ K => match as with
  | [some (.inr (.inr (12, 0)))] => (0 ≤ σ 597 0 0 ∧ σ 597 0 0 ≤ σ 596 0 0 ∧ σ 596 0 0 ≤ 300) ∧ ∀ σ' r, Fr [(597, 0), (608, 0), (609, 0)] σ σ' → σ' 597 0 0 = sk (tpM σ) (σ 597 0 0) → σ 597 0 0 ≤ σ' 597 0 0 ∧ σ' 597 0 0 ≤ σ 596 0 0 → (okName (tpM σ) (sk (tpM σ) (σ 597 0 0)) → r = 1 ∧ σ' 608 0 0 = cd (tpM σ) (sk (tpM σ) (σ 597 0 0)) ∧ σ' 609 0 0 = we (tpM σ) (sk (tpM σ) (σ 597 0 0)) ∧ σ' 609 0 0 ≤ σ 596 0 0) → (¬ okName (tpM σ) (sk (tpM σ) (σ 597 0 0)) → r = 0) → K (vI r) σ'
  | _ => False
abbrev Lp_Mo_isName_25 (σ0 : SS) (n : Nat) (L : List AV) (σ : SS) : Prop := L = [vR 12 0] ∧ n = (1000 - σ 609 0 0).toNat ∧ ((Fr [(597, 0), (608, 0), (609, 0)] σ0 σ) ∧ (σ 597 0 0 = sk (tpM σ0) (σ0 597 0 0) ∧ σ0 597 0 0 ≤ σ 597 0 0 ∧ σ 609 0 0 ≤ σ 597 0 0 + 3 ∧ σ 609 0 0 ≤ σ0 596 0 0) ∧ ((cd (tpM σ0) (sk (tpM σ0) (σ0 597 0 0)) ≠ 8903 ∧ cd (tpM σ0) (sk (tpM σ0) (σ0 597 0 0)) ≠ 13279 ∧ cd (tpM σ0) (sk (tpM σ0) (σ0 597 0 0)) ≠ 4619) ∧ sm (tpM σ0 (sk (tpM σ0) (σ0 597 0 0))) = true) ∧ (scI (tpM σ0) sm (sk (tpM σ0) (σ0 597 0 0)) (σ 609 0 0)) ∧ (σ 608 0 0 = cdF (tpM σ0) (sk (tpM σ0) (σ0 597 0 0)) (σ 609 0 0 - sk (tpM σ0) (σ0 597 0 0)).toNat))
def Iv_Mo_isName (σ0 : SS) (k : Nat) : Option (List Nat × (Nat → List AV → SS → Prop)) := match k with
  | 25 => some ([], Lp_Mo_isName_25 σ0)
  | _ => none
def VE_Mo_isName (σ : SS) (K : AV → SS → Prop) : Prop :=
  (S_Mo_nextByte [vR 12 0] σ (kI fun r1 σ1 =>
    (S_Mo_isSmall [vI r1] σ1 (kI fun r2 σ2 =>
      ((r2 = 0 →
        ((0 ≤ (0 : Int) ∧ (0 : Int) ≤ 1) ∧ K (vI 0) σ2)) ∧
      (r2 ≠ 0 →
        (S_Mo_isWord [vR 12 0, vR 60 0] σ2 (kI fun r3 σ3 =>
          ((r3 ≠ 0 →
            ((0 ≤ (0 : Int) ∧ (0 : Int) ≤ 1) ∧ K (vI 0) σ3)) ∧
          (r3 = 0 →
            (S_Mo_isWord [vR 12 0, vR 60 1] σ3 (kI fun r4 σ4 =>
              ((r4 ≠ 0 →
                ((0 ≤ (0 : Int) ∧ (0 : Int) ≤ 1) ∧ K (vI 0) σ4)) ∧
              (r4 = 0 →
                (S_Mo_isWord [vR 12 0, vR 60 2] σ4 (kI fun r5 σ5 =>
                  ((r5 = 0 →
                    (∀ σ6 : SS, σ6 = u3 σ5 608 0 0 0 →
                    (∀ σ7 : SS, σ7 = u3 σ6 609 0 0 (σ6 597 0 0) →
                    (∃ n', Lp_Mo_isName_25 σ n' [vR 12 0] σ7)))) ∧
                  (r5 ≠ 0 →
                    ((0 ≤ (0 : Int) ∧ (0 : Int) ≤ 1) ∧ K (vI 0) σ5)))))))))))))))))))
def VL_Mo_isName_25 (σ0 : SS) (K : AV → SS → Prop) (σ : SS) (n : Nat) : Prop :=
  (S_Mo_byteAt [vR 12 0, vI (σ 609 0 0)] σ (kI fun r1 σ1 =>
    (S_Mo_isSmall [vI r1] σ1 (kI fun r2 σ2 =>
      ((r2 = 0 →
        ((0 ≤ (1 : Int) ∧ (1 : Int) ≤ 1) ∧ K (vI 1) σ2)) ∧
      (r2 ≠ 0 →
        (InR ((σ2 609 0 0) - (σ2 597 0 0)) ∧
        ((((σ2 609 0 0) - (σ2 597 0 0)) ≠ 3 →
          (InR (27 * (σ2 608 0 0)) ∧
          (S_Mo_byteAt [vR 12 0, vI (σ2 609 0 0)] σ2 (kI fun r3 σ3 =>
            (InR ((27 * (σ2 608 0 0)) + r3) ∧
            (InR (((27 * (σ2 608 0 0)) + r3) - 97) ∧
            (InR ((((27 * (σ2 608 0 0)) + r3) - 97) + 1) ∧
            (∀ σ4 : SS, σ4 = u3 σ3 608 0 0 ((((27 * (σ2 608 0 0)) + r3) - 97) + 1) →
            (InR ((σ4 609 0 0) + 1) ∧
            (∀ σ5 : SS, σ5 = u3 σ4 609 0 0 ((σ4 609 0 0) + 1) →
            (∃ n', n' < n ∧ Lp_Mo_isName_25 σ0 n' [vR 12 0] σ5))))))))))) ∧
        (((σ2 609 0 0) - (σ2 597 0 0)) = 3 →
          ((0 ≤ (0 : Int) ∧ (0 : Int) ≤ 1) ∧ K (vI 0) σ2))))))))))
theorem l_Mo_isName_25 (σ0 : SS) (K : AV → SS → Prop) (hs0 : okS σ0) (hG : S_Mo_isName [vR 12 0] σ0 K) (σ : SS) (hs : okS σ) (n : Nat) (hn : n = (1000 - σ 609 0 0).toNat) (hQ : (Fr [(597, 0), (608, 0), (609, 0)] σ0 σ) ∧ (σ 597 0 0 = sk (tpM σ0) (σ0 597 0 0) ∧ σ0 597 0 0 ≤ σ 597 0 0 ∧ σ 609 0 0 ≤ σ 597 0 0 + 3 ∧ σ 609 0 0 ≤ σ0 596 0 0) ∧ ((cd (tpM σ0) (sk (tpM σ0) (σ0 597 0 0)) ≠ 8903 ∧ cd (tpM σ0) (sk (tpM σ0) (σ0 597 0 0)) ≠ 13279 ∧ cd (tpM σ0) (sk (tpM σ0) (σ0 597 0 0)) ≠ 4619) ∧ sm (tpM σ0 (sk (tpM σ0) (σ0 597 0 0))) = true) ∧ (scI (tpM σ0) sm (sk (tpM σ0) (σ0 597 0 0)) (σ 609 0 0)) ∧ (σ 608 0 0 = cdF (tpM σ0) (sk (tpM σ0) (σ0 597 0 0)) (σ 609 0 0 - sk (tpM σ0) (σ0 597 0 0)).toNat)) : VL_Mo_isName_25 σ0 K σ n := by
  unfold VL_Mo_isName_25
  obtain ⟨h1, hG⟩ := hG
  obtain ⟨q0, ⟨q1, q2, q3, q4⟩, ⟨q5, q5b⟩, q6, q7⟩ := hQ
  obtain ⟨t1, t2⟩ := tm_fr q0 (by simp) (by simp)
  have q8 := q6.1
  have lt := tm_lt (σ := σ0) (σ 609 0 0)
  have cb := cdF_b (a := sk (tpM σ0) (σ0 597 0 0)) (m := σ 609 0 0) q6.2 (σ 609 0 0 - sk (tpM σ0) (σ0 597 0 0)).toNat (by omega) (by omega)
  rw [← q7] at cb
  have cb2 := cb.2.2 (by omega)
  refine ⟨(by omega), ?_⟩
  intro _ _
  rw [t1]
  refine bS_b0 (fun p1 _ => ?_) (fun p1 _ => ?_)
  · skip
    refine ⟨(by omega), ?_⟩
    refine ⟨fun c2 => ?_, fun c2 => ?_⟩
    · skip
      refine ⟨(by omega), ?_⟩
      refine ⟨(by omega), ?_⟩
      intro _ _
      rw [t1]
      refine ⟨(by omega), ?_⟩
      refine ⟨(by omega), ?_⟩
      refine ⟨(by omega), ?_⟩
      refine fun σ3 e3 => ?_
      have k3 : σ3 609 0 0 = σ 609 0 0 := by rw [e3, u3_f (by decide)]
      have k4 : σ3 597 0 0 = σ 597 0 0 := by rw [e3, u3_f (by decide)]
      refine ⟨(by omega), ?_⟩
      refine fun σ4 e4 => ?_
      refine ⟨_, ?_, rfl, rfl, ?_⟩
      · rw [e4, u3_s, k3]; omega
      · refine ⟨?_, ?_, ?_, ?_, ?_⟩
        · rw [e4, e3]; exact Fr_trans q0 (Fr_trans (Fr_u3 (by simp)) (Fr_u3 (by simp)))
        · rw [e4, u3_s, u3_f (by decide), k3, k4]; omega
        · exact ⟨q5, q5b⟩
        · rw [e4, u3_s, k3]; exact scI_s q6 (sm_t.mpr p1)
        · rw [e4, u3_s, u3_f (by decide), k3, cdF_s q8, e3, u3_s, ← q7]; omega
    · skip
      have wg := we_gt (T := tpM σ0) (n := σ0 596 0 0) (fun x hx => tm_out hx) h1.2.2 (by omega) q6 (sm_t.mpr p1)
      exact ⟨by omega, hG _ _ q0 q1 (by omega) (fun z => by have := z.1.2; omega) (fun _ => rfl)⟩
  · skip
    have ew : σ 609 0 0 = we (tpM σ0) (sk (tpM σ0) (σ0 597 0 0)) := (scI_e q6 (by omega) (by omega) (sm_f.mpr p1)).symm
    have ec : σ 608 0 0 = cd (tpM σ0) (sk (tpM σ0) (σ0 597 0 0)) := by
      unfold cd
      rw [← ew, if_pos (by omega)]
      exact q7
    have g1 : sk (tpM σ0) (σ0 597 0 0) < we (tpM σ0) (sk (tpM σ0) (σ0 597 0 0)) := sc_gt q5b
    exact ⟨by omega, hG _ _ q0 q1 (by omega) (fun _ => ⟨rfl, ec, ew, by omega⟩) (fun z => absurd ⟨⟨by omega, by omega⟩, q5⟩ z)⟩
theorem e_Mo_isName (σ : SS) (K : AV → SS → Prop) (hs : okS σ) (hG : S_Mo_isName [vR 12 0] σ K) : VE_Mo_isName σ K := by
  unfold VE_Mo_isName
  obtain ⟨h1, hG⟩ := hG
  have ss := sk_sk (T := tpM σ) (n := σ 596 0 0) (a := σ 597 0 0) (fun x hx => tm_out hx) h1.2.2 h1.1
  have bad : ∀ σ', Fr [(597, 0)] σ σ' → σ' 597 0 0 = sk (tpM σ) (σ 597 0 0) → σ 597 0 0 ≤ σ' 597 0 0 ∧ σ' 597 0 0 ≤ σ 596 0 0 → ¬ okName (tpM σ) (sk (tpM σ) (σ 597 0 0)) → K (vI 0) σ' := fun σ' x1 x2 x3 x4 => hG σ' 0 (Fr_mono x1 (by simp)) x2 x3 (fun z => absurd z x4) (fun _ => rfl)
  refine ⟨(by first | assumption | omega | exact ⟨by first | assumption | omega, by omega⟩ | exact ⟨by assumption, by omega, by omega⟩ | exact ⟨by assumption, by omega, by omega, by omega⟩ | exact ⟨by assumption, by omega, by omega, by omega, by omega⟩ | exact ⟨by assumption, by omega, by omega, by omega, by omega, by omega⟩), (fun σ1 h1a h1b h1c => ?_)⟩
  intro _ _
  have f1 := h1a
  have f2 := h1b
  have f3 := h1c
  obtain ⟨tc, td⟩ := tm_fr f1 (by simp) (by simp)
  refine bS_b0 (fun p2 _ => ?_) (fun p2 _ => ?_)
  · skip
    refine ⟨(by exact ⟨by omega, by decide⟩), (fun σ3 h3a h3b h3c => ?_)⟩
    rw [tc, f2, ss]
    have g2 := h3b
    rw [tc, f2, ss] at g2
    have f3 : σ 597 0 0 ≤ σ3 597 0 0 ∧ σ3 597 0 0 ≤ σ 596 0 0 := by omega
    have f1 := Fr_trans f1 h3a
    have f2 := g2
    obtain ⟨tc, td⟩ := tm_fr f1 (by simp) (by simp)
    refine bS_b1 (fun p4 _ => ?_) (fun p4 _ => ?_)
    · skip
      exact ⟨by omega, bad _ f1 f2 f3 (fun z => z.2.1 p4)⟩
    · skip
      refine ⟨(by exact ⟨by omega, by decide⟩), (fun σ5 h5a h5b h5c => ?_)⟩
      rw [tc, f2, ss]
      have g2 := h5b
      rw [tc, f2, ss] at g2
      have f3 : σ 597 0 0 ≤ σ5 597 0 0 ∧ σ5 597 0 0 ≤ σ 596 0 0 := by omega
      have f1 := Fr_trans f1 h5a
      have f2 := g2
      obtain ⟨tc, td⟩ := tm_fr f1 (by simp) (by simp)
      refine bS_b1 (fun p6 _ => ?_) (fun p6 _ => ?_)
      · skip
        exact ⟨by omega, bad _ f1 f2 f3 (fun z => z.2.2.1 p6)⟩
      · skip
        refine ⟨(by exact ⟨by omega, by decide⟩), (fun σ7 h7a h7b h7c => ?_)⟩
        rw [tc, f2, ss]
        have g2 := h7b
        rw [tc, f2, ss] at g2
        have f3 : σ 597 0 0 ≤ σ7 597 0 0 ∧ σ7 597 0 0 ≤ σ 596 0 0 := by omega
        have f1 := Fr_trans f1 h7a
        have f2 := g2
        obtain ⟨tc, td⟩ := tm_fr f1 (by simp) (by simp)
        refine bS_b0 (fun p8 _ => ?_) (fun p8 _ => ?_)
        · skip
          exact ⟨by omega, bad _ f1 f2 f3 (fun z => z.2.2.2 p8)⟩
        · skip
          refine fun σ9 e9 => ?_
          refine fun σ10 e10 => ?_
          have ks : σ10 597 0 0 = sk (tpM σ) (σ 597 0 0) := by rw [e10, u3_f (by decide), e9, u3_f (by decide)]; exact f2
          have ke : σ10 609 0 0 = sk (tpM σ) (σ 597 0 0) := by rw [e10, u3_s, e9, u3_f (by decide)]; exact f2
          have kh : σ10 608 0 0 = 0 := by rw [e10, u3_f (by decide), e9, u3_s]
          refine ⟨_, rfl, rfl, ?_⟩
          refine ⟨?_, ?_, ?_, ?_, ?_⟩
          · rw [e10, e9]; exact Fr_trans (Fr_mono f1 (by simp)) (Fr_trans (Fr_u3 (by simp)) (Fr_u3 (by simp)))
          · omega
          · exact ⟨⟨p4, p6, p8⟩, sm_t.mpr p2⟩
          · rw [ke]; exact scI_0
          · rw [ke, kh, show (sk (tpM σ) (σ 597 0 0) - sk (tpM σ) (σ 597 0 0)).toNat = 0 by omega]; rfl
  · skip
    exact ⟨by omega, bad _ f1 f2 f3 (fun z => p2 (sm_t.mp (scF_all 301 _ _ (Int.le_refl _) (by have y := z.1.1; show sk (tpM σ) (σ 597 0 0) < we (tpM σ) (sk (tpM σ) (σ 597 0 0)); omega))))⟩
theorem H_Mo_isName {d : Nat} (hd : 10 ≤ d) : Holds d I_Mo_isName S_Mo_isName := by
  refine holds_of (d' := d - 1) (rt := 2) (cal := [(I_Mo_nextByte, S_Mo_nextByte), (I_Mo_isSmall, S_Mo_isSmall), (I_Mo_isWord, S_Mo_isWord), (I_Mo_byteAt, S_Mo_byteAt)]) (C := C_Mo_isName) m_Mo_isName o_Mo_isName rfl rfl (by omega) ?_ ?_
  · intro x hx
    simp only [List.mem_cons, List.not_mem_nil, or_false] at hx
    rcases hx with rfl | rfl | rfl | rfl
    · exact H_Mo_nextByte (by omega)
    · exact H_Mo_isSmall (by omega)
    · exact H_Mo_isWord (by omega)
    · exact H_Mo_byteAt (by omega)
  · intro as σ K has hσ hG
    have hG2 := hG
    unfold S_Mo_isName at hG2
    split at hG2
    · skip
      refine ⟨Nat.le_of_ble_eq_true rfl, (Iv_Mo_isName σ), ?_, 1000, ?_⟩
      · intro k n z L σ' hk hL hs hP
        unfold Iv_Mo_isName at hk
        split at hk
        · cases hk
          obtain ⟨rfl, hn, hQ⟩ := hP
          exact ⟨1000, l_Mo_isName_25 σ K  hσ hG  σ'  hs n hn hQ⟩
        · cases hk
      · exact e_Mo_isName σ K  hσ hG
    · exact hG2.elim
def S_Mo_nameAt : GS := fun as σ K => match as with
  | [some (.inr (.inr (12, 0)))] => ∃ N, RdM σ N ∧ ∀ r, ((r = -1 ∧ slI N (σ 608 0 0) N.length) ∨ (r ≠ -1 ∧ slI N (σ 608 0 0) r ∧ 0 ≤ r ∧ r < N.length)) → K (vI r) σ
  | _ => False
abbrev Lp_Mo_nameAt_2 (σ0 : SS) (n : Nat) (L : List AV) (σ : SS) : Prop := ∃ (v1 : Int), L = [vR 12 0, vI v1] ∧ n = (1000 - v1).toNat ∧ ((σ = σ0) ∧ (0 ≤ v1) ∧ (∀ k : Nat, (k : Int) < v1 → σ0 51 0 k ≠ σ0 608 0 0))
def Iv_Mo_nameAt (σ0 : SS) (k : Nat) : Option (List Nat × (Nat → List AV → SS → Prop)) := match k with
  | 2 => some ([], Lp_Mo_nameAt_2 σ0)
  | _ => none
def VE_Mo_nameAt (σ : SS) (K : AV → SS → Prop) : Prop :=
  (∃ n', Lp_Mo_nameAt_2 σ n' [vR 12 0, vI 0] σ)
def VL_Mo_nameAt_2 (σ0 : SS) (K : AV → SS → Prop) (v1 : Int) (σ : SS) (n : Nat) : Prop :=
  (((σ 607 0 0) ≤ v1 →
    (K (vI (-1)) σ)) ∧
  (v1 < (σ 607 0 0) →
    ((0 ≤ (v1 : Int) ∧ (v1 : Int) < 4) ∧
    (((σ 51 0 v1) ≠ (σ 608 0 0) →
      (InR (v1 + 1) ∧
      (∃ n', n' < n ∧ Lp_Mo_nameAt_2 σ0 n' [vR 12 0, vI (v1 + 1)] σ))) ∧
    ((σ 51 0 v1) = (σ 608 0 0) →
      (K (vI v1) σ))))))
theorem l_Mo_nameAt_2 (σ0 : SS) (K : AV → SS → Prop) (hs0 : okS σ0) (hG : S_Mo_nameAt [vR 12 0] σ0 K) (v1 : Int) (σ : SS) (hv1 : InR v1) (hs : okS σ) (n : Nat) (hn : n = (1000 - v1).toNat) (hQ : (σ = σ0) ∧ (0 ≤ v1) ∧ (∀ k : Nat, (k : Int) < v1 → σ0 51 0 k ≠ σ0 608 0 0)) : VL_Mo_nameAt_2 σ0 K v1 σ n := by
  unfold VL_Mo_nameAt_2
  obtain ⟨N, hN, hG⟩ := hG
  obtain ⟨rfl, q1, q2⟩ := hQ
  have ln := hN.1
  refine ⟨fun c1 => ?_, fun c1 => ?_⟩
  · skip
    have no := look_no (c := σ 608 0 0) N (fun k q hk => by
      have kl := (List.getElem?_eq_some_iff.mp hk).1
      have := q2 k (by omega)
      rw [(hN.2 k q hk).1] at this
      exact this)
    exact hG _ (Or.inl ⟨rfl, Or.inl ⟨rfl, no.1, no.2⟩⟩)
  · skip
    refine ⟨(by omega), ?_⟩
    refine ⟨fun c2 => ?_, fun c2 => ?_⟩
    · skip
      refine ⟨(by omega), ?_⟩
      refine ⟨_, ?_, _, rfl, rfl, ?_⟩
      · omega
      · refine ⟨?_, ?_, ?_⟩
        · first | rfl | assumption | omega
        · first | rfl | assumption | omega
        · intro k hk
          rcases (by omega : (k : Int) < v1 ∨ (k : Int) = v1) with z | z
          · exact q2 k z
          · rw [z]; assumption
    · skip
      have hk : v1.toNat < N.length := by omega
      have hq : N[v1.toNat]? = some N[v1.toNat] := List.getElem?_eq_getElem hk
      have h2 := hN.2 _ _ hq
      have ev : ((v1.toNat : Nat) : Int) = v1 := by omega
      have ea : (N[v1.toNat]).1 = σ 608 0 0 := by rw [← h2.1, ev]; assumption
      obtain ⟨n1, n2⟩ := look_at ea N v1.toNat hq (fun j p hj hp => by
        have := q2 j (by omega)
        rw [(hN.2 j p hp).1] at this
        exact this)
      exact hG _ (Or.inr ⟨by omega, Or.inr ⟨by omega, _, hq, ea, n1, n2⟩, by omega, by omega⟩)
theorem e_Mo_nameAt (σ : SS) (K : AV → SS → Prop) (hs : okS σ) (hG : S_Mo_nameAt [vR 12 0] σ K) : VE_Mo_nameAt σ K := by
  unfold VE_Mo_nameAt
  obtain ⟨N, hN, hG⟩ := hG
  refine ⟨_, _, rfl, rfl, ?_⟩
  refine ⟨?_, ?_, ?_⟩
  · first | rfl | assumption | omega
  · first | rfl | assumption | omega
  · exact fun k q hk => by omega
theorem H_Mo_nameAt {d : Nat} (hd : 1 ≤ d) : Holds d I_Mo_nameAt S_Mo_nameAt := by
  refine holds_of (d' := d - 1) (rt := 1) (cal := []) (C := C_Mo_nameAt) m_Mo_nameAt o_Mo_nameAt rfl rfl (by omega) ?_ ?_
  · intro x hx
    cases hx
  · intro as σ K has hσ hG
    have hG2 := hG
    unfold S_Mo_nameAt at hG2
    split at hG2
    · skip
      refine ⟨Nat.le_of_ble_eq_true rfl, (Iv_Mo_nameAt σ), ?_, 1000, ?_⟩
      · intro k n z L σ' hk hL hs hP
        unfold Iv_Mo_nameAt at hk
        split at hk
        · cases hk
          obtain ⟨v1, rfl, hn, hQ⟩ := hP
          exact ⟨1000, l_Mo_nameAt_2 σ K  hσ hG v1 σ' (hL _ (List.mem_of_getElem? (i := 1) rfl)) hs n hn hQ⟩
        · cases hk
      · exact e_Mo_nameAt σ K  hσ hG
    · exact hG2.elim
def TmL : List (Nat × Nat) := [(49, 0), (596, 0)]
def S_Mo_puts : GS := fun as σ K => match as with
  | [some (.inr (.inr (12, 0))), some (.inl a1)] => (0 ≤ σ 596 0 0 ∧ σ 596 0 0 + 4 ≤ 300) ∧ ∀ σ', Fr [(49, 0), (596, 0)] σ σ' → σ' 596 0 0 = σ 596 0 0 + 4 → (∀ y, σ' 49 0 y = if σ 596 0 0 ≤ y ∧ y < σ 596 0 0 + 4 then byI a1 (24 - 8 * (y - σ 596 0 0)) else σ 49 0 y) → K none σ'
  | _ => False
abbrev Lp_Mo_puts_2 (a1 : Int) (σ0 : SS) (n : Nat) (L : List AV) (σ : SS) : Prop := ∃ (v2 : Int), L = [vR 12 0, vI a1, vI v2] ∧ n = (1000 + v2).toNat ∧ ((Fr [(49, 0), (596, 0)] σ0 σ) ∧ ((v2 = 24 ∨ v2 = 16 ∨ v2 = 8 ∨ v2 = 0 ∨ v2 = -8) ∧ 8 * (σ 596 0 0 - σ0 596 0 0) = 24 - v2) ∧ (∀ y, σ 49 0 y = if σ0 596 0 0 ≤ y ∧ y < σ 596 0 0 then byI a1 (24 - 8 * (y - σ0 596 0 0)) else σ0 49 0 y))
def Iv_Mo_puts (a1 : Int) (σ0 : SS) (k : Nat) : Option (List Nat × (Nat → List AV → SS → Prop)) := match k with
  | 2 => some ([], Lp_Mo_puts_2 a1 σ0)
  | _ => none
def VE_Mo_puts (a1 : Int) (σ : SS) (K : AV → SS → Prop) : Prop :=
  (∃ n', Lp_Mo_puts_2 a1 σ n' [vR 12 0, vI a1, vI 24] σ)
def VL_Mo_puts_2 (a1 : Int) (σ0 : SS) (K : AV → SS → Prop) (v2 : Int) (σ : SS) (n : Nat) : Prop :=
  ((v2 < 0 →
    (K none σ)) ∧
  ((0 : Int) ≤ v2 →
    ((0 ≤ (v2 : Int) ∧ (v2 : Int) < 32 ∧ InR (shrI a1 v2)) ∧
    (((0 ≤ (σ 596 0 0 : Int) ∧ (σ 596 0 0 : Int) < 300) ∧ -128 ≤ (i2bI (shrI a1 v2) : Int) ∧ (i2bI (shrI a1 v2) : Int) ≤ 127) ∧ ∀ σ1 : SS, σ1 = u3 σ 49 0 (σ 596 0 0) (i2bI (shrI a1 v2)) →
    (InR ((σ1 596 0 0) + 1) ∧
    (∀ σ2 : SS, σ2 = u3 σ1 596 0 0 ((σ1 596 0 0) + 1) →
    (InR (v2 + (-8)) ∧
    (∃ n', n' < n ∧ Lp_Mo_puts_2 a1 σ0 n' [vR 12 0, vI a1, vI (v2 + (-8))] σ2))))))))
theorem l_Mo_puts_2 (a1 : Int) (σ0 : SS) (K : AV → SS → Prop) (ha1 : InR a1) (hs0 : okS σ0) (hG : S_Mo_puts [vR 12 0, vI a1] σ0 K) (v2 : Int) (σ : SS) (hv2 : InR v2) (hs : okS σ) (n : Nat) (hn : n = (1000 + v2).toNat) (hQ : (Fr [(49, 0), (596, 0)] σ0 σ) ∧ ((v2 = 24 ∨ v2 = 16 ∨ v2 = 8 ∨ v2 = 0 ∨ v2 = -8) ∧ 8 * (σ 596 0 0 - σ0 596 0 0) = 24 - v2) ∧ (∀ y, σ 49 0 y = if σ0 596 0 0 ≤ y ∧ y < σ 596 0 0 then byI a1 (24 - 8 * (y - σ0 596 0 0)) else σ0 49 0 y)) : VL_Mo_puts_2 a1 σ0 K v2 σ n := by
  unfold VL_Mo_puts_2
  obtain ⟨h1, hG⟩ := hG
  obtain ⟨q0, q1, q2⟩ := hQ
  have sr : InR (shrI a1 v2) := by
    unfold shrI
    rcases q1.1 with z | z | z | z | z <;> rw [z]
    · show InR (a1 / 16777216); omega
    · show InR (a1 / 65536); omega
    · show InR (a1 / 256); omega
    · show InR (a1 / 1); omega
    · show InR (a1 / 1); omega
  have bb : -128 ≤ i2bI (shrI a1 v2) ∧ i2bI (shrI a1 v2) ≤ 127 := by
    have b1 := Int.le_bmod (x := shrI a1 v2) (m := 256) (by decide)
    have b2 := Int.bmod_lt (x := shrI a1 v2) (m := 256) (by decide)
    unfold i2bI
    omega
  refine ⟨fun c1 => ?_, fun c1 => ?_⟩
  · skip
    exact hG _ q0 (by omega) (fun y => by rw [q2 y, show σ 596 0 0 = σ0 596 0 0 + 4 by omega])
  · skip
    refine ⟨(by exact ⟨by omega, by omega, sr⟩), ?_⟩
    refine ⟨(by omega), fun σ2 e2 => ?_⟩
    have k3 : σ2 596 0 0 = σ 596 0 0 := by rw [e2, u3_f (by decide)]
    refine ⟨(by omega), ?_⟩
    refine fun σ3 e3 => ?_
    refine ⟨(by omega), ?_⟩
    refine ⟨_, ?_, _, rfl, rfl, ?_⟩
    · omega
    · refine ⟨?_, ?_, ?_⟩
      · rw [e3, e2]; exact Fr_trans q0 (Fr_trans (Fr_u3 (by simp)) (Fr_u3 (by simp)))
      · rw [e3, u3_s, k3]; omega
      · intro y
        rw [show σ3 596 0 0 = σ 596 0 0 + 1 by rw [e3, u3_s, k3], show σ3 49 0 y = if y = σ 596 0 0 then i2bI (shrI a1 v2) else σ 49 0 y by rw [e3, u3_f (by decide), e2, u3_e]]
        by_cases c : y = σ 596 0 0
        · rw [if_pos c, if_pos (by omega)]
          show i2bI (shrI a1 v2) = i2bI (shrI a1 _)
          rw [show 24 - 8 * (y - σ0 596 0 0) = v2 by omega]
        · rw [if_neg c, q2 y]
          by_cases d : σ0 596 0 0 ≤ y ∧ y < σ 596 0 0
          · rw [if_pos d, if_pos (by omega)]
          · rw [if_neg d, if_neg (by omega)]
theorem e_Mo_puts (a1 : Int) (σ : SS) (K : AV → SS → Prop) (ha1 : InR a1) (hs : okS σ) (hG : S_Mo_puts [vR 12 0, vI a1] σ K) : VE_Mo_puts a1 σ K := by
  unfold VE_Mo_puts
  obtain ⟨h1, hG⟩ := hG
  refine ⟨_, _, rfl, rfl, ?_⟩
  refine ⟨?_, ?_, ?_⟩
  · exact Fr_refl
  · first | rfl | assumption | omega
  · exact fun y => by rw [if_neg (by omega)]
theorem H_Mo_puts {d : Nat} (hd : 1 ≤ d) : Holds d I_Mo_puts S_Mo_puts := by
  refine holds_of (d' := d - 1) (rt := 0) (cal := []) (C := C_Mo_puts) m_Mo_puts o_Mo_puts rfl rfl (by omega) ?_ ?_
  · intro x hx
    cases hx
  · intro as σ K has hσ hG
    have hG2 := hG
    unfold S_Mo_puts at hG2
    split at hG2
    · next a1 =>
      refine ⟨Nat.le_of_ble_eq_true rfl, (Iv_Mo_puts a1 σ), ?_, 1000, ?_⟩
      · intro k n z L σ' hk hL hs hP
        unfold Iv_Mo_puts at hk
        split at hk
        · cases hk
          obtain ⟨v2, rfl, hn, hQ⟩ := hP
          exact ⟨1000, l_Mo_puts_2 a1 σ K (has _ (List.mem_of_getElem? (i := 1) rfl)) hσ hG v2 σ' (hL _ (List.mem_of_getElem? (i := 2) rfl)) hs n hn hQ⟩
        · cases hk
      · exact e_Mo_puts a1 σ K (has _ (List.mem_of_getElem? (i := 1) rfl)) hσ hG
    · exact hG2.elim
def S_Mo_feed : GS := fun as σ K => match as with
  | [some (.inr (.inr (12, 0))), some (.inl a1), some (.inl a2), some (.inl a3), some (.inl a4), some (.inl a5)] => (0 ≤ σ 596 0 0 ∧ σ 596 0 0 ≤ 300) ∧ (280 < σ 596 0 0 → K (vI (-1)) σ) ∧ (∀ σ', σ 596 0 0 ≤ 280 → Fr TmL σ σ' → σ' 596 0 0 = σ 596 0 0 + 20 → (∀ y, σ' 49 0 y = if σ 596 0 0 ≤ y ∧ y < σ 596 0 0 + 20 then fiveB a1 a2 a3 a4 a5 (y - σ 596 0 0) else σ 49 0 y) → K (vI (σ 596 0 0 + 20)) σ')
  | _ => False
def VE_Mo_feed (a1 : Int) (a2 : Int) (a3 : Int) (a4 : Int) (a5 : Int) (σ : SS) (K : AV → SS → Prop) : Prop :=
  (((σ 596 0 0) ≤ 280 →
    (S_Mo_puts [vR 12 0, vI a1] σ (kV fun σ1 =>
      (S_Mo_puts [vR 12 0, vI a2] σ1 (kV fun σ2 =>
        (S_Mo_puts [vR 12 0, vI a3] σ2 (kV fun σ3 =>
          (S_Mo_puts [vR 12 0, vI a4] σ3 (kV fun σ4 =>
            (S_Mo_puts [vR 12 0, vI a5] σ4 (kV fun σ5 =>
              (K (vI (σ5 596 0 0)) σ5)))))))))))) ∧
  ((280 : Int) < (σ 596 0 0) →
    (K (vI (-1)) σ)))
theorem e_Mo_feed (a1 : Int) (a2 : Int) (a3 : Int) (a4 : Int) (a5 : Int) (σ : SS) (K : AV → SS → Prop) (ha1 : InR a1) (ha2 : InR a2) (ha3 : InR a3) (ha4 : InR a4) (ha5 : InR a5) (hs : okS σ) (hG : S_Mo_feed [vR 12 0, vI a1, vI a2, vI a3, vI a4, vI a5] σ K) : VE_Mo_feed a1 a2 a3 a4 a5 σ K := by
  unfold VE_Mo_feed
  obtain ⟨h1, hG0, hG⟩ := hG
  refine ⟨fun c1 => ?_, fun c1 => ?_⟩
  · skip
    refine ⟨(by omega), (fun σ2 h2a h2b h2c => ?_)⟩
    intro _
    refine ⟨(by omega), (fun σ3 h3a h3b h3c => ?_)⟩
    intro _
    refine ⟨(by omega), (fun σ4 h4a h4b h4c => ?_)⟩
    intro _
    refine ⟨(by omega), (fun σ5 h5a h5b h5c => ?_)⟩
    intro _
    refine ⟨(by omega), (fun σ6 h6a h6b h6c => ?_)⟩
    intro _
    have k3 : σ3 596 0 0 = σ 596 0 0 + 8 := by omega
    have k4 : σ4 596 0 0 = σ 596 0 0 + 12 := by omega
    have k5 : σ5 596 0 0 = σ 596 0 0 + 16 := by omega
    have k6 : σ6 596 0 0 = σ 596 0 0 + 20 := by omega
    rw [h2b] at h3c
    rw [k3] at h4c
    rw [k4] at h5c
    rw [k5] at h6c
    rw [k6]
    exact hG _ (by omega) (Fr_trans h2a (Fr_trans h3a (Fr_trans h4a (Fr_trans h5a h6a)))) k6 (five h2c h3c h4c h5c h6c)
  · skip
    exact hG0 (by omega)
theorem H_Mo_feed {d : Nat} (hd : 2 ≤ d) : Holds d I_Mo_feed S_Mo_feed := by
  refine holds_of (d' := d - 1) (rt := 1) (cal := [(I_Mo_puts, S_Mo_puts)]) (C := C_Mo_feed) m_Mo_feed o_Mo_feed rfl rfl (by omega) ?_ ?_
  · intro x hx
    simp only [List.mem_cons, List.not_mem_nil, or_false] at hx
    subst hx
    exact H_Mo_puts (by omega)
  · intro as σ K has hσ hG
    have hG2 := hG
    unfold S_Mo_feed at hG2
    split at hG2
    · next a1 a2 a3 a4 a5 =>
      refine ⟨Nat.le_of_ble_eq_true rfl, (fun _ => none), ?_, 1000, ?_⟩
      · intro k n z L σ' hk hL hs hP
        cases hk
      · exact e_Mo_feed a1 a2 a3 a4 a5 σ K (has _ (List.mem_of_getElem? (i := 1) rfl)) (has _ (List.mem_of_getElem? (i := 2) rfl)) (has _ (List.mem_of_getElem? (i := 3) rfl)) (has _ (List.mem_of_getElem? (i := 4) rfl)) (has _ (List.mem_of_getElem? (i := 5) rfl)) hσ hG
    · exact hG2.elim
def S_Mo_end : GS := fun as σ K => match as with
  | [some (.inr (.inr (12, 0))), some (.inl a1)] => (¬ (0 ≤ a1 ∧ a1 ≤ σ 596 0 0) → K (vI (-1)) σ) ∧ (0 ≤ a1 ∧ a1 ≤ σ 596 0 0 → K (vI a1) (u3 σ 596 0 0 a1))
  | _ => False
def VE_Mo_end (a1 : Int) (σ : SS) (K : AV → SS → Prop) : Prop :=
  (S_Mo_in [vL a1, vL 0, vL (σ 596 0 0)] σ (kI fun r1 σ1 =>
    ((r1 ≠ 0 →
      (∀ σ2 : SS, σ2 = u3 σ1 596 0 0 a1 →
      (K (vI a1) σ2))) ∧
    (r1 = 0 →
      (K (vI (-1)) σ1)))))
theorem e_Mo_end (a1 : Int) (σ : SS) (K : AV → SS → Prop) (ha1 : InR a1) (hs : okS σ) (hG : S_Mo_end [vR 12 0, vI a1] σ K) : VE_Mo_end a1 σ K := by
  unfold VE_Mo_end
  obtain ⟨hG0, hG⟩ := hG
  refine bS_b1 (fun p1 _ => ?_) (fun p1 _ => ?_)
  · skip
    refine fun σ2 e2 => ?_
    rw [show σ2 = u3 σ 596 0 0 a1 by assumption]; exact hG p1
  · skip
    exact hG0 p1
theorem H_Mo_end {d : Nat} (hd : 2 ≤ d) : Holds d I_Mo_end S_Mo_end := by
  refine holds_of (d' := d - 1) (rt := 1) (cal := [(I_Mo_in, S_Mo_in)]) (C := C_Mo_end) m_Mo_end o_Mo_end rfl rfl (by omega) ?_ ?_
  · intro x hx
    simp only [List.mem_cons, List.not_mem_nil, or_false] at hx
    subst hx
    exact H_Mo_in (by omega)
  · intro as σ K has hσ hG
    have hG2 := hG
    unfold S_Mo_end at hG2
    split at hG2
    · next a1 =>
      refine ⟨Nat.le_of_ble_eq_true rfl, (fun _ => none), ?_, 1000, ?_⟩
      · intro k n z L σ' hk hL hs hP
        cases hk
      · exact e_Mo_end a1 σ K (has _ (List.mem_of_getElem? (i := 1) rfl)) hσ hG
    · exact hG2.elim
