/-! tallies; the twins: how many letters from two places on are alike -/
def TaL (i : Nat) : List (Nat × Nat) := [(380, i), (381, i), (382, i)]
def toldW (m l f a : Int) : Int := if a = 0 then m else if a = 1 then l else if a = 2 then f else -1
def S_Ta_clear : GS := fun as σ K => match as with
  | [some (.inr (.inr (7, i)))] => ∀ σ', Fr (TaL i) σ σ' → σ' 380 i 0 = 0 → σ' 381 i 0 = 0 → σ' 382 i 0 = -2 → K none σ'
  | _ => False
def VE_Ta_clear (i : Nat) (σ : SS) (K : AV → SS → Prop) : Prop :=
  (∀ σ1 : SS, σ1 = u3 σ 380 i 0 0 →
  (∀ σ2 : SS, σ2 = u3 σ1 381 i 0 0 →
  (∀ σ3 : SS, σ3 = u3 σ2 382 i 0 (-2) →
  (K none σ3))))
theorem e_Ta_clear (i : Nat) (σ : SS) (K : AV → SS → Prop) (hi : i < 2) (hs : okS σ) (hG : S_Ta_clear [vR 7 i] σ K) : VE_Ta_clear i σ K := by
  unfold VE_Ta_clear
  intro σ1 h1 σ2 h2 σ3 h3
  subst h1 h2 h3
  exact hG _ (Fr_trans (Fr_u3 (by simp [TaL])) (Fr_trans (Fr_u3 (by simp [TaL])) (Fr_u3 (by simp [TaL])))) (by simp [u3]) (by simp [u3]) (by simp [u3])
theorem H_Ta_clear {d : Nat} (hd : 1 ≤ d) : Holds d I_Ta_clear S_Ta_clear := by
  refine holds_of (d' := d - 1) (rt := 0) (cal := []) (C := C_Ta_clear) m_Ta_clear o_Ta_clear rfl rfl (by omega) ?_ ?_
  · intro x hx
    cases hx
  · intro as σ K has hσ hG
    have hG2 := hG
    unfold S_Ta_clear at hG2
    split at hG2
    · next i =>
      refine ⟨Nat.le_of_ble_eq_true rfl, (fun _ => none), ?_, 1000, ?_⟩
      · intro k n z L σ' hk hL hs hP
        cases hk
      · exact e_Ta_clear i σ K (has _ (List.mem_of_getElem? (i := 0) rfl)) hσ hG
    · exact hG2.elim
def S_Ta_add : GS := fun as σ K => match as with
  | [some (.inr (.inr (7, i))), some (.inl a1), some (.inl a2)] => InR (σ 380 i 0 + 1) ∧ ∀ σ', Fr (TaL i) σ σ' → σ' 380 i 0 = σ 380 i 0 + 1 → σ' 381 i 0 = (if σ 381 i 0 < a2 then a2 else σ 381 i 0) → σ' 382 i 0 = (if σ 381 i 0 < a2 then a1 else σ 382 i 0) → K none σ'
  | _ => False
def VE_Ta_add (i : Nat) (a1 : Int) (a2 : Int) (σ : SS) (K : AV → SS → Prop) : Prop :=
  (InR ((σ 380 i 0) + 1) ∧
  (∀ σ1 : SS, σ1 = u3 σ 380 i 0 ((σ 380 i 0) + 1) →
  ((a2 ≤ (σ1 381 i 0) →
    (K none σ1)) ∧
  ((σ1 381 i 0) < a2 →
    (∀ σ2 : SS, σ2 = u3 σ1 381 i 0 a2 →
    (∀ σ3 : SS, σ3 = u3 σ2 382 i 0 a1 →
    (K none σ3)))))))
theorem e_Ta_add (i : Nat) (a1 : Int) (a2 : Int) (σ : SS) (K : AV → SS → Prop) (hi : i < 2) (ha1 : InR a1) (ha2 : InR a2) (hs : okS σ) (hG : S_Ta_add [vR 7 i, vI a1, vI a2] σ K) : VE_Ta_add i a1 a2 σ K := by
  unfold VE_Ta_add
  obtain ⟨h0, hG⟩ := hG
  refine ⟨h0, fun σ1 h1 => ?_⟩
  have e1 : σ1 381 i 0 = σ 381 i 0 := by rw [h1, u3_f (by decide)]
  have e2 : σ1 382 i 0 = σ 382 i 0 := by rw [h1, u3_f (by decide)]
  have e3 : σ1 380 i 0 = σ 380 i 0 + 1 := by rw [h1, u3_s]
  have e4 : Fr (TaL i) σ σ1 := by rw [h1]; exact Fr_u3 (by simp [TaL])
  rw [e1]
  refine ⟨fun h => hG σ1 e4 e3 (by rw [if_neg (by omega), e1]) (by rw [if_neg (by omega), e2]), fun hc σ2 h2 σ3 h3 => ?_⟩
  refine hG σ3 (Fr_trans e4 ?_) ?_ ?_ ?_
  · rw [h3, h2]; exact Fr_trans (Fr_u3 (by simp [TaL])) (Fr_u3 (by simp [TaL]))
  · rw [h3, u3_f (by decide), h2, u3_f (by decide), e3]
  · rw [if_pos hc, h3, u3_f (by decide), h2, u3_s]
  · rw [if_pos hc, h3, u3_s]
theorem H_Ta_add {d : Nat} (hd : 1 ≤ d) : Holds d I_Ta_add S_Ta_add := by
  refine holds_of (d' := d - 1) (rt := 0) (cal := []) (C := C_Ta_add) m_Ta_add o_Ta_add rfl rfl (by omega) ?_ ?_
  · intro x hx
    cases hx
  · intro as σ K has hσ hG
    have hG2 := hG
    unfold S_Ta_add at hG2
    split at hG2
    · next i a1 a2 =>
      refine ⟨Nat.le_of_ble_eq_true rfl, (fun _ => none), ?_, 1000, ?_⟩
      · intro k n z L σ' hk hL hs hP
        cases hk
      · exact e_Ta_add i a1 a2 σ K (has _ (List.mem_of_getElem? (i := 0) rfl)) (has _ (List.mem_of_getElem? (i := 1) rfl)) (has _ (List.mem_of_getElem? (i := 2) rfl)) hσ hG
    · exact hG2.elim
def S_Ta_told : GS := fun as σ K => match as with
  | [some (.inr (.inr (7, i))), some (.inl a1)] => K (vI (toldW (σ 380 i 0) (σ 381 i 0) (σ 382 i 0) a1)) σ
  | _ => False
def VE_Ta_told (i : Nat) (a1 : Int) (σ : SS) (K : AV → SS → Prop) : Prop :=
  (((a1 = 0 →
    (K (vI (σ 380 i 0)) σ)) ∧
  ((a1 = 1 →
    (K (vI (σ 381 i 0)) σ)) ∧
  ((a1 = 2 →
    (K (vI (σ 382 i 0)) σ)) ∧
  True))) ∧
  (a1 < 0 ∨ 2 < a1 →
    (K (vI (-1)) σ)))
theorem e_Ta_told (i : Nat) (a1 : Int) (σ : SS) (K : AV → SS → Prop) (hi : i < 2) (ha1 : InR a1) (hs : okS σ) (hG : S_Ta_told [vR 7 i, vI a1] σ K) : VE_Ta_told i a1 σ K := by
  unfold VE_Ta_told
  have hG : K (vI (toldW (σ 380 i 0) (σ 381 i 0) (σ 382 i 0) a1)) σ := hG
  unfold toldW at hG
  refine ⟨⟨fun h => ?_, ⟨fun h => ?_, ⟨fun h => ?_, trivial⟩⟩⟩, fun h => ?_⟩ <;> grind
def WI (σ : SS) (i : Nat) : Prop := Wd σ i (σ 20 i) (σ 501 i 0)
def tri (h : Int) : Int := shrI (h * (h + 1)) 1
theorem tri_succ {h : Int} : tri (h + 1) = tri h + h + 1 := by
  unfold tri shrI
  have e : (h + 1) * (h + 1 + 1) = h * (h + 1) + (h + 1) * 2 := by
    simp only [Int.add_mul, Int.mul_add]
    omega
  rw [e, show (2 : Int) ^ (1 : Int).toNat = 2 from rfl, Int.add_mul_ediv_right _ _ (by decide)]
  omega
theorem tri_le {h k : Int} (h0 : 0 ≤ h) (hk : h < k) : tri h + h + 1 ≤ tri k := by
  have key : ∀ d : Nat, tri h + h + 1 ≤ tri (h + 1 + d) := by
    intro d
    induction d with
    | zero => rw [show h + 1 + ((0 : Nat) : Int) = h + 1 by omega, tri_succ]; omega
    | succ d ih =>
      rw [show h + 1 + ((d + 1 : Nat) : Int) = h + 1 + (d : Int) + 1 by omega, tri_succ]
      omega
  have := key (k - h - 1).toNat
  rwa [show h + 1 + ((k - h - 1).toNat : Int) = k by omega] at this
theorem tri_in {h : Int} (h0 : 0 ≤ h) (h1 : h ≤ 120) : 0 ≤ h * (h + 1) ∧ h * (h + 1) ≤ 14520 ∧ 0 ≤ tri h ∧ tri h + h < 7381 := by
  have a1 : 0 ≤ h * (h + 1) := Int.mul_nonneg h0 (by omega)
  have a2 : h * (h + 1) ≤ 120 * 121 := Int.mul_le_mul h1 (by omega) (by omega) (by omega)
  refine ⟨a1, by omega, ?_, ?_⟩
  · unfold tri shrI
    exact Int.ediv_nonneg a1 (by decide)
  · have e : tri 120 = 7260 := by decide
    rcases (by omega : h = 120 ∨ h < 120) with h2 | h2
    · subst h2; omega
    · have := tri_le h0 h2; omega
def TwL : List (Nat × Nat) := [(28, 0), (29, 0), (423, 0)]
def rowsOK (σ : SS) (w : Int → Int) (n from_ : Int) : Prop := ∀ hi, from_ < hi → hi < n → (∀ lo, 0 ≤ lo → lo ≤ hi → σ 28 0 (tri hi + lo) = lce w n lo hi) ∧ σ 29 0 hi = earl w n hi
def TwC (σ : SS) : Prop := WI σ 0 ∧ (σ 423 0 0 ≠ 0 → rowsOK σ (cW σ) (σ 501 0 0) (-1))
theorem cW_fr {σ σ' : SS} (h1 : σ' 20 0 = σ 20 0) (h2 : σ' 501 0 = σ 501 0) : cW σ' = cW σ := by unfold cW; rw [h1, h2]
theorem cW_in {σ : SS} {x : Int} (h0 : 0 ≤ x) (h1 : x < (σ 501 0 0)) : cW σ x = σ 20 0 x := atW_in h0 h1
theorem rowsOK_n {σ : SS} {w w' : Int → Int} {n m : Int} (hm : -1 ≤ m) (hw : ∀ x, 0 ≤ x → x < n → w x = w' x) (h : rowsOK σ w n m) : rowsOK σ w' n m := by
  intro hi g1 g2
  obtain ⟨k1, k2⟩ := h hi g1 g2
  exact ⟨fun lo m1 m2 => by rw [k1 lo m1 m2]; exact lce_congr hw m1 (by omega), by rw [k2]; exact earl_congr hw (by omega)⟩
theorem TwL_w {σ σ' : SS} (h : Fr TwL σ σ') : σ' 20 0 = σ 20 0 ∧ σ' 501 0 = σ 501 0 := ⟨h _ _ (by simp [TwL]), h _ _ (by simp [TwL])⟩
def lceR (w : Int → Int) (n i j : Int) : Int := if 0 ≤ i ∧ 0 ≤ j ∧ i < n ∧ j < n then lce w n i j else 0
def earlR (w : Int → Int) (n p : Int) : Int := if 0 ≤ p ∧ p < n then earl w n p else 0
theorem H_Ta_told {d : Nat} (hd : 1 ≤ d) : Holds d I_Ta_told S_Ta_told := by
  refine holds_of (d' := d - 1) (rt := 1) (cal := []) (C := C_Ta_told) m_Ta_told o_Ta_told rfl rfl (by omega) ?_ ?_
  · intro x hx
    cases hx
  · intro as σ K has hσ hG
    have hG2 := hG
    unfold S_Ta_told at hG2
    split at hG2
    · next i a1 =>
      refine ⟨Nat.le_of_ble_eq_true rfl, (fun _ => none), ?_, 1000, ?_⟩
      · intro k n z L σ' hk hL hs hP
        cases hk
      · exact e_Ta_told i a1 σ K (has _ (List.mem_of_getElem? (i := 0) rfl)) (has _ (List.mem_of_getElem? (i := 1) rfl)) hσ hG
    · exact hG2.elim
def S_Tw_forget : GS := fun as σ K => match as with
  | [some (.inr (.inr (8, 0)))] => K none (u3 σ 423 0 0 0)
  | _ => False
def VE_Tw_forget (σ : SS) (K : AV → SS → Prop) : Prop :=
  ((0 ≤ (0 : Int) ∧ (0 : Int) ≤ 1) ∧ (∀ σ1 : SS, σ1 = u3 σ 423 0 0 0 →
  (K none σ1)))
theorem e_Tw_forget (σ : SS) (K : AV → SS → Prop) (hs : okS σ) (hG : S_Tw_forget [vR 8 0] σ K) : VE_Tw_forget σ K := by
  unfold VE_Tw_forget
  refine ⟨by omega, fun σ1 h => ?_⟩
  subst h
  exact hG
theorem tw_step {w : Int → Int} {n hi lo : Int} (h0 : 0 ≤ lo) (h1 : lo ≤ hi) (h2 : hi < n) (h3 : n ≤ 120) : 0 ≤ lce w n lo hi ∧ lce w n lo hi ≤ 120 := by
  obtain ⟨g1, g2, g3, -⟩ := lce_spec w (n := n) (i := lo) (j := hi) (by omega) (by omega)
  omega
theorem earl_in {w : Int → Int} {n p : Int} (h0 : 0 ≤ p) (h1 : p < n) (h3 : n ≤ 120) : 0 ≤ earl w n p ∧ earl w n p ≤ 120 := by
  have := earl_spec w (n := n) (p := p) (by omega)
  omega
theorem H_Tw_forget {d : Nat} (hd : 1 ≤ d) : Holds d I_Tw_forget S_Tw_forget := by
  refine holds_of (d' := d - 1) (rt := 0) (cal := []) (C := C_Tw_forget) m_Tw_forget o_Tw_forget rfl rfl (by omega) ?_ ?_
  · intro x hx
    cases hx
  · intro as σ K has hσ hG
    have hG2 := hG
    unfold S_Tw_forget at hG2
    split at hG2
    · skip
      refine ⟨Nat.le_of_ble_eq_true rfl, (fun _ => none), ?_, 1000, ?_⟩
      · intro k n z L σ' hk hL hs hP
        cases hk
      · exact e_Tw_forget σ K  hσ hG
    · exact hG2.elim
def S_Tw_build : GS := fun as σ K => match as with
  | [some (.inr (.inr (8, 0)))] => WI σ 0 ∧ ∀ σ', Fr TwL σ σ' → TwC σ' → σ' 423 0 0 = 1 → K none σ'
  | _ => False
abbrev Lp_Tw_build_17 (σ0 : SS) (n : Nat) (L : List AV) (σ : SS) : Prop := ∃ (v2 : Int) (v3 : Int), L = [vR 8 0, vR 20 0, vI v2, vI v3, none, none, none, none, none, none] ∧ n = ((v3 + 1) * 1000).toNat ∧ ((v2 = (σ0 501 0 0)) ∧ (-1 ≤ v3) ∧ (v3 < (σ0 501 0 0)) ∧ (Fr TwL σ0 σ) ∧ (σ 423 0 0 = 1) ∧ (rowsOK σ (σ0 20 0) (σ0 501 0 0) v3))
abbrev Lp_Tw_build_46 (σ0 : SS) (n : Nat) (L : List AV) (σ : SS) : Prop := ∃ (v2 : Int) (v3 : Int) (v4 : Int) (v5 : Int) (v6 : Int) (v7 : Int) (v8 : Int), L = [vR 8 0, vR 20 0, vI v2, vI v3, vI v4, vI v5, vI v6, vI v7, vI v8, none] ∧ n = (v3 * 1000 + 2 * (v3 + 1 - v8) + 1).toNat ∧ ((v2 = (σ0 501 0 0)) ∧ (0 ≤ v3) ∧ (v3 < (σ0 501 0 0)) ∧ (Fr TwL σ0 σ) ∧ (σ 423 0 0 = 1) ∧ (rowsOK σ (σ0 20 0) (σ0 501 0 0) v3) ∧ (v4 = tri v3) ∧ (v5 = tri v3 + v3 + 1) ∧ ((v6 = if v3 = v2 - 1 then 1 else 0)) ∧ (0 ≤ v8) ∧ (v8 ≤ v3 + 1) ∧ (v7 = mxZ (fun o => lce (σ0 20 0) (σ0 501 0 0) o v3) 0 (min v8 v3)) ∧ (∀ lo, 0 ≤ lo → lo < v8 → σ 28 0 (tri v3 + lo) = lce (σ0 20 0) (σ0 501 0 0) lo v3))
abbrev Lp_Tw_build_73 (σ0 : SS) (n : Nat) (L : List AV) (σ : SS) : Prop := ∃ (v2 : Int) (v3 : Int) (v4 : Int) (v5 : Int) (v6 : Int) (v7 : Int) (v8 : Int) (v9 : Int), L = [vR 8 0, vR 20 0, vI v2, vI v3, vI v4, vI v5, vI v6, vI v7, vI v8, vI v9] ∧ n = (v3 * 1000 + 2 * (v3 + 1 - v8)).toNat ∧ ((v2 = (σ0 501 0 0)) ∧ (0 ≤ v3) ∧ (v3 < (σ0 501 0 0)) ∧ (Fr TwL σ0 σ) ∧ (σ 423 0 0 = 1) ∧ (rowsOK σ (σ0 20 0) (σ0 501 0 0) v3) ∧ (v4 = tri v3) ∧ (v5 = tri v3 + v3 + 1) ∧ ((v6 = if v3 = v2 - 1 then 1 else 0)) ∧ (0 ≤ v8) ∧ (v8 ≤ v3) ∧ (v7 = mxZ (fun o => lce (σ0 20 0) (σ0 501 0 0) o v3) 0 (min v8 v3)) ∧ (∀ lo, 0 ≤ lo → lo < v8 → σ 28 0 (tri v3 + lo) = lce (σ0 20 0) (σ0 501 0 0) lo v3) ∧ (v9 = lce (σ0 20 0) (σ0 501 0 0) v8 v3))
def Iv_Tw_build (σ0 : SS) (k : Nat) : Option (List Nat × (Nat → List AV → SS → Prop)) := match k with
  | 17 => some ([4, 5, 6, 7, 8, 9], Lp_Tw_build_17 σ0)
  | 46 => some ([9], Lp_Tw_build_46 σ0)
  | 73 => some ([], Lp_Tw_build_73 σ0)
  | _ => none
def VE_Tw_build (σ : SS) (K : AV → SS → Prop) : Prop :=
  ((0 ≤ (1 : Int) ∧ (1 : Int) ≤ 1) ∧ (∀ σ1 : SS, σ1 = u3 σ 423 0 0 1 →
  (InR ((min (σ1 501 0 0) 120) - 1) ∧
  (∃ n', Lp_Tw_build_17 σ n' [vR 8 0, vR 20 0, vI (min (σ1 501 0 0) 120), vI ((min (σ1 501 0 0) 120) - 1), none, none, none, none, none, none] σ1))))
def VL_Tw_build_17 (σ0 : SS) (K : AV → SS → Prop) (v2 : Int) (v3 : Int) (σ : SS) (n : Nat) : Prop :=
  ((v3 < 0 →
    (K none σ)) ∧
  ((0 : Int) ≤ v3 →
    (InR (v3 + 1) ∧
    (InR (v3 * (v3 + 1)) ∧
    ((0 ≤ (1 : Int) ∧ (1 : Int) < 32 ∧ InR (shrI (v3 * (v3 + 1)) 1)) ∧
    (InR ((shrI (v3 * (v3 + 1)) 1) + v3) ∧
    (InR (((shrI (v3 * (v3 + 1)) 1) + v3) + 1) ∧
    (InR (v2 - 1) ∧
    ((v3 ≠ (v2 - 1) →
      (∃ n', n' < n ∧ Lp_Tw_build_46 σ0 n' [vR 8 0, vR 20 0, vI v2, vI v3, vI (shrI (v3 * (v3 + 1)) 1), vI (((shrI (v3 * (v3 + 1)) 1) + v3) + 1), vI 0, vI 0, vI 0, none] σ)) ∧
    (v3 = (v2 - 1) →
      (∃ n', n' < n ∧ Lp_Tw_build_46 σ0 n' [vR 8 0, vR 20 0, vI v2, vI v3, vI (shrI (v3 * (v3 + 1)) 1), vI (((shrI (v3 * (v3 + 1)) 1) + v3) + 1), vI 1, vI 0, vI 0, none] σ)))))))))))
def VL_Tw_build_46 (σ0 : SS) (K : AV → SS → Prop) (v2 : Int) (v3 : Int) (v4 : Int) (v5 : Int) (v6 : Int) (v7 : Int) (v8 : Int) (σ : SS) (n : Nat) : Prop :=
  ((v3 < v8 →
    (((0 ≤ (v3 : Int) ∧ (v3 : Int) < 121) ∧ -128 ≤ (i2bI v7 : Int) ∧ (i2bI v7 : Int) ≤ 127) ∧ ∀ σ1 : SS, σ1 = u3 σ 29 0 v3 (i2bI v7) →
    (InR (v3 + (-1)) ∧
    (∃ n', n' < n ∧ Lp_Tw_build_17 σ0 n' [vR 8 0, vR 20 0, vI v2, vI (v3 + (-1)), none, none, none, none, none, none] σ1)))) ∧
  (v8 ≤ v3 →
    ((0 ≤ (v8 : Int) ∧ (v8 : Int) < 120) ∧
    ((0 ≤ (v3 : Int) ∧ (v3 : Int) < 120) ∧
    (((σ 20 0 v8) ≠ (σ 20 0 v3) →
      (∃ n', n' < n ∧ Lp_Tw_build_73 σ0 n' [vR 8 0, vR 20 0, vI v2, vI v3, vI v4, vI v5, vI v6, vI v7, vI v8, vI 0] σ)) ∧
    ((σ 20 0 v8) = (σ 20 0 v3) →
      ((v6 = 0 →
        (InR (v5 + v8) ∧
        (InR ((v5 + v8) + 1) ∧
        ((0 ≤ ((v5 + v8) + 1 : Int) ∧ ((v5 + v8) + 1 : Int) < 7381) ∧
        (InR ((σ 28 0 ((v5 + v8) + 1)) + 1) ∧
        (∃ n', n' < n ∧ Lp_Tw_build_73 σ0 n' [vR 8 0, vR 20 0, vI v2, vI v3, vI v4, vI v5, vI v6, vI v7, vI v8, vI ((σ 28 0 ((v5 + v8) + 1)) + 1)] σ)))))) ∧
      (v6 ≠ 0 →
        (∃ n', n' < n ∧ Lp_Tw_build_73 σ0 n' [vR 8 0, vR 20 0, vI v2, vI v3, vI v4, vI v5, vI v6, vI v7, vI v8, vI 1] σ)))))))))
def VL_Tw_build_73 (σ0 : SS) (K : AV → SS → Prop) (v2 : Int) (v3 : Int) (v4 : Int) (v5 : Int) (v6 : Int) (v7 : Int) (v8 : Int) (v9 : Int) (σ : SS) (n : Nat) : Prop :=
  (InR (v4 + v8) ∧
  (((0 ≤ (v4 + v8 : Int) ∧ (v4 + v8 : Int) < 7381) ∧ -128 ≤ (i2bI v9 : Int) ∧ (i2bI v9 : Int) ≤ 127) ∧ ∀ σ1 : SS, σ1 = u3 σ 28 0 (v4 + v8) (i2bI v9) →
  ((v3 ≤ v8 →
    (InR (v8 + 1) ∧
    (∃ n', n' < n ∧ Lp_Tw_build_46 σ0 n' [vR 8 0, vR 20 0, vI v2, vI v3, vI v4, vI v5, vI v6, vI v7, vI (v8 + 1), none] σ1))) ∧
  (v8 < v3 →
    ((v9 ≤ v7 →
      (InR (v8 + 1) ∧
      (∃ n', n' < n ∧ Lp_Tw_build_46 σ0 n' [vR 8 0, vR 20 0, vI v2, vI v3, vI v4, vI v5, vI v6, vI v7, vI (v8 + 1), none] σ1))) ∧
    (v7 < v9 →
      (InR (v8 + 1) ∧
      (∃ n', n' < n ∧ Lp_Tw_build_46 σ0 n' [vR 8 0, vR 20 0, vI v2, vI v3, vI v4, vI v5, vI v6, vI v9, vI (v8 + 1), none] σ1))))))))
theorem l_Tw_build_17 (σ0 : SS) (K : AV → SS → Prop) (hs0 : okS σ0) (hG : S_Tw_build [vR 8 0] σ0 K) (v2 : Int) (v3 : Int) (σ : SS) (hv2 : InR v2) (hv3 : InR v3) (hs : okS σ) (n : Nat) (hn : n = ((v3 + 1) * 1000).toNat) (hQ : (v2 = (σ0 501 0 0)) ∧ (-1 ≤ v3) ∧ (v3 < (σ0 501 0 0)) ∧ (Fr TwL σ0 σ) ∧ (σ 423 0 0 = 1) ∧ (rowsOK σ (σ0 20 0) (σ0 501 0 0) v3)) : VL_Tw_build_17 σ0 K v2 v3 σ n := by
  unfold VL_Tw_build_17
  obtain ⟨⟨h1, h2, h3⟩, hG⟩ := hG
  obtain ⟨rfl, q1, q2, q3, q4, q5⟩ := hQ
  obtain ⟨e1, e2⟩ := TwL_w q3
  refine ⟨fun h => hG σ q3 ⟨?_, fun _ => ?_⟩ q4, fun h => ?_⟩
  · unfold WI; rw [e1, e2]; exact Wd_fr ⟨h1, h2, h3⟩ e2 e1
  · rw [cW_fr e1 e2, e2, show (-1 : Int) = v3 by omega]
    exact rowsOK_n (by omega) (fun x g1 g2 => (cW_in g1 g2).symm) q5
  · obtain ⟨t1, t2, t3, t4⟩ := tri_in (h := v3) h (by omega)
    have t5 := tri_succ (h := v3)
    have t6 : shrI (v3 * (v3 + 1)) 1 = tri v3 := rfl
    rw [t6]
    refine ⟨by omega, by omega, ⟨by omega, by omega, by omega⟩, by omega, by omega, by omega, fun hc => ?_, fun hc => ?_⟩
    · exact ⟨_, by omega, _, _, _, _, _, _, _, rfl, rfl, rfl, h, q2, q3, q4, q5, rfl, rfl, by omega, by omega, by omega, (mxZ_nil (by omega)).symm, fun lo g1 g2 => by omega⟩
    · exact ⟨_, by omega, _, _, _, _, _, _, _, rfl, rfl, rfl, h, q2, q3, q4, q5, rfl, rfl, by omega, by omega, by omega, (mxZ_nil (by omega)).symm, fun lo g1 g2 => by omega⟩
theorem l_Tw_build_46 (σ0 : SS) (K : AV → SS → Prop) (hs0 : okS σ0) (hG : S_Tw_build [vR 8 0] σ0 K) (v2 : Int) (v3 : Int) (v4 : Int) (v5 : Int) (v6 : Int) (v7 : Int) (v8 : Int) (σ : SS) (hv2 : InR v2) (hv3 : InR v3) (hv4 : InR v4) (hv5 : InR v5) (hv6 : InR v6) (hv7 : InR v7) (hv8 : InR v8) (hs : okS σ) (n : Nat) (hn : n = (v3 * 1000 + 2 * (v3 + 1 - v8) + 1).toNat) (hQ : (v2 = (σ0 501 0 0)) ∧ (0 ≤ v3) ∧ (v3 < (σ0 501 0 0)) ∧ (Fr TwL σ0 σ) ∧ (σ 423 0 0 = 1) ∧ (rowsOK σ (σ0 20 0) (σ0 501 0 0) v3) ∧ (v4 = tri v3) ∧ (v5 = tri v3 + v3 + 1) ∧ ((v6 = if v3 = v2 - 1 then 1 else 0)) ∧ (0 ≤ v8) ∧ (v8 ≤ v3 + 1) ∧ (v7 = mxZ (fun o => lce (σ0 20 0) (σ0 501 0 0) o v3) 0 (min v8 v3)) ∧ (∀ lo, 0 ≤ lo → lo < v8 → σ 28 0 (tri v3 + lo) = lce (σ0 20 0) (σ0 501 0 0) lo v3)) : VL_Tw_build_46 σ0 K v2 v3 v4 v5 v6 v7 v8 σ n := by
  unfold VL_Tw_build_46
  obtain ⟨⟨h1, h2, h3⟩, hG⟩ := hG
  obtain ⟨rfl, q1, q2, q3, q4, q5, rfl, rfl, q6, q7, q8, q9, q10⟩ := hQ
  obtain ⟨e1, e2⟩ := TwL_w q3
  obtain ⟨t1, t2, t3, t4⟩ := tri_in (h := v3) q1 (by omega)
  have t5 := tri_succ (h := v3)
  refine ⟨fun h => ?_, fun h => ?_⟩
  · have hv8 : min v8 v3 = v3 := by omega
    rw [hv8] at q9
    have q9' : v7 = earl (σ0 20 0) (σ0 501 0 0) v3 := q9
    have hr := earl_in (w := (σ0 20 0)) q1 q2 h1.2
    have e : i2bI v7 = v7 := Int.bmod_eq_of_le (by omega) (by omega)
    rw [e]
    refine ⟨by omega, fun σ1 hσ1 => ⟨by omega, _, ?_, _, _, rfl, rfl, rfl, by omega, by omega, Fr_trans q3 (by rw [hσ1]; exact Fr_u3 (by simp [TwL])), ?_, ?_⟩⟩
    · omega
    · rw [hσ1, u3_f (by decide)]; exact q4
    · intro hi g1 g2
      rw [hσ1]
      refine ⟨fun lo k1 k2 => ?_, ?_⟩
      · rw [u3_f (by decide)]
        rcases (by omega : hi = v3 ∨ v3 < hi) with g3 | g3
        · subst g3; exact q10 lo k1 (by omega)
        · exact (q5 hi g3 g2).1 lo k1 k2
      · rw [u3_e]
        split
        · next g3 => rw [g3, q9']
        · next g3 => exact (q5 hi (by omega) g2).2
  · have hl8 := lce_step (σ0 20 0) (n := (σ0 501 0 0)) (i := v8) (j := v3) (by omega) (by omega)
    have hr := tw_step (w := (σ0 20 0)) q7 (by omega : v8 ≤ v3) q2 h1.2
    refine ⟨by omega, by omega, fun hc => ?_, fun hc => ⟨fun hc2 => ?_, fun hc2 => ?_⟩⟩
    · rw [e1] at hc
      rw [if_neg hc] at hl8
      exact ⟨_, by omega, _, _, _, _, _, _, _, _, rfl, rfl, rfl, q1, q2, q3, q4, q5, rfl, rfl, q6, q7, by omega, q9, q10, by omega⟩
    · rw [e1] at hc
      rw [if_pos hc] at hl8
      have hlast : ¬ v3 = (σ0 501 0 0) - 1 := by
        intro z
        rw [if_pos z] at q6
        omega
      have hrow := (q5 (v3 + 1) (by omega) (by omega)).1 (v8 + 1) (by omega) (by omega)
      have e3 : tri v3 + v3 + 1 + v8 + 1 = tri (v3 + 1) + (v8 + 1) := by omega
      have t7 := tri_in (h := v3 + 1) (by omega) (by omega)
      rw [e3, hrow]
      refine ⟨by omega, by omega, by omega, by omega, ?_⟩
      exact ⟨_, by omega, _, _, _, _, _, _, _, _, rfl, rfl, rfl, q1, q2, q3, q4, q5, rfl, rfl, q6, q7, by omega, q9, q10, by omega⟩
    · rw [e1] at hc
      rw [if_pos hc] at hl8
      have hlast : v3 = (σ0 501 0 0) - 1 := by
        by_cases z : v3 = (σ0 501 0 0) - 1
        · exact z
        · rw [if_neg z] at q6
          omega
      have hend := lce_end (σ0 20 0) (n := (σ0 501 0 0)) (i := v8 + 1) (j := v3 + 1) (by omega)
      exact ⟨_, by omega, _, _, _, _, _, _, _, _, rfl, rfl, rfl, q1, q2, q3, q4, q5, rfl, rfl, q6, q7, by omega, q9, q10, by omega⟩
theorem l_Tw_build_73 (σ0 : SS) (K : AV → SS → Prop) (hs0 : okS σ0) (hG : S_Tw_build [vR 8 0] σ0 K) (v2 : Int) (v3 : Int) (v4 : Int) (v5 : Int) (v6 : Int) (v7 : Int) (v8 : Int) (v9 : Int) (σ : SS) (hv2 : InR v2) (hv3 : InR v3) (hv4 : InR v4) (hv5 : InR v5) (hv6 : InR v6) (hv7 : InR v7) (hv8 : InR v8) (hv9 : InR v9) (hs : okS σ) (n : Nat) (hn : n = (v3 * 1000 + 2 * (v3 + 1 - v8)).toNat) (hQ : (v2 = (σ0 501 0 0)) ∧ (0 ≤ v3) ∧ (v3 < (σ0 501 0 0)) ∧ (Fr TwL σ0 σ) ∧ (σ 423 0 0 = 1) ∧ (rowsOK σ (σ0 20 0) (σ0 501 0 0) v3) ∧ (v4 = tri v3) ∧ (v5 = tri v3 + v3 + 1) ∧ ((v6 = if v3 = v2 - 1 then 1 else 0)) ∧ (0 ≤ v8) ∧ (v8 ≤ v3) ∧ (v7 = mxZ (fun o => lce (σ0 20 0) (σ0 501 0 0) o v3) 0 (min v8 v3)) ∧ (∀ lo, 0 ≤ lo → lo < v8 → σ 28 0 (tri v3 + lo) = lce (σ0 20 0) (σ0 501 0 0) lo v3) ∧ (v9 = lce (σ0 20 0) (σ0 501 0 0) v8 v3)) : VL_Tw_build_73 σ0 K v2 v3 v4 v5 v6 v7 v8 v9 σ n := by
  unfold VL_Tw_build_73
  obtain ⟨⟨h1, h2, h3⟩, hG⟩ := hG
  obtain ⟨rfl, q1, q2, q3, q4, q5, rfl, rfl, q6, q7, q8, q9, q10, q11⟩ := hQ
  obtain ⟨t1, t2, t3, t4⟩ := tri_in (h := v3) q1 (by omega)
  have hr := tw_step (w := (σ0 20 0)) q7 q8 q2 h1.2
  have e : i2bI v9 = v9 := Int.bmod_eq_of_le (by omega) (by omega)
  rw [e]
  refine ⟨by omega, by omega, fun σ1 hσ1 => ?_⟩
  have k1 : Fr TwL σ0 σ1 := Fr_trans q3 (by rw [hσ1]; exact Fr_u3 (by simp [TwL]))
  have k2 : σ1 423 0 0 = 1 := by rw [hσ1, u3_f (by decide)]; exact q4
  have k3 : rowsOK σ1 (σ0 20 0) (σ0 501 0 0) v3 := by
    intro hi g1 g2
    have g3 := tri_le q1 g1
    rw [hσ1]
    refine ⟨fun lo m1 m2 => ?_, ?_⟩
    · rw [u3_k (by omega)]
      exact (q5 hi g1 g2).1 lo m1 m2
    · rw [u3_f (by decide)]
      exact (q5 hi g1 g2).2
  have k4 : ∀ lo, 0 ≤ lo → lo < v8 + 1 → σ1 28 0 (tri v3 + lo) = lce (σ0 20 0) (σ0 501 0 0) lo v3 := by
    intro lo m1 m2
    rw [hσ1, u3_e]
    split
    · next z => rw [q11, show lo = v8 by omega]
    · next z => exact q10 lo m1 (by omega)
  have k5 : v8 < v3 → mxZ (fun o => lce (σ0 20 0) (σ0 501 0 0) o v3) 0 (min (v8 + 1) v3) = max v7 v9 := by
    intro z
    rw [show min (v8 + 1) v3 = v8 + 1 by omega, mxZ_succ q7, q9, show min v8 v3 = v8 by omega, q11]
  refine ⟨fun hc => ⟨by omega, _, ?_, _, _, _, _, _, _, _, rfl, rfl, rfl, q1, q2, k1, k2, k3, rfl, rfl, q6, by omega, by omega, ?_, k4⟩, fun hc => ⟨fun hc2 => ⟨by omega, _, ?_, _, _, _, _, _, _, _, rfl, rfl, rfl, q1, q2, k1, k2, k3, rfl, rfl, q6, by omega, by omega, ?_, k4⟩, fun hc2 => ⟨by omega, _, ?_, _, _, _, _, _, _, _, rfl, rfl, rfl, q1, q2, k1, k2, k3, rfl, rfl, q6, by omega, by omega, ?_, k4⟩⟩⟩
  · omega
  · rw [show min (v8 + 1) v3 = min v8 v3 by omega]; exact q9
  · omega
  · have := k5 hc; omega
  · omega
  · have := k5 hc; omega
theorem e_Tw_build (σ : SS) (K : AV → SS → Prop) (hs : okS σ) (hG : S_Tw_build [vR 8 0] σ K) : VE_Tw_build σ K := by
  unfold VE_Tw_build
  obtain ⟨⟨h1, h2, h3⟩, hG⟩ := hG
  refine ⟨by omega, fun σ1 hσ1 => ?_⟩
  have e1 : σ1 501 0 = σ 501 0 := by rw [hσ1]; funext k; exact u3_f (by decide)
  have e2 : σ1 501 0 0 = σ 501 0 0 := by rw [e1]
  rw [e2, Int.min_eq_left (by omega)]
  refine ⟨by omega, _, _, _, rfl, rfl, rfl, by omega, by omega, ?_, ?_, ?_⟩
  · rw [hσ1]; exact Fr_u3 (by simp [TwL])
  · rw [hσ1, u3_s]
  · intro hi g1 g2; omega
theorem H_Tw_build {d : Nat} (hd : 1 ≤ d) : Holds d I_Tw_build S_Tw_build := by
  refine holds_of (d' := d - 1) (rt := 0) (cal := []) (C := C_Tw_build) m_Tw_build o_Tw_build rfl rfl (by omega) ?_ ?_
  · intro x hx
    cases hx
  · intro as σ K has hσ hG
    have hG2 := hG
    unfold S_Tw_build at hG2
    split at hG2
    · skip
      refine ⟨Nat.le_of_ble_eq_true rfl, (Iv_Tw_build σ), ?_, 1000, ?_⟩
      · intro k n z L σ' hk hL hs hP
        unfold Iv_Tw_build at hk
        split at hk
        · cases hk
          obtain ⟨v2, v3, rfl, hn, hQ⟩ := hP
          exact ⟨1000, l_Tw_build_17 σ K  hσ hG v2 v3 σ' (hL _ (List.mem_of_getElem? (i := 2) rfl)) (hL _ (List.mem_of_getElem? (i := 3) rfl)) hs n hn hQ⟩
        · cases hk
          obtain ⟨v2, v3, v4, v5, v6, v7, v8, rfl, hn, hQ⟩ := hP
          exact ⟨1000, l_Tw_build_46 σ K  hσ hG v2 v3 v4 v5 v6 v7 v8 σ' (hL _ (List.mem_of_getElem? (i := 2) rfl)) (hL _ (List.mem_of_getElem? (i := 3) rfl)) (hL _ (List.mem_of_getElem? (i := 4) rfl)) (hL _ (List.mem_of_getElem? (i := 5) rfl)) (hL _ (List.mem_of_getElem? (i := 6) rfl)) (hL _ (List.mem_of_getElem? (i := 7) rfl)) (hL _ (List.mem_of_getElem? (i := 8) rfl)) hs n hn hQ⟩
        · cases hk
          obtain ⟨v2, v3, v4, v5, v6, v7, v8, v9, rfl, hn, hQ⟩ := hP
          exact ⟨1000, l_Tw_build_73 σ K  hσ hG v2 v3 v4 v5 v6 v7 v8 v9 σ' (hL _ (List.mem_of_getElem? (i := 2) rfl)) (hL _ (List.mem_of_getElem? (i := 3) rfl)) (hL _ (List.mem_of_getElem? (i := 4) rfl)) (hL _ (List.mem_of_getElem? (i := 5) rfl)) (hL _ (List.mem_of_getElem? (i := 6) rfl)) (hL _ (List.mem_of_getElem? (i := 7) rfl)) (hL _ (List.mem_of_getElem? (i := 8) rfl)) (hL _ (List.mem_of_getElem? (i := 9) rfl)) hs n hn hQ⟩
        · cases hk
      · exact e_Tw_build σ K  hσ hG
    · exact hG2.elim
def S_Tw_common : GS := fun as σ K => match as with
  | [some (.inr (.inr (8, 0))), some (.inl a1), some (.inl a2)] => TwC σ ∧ ∀ σ', Fr TwL σ σ' → TwC σ' → K (vI (lceR (cW σ) (σ 501 0 0) a1 a2)) σ'
  | _ => False
def VE_Tw_common (a1 : Int) (a2 : Int) (σ : SS) (K : AV → SS → Prop) : Prop :=
  (((min a1 a2) < 0 →
    (K (vI 0) σ)) ∧
  ((0 : Int) ≤ (min a1 a2) →
    (S_Wo_size [vR 10 0] σ (kI fun r1 σ1 =>
      (((max a1 a2) < r1 →
        (((σ1 423 0 0) ≠ 0 →
          (InR ((max a1 a2) + 1) ∧
          (InR ((max a1 a2) * ((max a1 a2) + 1)) ∧
          ((0 ≤ (1 : Int) ∧ (1 : Int) < 32 ∧ InR (shrI ((max a1 a2) * ((max a1 a2) + 1)) 1)) ∧
          (InR ((shrI ((max a1 a2) * ((max a1 a2) + 1)) 1) + (min a1 a2)) ∧
          ((0 ≤ ((shrI ((max a1 a2) * ((max a1 a2) + 1)) 1) + (min a1 a2) : Int) ∧ ((shrI ((max a1 a2) * ((max a1 a2) + 1)) 1) + (min a1 a2) : Int) < 7381) ∧
          (K (vI (σ1 28 0 ((shrI ((max a1 a2) * ((max a1 a2) + 1)) 1) + (min a1 a2)))) σ1))))))) ∧
        ((σ1 423 0 0) = 0 →
          (S_Tw_build [vR 8 0] σ1 (kV fun σ2 =>
            (InR ((max a1 a2) + 1) ∧
            (InR ((max a1 a2) * ((max a1 a2) + 1)) ∧
            ((0 ≤ (1 : Int) ∧ (1 : Int) < 32 ∧ InR (shrI ((max a1 a2) * ((max a1 a2) + 1)) 1)) ∧
            (InR ((shrI ((max a1 a2) * ((max a1 a2) + 1)) 1) + (min a1 a2)) ∧
            ((0 ≤ ((shrI ((max a1 a2) * ((max a1 a2) + 1)) 1) + (min a1 a2) : Int) ∧ ((shrI ((max a1 a2) * ((max a1 a2) + 1)) 1) + (min a1 a2) : Int) < 7381) ∧
            (K (vI (σ2 28 0 ((shrI ((max a1 a2) * ((max a1 a2) + 1)) 1) + (min a1 a2)))) σ2))))))))))) ∧
      (r1 ≤ (max a1 a2) →
        (K (vI 0) σ1)))))))
theorem e_Tw_common (a1 : Int) (a2 : Int) (σ : SS) (K : AV → SS → Prop) (ha1 : InR a1) (ha2 : InR a2) (hs : okS σ) (hG : S_Tw_common [vR 8 0, vI a1, vI a2] σ K) : VE_Tw_common a1 a2 σ K := by
  unfold VE_Tw_common
  obtain ⟨hT, hG⟩ := hG
  have hw := hT.1
  have h1 := hw.1
  have no : ¬ (0 ≤ a1 ∧ 0 ≤ a2 ∧ a1 < (σ 501 0 0) ∧ a2 < (σ 501 0 0)) → K (vI 0) σ := by
    intro z
    have := hG σ Fr_refl hT
    rwa [lceR, if_neg z] at this
  have yes : 0 ≤ min a1 a2 → max a1 a2 < (σ 501 0 0) → ∀ σ', Fr TwL σ σ' → TwC σ' → σ' 423 0 0 ≠ 0 → K (vI (σ' 28 0 (tri (max a1 a2) + min a1 a2))) σ' := by
    intro z1 z2 σ' hF hT' hr
    have := hG σ' hF hT'
    rw [lceR, if_pos (by omega)] at this
    obtain ⟨e1, e2⟩ := TwL_w hF
    have hrow := ((hT'.2 hr) (max a1 a2) (by omega) (by rw [e2]; exact z2)).1 (min a1 a2) z1 (by omega)
    rw [hrow, cW_fr e1 e2, e2]
    have e : lce (cW σ) (σ 501 0 0) (min a1 a2) (max a1 a2) = lce (cW σ) (σ 501 0 0) a1 a2 := by
      rcases (by omega : a1 ≤ a2 ∨ a2 < a1) with z | z
      · rw [Int.min_eq_left z, Int.max_eq_right z]
      · rw [Int.min_eq_right (by omega), Int.max_eq_left (by omega)]
        exact lce_comm _ (by omega) (by omega)
    rwa [e]
  refine ⟨fun h => no (by omega), fun h => ?_⟩
  intro _ _
  have t6 : shrI (max a1 a2 * (max a1 a2 + 1)) 1 = tri (max a1 a2) := rfl
  rw [t6]
  refine ⟨fun hm => ?_, fun hm => no (by omega)⟩
  obtain ⟨t1, t2, t3, t4⟩ := tri_in (h := max a1 a2) (by omega) (by omega)
  refine ⟨fun hr => ?_, fun hr => ?_⟩
  · exact ⟨by omega, by omega, by omega, by omega, by omega, yes h hm σ Fr_refl hT hr⟩
  · refine ⟨hw, fun σ' hF hT' hr' => ?_⟩
    intro _
    exact ⟨by omega, by omega, by omega, by omega, by omega, yes h hm σ' hF hT' (by omega)⟩
theorem H_Tw_common {d : Nat} (hd : 2 ≤ d) : Holds d I_Tw_common S_Tw_common := by
  refine holds_of (d' := d - 1) (rt := 1) (cal := [(I_Wo_size, S_Wo_size), (I_Tw_build, S_Tw_build)]) (C := C_Tw_common) m_Tw_common o_Tw_common rfl rfl (by omega) ?_ ?_
  · intro x hx
    simp only [List.mem_cons, List.not_mem_nil, or_false] at hx
    rcases hx with rfl | rfl
    · exact H_Wo_size (by omega)
    · exact H_Tw_build (by omega)
  · intro as σ K has hσ hG
    have hG2 := hG
    unfold S_Tw_common at hG2
    split at hG2
    · next a1 a2 =>
      refine ⟨Nat.le_of_ble_eq_true rfl, (fun _ => none), ?_, 1000, ?_⟩
      · intro k n z L σ' hk hL hs hP
        cases hk
      · exact e_Tw_common a1 a2 σ K (has _ (List.mem_of_getElem? (i := 1) rfl)) (has _ (List.mem_of_getElem? (i := 2) rfl)) hσ hG
    · exact hG2.elim
def S_Tw_earlier : GS := fun as σ K => match as with
  | [some (.inr (.inr (8, 0))), some (.inl a1)] => TwC σ ∧ ∀ σ', Fr TwL σ σ' → TwC σ' → K (vI (earlR (cW σ) (σ 501 0 0) a1)) σ'
  | _ => False
def VE_Tw_earlier (a1 : Int) (σ : SS) (K : AV → SS → Prop) : Prop :=
  ((a1 < 0 →
    (K (vI 0) σ)) ∧
  ((0 : Int) ≤ a1 →
    (S_Wo_size [vR 10 0] σ (kI fun r1 σ1 =>
      ((a1 < r1 →
        (((σ1 423 0 0) ≠ 0 →
          ((0 ≤ (a1 : Int) ∧ (a1 : Int) < 121) ∧
          (K (vI (σ1 29 0 a1)) σ1))) ∧
        ((σ1 423 0 0) = 0 →
          (S_Tw_build [vR 8 0] σ1 (kV fun σ2 =>
            ((0 ≤ (a1 : Int) ∧ (a1 : Int) < 121) ∧
            (K (vI (σ2 29 0 a1)) σ2))))))) ∧
      (r1 ≤ a1 →
        (K (vI 0) σ1)))))))
theorem e_Tw_earlier (a1 : Int) (σ : SS) (K : AV → SS → Prop) (ha1 : InR a1) (hs : okS σ) (hG : S_Tw_earlier [vR 8 0, vI a1] σ K) : VE_Tw_earlier a1 σ K := by
  unfold VE_Tw_earlier
  obtain ⟨hT, hG⟩ := hG
  have hw := hT.1
  have h1 := hw.1
  have no : ¬ (0 ≤ a1 ∧ a1 < (σ 501 0 0)) → K (vI 0) σ := by
    intro z
    have := hG σ Fr_refl hT
    rwa [earlR, if_neg z] at this
  have yes : 0 ≤ a1 → a1 < (σ 501 0 0) → ∀ σ', Fr TwL σ σ' → TwC σ' → σ' 423 0 0 ≠ 0 → K (vI (σ' 29 0 a1)) σ' := by
    intro z1 z2 σ' hF hT' hr
    have := hG σ' hF hT'
    rw [earlR, if_pos (by omega)] at this
    obtain ⟨e1, e2⟩ := TwL_w hF
    have hrow := ((hT'.2 hr) a1 (by omega) (by rw [e2]; exact z2)).2
    rwa [hrow, cW_fr e1 e2, e2]
  refine ⟨fun h => no (by omega), fun h => ?_⟩
  intro _ _
  refine ⟨fun hm => ⟨fun hr => ⟨by omega, yes h hm σ Fr_refl hT hr⟩, fun hr => ⟨hw, fun σ' hF hT' hr' => ?_⟩⟩, fun hm => no (by omega)⟩
  intro _
  exact ⟨by omega, yes h hm σ' hF hT' (by omega)⟩
theorem H_Tw_earlier {d : Nat} (hd : 2 ≤ d) : Holds d I_Tw_earlier S_Tw_earlier := by
  refine holds_of (d' := d - 1) (rt := 1) (cal := [(I_Wo_size, S_Wo_size), (I_Tw_build, S_Tw_build)]) (C := C_Tw_earlier) m_Tw_earlier o_Tw_earlier rfl rfl (by omega) ?_ ?_
  · intro x hx
    simp only [List.mem_cons, List.not_mem_nil, or_false] at hx
    rcases hx with rfl | rfl
    · exact H_Wo_size (by omega)
    · exact H_Tw_build (by omega)
  · intro as σ K has hσ hG
    have hG2 := hG
    unfold S_Tw_earlier at hG2
    split at hG2
    · next a1 =>
      refine ⟨Nat.le_of_ble_eq_true rfl, (fun _ => none), ?_, 1000, ?_⟩
      · intro k n z L σ' hk hL hs hP
        cases hk
      · exact e_Tw_earlier a1 σ K (has _ (List.mem_of_getElem? (i := 1) rfl)) hσ hG
    · exact hG2.elim
