/-! the reference: what stands around the places of a part -/
def AroL : List (Nat × Nat) := [(56, 0), (57, 0), (58, 0)]
theorem aroF {σ σ' : SS} (h : Fr AroL σ σ') : mW σ' = mW σ ∧ (σ' 40 0 0) = (σ 40 0 0) := by
  have e : σ' 40 0 = σ 40 0 := h _ _ (by simp [AroL])
  unfold mW
  rw [e]
  exact ⟨rfl, rfl⟩
theorem aroM {σ σ' : SS} (hM : MoW σ) (h : Fr AroL σ σ') : MoW σ' := by
  obtain ⟨e1, e2⟩ := aroF h
  unfold MoW
  rw [e1, e2]
  exact hM
def ahdU (w : Int → Int) (n i L u c : Int) : Prop := ∃ x, 1 ≤ x ∧ x < u ∧ x + L ≤ n ∧ eqs w i x L ∧ w (x - 1) = c
def behU (w : Int → Int) (n i L u c : Int) : Prop := ∃ x, 0 ≤ x ∧ x < u ∧ x + L < n ∧ eqs w i x L ∧ w (x + L) = c
def botU (w : Int → Int) (n i L u a b : Int) : Prop := ∃ x, 1 ≤ x ∧ x < u ∧ x + L < n ∧ eqs w i x L ∧ w (x - 1) = a ∧ w (x + L) = b
theorem ahd_no {w : Int → Int} {n i L u c : Int} (h : ¬ (eqs w i u L ∧ 1 ≤ u ∧ u + L ≤ n)) : ahdU w n i L (u + 1) c ↔ ahdU w n i L u c :=
  ⟨fun ⟨x, h1, h2, h3, h4, h5⟩ => by
    rcases (by omega : x < u ∨ x = u) with z | rfl
    · exact ⟨x, h1, z, h3, h4, h5⟩
    · exact absurd ⟨h4, h1, h3⟩ h, fun ⟨x, h1, h2, h3⟩ => ⟨x, h1, by omega, h3⟩⟩
theorem ahd_yes {w : Int → Int} {n i L u c : Int} (h : eqs w i u L) (h1 : 1 ≤ u) (h2 : u + L ≤ n) : ahdU w n i L (u + 1) c ↔ ahdU w n i L u c ∨ c = w (u - 1) :=
  ⟨fun ⟨x, h1, h2, h3, h4, h5⟩ => by
    rcases (by omega : x < u ∨ x = u) with z | rfl
    · exact Or.inl ⟨x, h1, z, h3, h4, h5⟩
    · exact Or.inr h5.symm, fun g => by
    rcases g with ⟨x, g1, g2, g3⟩ | rfl
    · exact ⟨x, g1, by omega, g3⟩
    · exact ⟨u, h1, by omega, h2, h, rfl⟩⟩
theorem beh_no {w : Int → Int} {n i L u c : Int} (h : ¬ (eqs w i u L ∧ u + L < n)) : behU w n i L (u + 1) c ↔ behU w n i L u c :=
  ⟨fun ⟨x, h1, h2, h3, h4, h5⟩ => by
    rcases (by omega : x < u ∨ x = u) with z | rfl
    · exact ⟨x, h1, z, h3, h4, h5⟩
    · exact absurd ⟨h4, h3⟩ h, fun ⟨x, h1, h2, h3⟩ => ⟨x, h1, by omega, h3⟩⟩
theorem beh_yes {w : Int → Int} {n i L u c : Int} (h : eqs w i u L) (h1 : 0 ≤ u) (h2 : u + L < n) : behU w n i L (u + 1) c ↔ behU w n i L u c ∨ c = w (u + L) :=
  ⟨fun ⟨x, h1, h2, h3, h4, h5⟩ => by
    rcases (by omega : x < u ∨ x = u) with z | rfl
    · exact Or.inl ⟨x, h1, z, h3, h4, h5⟩
    · exact Or.inr h5.symm, fun g => by
    rcases g with ⟨x, g1, g2, g3⟩ | rfl
    · exact ⟨x, g1, by omega, g3⟩
    · exact ⟨u, h1, by omega, h2, h, rfl⟩⟩
theorem bot_no {w : Int → Int} {n i L u a b : Int} (h : ¬ (eqs w i u L ∧ 1 ≤ u ∧ u + L < n)) : botU w n i L (u + 1) a b ↔ botU w n i L u a b :=
  ⟨fun ⟨x, h1, h2, h3, h4, h5⟩ => by
    rcases (by omega : x < u ∨ x = u) with z | rfl
    · exact ⟨x, h1, z, h3, h4, h5⟩
    · exact absurd ⟨h4, h1, h3⟩ h, fun ⟨x, h1, h2, h3⟩ => ⟨x, h1, by omega, h3⟩⟩
theorem bot_yes {w : Int → Int} {n i L u a b : Int} (h : eqs w i u L) (h1 : 1 ≤ u) (h2 : u + L < n) : botU w n i L (u + 1) a b ↔ botU w n i L u a b ∨ (a = w (u - 1) ∧ b = w (u + L)) :=
  ⟨fun ⟨x, h1, h2, h3, h4, h5⟩ => by
    rcases (by omega : x < u ∨ x = u) with z | rfl
    · exact Or.inl ⟨x, h1, z, h3, h4, h5⟩
    · exact Or.inr ⟨h5.1.symm, h5.2.symm⟩, fun g => by
    rcases g with ⟨x, g1, g2, g3⟩ | ⟨rfl, rfl⟩
    · exact ⟨x, g1, by omega, g3⟩
    · exact ⟨u, h1, by omega, h2, h, rfl, rfl⟩⟩
/-- rows of yes and no -/
def bR (f : Int → Int) (P : Int → Prop) (m : Int) : Prop := ∀ c, 0 ≤ c → c < m → f c = bi (P c)
theorem bR_iff {f : Int → Int} {P P' : Int → Prop} {m : Int} (h : bR f P m) (hp : ∀ c, P' c ↔ P c) : bR f P' m := fun c h0 h1 => by rw [h c h0 h1, bi_congr (hp c)]
theorem bR_upd {f g : Int → Int} {P P' : Int → Prop} {m k : Int} (h : bR f P m) (hg : ∀ c, g c = if c = k then 1 else f c) (hp : ∀ c, P' c ↔ P c ∨ c = k) : bR g P' m := fun c h0 h1 => by
  rw [hg c]
  split
  · next e => rw [bi_1 ((hp c).mpr (Or.inr e))]
  · next e => rw [h c h0 h1]; exact bi_congr ⟨fun z => (hp c).mpr (Or.inl z), fun z => ((hp c).mp z).resolve_right e⟩
def bR2 (f : Int → Int) (P : Int → Int → Prop) : Prop := ∀ a b, 0 ≤ a → a < 26 → 0 ≤ b → b < 26 → f (26 * a + b) = bi (P a b)
theorem bR2_iff {f : Int → Int} {P P' : Int → Int → Prop} (h : bR2 f P) (hp : ∀ a b, P' a b ↔ P a b) : bR2 f P' := fun a b h0 h1 h2 h3 => by rw [h a b h0 h1 h2 h3, bi_congr (hp a b)]
theorem bR2_upd {f g : Int → Int} {P P' : Int → Int → Prop} {k j : Int} (h : bR2 f P) (k0 : 0 ≤ k) (k1 : k < 26) (j0 : 0 ≤ j) (j1 : j < 26) (hg : ∀ c, g c = if c = 26 * k + j then 1 else f c) (hp : ∀ a b, P' a b ↔ P a b ∨ (a = k ∧ b = j)) : bR2 g P' := fun a b h0 h1 h2 h3 => by
  rw [hg]
  split
  · next e => rw [bi_1 ((hp a b).mpr (Or.inr (by omega)))]
  · next e => rw [h a b h0 h1 h2 h3]; exact bi_congr ⟨fun z => (hp a b).mpr (Or.inl z), fun z => ((hp a b).mp z).resolve_right (fun y => e (by rw [y.1, y.2]))⟩
def S_Mo_isOnce : GS := fun as σ K => match as with
  | [some (.inr (.inr (12, 0))), some (.inl a1), some (.inl a2)] => (MoW σ ∧ 0 ≤ a1 ∧ 0 ≤ a2 ∧ a1 + a2 ≤ (σ 40 0 0)) ∧ bS (if a2 = 0 then a1 = 0 else ¬ isE (mW σ) a1 a2) K σ
  | _ => False
def VE_Mo_isOnce (a1 : Int) (a2 : Int) (σ : SS) (K : AV → SS → Prop) : Prop :=
  ((a2 ≠ 0 →
    (S_Mo_isEarlier [vR 12 0, vI a1, vI a2] σ (kI fun r1 σ1 =>
      ((r1 ≠ 0 →
        ((0 ≤ (0 : Int) ∧ (0 : Int) ≤ 1) ∧ K (vI 0) σ1)) ∧
      (r1 = 0 →
        ((0 ≤ (1 : Int) ∧ (1 : Int) ≤ 1) ∧ K (vI 1) σ1)))))) ∧
  (a2 = 0 →
    ((a1 ≠ 0 →
      ((0 ≤ (0 : Int) ∧ (0 : Int) ≤ 1) ∧ K (vI 0) σ)) ∧
    (a1 = 0 →
      ((0 ≤ (1 : Int) ∧ (1 : Int) ≤ 1) ∧ K (vI 1) σ)))))
theorem e_Mo_isOnce (a1 : Int) (a2 : Int) (σ : SS) (K : AV → SS → Prop) (ha1 : InR a1) (ha2 : InR a2) (hs : okS σ) (hG : S_Mo_isOnce [vR 12 0, vI a1, vI a2] σ K) : VE_Mo_isOnce a1 a2 σ K := by
  unfold VE_Mo_isOnce
  obtain ⟨h1, hG⟩ := hG
  refine ⟨fun h => ?_, fun h => ?_⟩
  · rw [if_neg h] at hG
    exact ⟨h1, bS_b1 (fun p _ => bS_n hG (fun z => z p)) (fun p _ => bS_y hG p)⟩
  · rw [if_pos h] at hG
    exact ⟨fun h => bS_n hG h, fun h => bS_y hG h⟩
theorem H_Mo_isOnce {d : Nat} (hd : 5 ≤ d) : Holds d I_Mo_isOnce S_Mo_isOnce := by
  refine holds_of (d' := d - 1) (rt := 2) (cal := [(I_Mo_isEarlier, S_Mo_isEarlier)]) (C := C_Mo_isOnce) m_Mo_isOnce o_Mo_isOnce rfl rfl (by omega) ?_ ?_
  · intro x hx
    simp only [List.mem_cons, List.not_mem_nil, or_false] at hx
    subst hx
    exact H_Mo_isEarlier (by omega)
  · intro as σ K has hσ hG
    have hG2 := hG
    unfold S_Mo_isOnce at hG2
    split at hG2
    · next a1 a2 =>
      refine ⟨Nat.le_of_ble_eq_true rfl, (fun _ => none), ?_, 1000, ?_⟩
      · intro k n z L σ' hk hL hs hP
        cases hk
      · exact e_Mo_isOnce a1 a2 σ K (has _ (List.mem_of_getElem? (i := 1) rfl)) (has _ (List.mem_of_getElem? (i := 2) rfl)) hσ hG
    · exact hG2.elim
def S_Mo_laysAround : GS := fun as σ K => match as with
  | [some (.inr (.inr (12, 0))), some (.inl a1), some (.inl a2)] => (MoW σ ∧ 0 ≤ a1 ∧ 0 ≤ a2 ∧ a1 + a2 ≤ (σ 40 0 0)) ∧ ∀ σ', Fr AroL σ σ' → bR (σ' 56 0) (ahdU (mW σ) (σ 40 0 0) a1 a2 ((σ 40 0 0) - a2 + 1)) 26 → bR (σ' 57 0) (behU (mW σ) (σ 40 0 0) a1 a2 ((σ 40 0 0) - a2 + 1)) 26 → bR2 (σ' 58 0) (botU (mW σ) (σ 40 0 0) a1 a2 ((σ 40 0 0) - a2 + 1)) → K none σ'
  | _ => False
abbrev Lp_Mo_laysAround_2 (a1 : Int) (a2 : Int) (σ0 : SS) (n : Nat) (L : List AV) (σ : SS) : Prop := ∃ (v3 : Int), L = [vR 12 0, vI a1, vI a2, vI v3, none, none] ∧ n = (1000000 - v3).toNat ∧ ((Fr AroL σ0 σ) ∧ (0 ≤ v3) ∧ (v3 ≤ 26) ∧ (∀ c, 0 ≤ c → c < v3 → σ 56 0 c = 0 ∧ σ 57 0 c = 0))
abbrev Lp_Mo_laysAround_19 (a1 : Int) (a2 : Int) (σ0 : SS) (n : Nat) (L : List AV) (σ : SS) : Prop := ∃ (v3 : Int), L = [vR 12 0, vI a1, vI a2, vI v3, none, none] ∧ n = (100000 - v3).toNat ∧ ((Fr AroL σ0 σ) ∧ (0 ≤ v3) ∧ (v3 ≤ 676) ∧ (∀ c, 0 ≤ c → c < 26 → σ 56 0 c = 0 ∧ σ 57 0 c = 0) ∧ (∀ c, 0 ≤ c → c < v3 → σ 58 0 c = 0))
abbrev Lp_Mo_laysAround_31 (a1 : Int) (a2 : Int) (σ0 : SS) (n : Nat) (L : List AV) (σ : SS) : Prop := ∃ (v3 : Int), L = [vR 12 0, vI a1, vI a2, vI v3, none, none] ∧ n = (5 * (1000 - v3)).toNat ∧ ((Fr AroL σ0 σ) ∧ (0 ≤ v3) ∧ (v3 + a2 ≤ (σ0 40 0 0) + 1) ∧ (bR (σ 56 0) (ahdU (mW σ0) (σ0 40 0 0) a1 a2 v3) 26) ∧ (bR (σ 57 0) (behU (mW σ0) (σ0 40 0 0) a1 a2 v3) 26) ∧ (bR2 (σ 58 0) (botU (mW σ0) (σ0 40 0 0) a1 a2 v3)))
abbrev Lp_Mo_laysAround_50 (a1 : Int) (a2 : Int) (σ0 : SS) (n : Nat) (L : List AV) (σ : SS) : Prop := ∃ (v3 : Int) (v4 : Int), L = [vR 12 0, vI a1, vI a2, vI v3, vI v4, none] ∧ n = (5 * (1000 - v3) - 1).toNat ∧ ((Fr AroL σ0 σ) ∧ (0 ≤ v3) ∧ (v3 + a2 ≤ (σ0 40 0 0)) ∧ (bR (σ 56 0) (ahdU (mW σ0) (σ0 40 0 0) a1 a2 v3) 26) ∧ (bR (σ 57 0) (behU (mW σ0) (σ0 40 0 0) a1 a2 v3) 26) ∧ (bR2 (σ 58 0) (botU (mW σ0) (σ0 40 0 0) a1 a2 v3)) ∧ (eqs (mW σ0) a1 v3 a2) ∧ (v4 = bi (1 ≤ v3)))
abbrev Lp_Mo_laysAround_60 (a1 : Int) (a2 : Int) (σ0 : SS) (n : Nat) (L : List AV) (σ : SS) : Prop := ∃ (v3 : Int) (v4 : Int) (v5 : Int), L = [vR 12 0, vI a1, vI a2, vI v3, vI v4, vI v5] ∧ n = (5 * (1000 - v3) - 2).toNat ∧ ((Fr AroL σ0 σ) ∧ (0 ≤ v3) ∧ (v3 + a2 ≤ (σ0 40 0 0)) ∧ (bR (σ 56 0) (ahdU (mW σ0) (σ0 40 0 0) a1 a2 v3) 26) ∧ (bR (σ 57 0) (behU (mW σ0) (σ0 40 0 0) a1 a2 v3) 26) ∧ (bR2 (σ 58 0) (botU (mW σ0) (σ0 40 0 0) a1 a2 v3)) ∧ (eqs (mW σ0) a1 v3 a2) ∧ (v4 = bi (1 ≤ v3)) ∧ (v5 = bi (v3 + a2 < (σ0 40 0 0))))
abbrev Lp_Mo_laysAround_71 (a1 : Int) (a2 : Int) (σ0 : SS) (n : Nat) (L : List AV) (σ : SS) : Prop := ∃ (v3 : Int) (v4 : Int) (v5 : Int), L = [vR 12 0, vI a1, vI a2, vI v3, vI v4, vI v5] ∧ n = (5 * (1000 - v3) - 3).toNat ∧ ((Fr AroL σ0 σ) ∧ (0 ≤ v3) ∧ (v3 + a2 ≤ (σ0 40 0 0)) ∧ (bR (σ 56 0) (ahdU (mW σ0) (σ0 40 0 0) a1 a2 (v3 + 1)) 26) ∧ (bR (σ 57 0) (behU (mW σ0) (σ0 40 0 0) a1 a2 v3) 26) ∧ (bR2 (σ 58 0) (botU (mW σ0) (σ0 40 0 0) a1 a2 v3)) ∧ (eqs (mW σ0) a1 v3 a2) ∧ (v4 = bi (1 ≤ v3)) ∧ (v5 = bi (v3 + a2 < (σ0 40 0 0))))
abbrev Lp_Mo_laysAround_82 (a1 : Int) (a2 : Int) (σ0 : SS) (n : Nat) (L : List AV) (σ : SS) : Prop := ∃ (v3 : Int) (v4 : Int) (v5 : Int), L = [vR 12 0, vI a1, vI a2, vI v3, vI v4, vI v5] ∧ n = (5 * (1000 - v3) - 4).toNat ∧ ((Fr AroL σ0 σ) ∧ (0 ≤ v3) ∧ (v3 + a2 ≤ (σ0 40 0 0)) ∧ (bR (σ 56 0) (ahdU (mW σ0) (σ0 40 0 0) a1 a2 (v3 + 1)) 26) ∧ (bR (σ 57 0) (behU (mW σ0) (σ0 40 0 0) a1 a2 (v3 + 1)) 26) ∧ (bR2 (σ 58 0) (botU (mW σ0) (σ0 40 0 0) a1 a2 v3)) ∧ (eqs (mW σ0) a1 v3 a2) ∧ (v4 = bi (1 ≤ v3)) ∧ (v5 = bi (v3 + a2 < (σ0 40 0 0))))
def Iv_Mo_laysAround (a1 : Int) (a2 : Int) (σ0 : SS) (k : Nat) : Option (List Nat × (Nat → List AV → SS → Prop)) := match k with
  | 2 => some ([], Lp_Mo_laysAround_2 a1 a2 σ0)
  | 19 => some ([], Lp_Mo_laysAround_19 a1 a2 σ0)
  | 31 => some ([4, 5], Lp_Mo_laysAround_31 a1 a2 σ0)
  | 50 => some ([5], Lp_Mo_laysAround_50 a1 a2 σ0)
  | 60 => some ([], Lp_Mo_laysAround_60 a1 a2 σ0)
  | 71 => some ([], Lp_Mo_laysAround_71 a1 a2 σ0)
  | 82 => some ([], Lp_Mo_laysAround_82 a1 a2 σ0)
  | _ => none
def VE_Mo_laysAround (a1 : Int) (a2 : Int) (σ : SS) (K : AV → SS → Prop) : Prop :=
  (∃ n', Lp_Mo_laysAround_2 a1 a2 σ n' [vR 12 0, vI a1, vI a2, vI 0, none, none] σ)
def VL_Mo_laysAround_2 (a1 : Int) (a2 : Int) (σ0 : SS) (K : AV → SS → Prop) (v3 : Int) (σ : SS) (n : Nat) : Prop :=
  (((26 : Int) ≤ v3 →
    (∃ n', n' < n ∧ Lp_Mo_laysAround_19 a1 a2 σ0 n' [vR 12 0, vI a1, vI a2, vI 0, none, none] σ)) ∧
  (v3 < 26 →
    (((0 ≤ (v3 : Int) ∧ (v3 : Int) < 26) ∧ 0 ≤ (0 : Int) ∧ (0 : Int) ≤ 1) ∧ ∀ σ1 : SS, σ1 = u3 σ 56 0 v3 0 →
    (((0 ≤ (v3 : Int) ∧ (v3 : Int) < 26) ∧ 0 ≤ (0 : Int) ∧ (0 : Int) ≤ 1) ∧ ∀ σ2 : SS, σ2 = u3 σ1 57 0 v3 0 →
    (InR (v3 + 1) ∧
    (∃ n', n' < n ∧ Lp_Mo_laysAround_2 a1 a2 σ0 n' [vR 12 0, vI a1, vI a2, vI (v3 + 1), none, none] σ2))))))
def VL_Mo_laysAround_19 (a1 : Int) (a2 : Int) (σ0 : SS) (K : AV → SS → Prop) (v3 : Int) (σ : SS) (n : Nat) : Prop :=
  (((676 : Int) ≤ v3 →
    (∃ n', n' < n ∧ Lp_Mo_laysAround_31 a1 a2 σ0 n' [vR 12 0, vI a1, vI a2, vI 0, none, none] σ)) ∧
  (v3 < 676 →
    (((0 ≤ (v3 : Int) ∧ (v3 : Int) < 676) ∧ 0 ≤ (0 : Int) ∧ (0 : Int) ≤ 1) ∧ ∀ σ1 : SS, σ1 = u3 σ 58 0 v3 0 →
    (InR (v3 + 1) ∧
    (∃ n', n' < n ∧ Lp_Mo_laysAround_19 a1 a2 σ0 n' [vR 12 0, vI a1, vI a2, vI (v3 + 1), none, none] σ1)))))
def VL_Mo_laysAround_31 (a1 : Int) (a2 : Int) (σ0 : SS) (K : AV → SS → Prop) (v3 : Int) (σ : SS) (n : Nat) : Prop :=
  (InR (v3 + a2) ∧
  (S_Mo_size [vR 12 0] σ (kI fun r1 σ1 =>
    ((r1 < (v3 + a2) →
      (K none σ1)) ∧
    ((v3 + a2) ≤ r1 →
      (S_Mo_areAlike [vR 12 0, vI a1, vI v3, vI a2] σ1 (kI fun r2 σ2 =>
        ((r2 ≠ 0 →
          ((v3 ≤ 0 →
            (∃ n', n' < n ∧ Lp_Mo_laysAround_50 a1 a2 σ0 n' [vR 12 0, vI a1, vI a2, vI v3, vI 0, none] σ2)) ∧
          ((0 : Int) < v3 →
            (∃ n', n' < n ∧ Lp_Mo_laysAround_50 a1 a2 σ0 n' [vR 12 0, vI a1, vI a2, vI v3, vI 1, none] σ2)))) ∧
        (r2 = 0 →
          (InR (v3 + 1) ∧
          (∃ n', n' < n ∧ Lp_Mo_laysAround_31 a1 a2 σ0 n' [vR 12 0, vI a1, vI a2, vI (v3 + 1), none, none] σ2)))))))))))
def VL_Mo_laysAround_50 (a1 : Int) (a2 : Int) (σ0 : SS) (K : AV → SS → Prop) (v3 : Int) (v4 : Int) (σ : SS) (n : Nat) : Prop :=
  (InR (v3 + a2) ∧
  (S_Mo_size [vR 12 0] σ (kI fun r1 σ1 =>
    ((r1 ≤ (v3 + a2) →
      (∃ n', n' < n ∧ Lp_Mo_laysAround_60 a1 a2 σ0 n' [vR 12 0, vI a1, vI a2, vI v3, vI v4, vI 0] σ1)) ∧
    ((v3 + a2) < r1 →
      (∃ n', n' < n ∧ Lp_Mo_laysAround_60 a1 a2 σ0 n' [vR 12 0, vI a1, vI a2, vI v3, vI v4, vI 1] σ1))))))
def VL_Mo_laysAround_60 (a1 : Int) (a2 : Int) (σ0 : SS) (K : AV → SS → Prop) (v3 : Int) (v4 : Int) (v5 : Int) (σ : SS) (n : Nat) : Prop :=
  ((v4 = 0 →
    (∃ n', n' < n ∧ Lp_Mo_laysAround_71 a1 a2 σ0 n' [vR 12 0, vI a1, vI a2, vI v3, vI v4, vI v5] σ)) ∧
  (v4 ≠ 0 →
    (InR (v3 - 1) ∧
    (S_Mo_at [vR 12 0, vI (v3 - 1)] σ (kI fun r1 σ1 =>
      (((0 ≤ (r1 : Int) ∧ (r1 : Int) < 26) ∧ 0 ≤ (1 : Int) ∧ (1 : Int) ≤ 1) ∧ ∀ σ2 : SS, σ2 = u3 σ1 56 0 r1 1 →
      (∃ n', n' < n ∧ Lp_Mo_laysAround_71 a1 a2 σ0 n' [vR 12 0, vI a1, vI a2, vI v3, vI v4, vI v5] σ2)))))))
def VL_Mo_laysAround_71 (a1 : Int) (a2 : Int) (σ0 : SS) (K : AV → SS → Prop) (v3 : Int) (v4 : Int) (v5 : Int) (σ : SS) (n : Nat) : Prop :=
  ((v5 = 0 →
    (∃ n', n' < n ∧ Lp_Mo_laysAround_82 a1 a2 σ0 n' [vR 12 0, vI a1, vI a2, vI v3, vI v4, vI v5] σ)) ∧
  (v5 ≠ 0 →
    (InR (v3 + a2) ∧
    (S_Mo_at [vR 12 0, vI (v3 + a2)] σ (kI fun r1 σ1 =>
      (((0 ≤ (r1 : Int) ∧ (r1 : Int) < 26) ∧ 0 ≤ (1 : Int) ∧ (1 : Int) ≤ 1) ∧ ∀ σ2 : SS, σ2 = u3 σ1 57 0 r1 1 →
      (∃ n', n' < n ∧ Lp_Mo_laysAround_82 a1 a2 σ0 n' [vR 12 0, vI a1, vI a2, vI v3, vI v4, vI v5] σ2)))))))
def VL_Mo_laysAround_82 (a1 : Int) (a2 : Int) (σ0 : SS) (K : AV → SS → Prop) (v3 : Int) (v4 : Int) (v5 : Int) (σ : SS) (n : Nat) : Prop :=
  ((v4 = 0 →
    (InR (v3 + 1) ∧
    (∃ n', n' < n ∧ Lp_Mo_laysAround_31 a1 a2 σ0 n' [vR 12 0, vI a1, vI a2, vI (v3 + 1), none, none] σ))) ∧
  (v4 ≠ 0 →
    ((v5 = 0 →
      (InR (v3 + 1) ∧
      (∃ n', n' < n ∧ Lp_Mo_laysAround_31 a1 a2 σ0 n' [vR 12 0, vI a1, vI a2, vI (v3 + 1), none, none] σ))) ∧
    (v5 ≠ 0 →
      (InR (v3 - 1) ∧
      (S_Mo_at [vR 12 0, vI (v3 - 1)] σ (kI fun r1 σ1 =>
        (InR (26 * r1) ∧
        (InR (v3 + a2) ∧
        (S_Mo_at [vR 12 0, vI (v3 + a2)] σ1 (kI fun r2 σ2 =>
          (InR ((26 * r1) + r2) ∧
          (((0 ≤ ((26 * r1) + r2 : Int) ∧ ((26 * r1) + r2 : Int) < 676) ∧ 0 ≤ (1 : Int) ∧ (1 : Int) ≤ 1) ∧ ∀ σ3 : SS, σ3 = u3 σ2 58 0 ((26 * r1) + r2) 1 →
          (InR (v3 + 1) ∧
          (∃ n', n' < n ∧ Lp_Mo_laysAround_31 a1 a2 σ0 n' [vR 12 0, vI a1, vI a2, vI (v3 + 1), none, none] σ3)))))))))))))))
theorem l_Mo_laysAround_2 (a1 : Int) (a2 : Int) (σ0 : SS) (K : AV → SS → Prop) (ha1 : InR a1) (ha2 : InR a2) (hs0 : okS σ0) (hG : S_Mo_laysAround [vR 12 0, vI a1, vI a2] σ0 K) (v3 : Int) (σ : SS) (hv3 : InR v3) (hs : okS σ) (n : Nat) (hn : n = (1000000 - v3).toNat) (hQ : (Fr AroL σ0 σ) ∧ (0 ≤ v3) ∧ (v3 ≤ 26) ∧ (∀ c, 0 ≤ c → c < v3 → σ 56 0 c = 0 ∧ σ 57 0 c = 0)) : VL_Mo_laysAround_2 a1 a2 σ0 K v3 σ n := by
  unfold VL_Mo_laysAround_2
  obtain ⟨⟨hM, h1, h2, h3⟩, hG⟩ := hG
  obtain ⟨q1, q2, q3, q4⟩ := hQ
  refine ⟨fun c1 => ?_, fun c1 => ?_⟩
  · skip
    refine ⟨_, ?_, _, rfl, rfl, ?_⟩
    · omega
    · refine ⟨?_, ?_, ?_, ?_, ?_⟩
      · first | rfl | assumption | omega
      · first | rfl | assumption | omega
      · first | rfl | assumption | omega
      · exact fun c g1 g2 => q4 c g1 (by omega)
      · exact fun c g1 g2 => by omega
  · skip
    refine ⟨(by omega), fun σ2 e2 => ?_⟩
    refine ⟨(by omega), fun σ3 e3 => ?_⟩
    refine ⟨(by omega), ?_⟩
    refine ⟨_, ?_, _, rfl, rfl, ?_⟩
    · omega
    · refine ⟨?_, ?_, ?_, ?_⟩
      · rw [e3, e2]; exact Fr_trans q1 (Fr_trans (Fr_u3 (by simp [AroL])) (Fr_u3 (by simp [AroL])))
      · first | rfl | assumption | omega
      · first | rfl | assumption | omega
      · intro c g1 g2
        have y1 : σ3 56 0 c = if c = v3 then 0 else σ 56 0 c := by rw [e3, u3_f (by decide), e2, u3_e]
        have y2 : σ3 57 0 c = if c = v3 then 0 else σ 57 0 c := by rw [e3, u3_e, e2, u3_F (by decide)]
        rw [y1, y2]
        by_cases hc : c = v3
        · rw [if_pos hc, if_pos hc]; exact ⟨rfl, rfl⟩
        · rw [if_neg hc, if_neg hc]; exact q4 c g1 (by omega)
theorem l_Mo_laysAround_19 (a1 : Int) (a2 : Int) (σ0 : SS) (K : AV → SS → Prop) (ha1 : InR a1) (ha2 : InR a2) (hs0 : okS σ0) (hG : S_Mo_laysAround [vR 12 0, vI a1, vI a2] σ0 K) (v3 : Int) (σ : SS) (hv3 : InR v3) (hs : okS σ) (n : Nat) (hn : n = (100000 - v3).toNat) (hQ : (Fr AroL σ0 σ) ∧ (0 ≤ v3) ∧ (v3 ≤ 676) ∧ (∀ c, 0 ≤ c → c < 26 → σ 56 0 c = 0 ∧ σ 57 0 c = 0) ∧ (∀ c, 0 ≤ c → c < v3 → σ 58 0 c = 0)) : VL_Mo_laysAround_19 a1 a2 σ0 K v3 σ n := by
  unfold VL_Mo_laysAround_19
  obtain ⟨⟨hM, h1, h2, h3⟩, hG⟩ := hG
  obtain ⟨q1, q2, q3, q4, q5⟩ := hQ
  refine ⟨fun c1 => ?_, fun c1 => ?_⟩
  · skip
    refine ⟨_, ?_, _, rfl, rfl, ?_⟩
    · omega
    · refine ⟨?_, ?_, ?_, ?_, ?_, ?_⟩
      · first | rfl | assumption | omega
      · first | rfl | assumption | omega
      · first | rfl | assumption | omega
      · exact fun c g1 g2 => by rw [(q4 c g1 g2).1, bi_0]; rintro ⟨x, x1, x2, -⟩; omega
      · exact fun c g1 g2 => by rw [(q4 c g1 g2).2, bi_0]; rintro ⟨x, x1, x2, -⟩; omega
      · exact fun a b g1 g2 g3 g4 => by rw [q5 _ (by omega) (by omega), bi_0]; rintro ⟨x, x1, x2, -⟩; omega
  · skip
    refine ⟨(by omega), fun σ2 e2 => ?_⟩
    refine ⟨(by omega), ?_⟩
    refine ⟨_, ?_, _, rfl, rfl, ?_⟩
    · omega
    · refine ⟨?_, ?_, ?_, ?_, ?_⟩
      · rw [e2]; exact Fr_trans q1 (Fr_u3 (by simp [AroL]))
      · first | rfl | assumption | omega
      · first | rfl | assumption | omega
      · rw [e2, u3_F (by decide), u3_F (by decide)]; exact q4
      · intro c g1 g2
        rw [e2, u3_e]
        by_cases hc : c = v3
        · rw [if_pos hc]
        · rw [if_neg hc]; exact q5 c g1 (by omega)
theorem l_Mo_laysAround_31 (a1 : Int) (a2 : Int) (σ0 : SS) (K : AV → SS → Prop) (ha1 : InR a1) (ha2 : InR a2) (hs0 : okS σ0) (hG : S_Mo_laysAround [vR 12 0, vI a1, vI a2] σ0 K) (v3 : Int) (σ : SS) (hv3 : InR v3) (hs : okS σ) (n : Nat) (hn : n = (5 * (1000 - v3)).toNat) (hQ : (Fr AroL σ0 σ) ∧ (0 ≤ v3) ∧ (v3 + a2 ≤ (σ0 40 0 0) + 1) ∧ (bR (σ 56 0) (ahdU (mW σ0) (σ0 40 0 0) a1 a2 v3) 26) ∧ (bR (σ 57 0) (behU (mW σ0) (σ0 40 0 0) a1 a2 v3) 26) ∧ (bR2 (σ 58 0) (botU (mW σ0) (σ0 40 0 0) a1 a2 v3))) : VL_Mo_laysAround_31 a1 a2 σ0 K v3 σ n := by
  unfold VL_Mo_laysAround_31
  obtain ⟨⟨hM, h1, h2, h3⟩, hG⟩ := hG
  have hn := hM.n
  obtain ⟨q1, q2, q3, q4, q5, q6⟩ := hQ
  obtain ⟨w1, w2⟩ := aroF q1
  refine ⟨(by omega), ?_⟩
  intro _ _
  refine ⟨fun c1 => ?_, fun c1 => ?_⟩
  · skip
    have e : (σ0 40 0 0) - a2 + 1 = v3 := by omega
    rw [e] at hG
    exact hG _ q1 q4 q5 q6
  · skip
    refine ⟨(by rw [w2]; exact ⟨by omega, by omega, by omega, by omega, by omega, by omega⟩), ?_⟩
    refine bS_b1 (fun p2 _ => ?_) (fun p2 _ => ?_)
    · skip
      rw [w1] at p2
      refine ⟨fun c3 => ?_, fun c3 => ?_⟩
      · skip
        refine ⟨_, ?_, _, _, rfl, rfl, ?_⟩
        · omega
        · refine ⟨?_, ?_, ?_, ?_, ?_, ?_, ?_, ?_⟩
          · first | rfl | assumption | omega
          · first | rfl | assumption | omega
          · first | rfl | assumption | omega
          · first | rfl | assumption | omega
          · first | rfl | assumption | omega
          · first | rfl | assumption | omega
          · first | rfl | assumption | omega
          · rw [bi_0 (by omega)]
      · skip
        refine ⟨_, ?_, _, _, rfl, rfl, ?_⟩
        · omega
        · refine ⟨?_, ?_, ?_, ?_, ?_, ?_, ?_, ?_⟩
          · first | rfl | assumption | omega
          · first | rfl | assumption | omega
          · first | rfl | assumption | omega
          · first | rfl | assumption | omega
          · first | rfl | assumption | omega
          · first | rfl | assumption | omega
          · first | rfl | assumption | omega
          · rw [bi_1 (by omega)]
    · skip
      rw [w1] at p2
      refine ⟨(by omega), ?_⟩
      refine ⟨_, ?_, _, rfl, rfl, ?_⟩
      · omega
      · refine ⟨?_, ?_, ?_, ?_, ?_, ?_⟩
        · first | rfl | assumption | omega
        · first | rfl | assumption | omega
        · first | rfl | assumption | omega
        · exact bR_iff q4 (fun c => ahd_no (fun z => p2 z.1))
        · exact bR_iff q5 (fun c => beh_no (fun z => p2 z.1))
        · exact bR2_iff q6 (fun a b => bot_no (fun z => p2 z.1))
theorem l_Mo_laysAround_50 (a1 : Int) (a2 : Int) (σ0 : SS) (K : AV → SS → Prop) (ha1 : InR a1) (ha2 : InR a2) (hs0 : okS σ0) (hG : S_Mo_laysAround [vR 12 0, vI a1, vI a2] σ0 K) (v3 : Int) (v4 : Int) (σ : SS) (hv3 : InR v3) (hv4 : InR v4) (hs : okS σ) (n : Nat) (hn : n = (5 * (1000 - v3) - 1).toNat) (hQ : (Fr AroL σ0 σ) ∧ (0 ≤ v3) ∧ (v3 + a2 ≤ (σ0 40 0 0)) ∧ (bR (σ 56 0) (ahdU (mW σ0) (σ0 40 0 0) a1 a2 v3) 26) ∧ (bR (σ 57 0) (behU (mW σ0) (σ0 40 0 0) a1 a2 v3) 26) ∧ (bR2 (σ 58 0) (botU (mW σ0) (σ0 40 0 0) a1 a2 v3)) ∧ (eqs (mW σ0) a1 v3 a2) ∧ (v4 = bi (1 ≤ v3))) : VL_Mo_laysAround_50 a1 a2 σ0 K v3 v4 σ n := by
  unfold VL_Mo_laysAround_50
  obtain ⟨⟨hM, h1, h2, h3⟩, hG⟩ := hG
  have hn := hM.n
  obtain ⟨q1, q2, q3, q4, q5, q6, q7, q8⟩ := hQ
  obtain ⟨w1, w2⟩ := aroF q1
  refine ⟨(by omega), ?_⟩
  intro _ _
  refine ⟨fun c1 => ?_, fun c1 => ?_⟩
  · skip
    refine ⟨_, ?_, _, _, _, rfl, rfl, ?_⟩
    · omega
    · refine ⟨?_, ?_, ?_, ?_, ?_, ?_, ?_, ?_, ?_⟩
      · first | rfl | assumption | omega
      · first | rfl | assumption | omega
      · first | rfl | assumption | omega
      · first | rfl | assumption | omega
      · first | rfl | assumption | omega
      · first | rfl | assumption | omega
      · first | rfl | assumption | omega
      · first | rfl | assumption | omega
      · rw [bi_0 (by omega)]
  · skip
    refine ⟨_, ?_, _, _, _, rfl, rfl, ?_⟩
    · omega
    · refine ⟨?_, ?_, ?_, ?_, ?_, ?_, ?_, ?_, ?_⟩
      · first | rfl | assumption | omega
      · first | rfl | assumption | omega
      · first | rfl | assumption | omega
      · first | rfl | assumption | omega
      · first | rfl | assumption | omega
      · first | rfl | assumption | omega
      · first | rfl | assumption | omega
      · first | rfl | assumption | omega
      · rw [bi_1 (by omega)]
theorem l_Mo_laysAround_60 (a1 : Int) (a2 : Int) (σ0 : SS) (K : AV → SS → Prop) (ha1 : InR a1) (ha2 : InR a2) (hs0 : okS σ0) (hG : S_Mo_laysAround [vR 12 0, vI a1, vI a2] σ0 K) (v3 : Int) (v4 : Int) (v5 : Int) (σ : SS) (hv3 : InR v3) (hv4 : InR v4) (hv5 : InR v5) (hs : okS σ) (n : Nat) (hn : n = (5 * (1000 - v3) - 2).toNat) (hQ : (Fr AroL σ0 σ) ∧ (0 ≤ v3) ∧ (v3 + a2 ≤ (σ0 40 0 0)) ∧ (bR (σ 56 0) (ahdU (mW σ0) (σ0 40 0 0) a1 a2 v3) 26) ∧ (bR (σ 57 0) (behU (mW σ0) (σ0 40 0 0) a1 a2 v3) 26) ∧ (bR2 (σ 58 0) (botU (mW σ0) (σ0 40 0 0) a1 a2 v3)) ∧ (eqs (mW σ0) a1 v3 a2) ∧ (v4 = bi (1 ≤ v3)) ∧ (v5 = bi (v3 + a2 < (σ0 40 0 0)))) : VL_Mo_laysAround_60 a1 a2 σ0 K v3 v4 v5 σ n := by
  unfold VL_Mo_laysAround_60
  obtain ⟨⟨hM, h1, h2, h3⟩, hG⟩ := hG
  have hn := hM.n
  obtain ⟨q1, q2, q3, q4, q5, q6, q7, q8, q9⟩ := hQ
  obtain ⟨w1, w2⟩ := aroF q1
  have k1 : v4 ≠ 0 → 1 ≤ v3 := fun z => Classical.byContradiction (fun y => z (by rw [q8, bi_0 y]))
  have k2 : v4 = 0 → ¬ 1 ≤ v3 := fun z y => by rw [q8, bi_1 y] at z; omega
  refine ⟨fun c1 => ?_, fun c1 => ?_⟩
  · skip
    have k3 := k2 c1
    refine ⟨_, ?_, _, _, _, rfl, rfl, ?_⟩
    · omega
    · refine ⟨?_, ?_, ?_, ?_, ?_, ?_, ?_, ?_, ?_⟩
      · first | rfl | assumption | omega
      · first | rfl | assumption | omega
      · first | rfl | assumption | omega
      · exact bR_iff q4 (fun c => ahd_no (fun z => k3 z.2.1))
      · first | rfl | assumption | omega
      · first | rfl | assumption | omega
      · first | rfl | assumption | omega
      · first | rfl | assumption | omega
      · first | rfl | assumption | omega
  · skip
    have k3 := k1 c1
    have hl := hM.let (x := v3 - 1) (by omega) (by omega)
    refine ⟨(by omega), ?_⟩
    refine ⟨(by rw [w2]; omega), ?_⟩
    intro _ _
    rw [w1]
    refine ⟨(by omega), fun σ2 e2 => ?_⟩
    refine ⟨_, ?_, _, _, _, rfl, rfl, ?_⟩
    · omega
    · refine ⟨?_, ?_, ?_, ?_, ?_, ?_, ?_, ?_, ?_⟩
      · rw [e2]; exact Fr_trans q1 (Fr_u3 (by simp [AroL]))
      · first | rfl | assumption | omega
      · first | rfl | assumption | omega
      · exact bR_upd q4 (fun c => by rw [e2, u3_e]) (fun c => ahd_yes q7 k3 q3)
      · rw [e2, u3_F (by decide)]; exact q5
      · rw [e2, u3_F (by decide)]; exact q6
      · first | rfl | assumption | omega
      · first | rfl | assumption | omega
      · first | rfl | assumption | omega
theorem l_Mo_laysAround_71 (a1 : Int) (a2 : Int) (σ0 : SS) (K : AV → SS → Prop) (ha1 : InR a1) (ha2 : InR a2) (hs0 : okS σ0) (hG : S_Mo_laysAround [vR 12 0, vI a1, vI a2] σ0 K) (v3 : Int) (v4 : Int) (v5 : Int) (σ : SS) (hv3 : InR v3) (hv4 : InR v4) (hv5 : InR v5) (hs : okS σ) (n : Nat) (hn : n = (5 * (1000 - v3) - 3).toNat) (hQ : (Fr AroL σ0 σ) ∧ (0 ≤ v3) ∧ (v3 + a2 ≤ (σ0 40 0 0)) ∧ (bR (σ 56 0) (ahdU (mW σ0) (σ0 40 0 0) a1 a2 (v3 + 1)) 26) ∧ (bR (σ 57 0) (behU (mW σ0) (σ0 40 0 0) a1 a2 v3) 26) ∧ (bR2 (σ 58 0) (botU (mW σ0) (σ0 40 0 0) a1 a2 v3)) ∧ (eqs (mW σ0) a1 v3 a2) ∧ (v4 = bi (1 ≤ v3)) ∧ (v5 = bi (v3 + a2 < (σ0 40 0 0)))) : VL_Mo_laysAround_71 a1 a2 σ0 K v3 v4 v5 σ n := by
  unfold VL_Mo_laysAround_71
  obtain ⟨⟨hM, h1, h2, h3⟩, hG⟩ := hG
  have hn := hM.n
  obtain ⟨q1, q2, q3, q4, q5, q6, q7, q8, q9⟩ := hQ
  obtain ⟨w1, w2⟩ := aroF q1
  have k1 : v5 ≠ 0 → v3 + a2 < (σ0 40 0 0) := fun z => Classical.byContradiction (fun y => z (by rw [q9, bi_0 y]))
  have k2 : v5 = 0 → ¬ v3 + a2 < (σ0 40 0 0) := fun z y => by rw [q9, bi_1 y] at z; omega
  refine ⟨fun c1 => ?_, fun c1 => ?_⟩
  · skip
    have k3 := k2 c1
    refine ⟨_, ?_, _, _, _, rfl, rfl, ?_⟩
    · omega
    · refine ⟨?_, ?_, ?_, ?_, ?_, ?_, ?_, ?_, ?_⟩
      · first | rfl | assumption | omega
      · first | rfl | assumption | omega
      · first | rfl | assumption | omega
      · first | rfl | assumption | omega
      · exact bR_iff q5 (fun c => beh_no (fun z => k3 z.2))
      · first | rfl | assumption | omega
      · first | rfl | assumption | omega
      · first | rfl | assumption | omega
      · first | rfl | assumption | omega
  · skip
    have k3 := k1 c1
    have hl := hM.let (x := v3 + a2) (by omega) (by omega)
    refine ⟨(by omega), ?_⟩
    refine ⟨(by rw [w2]; omega), ?_⟩
    intro _ _
    rw [w1]
    refine ⟨(by omega), fun σ2 e2 => ?_⟩
    refine ⟨_, ?_, _, _, _, rfl, rfl, ?_⟩
    · omega
    · refine ⟨?_, ?_, ?_, ?_, ?_, ?_, ?_, ?_, ?_⟩
      · rw [e2]; exact Fr_trans q1 (Fr_u3 (by simp [AroL]))
      · first | rfl | assumption | omega
      · first | rfl | assumption | omega
      · rw [e2, u3_F (by decide)]; exact q4
      · exact bR_upd q5 (fun c => by rw [e2, u3_e]) (fun c => beh_yes q7 q2 k3)
      · rw [e2, u3_F (by decide)]; exact q6
      · first | rfl | assumption | omega
      · first | rfl | assumption | omega
      · first | rfl | assumption | omega
theorem l_Mo_laysAround_82 (a1 : Int) (a2 : Int) (σ0 : SS) (K : AV → SS → Prop) (ha1 : InR a1) (ha2 : InR a2) (hs0 : okS σ0) (hG : S_Mo_laysAround [vR 12 0, vI a1, vI a2] σ0 K) (v3 : Int) (v4 : Int) (v5 : Int) (σ : SS) (hv3 : InR v3) (hv4 : InR v4) (hv5 : InR v5) (hs : okS σ) (n : Nat) (hn : n = (5 * (1000 - v3) - 4).toNat) (hQ : (Fr AroL σ0 σ) ∧ (0 ≤ v3) ∧ (v3 + a2 ≤ (σ0 40 0 0)) ∧ (bR (σ 56 0) (ahdU (mW σ0) (σ0 40 0 0) a1 a2 (v3 + 1)) 26) ∧ (bR (σ 57 0) (behU (mW σ0) (σ0 40 0 0) a1 a2 (v3 + 1)) 26) ∧ (bR2 (σ 58 0) (botU (mW σ0) (σ0 40 0 0) a1 a2 v3)) ∧ (eqs (mW σ0) a1 v3 a2) ∧ (v4 = bi (1 ≤ v3)) ∧ (v5 = bi (v3 + a2 < (σ0 40 0 0)))) : VL_Mo_laysAround_82 a1 a2 σ0 K v3 v4 v5 σ n := by
  unfold VL_Mo_laysAround_82
  obtain ⟨⟨hM, h1, h2, h3⟩, hG⟩ := hG
  have hn := hM.n
  obtain ⟨q1, q2, q3, q4, q5, q6, q7, q8, q9⟩ := hQ
  obtain ⟨w1, w2⟩ := aroF q1
  have k1 : v4 ≠ 0 → 1 ≤ v3 := fun z => Classical.byContradiction (fun y => z (by rw [q8, bi_0 y]))
  have k2 : v4 = 0 → ¬ 1 ≤ v3 := fun z y => by rw [q8, bi_1 y] at z; omega
  have k3 : v5 ≠ 0 → v3 + a2 < (σ0 40 0 0) := fun z => Classical.byContradiction (fun y => z (by rw [q9, bi_0 y]))
  have k4 : v5 = 0 → ¬ v3 + a2 < (σ0 40 0 0) := fun z y => by rw [q9, bi_1 y] at z; omega
  refine ⟨fun c1 => ?_, fun c1 => ?_⟩
  · skip
    refine ⟨(by omega), ?_⟩
    refine ⟨_, ?_, _, rfl, rfl, ?_⟩
    · omega
    · refine ⟨?_, ?_, ?_, ?_, ?_, ?_⟩
      · first | rfl | assumption | omega
      · first | rfl | assumption | omega
      · first | rfl | assumption | omega
      · first | rfl | assumption | omega
      · first | rfl | assumption | omega
      · exact bR2_iff q6 (fun a b => bot_no (fun z => k2 c1 z.2.1))
  · skip
    have k5 := k1 c1
    have hl := hM.let (x := v3 - 1) (by omega) (by omega)
    refine ⟨fun c2 => ?_, fun c2 => ?_⟩
    · skip
      refine ⟨(by omega), ?_⟩
      refine ⟨_, ?_, _, rfl, rfl, ?_⟩
      · omega
      · refine ⟨?_, ?_, ?_, ?_, ?_, ?_⟩
        · first | rfl | assumption | omega
        · first | rfl | assumption | omega
        · first | rfl | assumption | omega
        · first | rfl | assumption | omega
        · first | rfl | assumption | omega
        · exact bR2_iff q6 (fun a b => bot_no (fun z => k4 c2 z.2.2))
    · skip
      have k6 := k3 c2
      have hl2 := hM.let (x := v3 + a2) (by omega) (by omega)
      refine ⟨(by omega), ?_⟩
      refine ⟨(by rw [w2]; omega), ?_⟩
      intro _ _
      rw [w1]
      refine ⟨(by omega), ?_⟩
      refine ⟨(by omega), ?_⟩
      refine ⟨(by rw [w2]; omega), ?_⟩
      intro _ _
      rw [w1]
      refine ⟨(by omega), ?_⟩
      refine ⟨(by omega), fun σ3 e3 => ?_⟩
      refine ⟨(by omega), ?_⟩
      refine ⟨_, ?_, _, rfl, rfl, ?_⟩
      · omega
      · refine ⟨?_, ?_, ?_, ?_, ?_, ?_⟩
        · rw [e3]; exact Fr_trans q1 (Fr_u3 (by simp [AroL]))
        · first | rfl | assumption | omega
        · first | rfl | assumption | omega
        · rw [e3, u3_F (by decide)]; exact q4
        · rw [e3, u3_F (by decide)]; exact q5
        · exact bR2_upd q6 hl.1 hl.2 hl2.1 hl2.2 (fun c => by rw [e3, u3_e]) (fun a b => bot_yes q7 k5 k6)
theorem e_Mo_laysAround (a1 : Int) (a2 : Int) (σ : SS) (K : AV → SS → Prop) (ha1 : InR a1) (ha2 : InR a2) (hs : okS σ) (hG : S_Mo_laysAround [vR 12 0, vI a1, vI a2] σ K) : VE_Mo_laysAround a1 a2 σ K := by
  unfold VE_Mo_laysAround
  obtain ⟨⟨hM, h1, h2, h3⟩, hG⟩ := hG
  refine ⟨_, _, rfl, rfl, ?_⟩
  refine ⟨?_, ?_, ?_, ?_⟩
  · exact Fr_refl
  · first | rfl | assumption | omega
  · first | rfl | assumption | omega
  · exact fun c g1 g2 => by omega
theorem H_Mo_laysAround {d : Nat} (hd : 4 ≤ d) : Holds d I_Mo_laysAround S_Mo_laysAround := by
  refine holds_of (d' := d - 1) (rt := 0) (cal := [(I_Mo_size, S_Mo_size), (I_Mo_areAlike, S_Mo_areAlike), (I_Mo_at, S_Mo_at)]) (C := C_Mo_laysAround) m_Mo_laysAround o_Mo_laysAround rfl rfl (by omega) ?_ ?_
  · intro x hx
    simp only [List.mem_cons, List.not_mem_nil, or_false] at hx
    rcases hx with rfl | rfl | rfl
    · exact H_Mo_size (by omega)
    · exact H_Mo_areAlike (by omega)
    · exact H_Mo_at (by omega)
  · intro as σ K has hσ hG
    have hG2 := hG
    unfold S_Mo_laysAround at hG2
    split at hG2
    · next a1 a2 =>
      refine ⟨Nat.le_of_ble_eq_true rfl, (Iv_Mo_laysAround a1 a2 σ), ?_, 1000, ?_⟩
      · intro k n z L σ' hk hL hs hP
        unfold Iv_Mo_laysAround at hk
        split at hk
        · cases hk
          obtain ⟨v3, rfl, hn, hQ⟩ := hP
          exact ⟨1000, l_Mo_laysAround_2 a1 a2 σ K (has _ (List.mem_of_getElem? (i := 1) rfl)) (has _ (List.mem_of_getElem? (i := 2) rfl)) hσ hG v3 σ' (hL _ (List.mem_of_getElem? (i := 3) rfl)) hs n hn hQ⟩
        · cases hk
          obtain ⟨v3, rfl, hn, hQ⟩ := hP
          exact ⟨1000, l_Mo_laysAround_19 a1 a2 σ K (has _ (List.mem_of_getElem? (i := 1) rfl)) (has _ (List.mem_of_getElem? (i := 2) rfl)) hσ hG v3 σ' (hL _ (List.mem_of_getElem? (i := 3) rfl)) hs n hn hQ⟩
        · cases hk
          obtain ⟨v3, rfl, hn, hQ⟩ := hP
          exact ⟨1000, l_Mo_laysAround_31 a1 a2 σ K (has _ (List.mem_of_getElem? (i := 1) rfl)) (has _ (List.mem_of_getElem? (i := 2) rfl)) hσ hG v3 σ' (hL _ (List.mem_of_getElem? (i := 3) rfl)) hs n hn hQ⟩
        · cases hk
          obtain ⟨v3, v4, rfl, hn, hQ⟩ := hP
          exact ⟨1000, l_Mo_laysAround_50 a1 a2 σ K (has _ (List.mem_of_getElem? (i := 1) rfl)) (has _ (List.mem_of_getElem? (i := 2) rfl)) hσ hG v3 v4 σ' (hL _ (List.mem_of_getElem? (i := 3) rfl)) (hL _ (List.mem_of_getElem? (i := 4) rfl)) hs n hn hQ⟩
        · cases hk
          obtain ⟨v3, v4, v5, rfl, hn, hQ⟩ := hP
          exact ⟨1000, l_Mo_laysAround_60 a1 a2 σ K (has _ (List.mem_of_getElem? (i := 1) rfl)) (has _ (List.mem_of_getElem? (i := 2) rfl)) hσ hG v3 v4 v5 σ' (hL _ (List.mem_of_getElem? (i := 3) rfl)) (hL _ (List.mem_of_getElem? (i := 4) rfl)) (hL _ (List.mem_of_getElem? (i := 5) rfl)) hs n hn hQ⟩
        · cases hk
          obtain ⟨v3, v4, v5, rfl, hn, hQ⟩ := hP
          exact ⟨1000, l_Mo_laysAround_71 a1 a2 σ K (has _ (List.mem_of_getElem? (i := 1) rfl)) (has _ (List.mem_of_getElem? (i := 2) rfl)) hσ hG v3 v4 v5 σ' (hL _ (List.mem_of_getElem? (i := 3) rfl)) (hL _ (List.mem_of_getElem? (i := 4) rfl)) (hL _ (List.mem_of_getElem? (i := 5) rfl)) hs n hn hQ⟩
        · cases hk
          obtain ⟨v3, v4, v5, rfl, hn, hQ⟩ := hP
          exact ⟨1000, l_Mo_laysAround_82 a1 a2 σ K (has _ (List.mem_of_getElem? (i := 1) rfl)) (has _ (List.mem_of_getElem? (i := 2) rfl)) hσ hG v3 v4 v5 σ' (hL _ (List.mem_of_getElem? (i := 3) rfl)) (hL _ (List.mem_of_getElem? (i := 4) rfl)) (hL _ (List.mem_of_getElem? (i := 5) rfl)) hs n hn hQ⟩
        · cases hk
      · exact e_Mo_laysAround a1 a2 σ K (has _ (List.mem_of_getElem? (i := 1) rfl)) (has _ (List.mem_of_getElem? (i := 2) rfl)) hσ hG
    · exact hG2.elim
theorem sumZ_one {f g : Int → Int} {a b k d : Int} (h0 : a ≤ k) (h1 : k < b) (hk : g k = f k + d) (ho : ∀ x, a ≤ x → x < b → x ≠ k → g x = f x) : sumZ g a b = sumZ f a b + d := by
  rw [sumZ_split (f := g) (b := k) h0 (by omega : k ≤ b), sumZ_split (f := f) (b := k) h0 (by omega : k ≤ b), sumZ_split (f := g) (b := k + 1) (by omega) (by omega : k + 1 ≤ b), sumZ_split (f := f) (b := k + 1) (by omega) (by omega : k + 1 ≤ b),
    sumZ_succ (f := g) (Int.le_refl k), sumZ_succ (f := f) (Int.le_refl k), sumZ_nil (Int.le_refl k), sumZ_nil (Int.le_refl k), sumZ_congr (f := g) (g := f) (a := a) (b := k) (fun x g1 g2 => ho x g1 (by omega) (by omega)), sumZ_congr (f := g) (g := f) (a := k + 1) (b := b) (fun x g1 g2 => ho x (by omega) g2 (by omega)), hk]
  omega
noncomputable def iT (P : Prop) (x : Int) : Int := @ite Int P (Classical.propDecidable P) x 0
theorem iT_y {P : Prop} {x : Int} (h : P) : iT P x = x := if_pos h
theorem iT_n {P : Prop} {x : Int} (h : ¬ P) : iT P x = 0 := if_neg h
theorem iT_1 {P : Prop} : iT P 1 = bi P := rfl
theorem iT_congr {P Q : Prop} {x : Int} (h : P ↔ Q) : iT P x = iT Q x := by rw [propext h]
def fstP (w : Int → Int) (x : Int) : Prop := ∀ y, 0 ≤ y → y < x → w y ≠ w x
def occ (w : Int → Int) (m c : Int) : Prop := ∃ y, 0 ≤ y ∧ y < m ∧ w y = c
theorem occ_s {w : Int → Int} {m c : Int} (hm : 0 ≤ m) : occ w (m + 1) c ↔ occ w m c ∨ c = w m :=
  ⟨fun ⟨y, y0, y1, y2⟩ => by
    rcases (by omega : y < m ∨ y = m) with z | rfl
    · exact Or.inl ⟨y, y0, z, y2⟩
    · exact Or.inr y2.symm, fun h => by
    rcases h with ⟨y, y0, y1, y2⟩ | rfl
    · exact ⟨y, y0, by omega, y2⟩
    · exact ⟨m, hm, by omega, rfl⟩⟩
/-- over the places where a letter first comes, over the letters that come -/
theorem fst_sum {w f : Int → Int} {m : Int} (hm : 0 ≤ m) (hw : ∀ x, 0 ≤ x → x < m → 0 ≤ w x ∧ w x < 26) : sumZ (fun x => iT (fstP w x) (f (w x))) 0 m = sumZ (fun c => iT (occ w m c) (f c)) 0 26 := by
  have key : ∀ k : Nat, (k : Int) ≤ m → sumZ (fun x => iT (fstP w x) (f (w x))) 0 k = sumZ (fun c => iT (occ w k c) (f c)) 0 26 := by
    intro k
    induction k with
    | zero => exact fun _ => by rw [sumZ_nil (by omega), sumZ_zero (fun x _ _ => iT_n (fun ⟨y, y0, y1, _⟩ => by omega))]
    | succ k ih =>
      intro hk
      have hl := hw k (by omega) (by omega)
      rw [show ((k + 1 : Nat) : Int) = (k : Int) + 1 by omega, sumZ_succ (by omega), ih (by omega)]
      refine (sumZ_one (k := w k) hl.1 hl.2 ?_ (fun c _ _ hc => iT_congr ⟨fun z => ((occ_s (by omega)).mp z).resolve_right hc, fun z => (occ_s (by omega)).mpr (Or.inl z)⟩)).symm
      rw [iT_y ((occ_s (by omega)).mpr (Or.inr rfl))]
      by_cases h : fstP w k
      · rw [iT_y h, iT_n (fun ⟨y, y0, y1, y2⟩ => h y y0 y1 y2)]
        omega
      · have : occ w k (w k) := Classical.byContradiction (fun z => h (fun y y0 y1 y2 => z ⟨y, y0, y1, y2⟩))
        rw [iT_n h, iT_y this]
        omega
  have := key m.toNat (by omega)
  rwa [show ((m.toNat : Nat) : Int) = m by omega] at this
theorem fst_cnt {w : Int → Int} {m : Int} (hm : 0 ≤ m) (hw : ∀ x, 0 ≤ x → x < m → 0 ≤ w x ∧ w x < 26) : cntZ (fstP w) 0 m = cntZ (occ w m) 0 26 := fst_sum (f := fun _ => 1) hm hw
def S_Mo_isIn : GS := fun as σ K => match as with
  | [some (.inr (.inr (12, 0))), some (.inl a1), some (.inl a2), some (.inl a3)] => (MoW σ ∧ 0 ≤ a2 ∧ a3 ≤ (σ 40 0 0)) ∧ bS (∃ k, a2 ≤ k ∧ k < a3 ∧ mW σ k = a1) K σ
  | _ => False
abbrev Lp_Mo_isIn_2 (a1 : Int) (a2 : Int) (a3 : Int) (σ0 : SS) (n : Nat) (L : List AV) (σ : SS) : Prop := ∃ (v4 : Int), L = [vR 12 0, vI a1, vI a2, vI a3, vI v4] ∧ n = (1000 - v4).toNat ∧ ((σ = σ0) ∧ (a2 ≤ v4) ∧ (v4 ≤ max a2 a3) ∧ (∀ k, a2 ≤ k → k < v4 → mW σ0 k ≠ a1))
def Iv_Mo_isIn (a1 : Int) (a2 : Int) (a3 : Int) (σ0 : SS) (k : Nat) : Option (List Nat × (Nat → List AV → SS → Prop)) := match k with
  | 2 => some ([], Lp_Mo_isIn_2 a1 a2 a3 σ0)
  | _ => none
def VE_Mo_isIn (a1 : Int) (a2 : Int) (a3 : Int) (σ : SS) (K : AV → SS → Prop) : Prop :=
  (∃ n', Lp_Mo_isIn_2 a1 a2 a3 σ n' [vR 12 0, vI a1, vI a2, vI a3, vI a2] σ)
def VL_Mo_isIn_2 (a1 : Int) (a2 : Int) (a3 : Int) (σ0 : SS) (K : AV → SS → Prop) (v4 : Int) (σ : SS) (n : Nat) : Prop :=
  ((a3 ≤ v4 →
    ((0 ≤ (0 : Int) ∧ (0 : Int) ≤ 1) ∧ K (vI 0) σ)) ∧
  (v4 < a3 →
    (S_Mo_at [vR 12 0, vI v4] σ (kI fun r1 σ1 =>
      ((r1 ≠ a1 →
        (InR (v4 + 1) ∧
        (∃ n', n' < n ∧ Lp_Mo_isIn_2 a1 a2 a3 σ0 n' [vR 12 0, vI a1, vI a2, vI a3, vI (v4 + 1)] σ1))) ∧
      (r1 = a1 →
        ((0 ≤ (1 : Int) ∧ (1 : Int) ≤ 1) ∧ K (vI 1) σ1)))))))
theorem l_Mo_isIn_2 (a1 : Int) (a2 : Int) (a3 : Int) (σ0 : SS) (K : AV → SS → Prop) (ha1 : InR a1) (ha2 : InR a2) (ha3 : InR a3) (hs0 : okS σ0) (hG : S_Mo_isIn [vR 12 0, vI a1, vI a2, vI a3] σ0 K) (v4 : Int) (σ : SS) (hv4 : InR v4) (hs : okS σ) (n : Nat) (hn : n = (1000 - v4).toNat) (hQ : (σ = σ0) ∧ (a2 ≤ v4) ∧ (v4 ≤ max a2 a3) ∧ (∀ k, a2 ≤ k → k < v4 → mW σ0 k ≠ a1)) : VL_Mo_isIn_2 a1 a2 a3 σ0 K v4 σ n := by
  unfold VL_Mo_isIn_2
  obtain ⟨⟨hM, h1, h2⟩, hG⟩ := hG
  have hb := hM.n
  obtain ⟨rfl, q1, q2, q3⟩ := hQ
  refine ⟨fun c1 => ?_, fun c1 => ?_⟩
  · skip
    exact bS_n hG (fun ⟨k, g1, g2, g3⟩ => q3 k g1 (by omega) g3)
  · skip
    refine ⟨(by first | assumption | omega | exact ⟨by first | assumption | omega, by omega⟩ | exact ⟨by assumption, by omega, by omega⟩ | exact ⟨by assumption, by omega, by omega, by omega⟩ | exact ⟨by assumption, by omega, by omega, by omega, by omega⟩ | exact ⟨by assumption, by omega, by omega, by omega, by omega, by omega⟩), ?_⟩
    intro _ _
    refine ⟨fun c2 => ?_, fun c2 => ?_⟩
    · skip
      refine ⟨(by omega), ?_⟩
      refine ⟨_, ?_, _, rfl, rfl, ?_⟩
      · omega
      · refine ⟨?_, ?_, ?_, ?_⟩
        · first | rfl | assumption | omega
        · first | rfl | assumption | omega
        · first | rfl | assumption | omega
        · intro k g1 g2
          rcases (by omega : k < v4 ∨ k = v4) with z | rfl
          · exact q3 k g1 z
          · assumption
    · skip
      exact bS_y hG ⟨v4, q1, by omega, by assumption⟩
theorem e_Mo_isIn (a1 : Int) (a2 : Int) (a3 : Int) (σ : SS) (K : AV → SS → Prop) (ha1 : InR a1) (ha2 : InR a2) (ha3 : InR a3) (hs : okS σ) (hG : S_Mo_isIn [vR 12 0, vI a1, vI a2, vI a3] σ K) : VE_Mo_isIn a1 a2 a3 σ K := by
  unfold VE_Mo_isIn
  obtain ⟨⟨hM, h1, h2⟩, hG⟩ := hG
  refine ⟨_, _, rfl, rfl, ?_⟩
  refine ⟨?_, ?_, ?_, ?_⟩
  · first | rfl | assumption | omega
  · first | rfl | assumption | omega
  · first | rfl | assumption | omega
  · exact fun k g1 g2 => by omega
theorem H_Mo_isIn {d : Nat} (hd : 2 ≤ d) : Holds d I_Mo_isIn S_Mo_isIn := by
  refine holds_of (d' := d - 1) (rt := 2) (cal := [(I_Mo_at, S_Mo_at)]) (C := C_Mo_isIn) m_Mo_isIn o_Mo_isIn rfl rfl (by omega) ?_ ?_
  · intro x hx
    simp only [List.mem_cons, List.not_mem_nil, or_false] at hx
    subst hx
    exact H_Mo_at (by omega)
  · intro as σ K has hσ hG
    have hG2 := hG
    unfold S_Mo_isIn at hG2
    split at hG2
    · next a1 a2 a3 =>
      refine ⟨Nat.le_of_ble_eq_true rfl, (Iv_Mo_isIn a1 a2 a3 σ), ?_, 1000, ?_⟩
      · intro k n z L σ' hk hL hs hP
        unfold Iv_Mo_isIn at hk
        split at hk
        · cases hk
          obtain ⟨v4, rfl, hn, hQ⟩ := hP
          exact ⟨1000, l_Mo_isIn_2 a1 a2 a3 σ K (has _ (List.mem_of_getElem? (i := 1) rfl)) (has _ (List.mem_of_getElem? (i := 2) rfl)) (has _ (List.mem_of_getElem? (i := 3) rfl)) hσ hG v4 σ' (hL _ (List.mem_of_getElem? (i := 4) rfl)) hs n hn hQ⟩
        · cases hk
      · exact e_Mo_isIn a1 a2 a3 σ K (has _ (List.mem_of_getElem? (i := 1) rfl)) (has _ (List.mem_of_getElem? (i := 2) rfl)) (has _ (List.mem_of_getElem? (i := 3) rfl)) hσ hG
    · exact hG2.elim
def S_Mo_unlikeLetters : GS := fun as σ K => match as with
  | [some (.inr (.inr (12, 0)))] => MoW σ ∧ K (vI (cntZ (occ (mW σ) (σ 40 0 0)) 0 26)) σ
  | _ => False
abbrev Lp_Mo_unlikeLetters_4 (σ0 : SS) (n : Nat) (L : List AV) (σ : SS) : Prop := ∃ (v1 : Int) (v2 : Int), L = [vR 12 0, vI v1, vI v2] ∧ n = (1000 - v2).toNat ∧ ((σ = σ0) ∧ (0 ≤ v2) ∧ (v2 ≤ (σ0 40 0 0)) ∧ (v1 = cntZ (fstP (mW σ0)) 0 v2))
def Iv_Mo_unlikeLetters (σ0 : SS) (k : Nat) : Option (List Nat × (Nat → List AV → SS → Prop)) := match k with
  | 4 => some ([], Lp_Mo_unlikeLetters_4 σ0)
  | _ => none
def VE_Mo_unlikeLetters (σ : SS) (K : AV → SS → Prop) : Prop :=
  (∃ n', Lp_Mo_unlikeLetters_4 σ n' [vR 12 0, vI 0, vI 0] σ)
def VL_Mo_unlikeLetters_4 (σ0 : SS) (K : AV → SS → Prop) (v1 : Int) (v2 : Int) (σ : SS) (n : Nat) : Prop :=
  (S_Mo_size [vR 12 0] σ (kI fun r1 σ1 =>
    ((r1 ≤ v2 →
      (K (vI v1) σ1)) ∧
    (v2 < r1 →
      (S_Mo_at [vR 12 0, vI v2] σ1 (kI fun r2 σ2 =>
        (S_Mo_isIn [vR 12 0, vI r2, vI 0, vI v2] σ2 (kI fun r3 σ3 =>
          ((r3 = 0 →
            (InR (v1 + 1) ∧
            (InR (v2 + 1) ∧
            (∃ n', n' < n ∧ Lp_Mo_unlikeLetters_4 σ0 n' [vR 12 0, vI (v1 + 1), vI (v2 + 1)] σ3)))) ∧
          (r3 ≠ 0 →
            (InR (v1 + 0) ∧
            (InR (v2 + 1) ∧
            (∃ n', n' < n ∧ Lp_Mo_unlikeLetters_4 σ0 n' [vR 12 0, vI (v1 + 0), vI (v2 + 1)] σ3)))))))))))))
theorem l_Mo_unlikeLetters_4 (σ0 : SS) (K : AV → SS → Prop) (hs0 : okS σ0) (hG : S_Mo_unlikeLetters [vR 12 0] σ0 K) (v1 : Int) (v2 : Int) (σ : SS) (hv1 : InR v1) (hv2 : InR v2) (hs : okS σ) (n : Nat) (hn : n = (1000 - v2).toNat) (hQ : (σ = σ0) ∧ (0 ≤ v2) ∧ (v2 ≤ (σ0 40 0 0)) ∧ (v1 = cntZ (fstP (mW σ0)) 0 v2)) : VL_Mo_unlikeLetters_4 σ0 K v1 v2 σ n := by
  unfold VL_Mo_unlikeLetters_4
  obtain ⟨hM, hG⟩ := hG
  have hb := hM.n
  obtain ⟨rfl, q1, q2, q3⟩ := hQ
  have hin := cntZ_in (P := fstP (mW σ)) (a := 0) (b := v2)
  intro _ _
  refine ⟨fun c1 => ?_, fun c1 => ?_⟩
  · skip
    rw [← fst_cnt hb.1 (fun x g1 g2 => hM.let g1 g2), show (σ 40 0 0) = v2 by omega, ← q3] at hG
    exact hG
  · skip
    refine ⟨(by first | assumption | omega | exact ⟨by first | assumption | omega, by omega⟩ | exact ⟨by assumption, by omega, by omega⟩ | exact ⟨by assumption, by omega, by omega, by omega⟩ | exact ⟨by assumption, by omega, by omega, by omega, by omega⟩ | exact ⟨by assumption, by omega, by omega, by omega, by omega, by omega⟩), ?_⟩
    intro _ _
    refine ⟨(by first | assumption | omega | exact ⟨by first | assumption | omega, by omega⟩ | exact ⟨by assumption, by omega, by omega⟩ | exact ⟨by assumption, by omega, by omega, by omega⟩ | exact ⟨by assumption, by omega, by omega, by omega, by omega⟩ | exact ⟨by assumption, by omega, by omega, by omega, by omega, by omega⟩), ?_⟩
    refine bS_b0 (fun p2 _ => ?_) (fun p2 _ => ?_)
    · skip
      refine ⟨(by omega), ?_⟩
      refine ⟨(by omega), ?_⟩
      refine ⟨_, ?_, _, _, rfl, rfl, ?_⟩
      · omega
      · refine ⟨?_, ?_, ?_, ?_⟩
        · first | rfl | assumption | omega
        · first | rfl | assumption | omega
        · first | rfl | assumption | omega
        · rw [cntZ_no q1 (fun z => by obtain ⟨k, g1, g2, g3⟩ := p2; exact z k g1 g2 g3)]; omega
    · skip
      refine ⟨(by omega), ?_⟩
      refine ⟨(by omega), ?_⟩
      refine ⟨_, ?_, _, _, rfl, rfl, ?_⟩
      · omega
      · refine ⟨?_, ?_, ?_, ?_⟩
        · first | rfl | assumption | omega
        · first | rfl | assumption | omega
        · first | rfl | assumption | omega
        · rw [cntZ_yes q1 (fun y g1 g2 g3 => p2 ⟨y, g1, g2, g3⟩)]; omega
theorem e_Mo_unlikeLetters (σ : SS) (K : AV → SS → Prop) (hs : okS σ) (hG : S_Mo_unlikeLetters [vR 12 0] σ K) : VE_Mo_unlikeLetters σ K := by
  unfold VE_Mo_unlikeLetters
  obtain ⟨hM, hG⟩ := hG
  have hb := hM.n
  refine ⟨_, _, _, rfl, rfl, ?_⟩
  refine ⟨?_, ?_, ?_, ?_⟩
  · first | rfl | assumption | omega
  · first | rfl | assumption | omega
  · first | rfl | assumption | omega
  · exact (cntZ_nil (by omega)).symm
theorem H_Mo_unlikeLetters {d : Nat} (hd : 3 ≤ d) : Holds d I_Mo_unlikeLetters S_Mo_unlikeLetters := by
  refine holds_of (d' := d - 1) (rt := 1) (cal := [(I_Mo_size, S_Mo_size), (I_Mo_at, S_Mo_at), (I_Mo_isIn, S_Mo_isIn)]) (C := C_Mo_unlikeLetters) m_Mo_unlikeLetters o_Mo_unlikeLetters rfl rfl (by omega) ?_ ?_
  · intro x hx
    simp only [List.mem_cons, List.not_mem_nil, or_false] at hx
    rcases hx with rfl | rfl | rfl
    · exact H_Mo_size (by omega)
    · exact H_Mo_at (by omega)
    · exact H_Mo_isIn (by omega)
  · intro as σ K has hσ hG
    have hG2 := hG
    unfold S_Mo_unlikeLetters at hG2
    split at hG2
    · skip
      refine ⟨Nat.le_of_ble_eq_true rfl, (Iv_Mo_unlikeLetters σ), ?_, 1000, ?_⟩
      · intro k n z L σ' hk hL hs hP
        unfold Iv_Mo_unlikeLetters at hk
        split at hk
        · cases hk
          obtain ⟨v1, v2, rfl, hn, hQ⟩ := hP
          exact ⟨1000, l_Mo_unlikeLetters_4 σ K  hσ hG v1 v2 σ' (hL _ (List.mem_of_getElem? (i := 1) rfl)) (hL _ (List.mem_of_getElem? (i := 2) rfl)) hs n hn hQ⟩
        · cases hk
      · exact e_Mo_unlikeLetters σ K  hσ hG
    · exact hG2.elim
theorem behU_P {w : Int → Int} {n i L c : Int} (hL : 1 ≤ L) (h : ¬ isE w i L) (h0 : 0 ≤ i) : behU w n i L (n - L + 1) c ↔ behP w n i L c :=
  ⟨fun ⟨x, x0, x1, x2, x3, x4⟩ => ⟨x, Classical.byContradiction (fun z => h ⟨x, x0, by omega, eqs_symm x3⟩), x2, x3, x4⟩, fun ⟨x, x0, x2, x3, x4⟩ => ⟨x, by omega, by omega, x2, x3, x4⟩⟩
theorem sp_0 {w : Int → Int} {n : Int} (hn : 0 ≤ n) : cntZ (spP w n 0) 0 n = if 1 < cntZ (occ w n) 0 26 then 1 else 0 := by
  have e : cntZ (behP w n 0 0) 0 26 = cntZ (occ w n) 0 26 := cntZ_congr (fun c _ _ => ⟨fun ⟨x, x0, x1, _, x3⟩ => ⟨x, x0, by omega, by rw [← x3]; congr 1; omega⟩, fun ⟨x, x0, x1, x2⟩ => ⟨x, x0, by omega, eqs_0 (Int.le_refl _), by rw [← x2]; congr 1; omega⟩⟩)
  have z : ∀ x, 1 ≤ x → ¬ spP w n 0 x := fun x h1 h2 => h2.2.2.1 ⟨0, by omega, by omega, eqs_0 (Int.le_refl _)⟩
  rcases (by omega : n = 0 ∨ 1 ≤ n) with rfl | h
  · rw [cntZ_nil (Int.le_refl _), cntZ_zero.mpr (fun c _ _ => fun ⟨y, y0, y1, _⟩ => by omega)]
    rfl
  · have e2 : cntZ (spP w n 0) 0 n = cntZ (spP w n 0) 0 (0 + 1) := (sumZ_widen (Int.le_refl _) (by omega) (fun x g1 g2 g3 => bi_0 (z x (by omega)))).symm
    rw [e2, cntZ_succ (Int.le_refl _), cntZ_nil (Int.le_refl _)]
    split
    · next g => rw [bi_1 ⟨by omega, by omega, fun ⟨o, o1, o2, _⟩ => by omega, by rw [e]; omega⟩]; rfl
    · next g => rw [bi_0 (fun y => by have := y.2.2.2; rw [e] at this; omega)]; rfl
def S_Mo_special : GS := fun as σ K => match as with
  | [some (.inr (.inr (12, 0))), some (.inl a1)] => MoW σ ∧ ∀ σ' r, Fr AroL σ σ' → RSpec (mW σ) (σ 40 0 0) a1 r → K (vI r) σ'
  | _ => False
abbrev Lp_Mo_special_18 (a1 : Int) (σ0 : SS) (n : Nat) (L : List AV) (σ : SS) : Prop := ∃ (v2 : Int) (v3 : Int), L = [vR 12 0, vI a1, vI v2, vI v3, none, none] ∧ n = (100 * (1000 - v3)).toNat ∧ ((Fr AroL σ0 σ) ∧ (1 ≤ a1) ∧ (0 ≤ v3) ∧ (v3 = 0 ∨ v3 + a1 ≤ (σ0 40 0 0) + 1) ∧ (v2 = cntZ (spP (mW σ0) (σ0 40 0 0) a1) 0 v3))
abbrev Lp_Mo_special_38 (a1 : Int) (σ0 : SS) (n : Nat) (L : List AV) (σ : SS) : Prop := ∃ (v2 : Int) (v3 : Int) (v4 : Int) (v5 : Int), L = [vR 12 0, vI a1, vI v2, vI v3, vI v4, vI v5] ∧ n = (100 * (1000 - v3) - v5 - 1).toNat ∧ ((Fr AroL σ0 σ) ∧ (1 ≤ a1) ∧ (0 ≤ v3) ∧ (v3 + a1 ≤ (σ0 40 0 0)) ∧ (¬ isE (mW σ0) v3 a1) ∧ (bR (σ 57 0) (behU (mW σ0) (σ0 40 0 0) v3 a1 ((σ0 40 0 0) - a1 + 1)) 26) ∧ (v2 = cntZ (spP (mW σ0) (σ0 40 0 0) a1) 0 v3) ∧ (0 ≤ v5) ∧ (v5 ≤ 26) ∧ (v4 = cntZ (behU (mW σ0) (σ0 40 0 0) v3 a1 ((σ0 40 0 0) - a1 + 1)) 0 v5))
def Iv_Mo_special (a1 : Int) (σ0 : SS) (k : Nat) : Option (List Nat × (Nat → List AV → SS → Prop)) := match k with
  | 18 => some ([4, 5], Lp_Mo_special_18 a1 σ0)
  | 38 => some ([], Lp_Mo_special_38 a1 σ0)
  | _ => none
def VE_Mo_special (a1 : Int) (σ : SS) (K : AV → SS → Prop) : Prop :=
  (((0 : Int) ≤ a1 →
    ((a1 ≠ 0 →
      (∃ n', Lp_Mo_special_18 a1 σ n' [vR 12 0, vI a1, vI 0, vI 0, none, none] σ)) ∧
    (a1 = 0 →
      (S_Mo_unlikeLetters [vR 12 0] σ (kI fun r1 σ1 =>
        ((r1 ≤ 1 →
          (K (vI 0) σ1)) ∧
        ((1 : Int) < r1 →
          (K (vI 1) σ1)))))))) ∧
  (a1 < 0 →
    (K (vI (-1)) σ)))
def VL_Mo_special_18 (a1 : Int) (σ0 : SS) (K : AV → SS → Prop) (v2 : Int) (v3 : Int) (σ : SS) (n : Nat) : Prop :=
  (InR (v3 + a1) ∧
  (S_Mo_size [vR 12 0] σ (kI fun r1 σ1 =>
    ((r1 < (v3 + a1) →
      (K (vI v2) σ1)) ∧
    ((v3 + a1) ≤ r1 →
      (S_Mo_isOnce [vR 12 0, vI v3, vI a1] σ1 (kI fun r2 σ2 =>
        ((r2 ≠ 0 →
          (S_Mo_laysAround [vR 12 0, vI v3, vI a1] σ2 (kV fun σ3 =>
            (∃ n', n' < n ∧ Lp_Mo_special_38 a1 σ0 n' [vR 12 0, vI a1, vI v2, vI v3, vI 0, vI 0] σ3)))) ∧
        (r2 = 0 →
          (InR (v3 + 1) ∧
          (∃ n', n' < n ∧ Lp_Mo_special_18 a1 σ0 n' [vR 12 0, vI a1, vI v2, vI (v3 + 1), none, none] σ2)))))))))))
def VL_Mo_special_38 (a1 : Int) (σ0 : SS) (K : AV → SS → Prop) (v2 : Int) (v3 : Int) (v4 : Int) (v5 : Int) (σ : SS) (n : Nat) : Prop :=
  (((26 : Int) ≤ v5 →
    ((v4 ≤ 1 →
      (InR (v2 + 0) ∧
      (InR (v3 + 1) ∧
      (∃ n', n' < n ∧ Lp_Mo_special_18 a1 σ0 n' [vR 12 0, vI a1, vI (v2 + 0), vI (v3 + 1), none, none] σ)))) ∧
    ((1 : Int) < v4 →
      (InR (v2 + 1) ∧
      (InR (v3 + 1) ∧
      (∃ n', n' < n ∧ Lp_Mo_special_18 a1 σ0 n' [vR 12 0, vI a1, vI (v2 + 1), vI (v3 + 1), none, none] σ)))))) ∧
  (v5 < 26 →
    ((0 ≤ (v5 : Int) ∧ (v5 : Int) < 26) ∧
    (((σ 57 0 v5) = 0 →
      (InR (v4 + 0) ∧
      (InR (v5 + 1) ∧
      (∃ n', n' < n ∧ Lp_Mo_special_38 a1 σ0 n' [vR 12 0, vI a1, vI v2, vI v3, vI (v4 + 0), vI (v5 + 1)] σ)))) ∧
    ((σ 57 0 v5) ≠ 0 →
      (InR (v4 + 1) ∧
      (InR (v5 + 1) ∧
      (∃ n', n' < n ∧ Lp_Mo_special_38 a1 σ0 n' [vR 12 0, vI a1, vI v2, vI v3, vI (v4 + 1), vI (v5 + 1)] σ))))))))
theorem l_Mo_special_18 (a1 : Int) (σ0 : SS) (K : AV → SS → Prop) (ha1 : InR a1) (hs0 : okS σ0) (hG : S_Mo_special [vR 12 0, vI a1] σ0 K) (v2 : Int) (v3 : Int) (σ : SS) (hv2 : InR v2) (hv3 : InR v3) (hs : okS σ) (n : Nat) (hn : n = (100 * (1000 - v3)).toNat) (hQ : (Fr AroL σ0 σ) ∧ (1 ≤ a1) ∧ (0 ≤ v3) ∧ (v3 = 0 ∨ v3 + a1 ≤ (σ0 40 0 0) + 1) ∧ (v2 = cntZ (spP (mW σ0) (σ0 40 0 0) a1) 0 v3)) : VL_Mo_special_18 a1 σ0 K v2 v3 σ n := by
  unfold VL_Mo_special_18
  obtain ⟨hM, hG⟩ := hG
  have hb := hM.n
  obtain ⟨q0, q1, q2, q3, q4⟩ := hQ
  obtain ⟨w1, w2⟩ := aroF q0
  have hM2 := aroM hM q0
  have hin := cntZ_in (P := spP (mW σ0) (σ0 40 0 0) a1) (a := 0) (b := v3)
  refine ⟨(by omega), ?_⟩
  intro _ _
  refine ⟨fun c1 => ?_, fun c1 => ?_⟩
  · skip
    have e : v2 = cntZ (spP (mW σ0) (σ0 40 0 0) a1) 0 (σ0 40 0 0) := by
      rw [q4]
      exact sumZ_widen (Int.le_refl _) (by omega) (fun x g1 g2 g3 => bi_0 (fun z => by have := z.2.1; omega))
    exact hG _ _ q0 (gd_y (by omega) e)
  · skip
    refine ⟨(by rw [w2]; exact ⟨hM2, by omega, by omega, by omega⟩), ?_⟩
    refine bS_b1 (fun p2 _ => ?_) (fun p2 _ => ?_)
    · skip
      rw [w1, if_neg (by omega)] at p2
      refine ⟨(by rw [w2]; exact ⟨hM2, by omega, by omega, by omega⟩), (fun σ3 h3a h3b h3c h3d => ?_)⟩
      intro _
      refine ⟨_, ?_, _, _, _, _, rfl, rfl, ?_⟩
      · omega
      · refine ⟨?_, ?_, ?_, ?_, ?_, ?_, ?_, ?_, ?_, ?_⟩
        · exact Fr_trans q0 h3a
        · first | rfl | assumption | omega
        · first | rfl | assumption | omega
        · first | rfl | assumption | omega
        · first | rfl | assumption | omega
        · rw [w1, w2] at h3c; exact h3c
        · first | rfl | assumption | omega
        · first | rfl | assumption | omega
        · first | rfl | assumption | omega
        · exact (cntZ_nil (by omega)).symm
    · skip
      rw [w1, if_neg (by omega)] at p2
      refine ⟨(by omega), ?_⟩
      refine ⟨_, ?_, _, _, rfl, rfl, ?_⟩
      · omega
      · refine ⟨?_, ?_, ?_, ?_, ?_⟩
        · first | rfl | assumption | omega
        · first | rfl | assumption | omega
        · first | rfl | assumption | omega
        · first | rfl | assumption | omega
        · rw [cntZ_no q2 (fun z => p2 z.2.2.1)]; exact q4
theorem l_Mo_special_38 (a1 : Int) (σ0 : SS) (K : AV → SS → Prop) (ha1 : InR a1) (hs0 : okS σ0) (hG : S_Mo_special [vR 12 0, vI a1] σ0 K) (v2 : Int) (v3 : Int) (v4 : Int) (v5 : Int) (σ : SS) (hv2 : InR v2) (hv3 : InR v3) (hv4 : InR v4) (hv5 : InR v5) (hs : okS σ) (n : Nat) (hn : n = (100 * (1000 - v3) - v5 - 1).toNat) (hQ : (Fr AroL σ0 σ) ∧ (1 ≤ a1) ∧ (0 ≤ v3) ∧ (v3 + a1 ≤ (σ0 40 0 0)) ∧ (¬ isE (mW σ0) v3 a1) ∧ (bR (σ 57 0) (behU (mW σ0) (σ0 40 0 0) v3 a1 ((σ0 40 0 0) - a1 + 1)) 26) ∧ (v2 = cntZ (spP (mW σ0) (σ0 40 0 0) a1) 0 v3) ∧ (0 ≤ v5) ∧ (v5 ≤ 26) ∧ (v4 = cntZ (behU (mW σ0) (σ0 40 0 0) v3 a1 ((σ0 40 0 0) - a1 + 1)) 0 v5)) : VL_Mo_special_38 a1 σ0 K v2 v3 v4 v5 σ n := by
  unfold VL_Mo_special_38
  obtain ⟨hM, hG⟩ := hG
  have hb := hM.n
  obtain ⟨q0, q1, q2, q3, q4, q5, q6, q7, q8, q9⟩ := hQ
  have hin := cntZ_in (P := spP (mW σ0) (σ0 40 0 0) a1) (a := 0) (b := v3)
  have hin2 := cntZ_in (P := behU (mW σ0) (σ0 40 0 0) v3 a1 ((σ0 40 0 0) - a1 + 1)) (a := 0) (b := v5)
  have key : v5 = 26 → v4 = cntZ (behP (mW σ0) (σ0 40 0 0) v3 a1) 0 26 := fun e => by
    rw [q9, e]
    exact cntZ_congr (fun c _ _ => behU_P q1 q4 q2)
  have key2 : 2 ≤ cntZ (behP (mW σ0) (σ0 40 0 0) v3 a1) 0 26 → v3 + a1 < (σ0 40 0 0) := fun z => Classical.byContradiction (fun y => by
    have : cntZ (behP (mW σ0) (σ0 40 0 0) v3 a1) 0 26 = 0 := cntZ_zero.mpr (fun c _ _ => fun ⟨x, x0, x1, _⟩ => by omega)
    omega)
  refine ⟨fun c1 => ?_, fun c1 => ?_⟩
  · skip
    refine ⟨fun c2 => ?_, fun c2 => ?_⟩
    · skip
      refine ⟨(by omega), ?_⟩
      refine ⟨(by omega), ?_⟩
      refine ⟨_, ?_, _, _, rfl, rfl, ?_⟩
      · omega
      · refine ⟨?_, ?_, ?_, ?_, ?_⟩
        · first | rfl | assumption | omega
        · first | rfl | assumption | omega
        · first | rfl | assumption | omega
        · first | rfl | assumption | omega
        · have k := key (by omega)
          rw [cntZ_no q2 (fun z => by have := z.2.2.2; omega)]; omega
    · skip
      refine ⟨(by omega), ?_⟩
      refine ⟨(by omega), ?_⟩
      refine ⟨_, ?_, _, _, rfl, rfl, ?_⟩
      · omega
      · refine ⟨?_, ?_, ?_, ?_, ?_⟩
        · first | rfl | assumption | omega
        · first | rfl | assumption | omega
        · first | rfl | assumption | omega
        · first | rfl | assumption | omega
        · have k := key (by omega)
          rw [cntZ_yes q2 ⟨q2, key2 (by omega), q4, by omega⟩]; omega
  · skip
    refine ⟨(by omega), ?_⟩
    refine ⟨fun c3 => ?_, fun c3 => ?_⟩
    · skip
      refine ⟨(by omega), ?_⟩
      refine ⟨(by omega), ?_⟩
      refine ⟨_, ?_, _, _, _, _, rfl, rfl, ?_⟩
      · omega
      · refine ⟨?_, ?_, ?_, ?_, ?_, ?_, ?_, ?_, ?_, ?_⟩
        · first | rfl | assumption | omega
        · first | rfl | assumption | omega
        · first | rfl | assumption | omega
        · first | rfl | assumption | omega
        · first | rfl | assumption | omega
        · first | rfl | assumption | omega
        · first | rfl | assumption | omega
        · first | rfl | assumption | omega
        · first | rfl | assumption | omega
        · have k := q5 v5 q7 (by omega)
          rw [cntZ_no q7 (fun z => by rw [bi_1 z] at k; omega)]; omega
    · skip
      refine ⟨(by omega), ?_⟩
      refine ⟨(by omega), ?_⟩
      refine ⟨_, ?_, _, _, _, _, rfl, rfl, ?_⟩
      · omega
      · refine ⟨?_, ?_, ?_, ?_, ?_, ?_, ?_, ?_, ?_, ?_⟩
        · first | rfl | assumption | omega
        · first | rfl | assumption | omega
        · first | rfl | assumption | omega
        · first | rfl | assumption | omega
        · first | rfl | assumption | omega
        · first | rfl | assumption | omega
        · first | rfl | assumption | omega
        · first | rfl | assumption | omega
        · first | rfl | assumption | omega
        · have k := q5 v5 q7 (by omega)
          rw [cntZ_yes q7 (Classical.byContradiction (fun z => by rw [bi_0 z] at k; omega))]; omega
theorem e_Mo_special (a1 : Int) (σ : SS) (K : AV → SS → Prop) (ha1 : InR a1) (hs : okS σ) (hG : S_Mo_special [vR 12 0, vI a1] σ K) : VE_Mo_special a1 σ K := by
  unfold VE_Mo_special
  obtain ⟨hM, hG⟩ := hG
  have hb := hM.n
  refine ⟨fun c1 => ?_, fun c1 => ?_⟩
  · skip
    refine ⟨fun c2 => ?_, fun c2 => ?_⟩
    · skip
      refine ⟨_, _, _, rfl, rfl, ?_⟩
      refine ⟨?_, ?_, ?_, ?_, ?_⟩
      · exact Fr_refl
      · first | rfl | assumption | omega
      · first | rfl | assumption | omega
      · first | rfl | assumption | omega
      · exact (cntZ_nil (by omega)).symm
    · skip
      refine ⟨(by first | assumption | omega | exact ⟨by first | assumption | omega, by omega⟩ | exact ⟨by assumption, by omega, by omega⟩ | exact ⟨by assumption, by omega, by omega, by omega⟩ | exact ⟨by assumption, by omega, by omega, by omega, by omega⟩ | exact ⟨by assumption, by omega, by omega, by omega, by omega, by omega⟩), ?_⟩
      intro _ _
      refine ⟨fun c3 => ?_, fun c3 => ?_⟩
      · skip
        exact hG _ _ Fr_refl (gd_y (by omega) (by rw [show a1 = 0 by omega, sp_0 hb.1, if_neg (by omega)]))
      · skip
        exact hG _ _ Fr_refl (gd_y (by omega) (by rw [show a1 = 0 by omega, sp_0 hb.1, if_pos (by omega)]))
  · skip
    exact hG _ _ Fr_refl (gd_n (by omega))
theorem H_Mo_special {d : Nat} (hd : 6 ≤ d) : Holds d I_Mo_special S_Mo_special := by
  refine holds_of (d' := d - 1) (rt := 1) (cal := [(I_Mo_unlikeLetters, S_Mo_unlikeLetters), (I_Mo_size, S_Mo_size), (I_Mo_isOnce, S_Mo_isOnce), (I_Mo_laysAround, S_Mo_laysAround)]) (C := C_Mo_special) m_Mo_special o_Mo_special rfl rfl (by omega) ?_ ?_
  · intro x hx
    simp only [List.mem_cons, List.not_mem_nil, or_false] at hx
    rcases hx with rfl | rfl | rfl | rfl
    · exact H_Mo_unlikeLetters (by omega)
    · exact H_Mo_size (by omega)
    · exact H_Mo_isOnce (by omega)
    · exact H_Mo_laysAround (by omega)
  · intro as σ K has hσ hG
    have hG2 := hG
    unfold S_Mo_special at hG2
    split at hG2
    · next a1 =>
      refine ⟨Nat.le_of_ble_eq_true rfl, (Iv_Mo_special a1 σ), ?_, 1000, ?_⟩
      · intro k n z L σ' hk hL hs hP
        unfold Iv_Mo_special at hk
        split at hk
        · cases hk
          obtain ⟨v2, v3, rfl, hn, hQ⟩ := hP
          exact ⟨1000, l_Mo_special_18 a1 σ K (has _ (List.mem_of_getElem? (i := 1) rfl)) hσ hG v2 v3 σ' (hL _ (List.mem_of_getElem? (i := 2) rfl)) (hL _ (List.mem_of_getElem? (i := 3) rfl)) hs n hn hQ⟩
        · cases hk
          obtain ⟨v2, v3, v4, v5, rfl, hn, hQ⟩ := hP
          exact ⟨1000, l_Mo_special_38 a1 σ K (has _ (List.mem_of_getElem? (i := 1) rfl)) hσ hG v2 v3 v4 v5 σ' (hL _ (List.mem_of_getElem? (i := 2) rfl)) (hL _ (List.mem_of_getElem? (i := 3) rfl)) (hL _ (List.mem_of_getElem? (i := 4) rfl)) (hL _ (List.mem_of_getElem? (i := 5) rfl)) hs n hn hQ⟩
        · cases hk
      · exact e_Mo_special a1 σ K (has _ (List.mem_of_getElem? (i := 1) rfl)) hσ hG
    · exact hG2.elim
