noncomputable def cntW (w : Int → Int) (c a b : Int) : Int := cntZ (fun t => w t = c) a b
theorem cntW_pred {w : Int → Int} {c a b : Int} (h : a < b) : cntW w c a b = bi (w a = c) + cntW w c (a + 1) b := by
  unfold cntW cntZ
  rw [sumZ_split (a := a) (b := a + 1) (c := b) (by omega) (by omega), sumZ_succ (Int.le_refl a), sumZ_nil (Int.le_refl a), Int.zero_add]
theorem cntW_last {w : Int → Int} {c a b : Int} (h : a ≤ b) : cntW w c a (b + 1) = cntW w c a b + bi (w b = c) := cntZ_succ h
theorem cntW_nil {w : Int → Int} {c a b : Int} (h : b ≤ a) : cntW w c a b = 0 := cntZ_nil h
theorem cntW_in {w : Int → Int} {c a b : Int} (h : a ≤ b) : 0 ≤ cntW w c a b ∧ cntW w c a b ≤ b - a := by
  have := cntZ_in (P := fun t => w t = c) (a := a) (b := b)
  unfold cntW
  omega
theorem cntZ_zero {P : Int → Prop} {a b : Int} : cntZ P a b = 0 ↔ ∀ x, a ≤ x → x < b → ¬ P x := by
  constructor
  · intro h x h1 h2 hp
    have e1 := cntZ_yes h1 hp
    have e2 := cntZ_mono (P := P) (a := a) (show x + 1 ≤ b by omega)
    have e3 := (cntZ_in (P := P) (a := a) (b := x)).1
    omega
  · exact fun h => sumZ_zero (fun x h1 h2 => bi_0 (h x h1 h2))
theorem cntZ_upd {f g : Int → Int} {k a b : Int} (h0 : a ≤ k) (h1 : k < b) (hg : ∀ x, x ≠ k → g x = f x) : cntZ (fun c => g c ≠ 0) a b = cntZ (fun c => f c ≠ 0) a b + (bi (g k ≠ 0) - bi (f k ≠ 0)) := by
  have e : ∀ f : Int → Int, cntZ (fun c => f c ≠ 0) a b = cntZ (fun c => f c ≠ 0) a k + bi (f k ≠ 0) + cntZ (fun c => f c ≠ 0) (k + 1) b := by
    intro f
    have e1 : cntZ (fun c => f c ≠ 0) a b = cntZ (fun c => f c ≠ 0) a (k + 1) + cntZ (fun c => f c ≠ 0) (k + 1) b := sumZ_split (by omega) (by omega)
    rw [e1, cntZ_succ h0]
  have c1 : cntZ (fun c => g c ≠ 0) a k = cntZ (fun c => f c ≠ 0) a k := cntZ_congr (fun x z1 z2 => by rw [hg x (by omega)])
  have c2 : cntZ (fun c => g c ≠ 0) (k + 1) b = cntZ (fun c => f c ≠ 0) (k + 1) b := cntZ_congr (fun x z1 z2 => by rw [hg x (by omega)])
  rw [e g, e f, c1, c2]
  omega
theorem sumZ_shift {f : Int → Int} {h a b : Int} : sumZ (fun m => f (m - h)) a b = sumZ f (a - h) (b - h) := by
  by_cases g : a ≤ b
  · have key : ∀ k : Nat, sumZ (fun m => f (m - h)) a (a + k) = sumZ f (a - h) (a - h + k) := by
      intro k
      induction k with
      | zero => rw [sumZ_nil (by omega), sumZ_nil (by omega)]
      | succ k ih =>
        rw [show a + ((k + 1 : Nat) : Int) = a + (k : Int) + 1 by omega, show a - h + ((k + 1 : Nat) : Int) = a - h + (k : Int) + 1 by omega, sumZ_succ (by omega), sumZ_succ (by omega), ih, show a + (k : Int) - h = a - h + (k : Int) by omega]
    have := key (b - a).toNat
    rw [show a + ((b - a).toNat : Int) = b by omega, show a - h + ((b - a).toNat : Int) = b - h by omega] at this
    exact this
  · rw [sumZ_nil (by omega), sumZ_nil (by omega)]
def abelP (w : Int → Int) (n i h : Int) : Prop := 0 ≤ i ∧ 1 ≤ h ∧ i + 2 * h ≤ n ∧ ∀ c, 0 ≤ c → c < 26 → cntW w c i (i + h) = cntW w c (i + h) (i + 2 * h)
/-- middle by middle -/
noncomputable def rowM (P : Int → Int → Prop) (n m : Int) : Int := sumZ (fun h => bi (P (m - h) h)) 1 (n + 1)
def TM (c : Int) (P : Int → Int → Prop) (n m0 h0 m l f : Int) : Prop := m = sumZ (rowM P n) 1 m0 + sumZ (fun h => bi (P (m0 - h) h)) 1 h0 ∧ TL c (fun i h => P i h ∧ (i + h < m0 ∨ (i + h = m0 ∧ h < h0))) l f
theorem TM_0 {c n : Int} {P : Int → Int → Prop} (hP : ∀ i h, P i h → 0 ≤ i ∧ 1 ≤ h) : TM c P n 1 1 0 0 (-2) :=
  ⟨by rw [sumZ_nil (by omega), sumZ_nil (by omega)]; rfl, TL_congr TL_0 (fun i h => ⟨fun z => z.elim, fun z => by have := hP i h z.1; omega⟩)⟩
theorem TM_no {c n m0 h0 m l f : Int} {P : Int → Int → Prop} (h : TM c P n m0 h0 m l f) (hh : 1 ≤ h0) (hp : ¬ P (m0 - h0) h0) : TM c P n m0 (h0 + 1) m l f := by
  refine ⟨by rw [sumZ_succ hh, bi_0 hp]; have := h.1; omega, TL_congr h.2 (fun i h => ⟨fun z => ⟨z.1, by omega⟩, fun z => ⟨z.1, ?_⟩⟩)⟩
  rcases (by omega : (i + h < m0 ∨ i + h = m0 ∧ h < h0) ∨ (i = m0 - h0 ∧ h = h0)) with y | ⟨rfl, rfl⟩
  · exact y
  · exact absurd z.1 hp
theorem TM_yes {c n m0 h0 m l f : Int} {P : Int → Int → Prop} (hc : c = 1 ∨ c = 2) (h : TM c P n m0 h0 m l f) (hh : 1 ≤ h0) (hp : P (m0 - h0) h0) :
    TM c P n m0 (h0 + 1) (m + 1) (if l < c * h0 then c * h0 else l) (if l < c * h0 then m0 - h0 else f) := by
  refine ⟨by rw [sumZ_succ hh, bi_1 hp]; have := h.1; omega, TL_congr (TL_add hc h.2 hh (fun i z => by have := z.2; omega)) (fun i h => ⟨?_, fun z => ?_⟩)⟩
  · rintro (z | ⟨rfl, rfl⟩)
    · exact ⟨z.1, by omega⟩
    · exact ⟨hp, by omega⟩
  · rcases (by omega : (i + h < m0 ∨ i + h = m0 ∧ h < h0) ∨ (i = m0 - h0 ∧ h = h0)) with y | y
    · exact Or.inl ⟨z.1, y⟩
    · exact Or.inr y
theorem TM_row {c n m0 h0 m l f : Int} {P : Int → Int → Prop} (h : TM c P n m0 h0 m l f) (hi : 1 ≤ m0) (h1 : 1 ≤ h0) (h2 : h0 ≤ n + 1) (hp : ∀ x, h0 ≤ x → ¬ P (m0 - x) x) (hP : ∀ i h, P i h → 1 ≤ h) : TM c P n (m0 + 1) 1 m l f := by
  refine ⟨?_, TL_congr h.2 (fun i h => ⟨fun z => ⟨z.1, by omega⟩, fun z => ⟨z.1, ?_⟩⟩)⟩
  · rw [sumZ_succ hi, sumZ_nil (a := 1) (b := 1) (by omega)]
    have e : sumZ (fun h => bi (P (m0 - h) h)) 1 h0 = rowM P n m0 := sumZ_widen (Int.le_refl _) h2 (fun x g1 g2 g3 => bi_0 (hp x (by omega)))
    rw [← e]
    have := h.1
    omega
  · have := hP i h z.1
    rcases (by omega : i + h < m0 ∨ (i + h = m0 ∧ h < h0) ∨ (i = m0 - h ∧ h0 ≤ h)) with y | y | ⟨y1, y2⟩
    · exact Or.inl y
    · exact Or.inr y
    · exact absurd (y1 ▸ z.1) (hp _ y2)
theorem TM_end {c n m0 m l f : Int} {P : Int → Int → Prop} (h : TM c P n m0 1 m l f) (h1 : 1 ≤ m0) (h2 : n ≤ m0) (hP : ∀ i h, P i h → 0 ≤ i ∧ 1 ≤ h ∧ i + 2 * h ≤ n) : m = dsum P n ∧ TL c P l f := by
  refine ⟨?_, TL_congr h.2 (fun i h => ⟨fun z => z.1, fun z => ⟨z, Or.inl (by have := hP i h z; omega)⟩⟩)⟩
  rw [h.1, sumZ_nil (a := 1) (b := 1) (by omega)]
  have e1 : sumZ (rowM P n) 1 m0 = sumZ (fun h => sumZ (fun m => bi (P (m - h) h)) 1 m0) 1 (n + 1) := sumZ_swap (f := fun m h => bi (P (m - h) h))
  have e2 : dsum P n = sumZ (fun h => sumZ (fun i => bi (P i h)) 0 n) 1 (n + 1) := sumZ_swap (f := fun i h => bi (P i h))
  rw [e1, e2, Int.add_zero]
  refine sumZ_congr (fun h g1 g2 => ?_)
  have e3 : sumZ (fun m => bi (P (m - h) h)) 1 m0 = sumZ (fun i => bi (P i h)) (1 - h) (m0 - h) := sumZ_shift (f := fun i => bi (P i h))
  rw [e3]
  have e4 : sumZ (fun i => bi (P i h)) (1 - h) (m0 - h) = sumZ (fun i => bi (P i h)) (1 - h) (m0 + n) := sumZ_widen (by omega) (by omega) (fun x _ _ z => bi_0 (fun y => by have := hP x h y; omega))
  have e5 : sumZ (fun i => bi (P i h)) 0 n = sumZ (fun i => bi (P i h)) (1 - h) (m0 + n) := sumZ_widen (by omega) (by omega) (fun x _ _ z => bi_0 (fun y => by have := hP x h y; omega))
  rw [e4, e5]
theorem TM_in {c n m0 h0 m l f : Int} {P : Int → Int → Prop} (h : TM c P n m0 h0 m l f) (hn : 0 ≤ n) (hn2 : n ≤ 120) (hi : m0 ≤ n + 1) (hh : h0 ≤ n + 1) : 0 ≤ m ∧ m ≤ 20000 := by
  have h1 := sumZ_le (f := rowM P n) (c := 120) (a := 1) (b := m0) (by omega) (fun x _ _ => by
    have := sumZ_le (f := fun h => bi (P (x - h) h)) (c := 1) (a := 1) (b := n + 1) (by omega) (fun y _ _ => bi_in _)
    unfold rowM
    omega)
  have h2 := sumZ_le (f := fun h => bi (P (m0 - h) h)) (c := 1) (a := 1) (b := h0) (by omega) (fun x _ _ => bi_in _)
  have := h.1
  omega
def SuL : List (Nat × Nat) := [(30, 0)]
theorem SuQ {σ σ' : SS} (hT : TwC σ) (h : Fr SuL σ σ') : RQ σ σ' := by
  refine ⟨Fr_mono h (by intro q hq; simp [RpL, SuL] at *; simp [hq]), ?_⟩
  have f : ∀ f i, (f, i) ∉ SuL → σ' f i = σ f i := h
  have e1 : σ' 20 0 = σ 20 0 := f _ _ (by simp [SuL])
  have e2 : σ' 501 0 = σ 501 0 := f _ _ (by simp [SuL])
  have e3 : σ' 423 0 = σ 423 0 := f _ _ (by simp [SuL])
  have e4 : σ' 28 0 = σ 28 0 := f _ _ (by simp [SuL])
  have e5 : σ' 29 0 = σ 29 0 := f _ _ (by simp [SuL])
  obtain ⟨h1, h2⟩ := hT
  refine ⟨?_, fun hr => ?_⟩
  · unfold WI at *; rw [e1, e2]; exact Wd_fr h1 e2 e1
  · rw [e3] at hr
    have := h2 hr
    rw [cW_fr e1 e2, e2]
    intro hi g1 g2
    rw [e4, e5]
    exact this hi g1 g2
theorem Su_ta {σ σ' : SS} (h : Fr SuL σ σ') : σ' 380 0 0 = σ 380 0 0 ∧ σ' 381 0 0 = σ 381 0 0 ∧ σ' 382 0 0 = σ 382 0 0 :=
  ⟨by rw [h _ _ (by simp [SuL])], by rw [h _ _ (by simp [SuL])], by rw [h _ _ (by simp [SuL])]⟩
def S_Rp_changeSurplus : GS := fun as σ K => match as with
  | [some (.inr (.inr (4, 0))), some (.inl a1), some (.inl a2)] => (0 ≤ a1 ∧ a1 < 26 ∧ a2 ≠ 0 ∧ InR (σ 30 0 a1 + a2)) ∧ ∀ σ' r, Fr SuL σ σ' → (∀ x, σ' 30 0 x = if x = a1 then σ 30 0 x + a2 else σ 30 0 x) → cntZ (fun c => σ' 30 0 c ≠ 0) 0 26 = cntZ (fun c => σ 30 0 c ≠ 0) 0 26 + r → K (vI r) σ'
  | _ => False
def VE_Rp_changeSurplus (a1 : Int) (a2 : Int) (σ : SS) (K : AV → SS → Prop) : Prop :=
  ((a1 < 0 →
    (K (vI 0) σ)) ∧
  ((0 : Int) ≤ a1 →
    ((a1 < 26 →
      ((0 ≤ (a1 : Int) ∧ (a1 : Int) < 26) ∧
      (InR ((σ 30 0 a1) + a2) ∧
      ((0 ≤ (a1 : Int) ∧ (a1 : Int) < 26) ∧ ∀ σ1 : SS, σ1 = u3 σ 30 0 a1 ((σ 30 0 a1) + a2) →
      (((σ 30 0 a1) ≠ 0 →
        (InR ((σ 30 0 a1) + a2) ∧
        ((((σ 30 0 a1) + a2) ≠ 0 →
          (K (vI 0) σ1)) ∧
        (((σ 30 0 a1) + a2) = 0 →
          (K (vI (-1)) σ1))))) ∧
      ((σ 30 0 a1) = 0 →
        (K (vI 1) σ1))))))) ∧
    ((26 : Int) ≤ a1 →
      (K (vI 0) σ)))))
theorem e_Rp_changeSurplus (a1 : Int) (a2 : Int) (σ : SS) (K : AV → SS → Prop) (ha1 : InR a1) (ha2 : InR a2) (hs : okS σ) (hG : S_Rp_changeSurplus [vR 4 0, vI a1, vI a2] σ K) : VE_Rp_changeSurplus a1 a2 σ K := by
  unfold VE_Rp_changeSurplus
  obtain ⟨⟨h1, h2, h3, h4⟩, hG⟩ := hG
  refine ⟨fun h => by omega, fun _ => ⟨fun _ => ⟨⟨h1, h2⟩, h4, ⟨h1, h2⟩, fun σ1 e1 => ?_⟩, fun h => by omega⟩⟩
  subst e1
  have hx : ∀ x, u3 σ 30 0 a1 (σ 30 0 a1 + a2) 30 0 x = if x = a1 then σ 30 0 x + a2 else σ 30 0 x := fun x => by
    rw [u3_e]
    split
    · rename_i z; rw [z]
    · rfl
  have hu := cntZ_upd (f := fun x => σ 30 0 x) (g := fun x => u3 σ 30 0 a1 (σ 30 0 a1 + a2) 30 0 x) (k := a1) (a := 0) (b := 26) h1 h2 (fun x z => by rw [hx, if_neg z])
  have e2 : u3 σ 30 0 a1 (σ 30 0 a1 + a2) 30 0 a1 = σ 30 0 a1 + a2 := u3_s
  rw [e2] at hu
  have fin : ∀ r, r = bi (σ 30 0 a1 + a2 ≠ 0) - bi (σ 30 0 a1 ≠ 0) → K (vI r) (u3 σ 30 0 a1 (σ 30 0 a1 + a2)) := fun r z => hG _ r (Fr_u3 (by simp [SuL])) hx (by rw [z]; exact hu)
  refine ⟨fun z => ⟨h4, fun y => fin _ ?_, fun y => fin _ ?_⟩, fun z => fin _ ?_⟩
  · rw [bi_1 y, bi_1 z]; rfl
  · rw [bi_0 (by omega), bi_1 z]; rfl
  · rw [bi_1 (by omega), bi_0 (by omega)]; rfl
theorem H_Rp_changeSurplus {d : Nat} (hd : 1 ≤ d) : Holds d I_Rp_changeSurplus S_Rp_changeSurplus := by
  refine holds_of (d' := d - 1) (rt := 1) (cal := []) (C := C_Rp_changeSurplus) m_Rp_changeSurplus o_Rp_changeSurplus rfl rfl (by omega) ?_ ?_
  · intro x hx
    cases hx
  · intro as σ K has hσ hG
    have hG2 := hG
    unfold S_Rp_changeSurplus at hG2
    split at hG2
    · next a1 a2 =>
      refine ⟨Nat.le_of_ble_eq_true rfl, (fun _ => none), ?_, 1000, ?_⟩
      · intro k n z L σ' hk hL hs hP
        cases hk
      · exact e_Rp_changeSurplus a1 a2 σ K (has _ (List.mem_of_getElem? (i := 1) rfl)) (has _ (List.mem_of_getElem? (i := 2) rfl)) hσ hG
    · exact hG2.elim
def S_Rp_addAbelian : GS := fun as σ K => match as with
  | [some (.inr (.inr (4, 0))), some (.inl a1)] => (TwC σ ∧ 1 ≤ a1 ∧ a1 < (σ 501 0 0) ∧ TM 2 (abelP (cW σ) (σ 501 0 0)) (σ 501 0 0) a1 1 (σ 380 0 0) (σ 381 0 0) (σ 382 0 0)) ∧ ∀ σ', RQ σ σ' → TM 2 (abelP (cW σ) (σ 501 0 0)) (σ 501 0 0) (a1 + 1) 1 (σ' 380 0 0) (σ' 381 0 0) (σ' 382 0 0) → K none σ'
  | _ => False
abbrev Lp_Rp_addAbelian_2 (a1 : Int) (σ0 : SS) (n : Nat) (L : List AV) (σ : SS) : Prop := ∃ (v2 : Int), L = [vR 4 0, vI a1, vI v2, none, none] ∧ n = (3000 - v2).toNat ∧ ((Fr SuL σ0 σ) ∧ (0 ≤ v2) ∧ (v2 ≤ 26) ∧ (∀ c, 0 ≤ c → c < v2 → σ 30 0 c = 0))
abbrev Lp_Rp_addAbelian_24 (a1 : Int) (σ0 : SS) (n : Nat) (L : List AV) (σ : SS) : Prop := ∃ (v2 : Int) (v3 : Int) (v4 : Int), L = [vR 4 0, vI a1, vI v2, vI v3, vI v4] ∧ n = (1000 - v4).toNat ∧ ((RQ σ0 σ) ∧ (v3 = min a1 ((σ0 501 0 0) - a1)) ∧ (1 ≤ v4) ∧ (v4 ≤ v3 + 1) ∧ (∀ c, 0 ≤ c → c < 26 → σ 30 0 c = cntW (cW σ0) c (a1 - v4 + 1) a1 - cntW (cW σ0) c a1 (a1 + v4 - 1)) ∧ (v2 = cntZ (fun c => σ 30 0 c ≠ 0) 0 26) ∧ (TM 2 (abelP (cW σ0) (σ0 501 0 0)) (σ0 501 0 0) a1 v4 (σ 380 0 0) (σ 381 0 0) (σ 382 0 0)))
def Iv_Rp_addAbelian (a1 : Int) (σ0 : SS) (k : Nat) : Option (List Nat × (Nat → List AV → SS → Prop)) := match k with
  | 2 => some ([], Lp_Rp_addAbelian_2 a1 σ0)
  | 24 => some ([], Lp_Rp_addAbelian_24 a1 σ0)
  | _ => none
def VE_Rp_addAbelian (a1 : Int) (σ : SS) (K : AV → SS → Prop) : Prop :=
  (∃ n', Lp_Rp_addAbelian_2 a1 σ n' [vR 4 0, vI a1, vI 0, none, none] σ)
def VL_Rp_addAbelian_2 (a1 : Int) (σ0 : SS) (K : AV → SS → Prop) (v2 : Int) (σ : SS) (n : Nat) : Prop :=
  (((26 : Int) ≤ v2 →
    (S_Wo_size [vR 10 0] σ (kI fun r1 σ1 =>
      (InR (r1 - a1) ∧
      (∃ n', n' < n ∧ Lp_Rp_addAbelian_24 a1 σ0 n' [vR 4 0, vI a1, vI 0, vI (min a1 (r1 - a1)), vI 1] σ1))))) ∧
  (v2 < 26 →
    ((0 ≤ (v2 : Int) ∧ (v2 : Int) < 26) ∧ ∀ σ2 : SS, σ2 = u3 σ 30 0 v2 0 →
    (InR (v2 + 1) ∧
    (∃ n', n' < n ∧ Lp_Rp_addAbelian_2 a1 σ0 n' [vR 4 0, vI a1, vI (v2 + 1), none, none] σ2)))))
def VL_Rp_addAbelian_24 (a1 : Int) (σ0 : SS) (K : AV → SS → Prop) (v2 : Int) (v3 : Int) (v4 : Int) (σ : SS) (n : Nat) : Prop :=
  ((v3 < v4 →
    (K none σ)) ∧
  (v4 ≤ v3 →
    (InR (a1 - v4) ∧
    (S_Wo_at [vR 10 0, vI (a1 - v4)] σ (kI fun r1 σ1 =>
      (S_Rp_changeSurplus [vR 4 0, vI r1, vI 1] σ1 (kI fun r2 σ2 =>
        (InR (v2 + r2) ∧
        (InR (a1 + v4) ∧
        (InR ((a1 + v4) - 1) ∧
        (S_Wo_at [vR 10 0, vI ((a1 + v4) - 1)] σ2 (kI fun r3 σ3 =>
          (S_Rp_changeSurplus [vR 4 0, vI r3, vI (-1)] σ3 (kI fun r4 σ4 =>
            (InR ((v2 + r2) + r4) ∧
            ((((v2 + r2) + r4) ≠ 0 →
              (InR (v4 + 1) ∧
              (∃ n', n' < n ∧ Lp_Rp_addAbelian_24 a1 σ0 n' [vR 4 0, vI a1, vI ((v2 + r2) + r4), vI v3, vI (v4 + 1)] σ4))) ∧
            (((v2 + r2) + r4) = 0 →
              (InR (a1 - v4) ∧
              (InR (2 * v4) ∧
              (S_Ta_add [vR 7 0, vI (a1 - v4), vI (2 * v4)] σ4 (kV fun σ5 =>
                (InR (v4 + 1) ∧
                (∃ n', n' < n ∧ Lp_Rp_addAbelian_24 a1 σ0 n' [vR 4 0, vI a1, vI ((v2 + r2) + r4), vI v3, vI (v4 + 1)] σ5)))))))))))))))))))))))
theorem l_Rp_addAbelian_2 (a1 : Int) (σ0 : SS) (K : AV → SS → Prop) (ha1 : InR a1) (hs0 : okS σ0) (hG : S_Rp_addAbelian [vR 4 0, vI a1] σ0 K) (v2 : Int) (σ : SS) (hv2 : InR v2) (hs : okS σ) (n : Nat) (hn : n = (3000 - v2).toNat) (hQ : (Fr SuL σ0 σ) ∧ (0 ≤ v2) ∧ (v2 ≤ 26) ∧ (∀ c, 0 ≤ c → c < v2 → σ 30 0 c = 0)) : VL_Rp_addAbelian_2 a1 σ0 K v2 σ n := by
  unfold VL_Rp_addAbelian_2
  obtain ⟨⟨hT, h1, h2, h3⟩, hG⟩ := hG
  have hb := hT.n
  obtain ⟨q0, q1, q2, q3⟩ := hQ
  have rq := SuQ hT q0
  obtain ⟨w1, w2⟩ := rq.w
  obtain ⟨t1, t2, t3⟩ := Su_ta q0
  refine ⟨fun h => ?_, fun h => ⟨⟨by omega, by omega⟩, fun σ2 e2 => ⟨by omega, _, ?_, _, rfl, rfl, ?_, by omega, by omega, fun c c1 c2 => ?_⟩⟩⟩
  · intro _ _
    rw [w2]
    refine ⟨by omega, _, ?_, _, _, _, rfl, rfl, rq, rfl, by omega, by omega, fun c c1 c2 => ?_, ?_, ?_⟩
    · omega
    · rw [q3 c c1 (by omega), cntW_nil (by omega), cntW_nil (by omega)]; rfl
    · exact (cntZ_zero.mpr (fun x x1 x2 z => z (q3 x x1 (by omega)))).symm
    · rw [t1, t2, t3]; exact h3
  · omega
  · subst e2; exact Fr_trans q0 (Fr_u3 (by simp [SuL]))
  · subst e2
    rw [u3_e]
    split
    · rfl
    · exact q3 c c1 (by omega)
theorem l_Rp_addAbelian_24 (a1 : Int) (σ0 : SS) (K : AV → SS → Prop) (ha1 : InR a1) (hs0 : okS σ0) (hG : S_Rp_addAbelian [vR 4 0, vI a1] σ0 K) (v2 : Int) (v3 : Int) (v4 : Int) (σ : SS) (hv2 : InR v2) (hv3 : InR v3) (hv4 : InR v4) (hs : okS σ) (n : Nat) (hn : n = (1000 - v4).toNat) (hQ : (RQ σ0 σ) ∧ (v3 = min a1 ((σ0 501 0 0) - a1)) ∧ (1 ≤ v4) ∧ (v4 ≤ v3 + 1) ∧ (∀ c, 0 ≤ c → c < 26 → σ 30 0 c = cntW (cW σ0) c (a1 - v4 + 1) a1 - cntW (cW σ0) c a1 (a1 + v4 - 1)) ∧ (v2 = cntZ (fun c => σ 30 0 c ≠ 0) 0 26) ∧ (TM 2 (abelP (cW σ0) (σ0 501 0 0)) (σ0 501 0 0) a1 v4 (σ 380 0 0) (σ 381 0 0) (σ 382 0 0))) : VL_Rp_addAbelian_24 a1 σ0 K v2 v3 v4 σ n := by
  unfold VL_Rp_addAbelian_24
  obtain ⟨⟨hT, h1, h2, h3⟩, hG⟩ := hG
  have hb := hT.n
  obtain ⟨q0, q1, q2, q3, q4, q5, q6⟩ := hQ
  obtain ⟨w1, w2⟩ := q0.w
  have hin := TM_in q6 hb.1 hb.2 (by omega) (by omega)
  refine ⟨fun h => hG σ q0 (TM_row q6 h1 q2 (by omega) (fun x x1 z => by have := z.1; have := z.2.2.1; omega) (fun i h z => z.2.1)), fun h => ⟨by omega, by omega, ?_⟩⟩
  have e1 : atW (σ 20 0) (σ 501 0 0) (a1 - v4) = cW σ0 (a1 - v4) := by rw [← w1]; rfl
  rw [e1]
  have l1 := hT.let (x := a1 - v4) (by omega) (by omega)
  have l2 := hT.let (x := a1 + v4 - 1) (by omega) (by omega)
  have sb : ∀ c, 0 ≤ c → c < 26 → -120 ≤ σ 30 0 c ∧ σ 30 0 c ≤ 120 := fun c c1 c2 => by
    have := q4 c c1 c2
    have := cntW_in (w := cW σ0) (c := c) (a := a1 - v4 + 1) (b := a1) (by omega)
    have := cntW_in (w := cW σ0) (c := c) (a := a1) (b := a1 + v4 - 1) (by omega)
    omega
  intro _ _
  have sb1 := sb _ l1.1 l1.2
  refine ⟨⟨l1.1, l1.2, by omega, by omega⟩, fun σ2 r2 hF2 hx2 hc2 => ?_⟩
  intro _ _
  have rq2 := q0.tr (SuQ q0.2 hF2)
  obtain ⟨x1, x2⟩ := rq2.w
  obtain ⟨t1, t2, t3⟩ := Su_ta hF2
  have b1 := cntZ_in (P := fun c => σ 30 0 c ≠ 0) (a := 0) (b := 26)
  have b2 := cntZ_in (P := fun c => σ2 30 0 c ≠ 0) (a := 0) (b := 26)
  refine ⟨by omega, by omega, by omega, by omega, ?_⟩
  have e2 : atW (σ2 20 0) (σ2 501 0 0) (a1 + v4 - 1) = cW σ0 (a1 + v4 - 1) := by rw [← x1]; rfl
  rw [e2]
  intro _ _
  refine ⟨⟨l2.1, l2.2, by omega, ?_⟩, fun σ4 r4 hF4 hx4 hc4 => ?_⟩
  · rw [hx2]
    have := sb _ l2.1 l2.2
    split <;> omega
  intro _ _
  have rq4 := rq2.tr (SuQ rq2.2 hF4)
  obtain ⟨s1, s2, s3⟩ := Su_ta hF4
  have b3 := cntZ_in (P := fun c => σ4 30 0 c ≠ 0) (a := 0) (b := 26)
  have hs : ∀ c, 0 ≤ c → c < 26 → σ4 30 0 c = cntW (cW σ0) c (a1 - v4) a1 - cntW (cW σ0) c a1 (a1 + v4) := fun c c1 c2 => by
    have g1 := q4 c c1 c2
    have g2 := cntW_pred (w := cW σ0) (c := c) (a := a1 - v4) (b := a1) (by omega)
    have g3 := cntW_last (w := cW σ0) (c := c) (a := a1) (b := a1 + v4 - 1) (by omega)
    rw [show a1 + v4 - 1 + 1 = a1 + v4 by omega] at g3
    rw [hx4, hx2]
    by_cases z1 : c = cW σ0 (a1 - v4) <;> by_cases z2 : c = cW σ0 (a1 + v4 - 1)
    · rw [bi_1 z1.symm] at g2; rw [bi_1 z2.symm] at g3
      rw [if_pos z2, if_pos z1]; omega
    · rw [bi_1 z1.symm] at g2; rw [bi_0 (fun y => z2 y.symm)] at g3
      rw [if_neg z2, if_pos z1]; omega
    · rw [bi_0 (fun y => z1 y.symm)] at g2; rw [bi_1 z2.symm] at g3
      rw [if_pos z2, if_neg z1]; omega
    · rw [bi_0 (fun y => z1 y.symm)] at g2; rw [bi_0 (fun y => z2 y.symm)] at g3
      rw [if_neg z2, if_neg z1]; omega
  have hu : v2 + r2 + r4 = cntZ (fun c => σ4 30 0 c ≠ 0) 0 26 := by omega
  have hz : v2 + r2 + r4 = 0 ↔ abelP (cW σ0) (σ0 501 0 0) (a1 - v4) v4 := by
    rw [hu, cntZ_zero]
    constructor
    · intro g
      refine ⟨by omega, by omega, by omega, fun c c1 c2 => ?_⟩
      rw [show a1 - v4 + v4 = a1 by omega, show a1 - v4 + 2 * v4 = a1 + v4 by omega]
      have g1 := hs c c1 c2
      have g2 := g c c1 c2
      omega
    · intro g x g1 g2 z
      have g3 := g.2.2.2 x g1 g2
      rw [show a1 - v4 + v4 = a1 by omega, show a1 - v4 + 2 * v4 = a1 + v4 by omega] at g3
      have g4 := hs x g1 g2
      omega
  have hs' : ∀ c, 0 ≤ c → c < 26 → σ4 30 0 c = cntW (cW σ0) c (a1 - (v4 + 1) + 1) a1 - cntW (cW σ0) c a1 (a1 + (v4 + 1) - 1) := fun c c1 c2 => by
    rw [show a1 - (v4 + 1) + 1 = a1 - v4 by omega, show a1 + (v4 + 1) - 1 = a1 + v4 by omega]
    exact hs c c1 c2
  refine ⟨by omega, fun g => ⟨by omega, _, ?_, _, _, _, rfl, rfl, rq4, q1, by omega, by omega, hs', hu, ?_⟩, fun g => ⟨by omega, by omega, by omega, fun σ5 hF5 k1 k2 k3 => ?_⟩⟩
  · omega
  · rw [s1, s2, s3, t1, t2, t3]
    exact TM_no q6 q2 (fun z => g (hz.mpr z))
  · intro _
    have e5 : σ5 30 0 = σ4 30 0 := hF5 _ _ (by simp [TaL])
    refine ⟨by omega, _, ?_, _, _, _, rfl, rfl, rq4.tr (TaQ rq4.2 hF5), q1, by omega, by omega, ?_, ?_, ?_⟩
    · omega
    · rw [e5]; exact hs'
    · rw [e5]; exact hu
    · have := TM_yes (Or.inr rfl) q6 q2 (hz.mp g)
      rw [k1, k2, k3, s1, s2, s3, t1, t2, t3]
      exact this
theorem e_Rp_addAbelian (a1 : Int) (σ : SS) (K : AV → SS → Prop) (ha1 : InR a1) (hs : okS σ) (hG : S_Rp_addAbelian [vR 4 0, vI a1] σ K) : VE_Rp_addAbelian a1 σ K := by
  unfold VE_Rp_addAbelian
  obtain ⟨⟨hT, h1, h2, h3⟩, hG⟩ := hG
  have hb := hT.n
  exact ⟨_, _, rfl, rfl, Fr_refl, by omega, by omega, fun c c1 c2 => by omega⟩
theorem H_Rp_addAbelian {d : Nat} (hd : 2 ≤ d) : Holds d I_Rp_addAbelian S_Rp_addAbelian := by
  refine holds_of (d' := d - 1) (rt := 0) (cal := [(I_Wo_size, S_Wo_size), (I_Wo_at, S_Wo_at), (I_Rp_changeSurplus, S_Rp_changeSurplus), (I_Ta_add, S_Ta_add)]) (C := C_Rp_addAbelian) m_Rp_addAbelian o_Rp_addAbelian rfl rfl (by omega) ?_ ?_
  · intro x hx
    simp only [List.mem_cons, List.not_mem_nil, or_false] at hx
    rcases hx with rfl | rfl | rfl | rfl
    · exact H_Wo_size (by omega)
    · exact H_Wo_at (by omega)
    · exact H_Rp_changeSurplus (by omega)
    · exact H_Ta_add (by omega)
  · intro as σ K has hσ hG
    have hG2 := hG
    unfold S_Rp_addAbelian at hG2
    split at hG2
    · next a1 =>
      refine ⟨Nat.le_of_ble_eq_true rfl, (Iv_Rp_addAbelian a1 σ), ?_, 1000, ?_⟩
      · intro k n z L σ' hk hL hs hP
        unfold Iv_Rp_addAbelian at hk
        split at hk
        · cases hk
          obtain ⟨v2, rfl, hn, hQ⟩ := hP
          exact ⟨1000, l_Rp_addAbelian_2 a1 σ K (has _ (List.mem_of_getElem? (i := 1) rfl)) hσ hG v2 σ' (hL _ (List.mem_of_getElem? (i := 2) rfl)) hs n hn hQ⟩
        · cases hk
          obtain ⟨v2, v3, v4, rfl, hn, hQ⟩ := hP
          exact ⟨1000, l_Rp_addAbelian_24 a1 σ K (has _ (List.mem_of_getElem? (i := 1) rfl)) hσ hG v2 v3 v4 σ' (hL _ (List.mem_of_getElem? (i := 2) rfl)) (hL _ (List.mem_of_getElem? (i := 3) rfl)) (hL _ (List.mem_of_getElem? (i := 4) rfl)) hs n hn hQ⟩
        · cases hk
      · exact e_Rp_addAbelian a1 σ K (has _ (List.mem_of_getElem? (i := 1) rfl)) hσ hG
    · exact hG2.elim
def S_Rp_abelianSquares : GS := fun as σ K => match as with
  | [some (.inr (.inr (4, 0)))] => TwC σ ∧ ∀ σ', RQ σ σ' → σ' 380 0 0 = dsum (abelP (cW σ) (σ 501 0 0)) (σ 501 0 0) → TL 2 (abelP (cW σ) (σ 501 0 0)) (σ' 381 0 0) (σ' 382 0 0) → K (vR 7 0) σ'
  | _ => False
abbrev Lp_Rp_abelianSquares_5 (σ0 : SS) (n : Nat) (L : List AV) (σ : SS) : Prop := ∃ (v1 : Int), L = [vR 4 0, vI v1] ∧ n = ((σ0 501 0 0) + 1 - v1).toNat ∧ ((RQ σ0 σ) ∧ (1 ≤ v1) ∧ (v1 ≤ max 1 (σ0 501 0 0)) ∧ (TM 2 (abelP (cW σ0) (σ0 501 0 0)) (σ0 501 0 0) v1 1 (σ 380 0 0) (σ 381 0 0) (σ 382 0 0)))
def Iv_Rp_abelianSquares (σ0 : SS) (k : Nat) : Option (List Nat × (Nat → List AV → SS → Prop)) := match k with
  | 5 => some ([], Lp_Rp_abelianSquares_5 σ0)
  | _ => none
def VE_Rp_abelianSquares (σ : SS) (K : AV → SS → Prop) : Prop :=
  (S_Ta_clear [vR 7 0] σ (kV fun σ1 =>
    (∃ n', Lp_Rp_abelianSquares_5 σ n' [vR 4 0, vI 1] σ1)))
def VL_Rp_abelianSquares_5 (σ0 : SS) (K : AV → SS → Prop) (v1 : Int) (σ : SS) (n : Nat) : Prop :=
  (S_Wo_size [vR 10 0] σ (kI fun r1 σ1 =>
    ((r1 ≤ v1 →
      (K (vR 7 0) σ1)) ∧
    (v1 < r1 →
      (S_Rp_addAbelian [vR 4 0, vI v1] σ1 (kV fun σ2 =>
        (InR (v1 + 1) ∧
        (∃ n', n' < n ∧ Lp_Rp_abelianSquares_5 σ0 n' [vR 4 0, vI (v1 + 1)] σ2))))))))
theorem l_Rp_abelianSquares_5 (σ0 : SS) (K : AV → SS → Prop) (hs0 : okS σ0) (hG : S_Rp_abelianSquares [vR 4 0] σ0 K) (v1 : Int) (σ : SS) (hv1 : InR v1) (hs : okS σ) (n : Nat) (hn : n = ((σ0 501 0 0) + 1 - v1).toNat) (hQ : (RQ σ0 σ) ∧ (1 ≤ v1) ∧ (v1 ≤ max 1 (σ0 501 0 0)) ∧ (TM 2 (abelP (cW σ0) (σ0 501 0 0)) (σ0 501 0 0) v1 1 (σ 380 0 0) (σ 381 0 0) (σ 382 0 0))) : VL_Rp_abelianSquares_5 σ0 K v1 σ n := by
  unfold VL_Rp_abelianSquares_5
  obtain ⟨hT, hG⟩ := hG
  obtain ⟨q0, q1, q2, q3⟩ := hQ
  have hb := hT.n
  obtain ⟨w1, w2⟩ := q0.w
  intro _ _
  refine ⟨fun h => ?_, fun h => ⟨⟨q0.2, q1, by omega, ?_⟩, fun σ2 hq hta => ?_⟩⟩
  · obtain ⟨z1, z2⟩ := TM_end q3 q1 (by omega) (fun i h z => ⟨z.1, z.2.1, z.2.2.1⟩)
    exact hG σ q0 z1 z2
  · rw [w1, w2]; exact q3
  · intro _
    rw [w1, w2] at hta
    refine ⟨by omega, _, ?_, _, rfl, rfl, q0.tr hq, by omega, by omega, hta⟩
    omega
theorem e_Rp_abelianSquares (σ : SS) (K : AV → SS → Prop) (hs : okS σ) (hG : S_Rp_abelianSquares [vR 4 0] σ K) : VE_Rp_abelianSquares σ K := by
  unfold VE_Rp_abelianSquares
  obtain ⟨hT, hG⟩ := hG
  intro σ' hF e1 e2 e3 _
  have hb := hT.n
  refine ⟨_, _, rfl, rfl, TaQ hT hF, by omega, by omega, ?_⟩
  rw [e1, e2, e3]
  exact TM_0 (fun i h z => ⟨z.1, z.2.1⟩)
theorem H_Rp_abelianSquares {d : Nat} (hd : 3 ≤ d) : Holds d I_Rp_abelianSquares S_Rp_abelianSquares := by
  refine holds_of (d' := d - 1) (rt := 3) (cal := [(I_Ta_clear, S_Ta_clear), (I_Wo_size, S_Wo_size), (I_Rp_addAbelian, S_Rp_addAbelian)]) (C := C_Rp_abelianSquares) m_Rp_abelianSquares o_Rp_abelianSquares rfl rfl (by omega) ?_ ?_
  · intro x hx
    simp only [List.mem_cons, List.not_mem_nil, or_false] at hx
    rcases hx with rfl | rfl | rfl
    · exact H_Ta_clear (by omega)
    · exact H_Wo_size (by omega)
    · exact H_Rp_addAbelian (by omega)
  · intro as σ K has hσ hG
    have hG2 := hG
    unfold S_Rp_abelianSquares at hG2
    split at hG2
    · skip
      refine ⟨Nat.le_of_ble_eq_true rfl, (Iv_Rp_abelianSquares σ), ?_, 1000, ?_⟩
      · intro k n z L σ' hk hL hs hP
        unfold Iv_Rp_abelianSquares at hk
        split at hk
        · cases hk
          obtain ⟨v1, rfl, hn, hQ⟩ := hP
          exact ⟨1000, l_Rp_abelianSquares_5 σ K  hσ hG v1 σ' (hL _ (List.mem_of_getElem? (i := 1) rfl)) hs n hn hQ⟩
        · cases hk
      · exact e_Rp_abelianSquares σ K  hσ hG
    · exact hG2.elim
def S_Wr_abel : GS := fun as σ K => match as with
  | [some (.inr (.inr (11, 0))), some (.inl a1)] => TwC σ ∧ ∀ σ' r, RQ σ σ' → RTal 2 (abelP (cW σ) (σ 501 0 0)) (σ 501 0 0) a1 r → K (vI r) σ'
  | _ => False
def VE_Wr_abel (a1 : Int) (σ : SS) (K : AV → SS → Prop) : Prop :=
  (S_Rp_abelianSquares [vR 4 0] σ (kR 7 fun i1 σ1 =>
    (S_Ta_told [vR 7 i1, vI a1] σ1 (kI fun r2 σ2 =>
      (K (vI r2) σ2)))))
theorem e_Wr_abel (a1 : Int) (σ : SS) (K : AV → SS → Prop) (ha1 : InR a1) (hs : okS σ) (hG : S_Wr_abel [vR 11 0, vI a1] σ K) : VE_Wr_abel a1 σ K := by
  unfold VE_Wr_abel
  obtain ⟨hT, hG⟩ := hG
  refine ⟨hT, fun σ' hq e1 e2 => ⟨rfl, ?_⟩⟩
  intro _ _ _ _
  exact hG σ' _ hq (RTal_of e1 e2)
theorem H_Wr_abel {d : Nat} (hd : 4 ≤ d) : Holds d I_Wr_abel S_Wr_abel := by
  refine holds_of (d' := d - 1) (rt := 1) (cal := [(I_Rp_abelianSquares, S_Rp_abelianSquares), (I_Ta_told, S_Ta_told)]) (C := C_Wr_abel) m_Wr_abel o_Wr_abel rfl rfl (by omega) ?_ ?_
  · intro x hx
    simp only [List.mem_cons, List.not_mem_nil, or_false] at hx
    rcases hx with rfl | rfl
    · exact H_Rp_abelianSquares (by omega)
    · exact H_Ta_told (by omega)
  · intro as σ K has hσ hG
    have hG2 := hG
    unfold S_Wr_abel at hG2
    split at hG2
    · next a1 =>
      refine ⟨Nat.le_of_ble_eq_true rfl, (fun _ => none), ?_, 1000, ?_⟩
      · intro k n z L σ' hk hL hs hP
        cases hk
      · exact e_Wr_abel a1 σ K (has _ (List.mem_of_getElem? (i := 1) rfl)) hσ hG
    · exact hG2.elim
