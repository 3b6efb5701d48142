/-! ACTS: words as values, the past, the class -/
def nW (w : Int → Int) (n : Int) : (Int → Int) × Int := (atW w n, n)
theorem nW_congr {u w : Int → Int} {n : Int} (h : ∀ x, 0 ≤ x → x < n → u x = w x) : nW u n = nW w n := by
  have e : atW u n = atW w n := by
    funext x
    unfold atW
    split
    · next c => exact h x c.1 c.2
    · rfl
  unfold nW
  rw [e]
theorem nW_at {w : Int → Int} {n : Int} : nW (atW w n) n = nW w n := nW_congr (fun x x0 x1 => atW_in x0 x1)
def wPr (σ : SS) (i : Nat) : (Int → Int) × Int := nW (σ 20 i) (σ 501 i 0)
theorem wPr_fr {σ σ' : SS} {i : Nat} (h1 : σ' 20 i = σ 20 i) (h2 : σ' 501 i = σ 501 i) : wPr σ' i = wPr σ i := by
  unfold wPr
  rw [h1, h2]
theorem Wd_pr {σ : SS} {i : Nat} {w : Int → Int} {n : Int} (h : Wd σ i w n) : wPr σ i = nW w n := by
  unfold wPr
  rw [h.2.1]
  exact nW_congr (fun x x0 x1 => (h.2.2 x x0 x1).1)
theorem WI_fr {σ σ' : SS} {i : Nat} (h : WI σ i) (h1 : σ' 20 i = σ 20 i) (h2 : σ' 501 i = σ 501 i) : WI σ' i := by
  have := Wd_fr h h2 h1
  unfold WI
  rwa [h1, h2]
theorem WI_c {σ : SS} (h : WI σ 0) : Wd σ 0 (cW σ) (σ 501 0 0) := ⟨h.1, rfl, fun x x0 x1 => by rw [cW, atW_in x0 x1]; exact h.2.2 x x0 x1⟩
def PaL : List (Nat × Nat) := [(20, 4), (501, 4), (20, 5), (501, 5), (20, 6), (501, 6), (20, 7), (501, 7), (20, 8), (501, 8), (20, 9), (501, 9), (20, 10), (501, 10), (20, 11), (501, 11), (20, 12), (501, 12), (20, 13), (501, 13), (181, 0), (182, 0)]
theorem paL_m {j : Nat} (h : 4 ≤ j) (h2 : j < 14) : (20, j) ∈ PaL ∧ (501, j) ∈ PaL := by
  rcases (by omega : j = 4 ∨ j = 5 ∨ j = 6 ∨ j = 7 ∨ j = 8 ∨ j = 9 ∨ j = 10 ∨ j = 11 ∨ j = 12 ∨ j = 13) with rfl | rfl | rfl | rfl | rfl | rfl | rfl | rfl | rfl | rfl <;> simp [PaL]
theorem paL_n {j : Nat} (h : j < 4) : (20, j) ∉ PaL ∧ (501, j) ∉ PaL := by
  rcases (by omega : j = 0 ∨ j = 1 ∨ j = 2 ∨ j = 3) with rfl | rfl | rfl | rfl <;> simp [PaL]
def paI (σ : SS) (k : Int) : Nat := 4 + ((σ 181 0 0 - σ 182 0 0 + k) % 10).toNat
def paW (σ : SS) (k : Int) : (Int → Int) × Int := wPr σ (paI σ k)
def PaI (σ : SS) : Prop := (0 ≤ σ 181 0 0 ∧ σ 181 0 0 < 10) ∧ 0 ≤ σ 182 0 0 ∧ σ 182 0 0 ≤ 10
def WAll (σ : SS) : Prop := ∀ i, i < 14 → WI σ i
theorem paI_in {σ : SS} {k : Int} : 4 ≤ paI σ k ∧ paI σ k < 14 := by unfold paI; omega
theorem paW_fr {σ σ' : SS} {l : List (Nat × Nat)} (h : Fr l σ σ') (hl : ∀ j, 4 ≤ j → j < 14 → (20, j) ∉ l ∧ (501, j) ∉ l) (e1 : σ' 181 0 = σ 181 0) (e2 : σ' 182 0 = σ 182 0) : paW σ' = paW σ := by
  funext k
  have e : paI σ' k = paI σ k := by unfold paI; rw [e1, e2]
  have r := paI_in (σ := σ) (k := k)
  unfold paW
  rw [e]
  exact wPr_fr (h _ _ (hl _ r.1 r.2).1) (h _ _ (hl _ r.1 r.2).2)
/-- a word comes behind the last ones, of which ten are kept -/
def pushR (m m' : Int) (P P' : Int → (Int → Int) × Int) (v : (Int → Int) × Int) : Prop := m' = min (m + 1) 10 ∧ ∀ k, 0 ≤ k → k < m' → P' k = if k = m' - 1 then v else P (k + (m + 1 - m'))
theorem pa_add {σ σ1 σ2 σ3 : SS} {w1 : Nat} {p : Int} (hW : WAll σ) (hP : PaI σ) (f : Fr [(20, 4 + (σ 181 0 0).toNat), (501, 4 + (σ 181 0 0).toNat)] σ σ1) (g : Wd σ1 (4 + (σ 181 0 0).toNat) (σ 20 w1) (σ 501 w1 0)) (hp : p = (σ 181 0 0 + 1) % 10) (e2 : σ2 = u3 σ1 181 0 0 p) (e3 : σ3 = u3 σ2 182 0 0 (min (σ2 182 0 0 + 1) 10)) :
    Fr PaL σ σ3 ∧ PaI σ3 ∧ WAll σ3 ∧ pushR (σ 182 0 0) (σ3 182 0 0) (paW σ) (paW σ3) (wPr σ w1) := by
  obtain ⟨⟨p0, p1⟩, p2, p3⟩ := hP
  have ez : σ2 182 0 0 = σ 182 0 0 := by rw [e2, u3_f (by decide)]; exact congrFun (f 182 0 (by simp)) 0
  have z3 : σ3 182 0 0 = min (σ 182 0 0 + 1) 10 := by rw [e3, u3_s, ez]
  have y3 : σ3 181 0 0 = p := by rw [e3, u3_f (by decide), e2, u3_s]
  have l3 : ∀ i, σ3 20 i = σ1 20 i := fun i => by rw [e3, u3_F (by decide), e2, u3_F (by decide)]
  have s3 : ∀ i, σ3 501 i = σ1 501 i := fun i => by rw [e3, u3_F (by decide), e2, u3_F (by decide)]
  generalize ej : 4 + (σ 181 0 0).toNat = j at *
  have jm := paL_m (j := j) (by omega) (by omega)
  have go : ∀ i, i ≠ j → σ3 20 i = σ 20 i ∧ σ3 501 i = σ 501 i := fun i hi => ⟨(l3 i).trans (f _ _ (by simp; exact hi)), (s3 i).trans (f _ _ (by simp; exact hi))⟩
  have g3 : Wd σ3 j (σ 20 w1) (σ 501 w1 0) := Wd_fr g (s3 j) (l3 j)
  refine ⟨Fr_trans (Fr_mono f (by simp; exact jm)) (by rw [e3, e2]; exact Fr_trans (Fr_u3 (by simp [PaL])) (Fr_u3 (by simp [PaL]))), ⟨by omega, by omega⟩, fun i hi => ?_, z3, fun k k0 k1 => ?_⟩
  · by_cases c : i = j
    · rw [c]; exact Wd_WI g3
    · exact WI_fr (hW i hi) (go i c).1 (go i c).2
  · unfold paW
    split
    · next c =>
      have : paI σ3 k = j := by unfold paI; rw [y3, z3]; omega
      rw [this, Wd_pr g3]; rfl
    · next c =>
      have e : paI σ3 k = paI σ (k + (σ 182 0 0 + 1 - σ3 182 0 0)) := by unfold paI; rw [y3, z3]; omega
      have n : paI σ (k + (σ 182 0 0 + 1 - σ3 182 0 0)) ≠ j := by unfold paI; rw [z3]; omega
      rw [e]
      exact wPr_fr (go _ n).1 (go _ n).2
def PtL (w1 : Nat) : List (Nat × Nat) := [(20, w1), (501, w1), (181, 0), (182, 0)]
theorem pa_take {σ σ2 σ3 σ4 : SS} {w1 : Nat} {p : Int} (hw : w1 < 4) (hW : WAll σ) (hP : PaI σ) (hn : σ 182 0 0 ≠ 0) (hp : p = (σ 181 0 0 - 1) % 10) (e2 : σ2 = u3 σ 181 0 0 p) (e3 : σ3 = u3 σ2 182 0 0 (σ2 182 0 0 - 1)) (f : Fr [(20, w1), (501, w1)] σ3 σ4) (g : Wd σ4 w1 (σ3 20 (4 + (σ3 181 0 0).toNat)) (σ3 501 (4 + (σ3 181 0 0).toNat) 0)) :
    Fr (PtL w1) σ σ4 ∧ PaI σ4 ∧ WAll σ4 ∧ σ4 182 0 0 = σ 182 0 0 - 1 ∧ wPr σ4 w1 = paW σ (σ 182 0 0 - 1) ∧ ∀ k, 0 ≤ k → k < σ 182 0 0 - 1 → paW σ4 k = paW σ k := by
  obtain ⟨⟨p0, p1⟩, p2, p3⟩ := hP
  have y3 : σ3 181 0 0 = p := by rw [e3, u3_f (by decide), e2, u3_s]
  have z3 : σ3 182 0 0 = σ 182 0 0 - 1 := by rw [e3, u3_s, e2, u3_f (by decide)]
  have y4 : σ4 181 0 0 = p := by rw [f 181 0 (by simp), y3]
  have z4 : σ4 182 0 0 = σ 182 0 0 - 1 := by rw [f 182 0 (by simp), z3]
  have l3 : ∀ i, σ3 20 i = σ 20 i := fun i => by rw [e3, u3_F (by decide), e2, u3_F (by decide)]
  have s3 : ∀ i, σ3 501 i = σ 501 i := fun i => by rw [e3, u3_F (by decide), e2, u3_F (by decide)]
  have go : ∀ i, i ≠ w1 → σ4 20 i = σ 20 i ∧ σ4 501 i = σ 501 i := fun i hi => ⟨(f _ _ (by simp; exact hi)).trans (l3 i), (f _ _ (by simp; exact hi)).trans (s3 i)⟩
  have ei : ∀ k, paI σ4 k = paI σ k := fun k => by unfold paI; rw [y4, z4]; omega
  refine ⟨Fr_trans (by rw [e3, e2]; exact Fr_trans (Fr_u3 (by simp [PtL])) (Fr_u3 (by simp [PtL]))) (Fr_mono f (by simp [PtL])), ⟨by omega, by omega⟩, fun i hi => ?_, z4, ?_, fun k k0 k1 => ?_⟩
  · by_cases c : i = w1
    · rw [c]; exact Wd_WI g
    · exact WI_fr (hW i hi) (go i c).1 (go i c).2
  · rw [Wd_pr g, l3, s3, y3]
    unfold paW
    have : 4 + p.toNat = paI σ (σ 182 0 0 - 1) := by unfold paI; omega
    rw [this]; rfl
  · unfold paW
    rw [ei]
    have r := paI_in (σ := σ) (k := k)
    exact wPr_fr (go _ (by omega)).1 (go _ (by omega)).2
def ClR (σ : SS) : Prop := (σ 423 0 0 = 0 ∧ σ 143 0 0 = 0) ∧ σ 464 0 0 = 0 ∧ σ 553 0 0 = 0
/-- the class's state stands -/
def RepC (σ : SS) : Prop := (WAll σ ∧ PaI σ) ∧ TwC σ ∧ SdC σ ∧ OrC σ ∧ RnC σ
theorem ClR_rep {σ : SS} (h1 : WAll σ) (h2 : PaI σ) (h : ClR σ) : RepC σ := by
  obtain ⟨⟨c1, c2⟩, c3, c4⟩ := h
  exact ⟨⟨h1, h2⟩, ⟨h1 0 (by decide), fun z => absurd c1 z⟩, fun z => absurd c3 z, fun z => absurd c2 z, fun z => absurd c4 z⟩
def DrL : List (Nat × Nat) := [(20, 1), (501, 1)]
def RwL : List (Nat × Nat) := [(20, 0), (501, 0), (553, 0), (423, 0), (143, 0), (464, 0)]
def AcL : List (Nat × Nat) := PaL ++ (RwL ++ DrL)
theorem RepC_dr {σ σ' : SS} (h : RepC σ) (f : Fr DrL σ σ') (g : WI σ' 1) : RepC σ' := by
  obtain ⟨⟨h1, h2⟩, h3, h4, h5, h6⟩ := h
  have hc : cW σ' = cW σ := cW_fr (f _ _ (by simp [DrL])) (f _ _ (by simp [DrL]))
  have hn : σ' 501 0 = σ 501 0 := f _ _ (by simp [DrL])
  refine ⟨⟨fun i hi => ?_, ?_⟩, TwC_o h3 f (by simp [DrL]), ?_, ?_, ?_⟩
  · by_cases c : i = 1
    · rw [c]; exact g
    · exact WI_fr (h1 i hi) (f _ _ (by simp [DrL]; exact c)) (f _ _ (by simp [DrL]; exact c))
  · unfold PaI
    rw [f 181 0 (by simp [DrL]), f 182 0 (by simp [DrL])]
    exact h2
  · unfold SdC SdV
    rw [hc, hn, f 464 0 (by simp [DrL]), f 31 0 (by simp [DrL]), f 463 0 (by simp [DrL])]
    exact h4
  · unfold OrC OrV
    rw [hc, hn, f 143 0 (by simp [DrL]), f 34 0 (by simp [DrL])]
    exact h5
  · unfold RnC RnV
    rw [hc, hn, f 553 0 (by simp [DrL]), f 303 0 (by simp [DrL]), f 35 0 (by simp [DrL]), f 36 0 (by simp [DrL]), f 37 0 (by simp [DrL])]
    exact h6
def ActD (σ σ' : SS) (o : Option ((Int → Int) × Int)) : Prop := RepC σ' ∧ Fr AcL σ σ' ∧ (o = none → wPr σ' 0 = wPr σ 0 ∧ σ' 182 0 0 = σ 182 0 0 ∧ paW σ' = paW σ) ∧ (∀ v, o = some v → wPr σ' 0 = v ∧ pushR (σ 182 0 0) (σ' 182 0 0) (paW σ) (paW σ') (wPr σ 0))
theorem ActD_n {σ : SS} (h : RepC σ) : ActD σ σ none := ⟨h, Fr_refl, fun _ => ⟨rfl, rfl, rfl⟩, fun v z => by cases z⟩
theorem dr_keep {σ σ' : SS} (f : Fr DrL σ σ') : wPr σ' 0 = wPr σ 0 ∧ σ' 182 0 0 = σ 182 0 0 ∧ paW σ' = paW σ ∧ cW σ' = cW σ ∧ σ' 501 0 0 = σ 501 0 0 := by
  have e1 : σ' 20 0 = σ 20 0 := f _ _ (by simp [DrL])
  have e2 : σ' 501 0 = σ 501 0 := f _ _ (by simp [DrL])
  have e3 : σ' 181 0 = σ 181 0 := f _ _ (by simp [DrL])
  have e4 : σ' 182 0 = σ 182 0 := f _ _ (by simp [DrL])
  exact ⟨wPr_fr e1 e2, by rw [e4], paW_fr f (fun j h1 h2 => by simp [DrL]; omega) e3 e4, cW_fr e1 e2, by rw [e2]⟩
theorem ActD_dr {σ σ1 σ' : SS} {o : Option ((Int → Int) × Int)} (f : Fr DrL σ σ1) (h : ActD σ1 σ' o) : ActD σ σ' o := by
  obtain ⟨h1, h2, h3, h4⟩ := h
  obtain ⟨k1, k2, k3, k4, k5⟩ := dr_keep f
  rw [k1, k2, k3] at h3
  rw [k1, k2, k3] at h4
  exact ⟨h1, Fr_trans (Fr_mono f (by simp [AcL, DrL])) h2, h3, h4⟩
def S_Pa_size : GS := fun as σ K => match as with
  | [some (.inr (.inr (2, 0)))] => K (vI (σ 182 0 0)) σ
  | _ => False
def VE_Pa_size (σ : SS) (K : AV → SS → Prop) : Prop :=
  (K (vI (σ 182 0 0)) σ)
theorem e_Pa_size (σ : SS) (K : AV → SS → Prop) (hs : okS σ) (hG : S_Pa_size [vR 2 0] σ K) : VE_Pa_size σ K := by
  unfold VE_Pa_size
  exact hG
theorem H_Pa_size {d : Nat} (hd : 1 ≤ d) : Holds d I_Pa_size S_Pa_size := by
  refine holds_of (d' := d - 1) (rt := 1) (cal := []) (C := C_Pa_size) m_Pa_size o_Pa_size rfl rfl (by omega) ?_ ?_
  · intro x hx
    cases hx
  · intro as σ K has hσ hG
    have hG2 := hG
    unfold S_Pa_size at hG2
    split at hG2
    · skip
      refine ⟨Nat.le_of_ble_eq_true rfl, (fun _ => none), ?_, 1000, ?_⟩
      · intro k n z L σ' hk hL hs hP
        cases hk
      · exact e_Pa_size σ K  hσ hG
    · exact hG2.elim
def S_Pa_clear : GS := fun as σ K => match as with
  | [some (.inr (.inr (2, 0)))] => K none (u3 σ 182 0 0 0)
  | _ => False
def VE_Pa_clear (σ : SS) (K : AV → SS → Prop) : Prop :=
  (∀ σ1 : SS, σ1 = u3 σ 182 0 0 0 →
  (K none σ1))
theorem e_Pa_clear (σ : SS) (K : AV → SS → Prop) (hs : okS σ) (hG : S_Pa_clear [vR 2 0] σ K) : VE_Pa_clear σ K := by
  unfold VE_Pa_clear
  refine fun σ1 e1 => ?_
  rw [e1]
  exact hG
theorem H_Pa_clear {d : Nat} (hd : 1 ≤ d) : Holds d I_Pa_clear S_Pa_clear := by
  refine holds_of (d' := d - 1) (rt := 0) (cal := []) (C := C_Pa_clear) m_Pa_clear o_Pa_clear rfl rfl (by omega) ?_ ?_
  · intro x hx
    cases hx
  · intro as σ K has hσ hG
    have hG2 := hG
    unfold S_Pa_clear at hG2
    split at hG2
    · skip
      refine ⟨Nat.le_of_ble_eq_true rfl, (fun _ => none), ?_, 1000, ?_⟩
      · intro k n z L σ' hk hL hs hP
        cases hk
      · exact e_Pa_clear σ K  hσ hG
    · exact hG2.elim
def S_Pa_add : GS := fun as σ K => match as with
  | [some (.inr (.inr (2, 0))), some (.inr (.inr (10, w1)))] => (w1 < 4 ∧ WAll σ ∧ PaI σ) ∧ ∀ σ', Fr PaL σ σ' → PaI σ' → WAll σ' → pushR (σ 182 0 0) (σ' 182 0 0) (paW σ) (paW σ') (wPr σ w1) → K none σ'
  | _ => False
def VE_Pa_add (w1 : Nat) (σ : SS) (K : AV → SS → Prop) : Prop :=
  ((0 ≤ (σ 181 0 0 : Int) ∧ (σ 181 0 0 : Int) < 10) ∧
  (S_Wo_copy [vR 10 (4 + (σ 181 0 0 : Int).toNat), vR 10 w1] σ (kV fun σ1 =>
    (InR ((σ1 181 0 0) + 1) ∧
    (((10 : Int) ≤ ((σ1 181 0 0) + 1) →
      (∀ σ2 : SS, σ2 = u3 σ1 181 0 0 0 →
      (InR ((σ2 182 0 0) + 1) ∧
      (∀ σ3 : SS, σ3 = u3 σ2 182 0 0 (min ((σ2 182 0 0) + 1) 10) →
      (K none σ3))))) ∧
    (((σ1 181 0 0) + 1) < 10 →
      (InR ((σ1 181 0 0) + 1) ∧
      (∀ σ4 : SS, σ4 = u3 σ1 181 0 0 ((σ1 181 0 0) + 1) →
      (InR ((σ4 182 0 0) + 1) ∧
      (∀ σ5 : SS, σ5 = u3 σ4 182 0 0 (min ((σ4 182 0 0) + 1) 10) →
      (K none σ5)))))))))))
theorem e_Pa_add (w1 : Nat) (σ : SS) (K : AV → SS → Prop) (hw1 : w1 < 14) (hs : okS σ) (hG : S_Pa_add [vR 2 0, vR 10 w1] σ K) : VE_Pa_add w1 σ K := by
  unfold VE_Pa_add
  obtain ⟨⟨hw, hW, hP⟩, hG⟩ := hG
  have hp := hP.1
  have hp2 := hP.2
  refine ⟨(by omega), ?_⟩
  refine ⟨(by first | omega | exact hW w1 (by omega)), ⟨(σ 20 w1), (σ 501 w1 0), (by first | omega | exact hW w1 (by omega)), (fun σ1 h1a h1b => ?_)⟩⟩
  intro _
  have f := h1a
  have g := h1b
  have ep : σ1 181 0 0 = σ 181 0 0 := congrFun (f 181 0 (by simp)) 0
  have es : σ1 182 0 0 = σ 182 0 0 := congrFun (f 182 0 (by simp)) 0
  refine ⟨(by omega), ?_⟩
  refine ⟨fun c2 => ?_, fun c2 => ?_⟩
  · skip
    refine fun σ3 e3 => ?_
    have k3 : σ3 182 0 0 = σ 182 0 0 := by rw [e3, u3_f (by decide), es]
    refine ⟨(by omega), ?_⟩
    refine fun σ4 e4 => ?_
    obtain ⟨t1, t2, t3, t4⟩ := pa_add hW hP f g (by omega) e3 e4
    exact hG _ t1 t2 t3 t4
  · skip
    refine ⟨(by omega), ?_⟩
    refine fun σ3 e3 => ?_
    have k3 : σ3 182 0 0 = σ 182 0 0 := by rw [e3, u3_f (by decide), es]
    refine ⟨(by omega), ?_⟩
    refine fun σ4 e4 => ?_
    obtain ⟨t1, t2, t3, t4⟩ := pa_add hW hP f g (by omega) e3 e4
    exact hG _ t1 t2 t3 t4
theorem H_Pa_add {d : Nat} (hd : 4 ≤ d) : Holds d I_Pa_add S_Pa_add := by
  refine holds_of (d' := d - 1) (rt := 0) (cal := [(I_Wo_copy, S_Wo_copy)]) (C := C_Pa_add) m_Pa_add o_Pa_add rfl rfl (by omega) ?_ ?_
  · intro x hx
    simp only [List.mem_cons, List.not_mem_nil, or_false] at hx
    subst hx
    exact H_Wo_copy (by omega)
  · intro as σ K has hσ hG
    have hG2 := hG
    unfold S_Pa_add at hG2
    split at hG2
    · next w1 =>
      refine ⟨Nat.le_of_ble_eq_true rfl, (fun _ => none), ?_, 1000, ?_⟩
      · intro k n z L σ' hk hL hs hP
        cases hk
      · exact e_Pa_add w1 σ K (has _ (List.mem_of_getElem? (i := 1) rfl)) hσ hG
    · exact hG2.elim
def S_Pa_take : GS := fun as σ K => match as with
  | [some (.inr (.inr (2, 0))), some (.inr (.inr (10, w1)))] => (w1 < 4 ∧ WAll σ ∧ PaI σ) ∧ (σ 182 0 0 = 0 → K (vI 0) σ) ∧ (∀ σ', σ 182 0 0 ≠ 0 → Fr (PtL w1) σ σ' → PaI σ' → WAll σ' → σ' 182 0 0 = σ 182 0 0 - 1 → wPr σ' w1 = paW σ (σ 182 0 0 - 1) → (∀ k, 0 ≤ k → k < σ 182 0 0 - 1 → paW σ' k = paW σ k) → K (vI 1) σ')
  | _ => False
def VE_Pa_take (w1 : Nat) (σ : SS) (K : AV → SS → Prop) : Prop :=
  (((σ 182 0 0) ≠ 0 →
    (((σ 181 0 0) ≤ 0 →
      (∀ σ1 : SS, σ1 = u3 σ 181 0 0 9 →
      (InR ((σ1 182 0 0) - 1) ∧
      (∀ σ2 : SS, σ2 = u3 σ1 182 0 0 ((σ1 182 0 0) - 1) →
      ((0 ≤ (σ2 181 0 0 : Int) ∧ (σ2 181 0 0 : Int) < 10) ∧
      (S_Wo_copy [vR 10 w1, vR 10 (4 + (σ2 181 0 0 : Int).toNat)] σ2 (kV fun σ3 =>
        ((0 ≤ (1 : Int) ∧ (1 : Int) ≤ 1) ∧ K (vI 1) σ3)))))))) ∧
    ((0 : Int) < (σ 181 0 0) →
      (InR ((σ 181 0 0) - 1) ∧
      (∀ σ4 : SS, σ4 = u3 σ 181 0 0 ((σ 181 0 0) - 1) →
      (InR ((σ4 182 0 0) - 1) ∧
      (∀ σ5 : SS, σ5 = u3 σ4 182 0 0 ((σ4 182 0 0) - 1) →
      ((0 ≤ (σ5 181 0 0 : Int) ∧ (σ5 181 0 0 : Int) < 10) ∧
      (S_Wo_copy [vR 10 w1, vR 10 (4 + (σ5 181 0 0 : Int).toNat)] σ5 (kV fun σ6 =>
        ((0 ≤ (1 : Int) ∧ (1 : Int) ≤ 1) ∧ K (vI 1) σ6))))))))))) ∧
  ((σ 182 0 0) = 0 →
    ((0 ≤ (0 : Int) ∧ (0 : Int) ≤ 1) ∧ K (vI 0) σ)))
theorem e_Pa_take (w1 : Nat) (σ : SS) (K : AV → SS → Prop) (hw1 : w1 < 14) (hs : okS σ) (hG : S_Pa_take [vR 2 0, vR 10 w1] σ K) : VE_Pa_take w1 σ K := by
  unfold VE_Pa_take
  obtain ⟨⟨hw, hW, hP⟩, hG0, hG⟩ := hG
  have hp := hP.1
  have hp2 := hP.2
  refine ⟨fun c1 => ?_, fun c1 => ?_⟩
  · skip
    refine ⟨fun c2 => ?_, fun c2 => ?_⟩
    · skip
      refine fun σ3 e3 => ?_
      have k3 : σ3 182 0 0 = σ 182 0 0 := by rw [e3, u3_f (by decide)]
      have y3 : σ3 181 0 0 = (σ 181 0 0 - 1) % 10 := by rw [e3, u3_s]; omega
      refine ⟨(by omega), ?_⟩
      refine fun σ4 e4 => ?_
      have y4 : σ4 181 0 0 = (σ 181 0 0 - 1) % 10 := by rw [e4, u3_f (by decide), y3]
      refine ⟨(by omega), ?_⟩
      refine ⟨(by first | omega | exact WI_fr (hW _ (by omega)) (by rw [e4, u3_F (by decide), e3, u3_F (by decide)]) (by rw [e4, u3_F (by decide), e3, u3_F (by decide)])), ⟨(σ4 20 (4 + (σ4 181 0 0).toNat)), (σ4 501 (4 + (σ4 181 0 0).toNat) 0), (by first | omega | exact WI_fr (hW _ (by omega)) (by rw [e4, u3_F (by decide), e3, u3_F (by decide)]) (by rw [e4, u3_F (by decide), e3, u3_F (by decide)])), (fun σ5 h5a h5b => ?_)⟩⟩
      intro _
      obtain ⟨t1, t2, t3, t4, t5, t6⟩ := pa_take hw hW hP (by assumption) (by omega) e3 e4 h5a h5b
      exact ⟨by omega, hG _ (by assumption) t1 t2 t3 t4 t5 t6⟩
    · skip
      refine ⟨(by omega), ?_⟩
      refine fun σ3 e3 => ?_
      have k3 : σ3 182 0 0 = σ 182 0 0 := by rw [e3, u3_f (by decide)]
      have y3 : σ3 181 0 0 = (σ 181 0 0 - 1) % 10 := by rw [e3, u3_s]; omega
      refine ⟨(by omega), ?_⟩
      refine fun σ4 e4 => ?_
      have y4 : σ4 181 0 0 = (σ 181 0 0 - 1) % 10 := by rw [e4, u3_f (by decide), y3]
      refine ⟨(by omega), ?_⟩
      refine ⟨(by first | omega | exact WI_fr (hW _ (by omega)) (by rw [e4, u3_F (by decide), e3, u3_F (by decide)]) (by rw [e4, u3_F (by decide), e3, u3_F (by decide)])), ⟨(σ4 20 (4 + (σ4 181 0 0).toNat)), (σ4 501 (4 + (σ4 181 0 0).toNat) 0), (by first | omega | exact WI_fr (hW _ (by omega)) (by rw [e4, u3_F (by decide), e3, u3_F (by decide)]) (by rw [e4, u3_F (by decide), e3, u3_F (by decide)])), (fun σ5 h5a h5b => ?_)⟩⟩
      intro _
      obtain ⟨t1, t2, t3, t4, t5, t6⟩ := pa_take hw hW hP (by assumption) (by omega) e3 e4 h5a h5b
      exact ⟨by omega, hG _ (by assumption) t1 t2 t3 t4 t5 t6⟩
  · skip
    exact ⟨by omega, hG0 (by assumption)⟩
theorem H_Pa_take {d : Nat} (hd : 4 ≤ d) : Holds d I_Pa_take S_Pa_take := by
  refine holds_of (d' := d - 1) (rt := 2) (cal := [(I_Wo_copy, S_Wo_copy)]) (C := C_Pa_take) m_Pa_take o_Pa_take rfl rfl (by omega) ?_ ?_
  · intro x hx
    simp only [List.mem_cons, List.not_mem_nil, or_false] at hx
    subst hx
    exact H_Wo_copy (by omega)
  · intro as σ K has hσ hG
    have hG2 := hG
    unfold S_Pa_take at hG2
    split at hG2
    · next w1 =>
      refine ⟨Nat.le_of_ble_eq_true rfl, (fun _ => none), ?_, 1000, ?_⟩
      · intro k n z L σ' hk hL hs hP
        cases hk
      · exact e_Pa_take w1 σ K (has _ (List.mem_of_getElem? (i := 1) rfl)) hσ hG
    · exact hG2.elim
